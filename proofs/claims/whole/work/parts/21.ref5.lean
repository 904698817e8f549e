/-! ===== the reference: laws, ways home ===== -/
def LAWRR (x : Int32) (o : Bool) (y : Int32) (q : Bool) (nl : Nat) (aA aB : Nat → Nat) (aO aI : Nat → Bool) (r : Int32) (nl9 : Nat) (aA9 aB9 : Nat → Nat) (aO9 aI9 : Nat → Bool) : Prop :=
  (nl9 = nl ∧ aA9 = aA ∧ aB9 = aB ∧ aO9 = aO ∧ aI9 = aI ∧ ((okL x y = false ∧ r = -2) ∨ (okL x y = true ∧ nl = 12 ∧ r = -4))) ∨
  (∃ a b : Nat, a < 6 ∧ b < 6 ∧ x = nI a ∧ y = nI b ∧ okL x y = true ∧ nl < 12 ∧ r = nI nl ∧ nl9 = nl + 1 ∧ aA9 = va_up aA nl a ∧ aB9 = va_up aB nl b ∧ aO9 = va_up aO nl o ∧ aI9 = va_up aI nl q)
def REPRR (x : Int32) (nl : Nat) (aA aB : Nat → Nat) (aO aI : Nat → Bool) (r : Int32) (nl9 : Nat) (aA9 aB9 : Nat → Nat) (aO9 aI9 : Nat → Bool) : Prop :=
  (nl9 = nl ∧ aA9 = aA ∧ aB9 = aB ∧ aO9 = aO ∧ aI9 = aI ∧ bel x (nI nl) = false ∧ r = -2) ∨
  (∃ k : Nat, k < nl ∧ x = nI k ∧ r = nI 1 ∧ nl9 = nl - 1 ∧ (∀ j, aA9 j = if k ≤ j ∧ j < nl - 1 then aA (j + 1) else aA j) ∧ (∀ j, aB9 j = if k ≤ j ∧ j < nl - 1 then aB (j + 1) else aB j) ∧ (∀ j, aO9 j = if k ≤ j ∧ j < nl - 1 then aO (j + 1) else aO j) ∧ (∀ j, aI9 j = if k ≤ j ∧ j < nl - 1 then aI (j + 1) else aI j))
def bkO (aA aB : Nat → Nat) (aO aI : Nat → Bool) (o b st i : Nat) : Bool := (if aO i then o else b).testBit (aA i) && (decide (st.testBit (aB i) = aI i) || (o ||| b).testBit (aB i))
def bkR (aA aB : Nat → Nat) (aO aI : Nat → Bool) (o b st i : Nat) : Bool := fo (fun i s => s || bkO aA aB aO aI o b st i) false i
def mvR (aA aB : Nat → Nat) (aO aI : Nat → Bool) (nl st c : Nat) : Bool := !bkR aA aB aO aI (if st.testBit c then 0 else 1 <<< c) (if st.testBit c then 1 <<< c else 0) st nl
theorem b6_lt : ∀ c, c < 6 → 1 <<< c < 64 := by decide +kernel
set_option maxHeartbeats 4000000 in
set_option maxRecDepth 100000 in
theorem c_X6_law (l : Launch) (D : va_G) (cI cZ : ClassId) (mx : Nat) (m1 : Nat) (m2 : Nat) (m3 : Nat) (m4 : Nat) (m5 : Nat) (m6 : Nat) (m7 : Nat) (m8 : Nat) (m9 : Nat) (m10 : Nat) (n : Nat) (nl : Nat) (ct : Nat) (aA : Nat → Nat) (aO : Nat → Bool) (aB : Nat → Nat) (aI : Nat → Bool) (x : Int32) (o : Bool) (y : Int32) (q : Bool) (hnl : nl ≤ 12) (haA : ∀ k, aA k < 6) (haB : ∀ k, aB k < 6) : MI l D cI cZ yX6_law wsX6_law ({ frames := 2, cells := 0, slots := 0, locals := 42 }) [.ref mx, .int x, .int (bI o), .int y, .int (bI q)] [(mx, .inr (6, [.int (nI n), .ref m1, .ref m2, .ref m3, .ref m4, .int (nI nl), .ref m5, .ref m6, .ref m7, .ref m8, .ref m9, .int (nI ct), .ref m10])), (m5, .inl (cI, 12, .inl (iA aA))), (m6, .inl (cZ, 12, .inl (bA aO))), (m7, .inl (cI, 12, .inl (iA aB))), (m8, .inl (cZ, 12, .inl (bA aI)))] (fun r w => ∃ r9 : Int32, ∃ nl9 : Nat, ∃ aA9 : Nat → Nat, ∃ aB9 : Nat → Nat, ∃ aO9 : Nat → Bool, ∃ aI9 : Nat → Bool, (LAWRR x o y q nl aA aB aO aI r9 nl9 aA9 aB9 aO9 aI9) ∧ r = r9 ∧ w = [(mx, .inr (6, [.int (nI n), .ref m1, .ref m2, .ref m3, .ref m4, .int (nI nl9), .ref m5, .ref m6, .ref m7, .ref m8, .ref m9, .int (nI ct), .ref m10])), (m5, .inl (cI, 12, .inl (iA aA9))), (m6, .inl (cZ, 12, .inl (bA aO9))), (m7, .inl (cI, 12, .inl (iA aB9))), (m8, .inl (cZ, 12, .inl (bA aI9)))]) := by
  refine MI.of (cc := cX6_law) (maxL := 5) (ret := (some .int)) (own := RX6) (by decide) rfl rfl (Nat.le_of_ble_eq_true rfl) ?_
  intro pQ eQ s mQ args below meth cQ A X hw ls hl
  obtain ⟨⟨hx, hb, hml, hown, hts⟩, hr, hlk, hK, hN, hA⟩ := id X
  have hl : lv_has ls 5 [(0, .ref mx), (1, .int x), (2, .int (bI o)), (3, .int y), (4, .int (bI q))] := hl
  have n6 : ∀ w ∈ wsX60, w ∈ wsX6_law := by decide +kernel
  have f22 : FF args s RX6 wsX6_law 22 6 6 := ⟨_, rfl, by decide, n6, hts (.fieldLink RX6 22 "AirStepsModel" "lawA" "[I") (by decide +kernel)⟩
  have f25 : FF args s RX6 wsX6_law 25 6 7 := ⟨_, rfl, by decide, n6, hts (.fieldLink RX6 25 "AirStepsModel" "lawOut" "[Z") (by decide +kernel)⟩
  have f29 : FF args s RX6 wsX6_law 29 6 8 := ⟨_, rfl, by decide, n6, hts (.fieldLink RX6 29 "AirStepsModel" "lawB" "[I") (by decide +kernel)⟩
  have f32 : FF args s RX6 wsX6_law 32 6 9 := ⟨_, rfl, by decide, n6, hts (.fieldLink RX6 32 "AirStepsModel" "lawIsOut" "[Z") (by decide +kernel)⟩
  have f104 : FF args s RX6 wsX6_law 104 6 5 := ⟨_, rfl, by decide, n6, hts (.fieldLink RX6 104 "AirStepsModel" "laws" "I") (by decide +kernel)⟩
  have p104 : FP args s RX6 wsX6_law 104 6 5 := ⟨_, tyX6, rfl, by decide, n6, hts (.fieldLink RX6 104 "AirStepsModel" "laws" "I") (by decide +kernel), tyX6_ok, nmX6, rfl, by decide +kernel⟩
  refine lv_iload_n hx hb dX6_law_0 rfl (lv_at hl 1 rfl) ?_
  refine x_callS (As := [.int x]) (rest := []) X hw hl.1 (c_X6_isCylinder l D cI cZ x ) (va_cwS 1 hts gX6_law_X6_isCylinder rfl rfl rfl (by decide +kernel) ⟨Nat.le_of_ble_eq_true rfl, Nat.le_of_ble_eq_true rfl⟩) [] rfl rfl rfl (Nat.le_of_ble_eq_true rfl) dX6_law_1 (by decide) (fun r w1 H locs hp hw1 => ?_)
  obtain ⟨rfl, rfl⟩ := hp
  have hw : WD D A s.heap [(mx, .inr (6, [.int (nI n), .ref m1, .ref m2, .ref m3, .ref m4, .int (nI nl), .ref m5, .ref m6, .ref m7, .ref m8, .ref m9, .int (nI ct), .ref m10])), (m5, .inl (cI, 12, .inl (iA aA))), (m6, .inl (cZ, 12, .inl (bA aO))), (m7, .inl (cI, 12, .inl (iA aB))), (m8, .inl (cZ, 12, .inl (bA aI)))] H locs := hw1 rfl
  refine lv_if_eq (tgt := 19) hx hb dX6_law_4 (by decide) (fun c_4 => ?_) (fun c_4 => ?_)
  · skip
    rw [q_b0] at c_4; try simp only [Bool.not_eq_false, Bool.not_eq_true] at c_4
    refine lv_bipush (v := (-2)) hx hb dX6_law_19 (by decide) ?_
    exact x_iret X hw (⟨_, _, _, _, _, _, (Or.inl ⟨rfl, rfl, rfl, rfl, rfl, Or.inl ⟨by first | (simp [okL, c_16]; done) | (simp [okL, c_4]; done) | (simp [okL, c_11]; done), rfl⟩⟩), (rfl), rfl⟩) dX6_law_21
  · skip
    rw [q_b0] at c_4; try simp only [Bool.not_eq_false, Bool.not_eq_true] at c_4
    obtain ⟨a, ha, rfl⟩ := bel_t (by decide) c_4
    refine lv_iload_n hx hb dX6_law_7 rfl (lv_at hl 3 rfl) ?_
    refine x_callS (As := [.int y]) (rest := []) X hw hl.1 (c_X6_isCylinder l D cI cZ y ) (va_cwS 1 hts gX6_law_X6_isCylinder rfl rfl rfl (by decide +kernel) ⟨Nat.le_of_ble_eq_true rfl, Nat.le_of_ble_eq_true rfl⟩) [] rfl rfl rfl (Nat.le_of_ble_eq_true rfl) dX6_law_8 (by decide) (fun r w1 H locs hp hw1 => ?_)
    obtain ⟨rfl, rfl⟩ := hp
    have hw : WD D A s.heap [(mx, .inr (6, [.int (nI n), .ref m1, .ref m2, .ref m3, .ref m4, .int (nI nl), .ref m5, .ref m6, .ref m7, .ref m8, .ref m9, .int (nI ct), .ref m10])), (m5, .inl (cI, 12, .inl (iA aA))), (m6, .inl (cZ, 12, .inl (bA aO))), (m7, .inl (cI, 12, .inl (iA aB))), (m8, .inl (cZ, 12, .inl (bA aI)))] H locs := hw1 rfl
    refine lv_if_eq (tgt := 19) hx hb dX6_law_11 (by decide) (fun c_11 => ?_) (fun c_11 => ?_)
    · skip
      rw [q_b0] at c_11; try simp only [Bool.not_eq_false, Bool.not_eq_true] at c_11
      refine lv_bipush (v := (-2)) hx hb dX6_law_19 (by decide) ?_
      exact x_iret X hw (⟨_, _, _, _, _, _, (Or.inl ⟨rfl, rfl, rfl, rfl, rfl, Or.inl ⟨by first | (simp [okL, c_16]; done) | (simp [okL, c_4]; done) | (simp [okL, c_11]; done), rfl⟩⟩), (rfl), rfl⟩) dX6_law_21
    · skip
      rw [q_b0] at c_11; try simp only [Bool.not_eq_false, Bool.not_eq_true] at c_11
      obtain ⟨b, hb9, rfl⟩ := bel_t (by decide) c_11
      refine lv_iload_n hx hb dX6_law_14 rfl (lv_at hl 1 rfl) ?_
      refine lv_iload_n hx hb dX6_law_15 rfl (lv_at hl 3 rfl) ?_
      refine lv_icmp_ne (tgt := 22) hx hb dX6_law_16 (by decide) (fun c_16 => ?_) (fun c_16 => ?_)
      · skip
        rw [nI_eq (by omega) (by omega)] at c_16
        refine lv_aload_n hx hb dX6_law_22 rfl (lv_at hl 0 rfl) ?_
        refine x_get X hw f104 0 rfl rfl dX6_law_23 ?_
        refine lv_bipush (v := nI 12) hx hb dX6_law_26 (by decide) ?_
        refine lv_icmp_ne (tgt := 34) hx hb dX6_law_28 (by decide) (fun c_28 => ?_) (fun c_28 => ?_)
        · skip
          rw [nI_eq (by omega) (by omega)] at c_28
          refine lv_aload_n hx hb dX6_law_34 rfl (lv_at hl 0 rfl) ?_
          refine x_get X hw f22 0 rfl rfl dX6_law_35 ?_
          refine lv_aload_n hx hb dX6_law_38 rfl (lv_at hl 0 rfl) ?_
          refine x_get X hw f104 0 rfl rfl dX6_law_39 ?_
          refine lv_iload_n hx hb dX6_law_42 rfl (lv_at hl 1 rfl) ?_
          refine x_astN X hw 1 rfl (by omega) (by omega) dX6_law_43 (fun H locs hw => ?_)
          have hw : WD D A s.heap [(mx, .inr (6, [.int (nI n), .ref m1, .ref m2, .ref m3, .ref m4, .int (nI nl), .ref m5, .ref m6, .ref m7, .ref m8, .ref m9, .int (nI ct), .ref m10])), (m5, .inl (cI, 12, .inl (iA (va_up aA nl a)))), (m6, .inl (cZ, 12, .inl (bA aO))), (m7, .inl (cI, 12, .inl (iA aB))), (m8, .inl (cZ, 12, .inl (bA aI)))] H locs := hw
          refine lv_aload_n hx hb dX6_law_44 rfl (lv_at hl 0 rfl) ?_
          refine x_get X hw f25 0 rfl rfl dX6_law_45 ?_
          refine lv_aload_n hx hb dX6_law_48 rfl (lv_at hl 0 rfl) ?_
          refine x_get X hw f104 0 rfl rfl dX6_law_49 ?_
          refine lv_iload_n hx hb dX6_law_52 rfl (lv_at hl 2 rfl) ?_
          refine x_astB X hw 2 rfl (by omega) (by omega) dX6_law_53 (fun H locs hw => ?_)
          have hw : WD D A s.heap [(mx, .inr (6, [.int (nI n), .ref m1, .ref m2, .ref m3, .ref m4, .int (nI nl), .ref m5, .ref m6, .ref m7, .ref m8, .ref m9, .int (nI ct), .ref m10])), (m5, .inl (cI, 12, .inl (iA (va_up aA nl a)))), (m6, .inl (cZ, 12, .inl (bA (va_up aO nl o)))), (m7, .inl (cI, 12, .inl (iA aB))), (m8, .inl (cZ, 12, .inl (bA aI)))] H locs := hw
          refine lv_aload_n hx hb dX6_law_54 rfl (lv_at hl 0 rfl) ?_
          refine x_get X hw f29 0 rfl rfl dX6_law_55 ?_
          refine lv_aload_n hx hb dX6_law_58 rfl (lv_at hl 0 rfl) ?_
          refine x_get X hw f104 0 rfl rfl dX6_law_59 ?_
          refine lv_iload_n hx hb dX6_law_62 rfl (lv_at hl 3 rfl) ?_
          refine x_astN X hw 3 rfl (by omega) (by omega) dX6_law_63 (fun H locs hw => ?_)
          have hw : WD D A s.heap [(mx, .inr (6, [.int (nI n), .ref m1, .ref m2, .ref m3, .ref m4, .int (nI nl), .ref m5, .ref m6, .ref m7, .ref m8, .ref m9, .int (nI ct), .ref m10])), (m5, .inl (cI, 12, .inl (iA (va_up aA nl a)))), (m6, .inl (cZ, 12, .inl (bA (va_up aO nl o)))), (m7, .inl (cI, 12, .inl (iA (va_up aB nl b)))), (m8, .inl (cZ, 12, .inl (bA aI)))] H locs := hw
          refine lv_aload_n hx hb dX6_law_64 rfl (lv_at hl 0 rfl) ?_
          refine x_get X hw f32 0 rfl rfl dX6_law_65 ?_
          refine lv_aload_n hx hb dX6_law_68 rfl (lv_at hl 0 rfl) ?_
          refine x_get X hw f104 0 rfl rfl dX6_law_69 ?_
          refine lv_iload hx hb dX6_law_72 (lv_at hl 4 rfl) ?_
          refine x_astB X hw 4 rfl (by omega) (by omega) dX6_law_74 (fun H locs hw => ?_)
          have hw : WD D A s.heap [(mx, .inr (6, [.int (nI n), .ref m1, .ref m2, .ref m3, .ref m4, .int (nI nl), .ref m5, .ref m6, .ref m7, .ref m8, .ref m9, .int (nI ct), .ref m10])), (m5, .inl (cI, 12, .inl (iA (va_up aA nl a)))), (m6, .inl (cZ, 12, .inl (bA (va_up aO nl o)))), (m7, .inl (cI, 12, .inl (iA (va_up aB nl b)))), (m8, .inl (cZ, 12, .inl (bA (va_up aI nl q))))] H locs := hw
          refine lv_aload_n hx hb dX6_law_75 rfl (lv_at hl 0 rfl) ?_
          refine lv_dup hx hb dX6_law_76 rfl ?_
          refine x_get X hw f104 0 rfl rfl dX6_law_77 ?_
          refine lv_iconst (v := nI 1) hx hb dX6_law_80 (by decide) ?_
          refine lv_iadd hx hb dX6_law_81 ?_
          refine cv_i (show nI nl + nI 1 = nI (nl + 1) from nI_add nl 1) ?_
          refine x_put X hw p104 0 rfl (Nat.le_of_ble_eq_true rfl) dX6_law_82 (fun H locs hw => ?_)
          have hw : WD D A s.heap [(mx, .inr (6, [.int (nI n), .ref m1, .ref m2, .ref m3, .ref m4, .int (nI (nl + 1)), .ref m5, .ref m6, .ref m7, .ref m8, .ref m9, .int (nI ct), .ref m10])), (m5, .inl (cI, 12, .inl (iA (va_up aA nl a)))), (m6, .inl (cZ, 12, .inl (bA (va_up aO nl o)))), (m7, .inl (cI, 12, .inl (iA (va_up aB nl b)))), (m8, .inl (cZ, 12, .inl (bA (va_up aI nl q))))] H locs := hw
          refine lv_aload_n hx hb dX6_law_85 rfl (lv_at hl 0 rfl) ?_
          refine x_get X hw f104 0 rfl rfl dX6_law_86 ?_
          refine lv_iconst (v := nI 1) hx hb dX6_law_89 (by decide) ?_
          refine lv_isub hx hb dX6_law_90 ?_
          refine cv_i (show nI (nl + 1) - nI 1 = nI ((nl + 1) - 1) from pk_sub (by first | omega | assumption)) ?_
          exact x_iret X hw (⟨nI nl, _, _, _, _, _, (Or.inr ⟨a, b, ha, hb9, rfl, rfl, by simp [okL, c_4, c_11, nI_eq (show a < 2 ^ 31 by omega) (show b < 2 ^ 31 by omega), c_16], by omega, rfl, rfl, rfl, rfl, rfl, rfl⟩), (by rw [Nat.add_sub_cancel]), rfl⟩) dX6_law_91
        · skip
          rw [nI_eq (by omega) (by omega)] at c_28
          refine lv_bipush (v := (-4)) hx hb dX6_law_31 (by decide) ?_
          exact x_iret X hw (⟨_, _, _, _, _, _, (Or.inl ⟨rfl, rfl, rfl, rfl, rfl, Or.inr ⟨by simp [okL, c_4, c_11, nI_eq (show a < 2 ^ 31 by omega) (show b < 2 ^ 31 by omega), c_16], c_28, rfl⟩⟩), (rfl), rfl⟩) dX6_law_33
      · skip
        rw [nI_eq (by omega) (by omega)] at c_16
        refine lv_bipush (v := (-2)) hx hb dX6_law_19 (by decide) ?_
        exact x_iret X hw (⟨_, _, _, _, _, _, (Or.inl ⟨rfl, rfl, rfl, rfl, rfl, Or.inl ⟨by first | (simp [okL, c_16]; done) | (simp [okL, c_4]; done) | (simp [okL, c_11]; done), rfl⟩⟩), (rfl), rfl⟩) dX6_law_21
set_option maxHeartbeats 4000000 in
set_option maxRecDepth 100000 in
theorem c_X6_repeal (l : Launch) (D : va_G) (cI cZ : ClassId) (mx : Nat) (m1 : Nat) (m2 : Nat) (m3 : Nat) (m4 : Nat) (m5 : Nat) (m6 : Nat) (m7 : Nat) (m8 : Nat) (m9 : Nat) (m10 : Nat) (n : Nat) (nl : Nat) (ct : Nat) (aA : Nat → Nat) (aO : Nat → Bool) (aB : Nat → Nat) (aI : Nat → Bool) (x : Int32) (hnl : nl ≤ 12) (haA : ∀ k, aA k < 6) (haB : ∀ k, aB k < 6) : MI l D cI cZ yX6_repeal wsX6_repeal ({ frames := 1, cells := 0, slots := 0, locals := 22 }) [.ref mx, .int x] [(mx, .inr (6, [.int (nI n), .ref m1, .ref m2, .ref m3, .ref m4, .int (nI nl), .ref m5, .ref m6, .ref m7, .ref m8, .ref m9, .int (nI ct), .ref m10])), (m5, .inl (cI, 12, .inl (iA aA))), (m6, .inl (cZ, 12, .inl (bA aO))), (m7, .inl (cI, 12, .inl (iA aB))), (m8, .inl (cZ, 12, .inl (bA aI)))] (fun r w => ∃ r9 : Int32, ∃ nl9 : Nat, ∃ aA9 : Nat → Nat, ∃ aB9 : Nat → Nat, ∃ aO9 : Nat → Bool, ∃ aI9 : Nat → Bool, (REPRR x nl aA aB aO aI r9 nl9 aA9 aB9 aO9 aI9) ∧ r = r9 ∧ w = [(mx, .inr (6, [.int (nI n), .ref m1, .ref m2, .ref m3, .ref m4, .int (nI nl9), .ref m5, .ref m6, .ref m7, .ref m8, .ref m9, .int (nI ct), .ref m10])), (m5, .inl (cI, 12, .inl (iA aA9))), (m6, .inl (cZ, 12, .inl (bA aO9))), (m7, .inl (cI, 12, .inl (iA aB9))), (m8, .inl (cZ, 12, .inl (bA aI9)))]) := by
  refine MI.of (cc := cX6_repeal) (maxL := 3) (ret := (some .int)) (own := RX6) (by decide) rfl rfl (Nat.le_of_ble_eq_true rfl) ?_
  intro pQ eQ s mQ args below meth cQ A X hw ls hl
  obtain ⟨⟨hx, hb, hml, hown, hts⟩, hr, hlk, hK, hN, hA⟩ := id X
  have hl : lv_has ls 3 [(0, .ref mx), (1, .int x)] := hl
  have n6 : ∀ w ∈ wsX60, w ∈ wsX6_repeal := by decide +kernel
  have f22 : FF args s RX6 wsX6_repeal 22 6 6 := ⟨_, rfl, by decide, n6, hts (.fieldLink RX6 22 "AirStepsModel" "lawA" "[I") (by decide +kernel)⟩
  have f25 : FF args s RX6 wsX6_repeal 25 6 7 := ⟨_, rfl, by decide, n6, hts (.fieldLink RX6 25 "AirStepsModel" "lawOut" "[Z") (by decide +kernel)⟩
  have f29 : FF args s RX6 wsX6_repeal 29 6 8 := ⟨_, rfl, by decide, n6, hts (.fieldLink RX6 29 "AirStepsModel" "lawB" "[I") (by decide +kernel)⟩
  have f32 : FF args s RX6 wsX6_repeal 32 6 9 := ⟨_, rfl, by decide, n6, hts (.fieldLink RX6 32 "AirStepsModel" "lawIsOut" "[Z") (by decide +kernel)⟩
  have f104 : FF args s RX6 wsX6_repeal 104 6 5 := ⟨_, rfl, by decide, n6, hts (.fieldLink RX6 104 "AirStepsModel" "laws" "I") (by decide +kernel)⟩
  have p104 : FP args s RX6 wsX6_repeal 104 6 5 := ⟨_, tyX6, rfl, by decide, n6, hts (.fieldLink RX6 104 "AirStepsModel" "laws" "I") (by decide +kernel), tyX6_ok, nmX6, rfl, by decide +kernel⟩
  refine lv_iload_n hx hb dX6_repeal_0 rfl (lv_at hl 1 rfl) ?_
  refine lv_iconst (v := nI 0) hx hb dX6_repeal_1 (by decide) ?_
  refine lv_aload_n hx hb dX6_repeal_2 rfl (lv_at hl 0 rfl) ?_
  refine x_get X hw f104 0 rfl rfl dX6_repeal_3 ?_
  refine lv_iconst (v := nI 1) hx hb dX6_repeal_6 (by decide) ?_
  refine lv_isub hx hb dX6_repeal_7 ?_
  refine cv_i (show nI nl - nI 1 = mI nl from rfl) ?_
  refine x_callS (As := [.int x, .int (nI 0), .int (mI nl)]) (rest := []) X hw hl.1 (c_X6_in l D cI cZ x (nI 0) (mI nl) ) (va_cwS 3 hts gX6_repeal_X6_in rfl rfl rfl (by decide +kernel) ⟨Nat.le_of_ble_eq_true rfl, Nat.le_of_ble_eq_true rfl⟩) [] rfl rfl rfl (Nat.le_of_ble_eq_true rfl) dX6_repeal_8 (by decide) (fun r w1 H locs hp hw1 => ?_)
  obtain ⟨rfl, rfl⟩ := hp
  have hw : WD D A s.heap [(mx, .inr (6, [.int (nI n), .ref m1, .ref m2, .ref m3, .ref m4, .int (nI nl), .ref m5, .ref m6, .ref m7, .ref m8, .ref m9, .int (nI ct), .ref m10])), (m5, .inl (cI, 12, .inl (iA aA))), (m6, .inl (cZ, 12, .inl (bA aO))), (m7, .inl (cI, 12, .inl (iA aB))), (m8, .inl (cZ, 12, .inl (bA aI)))] H locs := hw1 rfl
  refine cv_i (show bI (inn x (nI 0) (mI nl)) = bI (bel x (nI nl)) from congrArg bI (inn_m x (by omega))) ?_
  refine lv_if_ne (tgt := 17) hx hb dX6_repeal_11 (by decide) (fun c_11 => ?_) (fun c_11 => ?_)
  · skip
    rw [q_b0] at c_11; try simp only [Bool.not_eq_false, Bool.not_eq_true] at c_11
    obtain ⟨k, hk, rfl⟩ := bel_t (by omega) c_11
    refine lv_aload_n hx hb dX6_repeal_17 rfl (lv_at hl 0 rfl) ?_
    refine lv_dup hx hb dX6_repeal_18 rfl ?_
    refine x_get X hw f104 0 rfl rfl dX6_repeal_19 ?_
    refine lv_iconst (v := nI 1) hx hb dX6_repeal_22 (by decide) ?_
    refine lv_isub hx hb dX6_repeal_23 ?_
    refine cv_i (show nI nl - nI 1 = nI (nl - 1) from pk_sub (by first | omega | assumption)) ?_
    refine x_put X hw p104 0 rfl (Nat.le_of_ble_eq_true rfl) dX6_repeal_24 (fun H locs hw => ?_)
    have hw : WD D A s.heap [(mx, .inr (6, [.int (nI n), .ref m1, .ref m2, .ref m3, .ref m4, .int (nI (nl - 1)), .ref m5, .ref m6, .ref m7, .ref m8, .ref m9, .int (nI ct), .ref m10])), (m5, .inl (cI, 12, .inl (iA aA))), (m6, .inl (cZ, 12, .inl (bA aO))), (m7, .inl (cI, 12, .inl (iA aB))), (m8, .inl (cZ, 12, .inl (bA aI)))] H locs := hw
    refine lv_iload_n hx hb dX6_repeal_27 rfl (lv_at hl 1 rfl) ?_
    refine lv_istore_n (lv' := [(2, .int (nI k)), (0, .ref mx), (1, .int (nI k))]) hx hb dX6_repeal_28 rfl hl (by decide) rfl (fun ls hl => ?_)
    refine wl (α := (Nat → Nat) × (Nat → Bool) × (Nat → Nat) × (Nat → Bool) × Nat) (nL := 3) (fun aQ => nl - aQ.2.2.2.2) (fun aQ => (k ≤ aQ.2.2.2.2) ∧ (aQ.2.2.2.2 ≤ nl - 1) ∧ (∀ j, aQ.1 j = if k ≤ j ∧ j < aQ.2.2.2.2 then aA (j + 1) else aA j) ∧ (∀ j, aQ.2.1 j = if k ≤ j ∧ j < aQ.2.2.2.2 then aO (j + 1) else aO j) ∧ (∀ j, aQ.2.2.1 j = if k ≤ j ∧ j < aQ.2.2.2.2 then aB (j + 1) else aB j) ∧ (∀ j, aQ.2.2.2.1 j = if k ≤ j ∧ j < aQ.2.2.2.2 then aI (j + 1) else aI j)) (fun aQ => [(mx, .inr (6, [.int (nI n), .ref m1, .ref m2, .ref m3, .ref m4, .int (nI (nl - 1)), .ref m5, .ref m6, .ref m7, .ref m8, .ref m9, .int (nI ct), .ref m10])), (m5, .inl (cI, 12, .inl (iA aQ.1))), (m6, .inl (cZ, 12, .inl (bA aQ.2.1))), (m7, .inl (cI, 12, .inl (iA aQ.2.2.1))), (m8, .inl (cZ, 12, .inl (bA aQ.2.2.2.1)))]) (fun aQ => [(2, .int (nI aQ.2.2.2.2)), (0, .ref mx), (1, .int (nI k))]) ?_ (aA, aO, aB, aI, k) ⟨(show k ≤ k from by omega), (show k ≤ nl - 1 from by omega), (show ∀ j, aA j = if k ≤ j ∧ j < k then aA (j + 1) else aA j from fun j => by rw [if_neg (by omega)]), (show ∀ j, aO j = if k ≤ j ∧ j < k then aO (j + 1) else aO j from fun j => by rw [if_neg (by omega)]), (show ∀ j, aB j = if k ≤ j ∧ j < k then aB (j + 1) else aB j from fun j => by rw [if_neg (by omega)]), (show ∀ j, aI j = if k ≤ j ∧ j < k then aI (j + 1) else aI j from fun j => by rw [if_neg (by omega)])⟩ _ _ _ hw (lv_sub hl [0, 1, 2] rfl)
    rintro ⟨f1, f2, f3, f4, i⟩ ⟨hi, hi2, h1, h2, h3, h4⟩ H locs ls hw hl ih_29
    have hi : k ≤ i := hi
    have hi2 : i ≤ nl - 1 := hi2
    have h1 : ∀ j, f1 j = if k ≤ j ∧ j < i then aA (j + 1) else aA j := h1
    have h2 : ∀ j, f2 j = if k ≤ j ∧ j < i then aO (j + 1) else aO j := h2
    have h3 : ∀ j, f3 j = if k ≤ j ∧ j < i then aB (j + 1) else aB j := h3
    have h4 : ∀ j, f4 j = if k ≤ j ∧ j < i then aI (j + 1) else aI j := h4
    have hw : WD D A s.heap [(mx, .inr (6, [.int (nI n), .ref m1, .ref m2, .ref m3, .ref m4, .int (nI (nl - 1)), .ref m5, .ref m6, .ref m7, .ref m8, .ref m9, .int (nI ct), .ref m10])), (m5, .inl (cI, 12, .inl (iA f1))), (m6, .inl (cZ, 12, .inl (bA f2))), (m7, .inl (cI, 12, .inl (iA f3))), (m8, .inl (cZ, 12, .inl (bA f4)))] H locs := hw
    have hl : lv_has ls 3 [(2, .int (nI i)), (0, .ref mx), (1, .int (nI k))] := hl
    refine lv_iload_n hx hb dX6_repeal_29 rfl (lv_at hl 0 rfl) ?_
    refine lv_aload_n hx hb dX6_repeal_30 rfl (lv_at hl 1 rfl) ?_
    refine x_get X hw f104 0 rfl rfl dX6_repeal_31 ?_
    refine lv_icmp_ge (tgt := 99) hx hb dX6_repeal_34 (by decide) (fun c_34 => ?_) (fun c_34 => ?_)
    · skip
      rw [nI_leI (by omega) (by omega)] at c_34
      refine lv_iconst (v := nI 1) hx hb dX6_repeal_99 (by decide) ?_
      exact x_iret X hw (⟨nI 1, (nl - 1), f1, f3, f2, f4, (Or.inr ⟨k, hk, rfl, rfl, rfl, by rw [show nl - 1 = i by omega]; exact h1, by rw [show nl - 1 = i by omega]; exact h3, by rw [show nl - 1 = i by omega]; exact h2, by rw [show nl - 1 = i by omega]; exact h4⟩), (rfl), rfl⟩) dX6_repeal_100
    · skip
      rw [nI_leI (by omega) (by omega)] at c_34
      refine lv_aload_n hx hb dX6_repeal_37 rfl (lv_at hl 1 rfl) ?_
      refine x_get X hw f22 0 rfl rfl dX6_repeal_38 ?_
      refine lv_iload_n hx hb dX6_repeal_41 rfl (lv_at hl 0 rfl) ?_
      refine lv_aload_n hx hb dX6_repeal_42 rfl (lv_at hl 1 rfl) ?_
      refine x_get X hw f22 0 rfl rfl dX6_repeal_43 ?_
      refine lv_iload_n hx hb dX6_repeal_46 rfl (lv_at hl 0 rfl) ?_
      refine lv_iconst (v := nI 1) hx hb dX6_repeal_47 (by decide) ?_
      refine lv_iadd hx hb dX6_repeal_48 ?_
      refine cv_i (show nI i + nI 1 = nI (i + 1) from nI_add i 1) ?_
      refine x_aldN X hw 1 rfl (by omega) (by omega) dX6_repeal_49 ?_
      refine x_astN X hw 1 rfl (by omega) (by omega) dX6_repeal_50 (fun H locs hw => ?_)
      have hw : WD D A s.heap [(mx, .inr (6, [.int (nI n), .ref m1, .ref m2, .ref m3, .ref m4, .int (nI (nl - 1)), .ref m5, .ref m6, .ref m7, .ref m8, .ref m9, .int (nI ct), .ref m10])), (m5, .inl (cI, 12, .inl (iA (va_up f1 i (f1 (i + 1)))))), (m6, .inl (cZ, 12, .inl (bA f2))), (m7, .inl (cI, 12, .inl (iA f3))), (m8, .inl (cZ, 12, .inl (bA f4)))] H locs := hw
      refine lv_aload_n hx hb dX6_repeal_51 rfl (lv_at hl 1 rfl) ?_
      refine x_get X hw f25 0 rfl rfl dX6_repeal_52 ?_
      refine lv_iload_n hx hb dX6_repeal_55 rfl (lv_at hl 0 rfl) ?_
      refine lv_aload_n hx hb dX6_repeal_56 rfl (lv_at hl 1 rfl) ?_
      refine x_get X hw f25 0 rfl rfl dX6_repeal_57 ?_
      refine lv_iload_n hx hb dX6_repeal_60 rfl (lv_at hl 0 rfl) ?_
      refine lv_iconst (v := nI 1) hx hb dX6_repeal_61 (by decide) ?_
      refine lv_iadd hx hb dX6_repeal_62 ?_
      refine cv_i (show nI i + nI 1 = nI (i + 1) from nI_add i 1) ?_
      refine x_aldB X hw 2 rfl (by omega) (by omega) dX6_repeal_63 ?_
      refine x_astB X hw 2 rfl (by omega) (by omega) dX6_repeal_64 (fun H locs hw => ?_)
      have hw : WD D A s.heap [(mx, .inr (6, [.int (nI n), .ref m1, .ref m2, .ref m3, .ref m4, .int (nI (nl - 1)), .ref m5, .ref m6, .ref m7, .ref m8, .ref m9, .int (nI ct), .ref m10])), (m5, .inl (cI, 12, .inl (iA (va_up f1 i (f1 (i + 1)))))), (m6, .inl (cZ, 12, .inl (bA (va_up f2 i (f2 (i + 1)))))), (m7, .inl (cI, 12, .inl (iA f3))), (m8, .inl (cZ, 12, .inl (bA f4)))] H locs := hw
      refine lv_aload_n hx hb dX6_repeal_65 rfl (lv_at hl 1 rfl) ?_
      refine x_get X hw f29 0 rfl rfl dX6_repeal_66 ?_
      refine lv_iload_n hx hb dX6_repeal_69 rfl (lv_at hl 0 rfl) ?_
      refine lv_aload_n hx hb dX6_repeal_70 rfl (lv_at hl 1 rfl) ?_
      refine x_get X hw f29 0 rfl rfl dX6_repeal_71 ?_
      refine lv_iload_n hx hb dX6_repeal_74 rfl (lv_at hl 0 rfl) ?_
      refine lv_iconst (v := nI 1) hx hb dX6_repeal_75 (by decide) ?_
      refine lv_iadd hx hb dX6_repeal_76 ?_
      refine cv_i (show nI i + nI 1 = nI (i + 1) from nI_add i 1) ?_
      refine x_aldN X hw 3 rfl (by omega) (by omega) dX6_repeal_77 ?_
      refine x_astN X hw 3 rfl (by omega) (by omega) dX6_repeal_78 (fun H locs hw => ?_)
      have hw : WD D A s.heap [(mx, .inr (6, [.int (nI n), .ref m1, .ref m2, .ref m3, .ref m4, .int (nI (nl - 1)), .ref m5, .ref m6, .ref m7, .ref m8, .ref m9, .int (nI ct), .ref m10])), (m5, .inl (cI, 12, .inl (iA (va_up f1 i (f1 (i + 1)))))), (m6, .inl (cZ, 12, .inl (bA (va_up f2 i (f2 (i + 1)))))), (m7, .inl (cI, 12, .inl (iA (va_up f3 i (f3 (i + 1)))))), (m8, .inl (cZ, 12, .inl (bA f4)))] H locs := hw
      refine lv_aload_n hx hb dX6_repeal_79 rfl (lv_at hl 1 rfl) ?_
      refine x_get X hw f32 0 rfl rfl dX6_repeal_80 ?_
      refine lv_iload_n hx hb dX6_repeal_83 rfl (lv_at hl 0 rfl) ?_
      refine lv_aload_n hx hb dX6_repeal_84 rfl (lv_at hl 1 rfl) ?_
      refine x_get X hw f32 0 rfl rfl dX6_repeal_85 ?_
      refine lv_iload_n hx hb dX6_repeal_88 rfl (lv_at hl 0 rfl) ?_
      refine lv_iconst (v := nI 1) hx hb dX6_repeal_89 (by decide) ?_
      refine lv_iadd hx hb dX6_repeal_90 ?_
      refine cv_i (show nI i + nI 1 = nI (i + 1) from nI_add i 1) ?_
      refine x_aldB X hw 4 rfl (by omega) (by omega) dX6_repeal_91 ?_
      refine x_astB X hw 4 rfl (by omega) (by omega) dX6_repeal_92 (fun H locs hw => ?_)
      have hw : WD D A s.heap [(mx, .inr (6, [.int (nI n), .ref m1, .ref m2, .ref m3, .ref m4, .int (nI (nl - 1)), .ref m5, .ref m6, .ref m7, .ref m8, .ref m9, .int (nI ct), .ref m10])), (m5, .inl (cI, 12, .inl (iA (va_up f1 i (f1 (i + 1)))))), (m6, .inl (cZ, 12, .inl (bA (va_up f2 i (f2 (i + 1)))))), (m7, .inl (cI, 12, .inl (iA (va_up f3 i (f3 (i + 1)))))), (m8, .inl (cZ, 12, .inl (bA (va_up f4 i (f4 (i + 1))))))] H locs := hw
      refine lv_iinc (v := nI (i + 1)) (lv' := [(2, .int (nI (i + 1))), (0, .ref mx), (1, .int (nI k))]) hx hb dX6_repeal_93 hl (k := 0) rfl (nI_add i 1) (by decide) rfl (fun ls hl => ?_)
      refine lv_goto (tgt := 29) hx hb dX6_repeal_96 (by decide) ?_
      exact ih_29 (va_up f1 i (f1 (i + 1)), va_up f2 i (f2 (i + 1)), va_up f3 i (f3 (i + 1)), va_up f4 i (f4 (i + 1)), i + 1) (by show nl - (i + 1) < nl - i; omega) ⟨(show k ≤ (i + 1) from by omega), (show (i + 1) ≤ nl - 1 from by omega), (show ∀ j, (va_up f1 i (f1 (i + 1))) j = if k ≤ j ∧ j < (i + 1) then aA (j + 1) else aA j from shl_step h1 hi), (show ∀ j, (va_up f2 i (f2 (i + 1))) j = if k ≤ j ∧ j < (i + 1) then aO (j + 1) else aO j from shl_step h2 hi), (show ∀ j, (va_up f3 i (f3 (i + 1))) j = if k ≤ j ∧ j < (i + 1) then aB (j + 1) else aB j from shl_step h3 hi), (show ∀ j, (va_up f4 i (f4 (i + 1))) j = if k ≤ j ∧ j < (i + 1) then aI (j + 1) else aI j from shl_step h4 hi)⟩ _ _ _ hw (lv_sub hl [0, 1, 2] rfl)
  · skip
    rw [q_b0] at c_11; try simp only [Bool.not_eq_false, Bool.not_eq_true] at c_11
    refine lv_bipush (v := (-2)) hx hb dX6_repeal_14 (by decide) ?_
    exact x_iret X hw (⟨(-2), nl, aA, aB, aO, aI, (Or.inl ⟨rfl, rfl, rfl, rfl, rfl, c_11, rfl⟩), (rfl), rfl⟩) dX6_repeal_16
set_option maxHeartbeats 4000000 in
set_option maxRecDepth 100000 in
theorem c_X6_breaks (l : Launch) (D : va_G) (cI cZ : ClassId) (mx : Nat) (m1 : Nat) (m2 : Nat) (m3 : Nat) (m4 : Nat) (m5 : Nat) (m6 : Nat) (m7 : Nat) (m8 : Nat) (m9 : Nat) (m10 : Nat) (n : Nat) (nl : Nat) (ct : Nat) (aA : Nat → Nat) (aO : Nat → Bool) (aB : Nat → Nat) (aI : Nat → Bool) (o : Nat) (b : Nat) (st : Nat) (hnl : nl ≤ 12) (haA : ∀ k, aA k < 6) (haB : ∀ k, aB k < 6) (ho : o < 64) (hb1 : b < 64) (hst1 : st < 64) : MI l D cI cZ yX6_breaks wsX6_breaks ({ frames := 0, cells := 0, slots := 0, locals := 0 }) [.ref mx, .int (nI o), .int (nI b), .int (nI st)] [(mx, .inr (6, [.int (nI n), .ref m1, .ref m2, .ref m3, .ref m4, .int (nI nl), .ref m5, .ref m6, .ref m7, .ref m8, .ref m9, .int (nI ct), .ref m10])), (m5, .inl (cI, 12, .inl (iA aA))), (m6, .inl (cZ, 12, .inl (bA aO))), (m7, .inl (cI, 12, .inl (iA aB))), (m8, .inl (cZ, 12, .inl (bA aI)))] (fun r w => r = (bI (bkR aA aB aO aI o b st nl)) ∧ w = [(mx, .inr (6, [.int (nI n), .ref m1, .ref m2, .ref m3, .ref m4, .int (nI nl), .ref m5, .ref m6, .ref m7, .ref m8, .ref m9, .int (nI ct), .ref m10])), (m5, .inl (cI, 12, .inl (iA aA))), (m6, .inl (cZ, 12, .inl (bA aO))), (m7, .inl (cI, 12, .inl (iA aB))), (m8, .inl (cZ, 12, .inl (bA aI)))]) := by
  refine MI.of (cc := cX6_breaks) (maxL := 9) (ret := (some .boolean)) (own := RX6) (by decide) rfl rfl (Nat.le_of_ble_eq_true rfl) ?_
  intro pQ eQ s mQ args below meth cQ A X hw ls hl
  obtain ⟨⟨hx, hb, hml, hown, hts⟩, hr, hlk, hK, hN, hA⟩ := id X
  have hl : lv_has ls 9 [(0, .ref mx), (1, .int (nI o)), (2, .int (nI b)), (3, .int (nI st))] := hl
  have n6 : ∀ w ∈ wsX60, w ∈ wsX6_breaks := by decide +kernel
  have f22 : FF args s RX6 wsX6_breaks 22 6 6 := ⟨_, rfl, by decide, n6, hts (.fieldLink RX6 22 "AirStepsModel" "lawA" "[I") (by decide +kernel)⟩
  have f25 : FF args s RX6 wsX6_breaks 25 6 7 := ⟨_, rfl, by decide, n6, hts (.fieldLink RX6 25 "AirStepsModel" "lawOut" "[Z") (by decide +kernel)⟩
  have f29 : FF args s RX6 wsX6_breaks 29 6 8 := ⟨_, rfl, by decide, n6, hts (.fieldLink RX6 29 "AirStepsModel" "lawB" "[I") (by decide +kernel)⟩
  have f32 : FF args s RX6 wsX6_breaks 32 6 9 := ⟨_, rfl, by decide, n6, hts (.fieldLink RX6 32 "AirStepsModel" "lawIsOut" "[Z") (by decide +kernel)⟩
  have f104 : FF args s RX6 wsX6_breaks 104 6 5 := ⟨_, rfl, by decide, n6, hts (.fieldLink RX6 104 "AirStepsModel" "laws" "I") (by decide +kernel)⟩
  refine lv_iconst (v := nI 0) hx hb dX6_breaks_0 (by decide) ?_
  refine lv_istore (lv' := [(4, .int (nI 0)), (0, .ref mx), (1, .int (nI o)), (2, .int (nI b)), (3, .int (nI st))]) hx hb dX6_breaks_1 hl (by decide) rfl (fun ls hl => ?_)
  refine lv_iconst (v := nI 0) hx hb dX6_breaks_3 (by decide) ?_
  refine lv_istore (lv' := [(5, .int (nI 0)), (4, .int (nI 0)), (0, .ref mx), (1, .int (nI o)), (2, .int (nI b)), (3, .int (nI st))]) hx hb dX6_breaks_4 hl (by decide) rfl (fun ls hl => ?_)
  refine wl (α := Bool × Nat) (nL := 9) (fun aQ => nl - aQ.2) (fun aQ => (aQ.2 ≤ nl) ∧ (aQ.1 = bkR aA aB aO aI o b st aQ.2)) (fun aQ => [(mx, .inr (6, [.int (nI n), .ref m1, .ref m2, .ref m3, .ref m4, .int (nI nl), .ref m5, .ref m6, .ref m7, .ref m8, .ref m9, .int (nI ct), .ref m10])), (m5, .inl (cI, 12, .inl (iA aA))), (m6, .inl (cZ, 12, .inl (bA aO))), (m7, .inl (cI, 12, .inl (iA aB))), (m8, .inl (cZ, 12, .inl (bA aI)))]) (fun aQ => [(5, .int (nI aQ.2)), (4, .int (bI aQ.1)), (0, .ref mx), (1, .int (nI o)), (2, .int (nI b)), (3, .int (nI st))]) ?_ (false, 0) ⟨(show 0 ≤ nl from by omega), (show false = bkR aA aB aO aI o b st 0 from rfl)⟩ _ _ _ hw (lv_sub hl [0, 1, 2, 3, 4, 5] rfl)
  rintro ⟨z, i⟩ ⟨hi, ha⟩ H locs ls hw hl ih_6
  have hi : i ≤ nl := hi
  have ha : z = bkR aA aB aO aI o b st i := ha
  have hw : WD D A s.heap [(mx, .inr (6, [.int (nI n), .ref m1, .ref m2, .ref m3, .ref m4, .int (nI nl), .ref m5, .ref m6, .ref m7, .ref m8, .ref m9, .int (nI ct), .ref m10])), (m5, .inl (cI, 12, .inl (iA aA))), (m6, .inl (cZ, 12, .inl (bA aO))), (m7, .inl (cI, 12, .inl (iA aB))), (m8, .inl (cZ, 12, .inl (bA aI)))] H locs := hw
  have hl : lv_has ls 9 [(5, .int (nI i)), (4, .int (bI z)), (0, .ref mx), (1, .int (nI o)), (2, .int (nI b)), (3, .int (nI st))] := hl
  have hai := haA i
  have hbi := haB i
  have hob : o ||| b < 64 := Nat.or_lt_two_pow (n := 6) ho hb1
  refine lv_iload hx hb dX6_breaks_6 (lv_at hl 0 rfl) ?_
  refine lv_aload_n hx hb dX6_breaks_8 rfl (lv_at hl 2 rfl) ?_
  refine x_get X hw f104 0 rfl rfl dX6_breaks_9 ?_
  refine lv_icmp_ge (tgt := 145) hx hb dX6_breaks_12 (by decide) (fun c_12 => ?_) (fun c_12 => ?_)
  · skip
    rw [nI_leI (by omega) (by omega)] at c_12
    refine lv_iload hx hb dX6_breaks_145 (lv_at hl 1 rfl) ?_
    exact x_zret X hw (⟨(by rw [ha, show i = nl by omega]), rfl⟩) dX6_breaks_147
  · skip
    rw [nI_leI (by omega) (by omega)] at c_12
    refine wj (α := Nat) (nL := 9) 30 (fun aQ => (aQ = if aO i then o else b) ∧ (aQ < 64)) (fun aQ => [(mx, .inr (6, [.int (nI n), .ref m1, .ref m2, .ref m3, .ref m4, .int (nI nl), .ref m5, .ref m6, .ref m7, .ref m8, .ref m9, .int (nI ct), .ref m10])), (m5, .inl (cI, 12, .inl (iA aA))), (m6, .inl (cZ, 12, .inl (bA aO))), (m7, .inl (cI, 12, .inl (iA aB))), (m8, .inl (cZ, 12, .inl (bA aI)))]) (fun aQ => [(5, .int (nI i)), (4, .int (bI z)), (0, .ref mx), (1, .int (nI o)), (2, .int (nI b)), (3, .int (nI st))]) (fun aQ => [.int (nI aQ)]) (D := D) (A := A) (H0 := s.heap) (fun J30 => ?_) ?_
    · skip
      refine lv_aload_n hx hb dX6_breaks_15 rfl (lv_at hl 2 rfl) ?_
      refine x_get X hw f25 0 rfl rfl dX6_breaks_16 ?_
      refine lv_iload hx hb dX6_breaks_19 (lv_at hl 0 rfl) ?_
      refine x_aldB X hw 2 rfl (by omega) (by omega) dX6_breaks_21 ?_
      refine lv_if_eq (tgt := 29) hx hb dX6_breaks_22 (by decide) (fun c_22 => ?_) (fun c_22 => ?_)
      · skip
        rw [q_b0] at c_22; try simp only [Bool.not_eq_false, Bool.not_eq_true] at c_22
        refine lv_iload_n hx hb dX6_breaks_29 rfl (lv_at hl 4 rfl) ?_
        exact J30 b ⟨(show b = if aO i then o else b from by simp [c_22]), (show b < 64 from by omega)⟩ _ _ _ hw (lv_sub hl [0, 1, 2, 3, 4, 5] rfl)
      · skip
        rw [q_b0] at c_22; try simp only [Bool.not_eq_false, Bool.not_eq_true] at c_22
        refine lv_iload_n hx hb dX6_breaks_25 rfl (lv_at hl 3 rfl) ?_
        refine lv_goto (tgt := 30) hx hb dX6_breaks_26 (by decide) ?_
        exact J30 o ⟨(show o = if aO i then o else b from by simp [c_22]), (show o < 64 from by omega)⟩ _ _ _ hw (lv_sub hl [0, 1, 2, 3, 4, 5] rfl)
    · rintro v ⟨hv, hv64⟩ H locs ls hw hl
      have hv : v = if aO i then o else b := hv
      have hv64 : v < 64 := hv64
      have hw : WD D A s.heap [(mx, .inr (6, [.int (nI n), .ref m1, .ref m2, .ref m3, .ref m4, .int (nI nl), .ref m5, .ref m6, .ref m7, .ref m8, .ref m9, .int (nI ct), .ref m10])), (m5, .inl (cI, 12, .inl (iA aA))), (m6, .inl (cZ, 12, .inl (bA aO))), (m7, .inl (cI, 12, .inl (iA aB))), (m8, .inl (cZ, 12, .inl (bA aI)))] H locs := hw
      have hl : lv_has ls 9 [(5, .int (nI i)), (4, .int (bI z)), (0, .ref mx), (1, .int (nI o)), (2, .int (nI b)), (3, .int (nI st))] := hl
      refine wj (α := Bool) (nL := 9) 49 (fun aQ => (aQ = v.testBit (aA i))) (fun aQ => [(mx, .inr (6, [.int (nI n), .ref m1, .ref m2, .ref m3, .ref m4, .int (nI nl), .ref m5, .ref m6, .ref m7, .ref m8, .ref m9, .int (nI ct), .ref m10])), (m5, .inl (cI, 12, .inl (iA aA))), (m6, .inl (cZ, 12, .inl (bA aO))), (m7, .inl (cI, 12, .inl (iA aB))), (m8, .inl (cZ, 12, .inl (bA aI)))]) (fun aQ => [(5, .int (nI i)), (4, .int (bI z)), (0, .ref mx), (1, .int (nI o)), (2, .int (nI b)), (3, .int (nI st))]) (fun aQ => [.int (bI aQ)]) (D := D) (A := A) (H0 := s.heap) (fun J49 => ?_) ?_
      · skip
        refine lv_aload_n hx hb dX6_breaks_30 rfl (lv_at hl 2 rfl) ?_
        refine x_get X hw f22 0 rfl rfl dX6_breaks_31 ?_
        refine lv_iload hx hb dX6_breaks_34 (lv_at hl 0 rfl) ?_
        refine x_aldN X hw 1 rfl (by omega) (by omega) dX6_breaks_36 ?_
        have hb_36 := haA i
        refine lv_ishr hx hb dX6_breaks_37 ?_
        refine cv_i (show (nI v) >>> (nI (aA i) &&& 31) = nI (v >>> (aA i)) from q_shr v (aA i) (by first | omega | assumption) (by first | omega | assumption)) ?_
        refine lv_iconst (v := nI 1) hx hb dX6_breaks_38 (by decide) ?_
        refine lv_iand hx hb dX6_breaks_39 ?_
        refine cv_i (show nI (v >>> (aA i)) &&& nI 1 = bI (v.testBit (aA i)) from q_bit v (aA i)) ?_
        refine lv_iconst (v := nI 1) hx hb dX6_breaks_40 (by decide) ?_
        refine lv_icmp_ne (tgt := 48) hx hb dX6_breaks_41 (by decide) (fun c_41 => ?_) (fun c_41 => ?_)
        · skip
          rw [q_b1] at c_41; try simp only [Bool.not_eq_false, Bool.not_eq_true] at c_41
          refine lv_iconst (v := nI 0) hx hb dX6_breaks_48 (by decide) ?_
          refine cv_i (show nI 0 = bI false from by decide) ?_
          exact J49 false (show false = v.testBit (aA i) from by rw [c_41]) _ _ _ hw (lv_sub hl [0, 1, 2, 3, 4, 5] rfl)
        · skip
          rw [q_b1] at c_41; try simp only [Bool.not_eq_false, Bool.not_eq_true] at c_41
          refine lv_iconst (v := nI 1) hx hb dX6_breaks_44 (by decide) ?_
          refine lv_goto (tgt := 49) hx hb dX6_breaks_45 (by decide) ?_
          refine cv_i (show nI 1 = bI true from by decide) ?_
          exact J49 true (show true = v.testBit (aA i) from by rw [c_41]) _ _ _ hw (lv_sub hl [0, 1, 2, 3, 4, 5] rfl)
      · rintro d1 h1 H locs ls hw hl
        have h1 : d1 = v.testBit (aA i) := h1
        have hw : WD D A s.heap [(mx, .inr (6, [.int (nI n), .ref m1, .ref m2, .ref m3, .ref m4, .int (nI nl), .ref m5, .ref m6, .ref m7, .ref m8, .ref m9, .int (nI ct), .ref m10])), (m5, .inl (cI, 12, .inl (iA aA))), (m6, .inl (cZ, 12, .inl (bA aO))), (m7, .inl (cI, 12, .inl (iA aB))), (m8, .inl (cZ, 12, .inl (bA aI)))] H locs := hw
        have hl : lv_has ls 9 [(5, .int (nI i)), (4, .int (bI z)), (0, .ref mx), (1, .int (nI o)), (2, .int (nI b)), (3, .int (nI st))] := hl
        refine lv_istore (lv' := [(6, .int (bI d1)), (5, .int (nI i)), (4, .int (bI z)), (0, .ref mx), (1, .int (nI o)), (2, .int (nI b)), (3, .int (nI st))]) hx hb dX6_breaks_49 hl (by decide) rfl (fun ls hl => ?_)
        refine wj (α := Bool) (nL := 9) 71 (fun aQ => (aQ = st.testBit (aB i))) (fun aQ => [(mx, .inr (6, [.int (nI n), .ref m1, .ref m2, .ref m3, .ref m4, .int (nI nl), .ref m5, .ref m6, .ref m7, .ref m8, .ref m9, .int (nI ct), .ref m10])), (m5, .inl (cI, 12, .inl (iA aA))), (m6, .inl (cZ, 12, .inl (bA aO))), (m7, .inl (cI, 12, .inl (iA aB))), (m8, .inl (cZ, 12, .inl (bA aI)))]) (fun aQ => [(6, .int (bI d1)), (5, .int (nI i)), (4, .int (bI z)), (0, .ref mx), (1, .int (nI o)), (2, .int (nI b)), (3, .int (nI st))]) (fun aQ => [.int (bI aQ)]) (D := D) (A := A) (H0 := s.heap) (fun J71 => ?_) ?_
        · skip
          refine lv_iload_n hx hb dX6_breaks_51 rfl (lv_at hl 6 rfl) ?_
          refine lv_aload_n hx hb dX6_breaks_52 rfl (lv_at hl 3 rfl) ?_
          refine x_get X hw f29 0 rfl rfl dX6_breaks_53 ?_
          refine lv_iload hx hb dX6_breaks_56 (lv_at hl 1 rfl) ?_
          refine x_aldN X hw 3 rfl (by omega) (by omega) dX6_breaks_58 ?_
          have hb_58 := haB i
          refine lv_ishr hx hb dX6_breaks_59 ?_
          refine cv_i (show (nI st) >>> (nI (aB i) &&& 31) = nI (st >>> (aB i)) from q_shr st (aB i) (by first | omega | assumption) (by first | omega | assumption)) ?_
          refine lv_iconst (v := nI 1) hx hb dX6_breaks_60 (by decide) ?_
          refine lv_iand hx hb dX6_breaks_61 ?_
          refine cv_i (show nI (st >>> (aB i)) &&& nI 1 = bI (st.testBit (aB i)) from q_bit st (aB i)) ?_
          refine lv_iconst (v := nI 1) hx hb dX6_breaks_62 (by decide) ?_
          refine lv_icmp_ne (tgt := 70) hx hb dX6_breaks_63 (by decide) (fun c_63 => ?_) (fun c_63 => ?_)
          · skip
            rw [q_b1] at c_63; try simp only [Bool.not_eq_false, Bool.not_eq_true] at c_63
            refine lv_iconst (v := nI 0) hx hb dX6_breaks_70 (by decide) ?_
            refine cv_i (show nI 0 = bI false from by decide) ?_
            exact J71 false (show false = st.testBit (aB i) from by rw [c_63]) _ _ _ hw (lv_sub hl [0, 1, 2, 3, 4, 5, 6] rfl)
          · skip
            rw [q_b1] at c_63; try simp only [Bool.not_eq_false, Bool.not_eq_true] at c_63
            refine lv_iconst (v := nI 1) hx hb dX6_breaks_66 (by decide) ?_
            refine lv_goto (tgt := 71) hx hb dX6_breaks_67 (by decide) ?_
            refine cv_i (show nI 1 = bI true from by decide) ?_
            exact J71 true (show true = st.testBit (aB i) from by rw [c_63]) _ _ _ hw (lv_sub hl [0, 1, 2, 3, 4, 5, 6] rfl)
        · rintro d2 h2 H locs ls hw hl
          have h2 : d2 = st.testBit (aB i) := h2
          have hw : WD D A s.heap [(mx, .inr (6, [.int (nI n), .ref m1, .ref m2, .ref m3, .ref m4, .int (nI nl), .ref m5, .ref m6, .ref m7, .ref m8, .ref m9, .int (nI ct), .ref m10])), (m5, .inl (cI, 12, .inl (iA aA))), (m6, .inl (cZ, 12, .inl (bA aO))), (m7, .inl (cI, 12, .inl (iA aB))), (m8, .inl (cZ, 12, .inl (bA aI)))] H locs := hw
          have hl : lv_has ls 9 [(6, .int (bI d1)), (5, .int (nI i)), (4, .int (bI z)), (0, .ref mx), (1, .int (nI o)), (2, .int (nI b)), (3, .int (nI st))] := hl
          refine wj (α := Bool) (nL := 9) 86 (fun aQ => (aQ = decide (d2 = aI i))) (fun aQ => [(mx, .inr (6, [.int (nI n), .ref m1, .ref m2, .ref m3, .ref m4, .int (nI nl), .ref m5, .ref m6, .ref m7, .ref m8, .ref m9, .int (nI ct), .ref m10])), (m5, .inl (cI, 12, .inl (iA aA))), (m6, .inl (cZ, 12, .inl (bA aO))), (m7, .inl (cI, 12, .inl (iA aB))), (m8, .inl (cZ, 12, .inl (bA aI)))]) (fun aQ => [(6, .int (bI d1)), (5, .int (nI i)), (4, .int (bI z)), (0, .ref mx), (1, .int (nI o)), (2, .int (nI b)), (3, .int (nI st))]) (fun aQ => [.int (bI aQ)]) (D := D) (A := A) (H0 := s.heap) (fun J86 => ?_) ?_
          · skip
            refine lv_aload_n hx hb dX6_breaks_71 rfl (lv_at hl 3 rfl) ?_
            refine x_get X hw f32 0 rfl rfl dX6_breaks_72 ?_
            refine lv_iload hx hb dX6_breaks_75 (lv_at hl 1 rfl) ?_
            refine x_aldB X hw 4 rfl (by omega) (by omega) dX6_breaks_77 ?_
            refine lv_icmp_ne (tgt := 85) hx hb dX6_breaks_78 (by decide) (fun c_78 => ?_) (fun c_78 => ?_)
            · skip
              rw [q_bb] at c_78; try simp only [Bool.not_eq_false, Bool.not_eq_true] at c_78
              refine lv_iconst (v := nI 0) hx hb dX6_breaks_85 (by decide) ?_
              refine cv_i (show nI 0 = bI false from by decide) ?_
              exact J86 false (show false = decide (d2 = aI i) from by simp [c_78]) _ _ _ hw (lv_sub hl [0, 1, 2, 3, 4, 5, 6] rfl)
            · skip
              rw [q_bb] at c_78; try simp only [Bool.not_eq_false, Bool.not_eq_true] at c_78
              refine lv_iconst (v := nI 1) hx hb dX6_breaks_81 (by decide) ?_
              refine lv_goto (tgt := 86) hx hb dX6_breaks_82 (by decide) ?_
              refine cv_i (show nI 1 = bI true from by decide) ?_
              exact J86 true (show true = decide (d2 = aI i) from by simp [c_78]) _ _ _ hw (lv_sub hl [0, 1, 2, 3, 4, 5, 6] rfl)
          · rintro d3 h3 H locs ls hw hl
            have h3 : d3 = decide (d2 = aI i) := h3
            have hw : WD D A s.heap [(mx, .inr (6, [.int (nI n), .ref m1, .ref m2, .ref m3, .ref m4, .int (nI nl), .ref m5, .ref m6, .ref m7, .ref m8, .ref m9, .int (nI ct), .ref m10])), (m5, .inl (cI, 12, .inl (iA aA))), (m6, .inl (cZ, 12, .inl (bA aO))), (m7, .inl (cI, 12, .inl (iA aB))), (m8, .inl (cZ, 12, .inl (bA aI)))] H locs := hw
            have hl : lv_has ls 9 [(6, .int (bI d1)), (5, .int (nI i)), (4, .int (bI z)), (0, .ref mx), (1, .int (nI o)), (2, .int (nI b)), (3, .int (nI st))] := hl
            refine lv_istore (lv' := [(7, .int (bI d3)), (6, .int (bI d1)), (5, .int (nI i)), (4, .int (bI z)), (0, .ref mx), (1, .int (nI o)), (2, .int (nI b)), (3, .int (nI st))]) hx hb dX6_breaks_86 hl (by decide) rfl (fun ls hl => ?_)
            refine wj (α := Bool) (nL := 9) 110 (fun aQ => (aQ = (o ||| b).testBit (aB i))) (fun aQ => [(mx, .inr (6, [.int (nI n), .ref m1, .ref m2, .ref m3, .ref m4, .int (nI nl), .ref m5, .ref m6, .ref m7, .ref m8, .ref m9, .int (nI ct), .ref m10])), (m5, .inl (cI, 12, .inl (iA aA))), (m6, .inl (cZ, 12, .inl (bA aO))), (m7, .inl (cI, 12, .inl (iA aB))), (m8, .inl (cZ, 12, .inl (bA aI)))]) (fun aQ => [(7, .int (bI d3)), (6, .int (bI d1)), (5, .int (nI i)), (4, .int (bI z)), (0, .ref mx), (1, .int (nI o)), (2, .int (nI b)), (3, .int (nI st))]) (fun aQ => [.int (bI aQ)]) (D := D) (A := A) (H0 := s.heap) (fun J110 => ?_) ?_
            · skip
              refine lv_iload_n hx hb dX6_breaks_88 rfl (lv_at hl 5 rfl) ?_
              refine lv_iload_n hx hb dX6_breaks_89 rfl (lv_at hl 6 rfl) ?_
              refine lv_ior hx hb dX6_breaks_90 ?_
              refine cv_i (show nI o ||| nI b = nI (o ||| b) from q_or o b) ?_
              refine lv_aload_n hx hb dX6_breaks_91 rfl (lv_at hl 4 rfl) ?_
              refine x_get X hw f29 0 rfl rfl dX6_breaks_92 ?_
              refine lv_iload hx hb dX6_breaks_95 (lv_at hl 2 rfl) ?_
              refine x_aldN X hw 3 rfl (by omega) (by omega) dX6_breaks_97 ?_
              have hb_97 := haB i
              refine lv_ishr hx hb dX6_breaks_98 ?_
              refine cv_i (show (nI (o ||| b)) >>> (nI (aB i) &&& 31) = nI ((o ||| b) >>> (aB i)) from q_shr (o ||| b) (aB i) (by first | omega | assumption) (by first | omega | assumption)) ?_
              refine lv_iconst (v := nI 1) hx hb dX6_breaks_99 (by decide) ?_
              refine lv_iand hx hb dX6_breaks_100 ?_
              refine cv_i (show nI ((o ||| b) >>> (aB i)) &&& nI 1 = bI ((o ||| b).testBit (aB i)) from q_bit (o ||| b) (aB i)) ?_
              refine lv_iconst (v := nI 1) hx hb dX6_breaks_101 (by decide) ?_
              refine lv_icmp_ne (tgt := 109) hx hb dX6_breaks_102 (by decide) (fun c_102 => ?_) (fun c_102 => ?_)
              · skip
                rw [q_b1] at c_102; try simp only [Bool.not_eq_false, Bool.not_eq_true] at c_102
                refine lv_iconst (v := nI 0) hx hb dX6_breaks_109 (by decide) ?_
                refine cv_i (show nI 0 = bI false from by decide) ?_
                exact J110 false (show false = (o ||| b).testBit (aB i) from by rw [c_102]) _ _ _ hw (lv_sub hl [0, 1, 2, 3, 4, 5, 6, 7] rfl)
              · skip
                rw [q_b1] at c_102; try simp only [Bool.not_eq_false, Bool.not_eq_true] at c_102
                refine lv_iconst (v := nI 1) hx hb dX6_breaks_105 (by decide) ?_
                refine lv_goto (tgt := 110) hx hb dX6_breaks_106 (by decide) ?_
                refine cv_i (show nI 1 = bI true from by decide) ?_
                exact J110 true (show true = (o ||| b).testBit (aB i) from by rw [c_102]) _ _ _ hw (lv_sub hl [0, 1, 2, 3, 4, 5, 6, 7] rfl)
            · rintro d4 h4 H locs ls hw hl
              have h4 : d4 = (o ||| b).testBit (aB i) := h4
              have hw : WD D A s.heap [(mx, .inr (6, [.int (nI n), .ref m1, .ref m2, .ref m3, .ref m4, .int (nI nl), .ref m5, .ref m6, .ref m7, .ref m8, .ref m9, .int (nI ct), .ref m10])), (m5, .inl (cI, 12, .inl (iA aA))), (m6, .inl (cZ, 12, .inl (bA aO))), (m7, .inl (cI, 12, .inl (iA aB))), (m8, .inl (cZ, 12, .inl (bA aI)))] H locs := hw
              have hl : lv_has ls 9 [(7, .int (bI d3)), (6, .int (bI d1)), (5, .int (nI i)), (4, .int (bI z)), (0, .ref mx), (1, .int (nI o)), (2, .int (nI b)), (3, .int (nI st))] := hl
              refine lv_istore (lv' := [(8, .int (bI d4)), (7, .int (bI d3)), (6, .int (bI d1)), (5, .int (nI i)), (4, .int (bI z)), (0, .ref mx), (1, .int (nI o)), (2, .int (nI b)), (3, .int (nI st))]) hx hb dX6_breaks_110 hl (by decide) rfl (fun ls hl => ?_)
              refine wj (α := Bool) (nL := 9) 137 (fun aQ => (aQ = (z || (d1 && (d3 || d4))))) (fun aQ => [(mx, .inr (6, [.int (nI n), .ref m1, .ref m2, .ref m3, .ref m4, .int (nI nl), .ref m5, .ref m6, .ref m7, .ref m8, .ref m9, .int (nI ct), .ref m10])), (m5, .inl (cI, 12, .inl (iA aA))), (m6, .inl (cZ, 12, .inl (bA aO))), (m7, .inl (cI, 12, .inl (iA aB))), (m8, .inl (cZ, 12, .inl (bA aI)))]) (fun aQ => [(8, .int (bI d4)), (7, .int (bI d3)), (6, .int (bI d1)), (5, .int (nI i)), (4, .int (bI z)), (0, .ref mx), (1, .int (nI o)), (2, .int (nI b)), (3, .int (nI st))]) (fun aQ => [.int (bI aQ)]) (D := D) (A := A) (H0 := s.heap) (fun J137 => ?_) ?_
              · skip
                refine lv_iload hx hb dX6_breaks_112 (lv_at hl 4 rfl) ?_
                refine lv_if_ne (tgt := 132) hx hb dX6_breaks_114 (by decide) (fun c_114 => ?_) (fun c_114 => ?_)
                · skip
                  rw [q_b0] at c_114; try simp only [Bool.not_eq_false, Bool.not_eq_true] at c_114
                  refine lv_iconst (v := nI 1) hx hb dX6_breaks_132 (by decide) ?_
                  refine lv_goto (tgt := 137) hx hb dX6_breaks_133 (by decide) ?_
                  refine cv_i (show nI 1 = bI true from by decide) ?_
                  exact J137 true (show true = (z || (d1 && (d3 || d4))) from by simp [c_114]) _ _ _ hw (lv_sub hl [0, 1, 2, 3, 4, 5, 6, 7, 8] rfl)
                · skip
                  rw [q_b0] at c_114; try simp only [Bool.not_eq_false, Bool.not_eq_true] at c_114
                  refine lv_iload hx hb dX6_breaks_117 (lv_at hl 2 rfl) ?_
                  refine lv_if_eq (tgt := 136) hx hb dX6_breaks_119 (by decide) (fun c_119 => ?_) (fun c_119 => ?_)
                  · skip
                    rw [q_b0] at c_119; try simp only [Bool.not_eq_false, Bool.not_eq_true] at c_119
                    refine lv_iconst (v := nI 0) hx hb dX6_breaks_136 (by decide) ?_
                    refine cv_i (show nI 0 = bI false from by decide) ?_
                    exact J137 false (show false = (z || (d1 && (d3 || d4))) from by simp [c_114, c_119]) _ _ _ hw (lv_sub hl [0, 1, 2, 3, 4, 5, 6, 7, 8] rfl)
                  · skip
                    rw [q_b0] at c_119; try simp only [Bool.not_eq_false, Bool.not_eq_true] at c_119
                    refine lv_iload hx hb dX6_breaks_122 (lv_at hl 1 rfl) ?_
                    refine lv_if_ne (tgt := 132) hx hb dX6_breaks_124 (by decide) (fun c_124 => ?_) (fun c_124 => ?_)
                    · skip
                      rw [q_b0] at c_124; try simp only [Bool.not_eq_false, Bool.not_eq_true] at c_124
                      refine lv_iconst (v := nI 1) hx hb dX6_breaks_132 (by decide) ?_
                      refine lv_goto (tgt := 137) hx hb dX6_breaks_133 (by decide) ?_
                      refine cv_i (show nI 1 = bI true from by decide) ?_
                      exact J137 true (show true = (z || (d1 && (d3 || d4))) from by simp [c_114, c_119, c_124]) _ _ _ hw (lv_sub hl [0, 1, 2, 3, 4, 5, 6, 7, 8] rfl)
                    · skip
                      rw [q_b0] at c_124; try simp only [Bool.not_eq_false, Bool.not_eq_true] at c_124
                      refine lv_iload hx hb dX6_breaks_127 (lv_at hl 0 rfl) ?_
                      refine lv_if_eq (tgt := 136) hx hb dX6_breaks_129 (by decide) (fun c_129 => ?_) (fun c_129 => ?_)
                      · skip
                        rw [q_b0] at c_129; try simp only [Bool.not_eq_false, Bool.not_eq_true] at c_129
                        refine lv_iconst (v := nI 0) hx hb dX6_breaks_136 (by decide) ?_
                        refine cv_i (show nI 0 = bI false from by decide) ?_
                        exact J137 false (show false = (z || (d1 && (d3 || d4))) from by simp [c_114, c_119, c_124, c_129]) _ _ _ hw (lv_sub hl [0, 1, 2, 3, 4, 5, 6, 7, 8] rfl)
                      · skip
                        rw [q_b0] at c_129; try simp only [Bool.not_eq_false, Bool.not_eq_true] at c_129
                        refine lv_iconst (v := nI 1) hx hb dX6_breaks_132 (by decide) ?_
                        refine lv_goto (tgt := 137) hx hb dX6_breaks_133 (by decide) ?_
                        refine cv_i (show nI 1 = bI true from by decide) ?_
                        exact J137 true (show true = (z || (d1 && (d3 || d4))) from by simp [c_114, c_119, c_124, c_129]) _ _ _ hw (lv_sub hl [0, 1, 2, 3, 4, 5, 6, 7, 8] rfl)
              · rintro d5 h5 H locs ls hw hl
                have h5 : d5 = (z || (d1 && (d3 || d4))) := h5
                have hw : WD D A s.heap [(mx, .inr (6, [.int (nI n), .ref m1, .ref m2, .ref m3, .ref m4, .int (nI nl), .ref m5, .ref m6, .ref m7, .ref m8, .ref m9, .int (nI ct), .ref m10])), (m5, .inl (cI, 12, .inl (iA aA))), (m6, .inl (cZ, 12, .inl (bA aO))), (m7, .inl (cI, 12, .inl (iA aB))), (m8, .inl (cZ, 12, .inl (bA aI)))] H locs := hw
                have hl : lv_has ls 9 [(8, .int (bI d4)), (7, .int (bI d3)), (6, .int (bI d1)), (5, .int (nI i)), (4, .int (bI z)), (0, .ref mx), (1, .int (nI o)), (2, .int (nI b)), (3, .int (nI st))] := hl
                refine lv_istore (lv' := [(4, .int (bI d5)), (8, .int (bI d4)), (7, .int (bI d3)), (6, .int (bI d1)), (5, .int (nI i)), (0, .ref mx), (1, .int (nI o)), (2, .int (nI b)), (3, .int (nI st))]) hx hb dX6_breaks_137 hl (by decide) rfl (fun ls hl => ?_)
                refine lv_iinc (v := nI (i + 1)) (lv' := [(5, .int (nI (i + 1))), (4, .int (bI d5)), (8, .int (bI d4)), (7, .int (bI d3)), (6, .int (bI d1)), (0, .ref mx), (1, .int (nI o)), (2, .int (nI b)), (3, .int (nI st))]) hx hb dX6_breaks_139 hl (k := 4) rfl (nI_add i 1) (by decide) rfl (fun ls hl => ?_)
                refine lv_goto (tgt := 6) hx hb dX6_breaks_142 (by decide) ?_
                exact ih_6 (d5, i + 1) (by show nl - (i + 1) < nl - i; omega) ⟨(show (i + 1) ≤ nl from by omega), (show d5 = bkR aA aB aO aI o b st (i + 1) from by rw [h5, ha, h1, h3, h4, hv, h2]; rfl)⟩ _ _ _ hw (lv_sub hl [0, 1, 5, 6, 7, 8] rfl)
set_option maxHeartbeats 4000000 in
set_option maxRecDepth 100000 in
theorem c_X6_breach (l : Launch) (D : va_G) (cI cZ : ClassId) (mx : Nat) (m1 : Nat) (m2 : Nat) (m3 : Nat) (m4 : Nat) (m5 : Nat) (m6 : Nat) (m7 : Nat) (m8 : Nat) (m9 : Nat) (m10 : Nat) (n : Nat) (nl : Nat) (ct : Nat) (oo : Nat → Nat) (ii : Nat → Nat) (ss : Nat → Nat) (aA : Nat → Nat) (aO : Nat → Bool) (aB : Nat → Nat) (aI : Nat → Bool) (hn : n ≤ 16) (hoo : ∀ k, oo k < 64) (hii : ∀ k, ii k < 64) (hss : ∀ k, ss k < 64) (hnl : nl ≤ 12) (haA : ∀ k, aA k < 6) (haB : ∀ k, aB k < 6) : MI l D cI cZ yX6_breach wsX6_breach ({ frames := 2, cells := 0, slots := 0, locals := 41 }) [.ref mx] [(mx, .inr (6, [.int (nI n), .ref m1, .ref m2, .ref m3, .ref m4, .int (nI nl), .ref m5, .ref m6, .ref m7, .ref m8, .ref m9, .int (nI ct), .ref m10])), (m1, .inl (cI, 16, .inl (iA oo))), (m2, .inl (cI, 16, .inl (iA ii))), (m9, .inl (cI, 17, .inl (iA ss))), (m5, .inl (cI, 12, .inl (iA aA))), (m6, .inl (cZ, 12, .inl (bA aO))), (m7, .inl (cI, 12, .inl (iA aB))), (m8, .inl (cZ, 12, .inl (bA aI)))] (fun r w => ∃ s9 : Nat → Nat, (∀ k, s9 k < 64) ∧ r = (gd1 (fwR oo ii n) (fsI (fun k => bkR aA aB aO aI (oo k) (ii k) (sst oo ii k) nl) n)) ∧ w = [(mx, .inr (6, [.int (nI n), .ref m1, .ref m2, .ref m3, .ref m4, .int (nI nl), .ref m5, .ref m6, .ref m7, .ref m8, .ref m9, .int (nI ct), .ref m10])), (m1, .inl (cI, 16, .inl (iA oo))), (m2, .inl (cI, 16, .inl (iA ii))), (m9, .inl (cI, 17, .inl (iA s9))), (m5, .inl (cI, 12, .inl (iA aA))), (m6, .inl (cZ, 12, .inl (bA aO))), (m7, .inl (cI, 12, .inl (iA aB))), (m8, .inl (cZ, 12, .inl (bA aI)))]) := by
  refine MI.of (cc := cX6_breach) (maxL := 2) (ret := (some .int)) (own := RX6) (by decide) rfl rfl (Nat.le_of_ble_eq_true rfl) ?_
  intro pQ eQ s mQ args below meth cQ A X hw ls hl
  obtain ⟨⟨hx, hb, hml, hown, hts⟩, hr, hlk, hK, hN, hA⟩ := id X
  have hl : lv_has ls 2 [(0, .ref mx)] := hl
  have n6 : ∀ w ∈ wsX60, w ∈ wsX6_breach := by decide +kernel
  have f7 : FF args s RX6 wsX6_breach 7 6 1 := ⟨_, rfl, by decide, n6, hts (.fieldLink RX6 7 "AirStepsModel" "outs" "[I") (by decide +kernel)⟩
  have f13 : FF args s RX6 wsX6_breach 13 6 2 := ⟨_, rfl, by decide, n6, hts (.fieldLink RX6 13 "AirStepsModel" "ins" "[I") (by decide +kernel)⟩
  have f35 : FF args s RX6 wsX6_breach 35 6 10 := ⟨_, rfl, by decide, n6, hts (.fieldLink RX6 35 "AirStepsModel" "states" "[I") (by decide +kernel)⟩
  have f45 : FF args s RX6 wsX6_breach 45 6 0 := ⟨_, rfl, by decide, n6, hts (.fieldLink RX6 45 "AirStepsModel" "n" "I") (by decide +kernel)⟩
  refine lv_aload_n hx hb dX6_breach_0 rfl (lv_at hl 0 rfl) ?_
  refine x_callV (As := []) (rest := []) X hw hl.1 (c_X6_isSound l D cI cZ mx m1 m2 m3 m4 m5 m6 m7 m8 m9 m10 n nl ct oo ii ss (by first | assumption | omega) (by first | assumption | omega) (by first | assumption | omega) (by first | assumption | omega)) (cwV 0 hts gX6_breach_X6_isSound rfl rfl rfl (by decide +kernel) ⟨Nat.le_of_ble_eq_true rfl, Nat.le_of_ble_eq_true rfl⟩) [0, 1, 2, 3] rfl rfl 0 rfl rfl rfl rfl (Nat.le_of_ble_eq_true rfl) dX6_breach_1 (by decide) (fun r w1 H locs hp hw1 => ?_)
  obtain ⟨s2, hs2, hb2, rfl, rfl⟩ := hp
  have hw : WD D A s.heap [(mx, .inr (6, [.int (nI n), .ref m1, .ref m2, .ref m3, .ref m4, .int (nI nl), .ref m5, .ref m6, .ref m7, .ref m8, .ref m9, .int (nI ct), .ref m10])), (m1, .inl (cI, 16, .inl (iA oo))), (m2, .inl (cI, 16, .inl (iA ii))), (m9, .inl (cI, 17, .inl (iA s2))), (m5, .inl (cI, 12, .inl (iA aA))), (m6, .inl (cZ, 12, .inl (bA aO))), (m7, .inl (cI, 12, .inl (iA aB))), (m8, .inl (cZ, 12, .inl (bA aI)))] H locs := hw1 rfl
  refine lv_if_ne (tgt := 10) hx hb dX6_breach_4 (by decide) (fun c_4 => ?_) (fun c_4 => ?_)
  · skip
    rw [q_b0] at c_4; try simp only [Bool.not_eq_false, Bool.not_eq_true] at c_4
    have hs := of_decide_eq_true c_4
    have hn0 := fwR_pos hs
    have hs3 := hs2 hs
    refine lv_iconst (v := nI 0) hx hb dX6_breach_10 (by decide) ?_
    refine lv_istore_n (lv' := [(1, .int (nI 0)), (0, .ref mx)]) hx hb dX6_breach_11 rfl hl (by decide) rfl (fun ls hl => ?_)
    refine wl (α := Nat) (nL := 2) (fun aQ => n - aQ) (fun aQ => (aQ ≤ n) ∧ (∀ j, j < aQ → bkR aA aB aO aI (oo j) (ii j) (sst oo ii j) nl = false)) (fun aQ => [(mx, .inr (6, [.int (nI n), .ref m1, .ref m2, .ref m3, .ref m4, .int (nI nl), .ref m5, .ref m6, .ref m7, .ref m8, .ref m9, .int (nI ct), .ref m10])), (m1, .inl (cI, 16, .inl (iA oo))), (m2, .inl (cI, 16, .inl (iA ii))), (m9, .inl (cI, 17, .inl (iA s2))), (m5, .inl (cI, 12, .inl (iA aA))), (m6, .inl (cZ, 12, .inl (bA aO))), (m7, .inl (cI, 12, .inl (iA aB))), (m8, .inl (cZ, 12, .inl (bA aI)))]) (fun aQ => [(1, .int (nI aQ)), (0, .ref mx)]) ?_ 0 ⟨(show 0 ≤ n from by omega), (show ∀ j, j < 0 → bkR aA aB aO aI (oo j) (ii j) (sst oo ii j) nl = false from fun j hj => absurd hj (Nat.not_lt_zero j))⟩ _ _ _ hw (lv_sub hl [0, 1] rfl)
    rintro i ⟨hi, hq⟩ H locs ls hw hl ih_12
    have hi : i ≤ n := hi
    have hq : ∀ j, j < i → bkR aA aB aO aI (oo j) (ii j) (sst oo ii j) nl = false := hq
    have hw : WD D A s.heap [(mx, .inr (6, [.int (nI n), .ref m1, .ref m2, .ref m3, .ref m4, .int (nI nl), .ref m5, .ref m6, .ref m7, .ref m8, .ref m9, .int (nI ct), .ref m10])), (m1, .inl (cI, 16, .inl (iA oo))), (m2, .inl (cI, 16, .inl (iA ii))), (m9, .inl (cI, 17, .inl (iA s2))), (m5, .inl (cI, 12, .inl (iA aA))), (m6, .inl (cZ, 12, .inl (bA aO))), (m7, .inl (cI, 12, .inl (iA aB))), (m8, .inl (cZ, 12, .inl (bA aI)))] H locs := hw
    have hl : lv_has ls 2 [(1, .int (nI i)), (0, .ref mx)] := hl
    refine lv_iload_n hx hb dX6_breach_12 rfl (lv_at hl 0 rfl) ?_
    refine lv_aload_n hx hb dX6_breach_13 rfl (lv_at hl 1 rfl) ?_
    refine x_get X hw f45 0 rfl rfl dX6_breach_14 ?_
    refine lv_icmp_ge (tgt := 53) hx hb dX6_breach_17 (by decide) (fun c_17 => ?_) (fun c_17 => ?_)
    · skip
      rw [nI_leI (by omega) (by omega)] at c_17
      refine lv_iconst (v := (-1)) hx hb dX6_breach_53 (by decide) ?_
      exact x_iret X hw (⟨s2, (hb2), (by rw [gd1_t hs, fsI_no (P := fun k => bkR aA aB aO aI (oo k) (ii k) (sst oo ii k) nl) (fun j hj => hq j (by omega))]), rfl⟩) dX6_breach_54
    · skip
      rw [nI_leI (by omega) (by omega)] at c_17
      refine lv_aload_n hx hb dX6_breach_20 rfl (lv_at hl 1 rfl) ?_
      refine lv_aload_n hx hb dX6_breach_21 rfl (lv_at hl 1 rfl) ?_
      refine x_get X hw f7 0 rfl rfl dX6_breach_22 ?_
      refine lv_iload_n hx hb dX6_breach_25 rfl (lv_at hl 0 rfl) ?_
      refine x_aldN X hw 1 rfl (by omega) (by omega) dX6_breach_26 ?_
      have hb_26 := hoo i
      refine lv_aload_n hx hb dX6_breach_27 rfl (lv_at hl 1 rfl) ?_
      refine x_get X hw f13 0 rfl rfl dX6_breach_28 ?_
      refine lv_iload_n hx hb dX6_breach_31 rfl (lv_at hl 0 rfl) ?_
      refine x_aldN X hw 2 rfl (by omega) (by omega) dX6_breach_32 ?_
      have hb_32 := hii i
      refine lv_aload_n hx hb dX6_breach_33 rfl (lv_at hl 1 rfl) ?_
      refine x_get X hw f35 0 rfl rfl dX6_breach_34 ?_
      refine lv_iload_n hx hb dX6_breach_37 rfl (lv_at hl 0 rfl) ?_
      refine x_aldN X hw 3 rfl (by omega) (by omega) dX6_breach_38 ?_
      have hb_38 := hb2 i
      refine x_callV (As := [.int (nI (oo i)), .int (nI (ii i)), .int (nI (s2 i))]) (rest := []) X hw hl.1 (c_X6_breaks l D cI cZ mx m1 m2 m3 m4 m5 m6 m7 m8 m9 m10 n nl ct aA aO aB aI (oo i) (ii i) (s2 i) (by first | assumption | omega) (by first | assumption | omega) (by first | assumption | omega) (hoo i) (hii i) (hb2 i)) (cwV 3 hts gX6_breach_X6_breaks rfl rfl rfl (by decide +kernel) ⟨Nat.le_of_ble_eq_true rfl, Nat.le_of_ble_eq_true rfl⟩) [0, 4, 5, 6, 7] rfl rfl 0 rfl rfl rfl rfl (Nat.le_of_ble_eq_true rfl) dX6_breach_39 (by decide) (fun r w1 H locs hp hw1 => ?_)
      obtain ⟨rfl, rfl⟩ := hp
      have hw : WD D A s.heap [(mx, .inr (6, [.int (nI n), .ref m1, .ref m2, .ref m3, .ref m4, .int (nI nl), .ref m5, .ref m6, .ref m7, .ref m8, .ref m9, .int (nI ct), .ref m10])), (m1, .inl (cI, 16, .inl (iA oo))), (m2, .inl (cI, 16, .inl (iA ii))), (m9, .inl (cI, 17, .inl (iA s2))), (m5, .inl (cI, 12, .inl (iA aA))), (m6, .inl (cZ, 12, .inl (bA aO))), (m7, .inl (cI, 12, .inl (iA aB))), (m8, .inl (cZ, 12, .inl (bA aI)))] H locs := hw1 rfl
      refine lv_if_eq (tgt := 47) hx hb dX6_breach_42 (by decide) (fun c_42 => ?_) (fun c_42 => ?_)
      · skip
        rw [q_b0] at c_42; try simp only [Bool.not_eq_false, Bool.not_eq_true] at c_42
        refine lv_iinc (v := nI (i + 1)) (lv' := [(1, .int (nI (i + 1))), (0, .ref mx)]) hx hb dX6_breach_47 hl (k := 0) rfl (nI_add i 1) (by decide) rfl (fun ls hl => ?_)
        refine lv_goto (tgt := 12) hx hb dX6_breach_50 (by decide) ?_
        exact ih_12 (i + 1) (by show n - (i + 1) < n - i; omega) ⟨(show (i + 1) ≤ n from by omega), (show ∀ j, j < (i + 1) → bkR aA aB aO aI (oo j) (ii j) (sst oo ii j) nl = false from lt_snoc (P := fun k => bkR aA aB aO aI (oo k) (ii k) (sst oo ii k) nl) hq (by rw [← hs3 i (by omega)]; exact c_42))⟩ _ _ _ hw (lv_sub hl [0, 1] rfl)
      · skip
        rw [q_b0] at c_42; try simp only [Bool.not_eq_false, Bool.not_eq_true] at c_42
        refine lv_iload_n hx hb dX6_breach_45 rfl (lv_at hl 0 rfl) ?_
        exact x_iret X hw (⟨s2, (hb2), (by rw [gd1_t hs, fsI_yes (P := fun k => bkR aA aB aO aI (oo k) (ii k) (sst oo ii k) nl) (k := i) (by omega) hq (by rw [← hs3 i (by omega)]; exact c_42)]), rfl⟩) dX6_breach_46
  · skip
    rw [q_b0] at c_4; try simp only [Bool.not_eq_false, Bool.not_eq_true] at c_4
    have hs := of_decide_eq_false c_4
    refine lv_bipush (v := (-3)) hx hb dX6_breach_7 (by decide) ?_
    exact x_iret X hw (⟨s2, (hb2), ((gd1_f hs).symm), rfl⟩) dX6_breach_9
set_option maxHeartbeats 4000000 in
set_option maxRecDepth 100000 in
theorem c_X6_mayMove (l : Launch) (D : va_G) (cI cZ : ClassId) (mx : Nat) (m1 : Nat) (m2 : Nat) (m3 : Nat) (m4 : Nat) (m5 : Nat) (m6 : Nat) (m7 : Nat) (m8 : Nat) (m9 : Nat) (m10 : Nat) (n : Nat) (nl : Nat) (ct : Nat) (aA : Nat → Nat) (aO : Nat → Bool) (aB : Nat → Nat) (aI : Nat → Bool) (st : Nat) (k : Nat) (hnl : nl ≤ 12) (haA : ∀ k, aA k < 6) (haB : ∀ k, aB k < 6) (hst1 : st < 64) (hk : k < 6) : MI l D cI cZ yX6_mayMove wsX6_mayMove ({ frames := 1, cells := 0, slots := 0, locals := 28 }) [.ref mx, .int (nI st), .int (nI k)] [(mx, .inr (6, [.int (nI n), .ref m1, .ref m2, .ref m3, .ref m4, .int (nI nl), .ref m5, .ref m6, .ref m7, .ref m8, .ref m9, .int (nI ct), .ref m10])), (m5, .inl (cI, 12, .inl (iA aA))), (m6, .inl (cZ, 12, .inl (bA aO))), (m7, .inl (cI, 12, .inl (iA aB))), (m8, .inl (cZ, 12, .inl (bA aI)))] (fun r w => r = (bI (mvR aA aB aO aI nl st k)) ∧ w = [(mx, .inr (6, [.int (nI n), .ref m1, .ref m2, .ref m3, .ref m4, .int (nI nl), .ref m5, .ref m6, .ref m7, .ref m8, .ref m9, .int (nI ct), .ref m10])), (m5, .inl (cI, 12, .inl (iA aA))), (m6, .inl (cZ, 12, .inl (bA aO))), (m7, .inl (cI, 12, .inl (iA aB))), (m8, .inl (cZ, 12, .inl (bA aI)))]) := by
  refine MI.of (cc := cX6_mayMove) (maxL := 4) (ret := (some .boolean)) (own := RX6) (by decide) rfl rfl (Nat.le_of_ble_eq_true rfl) ?_
  intro pQ eQ s mQ args below meth cQ A X hw ls hl
  obtain ⟨⟨hx, hb, hml, hown, hts⟩, hr, hlk, hK, hN, hA⟩ := id X
  have hl : lv_has ls 4 [(0, .ref mx), (1, .int (nI st)), (2, .int (nI k))] := hl
  have hb6 := b6_lt k hk
  refine lv_iload_n hx hb dX6_mayMove_0 rfl (lv_at hl 1 rfl) ?_
  refine lv_iload_n hx hb dX6_mayMove_1 rfl (lv_at hl 2 rfl) ?_
  refine lv_ishr hx hb dX6_mayMove_2 ?_
  refine cv_i (show (nI st) >>> (nI k &&& 31) = nI (st >>> k) from q_shr st k (by first | omega | assumption) (by first | omega | assumption)) ?_
  refine lv_iconst (v := nI 1) hx hb dX6_mayMove_3 (by decide) ?_
  refine lv_iand hx hb dX6_mayMove_4 ?_
  refine cv_i (show nI (st >>> k) &&& nI 1 = bI (st.testBit k) from q_bit st k) ?_
  refine lv_if_ne (tgt := 12) hx hb dX6_mayMove_5 (by decide) (fun c_5 => ?_) (fun c_5 => ?_)
  · skip
    rw [q_b0] at c_5; try simp only [Bool.not_eq_false, Bool.not_eq_true] at c_5
    refine lv_iconst (v := nI 0) hx hb dX6_mayMove_12 (by decide) ?_
    refine lv_istore_n (lv' := [(3, .int (nI 0)), (0, .ref mx), (1, .int (nI st)), (2, .int (nI k))]) hx hb dX6_mayMove_13 rfl hl (by decide) rfl (fun ls hl => ?_)
    refine lv_aload_n hx hb dX6_mayMove_14 rfl (lv_at hl 1 rfl) ?_
    refine lv_iload_n hx hb dX6_mayMove_15 rfl (lv_at hl 0 rfl) ?_
    refine lv_if_eq (tgt := 25) hx hb dX6_mayMove_16 (by decide) (fun c_16 => ?_) (fun c_16 => ?_)
    · skip
      refine lv_iconst (v := nI 0) hx hb dX6_mayMove_25 (by decide) ?_
      refine lv_iload_n hx hb dX6_mayMove_26 rfl (lv_at hl 0 rfl) ?_
      refine lv_if_eq (tgt := 34) hx hb dX6_mayMove_27 (by decide) (fun c_27 => ?_) (fun c_27 => ?_)
      · skip
        refine lv_iconst (v := nI 1) hx hb dX6_mayMove_34 (by decide) ?_
        refine lv_iload_n hx hb dX6_mayMove_35 rfl (lv_at hl 3 rfl) ?_
        refine lv_ishl hx hb dX6_mayMove_36 ?_
        refine cv_i (show (nI 1) <<< (nI k &&& 31) = nI (1 <<< k) from q_shl 1 k (by first | omega | assumption)) ?_
        refine lv_iload_n hx hb dX6_mayMove_37 rfl (lv_at hl 2 rfl) ?_
        refine x_callV (As := [.int (nI 0), .int (nI (1 <<< k)), .int (nI st)]) (rest := []) X hw hl.1 (c_X6_breaks l D cI cZ mx m1 m2 m3 m4 m5 m6 m7 m8 m9 m10 n nl ct aA aO aB aI 0 (1 <<< k) st (by first | assumption | omega) (by first | assumption | omega) (by first | assumption | omega) (by first | assumption | omega) (by first | assumption | omega) (by first | assumption | omega)) (cwV 3 hts gX6_mayMove_X6_breaks rfl rfl rfl (by decide +kernel) ⟨Nat.le_of_ble_eq_true rfl, Nat.le_of_ble_eq_true rfl⟩) [0, 1, 2, 3, 4] rfl rfl 0 rfl rfl rfl rfl (Nat.le_of_ble_eq_true rfl) dX6_mayMove_38 (by decide) (fun r w1 H locs hp hw1 => ?_)
        obtain ⟨rfl, rfl⟩ := hp
        have hw : WD D A s.heap [(mx, .inr (6, [.int (nI n), .ref m1, .ref m2, .ref m3, .ref m4, .int (nI nl), .ref m5, .ref m6, .ref m7, .ref m8, .ref m9, .int (nI ct), .ref m10])), (m5, .inl (cI, 12, .inl (iA aA))), (m6, .inl (cZ, 12, .inl (bA aO))), (m7, .inl (cI, 12, .inl (iA aB))), (m8, .inl (cZ, 12, .inl (bA aI)))] H locs := hw1 rfl
        refine lv_if_ne (tgt := 48) hx hb dX6_mayMove_41 (by decide) (fun c_41 => ?_) (fun c_41 => ?_)
        · skip
          rw [q_b0] at c_41; try simp only [Bool.not_eq_false, Bool.not_eq_true] at c_41
          refine lv_iconst (v := nI 0) hx hb dX6_mayMove_48 (by decide) ?_
          refine cv_i (show nI 0 = bI false from by decide) ?_
          exact x_zret X hw (⟨(congrArg bI (by unfold mvR; simp [c_5, c_41])), rfl⟩) dX6_mayMove_49
        · skip
          rw [q_b0] at c_41; try simp only [Bool.not_eq_false, Bool.not_eq_true] at c_41
          refine lv_iconst (v := nI 1) hx hb dX6_mayMove_44 (by decide) ?_
          refine lv_goto (tgt := 49) hx hb dX6_mayMove_45 (by decide) ?_
          refine cv_i (show nI 1 = bI true from by decide) ?_
          exact x_zret X hw (⟨(congrArg bI (by unfold mvR; simp [c_5, c_41])), rfl⟩) dX6_mayMove_49
      · skip
        exact absurd c_27 (by decide)
    · skip
      exact absurd c_16 (by decide)
  · skip
    rw [q_b0] at c_5; try simp only [Bool.not_eq_false, Bool.not_eq_true] at c_5
    refine lv_iconst (v := nI 1) hx hb dX6_mayMove_8 (by decide) ?_
    refine lv_goto (tgt := 13) hx hb dX6_mayMove_9 (by decide) ?_
    refine lv_istore_n (lv' := [(3, .int (nI 1)), (0, .ref mx), (1, .int (nI st)), (2, .int (nI k))]) hx hb dX6_mayMove_13 rfl hl (by decide) rfl (fun ls hl => ?_)
    refine lv_aload_n hx hb dX6_mayMove_14 rfl (lv_at hl 1 rfl) ?_
    refine lv_iload_n hx hb dX6_mayMove_15 rfl (lv_at hl 0 rfl) ?_
    refine lv_if_eq (tgt := 25) hx hb dX6_mayMove_16 (by decide) (fun c_16 => ?_) (fun c_16 => ?_)
    · skip
      exact absurd c_16 (by decide)
    · skip
      refine lv_iconst (v := nI 1) hx hb dX6_mayMove_19 (by decide) ?_
      refine lv_iload_n hx hb dX6_mayMove_20 rfl (lv_at hl 3 rfl) ?_
      refine lv_ishl hx hb dX6_mayMove_21 ?_
      refine cv_i (show (nI 1) <<< (nI k &&& 31) = nI (1 <<< k) from q_shl 1 k (by first | omega | assumption)) ?_
      refine lv_goto (tgt := 26) hx hb dX6_mayMove_22 (by decide) ?_
      refine lv_iload_n hx hb dX6_mayMove_26 rfl (lv_at hl 0 rfl) ?_
      refine lv_if_eq (tgt := 34) hx hb dX6_mayMove_27 (by decide) (fun c_27 => ?_) (fun c_27 => ?_)
      · skip
        exact absurd c_27 (by decide)
      · skip
        refine lv_iconst (v := nI 0) hx hb dX6_mayMove_30 (by decide) ?_
        refine lv_goto (tgt := 37) hx hb dX6_mayMove_31 (by decide) ?_
        refine lv_iload_n hx hb dX6_mayMove_37 rfl (lv_at hl 2 rfl) ?_
        refine x_callV (As := [.int (nI (1 <<< k)), .int (nI 0), .int (nI st)]) (rest := []) X hw hl.1 (c_X6_breaks l D cI cZ mx m1 m2 m3 m4 m5 m6 m7 m8 m9 m10 n nl ct aA aO aB aI (1 <<< k) 0 st (by first | assumption | omega) (by first | assumption | omega) (by first | assumption | omega) (by first | assumption | omega) (by first | assumption | omega) (by first | assumption | omega)) (cwV 3 hts gX6_mayMove_X6_breaks rfl rfl rfl (by decide +kernel) ⟨Nat.le_of_ble_eq_true rfl, Nat.le_of_ble_eq_true rfl⟩) [0, 1, 2, 3, 4] rfl rfl 0 rfl rfl rfl rfl (Nat.le_of_ble_eq_true rfl) dX6_mayMove_38 (by decide) (fun r w1 H locs hp hw1 => ?_)
        obtain ⟨rfl, rfl⟩ := hp
        have hw : WD D A s.heap [(mx, .inr (6, [.int (nI n), .ref m1, .ref m2, .ref m3, .ref m4, .int (nI nl), .ref m5, .ref m6, .ref m7, .ref m8, .ref m9, .int (nI ct), .ref m10])), (m5, .inl (cI, 12, .inl (iA aA))), (m6, .inl (cZ, 12, .inl (bA aO))), (m7, .inl (cI, 12, .inl (iA aB))), (m8, .inl (cZ, 12, .inl (bA aI)))] H locs := hw1 rfl
        refine lv_if_ne (tgt := 48) hx hb dX6_mayMove_41 (by decide) (fun c_41 => ?_) (fun c_41 => ?_)
        · skip
          rw [q_b0] at c_41; try simp only [Bool.not_eq_false, Bool.not_eq_true] at c_41
          refine lv_iconst (v := nI 0) hx hb dX6_mayMove_48 (by decide) ?_
          refine cv_i (show nI 0 = bI false from by decide) ?_
          exact x_zret X hw (⟨(congrArg bI (by unfold mvR; simp [c_5, c_41])), rfl⟩) dX6_mayMove_49
        · skip
          rw [q_b0] at c_41; try simp only [Bool.not_eq_false, Bool.not_eq_true] at c_41
          refine lv_iconst (v := nI 1) hx hb dX6_mayMove_44 (by decide) ?_
          refine lv_goto (tgt := 49) hx hb dX6_mayMove_45 (by decide) ?_
          refine cv_i (show nI 1 = bI true from by decide) ?_
          exact x_zret X hw (⟨(congrArg bI (by unfold mvR; simp [c_5, c_41])), rfl⟩) dX6_mayMove_49
