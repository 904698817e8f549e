/-! ===== the reference: ticks, laws ===== -/
def gro (oo ii tb : Nat → Nat) (k i : Nat) : Nat := fo (fun c v => if (oo k).testBit c && decide ((if (ii k).testBit c && decide (v < tb (2 * c)) then tb (2 * c) else v) < tb (2 * c + 1)) then tb (2 * c + 1) else (if (ii k).testBit c && decide (v < tb (2 * c)) then tb (2 * c) else v)) 0 i
theorem gro_lt {oo ii tb : Nat → Nat} {k : Nat} (h : ∀ k, tb k < 101) : ∀ i : Nat, gro oo ii tb k i < 101
  | 0 => by show 0 < 101; omega
  | i + 1 => by
    have h0 := gro_lt (oo := oo) (ii := ii) (k := k) h i
    have h1 := h (2 * i)
    have h2 := h (2 * i + 1)
    show (if (oo k).testBit i && decide ((if (ii k).testBit i && decide (gro oo ii tb k i < tb (2 * i)) then tb (2 * i) else gro oo ii tb k i) < tb (2 * i + 1)) then tb (2 * i + 1) else (if (ii k).testBit i && decide (gro oo ii tb k i < tb (2 * i)) then tb (2 * i) else gro oo ii tb k i)) < 101
    (repeat' split) <;> omega
theorem sp_lem {w su a b : Nat} {C : Int32} (h : su = if w = 0 then a else b) (hw : w = 0 ∨ w = 1) : nI su = if w = 0 then nI a else if w = 1 then nI b else C := by
  rcases hw with e | e
  · subst e
    rw [h]
    rfl
  · subst e
    rw [h]
    rfl
def PACR (x : Int32) (o : Bool) (lo hi : Int32) (lle lmo : Nat → Nat) (r : Int32) (le9 mo9 : Nat → Nat) : Prop :=
  (okP x lo hi = false ∧ r = -2 ∧ le9 = lle ∧ mo9 = lmo) ∨
  (∃ k a b : Nat, k < 6 ∧ x = nI k ∧ lo = nI a ∧ hi = nI b ∧ a < 101 ∧ b < 101 ∧ okP x lo hi = true ∧ r = nI 1 ∧ le9 = va_up lle (2 * k + o.toNat) a ∧ mo9 = va_up lmo (2 * k + o.toNat) b)
theorem okP_inn (x lo hi : Int32) : okP x lo hi = (bel x (nI 6) && inn lo (nI 1) (nI 100) && inn hi lo (nI 100)) := by
  unfold okP inn
  have h : (¬ lo < nI 1 ∧ ¬ nI 100 < hi ∧ lo ≤ hi) ↔ ((¬ lo < nI 1 ∧ ¬ nI 100 < lo) ∧ (¬ hi < lo ∧ ¬ nI 100 < hi)) := by
    simp only [Int32.lt_iff_toInt_lt, Int32.le_iff_toInt_le]
    omega
  rcases Bool.eq_false_or_eq_true (bel x (nI 6)) with e | e
  · rw [e]
    simp only [Bool.true_and, ← Bool.decide_and]
    exact decide_eq_decide.mpr (by rw [← h]; exact and_assoc)
  · rw [e]
    rfl
def sumR (oo ii tb : Nat → Nat) (i : Nat) : Nat := fo (fun k a => a + gro oo ii tb k 6) 0 i
def sloR (oo ii tb : Nat → Nat) (i : Nat) : Nat := fo (fun k a => if gro oo ii tb a 6 < gro oo ii tb k 6 then k else a) 0 i
theorem sloR_lt {oo ii tb : Nat → Nat} {n : Nat} (hn : 0 < n) : ∀ i, i ≤ n → sloR oo ii tb i < n
  | 0, _ => hn
  | i + 1, h => by
    show (if gro oo ii tb (sloR oo ii tb i) 6 < gro oo ii tb i 6 then i else sloR oo ii tb i) < n
    split
    · omega
    · exact sloR_lt hn i (by omega)
set_option maxHeartbeats 4000000 in
set_option maxRecDepth 100000 in
theorem c_X6_isCylinder (l : Launch) (D : va_G) (cI cZ : ClassId) (x : Int32)  : MI l D cI cZ yX6_isCylinder wsX6_isCylinder ({ frames := 1, cells := 0, slots := 0, locals := 22 }) [.int x] [] (fun r w => r = (bI (bel x (nI 6))) ∧ w = []) := by
  refine MI.of (cc := cX6_isCylinder) (maxL := 1) (ret := (some .boolean)) (own := RX6) (by decide) rfl rfl (Nat.le_of_ble_eq_true rfl) ?_
  intro pQ eQ s mQ args below meth cQ A X hw ls hl
  obtain ⟨⟨hx, hb, hml, hown, hts⟩, hr, hlk, hK, hN, hA⟩ := id X
  have hl : lv_has ls 1 [(0, .int x)] := hl
  refine lv_iload_n hx hb dX6_isCylinder_0 rfl (lv_at hl 0 rfl) ?_
  refine lv_iconst (v := nI 0) hx hb dX6_isCylinder_1 (by decide) ?_
  refine lv_iconst (v := nI 5) hx hb dX6_isCylinder_2 (by decide) ?_
  refine x_callS (As := [.int x, .int (nI 0), .int (nI 5)]) (rest := []) X hw hl.1 (c_X6_in l D cI cZ x (nI 0) (nI 5) ) (va_cwS 3 hts gX6_isCylinder_X6_in rfl rfl rfl (by decide +kernel) ⟨Nat.le_of_ble_eq_true rfl, Nat.le_of_ble_eq_true rfl⟩) [] rfl rfl rfl (Nat.le_of_ble_eq_true rfl) dX6_isCylinder_3 (by decide) (fun r w1 H locs hp hw1 => ?_)
  obtain ⟨rfl, rfl⟩ := hp
  have hw : WD D A s.heap [] H locs := hw1 rfl
  exact x_zret X hw (⟨(congrArg bI (inn_bel x (by decide))), rfl⟩) dX6_isCylinder_6
set_option maxHeartbeats 4000000 in
set_option maxRecDepth 100000 in
theorem c_X6_pace (l : Launch) (D : va_G) (cI cZ : ClassId) (mx : Nat) (m1 : Nat) (m2 : Nat) (m3 : Nat) (m4 : Nat) (m5 : Nat) (m6 : Nat) (m7 : Nat) (m8 : Nat) (m9 : Nat) (m10 : Nat) (n : Nat) (nl : Nat) (ct : Nat) (lle : Nat → Nat) (lmo : Nat → Nat) (x : Int32) (o : Bool) (lo : Int32) (hi : Int32) (hlle : ∀ k, lle k < 101) (hlmo : ∀ k, lmo k < 101) : MI l D cI cZ yX6_pace wsX6_pace ({ frames := 2, cells := 0, slots := 0, locals := 42 }) [.ref mx, .int x, .int (bI o), .int lo, .int hi] [(mx, .inr (6, [.int (nI n), .ref m1, .ref m2, .ref m3, .ref m4, .int (nI nl), .ref m5, .ref m6, .ref m7, .ref m8, .ref m9, .int (nI ct), .ref m10])), (m3, .inl (cI, 12, .inl (iA lle))), (m4, .inl (cI, 12, .inl (iA lmo)))] (fun r w => ∃ r9 : Int32, ∃ le9 : Nat → Nat, ∃ mo9 : Nat → Nat, (PACR x o lo hi lle lmo r9 le9 mo9) ∧ r = r9 ∧ w = [(mx, .inr (6, [.int (nI n), .ref m1, .ref m2, .ref m3, .ref m4, .int (nI nl), .ref m5, .ref m6, .ref m7, .ref m8, .ref m9, .int (nI ct), .ref m10])), (m3, .inl (cI, 12, .inl (iA le9))), (m4, .inl (cI, 12, .inl (iA mo9)))]) := by
  refine MI.of (cc := cX6_pace) (maxL := 6) (ret := (some .int)) (own := RX6) (by decide) rfl rfl (Nat.le_of_ble_eq_true rfl) ?_
  intro pQ eQ s mQ args below meth cQ A X hw ls hl
  obtain ⟨⟨hx, hb, hml, hown, hts⟩, hr, hlk, hK, hN, hA⟩ := id X
  have hl : lv_has ls 6 [(0, .ref mx), (1, .int x), (2, .int (bI o)), (3, .int lo), (4, .int hi)] := hl
  have n6 : ∀ w ∈ wsX60, w ∈ wsX6_pace := by decide +kernel
  have f16 : FF args s RX6 wsX6_pace 16 6 3 := ⟨_, rfl, by decide, n6, hts (.fieldLink RX6 16 "AirStepsModel" "least" "[I") (by decide +kernel)⟩
  have f19 : FF args s RX6 wsX6_pace 19 6 4 := ⟨_, rfl, by decide, n6, hts (.fieldLink RX6 19 "AirStepsModel" "most" "[I") (by decide +kernel)⟩
  refine lv_iload_n hx hb dX6_pace_0 rfl (lv_at hl 1 rfl) ?_
  refine x_callS (As := [.int x]) (rest := []) X hw hl.1 (c_X6_isCylinder l D cI cZ x ) (va_cwS 1 hts gX6_pace_X6_isCylinder rfl rfl rfl (by decide +kernel) ⟨Nat.le_of_ble_eq_true rfl, Nat.le_of_ble_eq_true rfl⟩) [] rfl rfl rfl (Nat.le_of_ble_eq_true rfl) dX6_pace_1 (by decide) (fun r w1 H locs hp hw1 => ?_)
  obtain ⟨rfl, rfl⟩ := hp
  have hw : WD D A s.heap [(mx, .inr (6, [.int (nI n), .ref m1, .ref m2, .ref m3, .ref m4, .int (nI nl), .ref m5, .ref m6, .ref m7, .ref m8, .ref m9, .int (nI ct), .ref m10])), (m3, .inl (cI, 12, .inl (iA lle))), (m4, .inl (cI, 12, .inl (iA lmo)))] H locs := hw1 rfl
  refine lv_if_eq (tgt := 28) hx hb dX6_pace_4 (by decide) (fun c_4 => ?_) (fun c_4 => ?_)
  · skip
    rw [q_b0] at c_4; try simp only [Bool.not_eq_false, Bool.not_eq_true] at c_4
    refine lv_bipush (v := (-2)) hx hb dX6_pace_28 (by decide) ?_
    exact x_iret X hw (⟨_, _, _, (Or.inl ⟨by rw [okP_inn]; first | (rw [c_4]; rfl) | (rw [c_4, c_14]; rfl) | (rw [c_4, c_14, c_25]; rfl), rfl, rfl, rfl⟩), (rfl), rfl⟩) dX6_pace_30
  · skip
    rw [q_b0] at c_4; try simp only [Bool.not_eq_false, Bool.not_eq_true] at c_4
    obtain ⟨k, hk, rfl⟩ := bel_t (by decide) c_4
    refine lv_iload_n hx hb dX6_pace_7 rfl (lv_at hl 3 rfl) ?_
    refine lv_iconst (v := nI 1) hx hb dX6_pace_8 (by decide) ?_
    refine lv_bipush (v := nI 100) hx hb dX6_pace_9 (by decide) ?_
    refine x_callS (As := [.int lo, .int (nI 1), .int (nI 100)]) (rest := []) X hw hl.1 (c_X6_in l D cI cZ lo (nI 1) (nI 100) ) (va_cwS 3 hts gX6_pace_X6_in rfl rfl rfl (by decide +kernel) ⟨Nat.le_of_ble_eq_true rfl, Nat.le_of_ble_eq_true rfl⟩) [] rfl rfl rfl (Nat.le_of_ble_eq_true rfl) dX6_pace_11 (by decide) (fun r w1 H locs hp hw1 => ?_)
    obtain ⟨rfl, rfl⟩ := hp
    have hw : WD D A s.heap [(mx, .inr (6, [.int (nI n), .ref m1, .ref m2, .ref m3, .ref m4, .int (nI nl), .ref m5, .ref m6, .ref m7, .ref m8, .ref m9, .int (nI ct), .ref m10])), (m3, .inl (cI, 12, .inl (iA lle))), (m4, .inl (cI, 12, .inl (iA lmo)))] H locs := hw1 rfl
    refine lv_if_eq (tgt := 28) hx hb dX6_pace_14 (by decide) (fun c_14 => ?_) (fun c_14 => ?_)
    · skip
      rw [q_b0] at c_14; try simp only [Bool.not_eq_false, Bool.not_eq_true] at c_14
      refine lv_bipush (v := (-2)) hx hb dX6_pace_28 (by decide) ?_
      exact x_iret X hw (⟨_, _, _, (Or.inl ⟨by rw [okP_inn]; first | (rw [c_4]; rfl) | (rw [c_4, c_14]; rfl) | (rw [c_4, c_14, c_25]; rfl), rfl, rfl, rfl⟩), (rfl), rfl⟩) dX6_pace_30
    · skip
      rw [q_b0] at c_14; try simp only [Bool.not_eq_false, Bool.not_eq_true] at c_14
      refine lv_iload hx hb dX6_pace_17 (lv_at hl 4 rfl) ?_
      refine lv_iload_n hx hb dX6_pace_19 rfl (lv_at hl 3 rfl) ?_
      refine lv_bipush (v := nI 100) hx hb dX6_pace_20 (by decide) ?_
      refine x_callS (As := [.int hi, .int lo, .int (nI 100)]) (rest := []) X hw hl.1 (c_X6_in l D cI cZ hi lo (nI 100) ) (va_cwS 3 hts gX6_pace_X6_in rfl rfl rfl (by decide +kernel) ⟨Nat.le_of_ble_eq_true rfl, Nat.le_of_ble_eq_true rfl⟩) [] rfl rfl rfl (Nat.le_of_ble_eq_true rfl) dX6_pace_22 (by decide) (fun r w1 H locs hp hw1 => ?_)
      obtain ⟨rfl, rfl⟩ := hp
      have hw : WD D A s.heap [(mx, .inr (6, [.int (nI n), .ref m1, .ref m2, .ref m3, .ref m4, .int (nI nl), .ref m5, .ref m6, .ref m7, .ref m8, .ref m9, .int (nI ct), .ref m10])), (m3, .inl (cI, 12, .inl (iA lle))), (m4, .inl (cI, 12, .inl (iA lmo)))] H locs := hw1 rfl
      refine lv_if_ne (tgt := 31) hx hb dX6_pace_25 (by decide) (fun c_25 => ?_) (fun c_25 => ?_)
      · skip
        rw [q_b0] at c_25; try simp only [Bool.not_eq_false, Bool.not_eq_true] at c_25
        have hok : okP (nI k) lo hi = true := by rw [okP_inn, c_4, c_14, c_25]; rfl
        have h14 := of_decide_eq_true c_14
        have h25 := of_decide_eq_true c_25
        obtain ⟨a, ha1, ha2, rfl⟩ := p_nI h14.1 (i_nlt h14.2)
        obtain ⟨b, hb1, hb2, rfl⟩ := p_nI (i_nlt_of h14.1 (i_nlt h25.1)) (i_nlt h25.2)
        refine wj (α := Nat) (nL := 6) 43 (fun aQ => (aQ = o.toNat)) (fun aQ => [(mx, .inr (6, [.int (nI n), .ref m1, .ref m2, .ref m3, .ref m4, .int (nI nl), .ref m5, .ref m6, .ref m7, .ref m8, .ref m9, .int (nI ct), .ref m10])), (m3, .inl (cI, 12, .inl (iA lle))), (m4, .inl (cI, 12, .inl (iA lmo)))]) (fun aQ => [(0, .ref mx), (1, .int (nI k)), (2, .int (bI o)), (3, .int (nI a)), (4, .int (nI b))]) (fun aQ => [.int (nI aQ), .int (nI (2 * k))]) (D := D) (A := A) (H0 := s.heap) (fun J43 => ?_) ?_
        · skip
          refine lv_iconst (v := nI 2) hx hb dX6_pace_31 (by decide) ?_
          refine lv_iload_n hx hb dX6_pace_32 rfl (lv_at hl 1 rfl) ?_
          refine lv_imul hx hb dX6_pace_33 ?_
          refine cv_i (show nI 2 * nI k = nI (2 * k) from pk_mul 2 k) ?_
          refine lv_iload_n hx hb dX6_pace_34 rfl (lv_at hl 2 rfl) ?_
          refine lv_if_eq (tgt := 42) hx hb dX6_pace_35 (by decide) (fun c_35 => ?_) (fun c_35 => ?_)
          · skip
            rw [q_b0] at c_35; try simp only [Bool.not_eq_false, Bool.not_eq_true] at c_35
            refine lv_iconst (v := nI 0) hx hb dX6_pace_42 (by decide) ?_
            exact J43 0 (show 0 = o.toNat from by rw [c_35]; rfl) _ _ _ hw (lv_sub hl [0, 1, 2, 3, 4] rfl)
          · skip
            rw [q_b0] at c_35; try simp only [Bool.not_eq_false, Bool.not_eq_true] at c_35
            refine lv_iconst (v := nI 1) hx hb dX6_pace_38 (by decide) ?_
            refine lv_goto (tgt := 43) hx hb dX6_pace_39 (by decide) ?_
            exact J43 1 (show 1 = o.toNat from by rw [c_35]; rfl) _ _ _ hw (lv_sub hl [0, 1, 2, 3, 4] rfl)
        · rintro v hv H locs ls hw hl
          have hv : v = o.toNat := hv
          have hw : WD D A s.heap [(mx, .inr (6, [.int (nI n), .ref m1, .ref m2, .ref m3, .ref m4, .int (nI nl), .ref m5, .ref m6, .ref m7, .ref m8, .ref m9, .int (nI ct), .ref m10])), (m3, .inl (cI, 12, .inl (iA lle))), (m4, .inl (cI, 12, .inl (iA lmo)))] H locs := hw
          have hl : lv_has ls 6 [(0, .ref mx), (1, .int (nI k)), (2, .int (bI o)), (3, .int (nI a)), (4, .int (nI b))] := hl
          have hv1 : v ≤ 1 := by rw [hv]; exact Bool.toNat_le o
          refine lv_iadd hx hb dX6_pace_43 ?_
          refine cv_i (show nI (2 * k) + nI v = nI ((2 * k) + v) from nI_add (2 * k) v) ?_
          refine lv_istore (lv' := [(5, .int (nI ((2 * k) + v))), (0, .ref mx), (1, .int (nI k)), (2, .int (bI o)), (3, .int (nI a)), (4, .int (nI b))]) hx hb dX6_pace_44 hl (by decide) rfl (fun ls hl => ?_)
          refine lv_aload_n hx hb dX6_pace_46 rfl (lv_at hl 1 rfl) ?_
          refine x_get X hw f16 0 rfl rfl dX6_pace_47 ?_
          refine lv_iload hx hb dX6_pace_50 (lv_at hl 0 rfl) ?_
          refine lv_iload_n hx hb dX6_pace_52 rfl (lv_at hl 4 rfl) ?_
          refine x_astN X hw 1 rfl (by omega) (by omega) dX6_pace_53 (fun H locs hw => ?_)
          have hw : WD D A s.heap [(mx, .inr (6, [.int (nI n), .ref m1, .ref m2, .ref m3, .ref m4, .int (nI nl), .ref m5, .ref m6, .ref m7, .ref m8, .ref m9, .int (nI ct), .ref m10])), (m3, .inl (cI, 12, .inl (iA (va_up lle ((2 * k) + v) a)))), (m4, .inl (cI, 12, .inl (iA lmo)))] H locs := hw
          refine lv_aload_n hx hb dX6_pace_54 rfl (lv_at hl 1 rfl) ?_
          refine x_get X hw f19 0 rfl rfl dX6_pace_55 ?_
          refine lv_iload hx hb dX6_pace_58 (lv_at hl 0 rfl) ?_
          refine lv_iload hx hb dX6_pace_60 (lv_at hl 5 rfl) ?_
          refine x_astN X hw 2 rfl (by omega) (by omega) dX6_pace_62 (fun H locs hw => ?_)
          have hw : WD D A s.heap [(mx, .inr (6, [.int (nI n), .ref m1, .ref m2, .ref m3, .ref m4, .int (nI nl), .ref m5, .ref m6, .ref m7, .ref m8, .ref m9, .int (nI ct), .ref m10])), (m3, .inl (cI, 12, .inl (iA (va_up lle ((2 * k) + v) a)))), (m4, .inl (cI, 12, .inl (iA (va_up lmo ((2 * k) + v) b))))] H locs := hw
          refine lv_iconst (v := nI 1) hx hb dX6_pace_63 (by decide) ?_
          exact x_iret X hw (⟨_, _, _, (Or.inr ⟨k, a, b, hk, rfl, rfl, rfl, by omega, by omega, hok, rfl, by rw [hv], by rw [hv]⟩), (rfl), rfl⟩) dX6_pace_64
      · skip
        rw [q_b0] at c_25; try simp only [Bool.not_eq_false, Bool.not_eq_true] at c_25
        refine lv_bipush (v := (-2)) hx hb dX6_pace_28 (by decide) ?_
        exact x_iret X hw (⟨_, _, _, (Or.inl ⟨by rw [okP_inn]; first | (rw [c_4]; rfl) | (rw [c_4, c_14]; rfl) | (rw [c_4, c_14, c_25]; rfl), rfl, rfl, rfl⟩), (rfl), rfl⟩) dX6_pace_30
set_option maxHeartbeats 4000000 in
set_option maxRecDepth 100000 in
theorem c_X6_greatestOf (l : Launch) (D : va_G) (cI cZ : ClassId) (mx : Nat) (m1 : Nat) (m2 : Nat) (m3 : Nat) (m4 : Nat) (m5 : Nat) (m6 : Nat) (m7 : Nat) (m8 : Nat) (m9 : Nat) (m10 : Nat) (n : Nat) (nl : Nat) (ct : Nat) (oo : Nat → Nat) (ii : Nat → Nat) (k : Nat) (ta : Nat) (tb : Nat → Nat) (hn : n ≤ 16) (hoo : ∀ k, oo k < 64) (hii : ∀ k, ii k < 64) (htb : ∀ k, tb k < 101) (hk : k < n) : MI l D cI cZ yX6_greatestOf wsX6_greatestOf ({ frames := 0, cells := 0, slots := 0, locals := 0 }) [.ref mx, .int (nI k), .ref ta] [(mx, .inr (6, [.int (nI n), .ref m1, .ref m2, .ref m3, .ref m4, .int (nI nl), .ref m5, .ref m6, .ref m7, .ref m8, .ref m9, .int (nI ct), .ref m10])), (m1, .inl (cI, 16, .inl (iA oo))), (m2, .inl (cI, 16, .inl (iA ii))), (ta, .inl (cI, 12, .inl (iA tb)))] (fun r w => r = (nI (gro oo ii tb k 6)) ∧ w = [(mx, .inr (6, [.int (nI n), .ref m1, .ref m2, .ref m3, .ref m4, .int (nI nl), .ref m5, .ref m6, .ref m7, .ref m8, .ref m9, .int (nI ct), .ref m10])), (m1, .inl (cI, 16, .inl (iA oo))), (m2, .inl (cI, 16, .inl (iA ii))), (ta, .inl (cI, 12, .inl (iA tb)))]) := by
  refine MI.of (cc := cX6_greatestOf) (maxL := 5) (ret := (some .int)) (own := RX6) (by decide) rfl rfl (Nat.le_of_ble_eq_true rfl) ?_
  intro pQ eQ s mQ args below meth cQ A X hw ls hl
  obtain ⟨⟨hx, hb, hml, hown, hts⟩, hr, hlk, hK, hN, hA⟩ := id X
  have hl : lv_has ls 5 [(0, .ref mx), (1, .int (nI k)), (2, .ref ta)] := hl
  have n6 : ∀ w ∈ wsX60, w ∈ wsX6_greatestOf := by decide +kernel
  have f7 : FF args s RX6 wsX6_greatestOf 7 6 1 := ⟨_, rfl, by decide, n6, hts (.fieldLink RX6 7 "AirStepsModel" "outs" "[I") (by decide +kernel)⟩
  have f13 : FF args s RX6 wsX6_greatestOf 13 6 2 := ⟨_, rfl, by decide, n6, hts (.fieldLink RX6 13 "AirStepsModel" "ins" "[I") (by decide +kernel)⟩
  refine lv_iconst (v := nI 0) hx hb dX6_greatestOf_0 (by decide) ?_
  refine lv_istore_n (lv' := [(3, .int (nI 0)), (0, .ref mx), (1, .int (nI k)), (2, .ref ta)]) hx hb dX6_greatestOf_1 rfl hl (by decide) rfl (fun ls hl => ?_)
  refine lv_iconst (v := nI 0) hx hb dX6_greatestOf_2 (by decide) ?_
  refine lv_istore (lv' := [(4, .int (nI 0)), (3, .int (nI 0)), (0, .ref mx), (1, .int (nI k)), (2, .ref ta)]) hx hb dX6_greatestOf_3 hl (by decide) rfl (fun ls hl => ?_)
  refine wl (α := Nat × Nat) (nL := 5) (fun aQ => 6 - aQ.2) (fun aQ => (aQ.2 ≤ 6) ∧ (aQ.1 = gro oo ii tb k aQ.2)) (fun aQ => [(mx, .inr (6, [.int (nI n), .ref m1, .ref m2, .ref m3, .ref m4, .int (nI nl), .ref m5, .ref m6, .ref m7, .ref m8, .ref m9, .int (nI ct), .ref m10])), (m1, .inl (cI, 16, .inl (iA oo))), (m2, .inl (cI, 16, .inl (iA ii))), (ta, .inl (cI, 12, .inl (iA tb)))]) (fun aQ => [(4, .int (nI aQ.2)), (3, .int (nI aQ.1)), (0, .ref mx), (1, .int (nI k)), (2, .ref ta)]) ?_ (0, 0) ⟨(show 0 ≤ 6 from by omega), (show 0 = gro oo ii tb k 0 from rfl)⟩ _ _ _ hw (lv_sub hl [0, 1, 2, 3, 4] rfl)
  rintro ⟨v, i⟩ ⟨hi, ha⟩ H locs ls hw hl ih_5
  have hi : i ≤ 6 := hi
  have ha : v = gro oo ii tb k i := ha
  have hw : WD D A s.heap [(mx, .inr (6, [.int (nI n), .ref m1, .ref m2, .ref m3, .ref m4, .int (nI nl), .ref m5, .ref m6, .ref m7, .ref m8, .ref m9, .int (nI ct), .ref m10])), (m1, .inl (cI, 16, .inl (iA oo))), (m2, .inl (cI, 16, .inl (iA ii))), (ta, .inl (cI, 12, .inl (iA tb)))] H locs := hw
  have hl : lv_has ls 5 [(4, .int (nI i)), (3, .int (nI v)), (0, .ref mx), (1, .int (nI k)), (2, .ref ta)] := hl
  have hv1 : v < 101 := by rw [ha]; exact gro_lt htb i
  refine lv_iload hx hb dX6_greatestOf_5 (lv_at hl 0 rfl) ?_
  refine lv_bipush (v := nI 6) hx hb dX6_greatestOf_7 (by decide) ?_
  refine lv_icmp_ge (tgt := 94) hx hb dX6_greatestOf_9 (by decide) (fun c_9 => ?_) (fun c_9 => ?_)
  · skip
    rw [nI_leI (by omega) (by omega)] at c_9
    refine lv_iload_n hx hb dX6_greatestOf_94 rfl (lv_at hl 1 rfl) ?_
    exact x_iret X hw (⟨(by rw [ha, show i = 6 by omega]), rfl⟩) dX6_greatestOf_95
  · skip
    rw [nI_leI (by omega) (by omega)] at c_9
    refine wj (α := Nat) (nL := 5) 47 (fun aQ => (aQ = if (ii k).testBit i && decide (v < tb (2 * i)) then tb (2 * i) else v) ∧ (aQ < 101)) (fun aQ => [(mx, .inr (6, [.int (nI n), .ref m1, .ref m2, .ref m3, .ref m4, .int (nI nl), .ref m5, .ref m6, .ref m7, .ref m8, .ref m9, .int (nI ct), .ref m10])), (m1, .inl (cI, 16, .inl (iA oo))), (m2, .inl (cI, 16, .inl (iA ii))), (ta, .inl (cI, 12, .inl (iA tb)))]) (fun aQ => [(4, .int (nI i)), (3, .int (nI v)), (0, .ref mx), (1, .int (nI k)), (2, .ref ta)]) (fun aQ => [.int (nI aQ)]) (D := D) (A := A) (H0 := s.heap) (fun J47 => ?_) ?_
    · skip
      refine lv_aload_n hx hb dX6_greatestOf_12 rfl (lv_at hl 2 rfl) ?_
      refine x_get X hw f13 0 rfl rfl dX6_greatestOf_13 ?_
      refine lv_iload_n hx hb dX6_greatestOf_16 rfl (lv_at hl 3 rfl) ?_
      refine x_aldN X hw 2 rfl (by omega) (by omega) dX6_greatestOf_17 ?_
      have hb_17 := hii k
      refine lv_iload hx hb dX6_greatestOf_18 (lv_at hl 0 rfl) ?_
      refine lv_ishr hx hb dX6_greatestOf_20 ?_
      refine cv_i (show (nI (ii k)) >>> (nI i &&& 31) = nI ((ii k) >>> i) from q_shr (ii k) i (by first | omega | assumption) (by first | omega | assumption)) ?_
      refine lv_iconst (v := nI 1) hx hb dX6_greatestOf_21 (by decide) ?_
      refine lv_iand hx hb dX6_greatestOf_22 ?_
      refine cv_i (show nI ((ii k) >>> i) &&& nI 1 = bI ((ii k).testBit i) from q_bit (ii k) i) ?_
      refine lv_iconst (v := nI 1) hx hb dX6_greatestOf_23 (by decide) ?_
      refine lv_icmp_ne (tgt := 46) hx hb dX6_greatestOf_24 (by decide) (fun c_24 => ?_) (fun c_24 => ?_)
      · skip
        rw [q_b1] at c_24; try simp only [Bool.not_eq_false, Bool.not_eq_true] at c_24
        refine lv_iload_n hx hb dX6_greatestOf_46 rfl (lv_at hl 1 rfl) ?_
        exact J47 v ⟨(show v = if (ii k).testBit i && decide (v < tb (2 * i)) then tb (2 * i) else v from by simp [c_24]; try omega), (show v < 101 from by omega)⟩ _ _ _ hw (lv_sub hl [0, 1, 2, 3, 4] rfl)
      · skip
        rw [q_b1] at c_24; try simp only [Bool.not_eq_false, Bool.not_eq_true] at c_24
        refine lv_aload_n hx hb dX6_greatestOf_27 rfl (lv_at hl 4 rfl) ?_
        refine lv_iconst (v := nI 2) hx hb dX6_greatestOf_28 (by decide) ?_
        refine lv_iload hx hb dX6_greatestOf_29 (lv_at hl 0 rfl) ?_
        refine lv_imul hx hb dX6_greatestOf_31 ?_
        refine cv_i (show nI 2 * nI i = nI (2 * i) from pk_mul 2 i) ?_
        refine x_aldN X hw 3 rfl (by omega) (by omega) dX6_greatestOf_32 ?_
        have hb_32 := htb (2 * i)
        refine lv_iload_n hx hb dX6_greatestOf_33 rfl (lv_at hl 1 rfl) ?_
        refine lv_icmp_le (tgt := 46) hx hb dX6_greatestOf_34 (by decide) (fun c_34 => ?_) (fun c_34 => ?_)
        · skip
          rw [nI_leI (by omega) (by omega)] at c_34
          refine lv_iload_n hx hb dX6_greatestOf_46 rfl (lv_at hl 1 rfl) ?_
          exact J47 v ⟨(show v = if (ii k).testBit i && decide (v < tb (2 * i)) then tb (2 * i) else v from by simp [c_24, c_34]; try omega), (show v < 101 from by omega)⟩ _ _ _ hw (lv_sub hl [0, 1, 2, 3, 4] rfl)
        · skip
          rw [nI_leI (by omega) (by omega)] at c_34
          refine lv_aload_n hx hb dX6_greatestOf_37 rfl (lv_at hl 4 rfl) ?_
          refine lv_iconst (v := nI 2) hx hb dX6_greatestOf_38 (by decide) ?_
          refine lv_iload hx hb dX6_greatestOf_39 (lv_at hl 0 rfl) ?_
          refine lv_imul hx hb dX6_greatestOf_41 ?_
          refine cv_i (show nI 2 * nI i = nI (2 * i) from pk_mul 2 i) ?_
          refine x_aldN X hw 3 rfl (by omega) (by omega) dX6_greatestOf_42 ?_
          have hb_42 := htb (2 * i)
          refine lv_goto (tgt := 47) hx hb dX6_greatestOf_43 (by decide) ?_
          exact J47 (tb (2 * i)) ⟨(show (tb (2 * i)) = if (ii k).testBit i && decide (v < tb (2 * i)) then tb (2 * i) else v from by simp [c_24, c_34]; try omega), (show (tb (2 * i)) < 101 from by omega)⟩ _ _ _ hw (lv_sub hl [0, 1, 2, 3, 4] rfl)
    · rintro v9 ⟨hv9, hv2⟩ H locs ls hw hl
      have hv9 : v9 = if (ii k).testBit i && decide (v < tb (2 * i)) then tb (2 * i) else v := hv9
      have hv2 : v9 < 101 := hv2
      have hw : WD D A s.heap [(mx, .inr (6, [.int (nI n), .ref m1, .ref m2, .ref m3, .ref m4, .int (nI nl), .ref m5, .ref m6, .ref m7, .ref m8, .ref m9, .int (nI ct), .ref m10])), (m1, .inl (cI, 16, .inl (iA oo))), (m2, .inl (cI, 16, .inl (iA ii))), (ta, .inl (cI, 12, .inl (iA tb)))] H locs := hw
      have hl : lv_has ls 5 [(4, .int (nI i)), (3, .int (nI v)), (0, .ref mx), (1, .int (nI k)), (2, .ref ta)] := hl
      refine lv_istore_n (lv' := [(3, .int (nI v9)), (4, .int (nI i)), (0, .ref mx), (1, .int (nI k)), (2, .ref ta)]) hx hb dX6_greatestOf_47 rfl hl (by decide) rfl (fun ls hl => ?_)
      refine wj (α := Nat) (nL := 5) 87 (fun aQ => (aQ = if (oo k).testBit i && decide (v9 < tb (2 * i + 1)) then tb (2 * i + 1) else v9) ∧ (aQ < 101)) (fun aQ => [(mx, .inr (6, [.int (nI n), .ref m1, .ref m2, .ref m3, .ref m4, .int (nI nl), .ref m5, .ref m6, .ref m7, .ref m8, .ref m9, .int (nI ct), .ref m10])), (m1, .inl (cI, 16, .inl (iA oo))), (m2, .inl (cI, 16, .inl (iA ii))), (ta, .inl (cI, 12, .inl (iA tb)))]) (fun aQ => [(3, .int (nI v9)), (4, .int (nI i)), (0, .ref mx), (1, .int (nI k)), (2, .ref ta)]) (fun aQ => [.int (nI aQ)]) (D := D) (A := A) (H0 := s.heap) (fun J87 => ?_) ?_
      · skip
        refine lv_aload_n hx hb dX6_greatestOf_48 rfl (lv_at hl 2 rfl) ?_
        refine x_get X hw f7 0 rfl rfl dX6_greatestOf_49 ?_
        refine lv_iload_n hx hb dX6_greatestOf_52 rfl (lv_at hl 3 rfl) ?_
        refine x_aldN X hw 1 rfl (by omega) (by omega) dX6_greatestOf_53 ?_
        have hb_53 := hoo k
        refine lv_iload hx hb dX6_greatestOf_54 (lv_at hl 1 rfl) ?_
        refine lv_ishr hx hb dX6_greatestOf_56 ?_
        refine cv_i (show (nI (oo k)) >>> (nI i &&& 31) = nI ((oo k) >>> i) from q_shr (oo k) i (by first | omega | assumption) (by first | omega | assumption)) ?_
        refine lv_iconst (v := nI 1) hx hb dX6_greatestOf_57 (by decide) ?_
        refine lv_iand hx hb dX6_greatestOf_58 ?_
        refine cv_i (show nI ((oo k) >>> i) &&& nI 1 = bI ((oo k).testBit i) from q_bit (oo k) i) ?_
        refine lv_iconst (v := nI 1) hx hb dX6_greatestOf_59 (by decide) ?_
        refine lv_icmp_ne (tgt := 86) hx hb dX6_greatestOf_60 (by decide) (fun c_60 => ?_) (fun c_60 => ?_)
        · skip
          rw [q_b1] at c_60; try simp only [Bool.not_eq_false, Bool.not_eq_true] at c_60
          refine lv_iload_n hx hb dX6_greatestOf_86 rfl (lv_at hl 0 rfl) ?_
          exact J87 v9 ⟨(show v9 = if (oo k).testBit i && decide (v9 < tb (2 * i + 1)) then tb (2 * i + 1) else v9 from by simp [c_60]; try omega), (show v9 < 101 from by omega)⟩ _ _ _ hw (lv_sub hl [0, 1, 2, 3, 4] rfl)
        · skip
          rw [q_b1] at c_60; try simp only [Bool.not_eq_false, Bool.not_eq_true] at c_60
          refine lv_aload_n hx hb dX6_greatestOf_63 rfl (lv_at hl 4 rfl) ?_
          refine lv_iconst (v := nI 2) hx hb dX6_greatestOf_64 (by decide) ?_
          refine lv_iload hx hb dX6_greatestOf_65 (lv_at hl 1 rfl) ?_
          refine lv_imul hx hb dX6_greatestOf_67 ?_
          refine cv_i (show nI 2 * nI i = nI (2 * i) from pk_mul 2 i) ?_
          refine lv_iconst (v := nI 1) hx hb dX6_greatestOf_68 (by decide) ?_
          refine lv_iadd hx hb dX6_greatestOf_69 ?_
          refine cv_i (show nI (2 * i) + nI 1 = nI ((2 * i) + 1) from nI_add (2 * i) 1) ?_
          refine x_aldN X hw 3 rfl (by omega) (by omega) dX6_greatestOf_70 ?_
          have hb_70 := htb ((2 * i) + 1)
          refine lv_iload_n hx hb dX6_greatestOf_71 rfl (lv_at hl 0 rfl) ?_
          refine lv_icmp_le (tgt := 86) hx hb dX6_greatestOf_72 (by decide) (fun c_72 => ?_) (fun c_72 => ?_)
          · skip
            rw [nI_leI (by omega) (by omega)] at c_72
            refine lv_iload_n hx hb dX6_greatestOf_86 rfl (lv_at hl 0 rfl) ?_
            exact J87 v9 ⟨(show v9 = if (oo k).testBit i && decide (v9 < tb (2 * i + 1)) then tb (2 * i + 1) else v9 from by simp [c_60, c_72]; try omega), (show v9 < 101 from by omega)⟩ _ _ _ hw (lv_sub hl [0, 1, 2, 3, 4] rfl)
          · skip
            rw [nI_leI (by omega) (by omega)] at c_72
            refine lv_aload_n hx hb dX6_greatestOf_75 rfl (lv_at hl 4 rfl) ?_
            refine lv_iconst (v := nI 2) hx hb dX6_greatestOf_76 (by decide) ?_
            refine lv_iload hx hb dX6_greatestOf_77 (lv_at hl 1 rfl) ?_
            refine lv_imul hx hb dX6_greatestOf_79 ?_
            refine cv_i (show nI 2 * nI i = nI (2 * i) from pk_mul 2 i) ?_
            refine lv_iconst (v := nI 1) hx hb dX6_greatestOf_80 (by decide) ?_
            refine lv_iadd hx hb dX6_greatestOf_81 ?_
            refine cv_i (show nI (2 * i) + nI 1 = nI ((2 * i) + 1) from nI_add (2 * i) 1) ?_
            refine x_aldN X hw 3 rfl (by omega) (by omega) dX6_greatestOf_82 ?_
            have hb_82 := htb ((2 * i) + 1)
            refine lv_goto (tgt := 87) hx hb dX6_greatestOf_83 (by decide) ?_
            exact J87 (tb ((2 * i) + 1)) ⟨(show (tb ((2 * i) + 1)) = if (oo k).testBit i && decide (v9 < tb (2 * i + 1)) then tb (2 * i + 1) else v9 from by simp [c_60, c_72]; try omega), (show (tb ((2 * i) + 1)) < 101 from by omega)⟩ _ _ _ hw (lv_sub hl [0, 1, 2, 3, 4] rfl)
      · rintro w9 ⟨hw9, hw2⟩ H locs ls hw hl
        have hw9 : w9 = if (oo k).testBit i && decide (v9 < tb (2 * i + 1)) then tb (2 * i + 1) else v9 := hw9
        have hw2 : w9 < 101 := hw2
        have hw : WD D A s.heap [(mx, .inr (6, [.int (nI n), .ref m1, .ref m2, .ref m3, .ref m4, .int (nI nl), .ref m5, .ref m6, .ref m7, .ref m8, .ref m9, .int (nI ct), .ref m10])), (m1, .inl (cI, 16, .inl (iA oo))), (m2, .inl (cI, 16, .inl (iA ii))), (ta, .inl (cI, 12, .inl (iA tb)))] H locs := hw
        have hl : lv_has ls 5 [(3, .int (nI v9)), (4, .int (nI i)), (0, .ref mx), (1, .int (nI k)), (2, .ref ta)] := hl
        refine lv_istore_n (lv' := [(3, .int (nI w9)), (4, .int (nI i)), (0, .ref mx), (1, .int (nI k)), (2, .ref ta)]) hx hb dX6_greatestOf_87 rfl hl (by decide) rfl (fun ls hl => ?_)
        refine lv_iinc (v := nI (i + 1)) (lv' := [(4, .int (nI (i + 1))), (3, .int (nI w9)), (0, .ref mx), (1, .int (nI k)), (2, .ref ta)]) hx hb dX6_greatestOf_88 hl (k := 1) rfl (nI_add i 1) (by decide) rfl (fun ls hl => ?_)
        refine lv_goto (tgt := 5) hx hb dX6_greatestOf_91 (by decide) ?_
        exact ih_5 (w9, i + 1) (by show 6 - (i + 1) < 6 - i; omega) ⟨(show (i + 1) ≤ 6 from by omega), (show w9 = gro oo ii tb k (i + 1) from by rw [ha] at hv9; show _ = (if (oo k).testBit i && decide ((if (ii k).testBit i && decide (gro oo ii tb k i < tb (2 * i)) then tb (2 * i) else gro oo ii tb k i) < tb (2 * i + 1)) then tb (2 * i + 1) else (if (ii k).testBit i && decide (gro oo ii tb k i < tb (2 * i)) then tb (2 * i) else gro oo ii tb k i)); rw [← hv9]; exact hw9)⟩ _ _ _ hw (lv_sub hl [0, 1, 2, 3, 4] rfl)
set_option maxHeartbeats 4000000 in
set_option maxRecDepth 100000 in
theorem c_X6_span (l : Launch) (D : va_G) (cI cZ : ClassId) (mx : Nat) (m1 : Nat) (m2 : Nat) (m3 : Nat) (m4 : Nat) (m5 : Nat) (m6 : Nat) (m7 : Nat) (m8 : Nat) (m9 : Nat) (m10 : Nat) (n : Nat) (nl : Nat) (ct : Nat) (oo : Nat → Nat) (ii : Nat → Nat) (ss : Nat → Nat) (lle : Nat → Nat) (lmo : Nat → Nat) (x : Int32) (hn : n ≤ 16) (hoo : ∀ k, oo k < 64) (hii : ∀ k, ii k < 64) (hss : ∀ k, ss k < 64) (hlle : ∀ k, lle k < 101) (hlmo : ∀ k, lmo k < 101) : MI l D cI cZ yX6_span wsX6_span ({ frames := 2, cells := 0, slots := 0, locals := 41 }) [.ref mx, .int x] [(mx, .inr (6, [.int (nI n), .ref m1, .ref m2, .ref m3, .ref m4, .int (nI nl), .ref m5, .ref m6, .ref m7, .ref m8, .ref m9, .int (nI ct), .ref m10])), (m1, .inl (cI, 16, .inl (iA oo))), (m2, .inl (cI, 16, .inl (iA ii))), (m9, .inl (cI, 17, .inl (iA ss))), (m3, .inl (cI, 12, .inl (iA lle))), (m4, .inl (cI, 12, .inl (iA lmo)))] (fun r w => ∃ s9 : Nat → Nat, (∀ k, s9 k < 64) ∧ r = (gd2 (bel x (nI 3)) (fwR oo ii n) (if x = nI 0 then nI (sumR oo ii lle n) else if x = nI 1 then nI (sumR oo ii lmo n) else nI (sloR oo ii lmo n))) ∧ w = [(mx, .inr (6, [.int (nI n), .ref m1, .ref m2, .ref m3, .ref m4, .int (nI nl), .ref m5, .ref m6, .ref m7, .ref m8, .ref m9, .int (nI ct), .ref m10])), (m1, .inl (cI, 16, .inl (iA oo))), (m2, .inl (cI, 16, .inl (iA ii))), (m9, .inl (cI, 17, .inl (iA s9))), (m3, .inl (cI, 12, .inl (iA lle))), (m4, .inl (cI, 12, .inl (iA lmo)))]) := by
  refine MI.of (cc := cX6_span) (maxL := 5) (ret := (some .int)) (own := RX6) (by decide) rfl rfl (Nat.le_of_ble_eq_true rfl) ?_
  intro pQ eQ s mQ args below meth cQ A X hw ls hl
  obtain ⟨⟨hx, hb, hml, hown, hts⟩, hr, hlk, hK, hN, hA⟩ := id X
  have hl : lv_has ls 5 [(0, .ref mx), (1, .int x)] := hl
  have n6 : ∀ w ∈ wsX60, w ∈ wsX6_span := by decide +kernel
  have f16 : FF args s RX6 wsX6_span 16 6 3 := ⟨_, rfl, by decide, n6, hts (.fieldLink RX6 16 "AirStepsModel" "least" "[I") (by decide +kernel)⟩
  have f19 : FF args s RX6 wsX6_span 19 6 4 := ⟨_, rfl, by decide, n6, hts (.fieldLink RX6 19 "AirStepsModel" "most" "[I") (by decide +kernel)⟩
  have f45 : FF args s RX6 wsX6_span 45 6 0 := ⟨_, rfl, by decide, n6, hts (.fieldLink RX6 45 "AirStepsModel" "n" "I") (by decide +kernel)⟩
  refine lv_iload_n hx hb dX6_span_0 rfl (lv_at hl 1 rfl) ?_
  refine lv_iconst (v := nI 0) hx hb dX6_span_1 (by decide) ?_
  refine lv_iconst (v := nI 2) hx hb dX6_span_2 (by decide) ?_
  refine x_callS (As := [.int x, .int (nI 0), .int (nI 2)]) (rest := []) X hw hl.1 (c_X6_in l D cI cZ x (nI 0) (nI 2) ) (va_cwS 3 hts gX6_span_X6_in rfl rfl rfl (by decide +kernel) ⟨Nat.le_of_ble_eq_true rfl, Nat.le_of_ble_eq_true rfl⟩) [] rfl rfl rfl (Nat.le_of_ble_eq_true rfl) dX6_span_3 (by decide) (fun r w1 H locs hp hw1 => ?_)
  obtain ⟨rfl, rfl⟩ := hp
  have hw : WD D A s.heap [(mx, .inr (6, [.int (nI n), .ref m1, .ref m2, .ref m3, .ref m4, .int (nI nl), .ref m5, .ref m6, .ref m7, .ref m8, .ref m9, .int (nI ct), .ref m10])), (m1, .inl (cI, 16, .inl (iA oo))), (m2, .inl (cI, 16, .inl (iA ii))), (m9, .inl (cI, 17, .inl (iA ss))), (m3, .inl (cI, 12, .inl (iA lle))), (m4, .inl (cI, 12, .inl (iA lmo)))] H locs := hw1 rfl
  refine cv_i (show bI (inn x (nI 0) (nI 2)) = bI (bel x (nI 3)) from congrArg bI (inn_bel x (by decide))) ?_
  refine lv_if_ne (tgt := 12) hx hb dX6_span_6 (by decide) (fun c_6 => ?_) (fun c_6 => ?_)
  · skip
    rw [q_b0] at c_6; try simp only [Bool.not_eq_false, Bool.not_eq_true] at c_6
    obtain ⟨w9, hw9, rfl⟩ := bel_t (by decide) c_6
    refine lv_aload_n hx hb dX6_span_12 rfl (lv_at hl 0 rfl) ?_
    refine x_callV (As := []) (rest := []) X hw hl.1 (c_X6_isSound l D cI cZ mx m1 m2 m3 m4 m5 m6 m7 m8 m9 m10 n nl ct oo ii ss (by first | assumption | omega) (by first | assumption | omega) (by first | assumption | omega) (by first | assumption | omega)) (cwV 0 hts gX6_span_X6_isSound rfl rfl rfl (by decide +kernel) ⟨Nat.le_of_ble_eq_true rfl, Nat.le_of_ble_eq_true rfl⟩) [0, 1, 2, 3] rfl rfl 0 rfl rfl rfl rfl (Nat.le_of_ble_eq_true rfl) dX6_span_13 (by decide) (fun r w1 H locs hp hw1 => ?_)
    obtain ⟨s2, hs2, hb2, rfl, rfl⟩ := hp
    have hw : WD D A s.heap [(mx, .inr (6, [.int (nI n), .ref m1, .ref m2, .ref m3, .ref m4, .int (nI nl), .ref m5, .ref m6, .ref m7, .ref m8, .ref m9, .int (nI ct), .ref m10])), (m1, .inl (cI, 16, .inl (iA oo))), (m2, .inl (cI, 16, .inl (iA ii))), (m9, .inl (cI, 17, .inl (iA s2))), (m3, .inl (cI, 12, .inl (iA lle))), (m4, .inl (cI, 12, .inl (iA lmo)))] H locs := hw1 rfl
    refine lv_if_ne (tgt := 22) hx hb dX6_span_16 (by decide) (fun c_16 => ?_) (fun c_16 => ?_)
    · skip
      rw [q_b0] at c_16; try simp only [Bool.not_eq_false, Bool.not_eq_true] at c_16
      have hs := of_decide_eq_true c_16
      have hn0 := fwR_pos hs
      have hs3 := hs2 hs
      refine lv_iconst (v := nI 0) hx hb dX6_span_22 (by decide) ?_
      refine lv_istore_n (lv' := [(2, .int (nI 0)), (0, .ref mx), (1, .int (nI w9))]) hx hb dX6_span_23 rfl hl (by decide) rfl (fun ls hl => ?_)
      refine lv_iconst (v := nI 0) hx hb dX6_span_24 (by decide) ?_
      refine lv_istore_n (lv' := [(3, .int (nI 0)), (2, .int (nI 0)), (0, .ref mx), (1, .int (nI w9))]) hx hb dX6_span_25 rfl hl (by decide) rfl (fun ls hl => ?_)
      refine lv_iconst (v := nI 0) hx hb dX6_span_26 (by decide) ?_
      refine lv_istore (lv' := [(4, .int (nI 0)), (3, .int (nI 0)), (2, .int (nI 0)), (0, .ref mx), (1, .int (nI w9))]) hx hb dX6_span_27 hl (by decide) rfl (fun ls hl => ?_)
      refine wl (α := Nat × Nat × Nat) (nL := 5) (fun aQ => n - aQ.2.2) (fun aQ => (aQ.2.2 ≤ n) ∧ (aQ.1 = if w9 = 0 then sumR oo ii lle aQ.2.2 else sumR oo ii lmo aQ.2.2) ∧ (aQ.2.1 = sloR oo ii lmo aQ.2.2)) (fun aQ => [(mx, .inr (6, [.int (nI n), .ref m1, .ref m2, .ref m3, .ref m4, .int (nI nl), .ref m5, .ref m6, .ref m7, .ref m8, .ref m9, .int (nI ct), .ref m10])), (m1, .inl (cI, 16, .inl (iA oo))), (m2, .inl (cI, 16, .inl (iA ii))), (m9, .inl (cI, 17, .inl (iA s2))), (m3, .inl (cI, 12, .inl (iA lle))), (m4, .inl (cI, 12, .inl (iA lmo)))]) (fun aQ => [(4, .int (nI aQ.2.2)), (3, .int (nI aQ.2.1)), (2, .int (nI aQ.1)), (0, .ref mx), (1, .int (nI w9))]) ?_ (0, 0, 0) ⟨(show 0 ≤ n from by omega), (show 0 = if w9 = 0 then sumR oo ii lle 0 else sumR oo ii lmo 0 from by split <;> rfl), (show 0 = sloR oo ii lmo 0 from rfl)⟩ _ _ _ hw (lv_sub hl [0, 1, 2, 3, 4] rfl)
      rintro ⟨su, z, i⟩ ⟨hi, hsu, hzz⟩ H locs ls hw hl ih_29
      have hi : i ≤ n := hi
      have hsu : su = if w9 = 0 then sumR oo ii lle i else sumR oo ii lmo i := hsu
      have hzz : z = sloR oo ii lmo i := hzz
      have hw : WD D A s.heap [(mx, .inr (6, [.int (nI n), .ref m1, .ref m2, .ref m3, .ref m4, .int (nI nl), .ref m5, .ref m6, .ref m7, .ref m8, .ref m9, .int (nI ct), .ref m10])), (m1, .inl (cI, 16, .inl (iA oo))), (m2, .inl (cI, 16, .inl (iA ii))), (m9, .inl (cI, 17, .inl (iA s2))), (m3, .inl (cI, 12, .inl (iA lle))), (m4, .inl (cI, 12, .inl (iA lmo)))] H locs := hw
      have hl : lv_has ls 5 [(4, .int (nI i)), (3, .int (nI z)), (2, .int (nI su)), (0, .ref mx), (1, .int (nI w9))] := hl
      have hz : z < n := by rw [hzz]; exact sloR_lt hn0 i hi
      refine lv_iload hx hb dX6_span_29 (lv_at hl 0 rfl) ?_
      refine lv_aload_n hx hb dX6_span_31 rfl (lv_at hl 3 rfl) ?_
      refine x_get X hw f45 0 rfl rfl dX6_span_32 ?_
      refine lv_icmp_ge (tgt := 97) hx hb dX6_span_35 (by decide) (fun c_35 => ?_) (fun c_35 => ?_)
      · skip
        rw [nI_leI (by omega) (by omega)] at c_35
        refine lv_iload_n hx hb dX6_span_97 rfl (lv_at hl 4 rfl) ?_
        refine lv_iconst (v := nI 2) hx hb dX6_span_98 (by decide) ?_
        refine lv_icmp_ne (tgt := 106) hx hb dX6_span_99 (by decide) (fun c_99 => ?_) (fun c_99 => ?_)
        · skip
          rw [nI_eq (by omega) (by omega)] at c_99
          refine lv_iload_n hx hb dX6_span_106 rfl (lv_at hl 2 rfl) ?_
          exact x_iret X hw (⟨s2, (hb2), (by rw [gd2_t c_6, gd1_t hs, show n = i by omega]; have e0 : nI w9 = nI 0 ↔ w9 = 0 := nI_eq (by omega) (by decide); have e1 : nI w9 = nI 1 ↔ w9 = 1 := nI_eq (by omega) (by decide); simp only [e0, e1]; first | (rw [if_neg (by omega), if_neg (by omega), ← hzz]; done) | exact sp_lem hsu (by omega)), rfl⟩) dX6_span_107
        · skip
          rw [nI_eq (by omega) (by omega)] at c_99
          refine lv_iload_n hx hb dX6_span_102 rfl (lv_at hl 1 rfl) ?_
          refine lv_goto (tgt := 107) hx hb dX6_span_103 (by decide) ?_
          exact x_iret X hw (⟨s2, (hb2), (by rw [gd2_t c_6, gd1_t hs, show n = i by omega]; have e0 : nI w9 = nI 0 ↔ w9 = 0 := nI_eq (by omega) (by decide); have e1 : nI w9 = nI 1 ↔ w9 = 1 := nI_eq (by omega) (by decide); simp only [e0, e1]; first | (rw [if_neg (by omega), if_neg (by omega), ← hzz]; done) | exact sp_lem hsu (by omega)), rfl⟩) dX6_span_107
      · skip
        rw [nI_leI (by omega) (by omega)] at c_35
        refine lv_iload_n hx hb dX6_span_38 rfl (lv_at hl 2 rfl) ?_
        refine lv_aload_n hx hb dX6_span_39 rfl (lv_at hl 3 rfl) ?_
        refine lv_iload hx hb dX6_span_40 (lv_at hl 0 rfl) ?_
        refine lv_iload_n hx hb dX6_span_42 rfl (lv_at hl 4 rfl) ?_
        refine lv_if_ne (tgt := 53) hx hb dX6_span_43 (by decide) (fun c_43 => ?_) (fun c_43 => ?_)
        · skip
          rw [q_eq0 (by omega)] at c_43
          refine lv_aload_n hx hb dX6_span_53 rfl (lv_at hl 3 rfl) ?_
          refine x_get X hw f19 0 rfl rfl dX6_span_54 ?_
          refine x_callV (As := [.int (nI i), .ref m4]) (rest := [.int (nI su)]) X hw hl.1 (c_X6_greatestOf l D cI cZ mx m1 m2 m3 m4 m5 m6 m7 m8 m9 m10 n nl ct oo ii i m4 lmo (by first | assumption | omega) (by first | assumption | omega) (by first | assumption | omega) (by first | assumption | exact hlle | exact hlmo) (by first | assumption | omega)) (cwV 2 hts gX6_span_X6_greatestOf rfl rfl rfl (by decide +kernel) ⟨Nat.le_of_ble_eq_true rfl, Nat.le_of_ble_eq_true rfl⟩) [0, 1, 2, 5] rfl rfl 0 rfl rfl rfl rfl (Nat.le_of_ble_eq_true rfl) dX6_span_57 (by decide) (fun r w1 H locs hp hw1 => ?_)
          obtain ⟨rfl, rfl⟩ := hp
          have hw : WD D A s.heap [(mx, .inr (6, [.int (nI n), .ref m1, .ref m2, .ref m3, .ref m4, .int (nI nl), .ref m5, .ref m6, .ref m7, .ref m8, .ref m9, .int (nI ct), .ref m10])), (m1, .inl (cI, 16, .inl (iA oo))), (m2, .inl (cI, 16, .inl (iA ii))), (m9, .inl (cI, 17, .inl (iA s2))), (m3, .inl (cI, 12, .inl (iA lle))), (m4, .inl (cI, 12, .inl (iA lmo)))] H locs := hw1 rfl
          refine lv_iadd hx hb dX6_span_60 ?_
          refine cv_i (show nI su + nI (gro oo ii lmo i 6) = nI (su + (gro oo ii lmo i 6)) from nI_add su (gro oo ii lmo i 6)) ?_
          refine lv_istore_n (lv' := [(2, .int (nI (su + (gro oo ii lmo i 6)))), (4, .int (nI i)), (3, .int (nI z)), (0, .ref mx), (1, .int (nI w9))]) hx hb dX6_span_61 rfl hl (by decide) rfl (fun ls hl => ?_)
          refine wj (α := Nat) (nL := 5) 90 (fun aQ => (aQ = if gro oo ii lmo z 6 < gro oo ii lmo i 6 then i else z)) (fun aQ => [(mx, .inr (6, [.int (nI n), .ref m1, .ref m2, .ref m3, .ref m4, .int (nI nl), .ref m5, .ref m6, .ref m7, .ref m8, .ref m9, .int (nI ct), .ref m10])), (m1, .inl (cI, 16, .inl (iA oo))), (m2, .inl (cI, 16, .inl (iA ii))), (m9, .inl (cI, 17, .inl (iA s2))), (m3, .inl (cI, 12, .inl (iA lle))), (m4, .inl (cI, 12, .inl (iA lmo)))]) (fun aQ => [(2, .int (nI (su + (gro oo ii lmo i 6)))), (4, .int (nI i)), (3, .int (nI z)), (0, .ref mx), (1, .int (nI w9))]) (fun aQ => [.int (nI aQ)]) (D := D) (A := A) (H0 := s.heap) (fun J90 => ?_) ?_
          · skip
            refine lv_aload_n hx hb dX6_span_62 rfl (lv_at hl 3 rfl) ?_
            refine lv_iload hx hb dX6_span_63 (lv_at hl 1 rfl) ?_
            refine lv_aload_n hx hb dX6_span_65 rfl (lv_at hl 3 rfl) ?_
            refine x_get X hw f19 0 rfl rfl dX6_span_66 ?_
            refine x_callV (As := [.int (nI i), .ref m4]) (rest := []) X hw hl.1 (c_X6_greatestOf l D cI cZ mx m1 m2 m3 m4 m5 m6 m7 m8 m9 m10 n nl ct oo ii i m4 lmo (by first | assumption | omega) (by first | assumption | omega) (by first | assumption | omega) (hlmo) (by first | assumption | omega)) (cwV 2 hts gX6_span_X6_greatestOf rfl rfl rfl (by decide +kernel) ⟨Nat.le_of_ble_eq_true rfl, Nat.le_of_ble_eq_true rfl⟩) [0, 1, 2, 5] rfl rfl 0 rfl rfl rfl rfl (Nat.le_of_ble_eq_true rfl) dX6_span_69 (by decide) (fun r w1 H locs hp hw1 => ?_)
            obtain ⟨rfl, rfl⟩ := hp
            have hw : WD D A s.heap [(mx, .inr (6, [.int (nI n), .ref m1, .ref m2, .ref m3, .ref m4, .int (nI nl), .ref m5, .ref m6, .ref m7, .ref m8, .ref m9, .int (nI ct), .ref m10])), (m1, .inl (cI, 16, .inl (iA oo))), (m2, .inl (cI, 16, .inl (iA ii))), (m9, .inl (cI, 17, .inl (iA s2))), (m3, .inl (cI, 12, .inl (iA lle))), (m4, .inl (cI, 12, .inl (iA lmo)))] H locs := hw1 rfl
            have hg1 := gro_lt (oo := oo) (ii := ii) (k := i) hlmo 6
            refine lv_aload_n hx hb dX6_span_72 rfl (lv_at hl 3 rfl) ?_
            refine lv_iload_n hx hb dX6_span_73 rfl (lv_at hl 2 rfl) ?_
            refine lv_aload_n hx hb dX6_span_74 rfl (lv_at hl 3 rfl) ?_
            refine x_get X hw f19 0 rfl rfl dX6_span_75 ?_
            refine x_callV (As := [.int (nI z), .ref m4]) (rest := [.int (nI (gro oo ii lmo i 6))]) X hw hl.1 (c_X6_greatestOf l D cI cZ mx m1 m2 m3 m4 m5 m6 m7 m8 m9 m10 n nl ct oo ii z m4 lmo (by first | assumption | omega) (by first | assumption | omega) (by first | assumption | omega) (hlmo) (hz)) (cwV 2 hts gX6_span_X6_greatestOf rfl rfl rfl (by decide +kernel) ⟨Nat.le_of_ble_eq_true rfl, Nat.le_of_ble_eq_true rfl⟩) [0, 1, 2, 5] rfl rfl 0 rfl rfl rfl rfl (Nat.le_of_ble_eq_true rfl) dX6_span_78 (by decide) (fun r w1 H locs hp hw1 => ?_)
            obtain ⟨rfl, rfl⟩ := hp
            have hw : WD D A s.heap [(mx, .inr (6, [.int (nI n), .ref m1, .ref m2, .ref m3, .ref m4, .int (nI nl), .ref m5, .ref m6, .ref m7, .ref m8, .ref m9, .int (nI ct), .ref m10])), (m1, .inl (cI, 16, .inl (iA oo))), (m2, .inl (cI, 16, .inl (iA ii))), (m9, .inl (cI, 17, .inl (iA s2))), (m3, .inl (cI, 12, .inl (iA lle))), (m4, .inl (cI, 12, .inl (iA lmo)))] H locs := hw1 rfl
            have hg2 := gro_lt (oo := oo) (ii := ii) (k := z) hlmo 6
            refine lv_icmp_le (tgt := 89) hx hb dX6_span_81 (by decide) (fun c_81 => ?_) (fun c_81 => ?_)
            · skip
              rw [nI_leI (by omega) (by omega)] at c_81
              refine lv_iload_n hx hb dX6_span_89 rfl (lv_at hl 2 rfl) ?_
              exact J90 z (show z = if gro oo ii lmo z 6 < gro oo ii lmo i 6 then i else z from by simp [c_81]; try omega) _ _ _ hw (lv_sub hl [0, 1, 2, 3, 4] rfl)
            · skip
              rw [nI_leI (by omega) (by omega)] at c_81
              refine lv_iload hx hb dX6_span_84 (lv_at hl 1 rfl) ?_
              refine lv_goto (tgt := 90) hx hb dX6_span_86 (by decide) ?_
              exact J90 i (show i = if gro oo ii lmo z 6 < gro oo ii lmo i 6 then i else z from by simp [c_81]; try omega) _ _ _ hw (lv_sub hl [0, 1, 2, 3, 4] rfl)
          · rintro z2 hz2 H locs ls hw hl
            have hz2 : z2 = if gro oo ii lmo z 6 < gro oo ii lmo i 6 then i else z := hz2
            have hw : WD D A s.heap [(mx, .inr (6, [.int (nI n), .ref m1, .ref m2, .ref m3, .ref m4, .int (nI nl), .ref m5, .ref m6, .ref m7, .ref m8, .ref m9, .int (nI ct), .ref m10])), (m1, .inl (cI, 16, .inl (iA oo))), (m2, .inl (cI, 16, .inl (iA ii))), (m9, .inl (cI, 17, .inl (iA s2))), (m3, .inl (cI, 12, .inl (iA lle))), (m4, .inl (cI, 12, .inl (iA lmo)))] H locs := hw
            have hl : lv_has ls 5 [(2, .int (nI (su + (gro oo ii lmo i 6)))), (4, .int (nI i)), (3, .int (nI z)), (0, .ref mx), (1, .int (nI w9))] := hl
            refine lv_istore_n (lv' := [(3, .int (nI z2)), (2, .int (nI (su + (gro oo ii lmo i 6)))), (4, .int (nI i)), (0, .ref mx), (1, .int (nI w9))]) hx hb dX6_span_90 rfl hl (by decide) rfl (fun ls hl => ?_)
            refine lv_iinc (v := nI (i + 1)) (lv' := [(4, .int (nI (i + 1))), (3, .int (nI z2)), (2, .int (nI (su + (gro oo ii lmo i 6)))), (0, .ref mx), (1, .int (nI w9))]) hx hb dX6_span_91 hl (k := 2) rfl (nI_add i 1) (by decide) rfl (fun ls hl => ?_)
            refine lv_goto (tgt := 29) hx hb dX6_span_94 (by decide) ?_
            exact ih_29 (su + (gro oo ii lmo i 6), z2, i + 1) (by show n - (i + 1) < n - i; omega) ⟨(show (i + 1) ≤ n from by omega), (show (su + (gro oo ii lmo i 6)) = if w9 = 0 then sumR oo ii lle (i + 1) else sumR oo ii lmo (i + 1) from by rw [hsu]; simp [c_43]; rfl), (show z2 = sloR oo ii lmo (i + 1) from by rw [hz2, hzz]; rfl)⟩ _ _ _ hw (lv_sub hl [0, 1, 2, 3, 4] rfl)
        · skip
          rw [q_eq0 (by omega)] at c_43
          refine lv_aload_n hx hb dX6_span_46 rfl (lv_at hl 3 rfl) ?_
          refine x_get X hw f16 0 rfl rfl dX6_span_47 ?_
          refine lv_goto (tgt := 57) hx hb dX6_span_50 (by decide) ?_
          refine x_callV (As := [.int (nI i), .ref m3]) (rest := [.int (nI su)]) X hw hl.1 (c_X6_greatestOf l D cI cZ mx m1 m2 m3 m4 m5 m6 m7 m8 m9 m10 n nl ct oo ii i m3 lle (by first | assumption | omega) (by first | assumption | omega) (by first | assumption | omega) (by first | assumption | exact hlle | exact hlmo) (by first | assumption | omega)) (cwV 2 hts gX6_span_X6_greatestOf rfl rfl rfl (by decide +kernel) ⟨Nat.le_of_ble_eq_true rfl, Nat.le_of_ble_eq_true rfl⟩) [0, 1, 2, 4] rfl rfl 0 rfl rfl rfl rfl (Nat.le_of_ble_eq_true rfl) dX6_span_57 (by decide) (fun r w1 H locs hp hw1 => ?_)
          obtain ⟨rfl, rfl⟩ := hp
          have hw : WD D A s.heap [(mx, .inr (6, [.int (nI n), .ref m1, .ref m2, .ref m3, .ref m4, .int (nI nl), .ref m5, .ref m6, .ref m7, .ref m8, .ref m9, .int (nI ct), .ref m10])), (m1, .inl (cI, 16, .inl (iA oo))), (m2, .inl (cI, 16, .inl (iA ii))), (m9, .inl (cI, 17, .inl (iA s2))), (m3, .inl (cI, 12, .inl (iA lle))), (m4, .inl (cI, 12, .inl (iA lmo)))] H locs := hw1 rfl
          refine lv_iadd hx hb dX6_span_60 ?_
          refine cv_i (show nI su + nI (gro oo ii lle i 6) = nI (su + (gro oo ii lle i 6)) from nI_add su (gro oo ii lle i 6)) ?_
          refine lv_istore_n (lv' := [(2, .int (nI (su + (gro oo ii lle i 6)))), (4, .int (nI i)), (3, .int (nI z)), (0, .ref mx), (1, .int (nI w9))]) hx hb dX6_span_61 rfl hl (by decide) rfl (fun ls hl => ?_)
          refine wj (α := Nat) (nL := 5) 90 (fun aQ => (aQ = if gro oo ii lmo z 6 < gro oo ii lmo i 6 then i else z)) (fun aQ => [(mx, .inr (6, [.int (nI n), .ref m1, .ref m2, .ref m3, .ref m4, .int (nI nl), .ref m5, .ref m6, .ref m7, .ref m8, .ref m9, .int (nI ct), .ref m10])), (m1, .inl (cI, 16, .inl (iA oo))), (m2, .inl (cI, 16, .inl (iA ii))), (m9, .inl (cI, 17, .inl (iA s2))), (m3, .inl (cI, 12, .inl (iA lle))), (m4, .inl (cI, 12, .inl (iA lmo)))]) (fun aQ => [(2, .int (nI (su + (gro oo ii lle i 6)))), (4, .int (nI i)), (3, .int (nI z)), (0, .ref mx), (1, .int (nI w9))]) (fun aQ => [.int (nI aQ)]) (D := D) (A := A) (H0 := s.heap) (fun J90 => ?_) ?_
          · skip
            refine lv_aload_n hx hb dX6_span_62 rfl (lv_at hl 3 rfl) ?_
            refine lv_iload hx hb dX6_span_63 (lv_at hl 1 rfl) ?_
            refine lv_aload_n hx hb dX6_span_65 rfl (lv_at hl 3 rfl) ?_
            refine x_get X hw f19 0 rfl rfl dX6_span_66 ?_
            refine x_callV (As := [.int (nI i), .ref m4]) (rest := []) X hw hl.1 (c_X6_greatestOf l D cI cZ mx m1 m2 m3 m4 m5 m6 m7 m8 m9 m10 n nl ct oo ii i m4 lmo (by first | assumption | omega) (by first | assumption | omega) (by first | assumption | omega) (hlmo) (by first | assumption | omega)) (cwV 2 hts gX6_span_X6_greatestOf rfl rfl rfl (by decide +kernel) ⟨Nat.le_of_ble_eq_true rfl, Nat.le_of_ble_eq_true rfl⟩) [0, 1, 2, 5] rfl rfl 0 rfl rfl rfl rfl (Nat.le_of_ble_eq_true rfl) dX6_span_69 (by decide) (fun r w1 H locs hp hw1 => ?_)
            obtain ⟨rfl, rfl⟩ := hp
            have hw : WD D A s.heap [(mx, .inr (6, [.int (nI n), .ref m1, .ref m2, .ref m3, .ref m4, .int (nI nl), .ref m5, .ref m6, .ref m7, .ref m8, .ref m9, .int (nI ct), .ref m10])), (m1, .inl (cI, 16, .inl (iA oo))), (m2, .inl (cI, 16, .inl (iA ii))), (m9, .inl (cI, 17, .inl (iA s2))), (m3, .inl (cI, 12, .inl (iA lle))), (m4, .inl (cI, 12, .inl (iA lmo)))] H locs := hw1 rfl
            have hg1 := gro_lt (oo := oo) (ii := ii) (k := i) hlmo 6
            refine lv_aload_n hx hb dX6_span_72 rfl (lv_at hl 3 rfl) ?_
            refine lv_iload_n hx hb dX6_span_73 rfl (lv_at hl 2 rfl) ?_
            refine lv_aload_n hx hb dX6_span_74 rfl (lv_at hl 3 rfl) ?_
            refine x_get X hw f19 0 rfl rfl dX6_span_75 ?_
            refine x_callV (As := [.int (nI z), .ref m4]) (rest := [.int (nI (gro oo ii lmo i 6))]) X hw hl.1 (c_X6_greatestOf l D cI cZ mx m1 m2 m3 m4 m5 m6 m7 m8 m9 m10 n nl ct oo ii z m4 lmo (by first | assumption | omega) (by first | assumption | omega) (by first | assumption | omega) (hlmo) (hz)) (cwV 2 hts gX6_span_X6_greatestOf rfl rfl rfl (by decide +kernel) ⟨Nat.le_of_ble_eq_true rfl, Nat.le_of_ble_eq_true rfl⟩) [0, 1, 2, 5] rfl rfl 0 rfl rfl rfl rfl (Nat.le_of_ble_eq_true rfl) dX6_span_78 (by decide) (fun r w1 H locs hp hw1 => ?_)
            obtain ⟨rfl, rfl⟩ := hp
            have hw : WD D A s.heap [(mx, .inr (6, [.int (nI n), .ref m1, .ref m2, .ref m3, .ref m4, .int (nI nl), .ref m5, .ref m6, .ref m7, .ref m8, .ref m9, .int (nI ct), .ref m10])), (m1, .inl (cI, 16, .inl (iA oo))), (m2, .inl (cI, 16, .inl (iA ii))), (m9, .inl (cI, 17, .inl (iA s2))), (m3, .inl (cI, 12, .inl (iA lle))), (m4, .inl (cI, 12, .inl (iA lmo)))] H locs := hw1 rfl
            have hg2 := gro_lt (oo := oo) (ii := ii) (k := z) hlmo 6
            refine lv_icmp_le (tgt := 89) hx hb dX6_span_81 (by decide) (fun c_81 => ?_) (fun c_81 => ?_)
            · skip
              rw [nI_leI (by omega) (by omega)] at c_81
              refine lv_iload_n hx hb dX6_span_89 rfl (lv_at hl 2 rfl) ?_
              exact J90 z (show z = if gro oo ii lmo z 6 < gro oo ii lmo i 6 then i else z from by simp [c_81]; try omega) _ _ _ hw (lv_sub hl [0, 1, 2, 3, 4] rfl)
            · skip
              rw [nI_leI (by omega) (by omega)] at c_81
              refine lv_iload hx hb dX6_span_84 (lv_at hl 1 rfl) ?_
              refine lv_goto (tgt := 90) hx hb dX6_span_86 (by decide) ?_
              exact J90 i (show i = if gro oo ii lmo z 6 < gro oo ii lmo i 6 then i else z from by simp [c_81]; try omega) _ _ _ hw (lv_sub hl [0, 1, 2, 3, 4] rfl)
          · rintro z2 hz2 H locs ls hw hl
            have hz2 : z2 = if gro oo ii lmo z 6 < gro oo ii lmo i 6 then i else z := hz2
            have hw : WD D A s.heap [(mx, .inr (6, [.int (nI n), .ref m1, .ref m2, .ref m3, .ref m4, .int (nI nl), .ref m5, .ref m6, .ref m7, .ref m8, .ref m9, .int (nI ct), .ref m10])), (m1, .inl (cI, 16, .inl (iA oo))), (m2, .inl (cI, 16, .inl (iA ii))), (m9, .inl (cI, 17, .inl (iA s2))), (m3, .inl (cI, 12, .inl (iA lle))), (m4, .inl (cI, 12, .inl (iA lmo)))] H locs := hw
            have hl : lv_has ls 5 [(2, .int (nI (su + (gro oo ii lle i 6)))), (4, .int (nI i)), (3, .int (nI z)), (0, .ref mx), (1, .int (nI w9))] := hl
            refine lv_istore_n (lv' := [(3, .int (nI z2)), (2, .int (nI (su + (gro oo ii lle i 6)))), (4, .int (nI i)), (0, .ref mx), (1, .int (nI w9))]) hx hb dX6_span_90 rfl hl (by decide) rfl (fun ls hl => ?_)
            refine lv_iinc (v := nI (i + 1)) (lv' := [(4, .int (nI (i + 1))), (3, .int (nI z2)), (2, .int (nI (su + (gro oo ii lle i 6)))), (0, .ref mx), (1, .int (nI w9))]) hx hb dX6_span_91 hl (k := 2) rfl (nI_add i 1) (by decide) rfl (fun ls hl => ?_)
            refine lv_goto (tgt := 29) hx hb dX6_span_94 (by decide) ?_
            exact ih_29 (su + (gro oo ii lle i 6), z2, i + 1) (by show n - (i + 1) < n - i; omega) ⟨(show (i + 1) ≤ n from by omega), (show (su + (gro oo ii lle i 6)) = if w9 = 0 then sumR oo ii lle (i + 1) else sumR oo ii lmo (i + 1) from by rw [hsu]; simp [c_43]; rfl), (show z2 = sloR oo ii lmo (i + 1) from by rw [hz2, hzz]; rfl)⟩ _ _ _ hw (lv_sub hl [0, 1, 2, 3, 4] rfl)
    · skip
      rw [q_b0] at c_16; try simp only [Bool.not_eq_false, Bool.not_eq_true] at c_16
      have hs := of_decide_eq_false c_16
      refine lv_bipush (v := (-3)) hx hb dX6_span_19 (by decide) ?_
      exact x_iret X hw (⟨s2, (hb2), (by rw [gd2_t c_6, gd1_f hs]), rfl⟩) dX6_span_21
  · skip
    rw [q_b0] at c_6; try simp only [Bool.not_eq_false, Bool.not_eq_true] at c_6
    refine lv_bipush (v := (-2)) hx hb dX6_span_9 (by decide) ?_
    exact x_iret X hw (⟨ss, (hss), ((gd2_f c_6).symm), rfl⟩) dX6_span_11
