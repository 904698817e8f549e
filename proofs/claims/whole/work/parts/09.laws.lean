/-! ===== AirSteps.Laws ===== -/
def brk (ba wh : Nat → Nat) (e st i : Nat) : Bool := e.testBit (ba i) && ((sen st).testBit (wh i) || (cyl e).testBit (cyE (wh i)))
def alw (ba wh : Nat → Nat) (nl e st : Nat) : Bool := decide (¬ fs (brk ba wh e st) nl < nl)
def mvE (st c : Nat) : Nat := (anN (1 <<< c) st <<< 6) ||| ((1 <<< c) &&& st)
theorem mvE_lt : ∀ st, st < 64 → ∀ c, c < 6 → mvE st c < 4096 := by decide +kernel
def alM (ba wh : Nat → Nat) (nl st c : Nat) : Bool := alw ba wh nl (mvE st c) st
theorem cyE_lt {e : Nat} (h : e < 12) : cyE e < 6 := by unfold cyE; split <;> omega
theorem shl_step {α : Type} {f g : Nat → α} {k i : Nat} (h : ∀ j, f j = if k ≤ j ∧ j < i then g (j + 1) else g j) (hi : k ≤ i) : ∀ j, va_up f i (f (i + 1)) j = if k ≤ j ∧ j < i + 1 then g (j + 1) else g j := by
  intro j
  unfold va_up
  by_cases hj : j = i
  · subst hj
    rw [if_pos rfl, if_pos ⟨hi, Nat.lt_succ_self _⟩, h, if_neg (by omega)]
  · rw [if_neg hj, h]
    by_cases hk : k ≤ j ∧ j < i
    · rw [if_pos hk, if_pos ⟨hk.1, by omega⟩]
    · rw [if_neg hk, if_neg (by omega)]
set_option maxHeartbeats 4000000 in
set_option maxRecDepth 100000 in
theorem c_X1_size (l : Launch) (D : va_G) (cI cZ : ClassId) (la : Nat) (lb : Nat) (lw : Nat) (ba : Nat → Nat) (wh : Nat → Nat) (nl : Nat)  : MI l D cI cZ yX1_size wsX1_size ({ frames := 0, cells := 0, slots := 0, locals := 0 }) [.ref la] [(la, .inr (1, [.ref lb, .ref lw, .int (nI nl)])), (lb, .inl (cI, 12, .inl (iA ba))), (lw, .inl (cI, 12, .inl (iA wh)))] (fun r w => r = (nI nl) ∧ w = [(la, .inr (1, [.ref lb, .ref lw, .int (nI nl)])), (lb, .inl (cI, 12, .inl (iA ba))), (lw, .inl (cI, 12, .inl (iA wh)))]) := by
  refine MI.of (cc := cX1_size) (maxL := 1) (ret := (some .int)) (own := RX1) (by decide) rfl rfl (Nat.le_of_ble_eq_true rfl) ?_
  intro pQ eQ s mQ args below meth cQ A X hw ls hl
  obtain ⟨⟨hx, hb, hml, hown, hts⟩, hr, hlk, hK, hN, hA⟩ := id X
  have hl : lv_has ls 1 [(0, .ref la)] := hl
  have n1 : ∀ w ∈ wsX10, w ∈ wsX1_size := by decide +kernel
  have f18 : FF args s RX1 wsX1_size 18 1 2 := ⟨_, rfl, by decide, n1, hts (.fieldLink RX1 18 "AirSteps$Laws" "size" "I") (by decide +kernel)⟩
  refine lv_aload_n hx hb dX1_size_0 rfl (lv_at hl 0 rfl) ?_
  refine x_get X hw f18 0 rfl rfl dX1_size_1 ?_
  exact x_iret X hw (⟨(by first | rfl | omega), rfl⟩) dX1_size_4
set_option maxHeartbeats 4000000 in
set_option maxRecDepth 100000 in
theorem c_X1_add (l : Launch) (D : va_G) (cI cZ : ClassId) (la : Nat) (lb : Nat) (lw : Nat) (ba : Nat → Nat) (wh : Nat → Nat) (nl : Nat) (a : Nat) (b : Nat) (hnl12 : nl < 12) : MV l D cI cZ yX1_add wsX1_add ({ frames := 0, cells := 0, slots := 0, locals := 0 }) [.ref la, .int (nI a), .int (nI b)] [(la, .inr (1, [.ref lb, .ref lw, .int (nI nl)])), (lb, .inl (cI, 12, .inl (iA ba))), (lw, .inl (cI, 12, .inl (iA wh)))] 0 0 (fun w => w = [(la, .inr (1, [.ref lb, .ref lw, .int (nI (nl + 1))])), (lb, .inl (cI, 12, .inl (iA (va_up ba nl a)))), (lw, .inl (cI, 12, .inl (iA (va_up wh nl b))))]) := by
  refine MV.of (cc := cX1_add) (maxL := 3) (ret := none) (own := RX1) (by decide) rfl rfl (Nat.le_of_ble_eq_true rfl) ?_
  intro pQ eQ s mQ args below meth cQ A X hnm hw ls hl
  obtain ⟨⟨hx, hb, hml, hown, hts⟩, hr, hlk, hK, hN, hA⟩ := id X
  have hl : lv_has ls 3 [(0, .ref la), (1, .int (nI a)), (2, .int (nI b))] := hl
  have n1 : ∀ w ∈ wsX10, w ∈ wsX1_add := by decide +kernel
  have f9 : FF args s RX1 wsX1_add 9 1 0 := ⟨_, rfl, by decide, n1, hts (.fieldLink RX1 9 "AirSteps$Laws" "barred" "[I") (by decide +kernel)⟩
  have f15 : FF args s RX1 wsX1_add 15 1 1 := ⟨_, rfl, by decide, n1, hts (.fieldLink RX1 15 "AirSteps$Laws" "whileAt" "[I") (by decide +kernel)⟩
  have f18 : FF args s RX1 wsX1_add 18 1 2 := ⟨_, rfl, by decide, n1, hts (.fieldLink RX1 18 "AirSteps$Laws" "size" "I") (by decide +kernel)⟩
  have p18 : FP args s RX1 wsX1_add 18 1 2 := ⟨_, tyX1, rfl, by decide, n1, hts (.fieldLink RX1 18 "AirSteps$Laws" "size" "I") (by decide +kernel), tyX1_ok, nmX1, rfl, by decide +kernel⟩
  refine lv_aload_n hx hb dX1_add_0 rfl (lv_at hl 0 rfl) ?_
  refine x_get X hw f18 0 rfl rfl dX1_add_1 ?_
  refine lv_bipush (v := nI 12) hx hb dX1_add_4 (by decide) ?_
  refine lv_icmp_lt (tgt := 10) hx hb dX1_add_6 (by decide) (fun c_6 => ?_) (fun c_6 => ?_)
  · skip
    rw [nI_ltI (by omega) (by omega)] at c_6
    refine lv_aload_n hx hb dX1_add_10 rfl (lv_at hl 0 rfl) ?_
    refine x_get X hw f9 0 rfl rfl dX1_add_11 ?_
    refine lv_aload_n hx hb dX1_add_14 rfl (lv_at hl 0 rfl) ?_
    refine x_get X hw f18 0 rfl rfl dX1_add_15 ?_
    refine lv_iload_n hx hb dX1_add_18 rfl (lv_at hl 1 rfl) ?_
    refine x_astN X hw 1 rfl (by omega) (by omega) dX1_add_19 (fun H locs hw => ?_)
    have hw : WD D A s.heap [(la, .inr (1, [.ref lb, .ref lw, .int (nI nl)])), (lb, .inl (cI, 12, .inl (iA (va_up ba nl a)))), (lw, .inl (cI, 12, .inl (iA wh)))] H locs := hw
    refine lv_aload_n hx hb dX1_add_20 rfl (lv_at hl 0 rfl) ?_
    refine x_get X hw f15 0 rfl rfl dX1_add_21 ?_
    refine lv_aload_n hx hb dX1_add_24 rfl (lv_at hl 0 rfl) ?_
    refine x_get X hw f18 0 rfl rfl dX1_add_25 ?_
    refine lv_iload_n hx hb dX1_add_28 rfl (lv_at hl 2 rfl) ?_
    refine x_astN X hw 2 rfl (by omega) (by omega) dX1_add_29 (fun H locs hw => ?_)
    have hw : WD D A s.heap [(la, .inr (1, [.ref lb, .ref lw, .int (nI nl)])), (lb, .inl (cI, 12, .inl (iA (va_up ba nl a)))), (lw, .inl (cI, 12, .inl (iA (va_up wh nl b))))] H locs := hw
    refine lv_aload_n hx hb dX1_add_30 rfl (lv_at hl 0 rfl) ?_
    refine lv_dup hx hb dX1_add_31 rfl ?_
    refine x_get X hw f18 0 rfl rfl dX1_add_32 ?_
    refine lv_iconst (v := nI 1) hx hb dX1_add_35 (by decide) ?_
    refine lv_iadd hx hb dX1_add_36 ?_
    refine cv_i (show nI nl + nI 1 = nI (nl + 1) from nI_add nl 1) ?_
    refine x_put X hw p18 0 rfl (Nat.le_of_ble_eq_true rfl) dX1_add_37 (fun H locs hw => ?_)
    have hw : WD D A s.heap [(la, .inr (1, [.ref lb, .ref lw, .int (nI (nl + 1))])), (lb, .inl (cI, 12, .inl (iA (va_up ba nl a)))), (lw, .inl (cI, 12, .inl (iA (va_up wh nl b))))] H locs := hw
    exact x_vret X hw (rfl) dX1_add_40
  · skip
    rw [nI_ltI (by omega) (by omega)] at c_6
    exact absurd hnl12 c_6
set_option maxHeartbeats 4000000 in
set_option maxRecDepth 100000 in
theorem c_X1_remove (l : Launch) (D : va_G) (cI cZ : ClassId) (la : Nat) (lb : Nat) (lw : Nat) (ba : Nat → Nat) (wh : Nat → Nat) (nl : Nat) (k : Nat) (hnl : nl ≤ 12) (hk : k < nl) : MV l D cI cZ yX1_remove wsX1_remove ({ frames := 1, cells := 0, slots := 0, locals := 21 }) [.ref la, .int (nI k)] [(la, .inr (1, [.ref lb, .ref lw, .int (nI nl)])), (lb, .inl (cI, 12, .inl (iA ba))), (lw, .inl (cI, 12, .inl (iA wh)))] 0 0 (fun w => ∃ fb : Nat → Nat, ∃ fw : Nat → Nat, (∀ j, fb j = if k ≤ j ∧ j < nl - 1 then ba (j + 1) else ba j) ∧ (∀ j, fw j = if k ≤ j ∧ j < nl - 1 then wh (j + 1) else wh j) ∧ w = [(la, .inr (1, [.ref lb, .ref lw, .int (nI (nl - 1))])), (lb, .inl (cI, 12, .inl (iA fb))), (lw, .inl (cI, 12, .inl (iA fw)))]) := by
  refine MV.of (cc := cX1_remove) (maxL := 3) (ret := none) (own := RX1) (by decide) rfl rfl (Nat.le_of_ble_eq_true rfl) ?_
  intro pQ eQ s mQ args below meth cQ A X hnm hw ls hl
  obtain ⟨⟨hx, hb, hml, hown, hts⟩, hr, hlk, hK, hN, hA⟩ := id X
  have hl : lv_has ls 3 [(0, .ref la), (1, .int (nI k))] := hl
  have n1 : ∀ w ∈ wsX10, w ∈ wsX1_remove := by decide +kernel
  have f9 : FF args s RX1 wsX1_remove 9 1 0 := ⟨_, rfl, by decide, n1, hts (.fieldLink RX1 9 "AirSteps$Laws" "barred" "[I") (by decide +kernel)⟩
  have f15 : FF args s RX1 wsX1_remove 15 1 1 := ⟨_, rfl, by decide, n1, hts (.fieldLink RX1 15 "AirSteps$Laws" "whileAt" "[I") (by decide +kernel)⟩
  have f18 : FF args s RX1 wsX1_remove 18 1 2 := ⟨_, rfl, by decide, n1, hts (.fieldLink RX1 18 "AirSteps$Laws" "size" "I") (by decide +kernel)⟩
  have p18 : FP args s RX1 wsX1_remove 18 1 2 := ⟨_, tyX1, rfl, by decide, n1, hts (.fieldLink RX1 18 "AirSteps$Laws" "size" "I") (by decide +kernel), tyX1_ok, nmX1, rfl, by decide +kernel⟩
  refine lv_iload_n hx hb dX1_remove_0 rfl (lv_at hl 1 rfl) ?_
  refine lv_aload_n hx hb dX1_remove_1 rfl (lv_at hl 0 rfl) ?_
  refine x_get X hw f18 0 rfl rfl dX1_remove_2 ?_
  refine x_callN (As := [.int (nI k), .int (nI nl)]) (rest := []) (host := RX5) (n := 2) X hw hl.1 (c_X5_isBelow l D cI cZ (nI k) (nI nl) ) gX1_remove_X5_isBelow_n22 rfl rfl rfl (List.mem_of_getElem? (i := 15) rfl) (by decide +kernel) (by decide +kernel) (by decide +kernel) ⟨Nat.le_of_ble_eq_true rfl, Nat.le_of_ble_eq_true rfl⟩ [] rfl rfl rfl (Nat.le_of_ble_eq_true rfl) dX1_remove_5 (by decide) (fun r w1 H locs hp hw1 => ?_)
  obtain ⟨rfl, rfl⟩ := hp
  have hw : WD D A s.heap [(la, .inr (1, [.ref lb, .ref lw, .int (nI nl)])), (lb, .inl (cI, 12, .inl (iA ba))), (lw, .inl (cI, 12, .inl (iA wh)))] H locs := hw1 rfl
  refine lv_if_ne (tgt := 12) hx hb dX1_remove_8 (by decide) (fun c_8 => ?_) (fun c_8 => ?_)
  · skip
    rw [q_b0] at c_8; try simp only [Bool.not_eq_false, Bool.not_eq_true] at c_8
    refine lv_iload_n hx hb dX1_remove_12 rfl (lv_at hl 1 rfl) ?_
    refine lv_istore_n (lv' := [(2, .int (nI k)), (0, .ref la), (1, .int (nI k))]) hx hb dX1_remove_13 rfl hl (by decide) rfl (fun ls hl => ?_)
    refine wl (α := (Nat → Nat) × (Nat → Nat) × Nat) (nL := 3) (fun aQ => nl - aQ.2.2) (fun aQ => (k ≤ aQ.2.2) ∧ (aQ.2.2 ≤ nl - 1) ∧ (∀ j, aQ.1 j = if k ≤ j ∧ j < aQ.2.2 then ba (j + 1) else ba j) ∧ (∀ j, aQ.2.1 j = if k ≤ j ∧ j < aQ.2.2 then wh (j + 1) else wh j)) (fun aQ => [(la, .inr (1, [.ref lb, .ref lw, .int (nI nl)])), (lb, .inl (cI, 12, .inl (iA aQ.1))), (lw, .inl (cI, 12, .inl (iA aQ.2.1)))]) (fun aQ => [(2, .int (nI aQ.2.2)), (0, .ref la), (1, .int (nI k))]) ?_ (ba, wh, k) ⟨(show k ≤ k from by omega), (show k ≤ nl - 1 from by omega), (show ∀ j, ba j = if k ≤ j ∧ j < k then ba (j + 1) else ba j from fun j => by rw [if_neg (by omega)]), (show ∀ j, wh j = if k ≤ j ∧ j < k then wh (j + 1) else wh j from fun j => by rw [if_neg (by omega)])⟩ _ _ _ hw (lv_sub hl [0, 1, 2] rfl)
    rintro ⟨fb, fw, i⟩ ⟨hi, hi2, hfb, hfw⟩ H locs ls hw hl ih_14
    have hi : k ≤ i := hi
    have hi2 : i ≤ nl - 1 := hi2
    have hfb : ∀ j, fb j = if k ≤ j ∧ j < i then ba (j + 1) else ba j := hfb
    have hfw : ∀ j, fw j = if k ≤ j ∧ j < i then wh (j + 1) else wh j := hfw
    have hw : WD D A s.heap [(la, .inr (1, [.ref lb, .ref lw, .int (nI nl)])), (lb, .inl (cI, 12, .inl (iA fb))), (lw, .inl (cI, 12, .inl (iA fw)))] H locs := hw
    have hl : lv_has ls 3 [(2, .int (nI i)), (0, .ref la), (1, .int (nI k))] := hl
    refine lv_iload_n hx hb dX1_remove_14 rfl (lv_at hl 0 rfl) ?_
    refine lv_aload_n hx hb dX1_remove_15 rfl (lv_at hl 1 rfl) ?_
    refine x_get X hw f18 0 rfl rfl dX1_remove_16 ?_
    refine lv_iconst (v := nI 1) hx hb dX1_remove_19 (by decide) ?_
    refine lv_isub hx hb dX1_remove_20 ?_
    refine cv_i (show nI nl - nI 1 = nI (nl - 1) from pk_sub (by first | omega | assumption)) ?_
    refine lv_icmp_ge (tgt := 58) hx hb dX1_remove_21 (by decide) (fun c_21 => ?_) (fun c_21 => ?_)
    · skip
      rw [nI_leI (by omega) (by omega)] at c_21
      refine lv_aload_n hx hb dX1_remove_58 rfl (lv_at hl 1 rfl) ?_
      refine lv_dup hx hb dX1_remove_59 rfl ?_
      refine x_get X hw f18 0 rfl rfl dX1_remove_60 ?_
      refine lv_iconst (v := nI 1) hx hb dX1_remove_63 (by decide) ?_
      refine lv_isub hx hb dX1_remove_64 ?_
      refine cv_i (show nI nl - nI 1 = nI (nl - 1) from pk_sub (by first | omega | assumption)) ?_
      refine x_put X hw p18 0 rfl (Nat.le_of_ble_eq_true rfl) dX1_remove_65 (fun H locs hw => ?_)
      have hw : WD D A s.heap [(la, .inr (1, [.ref lb, .ref lw, .int (nI (nl - 1))])), (lb, .inl (cI, 12, .inl (iA fb))), (lw, .inl (cI, 12, .inl (iA fw)))] H locs := hw
      exact x_vret X hw (⟨fb, fw, (by rw [show nl - 1 = i by omega]; exact hfb), (by rw [show nl - 1 = i by omega]; exact hfw), rfl⟩) dX1_remove_68
    · skip
      rw [nI_leI (by omega) (by omega)] at c_21
      refine lv_aload_n hx hb dX1_remove_24 rfl (lv_at hl 1 rfl) ?_
      refine x_get X hw f9 0 rfl rfl dX1_remove_25 ?_
      refine lv_iload_n hx hb dX1_remove_28 rfl (lv_at hl 0 rfl) ?_
      refine lv_aload_n hx hb dX1_remove_29 rfl (lv_at hl 1 rfl) ?_
      refine x_get X hw f9 0 rfl rfl dX1_remove_30 ?_
      refine lv_iload_n hx hb dX1_remove_33 rfl (lv_at hl 0 rfl) ?_
      refine lv_iconst (v := nI 1) hx hb dX1_remove_34 (by decide) ?_
      refine lv_iadd hx hb dX1_remove_35 ?_
      refine cv_i (show nI i + nI 1 = nI (i + 1) from nI_add i 1) ?_
      refine x_aldN X hw 1 rfl (by omega) (by omega) dX1_remove_36 ?_
      refine x_astN X hw 1 rfl (by omega) (by omega) dX1_remove_37 (fun H locs hw => ?_)
      have hw : WD D A s.heap [(la, .inr (1, [.ref lb, .ref lw, .int (nI nl)])), (lb, .inl (cI, 12, .inl (iA (va_up fb i (fb (i + 1)))))), (lw, .inl (cI, 12, .inl (iA fw)))] H locs := hw
      refine lv_aload_n hx hb dX1_remove_38 rfl (lv_at hl 1 rfl) ?_
      refine x_get X hw f15 0 rfl rfl dX1_remove_39 ?_
      refine lv_iload_n hx hb dX1_remove_42 rfl (lv_at hl 0 rfl) ?_
      refine lv_aload_n hx hb dX1_remove_43 rfl (lv_at hl 1 rfl) ?_
      refine x_get X hw f15 0 rfl rfl dX1_remove_44 ?_
      refine lv_iload_n hx hb dX1_remove_47 rfl (lv_at hl 0 rfl) ?_
      refine lv_iconst (v := nI 1) hx hb dX1_remove_48 (by decide) ?_
      refine lv_iadd hx hb dX1_remove_49 ?_
      refine cv_i (show nI i + nI 1 = nI (i + 1) from nI_add i 1) ?_
      refine x_aldN X hw 2 rfl (by omega) (by omega) dX1_remove_50 ?_
      refine x_astN X hw 2 rfl (by omega) (by omega) dX1_remove_51 (fun H locs hw => ?_)
      have hw : WD D A s.heap [(la, .inr (1, [.ref lb, .ref lw, .int (nI nl)])), (lb, .inl (cI, 12, .inl (iA (va_up fb i (fb (i + 1)))))), (lw, .inl (cI, 12, .inl (iA (va_up fw i (fw (i + 1))))))] H locs := hw
      refine lv_iinc (v := nI (i + 1)) (lv' := [(2, .int (nI (i + 1))), (0, .ref la), (1, .int (nI k))]) hx hb dX1_remove_52 hl (k := 0) rfl (nI_add i 1) (by decide) rfl (fun ls hl => ?_)
      refine lv_goto (tgt := 14) hx hb dX1_remove_55 (by decide) ?_
      exact ih_14 (va_up fb i (fb (i + 1)), va_up fw i (fw (i + 1)), i + 1) (by show nl - (i + 1) < nl - i; omega) ⟨(show k ≤ (i + 1) from by omega), (show (i + 1) ≤ nl - 1 from by omega), (show ∀ j, (va_up fb i (fb (i + 1))) j = if k ≤ j ∧ j < (i + 1) then ba (j + 1) else ba j from shl_step hfb hi), (show ∀ j, (va_up fw i (fw (i + 1))) j = if k ≤ j ∧ j < (i + 1) then wh (j + 1) else wh j from shl_step hfw hi)⟩ _ _ _ hw (lv_sub hl [0, 1, 2] rfl)
  · skip
    rw [q_b0] at c_8; try simp only [Bool.not_eq_false, Bool.not_eq_true] at c_8
    rw [bel_nI (by omega) (by omega)] at c_8; simp at c_8; omega
set_option maxHeartbeats 4000000 in
set_option maxRecDepth 100000 in
theorem c_X1_allow (l : Launch) (D : va_G) (cI cZ : ClassId) (la : Nat) (lb : Nat) (lw : Nat) (ba : Nat → Nat) (wh : Nat → Nat) (nl : Nat) (e1 : Nat) (st : Nat) (hnl : nl ≤ 12) (hba : ∀ k, ba k < 12) (hwh : ∀ k, wh k < 12) (he1 : e1 < 4096) (hst1 : st < 64) : MI l D cI cZ yX1_allow wsX1_allow ({ frames := 2, cells := 0, slots := 0, locals := 41 }) [.ref la, .int (nI e1), .int (nI st)] [(la, .inr (1, [.ref lb, .ref lw, .int (nI nl)])), (lb, .inl (cI, 12, .inl (iA ba))), (lw, .inl (cI, 12, .inl (iA wh)))] (fun r w => r = (bI (alw ba wh nl e1 st)) ∧ w = [(la, .inr (1, [.ref lb, .ref lw, .int (nI nl)])), (lb, .inl (cI, 12, .inl (iA ba))), (lw, .inl (cI, 12, .inl (iA wh)))]) := by
  refine MI.of (cc := cX1_allow) (maxL := 7) (ret := (some .boolean)) (own := RX1) (by decide) rfl rfl (Nat.le_of_ble_eq_true rfl) ?_
  intro pQ eQ s mQ args below meth cQ A X hw ls hl
  obtain ⟨⟨hx, hb, hml, hown, hts⟩, hr, hlk, hK, hN, hA⟩ := id X
  have hl : lv_has ls 7 [(0, .ref la), (1, .int (nI e1)), (2, .int (nI st))] := hl
  have n1 : ∀ w ∈ wsX10, w ∈ wsX1_allow := by decide +kernel
  have f9 : FF args s RX1 wsX1_allow 9 1 0 := ⟨_, rfl, by decide, n1, hts (.fieldLink RX1 9 "AirSteps$Laws" "barred" "[I") (by decide +kernel)⟩
  have f15 : FF args s RX1 wsX1_allow 15 1 1 := ⟨_, rfl, by decide, n1, hts (.fieldLink RX1 15 "AirSteps$Laws" "whileAt" "[I") (by decide +kernel)⟩
  have f18 : FF args s RX1 wsX1_allow 18 1 2 := ⟨_, rfl, by decide, n1, hts (.fieldLink RX1 18 "AirSteps$Laws" "size" "I") (by decide +kernel)⟩
  refine lv_iload_n hx hb dX1_allow_0 rfl (lv_at hl 2 rfl) ?_
  refine x_callN (As := [.int (nI st)]) (rest := []) (host := RX5) (n := 1) X hw hl.1 (c_X5_sensorsOn l D cI cZ st ) gX1_allow_X5_sensorsOn_n26 rfl rfl rfl (List.mem_of_getElem? (i := 11) rfl) (by decide +kernel) (by decide +kernel) (by decide +kernel) ⟨Nat.le_of_ble_eq_true rfl, Nat.le_of_ble_eq_true rfl⟩ [] rfl rfl rfl (Nat.le_of_ble_eq_true rfl) dX1_allow_1 (by decide) (fun r w1 H locs hp hw1 => ?_)
  obtain ⟨rfl, rfl⟩ := hp
  have hw : WD D A s.heap [(la, .inr (1, [.ref lb, .ref lw, .int (nI nl)])), (lb, .inl (cI, 12, .inl (iA ba))), (lw, .inl (cI, 12, .inl (iA wh)))] H locs := hw1 rfl
  have hs1 := sen_lt hst1
  refine lv_istore_n (lv' := [(3, .int (nI (sen st))), (0, .ref la), (1, .int (nI e1)), (2, .int (nI st))]) hx hb dX1_allow_4 rfl hl (by decide) rfl (fun ls hl => ?_)
  refine lv_iload_n hx hb dX1_allow_5 rfl (lv_at hl 2 rfl) ?_
  refine x_callN (As := [.int (nI e1)]) (rest := []) (host := RX5) (n := 1) X hw hl.1 (c_X5_cylindersOf l D cI cZ e1 (by first | assumption | omega)) gX1_allow_X5_cylindersOf_n30 rfl rfl rfl (List.mem_of_getElem? (i := 12) rfl) (by decide +kernel) (by decide +kernel) (by decide +kernel) ⟨Nat.le_of_ble_eq_true rfl, Nat.le_of_ble_eq_true rfl⟩ [] rfl rfl rfl (Nat.le_of_ble_eq_true rfl) dX1_allow_6 (by decide) (fun r w1 H locs hp hw1 => ?_)
  obtain ⟨rfl, rfl⟩ := hp
  have hw : WD D A s.heap [(la, .inr (1, [.ref lb, .ref lw, .int (nI nl)])), (lb, .inl (cI, 12, .inl (iA ba))), (lw, .inl (cI, 12, .inl (iA wh)))] H locs := hw1 rfl
  have hs2 := cyl_lt he1
  refine lv_istore (lv' := [(4, .int (nI (cyl e1))), (3, .int (nI (sen st))), (0, .ref la), (1, .int (nI e1)), (2, .int (nI st))]) hx hb dX1_allow_9 hl (by decide) rfl (fun ls hl => ?_)
  refine lv_iconst (v := nI 0) hx hb dX1_allow_11 (by decide) ?_
  refine lv_istore (lv' := [(5, .int (nI 0)), (4, .int (nI (cyl e1))), (3, .int (nI (sen st))), (0, .ref la), (1, .int (nI e1)), (2, .int (nI st))]) hx hb dX1_allow_12 hl (by decide) rfl (fun ls hl => ?_)
  refine wl (α := Nat) (nL := 7) (fun aQ => nl - aQ) (fun aQ => (aQ ≤ nl) ∧ (∀ j, j < aQ → brk ba wh e1 st j = false)) (fun aQ => [(la, .inr (1, [.ref lb, .ref lw, .int (nI nl)])), (lb, .inl (cI, 12, .inl (iA ba))), (lw, .inl (cI, 12, .inl (iA wh)))]) (fun aQ => [(5, .int (nI aQ)), (4, .int (nI (cyl e1))), (3, .int (nI (sen st))), (0, .ref la), (1, .int (nI e1)), (2, .int (nI st))]) ?_ 0 ⟨(show 0 ≤ nl from by omega), (show ∀ j, j < 0 → brk ba wh e1 st j = false from fun j hj => absurd hj (Nat.not_lt_zero j))⟩ _ _ _ hw (lv_sub hl [0, 1, 2, 3, 4, 5] rfl)
  rintro i ⟨hi, hq⟩ H locs ls hw hl ih_14
  have hi : i ≤ nl := hi
  have hq : ∀ j, j < i → brk ba wh e1 st j = false := hq
  have hw : WD D A s.heap [(la, .inr (1, [.ref lb, .ref lw, .int (nI nl)])), (lb, .inl (cI, 12, .inl (iA ba))), (lw, .inl (cI, 12, .inl (iA wh)))] H locs := hw
  have hl : lv_has ls 7 [(5, .int (nI i)), (4, .int (nI (cyl e1))), (3, .int (nI (sen st))), (0, .ref la), (1, .int (nI e1)), (2, .int (nI st))] := hl
  refine lv_iload hx hb dX1_allow_14 (lv_at hl 0 rfl) ?_
  refine lv_aload_n hx hb dX1_allow_16 rfl (lv_at hl 3 rfl) ?_
  refine x_get X hw f18 0 rfl rfl dX1_allow_17 ?_
  refine lv_icmp_ge (tgt := 89) hx hb dX1_allow_20 (by decide) (fun c_20 => ?_) (fun c_20 => ?_)
  · skip
    rw [nI_leI (by omega) (by omega)] at c_20
    refine lv_iconst (v := nI 1) hx hb dX1_allow_89 (by decide) ?_
    refine cv_i (show nI 1 = bI true from by decide) ?_
    exact x_zret X hw (⟨(by unfold alw; rw [fs_eq (k := nl) (by omega) (fun j hj => hq j (by omega)) (Or.inl rfl)]; simp), rfl⟩) dX1_allow_90
  · skip
    rw [nI_leI (by omega) (by omega)] at c_20
    refine wj (α := Bool) (nL := 7) 60 (fun aQ => (aQ = ((sen st).testBit (wh i) || (cyl e1).testBit (cyE (wh i))))) (fun aQ => [(la, .inr (1, [.ref lb, .ref lw, .int (nI nl)])), (lb, .inl (cI, 12, .inl (iA ba))), (lw, .inl (cI, 12, .inl (iA wh)))]) (fun aQ => [(5, .int (nI i)), (4, .int (nI (cyl e1))), (3, .int (nI (sen st))), (0, .ref la), (1, .int (nI e1)), (2, .int (nI st))]) (fun aQ => [.int (bI aQ)]) (D := D) (A := A) (H0 := s.heap) (fun J60 => ?_) ?_
    · skip
      refine lv_iload_n hx hb dX1_allow_23 rfl (lv_at hl 2 rfl) ?_
      refine lv_aload_n hx hb dX1_allow_24 rfl (lv_at hl 3 rfl) ?_
      refine x_get X hw f15 0 rfl rfl dX1_allow_25 ?_
      refine lv_iload hx hb dX1_allow_28 (lv_at hl 0 rfl) ?_
      refine x_aldN X hw 2 rfl (by omega) (by omega) dX1_allow_30 ?_
      have hb_30 := hwh i
      refine x_callN (As := [.int (nI (sen st)), .int (nI (wh i))]) (rest := []) (host := RX5) (n := 2) X hw hl.1 (c_X5_has l D cI cZ (sen st) (wh i) (by first | assumption | omega) (by first | assumption | omega)) gX1_allow_X5_has_n33 rfl rfl rfl (List.mem_of_getElem? (i := 13) rfl) (by decide +kernel) (by decide +kernel) (by decide +kernel) ⟨Nat.le_of_ble_eq_true rfl, Nat.le_of_ble_eq_true rfl⟩ [] rfl rfl rfl (Nat.le_of_ble_eq_true rfl) dX1_allow_31 (by decide) (fun r w1 H locs hp hw1 => ?_)
      obtain ⟨rfl, rfl⟩ := hp
      have hw : WD D A s.heap [(la, .inr (1, [.ref lb, .ref lw, .int (nI nl)])), (lb, .inl (cI, 12, .inl (iA ba))), (lw, .inl (cI, 12, .inl (iA wh)))] H locs := hw1 rfl
      refine lv_if_ne (tgt := 55) hx hb dX1_allow_34 (by decide) (fun c_34 => ?_) (fun c_34 => ?_)
      · skip
        rw [q_b0] at c_34; try simp only [Bool.not_eq_false, Bool.not_eq_true] at c_34
        refine lv_iconst (v := nI 1) hx hb dX1_allow_55 (by decide) ?_
        refine lv_goto (tgt := 60) hx hb dX1_allow_56 (by decide) ?_
        refine cv_i (show nI 1 = bI true from by decide) ?_
        exact J60 true (show true = ((sen st).testBit (wh i) || (cyl e1).testBit (cyE (wh i))) from by first | rfl | (simp [c_34]; done) | (simp_all; done) | omega) _ _ _ hw (lv_sub hl [0, 1, 2, 3, 4, 5] rfl)
      · skip
        rw [q_b0] at c_34; try simp only [Bool.not_eq_false, Bool.not_eq_true] at c_34
        refine lv_iload hx hb dX1_allow_37 (lv_at hl 1 rfl) ?_
        refine lv_aload_n hx hb dX1_allow_39 rfl (lv_at hl 3 rfl) ?_
        refine x_get X hw f15 0 rfl rfl dX1_allow_40 ?_
        refine lv_iload hx hb dX1_allow_43 (lv_at hl 0 rfl) ?_
        refine x_aldN X hw 2 rfl (by omega) (by omega) dX1_allow_45 ?_
        have hb_45 := hwh i
        refine x_callN (As := [.int (nI (wh i))]) (rest := [.int (nI (cyl e1))]) (host := RX5) (n := 1) X hw hl.1 (c_X5_cylinderOf l D cI cZ (wh i) (by first | assumption | omega)) gX1_allow_X5_cylinderOf_n36 rfl rfl rfl (List.mem_of_getElem? (i := 14) rfl) (by decide +kernel) (by decide +kernel) (by decide +kernel) ⟨Nat.le_of_ble_eq_true rfl, Nat.le_of_ble_eq_true rfl⟩ [] rfl rfl rfl (Nat.le_of_ble_eq_true rfl) dX1_allow_46 (by decide) (fun r w1 H locs hp hw1 => ?_)
        obtain ⟨rfl, rfl⟩ := hp
        have hw : WD D A s.heap [(la, .inr (1, [.ref lb, .ref lw, .int (nI nl)])), (lb, .inl (cI, 12, .inl (iA ba))), (lw, .inl (cI, 12, .inl (iA wh)))] H locs := hw1 rfl
        have hs3 := cyE_lt (hwh i)
        refine x_callN (As := [.int (nI (cyl e1)), .int (nI (cyE (wh i)))]) (rest := []) (host := RX5) (n := 2) X hw hl.1 (c_X5_has l D cI cZ (cyl e1) (cyE (wh i)) (by first | assumption | omega) (by first | assumption | omega)) gX1_allow_X5_has_n33 rfl rfl rfl (List.mem_of_getElem? (i := 13) rfl) (by decide +kernel) (by decide +kernel) (by decide +kernel) ⟨Nat.le_of_ble_eq_true rfl, Nat.le_of_ble_eq_true rfl⟩ [] rfl rfl rfl (Nat.le_of_ble_eq_true rfl) dX1_allow_49 (by decide) (fun r w1 H locs hp hw1 => ?_)
        obtain ⟨rfl, rfl⟩ := hp
        have hw : WD D A s.heap [(la, .inr (1, [.ref lb, .ref lw, .int (nI nl)])), (lb, .inl (cI, 12, .inl (iA ba))), (lw, .inl (cI, 12, .inl (iA wh)))] H locs := hw1 rfl
        refine lv_if_eq (tgt := 59) hx hb dX1_allow_52 (by decide) (fun c_52 => ?_) (fun c_52 => ?_)
        · skip
          rw [q_b0] at c_52; try simp only [Bool.not_eq_false, Bool.not_eq_true] at c_52
          refine lv_iconst (v := nI 0) hx hb dX1_allow_59 (by decide) ?_
          refine cv_i (show nI 0 = bI false from by decide) ?_
          exact J60 false (show false = ((sen st).testBit (wh i) || (cyl e1).testBit (cyE (wh i))) from by first | rfl | (simp [c_34, c_52]; done) | (simp_all; done) | omega) _ _ _ hw (lv_sub hl [0, 1, 2, 3, 4, 5] rfl)
        · skip
          rw [q_b0] at c_52; try simp only [Bool.not_eq_false, Bool.not_eq_true] at c_52
          refine lv_iconst (v := nI 1) hx hb dX1_allow_55 (by decide) ?_
          refine lv_goto (tgt := 60) hx hb dX1_allow_56 (by decide) ?_
          refine cv_i (show nI 1 = bI true from by decide) ?_
          exact J60 true (show true = ((sen st).testBit (wh i) || (cyl e1).testBit (cyE (wh i))) from by first | rfl | (simp [c_34, c_52]; done) | (simp_all; done) | omega) _ _ _ hw (lv_sub hl [0, 1, 2, 3, 4, 5] rfl)
    · rintro h hh H locs ls hw hl
      have hh : h = ((sen st).testBit (wh i) || (cyl e1).testBit (cyE (wh i))) := hh
      have hw : WD D A s.heap [(la, .inr (1, [.ref lb, .ref lw, .int (nI nl)])), (lb, .inl (cI, 12, .inl (iA ba))), (lw, .inl (cI, 12, .inl (iA wh)))] H locs := hw
      have hl : lv_has ls 7 [(5, .int (nI i)), (4, .int (nI (cyl e1))), (3, .int (nI (sen st))), (0, .ref la), (1, .int (nI e1)), (2, .int (nI st))] := hl
      refine lv_istore (lv' := [(6, .int (bI h)), (5, .int (nI i)), (4, .int (nI (cyl e1))), (3, .int (nI (sen st))), (0, .ref la), (1, .int (nI e1)), (2, .int (nI st))]) hx hb dX1_allow_60 hl (by decide) rfl (fun ls hl => ?_)
      refine lv_iload_n hx hb dX1_allow_62 rfl (lv_at hl 5 rfl) ?_
      refine lv_aload_n hx hb dX1_allow_63 rfl (lv_at hl 4 rfl) ?_
      refine x_get X hw f9 0 rfl rfl dX1_allow_64 ?_
      refine lv_iload hx hb dX1_allow_67 (lv_at hl 1 rfl) ?_
      refine x_aldN X hw 1 rfl (by omega) (by omega) dX1_allow_69 ?_
      have hb_69 := hba i
      refine x_callN (As := [.int (nI e1), .int (nI (ba i))]) (rest := []) (host := RX5) (n := 2) X hw hl.1 (c_X5_has l D cI cZ e1 (ba i) (by first | assumption | omega) (by first | assumption | omega)) gX1_allow_X5_has_n33 rfl rfl rfl (List.mem_of_getElem? (i := 13) rfl) (by decide +kernel) (by decide +kernel) (by decide +kernel) ⟨Nat.le_of_ble_eq_true rfl, Nat.le_of_ble_eq_true rfl⟩ [] rfl rfl rfl (Nat.le_of_ble_eq_true rfl) dX1_allow_70 (by decide) (fun r w1 H locs hp hw1 => ?_)
      obtain ⟨rfl, rfl⟩ := hp
      have hw : WD D A s.heap [(la, .inr (1, [.ref lb, .ref lw, .int (nI nl)])), (lb, .inl (cI, 12, .inl (iA ba))), (lw, .inl (cI, 12, .inl (iA wh)))] H locs := hw1 rfl
      refine lv_if_eq (tgt := 83) hx hb dX1_allow_73 (by decide) (fun c_73 => ?_) (fun c_73 => ?_)
      · skip
        rw [q_b0] at c_73; try simp only [Bool.not_eq_false, Bool.not_eq_true] at c_73
        refine lv_iinc (v := nI (i + 1)) (lv' := [(5, .int (nI (i + 1))), (6, .int (bI h)), (4, .int (nI (cyl e1))), (3, .int (nI (sen st))), (0, .ref la), (1, .int (nI e1)), (2, .int (nI st))]) hx hb dX1_allow_83 hl (k := 1) rfl (nI_add i 1) (by decide) rfl (fun ls hl => ?_)
        refine lv_goto (tgt := 14) hx hb dX1_allow_86 (by decide) ?_
        exact ih_14 (i + 1) (by show nl - (i + 1) < nl - i; omega) ⟨(show (i + 1) ≤ nl from by omega), (show ∀ j, j < (i + 1) → brk ba wh e1 st j = false from lt_snoc hq (by first | (simp [brk, c_73]; done) | (rw [c_78] at hh; simp [brk, ← hh]; done)))⟩ _ _ _ hw (lv_sub hl [0, 2, 3, 4, 5, 6] rfl)
      · skip
        rw [q_b0] at c_73; try simp only [Bool.not_eq_false, Bool.not_eq_true] at c_73
        refine lv_iload hx hb dX1_allow_76 (lv_at hl 0 rfl) ?_
        refine lv_if_eq (tgt := 83) hx hb dX1_allow_78 (by decide) (fun c_78 => ?_) (fun c_78 => ?_)
        · skip
          rw [q_b0] at c_78; try simp only [Bool.not_eq_false, Bool.not_eq_true] at c_78
          refine lv_iinc (v := nI (i + 1)) (lv' := [(5, .int (nI (i + 1))), (6, .int (bI h)), (4, .int (nI (cyl e1))), (3, .int (nI (sen st))), (0, .ref la), (1, .int (nI e1)), (2, .int (nI st))]) hx hb dX1_allow_83 hl (k := 1) rfl (nI_add i 1) (by decide) rfl (fun ls hl => ?_)
          refine lv_goto (tgt := 14) hx hb dX1_allow_86 (by decide) ?_
          exact ih_14 (i + 1) (by show nl - (i + 1) < nl - i; omega) ⟨(show (i + 1) ≤ nl from by omega), (show ∀ j, j < (i + 1) → brk ba wh e1 st j = false from lt_snoc hq (by first | (simp [brk, c_73]; done) | (rw [c_78] at hh; simp [brk, ← hh]; done)))⟩ _ _ _ hw (lv_sub hl [0, 2, 3, 4, 5, 6] rfl)
        · skip
          rw [q_b0] at c_78; try simp only [Bool.not_eq_false, Bool.not_eq_true] at c_78
          refine lv_iconst (v := nI 0) hx hb dX1_allow_81 (by decide) ?_
          refine cv_i (show nI 0 = bI false from by decide) ?_
          exact x_zret X hw (⟨(congrArg bI (by unfold alw; rw [fs_eq (k := i) (by omega) hq (Or.inr (by rw [c_78] at hh; simp [brk, c_73, ← hh]))]; simp; omega)), rfl⟩) dX1_allow_82
set_option maxHeartbeats 4000000 in
set_option maxRecDepth 100000 in
theorem c_X1_allowMove (l : Launch) (D : va_G) (cI cZ : ClassId) (la : Nat) (lb : Nat) (lw : Nat) (ba : Nat → Nat) (wh : Nat → Nat) (nl : Nat) (st : Nat) (k : Nat) (hnl : nl ≤ 12) (hba : ∀ k, ba k < 12) (hwh : ∀ k, wh k < 12) (hst1 : st < 64) (hk : k < 6) : MI l D cI cZ yX1_allowMove wsX1_allowMove ({ frames := 3, cells := 0, slots := 0, locals := 67 }) [.ref la, .int (nI st), .int (nI k)] [(la, .inr (1, [.ref lb, .ref lw, .int (nI nl)])), (lb, .inl (cI, 12, .inl (iA ba))), (lw, .inl (cI, 12, .inl (iA wh)))] (fun r w => r = (bI (alM ba wh nl st k)) ∧ w = [(la, .inr (1, [.ref lb, .ref lw, .int (nI nl)])), (lb, .inl (cI, 12, .inl (iA ba))), (lw, .inl (cI, 12, .inl (iA wh)))]) := by
  refine MI.of (cc := cX1_allowMove) (maxL := 4) (ret := (some .boolean)) (own := RX1) (by decide) rfl rfl (Nat.le_of_ble_eq_true rfl) ?_
  intro pQ eQ s mQ args below meth cQ A X hw ls hl
  obtain ⟨⟨hx, hb, hml, hown, hts⟩, hr, hlk, hK, hN, hA⟩ := id X
  have hl : lv_has ls 4 [(0, .ref la), (1, .int (nI st)), (2, .int (nI k))] := hl
  refine lv_iconst (v := nI 1) hx hb dX1_allowMove_0 (by decide) ?_
  refine lv_iload_n hx hb dX1_allowMove_1 rfl (lv_at hl 2 rfl) ?_
  refine lv_ishl hx hb dX1_allowMove_2 ?_
  refine cv_i (show (nI 1) <<< (nI k &&& 31) = nI (1 <<< k) from q_shl 1 k (by first | omega | assumption)) ?_
  refine lv_istore_n (lv' := [(3, .int (nI (1 <<< k))), (0, .ref la), (1, .int (nI st)), (2, .int (nI k))]) hx hb dX1_allowMove_3 rfl hl (by decide) rfl (fun ls hl => ?_)
  refine lv_aload_n hx hb dX1_allowMove_4 rfl (lv_at hl 1 rfl) ?_
  refine lv_iload_n hx hb dX1_allowMove_5 rfl (lv_at hl 0 rfl) ?_
  refine lv_iload_n hx hb dX1_allowMove_6 rfl (lv_at hl 2 rfl) ?_
  refine lv_iconst (v := (-1)) hx hb dX1_allowMove_7 (by decide) ?_
  refine lv_ixor hx hb dX1_allowMove_8 ?_
  refine lv_iand hx hb dX1_allowMove_9 ?_
  refine cv_i (show nI (1 <<< k) &&& (nI st ^^^ (-1 : Int32)) = nI (anN (1 <<< k) st) from q_anR (1 <<< k) st) ?_
  refine lv_iload_n hx hb dX1_allowMove_10 rfl (lv_at hl 0 rfl) ?_
  refine lv_iload_n hx hb dX1_allowMove_11 rfl (lv_at hl 2 rfl) ?_
  refine lv_iand hx hb dX1_allowMove_12 ?_
  refine cv_i (show nI (1 <<< k) &&& nI st = nI ((1 <<< k) &&& st) from q_and (1 <<< k) st) ?_
  refine x_callN (As := [.int (nI (anN (1 <<< k) st)), .int (nI ((1 <<< k) &&& st))]) (rest := [.ref la]) (host := RX5) (n := 2) X hw hl.1 (c_X5_endsTo l D cI cZ (anN (1 <<< k) st) ((1 <<< k) &&& st) ) gX1_allowMove_X5_endsTo_n39 rfl rfl rfl (List.mem_of_getElem? (i := 10) rfl) (by decide +kernel) (by decide +kernel) (by decide +kernel) ⟨Nat.le_of_ble_eq_true rfl, Nat.le_of_ble_eq_true rfl⟩ [] rfl rfl rfl (Nat.le_of_ble_eq_true rfl) dX1_allowMove_13 (by decide) (fun r w1 H locs hp hw1 => ?_)
  obtain ⟨rfl, rfl⟩ := hp
  have hw : WD D A s.heap [(la, .inr (1, [.ref lb, .ref lw, .int (nI nl)])), (lb, .inl (cI, 12, .inl (iA ba))), (lw, .inl (cI, 12, .inl (iA wh)))] H locs := hw1 rfl
  refine lv_iload_n hx hb dX1_allowMove_16 rfl (lv_at hl 2 rfl) ?_
  refine x_callV (As := [.int (nI (((anN (1 <<< k) st) <<< 6) ||| ((1 <<< k) &&& st))), .int (nI st)]) (rest := []) X hw hl.1 (c_X1_allow l D cI cZ la lb lw ba wh nl (((anN (1 <<< k) st) <<< 6) ||| ((1 <<< k) &&& st)) st (by first | assumption | omega) (by first | assumption | omega) (by first | assumption | omega) (mvE_lt st hst1 k hk) (by first | assumption | omega)) (cwV 2 hts gX1_allowMove_X1_allow rfl rfl rfl (by decide +kernel) ⟨Nat.le_of_ble_eq_true rfl, Nat.le_of_ble_eq_true rfl⟩) [0, 1, 2] rfl rfl 0 rfl rfl rfl rfl (Nat.le_of_ble_eq_true rfl) dX1_allowMove_17 (by decide) (fun r w1 H locs hp hw1 => ?_)
  obtain ⟨rfl, rfl⟩ := hp
  have hw : WD D A s.heap [(la, .inr (1, [.ref lb, .ref lw, .int (nI nl)])), (lb, .inl (cI, 12, .inl (iA ba))), (lw, .inl (cI, 12, .inl (iA wh)))] H locs := hw1 rfl
  exact x_zret X hw (⟨(by first | rfl | omega), rfl⟩) dX1_allowMove_20
