/-! ===== AirSteps.Paces ===== -/
def lon (tk : Nat → Nat) (e i : Nat) : Nat := fo (fun i a => if e.testBit i then max a (tk i) else a) 0 i
theorem lon_lt {tk : Nat → Nat} (h : ∀ k, tk k < 101) (e : Nat) : ∀ i : Nat, lon tk e i < 101
  | 0 => by show 0 < 101; decide
  | i + 1 => by
    have h1 := lon_lt h e i
    have h2 := h i
    show (if e.testBit i then max (lon tk e i) (tk i) else lon tk e i) < 101
    split <;> omega
def sumP (tk en : Nat → Nat) (i : Nat) : Nat := fo (fun k a => a + lon tk (en k) 12) 0 i
def slo (tk en : Nat → Nat) (i : Nat) : Int32 × Nat := fo (fun k a => if a.2 < lon tk (en k) 12 then (nI k, lon tk (en k) 12) else a) (-1, 0) i
set_option maxHeartbeats 4000000 in
set_option maxRecDepth 100000 in
theorem c_X2_put (l : Launch) (D : va_G) (cI cZ : ClassId) (pa : Nat) (pl : Nat) (pm : Nat) (le : Nat → Nat) (mo : Nat → Nat) (k : Nat) (a : Nat) (b : Nat) (hk : k < 12) : MV l D cI cZ yX2_put wsX2_put ({ frames := 1, cells := 0, slots := 0, locals := 21 }) [.ref pa, .int (nI k), .int (nI a), .int (nI b)] [(pa, .inr (2, [.ref pl, .ref pm])), (pl, .inl (cI, 12, .inl (iA le))), (pm, .inl (cI, 12, .inl (iA mo)))] 0 0 (fun w => w = [(pa, .inr (2, [.ref pl, .ref pm])), (pl, .inl (cI, 12, .inl (iA (va_up le k a)))), (pm, .inl (cI, 12, .inl (iA (va_up mo k b))))]) := by
  refine MV.of (cc := cX2_put) (maxL := 4) (ret := none) (own := RX2) (by decide) rfl rfl (Nat.le_of_ble_eq_true rfl) ?_
  intro pQ eQ s mQ args below meth cQ A X hnm hw ls hl
  obtain ⟨⟨hx, hb, hml, hown, hts⟩, hr, hlk, hK, hN, hA⟩ := id X
  have hl : lv_has ls 4 [(0, .ref pa), (1, .int (nI k)), (2, .int (nI a)), (3, .int (nI b))] := hl
  have n2 : ∀ w ∈ wsX20, w ∈ wsX2_put := by decide +kernel
  have f9 : FF args s RX2 wsX2_put 9 2 0 := ⟨_, rfl, by decide, n2, hts (.fieldLink RX2 9 "AirSteps$Paces" "least" "[I") (by decide +kernel)⟩
  have f15 : FF args s RX2 wsX2_put 15 2 1 := ⟨_, rfl, by decide, n2, hts (.fieldLink RX2 15 "AirSteps$Paces" "most" "[I") (by decide +kernel)⟩
  refine lv_iload_n hx hb dX2_put_0 rfl (lv_at hl 1 rfl) ?_
  refine lv_bipush (v := nI 12) hx hb dX2_put_1 (by decide) ?_
  refine x_callN (As := [.int (nI k), .int (nI 12)]) (rest := []) (host := RX5) (n := 2) X hw hl.1 (c_X5_isBelow l D cI cZ (nI k) (nI 12) ) gX2_put_X5_isBelow_n18 rfl rfl rfl (List.mem_of_getElem? (i := 8) rfl) (by decide +kernel) (by decide +kernel) (by decide +kernel) ⟨Nat.le_of_ble_eq_true rfl, Nat.le_of_ble_eq_true rfl⟩ [] rfl rfl rfl (Nat.le_of_ble_eq_true rfl) dX2_put_3 (by decide) (fun r w1 H locs hp hw1 => ?_)
  obtain ⟨rfl, rfl⟩ := hp
  have hw : WD D A s.heap [(pa, .inr (2, [.ref pl, .ref pm])), (pl, .inl (cI, 12, .inl (iA le))), (pm, .inl (cI, 12, .inl (iA mo)))] H locs := hw1 rfl
  refine lv_if_ne (tgt := 10) hx hb dX2_put_6 (by decide) (fun c_6 => ?_) (fun c_6 => ?_)
  · skip
    rw [q_b0] at c_6; try simp only [Bool.not_eq_false, Bool.not_eq_true] at c_6
    refine lv_aload_n hx hb dX2_put_10 rfl (lv_at hl 0 rfl) ?_
    refine x_get X hw f9 0 rfl rfl dX2_put_11 ?_
    refine lv_iload_n hx hb dX2_put_14 rfl (lv_at hl 1 rfl) ?_
    refine lv_iload_n hx hb dX2_put_15 rfl (lv_at hl 2 rfl) ?_
    refine x_astN X hw 1 rfl (by omega) (by omega) dX2_put_16 (fun H locs hw => ?_)
    have hw : WD D A s.heap [(pa, .inr (2, [.ref pl, .ref pm])), (pl, .inl (cI, 12, .inl (iA (va_up le k a)))), (pm, .inl (cI, 12, .inl (iA mo)))] H locs := hw
    refine lv_aload_n hx hb dX2_put_17 rfl (lv_at hl 0 rfl) ?_
    refine x_get X hw f15 0 rfl rfl dX2_put_18 ?_
    refine lv_iload_n hx hb dX2_put_21 rfl (lv_at hl 1 rfl) ?_
    refine lv_iload_n hx hb dX2_put_22 rfl (lv_at hl 3 rfl) ?_
    refine x_astN X hw 2 rfl (by omega) (by omega) dX2_put_23 (fun H locs hw => ?_)
    have hw : WD D A s.heap [(pa, .inr (2, [.ref pl, .ref pm])), (pl, .inl (cI, 12, .inl (iA (va_up le k a)))), (pm, .inl (cI, 12, .inl (iA (va_up mo k b))))] H locs := hw
    exact x_vret X hw (rfl) dX2_put_24
  · skip
    rw [q_b0] at c_6; try simp only [Bool.not_eq_false, Bool.not_eq_true] at c_6
    rw [bel_nI (by omega) (by omega)] at c_6; simp at c_6; omega
set_option maxHeartbeats 4000000 in
set_option maxRecDepth 100000 in
theorem c_X2_longest (l : Launch) (D : va_G) (cI cZ : ClassId) (ar : Nat) (tk : Nat → Nat) (e1 : Nat) (htk : ∀ k, tk k < 101) (he1 : e1 < 4096) : MI l D cI cZ yX2_longest wsX2_longest ({ frames := 1, cells := 0, slots := 0, locals := 21 }) [.ref ar, .int (nI e1)] [(ar, .inl (cI, 12, .inl (iA tk)))] (fun r w => r = (nI (lon tk e1 12)) ∧ w = [(ar, .inl (cI, 12, .inl (iA tk)))]) := by
  refine MI.of (cc := cX2_longest) (maxL := 4) (ret := (some .int)) (own := RX2) (by decide) rfl rfl (Nat.le_of_ble_eq_true rfl) ?_
  intro pQ eQ s mQ args below meth cQ A X hw ls hl
  obtain ⟨⟨hx, hb, hml, hown, hts⟩, hr, hlk, hK, hN, hA⟩ := id X
  have hl : lv_has ls 4 [(0, .ref ar), (1, .int (nI e1))] := hl
  refine lv_iconst (v := nI 0) hx hb dX2_longest_0 (by decide) ?_
  refine lv_istore_n (lv' := [(2, .int (nI 0)), (0, .ref ar), (1, .int (nI e1))]) hx hb dX2_longest_1 rfl hl (by decide) rfl (fun ls hl => ?_)
  refine lv_iconst (v := nI 0) hx hb dX2_longest_2 (by decide) ?_
  refine lv_istore_n (lv' := [(3, .int (nI 0)), (2, .int (nI 0)), (0, .ref ar), (1, .int (nI e1))]) hx hb dX2_longest_3 rfl hl (by decide) rfl (fun ls hl => ?_)
  refine wl (α := Nat × Nat) (nL := 4) (fun aQ => 12 - aQ.2) (fun aQ => (aQ.2 ≤ 12) ∧ (aQ.1 = lon tk e1 aQ.2)) (fun aQ => [(ar, .inl (cI, 12, .inl (iA tk)))]) (fun aQ => [(3, .int (nI aQ.2)), (2, .int (nI aQ.1)), (0, .ref ar), (1, .int (nI e1))]) ?_ (0, 0) ⟨(show 0 ≤ 12 from by omega), (show 0 = lon tk e1 0 from rfl)⟩ _ _ _ hw (lv_sub hl [0, 1, 2, 3] rfl)
  rintro ⟨a, i⟩ ⟨hi, ha⟩ H locs ls hw hl ih_4
  have hi : i ≤ 12 := hi
  have ha : a = lon tk e1 i := ha
  have hw : WD D A s.heap [(ar, .inl (cI, 12, .inl (iA tk)))] H locs := hw
  have hl : lv_has ls 4 [(3, .int (nI i)), (2, .int (nI a)), (0, .ref ar), (1, .int (nI e1))] := hl
  have hal := lon_lt htk e1 i
  rw [← ha] at hal
  refine lv_iload_n hx hb dX2_longest_4 rfl (lv_at hl 0 rfl) ?_
  refine lv_aload_n hx hb dX2_longest_5 rfl (lv_at hl 2 rfl) ?_
  refine x_alen X hw 0 rfl dX2_longest_6 ?_
  refine lv_icmp_ge (tgt := 32) hx hb dX2_longest_7 (by decide) (fun c_7 => ?_) (fun c_7 => ?_)
  · skip
    rw [nI_leI (by omega) (by omega)] at c_7
    refine lv_iload_n hx hb dX2_longest_32 rfl (lv_at hl 1 rfl) ?_
    exact x_iret X hw (⟨(by rw [ha, show i = 12 by omega]), rfl⟩) dX2_longest_33
  · skip
    rw [nI_leI (by omega) (by omega)] at c_7
    refine lv_iload_n hx hb dX2_longest_10 rfl (lv_at hl 3 rfl) ?_
    refine lv_iload_n hx hb dX2_longest_11 rfl (lv_at hl 0 rfl) ?_
    refine x_callN (As := [.int (nI e1), .int (nI i)]) (rest := []) (host := RX5) (n := 2) X hw hl.1 (c_X5_has l D cI cZ e1 i (by first | assumption | omega) (by first | assumption | omega)) gX2_longest_X5_has_n40 rfl rfl rfl (List.mem_of_getElem? (i := 9) rfl) (by decide +kernel) (by decide +kernel) (by decide +kernel) ⟨Nat.le_of_ble_eq_true rfl, Nat.le_of_ble_eq_true rfl⟩ [] rfl rfl rfl (Nat.le_of_ble_eq_true rfl) dX2_longest_12 (by decide) (fun r w1 H locs hp hw1 => ?_)
    obtain ⟨rfl, rfl⟩ := hp
    have hw : WD D A s.heap [(ar, .inl (cI, 12, .inl (iA tk)))] H locs := hw1 rfl
    refine lv_if_eq (tgt := 26) hx hb dX2_longest_15 (by decide) (fun c_15 => ?_) (fun c_15 => ?_)
    · skip
      rw [q_b0] at c_15; try simp only [Bool.not_eq_false, Bool.not_eq_true] at c_15
      refine lv_iinc (v := nI (i + 1)) (lv' := [(3, .int (nI (i + 1))), (2, .int (nI a)), (0, .ref ar), (1, .int (nI e1))]) hx hb dX2_longest_26 hl (k := 0) rfl (nI_add i 1) (by decide) rfl (fun ls hl => ?_)
      refine lv_goto (tgt := 4) hx hb dX2_longest_29 (by decide) ?_
      exact ih_4 (a, i + 1) (by show 12 - (i + 1) < 12 - i; omega) ⟨(show (i + 1) ≤ 12 from by omega), (show a = lon tk e1 (i + 1) from by rw [ha]; simp [lon, fo, c_15])⟩ _ _ _ hw (lv_sub hl [0, 1, 2, 3] rfl)
    · skip
      rw [q_b0] at c_15; try simp only [Bool.not_eq_false, Bool.not_eq_true] at c_15
      refine lv_iload_n hx hb dX2_longest_18 rfl (lv_at hl 1 rfl) ?_
      refine lv_aload_n hx hb dX2_longest_19 rfl (lv_at hl 2 rfl) ?_
      refine lv_iload_n hx hb dX2_longest_20 rfl (lv_at hl 0 rfl) ?_
      refine x_aldN X hw 0 rfl (by omega) (by omega) dX2_longest_21 ?_
      have hb_21 := htk i
      refine va_mmax hx hb (by rw [hml]; exact hl.1.symm) hown (hts (.methodLink RX2 43 Lib.Math.max.name) (by decide +kernel)) (hts (.static Lib.Math.max.name) (by decide +kernel)) (hts (.initialized "java/lang/Math") (by decide +kernel)) (hts (.code Lib.Math.max.name Lib.Math.max.code 2 (some .int)) (by decide +kernel)) (by decide) (by decide) (by decide) (by decide) dX2_longest_22 ?_
      refine cv_i (show (if nI a < nI (tk i) then nI (tk i) else nI a) = nI (max a (tk i)) from q_max (by omega) (by omega)) ?_
      refine lv_istore_n (lv' := [(2, .int (nI (max a (tk i)))), (3, .int (nI i)), (0, .ref ar), (1, .int (nI e1))]) hx hb dX2_longest_25 rfl hl (by decide) rfl (fun ls hl => ?_)
      refine lv_iinc (v := nI (i + 1)) (lv' := [(3, .int (nI (i + 1))), (2, .int (nI (max a (tk i)))), (0, .ref ar), (1, .int (nI e1))]) hx hb dX2_longest_26 hl (k := 1) rfl (nI_add i 1) (by decide) rfl (fun ls hl => ?_)
      refine lv_goto (tgt := 4) hx hb dX2_longest_29 (by decide) ?_
      exact ih_4 (max a (tk i), i + 1) (by show 12 - (i + 1) < 12 - i; omega) ⟨(show (i + 1) ≤ 12 from by omega), (show (max a (tk i)) = lon tk e1 (i + 1) from by rw [ha]; simp [lon, fo, c_15])⟩ _ _ _ hw (lv_sub hl [0, 1, 2, 3] rfl)
set_option maxHeartbeats 4000000 in
set_option maxRecDepth 100000 in
theorem c_X2_sum (l : Launch) (D : va_G) (cI cZ : ClassId) (ar : Nat) (tk : Nat → Nat) (t : Nat) (te : Nat) (ts : Nat) (en : Nat → Nat) (st : Nat → Nat) (n : Nat) (htk : ∀ k, tk k < 101) (hn : n ≤ 16) (hen : ∀ k, en k < 4096) (hst : ∀ k, st k < 64) : MI l D cI cZ yX2_sum wsX2_sum ({ frames := 2, cells := 0, slots := 0, locals := 44 }) [.ref ar, .ref t] [(ar, .inl (cI, 12, .inl (iA tk))), (t, .inr (3, [.ref te, .ref ts, .int (nI n)])), (te, .inl (cI, 16, .inl (iA en))), (ts, .inl (cI, 17, .inl (iA st)))] (fun r w => r = (nI (sumP tk en n)) ∧ w = [(ar, .inl (cI, 12, .inl (iA tk))), (t, .inr (3, [.ref te, .ref ts, .int (nI n)])), (te, .inl (cI, 16, .inl (iA en))), (ts, .inl (cI, 17, .inl (iA st)))]) := by
  refine MI.of (cc := cX2_sum) (maxL := 4) (ret := (some .int)) (own := RX2) (by decide) rfl rfl (Nat.le_of_ble_eq_true rfl) ?_
  intro pQ eQ s mQ args below meth cQ A X hw ls hl
  obtain ⟨⟨hx, hb, hml, hown, hts⟩, hr, hlk, hK, hN, hA⟩ := id X
  have hl : lv_has ls 4 [(0, .ref ar), (1, .ref t)] := hl
  refine lv_iconst (v := nI 0) hx hb dX2_sum_0 (by decide) ?_
  refine lv_istore_n (lv' := [(2, .int (nI 0)), (0, .ref ar), (1, .ref t)]) hx hb dX2_sum_1 rfl hl (by decide) rfl (fun ls hl => ?_)
  refine lv_iconst (v := nI 0) hx hb dX2_sum_2 (by decide) ?_
  refine lv_istore_n (lv' := [(3, .int (nI 0)), (2, .int (nI 0)), (0, .ref ar), (1, .ref t)]) hx hb dX2_sum_3 rfl hl (by decide) rfl (fun ls hl => ?_)
  refine wl (α := Nat × Nat) (nL := 4) (fun aQ => n - aQ.2) (fun aQ => (aQ.2 ≤ n) ∧ (aQ.1 = sumP tk en aQ.2)) (fun aQ => [(ar, .inl (cI, 12, .inl (iA tk))), (t, .inr (3, [.ref te, .ref ts, .int (nI n)])), (te, .inl (cI, 16, .inl (iA en))), (ts, .inl (cI, 17, .inl (iA st)))]) (fun aQ => [(3, .int (nI aQ.2)), (2, .int (nI aQ.1)), (0, .ref ar), (1, .ref t)]) ?_ (0, 0) ⟨(show 0 ≤ n from by omega), (show 0 = sumP tk en 0 from rfl)⟩ _ _ _ hw (lv_sub hl [0, 1, 2, 3] rfl)
  rintro ⟨a, i⟩ ⟨hi, ha⟩ H locs ls hw hl ih_4
  have hi : i ≤ n := hi
  have ha : a = sumP tk en i := ha
  have hw : WD D A s.heap [(ar, .inl (cI, 12, .inl (iA tk))), (t, .inr (3, [.ref te, .ref ts, .int (nI n)])), (te, .inl (cI, 16, .inl (iA en))), (ts, .inl (cI, 17, .inl (iA st)))] H locs := hw
  have hl : lv_has ls 4 [(3, .int (nI i)), (2, .int (nI a)), (0, .ref ar), (1, .ref t)] := hl
  refine lv_iload_n hx hb dX2_sum_4 rfl (lv_at hl 0 rfl) ?_
  refine lv_aload_n hx hb dX2_sum_5 rfl (lv_at hl 3 rfl) ?_
  refine x_callV (As := []) (rest := [.int (nI i)]) X hw hl.1 (c_X3_size l D cI cZ t te ts en st n ) (cwV 0 hts gX2_sum_X3_size rfl rfl rfl (by decide +kernel) ⟨Nat.le_of_ble_eq_true rfl, Nat.le_of_ble_eq_true rfl⟩) [1, 2, 3] rfl rfl 0 rfl rfl rfl rfl (Nat.le_of_ble_eq_true rfl) dX2_sum_6 (by decide) (fun r w1 H locs hp hw1 => ?_)
  obtain ⟨rfl, rfl⟩ := hp
  have hw : WD D A s.heap [(ar, .inl (cI, 12, .inl (iA tk))), (t, .inr (3, [.ref te, .ref ts, .int (nI n)])), (te, .inl (cI, 16, .inl (iA en))), (ts, .inl (cI, 17, .inl (iA st)))] H locs := hw1 rfl
  refine lv_icmp_ge (tgt := 30) hx hb dX2_sum_9 (by decide) (fun c_9 => ?_) (fun c_9 => ?_)
  · skip
    rw [nI_leI (by omega) (by omega)] at c_9
    refine lv_iload_n hx hb dX2_sum_30 rfl (lv_at hl 1 rfl) ?_
    exact x_iret X hw (⟨(by rw [ha, show i = n by omega]), rfl⟩) dX2_sum_31
  · skip
    rw [nI_leI (by omega) (by omega)] at c_9
    refine lv_iload_n hx hb dX2_sum_12 rfl (lv_at hl 1 rfl) ?_
    refine lv_aload_n hx hb dX2_sum_13 rfl (lv_at hl 2 rfl) ?_
    refine lv_aload_n hx hb dX2_sum_14 rfl (lv_at hl 3 rfl) ?_
    refine lv_iload_n hx hb dX2_sum_15 rfl (lv_at hl 0 rfl) ?_
    refine x_callV (As := [.int (nI i)]) (rest := [.ref ar, .int (nI a)]) X hw hl.1 (c_X3_endsOf l D cI cZ t te ts en st n i (by first | assumption | omega) (by first | assumption | omega) (by first | assumption | omega) (by first | assumption | omega)) (cwV 1 hts gX2_sum_X3_endsOf rfl rfl rfl (by decide +kernel) ⟨Nat.le_of_ble_eq_true rfl, Nat.le_of_ble_eq_true rfl⟩) [1, 2, 3] rfl rfl 0 rfl rfl rfl rfl (Nat.le_of_ble_eq_true rfl) dX2_sum_16 (by decide) (fun r w1 H locs hp hw1 => ?_)
    obtain ⟨rfl, rfl⟩ := hp
    have hw : WD D A s.heap [(ar, .inl (cI, 12, .inl (iA tk))), (t, .inr (3, [.ref te, .ref ts, .int (nI n)])), (te, .inl (cI, 16, .inl (iA en))), (ts, .inl (cI, 17, .inl (iA st)))] H locs := hw1 rfl
    have he := hen i
    refine x_callS (As := [.ref ar, .int (nI (en i))]) (rest := [.int (nI a)]) X hw hl.1 (c_X2_longest l D cI cZ ar tk (en i) (by first | assumption | omega) (by first | assumption | omega)) (va_cwS 2 hts gX2_sum_X2_longest rfl rfl rfl (by decide +kernel) ⟨Nat.le_of_ble_eq_true rfl, Nat.le_of_ble_eq_true rfl⟩) [0] rfl rfl rfl (Nat.le_of_ble_eq_true rfl) dX2_sum_19 (by decide) (fun r w1 H locs hp hw1 => ?_)
    obtain ⟨rfl, rfl⟩ := hp
    have hw : WD D A s.heap [(ar, .inl (cI, 12, .inl (iA tk))), (t, .inr (3, [.ref te, .ref ts, .int (nI n)])), (te, .inl (cI, 16, .inl (iA en))), (ts, .inl (cI, 17, .inl (iA st)))] H locs := hw1 rfl
    refine lv_iadd hx hb dX2_sum_22 ?_
    refine cv_i (show nI a + nI (lon tk (en i) 12) = nI (a + (lon tk (en i) 12)) from nI_add a (lon tk (en i) 12)) ?_
    refine lv_istore_n (lv' := [(2, .int (nI (a + (lon tk (en i) 12)))), (3, .int (nI i)), (0, .ref ar), (1, .ref t)]) hx hb dX2_sum_23 rfl hl (by decide) rfl (fun ls hl => ?_)
    refine lv_iinc (v := nI (i + 1)) (lv' := [(3, .int (nI (i + 1))), (2, .int (nI (a + (lon tk (en i) 12)))), (0, .ref ar), (1, .ref t)]) hx hb dX2_sum_24 hl (k := 1) rfl (nI_add i 1) (by decide) rfl (fun ls hl => ?_)
    refine lv_goto (tgt := 4) hx hb dX2_sum_27 (by decide) ?_
    exact ih_4 (a + (lon tk (en i) 12), i + 1) (by show n - (i + 1) < n - i; omega) ⟨(show (i + 1) ≤ n from by omega), (show (a + (lon tk (en i) 12)) = sumP tk en (i + 1) from by rw [ha]; rfl)⟩ _ _ _ hw (lv_sub hl [0, 1, 2, 3] rfl)
set_option maxHeartbeats 4000000 in
set_option maxRecDepth 100000 in
theorem c_X2_leastOfLoop (l : Launch) (D : va_G) (cI cZ : ClassId) (pa : Nat) (pl : Nat) (pm : Nat) (le : Nat → Nat) (mo : Nat → Nat) (t : Nat) (te : Nat) (ts : Nat) (en : Nat → Nat) (st : Nat → Nat) (n : Nat) (hle : ∀ k, le k < 101) (hmo : ∀ k, mo k < 101) (hn : n ≤ 16) (hen : ∀ k, en k < 4096) (hst : ∀ k, st k < 64) : MI l D cI cZ yX2_leastOfLoop wsX2_leastOfLoop ({ frames := 3, cells := 0, slots := 0, locals := 67 }) [.ref pa, .ref t] [(pa, .inr (2, [.ref pl, .ref pm])), (pl, .inl (cI, 12, .inl (iA le))), (pm, .inl (cI, 12, .inl (iA mo))), (t, .inr (3, [.ref te, .ref ts, .int (nI n)])), (te, .inl (cI, 16, .inl (iA en))), (ts, .inl (cI, 17, .inl (iA st)))] (fun r w => r = (nI (sumP le en n)) ∧ w = [(pa, .inr (2, [.ref pl, .ref pm])), (pl, .inl (cI, 12, .inl (iA le))), (pm, .inl (cI, 12, .inl (iA mo))), (t, .inr (3, [.ref te, .ref ts, .int (nI n)])), (te, .inl (cI, 16, .inl (iA en))), (ts, .inl (cI, 17, .inl (iA st)))]) := by
  refine MI.of (cc := cX2_leastOfLoop) (maxL := 2) (ret := (some .int)) (own := RX2) (by decide) rfl rfl (Nat.le_of_ble_eq_true rfl) ?_
  intro pQ eQ s mQ args below meth cQ A X hw ls hl
  obtain ⟨⟨hx, hb, hml, hown, hts⟩, hr, hlk, hK, hN, hA⟩ := id X
  have hl : lv_has ls 2 [(0, .ref pa), (1, .ref t)] := hl
  have n2 : ∀ w ∈ wsX20, w ∈ wsX2_leastOfLoop := by decide +kernel
  have f9 : FF args s RX2 wsX2_leastOfLoop 9 2 0 := ⟨_, rfl, by decide, n2, hts (.fieldLink RX2 9 "AirSteps$Paces" "least" "[I") (by decide +kernel)⟩
  refine lv_aload_n hx hb dX2_leastOfLoop_0 rfl (lv_at hl 0 rfl) ?_
  refine x_get X hw f9 0 rfl rfl dX2_leastOfLoop_1 ?_
  refine lv_aload_n hx hb dX2_leastOfLoop_4 rfl (lv_at hl 1 rfl) ?_
  refine x_callS (As := [.ref pl, .ref t]) (rest := []) X hw hl.1 (c_X2_sum l D cI cZ pl le t te ts en st n (hle) (by first | assumption | omega) (by first | assumption | omega) (by first | assumption | omega)) (va_cwS 2 hts gX2_leastOfLoop_X2_sum rfl rfl rfl (by decide +kernel) ⟨Nat.le_of_ble_eq_true rfl, Nat.le_of_ble_eq_true rfl⟩) [1, 3, 4, 5] rfl rfl rfl (Nat.le_of_ble_eq_true rfl) dX2_leastOfLoop_5 (by decide) (fun r w1 H locs hp hw1 => ?_)
  obtain ⟨rfl, rfl⟩ := hp
  have hw : WD D A s.heap [(pa, .inr (2, [.ref pl, .ref pm])), (pl, .inl (cI, 12, .inl (iA le))), (pm, .inl (cI, 12, .inl (iA mo))), (t, .inr (3, [.ref te, .ref ts, .int (nI n)])), (te, .inl (cI, 16, .inl (iA en))), (ts, .inl (cI, 17, .inl (iA st)))] H locs := hw1 rfl
  exact x_iret X hw (⟨(by first | rfl | omega), rfl⟩) dX2_leastOfLoop_8
set_option maxHeartbeats 4000000 in
set_option maxRecDepth 100000 in
theorem c_X2_mostOfLoop (l : Launch) (D : va_G) (cI cZ : ClassId) (pa : Nat) (pl : Nat) (pm : Nat) (le : Nat → Nat) (mo : Nat → Nat) (t : Nat) (te : Nat) (ts : Nat) (en : Nat → Nat) (st : Nat → Nat) (n : Nat) (hle : ∀ k, le k < 101) (hmo : ∀ k, mo k < 101) (hn : n ≤ 16) (hen : ∀ k, en k < 4096) (hst : ∀ k, st k < 64) : MI l D cI cZ yX2_mostOfLoop wsX2_mostOfLoop ({ frames := 3, cells := 0, slots := 0, locals := 67 }) [.ref pa, .ref t] [(pa, .inr (2, [.ref pl, .ref pm])), (pl, .inl (cI, 12, .inl (iA le))), (pm, .inl (cI, 12, .inl (iA mo))), (t, .inr (3, [.ref te, .ref ts, .int (nI n)])), (te, .inl (cI, 16, .inl (iA en))), (ts, .inl (cI, 17, .inl (iA st)))] (fun r w => r = (nI (sumP mo en n)) ∧ w = [(pa, .inr (2, [.ref pl, .ref pm])), (pl, .inl (cI, 12, .inl (iA le))), (pm, .inl (cI, 12, .inl (iA mo))), (t, .inr (3, [.ref te, .ref ts, .int (nI n)])), (te, .inl (cI, 16, .inl (iA en))), (ts, .inl (cI, 17, .inl (iA st)))]) := by
  refine MI.of (cc := cX2_mostOfLoop) (maxL := 2) (ret := (some .int)) (own := RX2) (by decide) rfl rfl (Nat.le_of_ble_eq_true rfl) ?_
  intro pQ eQ s mQ args below meth cQ A X hw ls hl
  obtain ⟨⟨hx, hb, hml, hown, hts⟩, hr, hlk, hK, hN, hA⟩ := id X
  have hl : lv_has ls 2 [(0, .ref pa), (1, .ref t)] := hl
  have n2 : ∀ w ∈ wsX20, w ∈ wsX2_mostOfLoop := by decide +kernel
  have f15 : FF args s RX2 wsX2_mostOfLoop 15 2 1 := ⟨_, rfl, by decide, n2, hts (.fieldLink RX2 15 "AirSteps$Paces" "most" "[I") (by decide +kernel)⟩
  refine lv_aload_n hx hb dX2_mostOfLoop_0 rfl (lv_at hl 0 rfl) ?_
  refine x_get X hw f15 0 rfl rfl dX2_mostOfLoop_1 ?_
  refine lv_aload_n hx hb dX2_mostOfLoop_4 rfl (lv_at hl 1 rfl) ?_
  refine x_callS (As := [.ref pm, .ref t]) (rest := []) X hw hl.1 (c_X2_sum l D cI cZ pm mo t te ts en st n (hmo) (by first | assumption | omega) (by first | assumption | omega) (by first | assumption | omega)) (va_cwS 2 hts gX2_mostOfLoop_X2_sum rfl rfl rfl (by decide +kernel) ⟨Nat.le_of_ble_eq_true rfl, Nat.le_of_ble_eq_true rfl⟩) [2, 3, 4, 5] rfl rfl rfl (Nat.le_of_ble_eq_true rfl) dX2_mostOfLoop_5 (by decide) (fun r w1 H locs hp hw1 => ?_)
  obtain ⟨rfl, rfl⟩ := hp
  have hw : WD D A s.heap [(pa, .inr (2, [.ref pl, .ref pm])), (pl, .inl (cI, 12, .inl (iA le))), (pm, .inl (cI, 12, .inl (iA mo))), (t, .inr (3, [.ref te, .ref ts, .int (nI n)])), (te, .inl (cI, 16, .inl (iA en))), (ts, .inl (cI, 17, .inl (iA st)))] H locs := hw1 rfl
  exact x_iret X hw (⟨(by first | rfl | omega), rfl⟩) dX2_mostOfLoop_8
set_option maxHeartbeats 4000000 in
set_option maxRecDepth 100000 in
theorem c_X2_slowest (l : Launch) (D : va_G) (cI cZ : ClassId) (pa : Nat) (pl : Nat) (pm : Nat) (le : Nat → Nat) (mo : Nat → Nat) (t : Nat) (te : Nat) (ts : Nat) (en : Nat → Nat) (st : Nat → Nat) (n : Nat) (hle : ∀ k, le k < 101) (hmo : ∀ k, mo k < 101) (hn : n ≤ 16) (hen : ∀ k, en k < 4096) (hst : ∀ k, st k < 64) : MI l D cI cZ yX2_slowest wsX2_slowest ({ frames := 2, cells := 0, slots := 0, locals := 44 }) [.ref pa, .ref t] [(pa, .inr (2, [.ref pl, .ref pm])), (pl, .inl (cI, 12, .inl (iA le))), (pm, .inl (cI, 12, .inl (iA mo))), (t, .inr (3, [.ref te, .ref ts, .int (nI n)])), (te, .inl (cI, 16, .inl (iA en))), (ts, .inl (cI, 17, .inl (iA st)))] (fun r w => r = ((slo mo en n).1) ∧ w = [(pa, .inr (2, [.ref pl, .ref pm])), (pl, .inl (cI, 12, .inl (iA le))), (pm, .inl (cI, 12, .inl (iA mo))), (t, .inr (3, [.ref te, .ref ts, .int (nI n)])), (te, .inl (cI, 16, .inl (iA en))), (ts, .inl (cI, 17, .inl (iA st)))]) := by
  refine MI.of (cc := cX2_slowest) (maxL := 6) (ret := (some .int)) (own := RX2) (by decide) rfl rfl (Nat.le_of_ble_eq_true rfl) ?_
  intro pQ eQ s mQ args below meth cQ A X hw ls hl
  obtain ⟨⟨hx, hb, hml, hown, hts⟩, hr, hlk, hK, hN, hA⟩ := id X
  have hl : lv_has ls 6 [(0, .ref pa), (1, .ref t)] := hl
  have n2 : ∀ w ∈ wsX20, w ∈ wsX2_slowest := by decide +kernel
  have f15 : FF args s RX2 wsX2_slowest 15 2 1 := ⟨_, rfl, by decide, n2, hts (.fieldLink RX2 15 "AirSteps$Paces" "most" "[I") (by decide +kernel)⟩
  refine lv_iconst (v := (-1)) hx hb dX2_slowest_0 (by decide) ?_
  refine lv_istore_n (lv' := [(2, .int (-1)), (0, .ref pa), (1, .ref t)]) hx hb dX2_slowest_1 rfl hl (by decide) rfl (fun ls hl => ?_)
  refine lv_iconst (v := nI 0) hx hb dX2_slowest_2 (by decide) ?_
  refine lv_istore_n (lv' := [(3, .int (nI 0)), (2, .int (-1)), (0, .ref pa), (1, .ref t)]) hx hb dX2_slowest_3 rfl hl (by decide) rfl (fun ls hl => ?_)
  refine lv_iconst (v := nI 0) hx hb dX2_slowest_4 (by decide) ?_
  refine lv_istore (lv' := [(4, .int (nI 0)), (3, .int (nI 0)), (2, .int (-1)), (0, .ref pa), (1, .ref t)]) hx hb dX2_slowest_5 hl (by decide) rfl (fun ls hl => ?_)
  refine wl (α := Int32 × Nat × Nat) (nL := 6) (fun aQ => n - aQ.2.2) (fun aQ => (aQ.2.2 ≤ n) ∧ ((aQ.1, aQ.2.1) = slo mo en aQ.2.2) ∧ (aQ.2.1 < 101)) (fun aQ => [(pa, .inr (2, [.ref pl, .ref pm])), (pl, .inl (cI, 12, .inl (iA le))), (pm, .inl (cI, 12, .inl (iA mo))), (t, .inr (3, [.ref te, .ref ts, .int (nI n)])), (te, .inl (cI, 16, .inl (iA en))), (ts, .inl (cI, 17, .inl (iA st)))]) (fun aQ => [(4, .int (nI aQ.2.2)), (3, .int (nI aQ.2.1)), (2, .int aQ.1), (0, .ref pa), (1, .ref t)]) ?_ ((-1), 0, 0) ⟨(show 0 ≤ n from by omega), (show ((-1), 0) = slo mo en 0 from rfl), (show 0 < 101 from by omega)⟩ _ _ _ hw (lv_sub hl [0, 1, 2, 3, 4] rfl)
  rintro ⟨f, a, i⟩ ⟨hi, ha, hab⟩ H locs ls hw hl ih_7
  have hi : i ≤ n := hi
  have ha : (f, a) = slo mo en i := ha
  have hab : a < 101 := hab
  have hw : WD D A s.heap [(pa, .inr (2, [.ref pl, .ref pm])), (pl, .inl (cI, 12, .inl (iA le))), (pm, .inl (cI, 12, .inl (iA mo))), (t, .inr (3, [.ref te, .ref ts, .int (nI n)])), (te, .inl (cI, 16, .inl (iA en))), (ts, .inl (cI, 17, .inl (iA st)))] H locs := hw
  have hl : lv_has ls 6 [(4, .int (nI i)), (3, .int (nI a)), (2, .int f), (0, .ref pa), (1, .ref t)] := hl
  refine lv_iload hx hb dX2_slowest_7 (lv_at hl 0 rfl) ?_
  refine lv_aload_n hx hb dX2_slowest_9 rfl (lv_at hl 4 rfl) ?_
  refine x_callV (As := []) (rest := [.int (nI i)]) X hw hl.1 (c_X3_size l D cI cZ t te ts en st n ) (cwV 0 hts gX2_slowest_X3_size rfl rfl rfl (by decide +kernel) ⟨Nat.le_of_ble_eq_true rfl, Nat.le_of_ble_eq_true rfl⟩) [3, 4, 5] rfl rfl 0 rfl rfl rfl rfl (Nat.le_of_ble_eq_true rfl) dX2_slowest_10 (by decide) (fun r w1 H locs hp hw1 => ?_)
  obtain ⟨rfl, rfl⟩ := hp
  have hw : WD D A s.heap [(pa, .inr (2, [.ref pl, .ref pm])), (pl, .inl (cI, 12, .inl (iA le))), (pm, .inl (cI, 12, .inl (iA mo))), (t, .inr (3, [.ref te, .ref ts, .int (nI n)])), (te, .inl (cI, 16, .inl (iA en))), (ts, .inl (cI, 17, .inl (iA st)))] H locs := hw1 rfl
  refine lv_icmp_ge (tgt := 49) hx hb dX2_slowest_13 (by decide) (fun c_13 => ?_) (fun c_13 => ?_)
  · skip
    rw [nI_leI (by omega) (by omega)] at c_13
    refine lv_iload_n hx hb dX2_slowest_49 rfl (lv_at hl 2 rfl) ?_
    exact x_iret X hw (⟨(by rw [show n = i by omega, ← ha]), rfl⟩) dX2_slowest_50
  · skip
    rw [nI_leI (by omega) (by omega)] at c_13
    refine lv_aload_n hx hb dX2_slowest_16 rfl (lv_at hl 3 rfl) ?_
    refine x_get X hw f15 0 rfl rfl dX2_slowest_17 ?_
    refine lv_aload_n hx hb dX2_slowest_20 rfl (lv_at hl 4 rfl) ?_
    refine lv_iload hx hb dX2_slowest_21 (lv_at hl 0 rfl) ?_
    refine x_callV (As := [.int (nI i)]) (rest := [.ref pm]) X hw hl.1 (c_X3_endsOf l D cI cZ t te ts en st n i (by first | assumption | omega) (by first | assumption | omega) (by first | assumption | omega) (by first | assumption | omega)) (cwV 1 hts gX2_slowest_X3_endsOf rfl rfl rfl (by decide +kernel) ⟨Nat.le_of_ble_eq_true rfl, Nat.le_of_ble_eq_true rfl⟩) [3, 4, 5] rfl rfl 0 rfl rfl rfl rfl (Nat.le_of_ble_eq_true rfl) dX2_slowest_23 (by decide) (fun r w1 H locs hp hw1 => ?_)
    obtain ⟨rfl, rfl⟩ := hp
    have hw : WD D A s.heap [(pa, .inr (2, [.ref pl, .ref pm])), (pl, .inl (cI, 12, .inl (iA le))), (pm, .inl (cI, 12, .inl (iA mo))), (t, .inr (3, [.ref te, .ref ts, .int (nI n)])), (te, .inl (cI, 16, .inl (iA en))), (ts, .inl (cI, 17, .inl (iA st)))] H locs := hw1 rfl
    have he := hen i
    refine x_callS (As := [.ref pm, .int (nI (en i))]) (rest := []) X hw hl.1 (c_X2_longest l D cI cZ pm mo (en i) (hmo) (by first | assumption | omega)) (va_cwS 2 hts gX2_slowest_X2_longest rfl rfl rfl (by decide +kernel) ⟨Nat.le_of_ble_eq_true rfl, Nat.le_of_ble_eq_true rfl⟩) [2] rfl rfl rfl (Nat.le_of_ble_eq_true rfl) dX2_slowest_26 (by decide) (fun r w1 H locs hp hw1 => ?_)
    obtain ⟨rfl, rfl⟩ := hp
    have hw : WD D A s.heap [(pa, .inr (2, [.ref pl, .ref pm])), (pl, .inl (cI, 12, .inl (iA le))), (pm, .inl (cI, 12, .inl (iA mo))), (t, .inr (3, [.ref te, .ref ts, .int (nI n)])), (te, .inl (cI, 16, .inl (iA en))), (ts, .inl (cI, 17, .inl (iA st)))] H locs := hw1 rfl
    have hll := lon_lt hmo (en i) 12
    refine lv_istore (lv' := [(5, .int (nI (lon mo (en i) 12))), (4, .int (nI i)), (3, .int (nI a)), (2, .int f), (0, .ref pa), (1, .ref t)]) hx hb dX2_slowest_29 hl (by decide) rfl (fun ls hl => ?_)
    refine lv_iload hx hb dX2_slowest_31 (lv_at hl 0 rfl) ?_
    refine lv_iload_n hx hb dX2_slowest_33 rfl (lv_at hl 2 rfl) ?_
    refine lv_icmp_le (tgt := 43) hx hb dX2_slowest_34 (by decide) (fun c_34 => ?_) (fun c_34 => ?_)
    · skip
      rw [nI_leI (by omega) (by omega)] at c_34
      refine lv_iinc (v := nI (i + 1)) (lv' := [(4, .int (nI (i + 1))), (5, .int (nI (lon mo (en i) 12))), (3, .int (nI a)), (2, .int f), (0, .ref pa), (1, .ref t)]) hx hb dX2_slowest_43 hl (k := 1) rfl (nI_add i 1) (by decide) rfl (fun ls hl => ?_)
      refine lv_goto (tgt := 7) hx hb dX2_slowest_46 (by decide) ?_
      exact ih_7 (f, a, i + 1) (by show n - (i + 1) < n - i; omega) ⟨(show (i + 1) ≤ n from by omega), (show (f, a) = slo mo en (i + 1) from by show _ = (if (slo mo en i).2 < lon mo (en i) 12 then (nI i, lon mo (en i) 12) else slo mo en i); rw [← ha]; simp; omega), (show a < 101 from by omega)⟩ _ _ _ hw (lv_sub hl [0, 2, 3, 4, 5] rfl)
    · skip
      rw [nI_leI (by omega) (by omega)] at c_34
      refine lv_iload hx hb dX2_slowest_37 (lv_at hl 0 rfl) ?_
      refine lv_istore_n (lv' := [(3, .int (nI (lon mo (en i) 12))), (5, .int (nI (lon mo (en i) 12))), (4, .int (nI i)), (2, .int f), (0, .ref pa), (1, .ref t)]) hx hb dX2_slowest_39 rfl hl (by decide) rfl (fun ls hl => ?_)
      refine lv_iload hx hb dX2_slowest_40 (lv_at hl 2 rfl) ?_
      refine lv_istore_n (lv' := [(2, .int (nI i)), (3, .int (nI (lon mo (en i) 12))), (5, .int (nI (lon mo (en i) 12))), (4, .int (nI i)), (0, .ref pa), (1, .ref t)]) hx hb dX2_slowest_42 rfl hl (by decide) rfl (fun ls hl => ?_)
      refine lv_iinc (v := nI (i + 1)) (lv' := [(4, .int (nI (i + 1))), (2, .int (nI i)), (3, .int (nI (lon mo (en i) 12))), (5, .int (nI (lon mo (en i) 12))), (0, .ref pa), (1, .ref t)]) hx hb dX2_slowest_43 hl (k := 3) rfl (nI_add i 1) (by decide) rfl (fun ls hl => ?_)
      refine lv_goto (tgt := 7) hx hb dX2_slowest_46 (by decide) ?_
      exact ih_7 (nI i, lon mo (en i) 12, i + 1) (by show n - (i + 1) < n - i; omega) ⟨(show (i + 1) ≤ n from by omega), (show ((nI i), (lon mo (en i) 12)) = slo mo en (i + 1) from by show _ = (if (slo mo en i).2 < lon mo (en i) 12 then (nI i, lon mo (en i) 12) else slo mo en i); rw [← ha]; simp; omega), (show (lon mo (en i) 12) < 101 from by omega)⟩ _ _ _ hw (lv_sub hl [0, 2, 1, 4, 5] rfl)
