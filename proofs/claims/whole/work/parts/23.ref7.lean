/-! ===== the reference: sensors, count, the constructor ===== -/
def hsR (oo ii : Nat → Nat) (n k q : Nat) : Bool := (if q < 6 then ii (pr n k) else oo (pr n k)).testBit (q % 6)
def spR (oo ii : Nat → Nat) (n q : Nat) : Int32 := fsI (fun k => hsR oo ii n k q) n
def exR (oo ii : Nat → Nat) (n k i : Nat) : Nat := fo (fun q a => a ||| if spR oo ii n q = nI k then 1 <<< q else 0) 0 i
def mvsR (oo ii : Nat → Nat) (i : Nat) : Nat := fo (fun k a => a + popc (oo k ||| ii k)) 0 i
theorem tsw {x : Int32} : (x = nI 0 ∨ x = nI 1 ∨ x = nI 2) ∨ (¬ x = 0 ∧ ¬ x = nI 1 ∧ ¬ x = nI 2) ∧ (x.toInt < 0 ∨ 2 < x.toInt) := by
  by_cases h0 : x = nI 0
  · exact Or.inl (Or.inl h0)
  · by_cases h1 : x = nI 1
    · exact Or.inl (Or.inr (Or.inl h1))
    · by_cases h2 : x = nI 2
      · exact Or.inl (Or.inr (Or.inr h2))
      · refine Or.inr ⟨⟨h0, h1, h2⟩, ?_⟩
        rw [← Int32.toInt_inj] at h0 h1 h2
        have e0 : (nI 0).toInt = 0 := by decide
        have e1 : (nI 1).toInt = 1 := by decide
        have e2 : (nI 2).toInt = 2 := by decide
        omega
set_option maxHeartbeats 4000000 in
set_option maxRecDepth 100000 in
theorem c_X6_has (l : Launch) (D : va_G) (cI cZ : ClassId) (mx : Nat) (m1 : Nat) (m2 : Nat) (m3 : Nat) (m4 : Nat) (m5 : Nat) (m6 : Nat) (m7 : Nat) (m8 : Nat) (m9 : Nat) (m10 : Nat) (n : Nat) (nl : Nat) (ct : Nat) (oo : Nat → Nat) (ii : Nat → Nat) (k : Nat) (q : Nat) (hn : n ≤ 16) (hoo : ∀ k, oo k < 64) (hii : ∀ k, ii k < 64) (hk : k < n) (hq : q < 12) : MI l D cI cZ yX6_has wsX6_has ({ frames := 1, cells := 0, slots := 0, locals := 21 }) [.ref mx, .int (nI k), .int (nI q)] [(mx, .inr (6, [.int (nI n), .ref m1, .ref m2, .ref m3, .ref m4, .int (nI nl), .ref m5, .ref m6, .ref m7, .ref m8, .ref m9, .int (nI ct), .ref m10])), (m1, .inl (cI, 16, .inl (iA oo))), (m2, .inl (cI, 16, .inl (iA ii)))] (fun r w => r = (bI (hsR oo ii n k q)) ∧ w = [(mx, .inr (6, [.int (nI n), .ref m1, .ref m2, .ref m3, .ref m4, .int (nI nl), .ref m5, .ref m6, .ref m7, .ref m8, .ref m9, .int (nI ct), .ref m10])), (m1, .inl (cI, 16, .inl (iA oo))), (m2, .inl (cI, 16, .inl (iA ii)))]) := by
  refine MI.of (cc := cX6_has) (maxL := 4) (ret := (some .boolean)) (own := RX6) (by decide) rfl rfl (Nat.le_of_ble_eq_true rfl) ?_
  intro pQ eQ s mQ args below meth cQ A X hw ls hl
  obtain ⟨⟨hx, hb, hml, hown, hts⟩, hr, hlk, hK, hN, hA⟩ := id X
  have hl : lv_has ls 4 [(0, .ref mx), (1, .int (nI k)), (2, .int (nI q))] := hl
  have n6 : ∀ w ∈ wsX60, w ∈ wsX6_has := by decide +kernel
  have f7 : FF args s RX6 wsX6_has 7 6 1 := ⟨_, rfl, by decide, n6, hts (.fieldLink RX6 7 "AirStepsModel" "outs" "[I") (by decide +kernel)⟩
  have f13 : FF args s RX6 wsX6_has 13 6 2 := ⟨_, rfl, by decide, n6, hts (.fieldLink RX6 13 "AirStepsModel" "ins" "[I") (by decide +kernel)⟩
  refine lv_aload_n hx hb dX6_has_0 rfl (lv_at hl 0 rfl) ?_
  refine lv_iload_n hx hb dX6_has_1 rfl (lv_at hl 1 rfl) ?_
  refine x_callV (As := [.int (nI k)]) (rest := []) X hw hl.1 (c_X6_ahead l D cI cZ mx m1 m2 m3 m4 m5 m6 m7 m8 m9 m10 n nl ct k (by first | assumption | omega) (by first | assumption | omega)) (cwV 1 hts gX6_has_X6_ahead rfl rfl rfl (by decide +kernel) ⟨Nat.le_of_ble_eq_true rfl, Nat.le_of_ble_eq_true rfl⟩) [0] rfl rfl 0 rfl rfl rfl rfl (Nat.le_of_ble_eq_true rfl) dX6_has_2 (by decide) (fun r w1 H locs hp hw1 => ?_)
  obtain ⟨rfl, rfl⟩ := hp
  have hw : WD D A s.heap [(mx, .inr (6, [.int (nI n), .ref m1, .ref m2, .ref m3, .ref m4, .int (nI nl), .ref m5, .ref m6, .ref m7, .ref m8, .ref m9, .int (nI ct), .ref m10])), (m1, .inl (cI, 16, .inl (iA oo))), (m2, .inl (cI, 16, .inl (iA ii)))] H locs := hw1 rfl
  have hpr := pr_lt hk
  refine lv_istore_n (lv' := [(3, .int (nI (pr n k))), (0, .ref mx), (1, .int (nI k)), (2, .int (nI q))]) hx hb dX6_has_5 rfl hl (by decide) rfl (fun ls hl => ?_)
  refine wj (α := Nat) (nL := 4) 27 (fun aQ => (aQ = if q < 6 then ii (pr n k) else oo (pr n k)) ∧ (aQ < 64)) (fun aQ => [(mx, .inr (6, [.int (nI n), .ref m1, .ref m2, .ref m3, .ref m4, .int (nI nl), .ref m5, .ref m6, .ref m7, .ref m8, .ref m9, .int (nI ct), .ref m10])), (m1, .inl (cI, 16, .inl (iA oo))), (m2, .inl (cI, 16, .inl (iA ii)))]) (fun aQ => [(3, .int (nI (pr n k))), (0, .ref mx), (1, .int (nI k)), (2, .int (nI q))]) (fun aQ => [.int (nI aQ)]) (D := D) (A := A) (H0 := s.heap) (fun J27 => ?_) ?_
  · skip
    refine lv_iload_n hx hb dX6_has_6 rfl (lv_at hl 3 rfl) ?_
    refine lv_bipush (v := nI 6) hx hb dX6_has_7 (by decide) ?_
    refine lv_icmp_ge (tgt := 21) hx hb dX6_has_9 (by decide) (fun c_9 => ?_) (fun c_9 => ?_)
    · skip
      rw [nI_leI (by omega) (by omega)] at c_9
      refine lv_aload_n hx hb dX6_has_21 rfl (lv_at hl 1 rfl) ?_
      refine x_get X hw f7 0 rfl rfl dX6_has_22 ?_
      refine lv_iload_n hx hb dX6_has_25 rfl (lv_at hl 0 rfl) ?_
      refine x_aldN X hw 1 rfl (by omega) (by omega) dX6_has_26 ?_
      have hb_26 := hoo (pr n k)
      exact J27 (oo (pr n k)) ⟨(show (oo (pr n k)) = if q < 6 then ii (pr n k) else oo (pr n k) from by first | (rw [if_pos (by omega)]; done) | (rw [if_neg (by omega)]; done)), (show (oo (pr n k)) < 64 from by omega)⟩ _ _ _ hw (lv_sub hl [0, 1, 2, 3] rfl)
    · skip
      rw [nI_leI (by omega) (by omega)] at c_9
      refine lv_aload_n hx hb dX6_has_12 rfl (lv_at hl 1 rfl) ?_
      refine x_get X hw f13 0 rfl rfl dX6_has_13 ?_
      refine lv_iload_n hx hb dX6_has_16 rfl (lv_at hl 0 rfl) ?_
      refine x_aldN X hw 2 rfl (by omega) (by omega) dX6_has_17 ?_
      have hb_17 := hii (pr n k)
      refine lv_goto (tgt := 27) hx hb dX6_has_18 (by decide) ?_
      exact J27 (ii (pr n k)) ⟨(show (ii (pr n k)) = if q < 6 then ii (pr n k) else oo (pr n k) from by first | (rw [if_pos (by omega)]; done) | (rw [if_neg (by omega)]; done)), (show (ii (pr n k)) < 64 from by omega)⟩ _ _ _ hw (lv_sub hl [0, 1, 2, 3] rfl)
  · rintro v ⟨hv, hv64⟩ H locs ls hw hl
    have hv : v = if q < 6 then ii (pr n k) else oo (pr n k) := hv
    have hv64 : v < 64 := hv64
    have hw : WD D A s.heap [(mx, .inr (6, [.int (nI n), .ref m1, .ref m2, .ref m3, .ref m4, .int (nI nl), .ref m5, .ref m6, .ref m7, .ref m8, .ref m9, .int (nI ct), .ref m10])), (m1, .inl (cI, 16, .inl (iA oo))), (m2, .inl (cI, 16, .inl (iA ii)))] H locs := hw
    have hl : lv_has ls 4 [(3, .int (nI (pr n k))), (0, .ref mx), (1, .int (nI k)), (2, .int (nI q))] := hl
    refine lv_iload_n hx hb dX6_has_27 rfl (lv_at hl 3 rfl) ?_
    refine lv_bipush (v := nI 6) hx hb dX6_has_28 (by decide) ?_
    refine lv_irem hx hb dX6_has_30 (by decide) ?_
    refine cv_i (show nI q - nI q / nI 6 * nI 6 = nI (q % 6) from pk_rem (by omega) (by omega) (by omega)) ?_
    refine lv_ishr hx hb dX6_has_31 ?_
    refine cv_i (show (nI v) >>> (nI (q % 6) &&& 31) = nI (v >>> (q % 6)) from q_shr v (q % 6) (by first | omega | assumption) (by omega)) ?_
    refine lv_iconst (v := nI 1) hx hb dX6_has_32 (by decide) ?_
    refine lv_iand hx hb dX6_has_33 ?_
    refine cv_i (show nI (v >>> (q % 6)) &&& nI 1 = bI (v.testBit (q % 6)) from q_bit v (q % 6)) ?_
    refine lv_iconst (v := nI 1) hx hb dX6_has_34 (by decide) ?_
    refine lv_icmp_ne (tgt := 42) hx hb dX6_has_35 (by decide) (fun c_35 => ?_) (fun c_35 => ?_)
    · skip
      rw [q_b1] at c_35; try simp only [Bool.not_eq_false, Bool.not_eq_true] at c_35
      refine lv_iconst (v := nI 0) hx hb dX6_has_42 (by decide) ?_
      refine cv_i (show nI 0 = bI false from by decide) ?_
      exact x_zret X hw (⟨(congrArg bI (by unfold hsR; rw [← hv, c_35])), rfl⟩) dX6_has_43
    · skip
      rw [q_b1] at c_35; try simp only [Bool.not_eq_false, Bool.not_eq_true] at c_35
      refine lv_iconst (v := nI 1) hx hb dX6_has_38 (by decide) ?_
      refine lv_goto (tgt := 43) hx hb dX6_has_39 (by decide) ?_
      refine cv_i (show nI 1 = bI true from by decide) ?_
      exact x_zret X hw (⟨(congrArg bI (by unfold hsR; rw [← hv, c_35])), rfl⟩) dX6_has_43
set_option maxHeartbeats 4000000 in
set_option maxRecDepth 100000 in
theorem c_X6_stopOf (l : Launch) (D : va_G) (cI cZ : ClassId) (mx : Nat) (m1 : Nat) (m2 : Nat) (m3 : Nat) (m4 : Nat) (m5 : Nat) (m6 : Nat) (m7 : Nat) (m8 : Nat) (m9 : Nat) (m10 : Nat) (n : Nat) (nl : Nat) (ct : Nat) (oo : Nat → Nat) (ii : Nat → Nat) (q : Nat) (hn : n ≤ 16) (hoo : ∀ k, oo k < 64) (hii : ∀ k, ii k < 64) (hq : q < 12) : MI l D cI cZ yX6_stopOf wsX6_stopOf ({ frames := 2, cells := 0, slots := 0, locals := 44 }) [.ref mx, .int (nI q)] [(mx, .inr (6, [.int (nI n), .ref m1, .ref m2, .ref m3, .ref m4, .int (nI nl), .ref m5, .ref m6, .ref m7, .ref m8, .ref m9, .int (nI ct), .ref m10])), (m1, .inl (cI, 16, .inl (iA oo))), (m2, .inl (cI, 16, .inl (iA ii)))] (fun r w => r = (spR oo ii n q) ∧ w = [(mx, .inr (6, [.int (nI n), .ref m1, .ref m2, .ref m3, .ref m4, .int (nI nl), .ref m5, .ref m6, .ref m7, .ref m8, .ref m9, .int (nI ct), .ref m10])), (m1, .inl (cI, 16, .inl (iA oo))), (m2, .inl (cI, 16, .inl (iA ii)))]) := by
  refine MI.of (cc := cX6_stopOf) (maxL := 3) (ret := (some .int)) (own := RX6) (by decide) rfl rfl (Nat.le_of_ble_eq_true rfl) ?_
  intro pQ eQ s mQ args below meth cQ A X hw ls hl
  obtain ⟨⟨hx, hb, hml, hown, hts⟩, hr, hlk, hK, hN, hA⟩ := id X
  have hl : lv_has ls 3 [(0, .ref mx), (1, .int (nI q))] := hl
  have n6 : ∀ w ∈ wsX60, w ∈ wsX6_stopOf := by decide +kernel
  have f45 : FF args s RX6 wsX6_stopOf 45 6 0 := ⟨_, rfl, by decide, n6, hts (.fieldLink RX6 45 "AirStepsModel" "n" "I") (by decide +kernel)⟩
  refine lv_iconst (v := nI 0) hx hb dX6_stopOf_0 (by decide) ?_
  refine lv_istore_n (lv' := [(2, .int (nI 0)), (0, .ref mx), (1, .int (nI q))]) hx hb dX6_stopOf_1 rfl hl (by decide) rfl (fun ls hl => ?_)
  refine wl (α := Nat) (nL := 3) (fun aQ => n - aQ) (fun aQ => (aQ ≤ n) ∧ (∀ j, j < aQ → hsR oo ii n j q = false)) (fun aQ => [(mx, .inr (6, [.int (nI n), .ref m1, .ref m2, .ref m3, .ref m4, .int (nI nl), .ref m5, .ref m6, .ref m7, .ref m8, .ref m9, .int (nI ct), .ref m10])), (m1, .inl (cI, 16, .inl (iA oo))), (m2, .inl (cI, 16, .inl (iA ii)))]) (fun aQ => [(2, .int (nI aQ)), (0, .ref mx), (1, .int (nI q))]) ?_ 0 ⟨(show 0 ≤ n from by omega), (show ∀ j, j < 0 → hsR oo ii n j q = false from fun j hj => absurd hj (Nat.not_lt_zero j))⟩ _ _ _ hw (lv_sub hl [0, 1, 2] rfl)
  rintro i ⟨hi, hqq⟩ H locs ls hw hl ih_2
  have hi : i ≤ n := hi
  have hqq : ∀ j, j < i → hsR oo ii n j q = false := hqq
  have hw : WD D A s.heap [(mx, .inr (6, [.int (nI n), .ref m1, .ref m2, .ref m3, .ref m4, .int (nI nl), .ref m5, .ref m6, .ref m7, .ref m8, .ref m9, .int (nI ct), .ref m10])), (m1, .inl (cI, 16, .inl (iA oo))), (m2, .inl (cI, 16, .inl (iA ii)))] H locs := hw
  have hl : lv_has ls 3 [(2, .int (nI i)), (0, .ref mx), (1, .int (nI q))] := hl
  refine lv_iload_n hx hb dX6_stopOf_2 rfl (lv_at hl 0 rfl) ?_
  refine lv_aload_n hx hb dX6_stopOf_3 rfl (lv_at hl 1 rfl) ?_
  refine x_get X hw f45 0 rfl rfl dX6_stopOf_4 ?_
  refine lv_icmp_ge (tgt := 27) hx hb dX6_stopOf_7 (by decide) (fun c_7 => ?_) (fun c_7 => ?_)
  · skip
    rw [nI_leI (by omega) (by omega)] at c_7
    refine lv_iconst (v := (-1)) hx hb dX6_stopOf_27 (by decide) ?_
    exact x_iret X hw (⟨((fsI_no (P := fun k => hsR oo ii n k q) (fun j hj => hqq j (by omega))).symm), rfl⟩) dX6_stopOf_28
  · skip
    rw [nI_leI (by omega) (by omega)] at c_7
    refine lv_aload_n hx hb dX6_stopOf_10 rfl (lv_at hl 1 rfl) ?_
    refine lv_iload_n hx hb dX6_stopOf_11 rfl (lv_at hl 0 rfl) ?_
    refine lv_iload_n hx hb dX6_stopOf_12 rfl (lv_at hl 2 rfl) ?_
    refine x_callV (As := [.int (nI i), .int (nI q)]) (rest := []) X hw hl.1 (c_X6_has l D cI cZ mx m1 m2 m3 m4 m5 m6 m7 m8 m9 m10 n nl ct oo ii i q (by first | assumption | omega) (by first | assumption | omega) (by first | assumption | omega) (by first | assumption | omega) (by first | assumption | omega)) (cwV 2 hts gX6_stopOf_X6_has rfl rfl rfl (by decide +kernel) ⟨Nat.le_of_ble_eq_true rfl, Nat.le_of_ble_eq_true rfl⟩) [0, 1, 2] rfl rfl 0 rfl rfl rfl rfl (Nat.le_of_ble_eq_true rfl) dX6_stopOf_13 (by decide) (fun r w1 H locs hp hw1 => ?_)
    obtain ⟨rfl, rfl⟩ := hp
    have hw : WD D A s.heap [(mx, .inr (6, [.int (nI n), .ref m1, .ref m2, .ref m3, .ref m4, .int (nI nl), .ref m5, .ref m6, .ref m7, .ref m8, .ref m9, .int (nI ct), .ref m10])), (m1, .inl (cI, 16, .inl (iA oo))), (m2, .inl (cI, 16, .inl (iA ii)))] H locs := hw1 rfl
    refine lv_if_eq (tgt := 21) hx hb dX6_stopOf_16 (by decide) (fun c_16 => ?_) (fun c_16 => ?_)
    · skip
      rw [q_b0] at c_16; try simp only [Bool.not_eq_false, Bool.not_eq_true] at c_16
      refine lv_iinc (v := nI (i + 1)) (lv' := [(2, .int (nI (i + 1))), (0, .ref mx), (1, .int (nI q))]) hx hb dX6_stopOf_21 hl (k := 0) rfl (nI_add i 1) (by decide) rfl (fun ls hl => ?_)
      refine lv_goto (tgt := 2) hx hb dX6_stopOf_24 (by decide) ?_
      exact ih_2 (i + 1) (by show n - (i + 1) < n - i; omega) ⟨(show (i + 1) ≤ n from by omega), (show ∀ j, j < (i + 1) → hsR oo ii n j q = false from lt_snoc (P := fun k => hsR oo ii n k q) hqq c_16)⟩ _ _ _ hw (lv_sub hl [0, 1, 2] rfl)
    · skip
      rw [q_b0] at c_16; try simp only [Bool.not_eq_false, Bool.not_eq_true] at c_16
      refine lv_iload_n hx hb dX6_stopOf_19 rfl (lv_at hl 0 rfl) ?_
      exact x_iret X hw (⟨((fsI_yes (P := fun k => hsR oo ii n k q) (by omega) hqq c_16).symm), rfl⟩) dX6_stopOf_20
set_option maxHeartbeats 4000000 in
set_option maxRecDepth 100000 in
theorem c_X6_stops (l : Launch) (D : va_G) (cI cZ : ClassId) (mx : Nat) (m1 : Nat) (m2 : Nat) (m3 : Nat) (m4 : Nat) (m5 : Nat) (m6 : Nat) (m7 : Nat) (m8 : Nat) (m9 : Nat) (m10 : Nat) (n : Nat) (nl : Nat) (ct : Nat) (oo : Nat → Nat) (ii : Nat → Nat) (ss : Nat → Nat) (x : Int32) (hn : n ≤ 16) (hoo : ∀ k, oo k < 64) (hii : ∀ k, ii k < 64) (hss : ∀ k, ss k < 64) : MI l D cI cZ yX6_stops wsX6_stops ({ frames := 3, cells := 0, slots := 0, locals := 66 }) [.ref mx, .int x] [(mx, .inr (6, [.int (nI n), .ref m1, .ref m2, .ref m3, .ref m4, .int (nI nl), .ref m5, .ref m6, .ref m7, .ref m8, .ref m9, .int (nI ct), .ref m10])), (m1, .inl (cI, 16, .inl (iA oo))), (m2, .inl (cI, 16, .inl (iA ii))), (m9, .inl (cI, 17, .inl (iA ss)))] (fun r w => ∃ s9 : Nat → Nat, (∀ k, s9 k < 64) ∧ r = (gd2 (bel x (nI 12)) (fwR oo ii n) (spR oo ii n x.toNatClampNeg)) ∧ w = [(mx, .inr (6, [.int (nI n), .ref m1, .ref m2, .ref m3, .ref m4, .int (nI nl), .ref m5, .ref m6, .ref m7, .ref m8, .ref m9, .int (nI ct), .ref m10])), (m1, .inl (cI, 16, .inl (iA oo))), (m2, .inl (cI, 16, .inl (iA ii))), (m9, .inl (cI, 17, .inl (iA s9)))]) := by
  refine MI.of (cc := cX6_stops) (maxL := 2) (ret := (some .int)) (own := RX6) (by decide) rfl rfl (Nat.le_of_ble_eq_true rfl) ?_
  intro pQ eQ s mQ args below meth cQ A X hw ls hl
  obtain ⟨⟨hx, hb, hml, hown, hts⟩, hr, hlk, hK, hN, hA⟩ := id X
  have hl : lv_has ls 2 [(0, .ref mx), (1, .int x)] := hl
  refine lv_iload_n hx hb dX6_stops_0 rfl (lv_at hl 1 rfl) ?_
  refine lv_iconst (v := nI 0) hx hb dX6_stops_1 (by decide) ?_
  refine lv_bipush (v := nI 11) hx hb dX6_stops_2 (by decide) ?_
  refine x_callS (As := [.int x, .int (nI 0), .int (nI 11)]) (rest := []) X hw hl.1 (c_X6_in l D cI cZ x (nI 0) (nI 11) ) (va_cwS 3 hts gX6_stops_X6_in rfl rfl rfl (by decide +kernel) ⟨Nat.le_of_ble_eq_true rfl, Nat.le_of_ble_eq_true rfl⟩) [] rfl rfl rfl (Nat.le_of_ble_eq_true rfl) dX6_stops_4 (by decide) (fun r w1 H locs hp hw1 => ?_)
  obtain ⟨rfl, rfl⟩ := hp
  have hw : WD D A s.heap [(mx, .inr (6, [.int (nI n), .ref m1, .ref m2, .ref m3, .ref m4, .int (nI nl), .ref m5, .ref m6, .ref m7, .ref m8, .ref m9, .int (nI ct), .ref m10])), (m1, .inl (cI, 16, .inl (iA oo))), (m2, .inl (cI, 16, .inl (iA ii))), (m9, .inl (cI, 17, .inl (iA ss)))] H locs := hw1 rfl
  refine cv_i (show bI (inn x (nI 0) (nI 11)) = bI (bel x (nI 12)) from congrArg bI (inn_bel x (by decide))) ?_
  refine lv_if_ne (tgt := 13) hx hb dX6_stops_7 (by decide) (fun c_7 => ?_) (fun c_7 => ?_)
  · skip
    rw [q_b0] at c_7; try simp only [Bool.not_eq_false, Bool.not_eq_true] at c_7
    obtain ⟨k9, hk9, rfl⟩ := bel_t (by decide) c_7
    refine lv_aload_n hx hb dX6_stops_13 rfl (lv_at hl 0 rfl) ?_
    refine x_callV (As := []) (rest := []) X hw hl.1 (c_X6_isSound l D cI cZ mx m1 m2 m3 m4 m5 m6 m7 m8 m9 m10 n nl ct oo ii ss (by first | assumption | omega) (by first | assumption | omega) (by first | assumption | omega) (by first | assumption | omega)) (cwV 0 hts gX6_stops_X6_isSound rfl rfl rfl (by decide +kernel) ⟨Nat.le_of_ble_eq_true rfl, Nat.le_of_ble_eq_true rfl⟩) [0, 1, 2, 3] rfl rfl 0 rfl rfl rfl rfl (Nat.le_of_ble_eq_true rfl) dX6_stops_14 (by decide) (fun r w1 H locs hp hw1 => ?_)
    obtain ⟨s2, hs2, hb2, rfl, rfl⟩ := hp
    have hw : WD D A s.heap [(mx, .inr (6, [.int (nI n), .ref m1, .ref m2, .ref m3, .ref m4, .int (nI nl), .ref m5, .ref m6, .ref m7, .ref m8, .ref m9, .int (nI ct), .ref m10])), (m1, .inl (cI, 16, .inl (iA oo))), (m2, .inl (cI, 16, .inl (iA ii))), (m9, .inl (cI, 17, .inl (iA s2)))] H locs := hw1 rfl
    refine lv_if_eq (tgt := 28) hx hb dX6_stops_17 (by decide) (fun c_17 => ?_) (fun c_17 => ?_)
    · skip
      rw [q_b0] at c_17; try simp only [Bool.not_eq_false, Bool.not_eq_true] at c_17
      have hs := of_decide_eq_false c_17
      refine lv_bipush (v := (-3)) hx hb dX6_stops_28 (by decide) ?_
      exact x_iret X hw (⟨s2, (hb2), (by first | (rw [gd2_t c_7, gd1_f hs]; done) | (rw [gd2_t c_7, gd1_t hs, nc k9 (by omega)]; done)), rfl⟩) dX6_stops_30
    · skip
      rw [q_b0] at c_17; try simp only [Bool.not_eq_false, Bool.not_eq_true] at c_17
      have hs := of_decide_eq_true c_17
      have hn0 := fwR_pos hs
      have hs3 := hs2 hs
      refine lv_aload_n hx hb dX6_stops_20 rfl (lv_at hl 0 rfl) ?_
      refine lv_iload_n hx hb dX6_stops_21 rfl (lv_at hl 1 rfl) ?_
      refine x_callV (As := [.int (nI k9)]) (rest := []) X hw hl.1 (c_X6_stopOf l D cI cZ mx m1 m2 m3 m4 m5 m6 m7 m8 m9 m10 n nl ct oo ii k9 (by first | assumption | omega) (by first | assumption | omega) (by first | assumption | omega) (by first | assumption | omega)) (cwV 1 hts gX6_stops_X6_stopOf rfl rfl rfl (by decide +kernel) ⟨Nat.le_of_ble_eq_true rfl, Nat.le_of_ble_eq_true rfl⟩) [0, 1, 2] rfl rfl 0 rfl rfl rfl rfl (Nat.le_of_ble_eq_true rfl) dX6_stops_22 (by decide) (fun r w1 H locs hp hw1 => ?_)
      obtain ⟨rfl, rfl⟩ := hp
      have hw : WD D A s.heap [(mx, .inr (6, [.int (nI n), .ref m1, .ref m2, .ref m3, .ref m4, .int (nI nl), .ref m5, .ref m6, .ref m7, .ref m8, .ref m9, .int (nI ct), .ref m10])), (m1, .inl (cI, 16, .inl (iA oo))), (m2, .inl (cI, 16, .inl (iA ii))), (m9, .inl (cI, 17, .inl (iA s2)))] H locs := hw1 rfl
      refine lv_goto (tgt := 30) hx hb dX6_stops_25 (by decide) ?_
      exact x_iret X hw (⟨s2, (hb2), (by first | (rw [gd2_t c_7, gd1_f hs]; done) | (rw [gd2_t c_7, gd1_t hs, nc k9 (by omega)]; done)), rfl⟩) dX6_stops_30
  · skip
    rw [q_b0] at c_7; try simp only [Bool.not_eq_false, Bool.not_eq_true] at c_7
    refine lv_bipush (v := (-2)) hx hb dX6_stops_10 (by decide) ?_
    exact x_iret X hw (⟨ss, (hss), ((gd2_f c_7).symm), rfl⟩) dX6_stops_12
set_option maxHeartbeats 4000000 in
set_option maxRecDepth 100000 in
theorem c_X6_explains (l : Launch) (D : va_G) (cI cZ : ClassId) (mx : Nat) (m1 : Nat) (m2 : Nat) (m3 : Nat) (m4 : Nat) (m5 : Nat) (m6 : Nat) (m7 : Nat) (m8 : Nat) (m9 : Nat) (m10 : Nat) (n : Nat) (nl : Nat) (ct : Nat) (oo : Nat → Nat) (ii : Nat → Nat) (ss : Nat → Nat) (x : Int32) (hn : n ≤ 16) (hoo : ∀ k, oo k < 64) (hii : ∀ k, ii k < 64) (hss : ∀ k, ss k < 64) : MI l D cI cZ yX6_explains wsX6_explains ({ frames := 3, cells := 0, slots := 0, locals := 66 }) [.ref mx, .int x] [(mx, .inr (6, [.int (nI n), .ref m1, .ref m2, .ref m3, .ref m4, .int (nI nl), .ref m5, .ref m6, .ref m7, .ref m8, .ref m9, .int (nI ct), .ref m10])), (m1, .inl (cI, 16, .inl (iA oo))), (m2, .inl (cI, 16, .inl (iA ii))), (m9, .inl (cI, 17, .inl (iA ss)))] (fun r w => ∃ s9 : Nat → Nat, (∀ k, s9 k < 64) ∧ r = (gd2 (bel x (nI n)) (fwR oo ii n) (nI (exR oo ii n x.toNatClampNeg 12))) ∧ w = [(mx, .inr (6, [.int (nI n), .ref m1, .ref m2, .ref m3, .ref m4, .int (nI nl), .ref m5, .ref m6, .ref m7, .ref m8, .ref m9, .int (nI ct), .ref m10])), (m1, .inl (cI, 16, .inl (iA oo))), (m2, .inl (cI, 16, .inl (iA ii))), (m9, .inl (cI, 17, .inl (iA s9)))]) := by
  refine MI.of (cc := cX6_explains) (maxL := 4) (ret := (some .int)) (own := RX6) (by decide) rfl rfl (Nat.le_of_ble_eq_true rfl) ?_
  intro pQ eQ s mQ args below meth cQ A X hw ls hl
  obtain ⟨⟨hx, hb, hml, hown, hts⟩, hr, hlk, hK, hN, hA⟩ := id X
  have hl : lv_has ls 4 [(0, .ref mx), (1, .int x)] := hl
  refine lv_aload_n hx hb dX6_explains_0 rfl (lv_at hl 0 rfl) ?_
  refine lv_iload_n hx hb dX6_explains_1 rfl (lv_at hl 1 rfl) ?_
  refine x_callV (As := [.int x]) (rest := []) X hw hl.1 (c_X6_isStep l D cI cZ mx m1 m2 m3 m4 m5 m6 m7 m8 m9 m10 n nl ct x (by first | assumption | omega)) (cwV 1 hts gX6_explains_X6_isStep rfl rfl rfl (by decide +kernel) ⟨Nat.le_of_ble_eq_true rfl, Nat.le_of_ble_eq_true rfl⟩) [0] rfl rfl 0 rfl rfl rfl rfl (Nat.le_of_ble_eq_true rfl) dX6_explains_2 (by decide) (fun r w1 H locs hp hw1 => ?_)
  obtain ⟨rfl, rfl⟩ := hp
  have hw : WD D A s.heap [(mx, .inr (6, [.int (nI n), .ref m1, .ref m2, .ref m3, .ref m4, .int (nI nl), .ref m5, .ref m6, .ref m7, .ref m8, .ref m9, .int (nI ct), .ref m10])), (m1, .inl (cI, 16, .inl (iA oo))), (m2, .inl (cI, 16, .inl (iA ii))), (m9, .inl (cI, 17, .inl (iA ss)))] H locs := hw1 rfl
  refine lv_if_ne (tgt := 11) hx hb dX6_explains_5 (by decide) (fun c_5 => ?_) (fun c_5 => ?_)
  · skip
    rw [q_b0] at c_5; try simp only [Bool.not_eq_false, Bool.not_eq_true] at c_5
    obtain ⟨k9, hk9, rfl⟩ := bel_t (by omega) c_5
    refine lv_aload_n hx hb dX6_explains_11 rfl (lv_at hl 0 rfl) ?_
    refine x_callV (As := []) (rest := []) X hw hl.1 (c_X6_isSound l D cI cZ mx m1 m2 m3 m4 m5 m6 m7 m8 m9 m10 n nl ct oo ii ss (by first | assumption | omega) (by first | assumption | omega) (by first | assumption | omega) (by first | assumption | omega)) (cwV 0 hts gX6_explains_X6_isSound rfl rfl rfl (by decide +kernel) ⟨Nat.le_of_ble_eq_true rfl, Nat.le_of_ble_eq_true rfl⟩) [0, 1, 2, 3] rfl rfl 0 rfl rfl rfl rfl (Nat.le_of_ble_eq_true rfl) dX6_explains_12 (by decide) (fun r w1 H locs hp hw1 => ?_)
    obtain ⟨s2, hs2, hb2, rfl, rfl⟩ := hp
    have hw : WD D A s.heap [(mx, .inr (6, [.int (nI n), .ref m1, .ref m2, .ref m3, .ref m4, .int (nI nl), .ref m5, .ref m6, .ref m7, .ref m8, .ref m9, .int (nI ct), .ref m10])), (m1, .inl (cI, 16, .inl (iA oo))), (m2, .inl (cI, 16, .inl (iA ii))), (m9, .inl (cI, 17, .inl (iA s2)))] H locs := hw1 rfl
    refine lv_if_ne (tgt := 21) hx hb dX6_explains_15 (by decide) (fun c_15 => ?_) (fun c_15 => ?_)
    · skip
      rw [q_b0] at c_15; try simp only [Bool.not_eq_false, Bool.not_eq_true] at c_15
      have hs := of_decide_eq_true c_15
      have hn0 := fwR_pos hs
      have hs3 := hs2 hs
      refine lv_iconst (v := nI 0) hx hb dX6_explains_21 (by decide) ?_
      refine lv_istore_n (lv' := [(2, .int (nI 0)), (0, .ref mx), (1, .int (nI k9))]) hx hb dX6_explains_22 rfl hl (by decide) rfl (fun ls hl => ?_)
      refine lv_iconst (v := nI 0) hx hb dX6_explains_23 (by decide) ?_
      refine lv_istore_n (lv' := [(3, .int (nI 0)), (2, .int (nI 0)), (0, .ref mx), (1, .int (nI k9))]) hx hb dX6_explains_24 rfl hl (by decide) rfl (fun ls hl => ?_)
      refine wl (α := Nat × Nat) (nL := 4) (fun aQ => 12 - aQ.2) (fun aQ => (aQ.2 ≤ 12) ∧ (aQ.1 = exR oo ii n k9 aQ.2)) (fun aQ => [(mx, .inr (6, [.int (nI n), .ref m1, .ref m2, .ref m3, .ref m4, .int (nI nl), .ref m5, .ref m6, .ref m7, .ref m8, .ref m9, .int (nI ct), .ref m10])), (m1, .inl (cI, 16, .inl (iA oo))), (m2, .inl (cI, 16, .inl (iA ii))), (m9, .inl (cI, 17, .inl (iA s2)))]) (fun aQ => [(3, .int (nI aQ.2)), (2, .int (nI aQ.1)), (0, .ref mx), (1, .int (nI k9))]) ?_ (0, 0) ⟨(show 0 ≤ 12 from by omega), (show 0 = exR oo ii n k9 0 from rfl)⟩ _ _ _ hw (lv_sub hl [0, 1, 2, 3] rfl)
      rintro ⟨a, i⟩ ⟨hi, ha⟩ H locs ls hw hl ih_25
      have hi : i ≤ 12 := hi
      have ha : a = exR oo ii n k9 i := ha
      have hw : WD D A s.heap [(mx, .inr (6, [.int (nI n), .ref m1, .ref m2, .ref m3, .ref m4, .int (nI nl), .ref m5, .ref m6, .ref m7, .ref m8, .ref m9, .int (nI ct), .ref m10])), (m1, .inl (cI, 16, .inl (iA oo))), (m2, .inl (cI, 16, .inl (iA ii))), (m9, .inl (cI, 17, .inl (iA s2)))] H locs := hw
      have hl : lv_has ls 4 [(3, .int (nI i)), (2, .int (nI a)), (0, .ref mx), (1, .int (nI k9))] := hl
      refine lv_iload_n hx hb dX6_explains_25 rfl (lv_at hl 0 rfl) ?_
      refine lv_bipush (v := nI 12) hx hb dX6_explains_26 (by decide) ?_
      refine lv_icmp_ge (tgt := 56) hx hb dX6_explains_28 (by decide) (fun c_28 => ?_) (fun c_28 => ?_)
      · skip
        rw [nI_leI (by omega) (by omega)] at c_28
        refine lv_iload_n hx hb dX6_explains_56 rfl (lv_at hl 1 rfl) ?_
        exact x_iret X hw (⟨s2, (hb2), (by rw [gd2_t c_5, gd1_t hs, nc k9 (by omega), ha, show i = 12 by omega]), rfl⟩) dX6_explains_57
      · skip
        rw [nI_leI (by omega) (by omega)] at c_28
        refine lv_iload_n hx hb dX6_explains_31 rfl (lv_at hl 1 rfl) ?_
        refine lv_aload_n hx hb dX6_explains_32 rfl (lv_at hl 2 rfl) ?_
        refine lv_iload_n hx hb dX6_explains_33 rfl (lv_at hl 0 rfl) ?_
        refine x_callV (As := [.int (nI i)]) (rest := [.int (nI a)]) X hw hl.1 (c_X6_stopOf l D cI cZ mx m1 m2 m3 m4 m5 m6 m7 m8 m9 m10 n nl ct oo ii i (by first | assumption | omega) (by first | assumption | omega) (by first | assumption | omega) (by first | assumption | omega)) (cwV 1 hts gX6_explains_X6_stopOf rfl rfl rfl (by decide +kernel) ⟨Nat.le_of_ble_eq_true rfl, Nat.le_of_ble_eq_true rfl⟩) [0, 1, 2] rfl rfl 0 rfl rfl rfl rfl (Nat.le_of_ble_eq_true rfl) dX6_explains_34 (by decide) (fun r w1 H locs hp hw1 => ?_)
        obtain ⟨rfl, rfl⟩ := hp
        have hw : WD D A s.heap [(mx, .inr (6, [.int (nI n), .ref m1, .ref m2, .ref m3, .ref m4, .int (nI nl), .ref m5, .ref m6, .ref m7, .ref m8, .ref m9, .int (nI ct), .ref m10])), (m1, .inl (cI, 16, .inl (iA oo))), (m2, .inl (cI, 16, .inl (iA ii))), (m9, .inl (cI, 17, .inl (iA s2)))] H locs := hw1 rfl
        refine lv_iload_n hx hb dX6_explains_37 rfl (lv_at hl 3 rfl) ?_
        refine lv_icmp_ne (tgt := 47) hx hb dX6_explains_38 (by decide) (fun c_38 => ?_) (fun c_38 => ?_)
        · skip
          refine lv_iconst (v := nI 0) hx hb dX6_explains_47 (by decide) ?_
          refine lv_ior hx hb dX6_explains_48 ?_
          refine cv_i (show nI a ||| nI 0 = nI (a ||| 0) from q_or a 0) ?_
          refine lv_istore_n (lv' := [(2, .int (nI (a ||| 0))), (3, .int (nI i)), (0, .ref mx), (1, .int (nI k9))]) hx hb dX6_explains_49 rfl hl (by decide) rfl (fun ls hl => ?_)
          refine lv_iinc (v := nI (i + 1)) (lv' := [(3, .int (nI (i + 1))), (2, .int (nI (a ||| 0))), (0, .ref mx), (1, .int (nI k9))]) hx hb dX6_explains_50 hl (k := 1) rfl (nI_add i 1) (by decide) rfl (fun ls hl => ?_)
          refine lv_goto (tgt := 25) hx hb dX6_explains_53 (by decide) ?_
          exact ih_25 (a ||| 0, i + 1) (by show 12 - (i + 1) < 12 - i; omega) ⟨(show (i + 1) ≤ 12 from by omega), (show (a ||| 0) = exR oo ii n k9 (i + 1) from by rw [ha]; show _ = exR oo ii n k9 i ||| (if spR oo ii n i = nI k9 then 1 <<< i else 0); simp [c_38])⟩ _ _ _ hw (lv_sub hl [0, 1, 2, 3] rfl)
        · skip
          refine lv_iconst (v := nI 1) hx hb dX6_explains_41 (by decide) ?_
          refine lv_iload_n hx hb dX6_explains_42 rfl (lv_at hl 0 rfl) ?_
          refine lv_ishl hx hb dX6_explains_43 ?_
          refine cv_i (show (nI 1) <<< (nI i &&& 31) = nI (1 <<< i) from q_shl 1 i (by first | omega | assumption)) ?_
          refine lv_goto (tgt := 48) hx hb dX6_explains_44 (by decide) ?_
          refine lv_ior hx hb dX6_explains_48 ?_
          refine cv_i (show nI a ||| nI (1 <<< i) = nI (a ||| (1 <<< i)) from q_or a (1 <<< i)) ?_
          refine lv_istore_n (lv' := [(2, .int (nI (a ||| (1 <<< i)))), (3, .int (nI i)), (0, .ref mx), (1, .int (nI k9))]) hx hb dX6_explains_49 rfl hl (by decide) rfl (fun ls hl => ?_)
          refine lv_iinc (v := nI (i + 1)) (lv' := [(3, .int (nI (i + 1))), (2, .int (nI (a ||| (1 <<< i)))), (0, .ref mx), (1, .int (nI k9))]) hx hb dX6_explains_50 hl (k := 1) rfl (nI_add i 1) (by decide) rfl (fun ls hl => ?_)
          refine lv_goto (tgt := 25) hx hb dX6_explains_53 (by decide) ?_
          exact ih_25 (a ||| (1 <<< i), i + 1) (by show 12 - (i + 1) < 12 - i; omega) ⟨(show (i + 1) ≤ 12 from by omega), (show (a ||| (1 <<< i)) = exR oo ii n k9 (i + 1) from by rw [ha]; show _ = exR oo ii n k9 i ||| (if spR oo ii n i = nI k9 then 1 <<< i else 0); simp [c_38])⟩ _ _ _ hw (lv_sub hl [0, 1, 2, 3] rfl)
    · skip
      rw [q_b0] at c_15; try simp only [Bool.not_eq_false, Bool.not_eq_true] at c_15
      have hs := of_decide_eq_false c_15
      refine lv_bipush (v := (-3)) hx hb dX6_explains_18 (by decide) ?_
      exact x_iret X hw (⟨s2, (hb2), (by rw [gd2_t c_5, gd1_f hs]), rfl⟩) dX6_explains_20
  · skip
    rw [q_b0] at c_5; try simp only [Bool.not_eq_false, Bool.not_eq_true] at c_5
    refine lv_bipush (v := (-2)) hx hb dX6_explains_8 (by decide) ?_
    exact x_iret X hw (⟨ss, (hss), ((gd2_f c_5).symm), rfl⟩) dX6_explains_10
set_option maxHeartbeats 4000000 in
set_option maxRecDepth 100000 in
theorem c_X6_count (l : Launch) (D : va_G) (cI cZ : ClassId) (mx : Nat) (m1 : Nat) (m2 : Nat) (m3 : Nat) (m4 : Nat) (m5 : Nat) (m6 : Nat) (m7 : Nat) (m8 : Nat) (m9 : Nat) (m10 : Nat) (n : Nat) (nl : Nat) (ct : Nat) (oo : Nat → Nat) (ii : Nat → Nat) (x : Int32) (hn : n ≤ 16) (hoo : ∀ k, oo k < 64) (hii : ∀ k, ii k < 64) : MI l D cI cZ yX6_count wsX6_count ({ frames := 1, cells := 0, slots := 0, locals := 22 }) [.ref mx, .int x] [(mx, .inr (6, [.int (nI n), .ref m1, .ref m2, .ref m3, .ref m4, .int (nI nl), .ref m5, .ref m6, .ref m7, .ref m8, .ref m9, .int (nI ct), .ref m10])), (m1, .inl (cI, 16, .inl (iA oo))), (m2, .inl (cI, 16, .inl (iA ii)))] (fun r w => r = (if x = 0 then nI n else if x = nI 1 then nI nl else if x = nI 2 then nI (mvsR oo ii n) else -2) ∧ w = [(mx, .inr (6, [.int (nI n), .ref m1, .ref m2, .ref m3, .ref m4, .int (nI nl), .ref m5, .ref m6, .ref m7, .ref m8, .ref m9, .int (nI ct), .ref m10])), (m1, .inl (cI, 16, .inl (iA oo))), (m2, .inl (cI, 16, .inl (iA ii)))]) := by
  refine MI.of (cc := cX6_count) (maxL := 4) (ret := (some .int)) (own := RX6) (by decide) rfl rfl (Nat.le_of_ble_eq_true rfl) ?_
  intro pQ eQ s mQ args below meth cQ A X hw ls hl
  obtain ⟨⟨hx, hb, hml, hown, hts⟩, hr, hlk, hK, hN, hA⟩ := id X
  have hl : lv_has ls 4 [(0, .ref mx), (1, .int x)] := hl
  have n6 : ∀ w ∈ wsX60, w ∈ wsX6_count := by decide +kernel
  have f7 : FF args s RX6 wsX6_count 7 6 1 := ⟨_, rfl, by decide, n6, hts (.fieldLink RX6 7 "AirStepsModel" "outs" "[I") (by decide +kernel)⟩
  have f13 : FF args s RX6 wsX6_count 13 6 2 := ⟨_, rfl, by decide, n6, hts (.fieldLink RX6 13 "AirStepsModel" "ins" "[I") (by decide +kernel)⟩
  have f45 : FF args s RX6 wsX6_count 45 6 0 := ⟨_, rfl, by decide, n6, hts (.fieldLink RX6 45 "AirStepsModel" "n" "I") (by decide +kernel)⟩
  have f104 : FF args s RX6 wsX6_count 104 6 5 := ⟨_, rfl, by decide, n6, hts (.fieldLink RX6 104 "AirStepsModel" "laws" "I") (by decide +kernel)⟩
  refine lv_iconst (v := nI 0) hx hb dX6_count_0 (by decide) ?_
  refine lv_istore_n (lv' := [(2, .int (nI 0)), (0, .ref mx), (1, .int x)]) hx hb dX6_count_1 rfl hl (by decide) rfl (fun ls hl => ?_)
  refine lv_iload_n hx hb dX6_count_2 rfl (lv_at hl 2 rfl) ?_
  rcases tsw (x := x) with (c_3 | c_3 | c_3) | ⟨c_3, ho_3⟩
  · have ht : (x).toInt = 0 := by rw [c_3]; decide
    refine lv_tableIn (off := 25) (tgt := 28) hx hb dX6_count_3 (by rw [ht]; decide) (by rw [ht]; decide) (by rw [ht]; rfl) (by decide) ?_
    refine lv_aload_n hx hb dX6_count_28 rfl (lv_at hl 1 rfl) ?_
    refine x_get X hw f45 0 rfl rfl dX6_count_29 ?_
    exact x_iret X hw (⟨(by rw [c_3]; rfl), rfl⟩) dX6_count_32
  · have ht : (x).toInt = 1 := by rw [c_3]; decide
    refine lv_tableIn (off := 30) (tgt := 33) hx hb dX6_count_3 (by rw [ht]; decide) (by rw [ht]; decide) (by rw [ht]; rfl) (by decide) ?_
    refine lv_aload_n hx hb dX6_count_33 rfl (lv_at hl 1 rfl) ?_
    refine x_get X hw f104 0 rfl rfl dX6_count_34 ?_
    exact x_iret X hw (⟨(by rw [c_3]; rfl), rfl⟩) dX6_count_37
  · have ht : (x).toInt = 2 := by rw [c_3]; decide
    refine lv_tableIn (off := 35) (tgt := 38) hx hb dX6_count_3 (by rw [ht]; decide) (by rw [ht]; decide) (by rw [ht]; rfl) (by decide) ?_
    refine lv_iconst (v := nI 0) hx hb dX6_count_38 (by decide) ?_
    refine lv_istore_n (lv' := [(3, .int (nI 0)), (2, .int (nI 0)), (0, .ref mx), (1, .int x)]) hx hb dX6_count_39 rfl hl (by decide) rfl (fun ls hl => ?_)
    refine wl (α := Nat × Nat) (nL := 4) (fun aQ => n - aQ.2) (fun aQ => (aQ.2 ≤ n) ∧ (aQ.1 = mvsR oo ii aQ.2)) (fun aQ => [(mx, .inr (6, [.int (nI n), .ref m1, .ref m2, .ref m3, .ref m4, .int (nI nl), .ref m5, .ref m6, .ref m7, .ref m8, .ref m9, .int (nI ct), .ref m10])), (m1, .inl (cI, 16, .inl (iA oo))), (m2, .inl (cI, 16, .inl (iA ii)))]) (fun aQ => [(3, .int (nI aQ.2)), (2, .int (nI aQ.1)), (0, .ref mx), (1, .int x)]) ?_ (0, 0) ⟨(show 0 ≤ n from by omega), (show 0 = mvsR oo ii 0 from rfl)⟩ _ _ _ hw (lv_sub hl [0, 1, 2, 3] rfl)
    rintro ⟨a, i⟩ ⟨hi, ha⟩ H locs ls hw hl ih_40
    have hi : i ≤ n := hi
    have ha : a = mvsR oo ii i := ha
    have hw : WD D A s.heap [(mx, .inr (6, [.int (nI n), .ref m1, .ref m2, .ref m3, .ref m4, .int (nI nl), .ref m5, .ref m6, .ref m7, .ref m8, .ref m9, .int (nI ct), .ref m10])), (m1, .inl (cI, 16, .inl (iA oo))), (m2, .inl (cI, 16, .inl (iA ii)))] H locs := hw
    have hl : lv_has ls 4 [(3, .int (nI i)), (2, .int (nI a)), (0, .ref mx), (1, .int x)] := hl
    refine lv_iload_n hx hb dX6_count_40 rfl (lv_at hl 0 rfl) ?_
    refine lv_aload_n hx hb dX6_count_41 rfl (lv_at hl 2 rfl) ?_
    refine x_get X hw f45 0 rfl rfl dX6_count_42 ?_
    refine lv_icmp_ge (tgt := 73) hx hb dX6_count_45 (by decide) (fun c_45 => ?_) (fun c_45 => ?_)
    · skip
      rw [nI_leI (by omega) (by omega)] at c_45
      refine lv_iload_n hx hb dX6_count_73 rfl (lv_at hl 1 rfl) ?_
      exact x_iret X hw (⟨(by rw [c_3, ha, show i = n by omega]; rfl), rfl⟩) dX6_count_74
    · skip
      rw [nI_leI (by omega) (by omega)] at c_45
      refine lv_iload_n hx hb dX6_count_48 rfl (lv_at hl 1 rfl) ?_
      refine lv_aload_n hx hb dX6_count_49 rfl (lv_at hl 2 rfl) ?_
      refine x_get X hw f7 0 rfl rfl dX6_count_50 ?_
      refine lv_iload_n hx hb dX6_count_53 rfl (lv_at hl 0 rfl) ?_
      refine x_aldN X hw 1 rfl (by omega) (by omega) dX6_count_54 ?_
      have hb_54 := hoo i
      refine lv_aload_n hx hb dX6_count_55 rfl (lv_at hl 2 rfl) ?_
      refine x_get X hw f13 0 rfl rfl dX6_count_56 ?_
      refine lv_iload_n hx hb dX6_count_59 rfl (lv_at hl 0 rfl) ?_
      refine x_aldN X hw 2 rfl (by omega) (by omega) dX6_count_60 ?_
      have hb_60 := hii i
      refine lv_ior hx hb dX6_count_61 ?_
      refine cv_i (show nI (oo i) ||| nI (ii i) = nI ((oo i) ||| (ii i)) from q_or (oo i) (ii i)) ?_
      refine x_callS (As := [.int (nI ((oo i) ||| (ii i)))]) (rest := [.int (nI a)]) X hw hl.1 (c_X6_ones l D cI cZ ((oo i) ||| (ii i)) (Nat.lt_trans (Nat.or_lt_two_pow (n := 6) (hoo i) (hii i)) (by decide))) (va_cwS 1 hts gX6_count_X6_ones rfl rfl rfl (by decide +kernel) ⟨Nat.le_of_ble_eq_true rfl, Nat.le_of_ble_eq_true rfl⟩) [] rfl rfl rfl (Nat.le_of_ble_eq_true rfl) dX6_count_62 (by decide) (fun r w1 H locs hp hw1 => ?_)
      obtain ⟨rfl, rfl⟩ := hp
      have hw : WD D A s.heap [(mx, .inr (6, [.int (nI n), .ref m1, .ref m2, .ref m3, .ref m4, .int (nI nl), .ref m5, .ref m6, .ref m7, .ref m8, .ref m9, .int (nI ct), .ref m10])), (m1, .inl (cI, 16, .inl (iA oo))), (m2, .inl (cI, 16, .inl (iA ii)))] H locs := hw1 rfl
      refine lv_iadd hx hb dX6_count_65 ?_
      refine cv_i (show nI a + nI (popc ((oo i) ||| (ii i))) = nI (a + (popc ((oo i) ||| (ii i)))) from nI_add a (popc ((oo i) ||| (ii i)))) ?_
      refine lv_istore_n (lv' := [(2, .int (nI (a + (popc ((oo i) ||| (ii i)))))), (3, .int (nI i)), (0, .ref mx), (1, .int x)]) hx hb dX6_count_66 rfl hl (by decide) rfl (fun ls hl => ?_)
      refine lv_iinc (v := nI (i + 1)) (lv' := [(3, .int (nI (i + 1))), (2, .int (nI (a + (popc ((oo i) ||| (ii i)))))), (0, .ref mx), (1, .int x)]) hx hb dX6_count_67 hl (k := 1) rfl (nI_add i 1) (by decide) rfl (fun ls hl => ?_)
      refine lv_goto (tgt := 40) hx hb dX6_count_70 (by decide) ?_
      exact ih_40 (a + (popc ((oo i) ||| (ii i))), i + 1) (by show n - (i + 1) < n - i; omega) ⟨(show (i + 1) ≤ n from by omega), (show (a + (popc ((oo i) ||| (ii i)))) = mvsR oo ii (i + 1) from by rw [ha]; rfl)⟩ _ _ _ hw (lv_sub hl [0, 1, 2, 3] rfl)
  · skip
    refine lv_tableOut (tgt := 75) hx hb dX6_count_3 ho_3 (by decide) ?_
    refine lv_bipush (v := (-2)) hx hb dX6_count_75 (by decide) ?_
    exact x_iret X hw (⟨(by rw [if_neg c_3.1, if_neg c_3.2.1, if_neg c_3.2.2]), rfl⟩) dX6_count_77
set_option maxHeartbeats 4000000 in
set_option maxRecDepth 100000 in
theorem c_X6_init (l : Launch) (D : va_G) (cI cZ : ClassId) (mx : Nat)  : MV l D cI cZ yX6_init wsX6_init ({ frames := 1, cells := 10, slots := 185, locals := 12 }) [.ref mx] [(mx, .inr (6, [.int (nI 0), .null, .null, .null, .null, .int (nI 0), .null, .null, .null, .null, .null, .int (nI 0), .null]))] 10 185 (fun w => ∃ m1 : Nat, ∃ m2 : Nat, ∃ m3 : Nat, ∃ m4 : Nat, ∃ m5 : Nat, ∃ m6 : Nat, ∃ m7 : Nat, ∃ m8 : Nat, ∃ m9 : Nat, ∃ m10 : Nat, w = [(mx, .inr (6, [.int (nI 0), .ref m1, .ref m2, .ref m3, .ref m4, .int (nI 0), .ref m5, .ref m6, .ref m7, .ref m8, .ref m9, .int (nI 0), .ref m10])), (m1, .inl (cI, 16, .inl (iA (fun _ => 0)))), (m2, .inl (cI, 16, .inl (iA (fun _ => 0)))), (m3, .inl (cI, 12, .inl (iA (fun _ => 1)))), (m4, .inl (cI, 12, .inl (iA (fun _ => 1)))), (m5, .inl (cI, 12, .inl (iA (fun _ => 0)))), (m6, .inl (cZ, 12, .inl (bA (fun _ => false)))), (m7, .inl (cI, 12, .inl (iA (fun _ => 0)))), (m8, .inl (cZ, 12, .inl (bA (fun _ => false)))), (m9, .inl (cI, 17, .inl (iA (fun _ => 0)))), (m10, .inl (cI, 64, .inl (iA (fun _ => 0))))]) := by
  refine MV.of (cc := cX6_init) (maxL := 2) (ret := none) (own := RX6) (by decide) rfl rfl (Nat.le_of_ble_eq_true rfl) ?_
  intro pQ eQ s mQ args below meth cQ A X hnm hw ls hl
  obtain ⟨⟨hx, hb, hml, hown, hts⟩, hr, hlk, hK, hN, hA⟩ := id X
  have hl : lv_has ls 2 [(0, .ref mx)] := hl
  have n6 : ∀ w ∈ wsX60, w ∈ wsX6_init := by decide +kernel
  have f16 : FF args s RX6 wsX6_init 16 6 3 := ⟨_, rfl, by decide, n6, hts (.fieldLink RX6 16 "AirStepsModel" "least" "[I") (by decide +kernel)⟩
  have f19 : FF args s RX6 wsX6_init 19 6 4 := ⟨_, rfl, by decide, n6, hts (.fieldLink RX6 19 "AirStepsModel" "most" "[I") (by decide +kernel)⟩
  refine lv_aload_n hx hb dX6_init_0 rfl (lv_at hl 0 rfl) ?_
  refine W.objInit hx hb hown (hts (.methodLink RX6 1 objectInit) (by decide +kernel)) (hts (.instanceMethod objectInit) (by decide +kernel)) (hts _ (List.mem_of_getElem? (i := 3) rfl)) rfl (by rw [hml]; exact hl.1) rfl dX6_init_1 (Nat.le_of_ble_eq_true rfl) (Nat.le_of_ble_eq_true rfl) ?_
  refine W.eq (g2 := F0 mQ 4 ls []) rfl ?_
  refine lv_aload_n hx hb dX6_init_4 rfl (lv_at hl 0 rfl) ?_
  refine lv_bipush (v := nI 16) hx hb dX6_init_5 (by decide) ?_
  refine x_newI X hw (by decide +kernel) (by omega) (Nat.le_of_ble_eq_true rfl) (Nat.le_of_ble_eq_true rfl) dX6_init_7 (fun q7 H hw => ?_)
  have hw : WD D A s.heap [(mx, .inr (6, [.int (nI 0), .null, .null, .null, .null, .int (nI 0), .null, .null, .null, .null, .null, .int (nI 0), .null])), (q7, .inl (cI, 16, .inl (iA (fun _ => 0))))] H _ := hw
  have fp9 : FPR args s RX6 wsX6_init 7 6 1 (.ref q7) := ⟨_, tyX6, (.array .int), rfl, by decide, n6, hts (.fieldLink RX6 7 "AirStepsModel" "outs" "[I") (by decide +kernel), tyX6_ok, nmX6, rfl, rfl, by decide +kernel, rfl, rfl⟩
  refine x_putF X hnm hw fp9 0 rfl (Nat.le_of_ble_eq_true rfl) dX6_init_9 (fun H locs hw => ?_)
  have hw : WD D A s.heap [(mx, .inr (6, [.int (nI 0), .ref q7, .null, .null, .null, .int (nI 0), .null, .null, .null, .null, .null, .int (nI 0), .null])), (q7, .inl (cI, 16, .inl (iA (fun _ => 0))))] H locs := hw
  refine lv_aload_n hx hb dX6_init_12 rfl (lv_at hl 0 rfl) ?_
  refine lv_bipush (v := nI 16) hx hb dX6_init_13 (by decide) ?_
  refine x_newI X hw (by decide +kernel) (by omega) (Nat.le_of_ble_eq_true rfl) (Nat.le_of_ble_eq_true rfl) dX6_init_15 (fun q15 H hw => ?_)
  have hw : WD D A s.heap [(mx, .inr (6, [.int (nI 0), .ref q7, .null, .null, .null, .int (nI 0), .null, .null, .null, .null, .null, .int (nI 0), .null])), (q7, .inl (cI, 16, .inl (iA (fun _ => 0)))), (q15, .inl (cI, 16, .inl (iA (fun _ => 0))))] H _ := hw
  have fp17 : FPR args s RX6 wsX6_init 13 6 2 (.ref q15) := ⟨_, tyX6, (.array .int), rfl, by decide, n6, hts (.fieldLink RX6 13 "AirStepsModel" "ins" "[I") (by decide +kernel), tyX6_ok, nmX6, rfl, rfl, by decide +kernel, rfl, rfl⟩
  refine x_putF X hnm hw fp17 0 rfl (Nat.le_of_ble_eq_true rfl) dX6_init_17 (fun H locs hw => ?_)
  have hw : WD D A s.heap [(mx, .inr (6, [.int (nI 0), .ref q7, .ref q15, .null, .null, .int (nI 0), .null, .null, .null, .null, .null, .int (nI 0), .null])), (q7, .inl (cI, 16, .inl (iA (fun _ => 0)))), (q15, .inl (cI, 16, .inl (iA (fun _ => 0))))] H locs := hw
  refine lv_aload_n hx hb dX6_init_20 rfl (lv_at hl 0 rfl) ?_
  refine lv_bipush (v := nI 12) hx hb dX6_init_21 (by decide) ?_
  refine x_newI X hw (by decide +kernel) (by omega) (Nat.le_of_ble_eq_true rfl) (Nat.le_of_ble_eq_true rfl) dX6_init_23 (fun q23 H hw => ?_)
  have hw : WD D A s.heap [(mx, .inr (6, [.int (nI 0), .ref q7, .ref q15, .null, .null, .int (nI 0), .null, .null, .null, .null, .null, .int (nI 0), .null])), (q7, .inl (cI, 16, .inl (iA (fun _ => 0)))), (q15, .inl (cI, 16, .inl (iA (fun _ => 0)))), (q23, .inl (cI, 12, .inl (iA (fun _ => 0))))] H _ := hw
  have fp25 : FPR args s RX6 wsX6_init 16 6 3 (.ref q23) := ⟨_, tyX6, (.array .int), rfl, by decide, n6, hts (.fieldLink RX6 16 "AirStepsModel" "least" "[I") (by decide +kernel), tyX6_ok, nmX6, rfl, rfl, by decide +kernel, rfl, rfl⟩
  refine x_putF X hnm hw fp25 0 rfl (Nat.le_of_ble_eq_true rfl) dX6_init_25 (fun H locs hw => ?_)
  have hw : WD D A s.heap [(mx, .inr (6, [.int (nI 0), .ref q7, .ref q15, .ref q23, .null, .int (nI 0), .null, .null, .null, .null, .null, .int (nI 0), .null])), (q7, .inl (cI, 16, .inl (iA (fun _ => 0)))), (q15, .inl (cI, 16, .inl (iA (fun _ => 0)))), (q23, .inl (cI, 12, .inl (iA (fun _ => 0))))] H locs := hw
  refine lv_aload_n hx hb dX6_init_28 rfl (lv_at hl 0 rfl) ?_
  refine lv_bipush (v := nI 12) hx hb dX6_init_29 (by decide) ?_
  refine x_newI X hw (by decide +kernel) (by omega) (Nat.le_of_ble_eq_true rfl) (Nat.le_of_ble_eq_true rfl) dX6_init_31 (fun q31 H hw => ?_)
  have hw : WD D A s.heap [(mx, .inr (6, [.int (nI 0), .ref q7, .ref q15, .ref q23, .null, .int (nI 0), .null, .null, .null, .null, .null, .int (nI 0), .null])), (q7, .inl (cI, 16, .inl (iA (fun _ => 0)))), (q15, .inl (cI, 16, .inl (iA (fun _ => 0)))), (q23, .inl (cI, 12, .inl (iA (fun _ => 0)))), (q31, .inl (cI, 12, .inl (iA (fun _ => 0))))] H _ := hw
  have fp33 : FPR args s RX6 wsX6_init 19 6 4 (.ref q31) := ⟨_, tyX6, (.array .int), rfl, by decide, n6, hts (.fieldLink RX6 19 "AirStepsModel" "most" "[I") (by decide +kernel), tyX6_ok, nmX6, rfl, rfl, by decide +kernel, rfl, rfl⟩
  refine x_putF X hnm hw fp33 0 rfl (Nat.le_of_ble_eq_true rfl) dX6_init_33 (fun H locs hw => ?_)
  have hw : WD D A s.heap [(mx, .inr (6, [.int (nI 0), .ref q7, .ref q15, .ref q23, .ref q31, .int (nI 0), .null, .null, .null, .null, .null, .int (nI 0), .null])), (q7, .inl (cI, 16, .inl (iA (fun _ => 0)))), (q15, .inl (cI, 16, .inl (iA (fun _ => 0)))), (q23, .inl (cI, 12, .inl (iA (fun _ => 0)))), (q31, .inl (cI, 12, .inl (iA (fun _ => 0))))] H locs := hw
  refine lv_aload_n hx hb dX6_init_36 rfl (lv_at hl 0 rfl) ?_
  refine lv_bipush (v := nI 12) hx hb dX6_init_37 (by decide) ?_
  refine x_newI X hw (by decide +kernel) (by omega) (Nat.le_of_ble_eq_true rfl) (Nat.le_of_ble_eq_true rfl) dX6_init_39 (fun q39 H hw => ?_)
  have hw : WD D A s.heap [(mx, .inr (6, [.int (nI 0), .ref q7, .ref q15, .ref q23, .ref q31, .int (nI 0), .null, .null, .null, .null, .null, .int (nI 0), .null])), (q7, .inl (cI, 16, .inl (iA (fun _ => 0)))), (q15, .inl (cI, 16, .inl (iA (fun _ => 0)))), (q23, .inl (cI, 12, .inl (iA (fun _ => 0)))), (q31, .inl (cI, 12, .inl (iA (fun _ => 0)))), (q39, .inl (cI, 12, .inl (iA (fun _ => 0))))] H _ := hw
  have fp41 : FPR args s RX6 wsX6_init 22 6 6 (.ref q39) := ⟨_, tyX6, (.array .int), rfl, by decide, n6, hts (.fieldLink RX6 22 "AirStepsModel" "lawA" "[I") (by decide +kernel), tyX6_ok, nmX6, rfl, rfl, by decide +kernel, rfl, rfl⟩
  refine x_putF X hnm hw fp41 0 rfl (Nat.le_of_ble_eq_true rfl) dX6_init_41 (fun H locs hw => ?_)
  have hw : WD D A s.heap [(mx, .inr (6, [.int (nI 0), .ref q7, .ref q15, .ref q23, .ref q31, .int (nI 0), .ref q39, .null, .null, .null, .null, .int (nI 0), .null])), (q7, .inl (cI, 16, .inl (iA (fun _ => 0)))), (q15, .inl (cI, 16, .inl (iA (fun _ => 0)))), (q23, .inl (cI, 12, .inl (iA (fun _ => 0)))), (q31, .inl (cI, 12, .inl (iA (fun _ => 0)))), (q39, .inl (cI, 12, .inl (iA (fun _ => 0))))] H locs := hw
  refine lv_aload_n hx hb dX6_init_44 rfl (lv_at hl 0 rfl) ?_
  refine lv_bipush (v := nI 12) hx hb dX6_init_45 (by decide) ?_
  refine x_newZ X hw (by decide +kernel) (by omega) (Nat.le_of_ble_eq_true rfl) (Nat.le_of_ble_eq_true rfl) dX6_init_47 (fun q47 H hw => ?_)
  have hw : WD D A s.heap [(mx, .inr (6, [.int (nI 0), .ref q7, .ref q15, .ref q23, .ref q31, .int (nI 0), .ref q39, .null, .null, .null, .null, .int (nI 0), .null])), (q7, .inl (cI, 16, .inl (iA (fun _ => 0)))), (q15, .inl (cI, 16, .inl (iA (fun _ => 0)))), (q23, .inl (cI, 12, .inl (iA (fun _ => 0)))), (q31, .inl (cI, 12, .inl (iA (fun _ => 0)))), (q39, .inl (cI, 12, .inl (iA (fun _ => 0)))), (q47, .inl (cZ, 12, .inl (bA (fun _ => false))))] H _ := hw
  have fp49 : FPR args s RX6 wsX6_init 25 6 7 (.ref q47) := ⟨_, tyX6, (.array .boolean), rfl, by decide, n6, hts (.fieldLink RX6 25 "AirStepsModel" "lawOut" "[Z") (by decide +kernel), tyX6_ok, nmX6, rfl, rfl, by decide +kernel, rfl, rfl⟩
  refine x_putF X hnm hw fp49 0 rfl (Nat.le_of_ble_eq_true rfl) dX6_init_49 (fun H locs hw => ?_)
  have hw : WD D A s.heap [(mx, .inr (6, [.int (nI 0), .ref q7, .ref q15, .ref q23, .ref q31, .int (nI 0), .ref q39, .ref q47, .null, .null, .null, .int (nI 0), .null])), (q7, .inl (cI, 16, .inl (iA (fun _ => 0)))), (q15, .inl (cI, 16, .inl (iA (fun _ => 0)))), (q23, .inl (cI, 12, .inl (iA (fun _ => 0)))), (q31, .inl (cI, 12, .inl (iA (fun _ => 0)))), (q39, .inl (cI, 12, .inl (iA (fun _ => 0)))), (q47, .inl (cZ, 12, .inl (bA (fun _ => false))))] H locs := hw
  refine lv_aload_n hx hb dX6_init_52 rfl (lv_at hl 0 rfl) ?_
  refine lv_bipush (v := nI 12) hx hb dX6_init_53 (by decide) ?_
  refine x_newI X hw (by decide +kernel) (by omega) (Nat.le_of_ble_eq_true rfl) (Nat.le_of_ble_eq_true rfl) dX6_init_55 (fun q55 H hw => ?_)
  have hw : WD D A s.heap [(mx, .inr (6, [.int (nI 0), .ref q7, .ref q15, .ref q23, .ref q31, .int (nI 0), .ref q39, .ref q47, .null, .null, .null, .int (nI 0), .null])), (q7, .inl (cI, 16, .inl (iA (fun _ => 0)))), (q15, .inl (cI, 16, .inl (iA (fun _ => 0)))), (q23, .inl (cI, 12, .inl (iA (fun _ => 0)))), (q31, .inl (cI, 12, .inl (iA (fun _ => 0)))), (q39, .inl (cI, 12, .inl (iA (fun _ => 0)))), (q47, .inl (cZ, 12, .inl (bA (fun _ => false)))), (q55, .inl (cI, 12, .inl (iA (fun _ => 0))))] H _ := hw
  have fp57 : FPR args s RX6 wsX6_init 29 6 8 (.ref q55) := ⟨_, tyX6, (.array .int), rfl, by decide, n6, hts (.fieldLink RX6 29 "AirStepsModel" "lawB" "[I") (by decide +kernel), tyX6_ok, nmX6, rfl, rfl, by decide +kernel, rfl, rfl⟩
  refine x_putF X hnm hw fp57 0 rfl (Nat.le_of_ble_eq_true rfl) dX6_init_57 (fun H locs hw => ?_)
  have hw : WD D A s.heap [(mx, .inr (6, [.int (nI 0), .ref q7, .ref q15, .ref q23, .ref q31, .int (nI 0), .ref q39, .ref q47, .ref q55, .null, .null, .int (nI 0), .null])), (q7, .inl (cI, 16, .inl (iA (fun _ => 0)))), (q15, .inl (cI, 16, .inl (iA (fun _ => 0)))), (q23, .inl (cI, 12, .inl (iA (fun _ => 0)))), (q31, .inl (cI, 12, .inl (iA (fun _ => 0)))), (q39, .inl (cI, 12, .inl (iA (fun _ => 0)))), (q47, .inl (cZ, 12, .inl (bA (fun _ => false)))), (q55, .inl (cI, 12, .inl (iA (fun _ => 0))))] H locs := hw
  refine lv_aload_n hx hb dX6_init_60 rfl (lv_at hl 0 rfl) ?_
  refine lv_bipush (v := nI 12) hx hb dX6_init_61 (by decide) ?_
  refine x_newZ X hw (by decide +kernel) (by omega) (Nat.le_of_ble_eq_true rfl) (Nat.le_of_ble_eq_true rfl) dX6_init_63 (fun q63 H hw => ?_)
  have hw : WD D A s.heap [(mx, .inr (6, [.int (nI 0), .ref q7, .ref q15, .ref q23, .ref q31, .int (nI 0), .ref q39, .ref q47, .ref q55, .null, .null, .int (nI 0), .null])), (q7, .inl (cI, 16, .inl (iA (fun _ => 0)))), (q15, .inl (cI, 16, .inl (iA (fun _ => 0)))), (q23, .inl (cI, 12, .inl (iA (fun _ => 0)))), (q31, .inl (cI, 12, .inl (iA (fun _ => 0)))), (q39, .inl (cI, 12, .inl (iA (fun _ => 0)))), (q47, .inl (cZ, 12, .inl (bA (fun _ => false)))), (q55, .inl (cI, 12, .inl (iA (fun _ => 0)))), (q63, .inl (cZ, 12, .inl (bA (fun _ => false))))] H _ := hw
  have fp65 : FPR args s RX6 wsX6_init 32 6 9 (.ref q63) := ⟨_, tyX6, (.array .boolean), rfl, by decide, n6, hts (.fieldLink RX6 32 "AirStepsModel" "lawIsOut" "[Z") (by decide +kernel), tyX6_ok, nmX6, rfl, rfl, by decide +kernel, rfl, rfl⟩
  refine x_putF X hnm hw fp65 0 rfl (Nat.le_of_ble_eq_true rfl) dX6_init_65 (fun H locs hw => ?_)
  have hw : WD D A s.heap [(mx, .inr (6, [.int (nI 0), .ref q7, .ref q15, .ref q23, .ref q31, .int (nI 0), .ref q39, .ref q47, .ref q55, .ref q63, .null, .int (nI 0), .null])), (q7, .inl (cI, 16, .inl (iA (fun _ => 0)))), (q15, .inl (cI, 16, .inl (iA (fun _ => 0)))), (q23, .inl (cI, 12, .inl (iA (fun _ => 0)))), (q31, .inl (cI, 12, .inl (iA (fun _ => 0)))), (q39, .inl (cI, 12, .inl (iA (fun _ => 0)))), (q47, .inl (cZ, 12, .inl (bA (fun _ => false)))), (q55, .inl (cI, 12, .inl (iA (fun _ => 0)))), (q63, .inl (cZ, 12, .inl (bA (fun _ => false))))] H locs := hw
  refine lv_aload_n hx hb dX6_init_68 rfl (lv_at hl 0 rfl) ?_
  refine lv_bipush (v := nI 17) hx hb dX6_init_69 (by decide) ?_
  refine x_newI X hw (by decide +kernel) (by omega) (Nat.le_of_ble_eq_true rfl) (Nat.le_of_ble_eq_true rfl) dX6_init_71 (fun q71 H hw => ?_)
  have hw : WD D A s.heap [(mx, .inr (6, [.int (nI 0), .ref q7, .ref q15, .ref q23, .ref q31, .int (nI 0), .ref q39, .ref q47, .ref q55, .ref q63, .null, .int (nI 0), .null])), (q7, .inl (cI, 16, .inl (iA (fun _ => 0)))), (q15, .inl (cI, 16, .inl (iA (fun _ => 0)))), (q23, .inl (cI, 12, .inl (iA (fun _ => 0)))), (q31, .inl (cI, 12, .inl (iA (fun _ => 0)))), (q39, .inl (cI, 12, .inl (iA (fun _ => 0)))), (q47, .inl (cZ, 12, .inl (bA (fun _ => false)))), (q55, .inl (cI, 12, .inl (iA (fun _ => 0)))), (q63, .inl (cZ, 12, .inl (bA (fun _ => false)))), (q71, .inl (cI, 17, .inl (iA (fun _ => 0))))] H _ := hw
  have fp73 : FPR args s RX6 wsX6_init 35 6 10 (.ref q71) := ⟨_, tyX6, (.array .int), rfl, by decide, n6, hts (.fieldLink RX6 35 "AirStepsModel" "states" "[I") (by decide +kernel), tyX6_ok, nmX6, rfl, rfl, by decide +kernel, rfl, rfl⟩
  refine x_putF X hnm hw fp73 0 rfl (Nat.le_of_ble_eq_true rfl) dX6_init_73 (fun H locs hw => ?_)
  have hw : WD D A s.heap [(mx, .inr (6, [.int (nI 0), .ref q7, .ref q15, .ref q23, .ref q31, .int (nI 0), .ref q39, .ref q47, .ref q55, .ref q63, .ref q71, .int (nI 0), .null])), (q7, .inl (cI, 16, .inl (iA (fun _ => 0)))), (q15, .inl (cI, 16, .inl (iA (fun _ => 0)))), (q23, .inl (cI, 12, .inl (iA (fun _ => 0)))), (q31, .inl (cI, 12, .inl (iA (fun _ => 0)))), (q39, .inl (cI, 12, .inl (iA (fun _ => 0)))), (q47, .inl (cZ, 12, .inl (bA (fun _ => false)))), (q55, .inl (cI, 12, .inl (iA (fun _ => 0)))), (q63, .inl (cZ, 12, .inl (bA (fun _ => false)))), (q71, .inl (cI, 17, .inl (iA (fun _ => 0))))] H locs := hw
  refine lv_aload_n hx hb dX6_init_76 rfl (lv_at hl 0 rfl) ?_
  refine lv_bipush (v := nI 64) hx hb dX6_init_77 (by decide) ?_
  refine x_newI X hw (by decide +kernel) (by omega) (Nat.le_of_ble_eq_true rfl) (Nat.le_of_ble_eq_true rfl) dX6_init_79 (fun q79 H hw => ?_)
  have hw : WD D A s.heap [(mx, .inr (6, [.int (nI 0), .ref q7, .ref q15, .ref q23, .ref q31, .int (nI 0), .ref q39, .ref q47, .ref q55, .ref q63, .ref q71, .int (nI 0), .null])), (q7, .inl (cI, 16, .inl (iA (fun _ => 0)))), (q15, .inl (cI, 16, .inl (iA (fun _ => 0)))), (q23, .inl (cI, 12, .inl (iA (fun _ => 0)))), (q31, .inl (cI, 12, .inl (iA (fun _ => 0)))), (q39, .inl (cI, 12, .inl (iA (fun _ => 0)))), (q47, .inl (cZ, 12, .inl (bA (fun _ => false)))), (q55, .inl (cI, 12, .inl (iA (fun _ => 0)))), (q63, .inl (cZ, 12, .inl (bA (fun _ => false)))), (q71, .inl (cI, 17, .inl (iA (fun _ => 0)))), (q79, .inl (cI, 64, .inl (iA (fun _ => 0))))] H _ := hw
  have fp81 : FPR args s RX6 wsX6_init 38 6 12 (.ref q79) := ⟨_, tyX6, (.array .int), rfl, by decide, n6, hts (.fieldLink RX6 38 "AirStepsModel" "ways" "[I") (by decide +kernel), tyX6_ok, nmX6, rfl, rfl, by decide +kernel, rfl, rfl⟩
  refine x_putF X hnm hw fp81 0 rfl (Nat.le_of_ble_eq_true rfl) dX6_init_81 (fun H locs hw => ?_)
  have hw : WD D A s.heap [(mx, .inr (6, [.int (nI 0), .ref q7, .ref q15, .ref q23, .ref q31, .int (nI 0), .ref q39, .ref q47, .ref q55, .ref q63, .ref q71, .int (nI 0), .ref q79])), (q7, .inl (cI, 16, .inl (iA (fun _ => 0)))), (q15, .inl (cI, 16, .inl (iA (fun _ => 0)))), (q23, .inl (cI, 12, .inl (iA (fun _ => 0)))), (q31, .inl (cI, 12, .inl (iA (fun _ => 0)))), (q39, .inl (cI, 12, .inl (iA (fun _ => 0)))), (q47, .inl (cZ, 12, .inl (bA (fun _ => false)))), (q55, .inl (cI, 12, .inl (iA (fun _ => 0)))), (q63, .inl (cZ, 12, .inl (bA (fun _ => false)))), (q71, .inl (cI, 17, .inl (iA (fun _ => 0)))), (q79, .inl (cI, 64, .inl (iA (fun _ => 0))))] H locs := hw
  refine lv_iconst (v := nI 0) hx hb dX6_init_84 (by decide) ?_
  refine lv_istore_n (lv' := [(1, .int (nI 0)), (0, .ref mx)]) hx hb dX6_init_85 rfl hl (by decide) rfl (fun ls hl => ?_)
  refine wl (α := (Nat → Nat) × (Nat → Nat) × Nat) (nL := 2) (fun aQ => 12 - aQ.2.2) (fun aQ => (aQ.2.2 ≤ 12) ∧ (∀ j, j < aQ.2.2 → aQ.1 j = 1) ∧ (∀ j, j < aQ.2.2 → aQ.2.1 j = 1)) (fun aQ => [(mx, .inr (6, [.int (nI 0), .ref q7, .ref q15, .ref q23, .ref q31, .int (nI 0), .ref q39, .ref q47, .ref q55, .ref q63, .ref q71, .int (nI 0), .ref q79])), (q7, .inl (cI, 16, .inl (iA (fun _ => 0)))), (q15, .inl (cI, 16, .inl (iA (fun _ => 0)))), (q23, .inl (cI, 12, .inl (iA aQ.1))), (q31, .inl (cI, 12, .inl (iA aQ.2.1))), (q39, .inl (cI, 12, .inl (iA (fun _ => 0)))), (q47, .inl (cZ, 12, .inl (bA (fun _ => false)))), (q55, .inl (cI, 12, .inl (iA (fun _ => 0)))), (q63, .inl (cZ, 12, .inl (bA (fun _ => false)))), (q71, .inl (cI, 17, .inl (iA (fun _ => 0)))), (q79, .inl (cI, 64, .inl (iA (fun _ => 0))))]) (fun aQ => [(1, .int (nI aQ.2.2)), (0, .ref mx)]) ?_ (fun _ => 0, fun _ => 0, 0) ⟨(show 0 ≤ 12 from by omega), (show ∀ j, j < 0 → (fun _ => 0) j = 1 from fun j hj => absurd hj (Nat.not_lt_zero j)), (show ∀ j, j < 0 → (fun _ => 0) j = 1 from fun j hj => absurd hj (Nat.not_lt_zero j))⟩ _ _ _ hw (lv_sub hl [0, 1] rfl)
  rintro ⟨f1, f2, i⟩ ⟨hi, h1, h2⟩ H locs ls hw hl ih_86
  have hi : i ≤ 12 := hi
  have h1 : ∀ j, j < i → f1 j = 1 := h1
  have h2 : ∀ j, j < i → f2 j = 1 := h2
  have hw : WD D A s.heap [(mx, .inr (6, [.int (nI 0), .ref q7, .ref q15, .ref q23, .ref q31, .int (nI 0), .ref q39, .ref q47, .ref q55, .ref q63, .ref q71, .int (nI 0), .ref q79])), (q7, .inl (cI, 16, .inl (iA (fun _ => 0)))), (q15, .inl (cI, 16, .inl (iA (fun _ => 0)))), (q23, .inl (cI, 12, .inl (iA f1))), (q31, .inl (cI, 12, .inl (iA f2))), (q39, .inl (cI, 12, .inl (iA (fun _ => 0)))), (q47, .inl (cZ, 12, .inl (bA (fun _ => false)))), (q55, .inl (cI, 12, .inl (iA (fun _ => 0)))), (q63, .inl (cZ, 12, .inl (bA (fun _ => false)))), (q71, .inl (cI, 17, .inl (iA (fun _ => 0)))), (q79, .inl (cI, 64, .inl (iA (fun _ => 0))))] H locs := hw
  have hl : lv_has ls 2 [(1, .int (nI i)), (0, .ref mx)] := hl
  refine lv_iload_n hx hb dX6_init_86 rfl (lv_at hl 0 rfl) ?_
  refine lv_bipush (v := nI 12) hx hb dX6_init_87 (by decide) ?_
  refine lv_icmp_ge (tgt := 112) hx hb dX6_init_89 (by decide) (fun c_89 => ?_) (fun c_89 => ?_)
  · skip
    rw [nI_leI (by omega) (by omega)] at c_89
    have hw := WD.ext hw 3 rfl (fun j hj => congrArg nI (h1 j (by omega)))
    have hw : WD D A s.heap [(mx, .inr (6, [.int (nI 0), .ref q7, .ref q15, .ref q23, .ref q31, .int (nI 0), .ref q39, .ref q47, .ref q55, .ref q63, .ref q71, .int (nI 0), .ref q79])), (q7, .inl (cI, 16, .inl (iA (fun _ => 0)))), (q15, .inl (cI, 16, .inl (iA (fun _ => 0)))), (q23, .inl (cI, 12, .inl (iA (fun _ => 1)))), (q31, .inl (cI, 12, .inl (iA f2))), (q39, .inl (cI, 12, .inl (iA (fun _ => 0)))), (q47, .inl (cZ, 12, .inl (bA (fun _ => false)))), (q55, .inl (cI, 12, .inl (iA (fun _ => 0)))), (q63, .inl (cZ, 12, .inl (bA (fun _ => false)))), (q71, .inl (cI, 17, .inl (iA (fun _ => 0)))), (q79, .inl (cI, 64, .inl (iA (fun _ => 0))))] H locs := hw
    have hw := WD.ext hw 4 rfl (fun j hj => congrArg nI (h2 j (by omega)))
    have hw : WD D A s.heap [(mx, .inr (6, [.int (nI 0), .ref q7, .ref q15, .ref q23, .ref q31, .int (nI 0), .ref q39, .ref q47, .ref q55, .ref q63, .ref q71, .int (nI 0), .ref q79])), (q7, .inl (cI, 16, .inl (iA (fun _ => 0)))), (q15, .inl (cI, 16, .inl (iA (fun _ => 0)))), (q23, .inl (cI, 12, .inl (iA (fun _ => 1)))), (q31, .inl (cI, 12, .inl (iA (fun _ => 1)))), (q39, .inl (cI, 12, .inl (iA (fun _ => 0)))), (q47, .inl (cZ, 12, .inl (bA (fun _ => false)))), (q55, .inl (cI, 12, .inl (iA (fun _ => 0)))), (q63, .inl (cZ, 12, .inl (bA (fun _ => false)))), (q71, .inl (cI, 17, .inl (iA (fun _ => 0)))), (q79, .inl (cI, 64, .inl (iA (fun _ => 0))))] H locs := hw
    exact x_vret X hw (⟨_, _, _, _, _, _, _, _, _, _, rfl⟩) dX6_init_112
  · skip
    rw [nI_leI (by omega) (by omega)] at c_89
    refine lv_aload_n hx hb dX6_init_92 rfl (lv_at hl 1 rfl) ?_
    refine x_get X hw f16 0 rfl rfl dX6_init_93 ?_
    refine lv_iload_n hx hb dX6_init_96 rfl (lv_at hl 0 rfl) ?_
    refine lv_iconst (v := nI 1) hx hb dX6_init_97 (by decide) ?_
    refine x_astN X hw 3 rfl (by omega) (by omega) dX6_init_98 (fun H locs hw => ?_)
    have hw : WD D A s.heap [(mx, .inr (6, [.int (nI 0), .ref q7, .ref q15, .ref q23, .ref q31, .int (nI 0), .ref q39, .ref q47, .ref q55, .ref q63, .ref q71, .int (nI 0), .ref q79])), (q7, .inl (cI, 16, .inl (iA (fun _ => 0)))), (q15, .inl (cI, 16, .inl (iA (fun _ => 0)))), (q23, .inl (cI, 12, .inl (iA (va_up f1 i 1)))), (q31, .inl (cI, 12, .inl (iA f2))), (q39, .inl (cI, 12, .inl (iA (fun _ => 0)))), (q47, .inl (cZ, 12, .inl (bA (fun _ => false)))), (q55, .inl (cI, 12, .inl (iA (fun _ => 0)))), (q63, .inl (cZ, 12, .inl (bA (fun _ => false)))), (q71, .inl (cI, 17, .inl (iA (fun _ => 0)))), (q79, .inl (cI, 64, .inl (iA (fun _ => 0))))] H locs := hw
    refine lv_aload_n hx hb dX6_init_99 rfl (lv_at hl 1 rfl) ?_
    refine x_get X hw f19 0 rfl rfl dX6_init_100 ?_
    refine lv_iload_n hx hb dX6_init_103 rfl (lv_at hl 0 rfl) ?_
    refine lv_iconst (v := nI 1) hx hb dX6_init_104 (by decide) ?_
    refine x_astN X hw 4 rfl (by omega) (by omega) dX6_init_105 (fun H locs hw => ?_)
    have hw : WD D A s.heap [(mx, .inr (6, [.int (nI 0), .ref q7, .ref q15, .ref q23, .ref q31, .int (nI 0), .ref q39, .ref q47, .ref q55, .ref q63, .ref q71, .int (nI 0), .ref q79])), (q7, .inl (cI, 16, .inl (iA (fun _ => 0)))), (q15, .inl (cI, 16, .inl (iA (fun _ => 0)))), (q23, .inl (cI, 12, .inl (iA (va_up f1 i 1)))), (q31, .inl (cI, 12, .inl (iA (va_up f2 i 1)))), (q39, .inl (cI, 12, .inl (iA (fun _ => 0)))), (q47, .inl (cZ, 12, .inl (bA (fun _ => false)))), (q55, .inl (cI, 12, .inl (iA (fun _ => 0)))), (q63, .inl (cZ, 12, .inl (bA (fun _ => false)))), (q71, .inl (cI, 17, .inl (iA (fun _ => 0)))), (q79, .inl (cI, 64, .inl (iA (fun _ => 0))))] H locs := hw
    refine lv_iinc (v := nI (i + 1)) (lv' := [(1, .int (nI (i + 1))), (0, .ref mx)]) hx hb dX6_init_106 hl (k := 0) rfl (nI_add i 1) (by decide) rfl (fun ls hl => ?_)
    refine lv_goto (tgt := 86) hx hb dX6_init_109 (by decide) ?_
    exact ih_86 (va_up f1 i 1, va_up f2 i 1, i + 1) (by show 12 - (i + 1) < 12 - i; omega) ⟨(show (i + 1) ≤ 12 from by omega), (show ∀ j, j < (i + 1) → (va_up f1 i 1) j = 1 from up_c h1), (show ∀ j, j < (i + 1) → (va_up f2 i 1) j = 1 from up_c h2)⟩ _ _ _ hw (lv_sub hl [0, 1] rfl)
