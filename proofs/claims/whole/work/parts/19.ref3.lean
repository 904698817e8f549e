/-! ===== the reference: what is called from outside, the text ===== -/
def cuN (ct : Nat) : Nat → Nat → Nat
  | 0, _ => 0
  | k + 1, i => cuN ct k i
/-- cut i among the bits below k: fuel up to n -/
def cutL (ct n : Nat) : Nat → Nat → Nat → Int32
  | 0, _, _ => -2
  | f + 1, k, re => if ct.testBit k then (if re = 0 then nI k else cutL ct n f (k + 1) (re - 1)) else cutL ct n f (k + 1) re
theorem cutL_s (ct n f k re : Nat) : cutL ct n (f + 1) k re = if ct.testBit k then (if re = 0 then nI k else cutL ct n f (k + 1) (re - 1)) else cutL ct n f (k + 1) re := rfl
theorem ite_no {c : Prop} [Decidable c] {a : Int32} (h : c → a = -1) : -1 = if c then a else -1 := by
  by_cases hc : c
  · rw [if_pos hc, h hc]
  · rw [if_neg hc]
theorem psR_congr {oo ii s s' : Nat → Nat} {n ct wy j k : Nat} (h : s k = s' k) : psR oo ii s n ct wy j k = psR oo ii s' n ct wy j k := by
  unfold psR
  rw [h]
theorem clR_congr {oo ii s s' : Nat → Nat} {n ct wy k i : Nat} (h : s k = s' k) : clR oo ii s n ct wy k i = clR oo ii s' n ct wy k i := by
  unfold clR
  exact fo_congr (fun j x _ => by rw [psR_congr h])
theorem crP_congr {oo ii s s' : Nat → Nat} {n ct wy j : Nat} (h : ∀ k, k ≤ n → s k = s' k) (hj : j < n) (_ : wy < 2) : crP oo ii s n ct wy j = crP oo ii s' n ct wy j := by
  unfold crP
  rw [clR_congr (h j (Nat.le_of_lt hj))]
theorem crO_congr {oo ii s s' : Nat → Nat} {n ct wy : Nat} (h : ∀ k, k ≤ n → s k = s' k) (hw : wy < 2) : crO oo ii s n ct wy = crO oo ii s' n ct wy := by
  have e : fs (crP oo ii s n ct wy) n = fs (crP oo ii s' n ct wy) n := fs_congr (fun j hj => crP_congr h hj hw)
  unfold crO
  rw [e]
  by_cases hq : fs (crP oo ii s' n ct wy) n < n
  · rw [if_pos hq, if_pos hq, clR_congr (h _ (Nat.le_of_lt hq))]
  · rw [if_neg hq, if_neg hq]
theorem mem_q {q a : Nat} (hq : q ≤ 15) (ha : a ≤ 16) (h : 1 <<< q < a) : q + 1 ≤ 15 := by
  rcases Nat.lt_or_ge q 4 with c | c
  · omega
  · have h1 : 2 ^ 4 ≤ 2 ^ q := Nat.pow_le_pow_right (n := 2) (by decide) c
    rw [Nat.one_shiftLeft] at h
    omega
set_option maxHeartbeats 4000000 in
set_option maxRecDepth 100000 in
theorem c_X6_clash (l : Launch) (D : va_G) (cI cZ : ClassId) (mx : Nat) (m1 : Nat) (m2 : Nat) (m3 : Nat) (m4 : Nat) (m5 : Nat) (m6 : Nat) (m7 : Nat) (m8 : Nat) (m9 : Nat) (m10 : Nat) (n : Nat) (nl : Nat) (ct : Nat) (oo : Nat → Nat) (ii : Nat → Nat) (ss : Nat → Nat) (x : Int32) (hn : n ≤ 16) (hoo : ∀ k, oo k < 64) (hii : ∀ k, ii k < 64) (hss : ∀ k, ss k < 64) : MI l D cI cZ yX6_clash wsX6_clash ({ frames := 5, cells := 0, slots := 0, locals := 114 }) [.ref mx, .int x] [(mx, .inr (6, [.int (nI n), .ref m1, .ref m2, .ref m3, .ref m4, .int (nI nl), .ref m5, .ref m6, .ref m7, .ref m8, .ref m9, .int (nI ct), .ref m10])), (m1, .inl (cI, 16, .inl (iA oo))), (m2, .inl (cI, 16, .inl (iA ii))), (m9, .inl (cI, 17, .inl (iA ss)))] (fun r w => ∃ s9 : Nat → Nat, ∃ c9 : Nat, (∀ k, s9 k < 64) ∧ (c9 = fcF oo ii n (1 <<< n - 1) ∨ c9 = ct) ∧ r = (gd2 (bel x (nI 2)) (fwR oo ii n) (fsI (crP oo ii (sst oo ii) n (fcF oo ii n (1 <<< n - 1)) x.toNatClampNeg) n)) ∧ w = [(mx, .inr (6, [.int (nI n), .ref m1, .ref m2, .ref m3, .ref m4, .int (nI nl), .ref m5, .ref m6, .ref m7, .ref m8, .ref m9, .int (nI c9), .ref m10])), (m1, .inl (cI, 16, .inl (iA oo))), (m2, .inl (cI, 16, .inl (iA ii))), (m9, .inl (cI, 17, .inl (iA s9)))]) := by
  refine MI.of (cc := cX6_clash) (maxL := 2) (ret := (some .int)) (own := RX6) (by decide) rfl rfl (Nat.le_of_ble_eq_true rfl) ?_
  intro pQ eQ s mQ args below meth cQ A X hw ls hl
  obtain ⟨⟨hx, hb, hml, hown, hts⟩, hr, hlk, hK, hN, hA⟩ := id X
  have hl : lv_has ls 2 [(0, .ref mx), (1, .int x)] := hl
  refine lv_iload_n hx hb dX6_clash_0 rfl (lv_at hl 1 rfl) ?_
  refine lv_iconst (v := nI 0) hx hb dX6_clash_1 (by decide) ?_
  refine lv_iconst (v := nI 1) hx hb dX6_clash_2 (by decide) ?_
  refine x_callS (As := [.int x, .int (nI 0), .int (nI 1)]) (rest := []) X hw hl.1 (c_X6_in l D cI cZ x (nI 0) (nI 1) ) (va_cwS 3 hts gX6_clash_X6_in rfl rfl rfl (by decide +kernel) ⟨Nat.le_of_ble_eq_true rfl, Nat.le_of_ble_eq_true rfl⟩) [] rfl rfl rfl (Nat.le_of_ble_eq_true rfl) dX6_clash_3 (by decide) (fun r w1 H locs hp hw1 => ?_)
  obtain ⟨rfl, rfl⟩ := hp
  have hw : WD D A s.heap [(mx, .inr (6, [.int (nI n), .ref m1, .ref m2, .ref m3, .ref m4, .int (nI nl), .ref m5, .ref m6, .ref m7, .ref m8, .ref m9, .int (nI ct), .ref m10])), (m1, .inl (cI, 16, .inl (iA oo))), (m2, .inl (cI, 16, .inl (iA ii))), (m9, .inl (cI, 17, .inl (iA ss)))] H locs := hw1 rfl
  refine cv_i (show bI (inn x (nI 0) (nI 1)) = bI (bel x (nI 2)) from congrArg bI (inn_bel x (by decide))) ?_
  refine lv_if_ne (tgt := 12) hx hb dX6_clash_6 (by decide) (fun c_6 => ?_) (fun c_6 => ?_)
  · skip
    rw [q_b0] at c_6; try simp only [Bool.not_eq_false, Bool.not_eq_true] at c_6
    obtain ⟨w9, hw9, rfl⟩ := bel_t (by decide) c_6
    refine lv_aload_n hx hb dX6_clash_12 rfl (lv_at hl 0 rfl) ?_
    refine x_callV (As := []) (rest := []) X hw hl.1 (c_X6_isSound l D cI cZ mx m1 m2 m3 m4 m5 m6 m7 m8 m9 m10 n nl ct oo ii ss (by first | assumption | omega) (by first | assumption | omega) (by first | assumption | omega) (by first | assumption | omega)) (cwV 0 hts gX6_clash_X6_isSound rfl rfl rfl (by decide +kernel) ⟨Nat.le_of_ble_eq_true rfl, Nat.le_of_ble_eq_true rfl⟩) [0, 1, 2, 3] rfl rfl 0 rfl rfl rfl rfl (Nat.le_of_ble_eq_true rfl) dX6_clash_13 (by decide) (fun r w1 H locs hp hw1 => ?_)
    obtain ⟨s2, hs2, hb2, rfl, rfl⟩ := hp
    have hw : WD D A s.heap [(mx, .inr (6, [.int (nI n), .ref m1, .ref m2, .ref m3, .ref m4, .int (nI nl), .ref m5, .ref m6, .ref m7, .ref m8, .ref m9, .int (nI ct), .ref m10])), (m1, .inl (cI, 16, .inl (iA oo))), (m2, .inl (cI, 16, .inl (iA ii))), (m9, .inl (cI, 17, .inl (iA s2)))] H locs := hw1 rfl
    refine lv_if_eq (tgt := 27) hx hb dX6_clash_16 (by decide) (fun c_16 => ?_) (fun c_16 => ?_)
    · skip
      rw [q_b0] at c_16; try simp only [Bool.not_eq_false, Bool.not_eq_true] at c_16
      have hs := of_decide_eq_false c_16
      refine lv_bipush (v := (-3)) hx hb dX6_clash_27 (by decide) ?_
      exact x_iret X hw (⟨s2, _, (hb2), (by first | exact Or.inr rfl | exact Or.inl hc2), (by first | (rw [gd2_t c_6, gd1_f hs]; done) | (rw [gd2_t c_6, gd1_t hs, nc w9 (by omega), hc2]; exact fsI_congr (fun j hj => crP_congr (fun k hk => hs3 k hk) hj (by omega)))), rfl⟩) dX6_clash_29
    · skip
      rw [q_b0] at c_16; try simp only [Bool.not_eq_false, Bool.not_eq_true] at c_16
      have hs := of_decide_eq_true c_16
      have hn0 := fwR_pos hs
      have hs3 := hs2 hs
      refine lv_aload_n hx hb dX6_clash_19 rfl (lv_at hl 0 rfl) ?_
      refine lv_iload_n hx hb dX6_clash_20 rfl (lv_at hl 1 rfl) ?_
      refine x_callV (As := [.int (nI w9)]) (rest := []) X hw hl.1 (c_X6_firstClash l D cI cZ mx m1 m2 m3 m4 m5 m6 m7 m8 m9 m10 n nl ct oo ii s2 w9 (by first | assumption | omega) (by first | assumption | omega) (by first | assumption | omega) (hb2) (by first | assumption | omega) (by first | assumption | omega)) (cwV 1 hts gX6_clash_X6_firstClash rfl rfl rfl (by decide +kernel) ⟨Nat.le_of_ble_eq_true rfl, Nat.le_of_ble_eq_true rfl⟩) [0, 1, 2, 3] rfl rfl 0 rfl rfl rfl rfl (Nat.le_of_ble_eq_true rfl) dX6_clash_21 (by decide) (fun r w1 H locs hp hw1 => ?_)
      obtain ⟨c2, hc2, hc3, hc4, rfl, rfl⟩ := hp
      have hw : WD D A s.heap [(mx, .inr (6, [.int (nI n), .ref m1, .ref m2, .ref m3, .ref m4, .int (nI nl), .ref m5, .ref m6, .ref m7, .ref m8, .ref m9, .int (nI c2), .ref m10])), (m1, .inl (cI, 16, .inl (iA oo))), (m2, .inl (cI, 16, .inl (iA ii))), (m9, .inl (cI, 17, .inl (iA s2)))] H locs := hw1 rfl
      refine lv_goto (tgt := 29) hx hb dX6_clash_24 (by decide) ?_
      exact x_iret X hw (⟨s2, _, (hb2), (by first | exact Or.inr rfl | exact Or.inl hc2), (by first | (rw [gd2_t c_6, gd1_f hs]; done) | (rw [gd2_t c_6, gd1_t hs, nc w9 (by omega), hc2]; exact fsI_congr (fun j hj => crP_congr (fun k hk => hs3 k hk) hj (by omega)))), rfl⟩) dX6_clash_29
  · skip
    rw [q_b0] at c_6; try simp only [Bool.not_eq_false, Bool.not_eq_true] at c_6
    refine lv_bipush (v := (-2)) hx hb dX6_clash_9 (by decide) ?_
    exact x_iret X hw (⟨ss, ct, (hss), (Or.inr rfl), ((gd2_f c_6).symm), rfl⟩) dX6_clash_11
set_option maxHeartbeats 4000000 in
set_option maxRecDepth 100000 in
theorem c_X6_clashOf (l : Launch) (D : va_G) (cI cZ : ClassId) (mx : Nat) (m1 : Nat) (m2 : Nat) (m3 : Nat) (m4 : Nat) (m5 : Nat) (m6 : Nat) (m7 : Nat) (m8 : Nat) (m9 : Nat) (m10 : Nat) (n : Nat) (nl : Nat) (ct : Nat) (oo : Nat → Nat) (ii : Nat → Nat) (ss : Nat → Nat) (x : Int32) (hn : n ≤ 16) (hoo : ∀ k, oo k < 64) (hii : ∀ k, ii k < 64) (hss : ∀ k, ss k < 64) : MI l D cI cZ yX6_clashOf wsX6_clashOf ({ frames := 5, cells := 0, slots := 0, locals := 114 }) [.ref mx, .int x] [(mx, .inr (6, [.int (nI n), .ref m1, .ref m2, .ref m3, .ref m4, .int (nI nl), .ref m5, .ref m6, .ref m7, .ref m8, .ref m9, .int (nI ct), .ref m10])), (m1, .inl (cI, 16, .inl (iA oo))), (m2, .inl (cI, 16, .inl (iA ii))), (m9, .inl (cI, 17, .inl (iA ss)))] (fun r w => ∃ s9 : Nat → Nat, ∃ c9 : Nat, (∀ k, s9 k < 64) ∧ (c9 = fcF oo ii n (1 <<< n - 1) ∨ c9 = ct) ∧ r = (gd2 (bel x (nI 2)) (fwR oo ii n) (crO oo ii (sst oo ii) n (fcF oo ii n (1 <<< n - 1)) x.toNatClampNeg)) ∧ w = [(mx, .inr (6, [.int (nI n), .ref m1, .ref m2, .ref m3, .ref m4, .int (nI nl), .ref m5, .ref m6, .ref m7, .ref m8, .ref m9, .int (nI c9), .ref m10])), (m1, .inl (cI, 16, .inl (iA oo))), (m2, .inl (cI, 16, .inl (iA ii))), (m9, .inl (cI, 17, .inl (iA s9)))]) := by
  refine MI.of (cc := cX6_clashOf) (maxL := 4) (ret := (some .int)) (own := RX6) (by decide) rfl rfl (Nat.le_of_ble_eq_true rfl) ?_
  intro pQ eQ s mQ args below meth cQ A X hw ls hl
  obtain ⟨⟨hx, hb, hml, hown, hts⟩, hr, hlk, hK, hN, hA⟩ := id X
  have hl : lv_has ls 4 [(0, .ref mx), (1, .int x)] := hl
  refine lv_iload_n hx hb dX6_clashOf_0 rfl (lv_at hl 1 rfl) ?_
  refine lv_iconst (v := nI 0) hx hb dX6_clashOf_1 (by decide) ?_
  refine lv_iconst (v := nI 1) hx hb dX6_clashOf_2 (by decide) ?_
  refine x_callS (As := [.int x, .int (nI 0), .int (nI 1)]) (rest := []) X hw hl.1 (c_X6_in l D cI cZ x (nI 0) (nI 1) ) (va_cwS 3 hts gX6_clashOf_X6_in rfl rfl rfl (by decide +kernel) ⟨Nat.le_of_ble_eq_true rfl, Nat.le_of_ble_eq_true rfl⟩) [] rfl rfl rfl (Nat.le_of_ble_eq_true rfl) dX6_clashOf_3 (by decide) (fun r w1 H locs hp hw1 => ?_)
  obtain ⟨rfl, rfl⟩ := hp
  have hw : WD D A s.heap [(mx, .inr (6, [.int (nI n), .ref m1, .ref m2, .ref m3, .ref m4, .int (nI nl), .ref m5, .ref m6, .ref m7, .ref m8, .ref m9, .int (nI ct), .ref m10])), (m1, .inl (cI, 16, .inl (iA oo))), (m2, .inl (cI, 16, .inl (iA ii))), (m9, .inl (cI, 17, .inl (iA ss)))] H locs := hw1 rfl
  refine cv_i (show bI (inn x (nI 0) (nI 1)) = bI (bel x (nI 2)) from congrArg bI (inn_bel x (by decide))) ?_
  refine lv_if_ne (tgt := 12) hx hb dX6_clashOf_6 (by decide) (fun c_6 => ?_) (fun c_6 => ?_)
  · skip
    rw [q_b0] at c_6; try simp only [Bool.not_eq_false, Bool.not_eq_true] at c_6
    obtain ⟨w9, hw9, rfl⟩ := bel_t (by decide) c_6
    refine lv_aload_n hx hb dX6_clashOf_12 rfl (lv_at hl 0 rfl) ?_
    refine x_callV (As := []) (rest := []) X hw hl.1 (c_X6_isSound l D cI cZ mx m1 m2 m3 m4 m5 m6 m7 m8 m9 m10 n nl ct oo ii ss (by first | assumption | omega) (by first | assumption | omega) (by first | assumption | omega) (by first | assumption | omega)) (cwV 0 hts gX6_clashOf_X6_isSound rfl rfl rfl (by decide +kernel) ⟨Nat.le_of_ble_eq_true rfl, Nat.le_of_ble_eq_true rfl⟩) [0, 1, 2, 3] rfl rfl 0 rfl rfl rfl rfl (Nat.le_of_ble_eq_true rfl) dX6_clashOf_13 (by decide) (fun r w1 H locs hp hw1 => ?_)
    obtain ⟨s2, hs2, hb2, rfl, rfl⟩ := hp
    have hw : WD D A s.heap [(mx, .inr (6, [.int (nI n), .ref m1, .ref m2, .ref m3, .ref m4, .int (nI nl), .ref m5, .ref m6, .ref m7, .ref m8, .ref m9, .int (nI ct), .ref m10])), (m1, .inl (cI, 16, .inl (iA oo))), (m2, .inl (cI, 16, .inl (iA ii))), (m9, .inl (cI, 17, .inl (iA s2)))] H locs := hw1 rfl
    refine lv_if_ne (tgt := 22) hx hb dX6_clashOf_16 (by decide) (fun c_16 => ?_) (fun c_16 => ?_)
    · skip
      rw [q_b0] at c_16; try simp only [Bool.not_eq_false, Bool.not_eq_true] at c_16
      have hs := of_decide_eq_true c_16
      have hn0 := fwR_pos hs
      have hs3 := hs2 hs
      refine lv_aload_n hx hb dX6_clashOf_22 rfl (lv_at hl 0 rfl) ?_
      refine lv_iload_n hx hb dX6_clashOf_23 rfl (lv_at hl 1 rfl) ?_
      refine x_callV (As := [.int (nI w9)]) (rest := []) X hw hl.1 (c_X6_firstClash l D cI cZ mx m1 m2 m3 m4 m5 m6 m7 m8 m9 m10 n nl ct oo ii s2 w9 (by first | assumption | omega) (by first | assumption | omega) (by first | assumption | omega) (hb2) (by first | assumption | omega) (by first | assumption | omega)) (cwV 1 hts gX6_clashOf_X6_firstClash rfl rfl rfl (by decide +kernel) ⟨Nat.le_of_ble_eq_true rfl, Nat.le_of_ble_eq_true rfl⟩) [0, 1, 2, 3] rfl rfl 0 rfl rfl rfl rfl (Nat.le_of_ble_eq_true rfl) dX6_clashOf_24 (by decide) (fun r w1 H locs hp hw1 => ?_)
      obtain ⟨c2, hc2, hc3, hc4, rfl, rfl⟩ := hp
      have hw : WD D A s.heap [(mx, .inr (6, [.int (nI n), .ref m1, .ref m2, .ref m3, .ref m4, .int (nI nl), .ref m5, .ref m6, .ref m7, .ref m8, .ref m9, .int (nI c2), .ref m10])), (m1, .inl (cI, 16, .inl (iA oo))), (m2, .inl (cI, 16, .inl (iA ii))), (m9, .inl (cI, 17, .inl (iA s2)))] H locs := hw1 rfl
      refine lv_istore_n (lv' := [(2, .int (fsI (crP oo ii s2 n c2 w9) n)), (0, .ref mx), (1, .int (nI w9))]) hx hb dX6_clashOf_27 rfl hl (by decide) rfl (fun ls hl => ?_)
      refine lv_iconst (v := nI 0) hx hb dX6_clashOf_28 (by decide) ?_
      refine lv_istore_n (lv' := [(3, .int (nI 0)), (2, .int (fsI (crP oo ii s2 n c2 w9) n)), (0, .ref mx), (1, .int (nI w9))]) hx hb dX6_clashOf_29 rfl hl (by decide) rfl (fun ls hl => ?_)
      refine wl (α := Nat) (nL := 4) (fun aQ => 6 - aQ) (fun aQ => (aQ ≤ 6) ∧ (∀ j, j < aQ → (clR oo ii s2 n c2 w9 (fs (crP oo ii s2 n c2 w9) n) n).testBit j = false)) (fun aQ => [(mx, .inr (6, [.int (nI n), .ref m1, .ref m2, .ref m3, .ref m4, .int (nI nl), .ref m5, .ref m6, .ref m7, .ref m8, .ref m9, .int (nI c2), .ref m10])), (m1, .inl (cI, 16, .inl (iA oo))), (m2, .inl (cI, 16, .inl (iA ii))), (m9, .inl (cI, 17, .inl (iA s2)))]) (fun aQ => [(3, .int (nI aQ)), (2, .int (fsI (crP oo ii s2 n c2 w9) n)), (0, .ref mx), (1, .int (nI w9))]) ?_ 0 ⟨(show 0 ≤ 6 from by omega), (show ∀ j, j < 0 → (clR oo ii s2 n c2 w9 (fs (crP oo ii s2 n c2 w9) n) n).testBit j = false from fun j hj => absurd hj (Nat.not_lt_zero j))⟩ _ _ _ hw (lv_sub hl [0, 1, 2, 3] rfl)
      rintro i ⟨hi, hq⟩ H locs ls hw hl ih_30
      have hi : i ≤ 6 := hi
      have hq : ∀ j, j < i → (clR oo ii s2 n c2 w9 (fs (crP oo ii s2 n c2 w9) n) n).testBit j = false := hq
      have hw : WD D A s.heap [(mx, .inr (6, [.int (nI n), .ref m1, .ref m2, .ref m3, .ref m4, .int (nI nl), .ref m5, .ref m6, .ref m7, .ref m8, .ref m9, .int (nI c2), .ref m10])), (m1, .inl (cI, 16, .inl (iA oo))), (m2, .inl (cI, 16, .inl (iA ii))), (m9, .inl (cI, 17, .inl (iA s2)))] H locs := hw
      have hl : lv_has ls 4 [(3, .int (nI i)), (2, .int (fsI (crP oo ii s2 n c2 w9) n)), (0, .ref mx), (1, .int (nI w9))] := hl
      refine lv_iload_n hx hb dX6_clashOf_30 rfl (lv_at hl 0 rfl) ?_
      refine lv_bipush (v := nI 6) hx hb dX6_clashOf_31 (by decide) ?_
      refine lv_icmp_ge (tgt := 63) hx hb dX6_clashOf_33 (by decide) (fun c_33 => ?_) (fun c_33 => ?_)
      · skip
        rw [nI_leI (by omega) (by omega)] at c_33
        refine lv_iconst (v := (-1)) hx hb dX6_clashOf_63 (by decide) ?_
        exact x_iret X hw (⟨s2, c2, (hb2), (Or.inl hc2), (by rw [gd2_t c_6, gd1_t hs, nc w9 (by omega), ← hc2, ← crO_congr hs3 hw9]; unfold crO; first | (rw [if_neg (fsI_m (by omega) c_38)]; done) | exact (ite_no (fun _ => fsI_no (P := fun c => (clR oo ii s2 n c2 w9 (fs (crP oo ii s2 n c2 w9) n) n).testBit c) (fun j hj => hq j (by omega))))), rfl⟩) dX6_clashOf_64
      · skip
        rw [nI_leI (by omega) (by omega)] at c_33
        refine lv_iload_n hx hb dX6_clashOf_36 rfl (lv_at hl 1 rfl) ?_
        refine lv_iconst (v := (-1)) hx hb dX6_clashOf_37 (by decide) ?_
        refine lv_icmp_eq (tgt := 63) hx hb dX6_clashOf_38 (by decide) (fun c_38 => ?_) (fun c_38 => ?_)
        · skip
          refine lv_iconst (v := (-1)) hx hb dX6_clashOf_63 (by decide) ?_
          exact x_iret X hw (⟨s2, c2, (hb2), (Or.inl hc2), (by rw [gd2_t c_6, gd1_t hs, nc w9 (by omega), ← hc2, ← crO_congr hs3 hw9]; unfold crO; first | (rw [if_neg (fsI_m (by omega) c_38)]; done) | exact (ite_no (fun _ => fsI_no (P := fun c => (clR oo ii s2 n c2 w9 (fs (crP oo ii s2 n c2 w9) n) n).testBit c) (fun j hj => hq j (by omega))))), rfl⟩) dX6_clashOf_64
        · skip
          obtain ⟨hk1, hk2⟩ := fsI_n (by omega) c_38
          refine lv_aload_n hx hb dX6_clashOf_41 rfl (lv_at hl 2 rfl) ?_
          refine lv_iload_n hx hb dX6_clashOf_42 rfl (lv_at hl 1 rfl) ?_
          refine cv_i (show fsI (crP oo ii s2 n c2 w9) n = nI (fs (crP oo ii s2 n c2 w9) n) from hk2) ?_
          refine lv_iload_n hx hb dX6_clashOf_43 rfl (lv_at hl 3 rfl) ?_
          refine x_callV (As := [.int (nI (fs (crP oo ii s2 n c2 w9) n)), .int (nI w9)]) (rest := []) X hw hl.1 (c_X6_clashAt l D cI cZ mx m1 m2 m3 m4 m5 m6 m7 m8 m9 m10 n nl c2 oo ii s2 (fs (crP oo ii s2 n c2 w9) n) w9 (by first | assumption | omega) (by first | assumption | omega) (by first | assumption | omega) (hb2) (by first | assumption | omega) (by first | assumption | omega) (hk1) (by first | assumption | omega)) (cwV 2 hts gX6_clashOf_X6_clashAt rfl rfl rfl (by decide +kernel) ⟨Nat.le_of_ble_eq_true rfl, Nat.le_of_ble_eq_true rfl⟩) [0, 1, 2, 3] rfl rfl 0 rfl rfl rfl rfl (Nat.le_of_ble_eq_true rfl) dX6_clashOf_44 (by decide) (fun r w1 H locs hp hw1 => ?_)
          obtain ⟨rfl, rfl⟩ := hp
          have hw : WD D A s.heap [(mx, .inr (6, [.int (nI n), .ref m1, .ref m2, .ref m3, .ref m4, .int (nI nl), .ref m5, .ref m6, .ref m7, .ref m8, .ref m9, .int (nI c2), .ref m10])), (m1, .inl (cI, 16, .inl (iA oo))), (m2, .inl (cI, 16, .inl (iA ii))), (m9, .inl (cI, 17, .inl (iA s2)))] H locs := hw1 rfl
          have hcl := clR_lt (ss := s2) (n := n) (ct := c2) (wy := w9) (k := fs (crP oo ii s2 n c2 w9) n) hoo hii n
          refine lv_iload_n hx hb dX6_clashOf_47 rfl (lv_at hl 0 rfl) ?_
          refine lv_ishr hx hb dX6_clashOf_48 ?_
          refine cv_i (show (nI (clR oo ii s2 n c2 w9 (fs (crP oo ii s2 n c2 w9) n) n)) >>> (nI i &&& 31) = nI ((clR oo ii s2 n c2 w9 (fs (crP oo ii s2 n c2 w9) n) n) >>> i) from q_shr (clR oo ii s2 n c2 w9 (fs (crP oo ii s2 n c2 w9) n) n) i (by omega) (by first | omega | assumption)) ?_
          refine lv_iconst (v := nI 1) hx hb dX6_clashOf_49 (by decide) ?_
          refine lv_iand hx hb dX6_clashOf_50 ?_
          refine cv_i (show nI ((clR oo ii s2 n c2 w9 (fs (crP oo ii s2 n c2 w9) n) n) >>> i) &&& nI 1 = bI ((clR oo ii s2 n c2 w9 (fs (crP oo ii s2 n c2 w9) n) n).testBit i) from q_bit (clR oo ii s2 n c2 w9 (fs (crP oo ii s2 n c2 w9) n) n) i) ?_
          refine lv_iconst (v := nI 1) hx hb dX6_clashOf_51 (by decide) ?_
          refine lv_icmp_ne (tgt := 57) hx hb dX6_clashOf_52 (by decide) (fun c_52 => ?_) (fun c_52 => ?_)
          · skip
            rw [q_b1] at c_52; try simp only [Bool.not_eq_false, Bool.not_eq_true] at c_52
            refine lv_iinc (v := nI (i + 1)) (lv' := [(3, .int (nI (i + 1))), (2, .int (fsI (crP oo ii s2 n c2 w9) n)), (0, .ref mx), (1, .int (nI w9))]) hx hb dX6_clashOf_57 hl (k := 0) rfl (nI_add i 1) (by decide) rfl (fun ls hl => ?_)
            refine lv_goto (tgt := 30) hx hb dX6_clashOf_60 (by decide) ?_
            exact ih_30 (i + 1) (by show 6 - (i + 1) < 6 - i; omega) ⟨(show (i + 1) ≤ 6 from by omega), (show ∀ j, j < (i + 1) → (clR oo ii s2 n c2 w9 (fs (crP oo ii s2 n c2 w9) n) n).testBit j = false from lt_snoc (P := fun c => (clR oo ii s2 n c2 w9 (fs (crP oo ii s2 n c2 w9) n) n).testBit c) hq c_52)⟩ _ _ _ hw (lv_sub hl [0, 1, 2, 3] rfl)
          · skip
            rw [q_b1] at c_52; try simp only [Bool.not_eq_false, Bool.not_eq_true] at c_52
            refine lv_iload_n hx hb dX6_clashOf_55 rfl (lv_at hl 0 rfl) ?_
            exact x_iret X hw (⟨s2, c2, (hb2), (Or.inl hc2), (by rw [gd2_t c_6, gd1_t hs, nc w9 (by omega), ← hc2, ← crO_congr hs3 hw9]; unfold crO; rw [if_pos hk1, fsI_yes (P := fun c => (clR oo ii s2 n c2 w9 (fs (crP oo ii s2 n c2 w9) n) n).testBit c) (k := i) (by omega) hq c_52]), rfl⟩) dX6_clashOf_56
    · skip
      rw [q_b0] at c_16; try simp only [Bool.not_eq_false, Bool.not_eq_true] at c_16
      have hs := of_decide_eq_false c_16
      refine lv_bipush (v := (-3)) hx hb dX6_clashOf_19 (by decide) ?_
      exact x_iret X hw (⟨s2, ct, (hb2), (Or.inr rfl), (by rw [gd2_t c_6, gd1_f hs]), rfl⟩) dX6_clashOf_21
  · skip
    rw [q_b0] at c_6; try simp only [Bool.not_eq_false, Bool.not_eq_true] at c_6
    refine lv_bipush (v := (-2)) hx hb dX6_clashOf_9 (by decide) ?_
    exact x_iret X hw (⟨ss, ct, (hss), (Or.inr rfl), ((gd2_f c_6).symm), rfl⟩) dX6_clashOf_11
set_option maxHeartbeats 4000000 in
set_option maxRecDepth 100000 in
theorem c_X6_groups (l : Launch) (D : va_G) (cI cZ : ClassId) (mx : Nat) (m1 : Nat) (m2 : Nat) (m3 : Nat) (m4 : Nat) (m5 : Nat) (m6 : Nat) (m7 : Nat) (m8 : Nat) (m9 : Nat) (m10 : Nat) (n : Nat) (nl : Nat) (ct : Nat) (oo : Nat → Nat) (ii : Nat → Nat) (ss : Nat → Nat) (hn : n ≤ 16) (hoo : ∀ k, oo k < 64) (hii : ∀ k, ii k < 64) (hss : ∀ k, ss k < 64) : MI l D cI cZ yX6_groups wsX6_groups ({ frames := 2, cells := 0, slots := 0, locals := 48 }) [.ref mx] [(mx, .inr (6, [.int (nI n), .ref m1, .ref m2, .ref m3, .ref m4, .int (nI nl), .ref m5, .ref m6, .ref m7, .ref m8, .ref m9, .int (nI ct), .ref m10])), (m1, .inl (cI, 16, .inl (iA oo))), (m2, .inl (cI, 16, .inl (iA ii))), (m9, .inl (cI, 17, .inl (iA ss)))] (fun r w => ∃ s9 : Nat → Nat, ∃ c9 : Nat, (∀ k, s9 k < 64) ∧ (c9 = fcF oo ii n (1 <<< n - 1) ∨ c9 = ct) ∧ r = (gd1 (fwR oo ii n) (nI (popc (fcF oo ii n (1 <<< n - 1))))) ∧ w = [(mx, .inr (6, [.int (nI n), .ref m1, .ref m2, .ref m3, .ref m4, .int (nI nl), .ref m5, .ref m6, .ref m7, .ref m8, .ref m9, .int (nI c9), .ref m10])), (m1, .inl (cI, 16, .inl (iA oo))), (m2, .inl (cI, 16, .inl (iA ii))), (m9, .inl (cI, 17, .inl (iA s9)))]) := by
  refine MI.of (cc := cX6_groups) (maxL := 1) (ret := (some .int)) (own := RX6) (by decide) rfl rfl (Nat.le_of_ble_eq_true rfl) ?_
  intro pQ eQ s mQ args below meth cQ A X hw ls hl
  obtain ⟨⟨hx, hb, hml, hown, hts⟩, hr, hlk, hK, hN, hA⟩ := id X
  have hl : lv_has ls 1 [(0, .ref mx)] := hl
  have n6 : ∀ w ∈ wsX60, w ∈ wsX6_groups := by decide +kernel
  have f65 : FF args s RX6 wsX6_groups 65 6 11 := ⟨_, rfl, by decide, n6, hts (.fieldLink RX6 65 "AirStepsModel" "cuts" "I") (by decide +kernel)⟩
  refine lv_aload_n hx hb dX6_groups_0 rfl (lv_at hl 0 rfl) ?_
  refine x_callV (As := []) (rest := []) X hw hl.1 (c_X6_isSound l D cI cZ mx m1 m2 m3 m4 m5 m6 m7 m8 m9 m10 n nl ct oo ii ss (by first | assumption | omega) (by first | assumption | omega) (by first | assumption | omega) (by first | assumption | omega)) (cwV 0 hts gX6_groups_X6_isSound rfl rfl rfl (by decide +kernel) ⟨Nat.le_of_ble_eq_true rfl, Nat.le_of_ble_eq_true rfl⟩) [0, 1, 2, 3] rfl rfl 0 rfl rfl rfl rfl (Nat.le_of_ble_eq_true rfl) dX6_groups_1 (by decide) (fun r w1 H locs hp hw1 => ?_)
  obtain ⟨s2, hs2, hb2, rfl, rfl⟩ := hp
  have hw : WD D A s.heap [(mx, .inr (6, [.int (nI n), .ref m1, .ref m2, .ref m3, .ref m4, .int (nI nl), .ref m5, .ref m6, .ref m7, .ref m8, .ref m9, .int (nI ct), .ref m10])), (m1, .inl (cI, 16, .inl (iA oo))), (m2, .inl (cI, 16, .inl (iA ii))), (m9, .inl (cI, 17, .inl (iA s2)))] H locs := hw1 rfl
  refine lv_if_ne (tgt := 10) hx hb dX6_groups_4 (by decide) (fun c_4 => ?_) (fun c_4 => ?_)
  · skip
    rw [q_b0] at c_4; try simp only [Bool.not_eq_false, Bool.not_eq_true] at c_4
    have hs := of_decide_eq_true c_4
    have hn0 := fwR_pos hs
    have hs3 := hs2 hs
    refine lv_aload_n hx hb dX6_groups_10 rfl (lv_at hl 0 rfl) ?_
    refine x_callVv (As := []) (rest := []) X hw hl.1 (c_X6_findCuts l D cI cZ mx m1 m2 m3 m4 m5 m6 m7 m8 m9 m10 n nl ct oo ii (by first | assumption | omega) (by first | assumption | omega) (by first | assumption | omega) (by first | assumption | omega)) (cwV 0 hts gX6_groups_X6_findCuts rfl rfl rfl (by decide +kernel) ⟨Nat.le_of_ble_eq_true rfl, Nat.le_of_ble_eq_true rfl⟩) [0, 1, 2] rfl rfl 0 rfl rfl rfl rfl (Nat.le_of_ble_eq_true rfl) dX6_groups_11 (by decide) (fun w1 H locs hp hw1 => ?_)
    obtain ⟨c2, hc2, rfl⟩ := hp
    have hw : WD D A s.heap [(mx, .inr (6, [.int (nI n), .ref m1, .ref m2, .ref m3, .ref m4, .int (nI nl), .ref m5, .ref m6, .ref m7, .ref m8, .ref m9, .int (nI c2), .ref m10])), (m1, .inl (cI, 16, .inl (iA oo))), (m2, .inl (cI, 16, .inl (iA ii))), (m9, .inl (cI, 17, .inl (iA s2)))] H locs := hw1 rfl
    have hcb := fcF_bd (oo := oo) (ii := ii) hn0 (1 <<< n - 1) (by have := shn2 hn0; omega)
    rw [← hc2] at hcb
    have hsn := shn hn
    refine lv_aload_n hx hb dX6_groups_14 rfl (lv_at hl 0 rfl) ?_
    refine x_get X hw f65 0 rfl rfl dX6_groups_15 ?_
    refine x_callS (As := [.int (nI c2)]) (rest := []) X hw hl.1 (c_X6_ones l D cI cZ c2 (by first | assumption | omega)) (va_cwS 1 hts gX6_groups_X6_ones rfl rfl rfl (by decide +kernel) ⟨Nat.le_of_ble_eq_true rfl, Nat.le_of_ble_eq_true rfl⟩) [] rfl rfl rfl (Nat.le_of_ble_eq_true rfl) dX6_groups_18 (by decide) (fun r w1 H locs hp hw1 => ?_)
    obtain ⟨rfl, rfl⟩ := hp
    have hw : WD D A s.heap [(mx, .inr (6, [.int (nI n), .ref m1, .ref m2, .ref m3, .ref m4, .int (nI nl), .ref m5, .ref m6, .ref m7, .ref m8, .ref m9, .int (nI c2), .ref m10])), (m1, .inl (cI, 16, .inl (iA oo))), (m2, .inl (cI, 16, .inl (iA ii))), (m9, .inl (cI, 17, .inl (iA s2)))] H locs := hw1 rfl
    exact x_iret X hw (⟨s2, c2, (hb2), (Or.inl hc2), (by rw [gd1_t hs, hc2]), rfl⟩) dX6_groups_21
  · skip
    rw [q_b0] at c_4; try simp only [Bool.not_eq_false, Bool.not_eq_true] at c_4
    have hs := of_decide_eq_false c_4
    refine lv_bipush (v := (-3)) hx hb dX6_groups_7 (by decide) ?_
    exact x_iret X hw (⟨s2, ct, (hb2), (Or.inr rfl), ((gd1_f hs).symm), rfl⟩) dX6_groups_9
set_option maxHeartbeats 4000000 in
set_option maxRecDepth 100000 in
theorem c_X6_cut (l : Launch) (D : va_G) (cI cZ : ClassId) (mx : Nat) (m1 : Nat) (m2 : Nat) (m3 : Nat) (m4 : Nat) (m5 : Nat) (m6 : Nat) (m7 : Nat) (m8 : Nat) (m9 : Nat) (m10 : Nat) (n : Nat) (nl : Nat) (ct : Nat) (oo : Nat → Nat) (ii : Nat → Nat) (ss : Nat → Nat) (x : Int32) (hn : n ≤ 16) (hoo : ∀ k, oo k < 64) (hii : ∀ k, ii k < 64) (hss : ∀ k, ss k < 64) : MI l D cI cZ yX6_cut wsX6_cut ({ frames := 2, cells := 0, slots := 0, locals := 48 }) [.ref mx, .int x] [(mx, .inr (6, [.int (nI n), .ref m1, .ref m2, .ref m3, .ref m4, .int (nI nl), .ref m5, .ref m6, .ref m7, .ref m8, .ref m9, .int (nI ct), .ref m10])), (m1, .inl (cI, 16, .inl (iA oo))), (m2, .inl (cI, 16, .inl (iA ii))), (m9, .inl (cI, 17, .inl (iA ss)))] (fun r w => ∃ s9 : Nat → Nat, ∃ c9 : Nat, (∀ k, s9 k < 64) ∧ (c9 = fcF oo ii n (1 <<< n - 1) ∨ c9 = ct) ∧ r = (if x < 0 then -2 else gd1 (fwR oo ii n) (cutL (fcF oo ii n (1 <<< n - 1)) n n 0 x.toNatClampNeg)) ∧ w = [(mx, .inr (6, [.int (nI n), .ref m1, .ref m2, .ref m3, .ref m4, .int (nI nl), .ref m5, .ref m6, .ref m7, .ref m8, .ref m9, .int (nI c9), .ref m10])), (m1, .inl (cI, 16, .inl (iA oo))), (m2, .inl (cI, 16, .inl (iA ii))), (m9, .inl (cI, 17, .inl (iA s9)))]) := by
  refine MI.of (cc := cX6_cut) (maxL := 4) (ret := (some .int)) (own := RX6) (by decide) rfl rfl (Nat.le_of_ble_eq_true rfl) ?_
  intro pQ eQ s mQ args below meth cQ A X hw ls hl
  obtain ⟨⟨hx, hb, hml, hown, hts⟩, hr, hlk, hK, hN, hA⟩ := id X
  have hl : lv_has ls 4 [(0, .ref mx), (1, .int x)] := hl
  have n6 : ∀ w ∈ wsX60, w ∈ wsX6_cut := by decide +kernel
  have f45 : FF args s RX6 wsX6_cut 45 6 0 := ⟨_, rfl, by decide, n6, hts (.fieldLink RX6 45 "AirStepsModel" "n" "I") (by decide +kernel)⟩
  have f65 : FF args s RX6 wsX6_cut 65 6 11 := ⟨_, rfl, by decide, n6, hts (.fieldLink RX6 65 "AirStepsModel" "cuts" "I") (by decide +kernel)⟩
  refine lv_iload_n hx hb dX6_cut_0 rfl (lv_at hl 1 rfl) ?_
  refine lv_if_ge (tgt := 7) hx hb dX6_cut_1 (by decide) (fun c_1 => ?_) (fun c_1 => ?_)
  · skip
    have c_1 : ¬ x < 0 := Int32.not_lt.mpr c_1
    obtain ⟨k9, hk9, rfl⟩ := nI_of c_1
    refine lv_aload_n hx hb dX6_cut_7 rfl (lv_at hl 0 rfl) ?_
    refine x_callV (As := []) (rest := []) X hw hl.1 (c_X6_isSound l D cI cZ mx m1 m2 m3 m4 m5 m6 m7 m8 m9 m10 n nl ct oo ii ss (by first | assumption | omega) (by first | assumption | omega) (by first | assumption | omega) (by first | assumption | omega)) (cwV 0 hts gX6_cut_X6_isSound rfl rfl rfl (by decide +kernel) ⟨Nat.le_of_ble_eq_true rfl, Nat.le_of_ble_eq_true rfl⟩) [0, 1, 2, 3] rfl rfl 0 rfl rfl rfl rfl (Nat.le_of_ble_eq_true rfl) dX6_cut_8 (by decide) (fun r w1 H locs hp hw1 => ?_)
    obtain ⟨s2, hs2, hb2, rfl, rfl⟩ := hp
    have hw : WD D A s.heap [(mx, .inr (6, [.int (nI n), .ref m1, .ref m2, .ref m3, .ref m4, .int (nI nl), .ref m5, .ref m6, .ref m7, .ref m8, .ref m9, .int (nI ct), .ref m10])), (m1, .inl (cI, 16, .inl (iA oo))), (m2, .inl (cI, 16, .inl (iA ii))), (m9, .inl (cI, 17, .inl (iA s2)))] H locs := hw1 rfl
    refine lv_if_ne (tgt := 17) hx hb dX6_cut_11 (by decide) (fun c_11 => ?_) (fun c_11 => ?_)
    · skip
      rw [q_b0] at c_11; try simp only [Bool.not_eq_false, Bool.not_eq_true] at c_11
      have hs := of_decide_eq_true c_11
      have hn0 := fwR_pos hs
      have hs3 := hs2 hs
      refine lv_aload_n hx hb dX6_cut_17 rfl (lv_at hl 0 rfl) ?_
      refine x_callVv (As := []) (rest := []) X hw hl.1 (c_X6_findCuts l D cI cZ mx m1 m2 m3 m4 m5 m6 m7 m8 m9 m10 n nl ct oo ii (by first | assumption | omega) (by first | assumption | omega) (by first | assumption | omega) (by first | assumption | omega)) (cwV 0 hts gX6_cut_X6_findCuts rfl rfl rfl (by decide +kernel) ⟨Nat.le_of_ble_eq_true rfl, Nat.le_of_ble_eq_true rfl⟩) [0, 1, 2] rfl rfl 0 rfl rfl rfl rfl (Nat.le_of_ble_eq_true rfl) dX6_cut_18 (by decide) (fun w1 H locs hp hw1 => ?_)
      obtain ⟨c2, hc2, rfl⟩ := hp
      have hw : WD D A s.heap [(mx, .inr (6, [.int (nI n), .ref m1, .ref m2, .ref m3, .ref m4, .int (nI nl), .ref m5, .ref m6, .ref m7, .ref m8, .ref m9, .int (nI c2), .ref m10])), (m1, .inl (cI, 16, .inl (iA oo))), (m2, .inl (cI, 16, .inl (iA ii))), (m9, .inl (cI, 17, .inl (iA s2)))] H locs := hw1 rfl
      have hcb := fcF_bd (oo := oo) (ii := ii) hn0 (1 <<< n - 1) (by have := shn2 hn0; omega)
      rw [← hc2] at hcb
      have hsn := shn hn
      refine lv_iload_n hx hb dX6_cut_21 rfl (lv_at hl 1 rfl) ?_
      refine lv_istore_n (lv' := [(2, .int (nI k9)), (0, .ref mx), (1, .int (nI k9))]) hx hb dX6_cut_22 rfl hl (by decide) rfl (fun ls hl => ?_)
      refine lv_iconst (v := nI 0) hx hb dX6_cut_23 (by decide) ?_
      refine lv_istore_n (lv' := [(3, .int (nI 0)), (2, .int (nI k9)), (0, .ref mx), (1, .int (nI k9))]) hx hb dX6_cut_24 rfl hl (by decide) rfl (fun ls hl => ?_)
      refine wl (α := Nat × Nat) (nL := 4) (fun aQ => n - aQ.2) (fun aQ => (aQ.2 ≤ n) ∧ (aQ.1 < 2 ^ 31) ∧ (cutL c2 n n 0 k9 = cutL c2 n (n - aQ.2) aQ.2 aQ.1)) (fun aQ => [(mx, .inr (6, [.int (nI n), .ref m1, .ref m2, .ref m3, .ref m4, .int (nI nl), .ref m5, .ref m6, .ref m7, .ref m8, .ref m9, .int (nI c2), .ref m10])), (m1, .inl (cI, 16, .inl (iA oo))), (m2, .inl (cI, 16, .inl (iA ii))), (m9, .inl (cI, 17, .inl (iA s2)))]) (fun aQ => [(3, .int (nI aQ.2)), (2, .int (nI aQ.1)), (0, .ref mx), (1, .int (nI k9))]) ?_ (k9, 0) ⟨(show 0 ≤ n from by omega), (show k9 < 2 ^ 31 from by omega), (show cutL c2 n n 0 k9 = cutL c2 n (n - 0) 0 k9 from rfl)⟩ _ _ _ hw (lv_sub hl [0, 1, 2, 3] rfl)
      rintro ⟨re, i⟩ ⟨hi, hre, hR⟩ H locs ls hw hl ih_25
      have hi : i ≤ n := hi
      have hre : re < 2 ^ 31 := hre
      have hR : cutL c2 n n 0 k9 = cutL c2 n (n - i) i re := hR
      have hw : WD D A s.heap [(mx, .inr (6, [.int (nI n), .ref m1, .ref m2, .ref m3, .ref m4, .int (nI nl), .ref m5, .ref m6, .ref m7, .ref m8, .ref m9, .int (nI c2), .ref m10])), (m1, .inl (cI, 16, .inl (iA oo))), (m2, .inl (cI, 16, .inl (iA ii))), (m9, .inl (cI, 17, .inl (iA s2)))] H locs := hw
      have hl : lv_has ls 4 [(3, .int (nI i)), (2, .int (nI re)), (0, .ref mx), (1, .int (nI k9))] := hl
      refine lv_iload_n hx hb dX6_cut_25 rfl (lv_at hl 0 rfl) ?_
      refine lv_aload_n hx hb dX6_cut_26 rfl (lv_at hl 2 rfl) ?_
      refine x_get X hw f45 0 rfl rfl dX6_cut_27 ?_
      refine lv_icmp_ge (tgt := 60) hx hb dX6_cut_30 (by decide) (fun c_30 => ?_) (fun c_30 => ?_)
      · skip
        rw [nI_leI (by omega) (by omega)] at c_30
        refine lv_bipush (v := (-2)) hx hb dX6_cut_60 (by decide) ?_
        exact x_iret X hw (⟨s2, c2, (hb2), (Or.inl hc2), (by rw [if_neg c_1, gd1_t hs, nc k9 hk9, ← hc2, hR, show n - i = 0 by omega]; rfl), rfl⟩) dX6_cut_62
      · skip
        rw [nI_leI (by omega) (by omega)] at c_30
        refine lv_aload_n hx hb dX6_cut_33 rfl (lv_at hl 2 rfl) ?_
        refine x_get X hw f65 0 rfl rfl dX6_cut_34 ?_
        refine lv_iload_n hx hb dX6_cut_37 rfl (lv_at hl 0 rfl) ?_
        refine lv_ishr hx hb dX6_cut_38 ?_
        refine cv_i (show (nI c2) >>> (nI i &&& 31) = nI (c2 >>> i) from q_shr c2 i (by first | omega | assumption) (by first | omega | assumption)) ?_
        refine lv_iconst (v := nI 1) hx hb dX6_cut_39 (by decide) ?_
        refine lv_iand hx hb dX6_cut_40 ?_
        refine cv_i (show nI (c2 >>> i) &&& nI 1 = bI (c2.testBit i) from q_bit c2 i) ?_
        refine lv_iconst (v := nI 1) hx hb dX6_cut_41 (by decide) ?_
        refine lv_icmp_ne (tgt := 54) hx hb dX6_cut_42 (by decide) (fun c_42 => ?_) (fun c_42 => ?_)
        · skip
          rw [q_b1] at c_42; try simp only [Bool.not_eq_false, Bool.not_eq_true] at c_42
          refine lv_iinc (v := nI (i + 1)) (lv' := [(3, .int (nI (i + 1))), (2, .int (nI re)), (0, .ref mx), (1, .int (nI k9))]) hx hb dX6_cut_54 hl (k := 0) rfl (nI_add i 1) (by decide) rfl (fun ls hl => ?_)
          refine lv_goto (tgt := 25) hx hb dX6_cut_57 (by decide) ?_
          exact ih_25 (re, i + 1) (by show n - (i + 1) < n - i; omega) ⟨(show (i + 1) ≤ n from by omega), (show re < 2 ^ 31 from by omega), (show cutL c2 n n 0 k9 = cutL c2 n (n - (i + 1)) (i + 1) re from by rw [hR, show n - i = n - (i + 1) + 1 by omega, cutL_s]; first | (rw [if_pos c_42, if_neg c_46]; done) | (rw [c_42]; rfl))⟩ _ _ _ hw (lv_sub hl [0, 1, 2, 3] rfl)
        · skip
          rw [q_b1] at c_42; try simp only [Bool.not_eq_false, Bool.not_eq_true] at c_42
          refine lv_iload_n hx hb dX6_cut_45 rfl (lv_at hl 1 rfl) ?_
          refine lv_if_ne (tgt := 51) hx hb dX6_cut_46 (by decide) (fun c_46 => ?_) (fun c_46 => ?_)
          · skip
            rw [q_eq0 (by omega)] at c_46
            refine lv_iinc (v := nI (re - 1)) (lv' := [(2, .int (nI (re - 1))), (3, .int (nI i)), (0, .ref mx), (1, .int (nI k9))]) hx hb dX6_cut_51 hl (k := 1) rfl (q_dec (by first | omega | assumption)) (by decide) rfl (fun ls hl => ?_)
            refine lv_iinc (v := nI (i + 1)) (lv' := [(3, .int (nI (i + 1))), (2, .int (nI (re - 1))), (0, .ref mx), (1, .int (nI k9))]) hx hb dX6_cut_54 hl (k := 1) rfl (nI_add i 1) (by decide) rfl (fun ls hl => ?_)
            refine lv_goto (tgt := 25) hx hb dX6_cut_57 (by decide) ?_
            exact ih_25 (re - 1, i + 1) (by show n - (i + 1) < n - i; omega) ⟨(show (i + 1) ≤ n from by omega), (show (re - 1) < 2 ^ 31 from by omega), (show cutL c2 n n 0 k9 = cutL c2 n (n - (i + 1)) (i + 1) (re - 1) from by rw [hR, show n - i = n - (i + 1) + 1 by omega, cutL_s]; first | (rw [if_pos c_42, if_neg c_46]; done) | (rw [c_42]; rfl))⟩ _ _ _ hw (lv_sub hl [0, 1, 2, 3] rfl)
          · skip
            rw [q_eq0 (by omega)] at c_46
            refine lv_iload_n hx hb dX6_cut_49 rfl (lv_at hl 0 rfl) ?_
            exact x_iret X hw (⟨s2, c2, (hb2), (Or.inl hc2), (by rw [if_neg c_1, gd1_t hs, nc k9 hk9, ← hc2, hR, show n - i = n - (i + 1) + 1 by omega, cutL_s, if_pos c_42, if_pos c_46]), rfl⟩) dX6_cut_50
    · skip
      rw [q_b0] at c_11; try simp only [Bool.not_eq_false, Bool.not_eq_true] at c_11
      have hs := of_decide_eq_false c_11
      refine lv_bipush (v := (-3)) hx hb dX6_cut_14 (by decide) ?_
      exact x_iret X hw (⟨s2, ct, (hb2), (Or.inr rfl), (by rw [if_neg c_1, gd1_f hs]), rfl⟩) dX6_cut_16
  · skip
    have c_1 : x < 0 := Int32.not_le.mp c_1
    refine lv_bipush (v := (-2)) hx hb dX6_cut_4 (by decide) ?_
    exact x_iret X hw (⟨ss, ct, (hss), (Or.inr rfl), ((if_pos c_1).symm), rfl⟩) dX6_cut_6
set_option maxHeartbeats 4000000 in
set_option maxRecDepth 100000 in
theorem c_X6_memories (l : Launch) (D : va_G) (cI cZ : ClassId) (mx : Nat) (m1 : Nat) (m2 : Nat) (m3 : Nat) (m4 : Nat) (m5 : Nat) (m6 : Nat) (m7 : Nat) (m8 : Nat) (m9 : Nat) (m10 : Nat) (n : Nat) (nl : Nat) (ct : Nat) (oo : Nat → Nat) (ii : Nat → Nat) (ss : Nat → Nat) (hn : n ≤ 16) (hoo : ∀ k, oo k < 64) (hii : ∀ k, ii k < 64) (hss : ∀ k, ss k < 64) : MI l D cI cZ yX6_memories wsX6_memories ({ frames := 2, cells := 0, slots := 0, locals := 41 }) [.ref mx] [(mx, .inr (6, [.int (nI n), .ref m1, .ref m2, .ref m3, .ref m4, .int (nI nl), .ref m5, .ref m6, .ref m7, .ref m8, .ref m9, .int (nI ct), .ref m10])), (m1, .inl (cI, 16, .inl (iA oo))), (m2, .inl (cI, 16, .inl (iA ii))), (m9, .inl (cI, 17, .inl (iA ss)))] (fun r w => ∃ s9 : Nat → Nat, (∀ k, s9 k < 64) ∧ r = (gd1 (fwR oo ii n) (nI (memN (mal (sst oo ii) n n)))) ∧ w = [(mx, .inr (6, [.int (nI n), .ref m1, .ref m2, .ref m3, .ref m4, .int (nI nl), .ref m5, .ref m6, .ref m7, .ref m8, .ref m9, .int (nI ct), .ref m10])), (m1, .inl (cI, 16, .inl (iA oo))), (m2, .inl (cI, 16, .inl (iA ii))), (m9, .inl (cI, 17, .inl (iA s9)))]) := by
  refine MI.of (cc := cX6_memories) (maxL := 5) (ret := (some .int)) (own := RX6) (by decide) rfl rfl (Nat.le_of_ble_eq_true rfl) ?_
  intro pQ eQ s mQ args below meth cQ A X hw ls hl
  obtain ⟨⟨hx, hb, hml, hown, hts⟩, hr, hlk, hK, hN, hA⟩ := id X
  have hl : lv_has ls 5 [(0, .ref mx)] := hl
  have n6 : ∀ w ∈ wsX60, w ∈ wsX6_memories := by decide +kernel
  have f35 : FF args s RX6 wsX6_memories 35 6 10 := ⟨_, rfl, by decide, n6, hts (.fieldLink RX6 35 "AirStepsModel" "states" "[I") (by decide +kernel)⟩
  have f45 : FF args s RX6 wsX6_memories 45 6 0 := ⟨_, rfl, by decide, n6, hts (.fieldLink RX6 45 "AirStepsModel" "n" "I") (by decide +kernel)⟩
  refine lv_aload_n hx hb dX6_memories_0 rfl (lv_at hl 0 rfl) ?_
  refine x_callV (As := []) (rest := []) X hw hl.1 (c_X6_isSound l D cI cZ mx m1 m2 m3 m4 m5 m6 m7 m8 m9 m10 n nl ct oo ii ss (by first | assumption | omega) (by first | assumption | omega) (by first | assumption | omega) (by first | assumption | omega)) (cwV 0 hts gX6_memories_X6_isSound rfl rfl rfl (by decide +kernel) ⟨Nat.le_of_ble_eq_true rfl, Nat.le_of_ble_eq_true rfl⟩) [0, 1, 2, 3] rfl rfl 0 rfl rfl rfl rfl (Nat.le_of_ble_eq_true rfl) dX6_memories_1 (by decide) (fun r w1 H locs hp hw1 => ?_)
  obtain ⟨s2, hs2, hb2, rfl, rfl⟩ := hp
  have hw : WD D A s.heap [(mx, .inr (6, [.int (nI n), .ref m1, .ref m2, .ref m3, .ref m4, .int (nI nl), .ref m5, .ref m6, .ref m7, .ref m8, .ref m9, .int (nI ct), .ref m10])), (m1, .inl (cI, 16, .inl (iA oo))), (m2, .inl (cI, 16, .inl (iA ii))), (m9, .inl (cI, 17, .inl (iA s2)))] H locs := hw1 rfl
  refine lv_if_ne (tgt := 10) hx hb dX6_memories_4 (by decide) (fun c_4 => ?_) (fun c_4 => ?_)
  · skip
    rw [q_b0] at c_4; try simp only [Bool.not_eq_false, Bool.not_eq_true] at c_4
    have hs := of_decide_eq_true c_4
    have hn0 := fwR_pos hs
    have hs3 := hs2 hs
    refine lv_iconst (v := nI 0) hx hb dX6_memories_10 (by decide) ?_
    refine lv_istore_n (lv' := [(1, .int (nI 0)), (0, .ref mx)]) hx hb dX6_memories_11 rfl hl (by decide) rfl (fun ls hl => ?_)
    refine lv_iconst (v := nI 0) hx hb dX6_memories_12 (by decide) ?_
    refine lv_istore_n (lv' := [(2, .int (nI 0)), (1, .int (nI 0)), (0, .ref mx)]) hx hb dX6_memories_13 rfl hl (by decide) rfl (fun ls hl => ?_)
    refine wl (α := Nat × Nat) (nL := 5) (fun aQ => n - aQ.2) (fun aQ => (aQ.2 ≤ n) ∧ (aQ.1 = mal (sst oo ii) n aQ.2) ∧ (aQ.1 ≤ n)) (fun aQ => [(mx, .inr (6, [.int (nI n), .ref m1, .ref m2, .ref m3, .ref m4, .int (nI nl), .ref m5, .ref m6, .ref m7, .ref m8, .ref m9, .int (nI ct), .ref m10])), (m1, .inl (cI, 16, .inl (iA oo))), (m2, .inl (cI, 16, .inl (iA ii))), (m9, .inl (cI, 17, .inl (iA s2)))]) (fun aQ => [(2, .int (nI aQ.2)), (1, .int (nI aQ.1)), (0, .ref mx)]) ?_ (0, 0) ⟨(show 0 ≤ n from by omega), (show 0 = mal (sst oo ii) n 0 from rfl), (show 0 ≤ n from by omega)⟩ _ _ _ hw (lv_sub hl [0, 1, 2] rfl)
    rintro ⟨a, i⟩ ⟨hi, ha, hab⟩ H locs ls hw hl ih_14
    have hi : i ≤ n := hi
    have ha : a = mal (sst oo ii) n i := ha
    have hab : a ≤ n := hab
    have hw : WD D A s.heap [(mx, .inr (6, [.int (nI n), .ref m1, .ref m2, .ref m3, .ref m4, .int (nI nl), .ref m5, .ref m6, .ref m7, .ref m8, .ref m9, .int (nI ct), .ref m10])), (m1, .inl (cI, 16, .inl (iA oo))), (m2, .inl (cI, 16, .inl (iA ii))), (m9, .inl (cI, 17, .inl (iA s2)))] H locs := hw
    have hl : lv_has ls 5 [(2, .int (nI i)), (1, .int (nI a)), (0, .ref mx)] := hl
    refine lv_iload_n hx hb dX6_memories_14 rfl (lv_at hl 0 rfl) ?_
    refine lv_aload_n hx hb dX6_memories_15 rfl (lv_at hl 2 rfl) ?_
    refine x_get X hw f45 0 rfl rfl dX6_memories_16 ?_
    refine lv_icmp_ge (tgt := 83) hx hb dX6_memories_19 (by decide) (fun c_19 => ?_) (fun c_19 => ?_)
    · skip
      rw [nI_leI (by omega) (by omega)] at c_19
      have hmn9 : a = mal (sst oo ii) n n := by rw [ha, show i = n by omega]
      have hmn : a ≤ 16 := by omega
      refine lv_iconst (v := nI 0) hx hb dX6_memories_83 (by decide) ?_
      refine lv_istore_n (lv' := [(2, .int (nI 0)), (1, .int (nI a)), (0, .ref mx)]) hx hb dX6_memories_84 rfl hl (by decide) rfl (fun ls hl => ?_)
      refine wl (α := Nat) (nL := 5) (fun aQ => 16 - aQ) (fun aQ => (aQ ≤ 15) ∧ (∀ j, j < aQ → decide (¬ 1 <<< j < mal (sst oo ii) n n) = false)) (fun aQ => [(mx, .inr (6, [.int (nI n), .ref m1, .ref m2, .ref m3, .ref m4, .int (nI nl), .ref m5, .ref m6, .ref m7, .ref m8, .ref m9, .int (nI ct), .ref m10])), (m1, .inl (cI, 16, .inl (iA oo))), (m2, .inl (cI, 16, .inl (iA ii))), (m9, .inl (cI, 17, .inl (iA s2)))]) (fun aQ => [(2, .int (nI aQ)), (1, .int (nI a)), (0, .ref mx)]) ?_ 0 ⟨(show 0 ≤ 15 from by omega), (show ∀ j, j < 0 → decide (¬ 1 <<< j < mal (sst oo ii) n n) = false from fun j hj => absurd hj (Nat.not_lt_zero j))⟩ _ _ _ hw (lv_sub hl [0, 1, 2] rfl)
      rintro q ⟨hq16, hq⟩ H locs ls hw hl ih_85
      have hq16 : q ≤ 15 := hq16
      have hq : ∀ j, j < q → decide (¬ 1 <<< j < mal (sst oo ii) n n) = false := hq
      have hw : WD D A s.heap [(mx, .inr (6, [.int (nI n), .ref m1, .ref m2, .ref m3, .ref m4, .int (nI nl), .ref m5, .ref m6, .ref m7, .ref m8, .ref m9, .int (nI ct), .ref m10])), (m1, .inl (cI, 16, .inl (iA oo))), (m2, .inl (cI, 16, .inl (iA ii))), (m9, .inl (cI, 17, .inl (iA s2)))] H locs := hw
      have hl : lv_has ls 5 [(2, .int (nI q)), (1, .int (nI a)), (0, .ref mx)] := hl
      refine lv_iconst (v := nI 1) hx hb dX6_memories_85 (by decide) ?_
      refine lv_iload_n hx hb dX6_memories_86 rfl (lv_at hl 0 rfl) ?_
      refine lv_ishl hx hb dX6_memories_87 ?_
      refine cv_i (show (nI 1) <<< (nI q &&& 31) = nI (1 <<< q) from q_shl 1 q (by first | omega | assumption)) ?_
      refine lv_iload_n hx hb dX6_memories_88 rfl (lv_at hl 1 rfl) ?_
      refine lv_icmp_ge (tgt := 98) hx hb dX6_memories_89 (by decide) (fun c_89 => ?_) (fun c_89 => ?_)
      · skip
        rw [nI_leI (by omega) (sh_lt (by omega))] at c_89
        refine lv_iload_n hx hb dX6_memories_98 rfl (lv_at hl 0 rfl) ?_
        exact x_iret X hw (⟨s2, (hb2), (by rw [gd1_t hs]; refine congrArg nI (Eq.symm ?_); unfold memN; refine fs_eq (by omega) hq (Or.inr ?_); rw [← hmn9]; simp; omega), rfl⟩) dX6_memories_99
      · skip
        rw [nI_leI (by omega) (sh_lt (by omega))] at c_89
        refine lv_iinc (v := nI (q + 1)) (lv' := [(2, .int (nI (q + 1))), (1, .int (nI a)), (0, .ref mx)]) hx hb dX6_memories_92 hl (k := 0) rfl (nI_add q 1) (by decide) rfl (fun ls hl => ?_)
        refine lv_goto (tgt := 85) hx hb dX6_memories_95 (by decide) ?_
        exact ih_85 (q + 1) (by show 16 - (q + 1) < 16 - q; omega) ⟨(show (q + 1) ≤ 15 from mem_q (by omega) hmn (by omega)), (show ∀ j, j < (q + 1) → decide (¬ 1 <<< j < mal (sst oo ii) n n) = false from lt_snoc (P := fun b => decide (¬ 1 <<< b < mal (sst oo ii) n n)) hq (by rw [← hmn9]; simp; omega))⟩ _ _ _ hw (lv_sub hl [0, 1, 2] rfl)
    · skip
      rw [nI_leI (by omega) (by omega)] at c_19
      refine lv_iconst (v := nI 0) hx hb dX6_memories_22 (by decide) ?_
      refine lv_istore_n (lv' := [(3, .int (nI 0)), (2, .int (nI i)), (1, .int (nI a)), (0, .ref mx)]) hx hb dX6_memories_23 rfl hl (by decide) rfl (fun ls hl => ?_)
      refine lv_iconst (v := nI 0) hx hb dX6_memories_24 (by decide) ?_
      refine lv_istore (lv' := [(4, .int (nI 0)), (3, .int (nI 0)), (2, .int (nI i)), (1, .int (nI a)), (0, .ref mx)]) hx hb dX6_memories_25 hl (by decide) rfl (fun ls hl => ?_)
      refine wl (α := Nat × Nat) (nL := 5) (fun aQ => n - aQ.2) (fun aQ => (aQ.2 ≤ n) ∧ (aQ.1 = alk (sst oo ii) (sst oo ii i) aQ.2) ∧ (aQ.1 ≤ aQ.2)) (fun aQ => [(mx, .inr (6, [.int (nI n), .ref m1, .ref m2, .ref m3, .ref m4, .int (nI nl), .ref m5, .ref m6, .ref m7, .ref m8, .ref m9, .int (nI ct), .ref m10])), (m1, .inl (cI, 16, .inl (iA oo))), (m2, .inl (cI, 16, .inl (iA ii))), (m9, .inl (cI, 17, .inl (iA s2)))]) (fun aQ => [(4, .int (nI aQ.2)), (3, .int (nI aQ.1)), (2, .int (nI i)), (1, .int (nI a)), (0, .ref mx)]) ?_ (0, 0) ⟨(show 0 ≤ n from by omega), (show 0 = alk (sst oo ii) (sst oo ii i) 0 from rfl), (show 0 ≤ 0 from by omega)⟩ _ _ _ hw (lv_sub hl [0, 1, 2, 3, 4] rfl)
      rintro ⟨b, j⟩ ⟨hj, hbb, hbj⟩ H locs ls hw hl ih_27
      have hj : j ≤ n := hj
      have hbb : b = alk (sst oo ii) (sst oo ii i) j := hbb
      have hbj : b ≤ j := hbj
      have hw : WD D A s.heap [(mx, .inr (6, [.int (nI n), .ref m1, .ref m2, .ref m3, .ref m4, .int (nI nl), .ref m5, .ref m6, .ref m7, .ref m8, .ref m9, .int (nI ct), .ref m10])), (m1, .inl (cI, 16, .inl (iA oo))), (m2, .inl (cI, 16, .inl (iA ii))), (m9, .inl (cI, 17, .inl (iA s2)))] H locs := hw
      have hl : lv_has ls 5 [(4, .int (nI j)), (3, .int (nI b)), (2, .int (nI i)), (1, .int (nI a)), (0, .ref mx)] := hl
      refine lv_iload hx hb dX6_memories_27 (lv_at hl 0 rfl) ?_
      refine lv_aload_n hx hb dX6_memories_29 rfl (lv_at hl 4 rfl) ?_
      refine x_get X hw f45 0 rfl rfl dX6_memories_30 ?_
      refine lv_icmp_ge (tgt := 66) hx hb dX6_memories_33 (by decide) (fun c_33 => ?_) (fun c_33 => ?_)
      · skip
        rw [nI_leI (by omega) (by omega)] at c_33
        have hjn : j = n := by omega
        have hl9 : b = alk (sst oo ii) (sst oo ii i) n := by rw [hbb, hjn]
        refine lv_iload_n hx hb dX6_memories_66 rfl (lv_at hl 1 rfl) ?_
        refine lv_iload_n hx hb dX6_memories_67 rfl (lv_at hl 3 rfl) ?_
        refine lv_icmp_le (tgt := 75) hx hb dX6_memories_68 (by decide) (fun c_68 => ?_) (fun c_68 => ?_)
        · skip
          rw [nI_leI (by omega) (by omega)] at c_68
          refine lv_iload_n hx hb dX6_memories_75 rfl (lv_at hl 3 rfl) ?_
          refine lv_istore_n (lv' := [(1, .int (nI a)), (4, .int (nI j)), (3, .int (nI b)), (2, .int (nI i)), (0, .ref mx)]) hx hb dX6_memories_76 rfl hl (by decide) rfl (fun ls hl => ?_)
          refine lv_iinc (v := nI (i + 1)) (lv' := [(2, .int (nI (i + 1))), (1, .int (nI a)), (4, .int (nI j)), (3, .int (nI b)), (0, .ref mx)]) hx hb dX6_memories_77 hl (k := 3) rfl (nI_add i 1) (by decide) rfl (fun ls hl => ?_)
          refine lv_goto (tgt := 14) hx hb dX6_memories_80 (by decide) ?_
          exact ih_14 (a, i + 1) (by show n - (i + 1) < n - i; omega) ⟨(show (i + 1) ≤ n from by omega), (show a = mal (sst oo ii) n (i + 1) from by show _ = max (mal (sst oo ii) n i) (alk (sst oo ii) (sst oo ii i) n); rw [← ha, ← hl9]; omega), (show a ≤ n from by omega)⟩ _ _ _ hw (lv_sub hl [0, 1, 4] rfl)
        · skip
          rw [nI_leI (by omega) (by omega)] at c_68
          refine lv_iload_n hx hb dX6_memories_71 rfl (lv_at hl 1 rfl) ?_
          refine lv_goto (tgt := 76) hx hb dX6_memories_72 (by decide) ?_
          refine lv_istore_n (lv' := [(1, .int (nI b)), (4, .int (nI j)), (3, .int (nI b)), (2, .int (nI i)), (0, .ref mx)]) hx hb dX6_memories_76 rfl hl (by decide) rfl (fun ls hl => ?_)
          refine lv_iinc (v := nI (i + 1)) (lv' := [(2, .int (nI (i + 1))), (1, .int (nI b)), (4, .int (nI j)), (3, .int (nI b)), (0, .ref mx)]) hx hb dX6_memories_77 hl (k := 3) rfl (nI_add i 1) (by decide) rfl (fun ls hl => ?_)
          refine lv_goto (tgt := 14) hx hb dX6_memories_80 (by decide) ?_
          exact ih_14 (b, i + 1) (by show n - (i + 1) < n - i; omega) ⟨(show (i + 1) ≤ n from by omega), (show b = mal (sst oo ii) n (i + 1) from by show _ = max (mal (sst oo ii) n i) (alk (sst oo ii) (sst oo ii i) n); rw [← ha, ← hl9]; omega), (show b ≤ n from by omega)⟩ _ _ _ hw (lv_sub hl [0, 1, 4] rfl)
      · skip
        rw [nI_leI (by omega) (by omega)] at c_33
        refine lv_iload_n hx hb dX6_memories_36 rfl (lv_at hl 1 rfl) ?_
        refine lv_aload_n hx hb dX6_memories_37 rfl (lv_at hl 4 rfl) ?_
        refine x_get X hw f35 0 rfl rfl dX6_memories_38 ?_
        refine lv_iload hx hb dX6_memories_41 (lv_at hl 0 rfl) ?_
        refine x_aldN X hw 3 rfl (by omega) (by omega) dX6_memories_43 ?_
        have hb_43 := hb2 j
        refine lv_aload_n hx hb dX6_memories_44 rfl (lv_at hl 4 rfl) ?_
        refine x_get X hw f35 0 rfl rfl dX6_memories_45 ?_
        refine lv_iload_n hx hb dX6_memories_48 rfl (lv_at hl 2 rfl) ?_
        refine x_aldN X hw 3 rfl (by omega) (by omega) dX6_memories_49 ?_
        have hb_49 := hb2 i
        refine lv_icmp_ne (tgt := 57) hx hb dX6_memories_50 (by decide) (fun c_50 => ?_) (fun c_50 => ?_)
        · skip
          rw [nI_eq (by omega) (by omega)] at c_50
          refine lv_iconst (v := nI 0) hx hb dX6_memories_57 (by decide) ?_
          refine lv_iadd hx hb dX6_memories_58 ?_
          refine cv_i (show nI b + nI 0 = nI (b + 0) from nI_add b 0) ?_
          refine lv_istore_n (lv' := [(3, .int (nI (b + 0))), (4, .int (nI j)), (2, .int (nI i)), (1, .int (nI a)), (0, .ref mx)]) hx hb dX6_memories_59 rfl hl (by decide) rfl (fun ls hl => ?_)
          refine lv_iinc (v := nI (j + 1)) (lv' := [(4, .int (nI (j + 1))), (3, .int (nI (b + 0))), (2, .int (nI i)), (1, .int (nI a)), (0, .ref mx)]) hx hb dX6_memories_60 hl (k := 1) rfl (nI_add j 1) (by decide) rfl (fun ls hl => ?_)
          refine lv_goto (tgt := 27) hx hb dX6_memories_63 (by decide) ?_
          exact ih_27 (b + 0, j + 1) (by show n - (j + 1) < n - j; omega) ⟨(show (j + 1) ≤ n from by omega), (show (b + 0) = alk (sst oo ii) (sst oo ii i) (j + 1) from by rw [hbb]; show _ = (if sst oo ii j = sst oo ii i then alk (sst oo ii) (sst oo ii i) j + 1 else alk (sst oo ii) (sst oo ii i) j); rw [← hs3 j (by omega), ← hs3 i (by omega)]; simp [c_50]), (show (b + 0) ≤ (j + 1) from by omega)⟩ _ _ _ hw (lv_sub hl [0, 1, 2, 3, 4] rfl)
        · skip
          rw [nI_eq (by omega) (by omega)] at c_50
          refine lv_iconst (v := nI 1) hx hb dX6_memories_53 (by decide) ?_
          refine lv_goto (tgt := 58) hx hb dX6_memories_54 (by decide) ?_
          refine lv_iadd hx hb dX6_memories_58 ?_
          refine cv_i (show nI b + nI 1 = nI (b + 1) from nI_add b 1) ?_
          refine lv_istore_n (lv' := [(3, .int (nI (b + 1))), (4, .int (nI j)), (2, .int (nI i)), (1, .int (nI a)), (0, .ref mx)]) hx hb dX6_memories_59 rfl hl (by decide) rfl (fun ls hl => ?_)
          refine lv_iinc (v := nI (j + 1)) (lv' := [(4, .int (nI (j + 1))), (3, .int (nI (b + 1))), (2, .int (nI i)), (1, .int (nI a)), (0, .ref mx)]) hx hb dX6_memories_60 hl (k := 1) rfl (nI_add j 1) (by decide) rfl (fun ls hl => ?_)
          refine lv_goto (tgt := 27) hx hb dX6_memories_63 (by decide) ?_
          exact ih_27 (b + 1, j + 1) (by show n - (j + 1) < n - j; omega) ⟨(show (j + 1) ≤ n from by omega), (show (b + 1) = alk (sst oo ii) (sst oo ii i) (j + 1) from by rw [hbb]; show _ = (if sst oo ii j = sst oo ii i then alk (sst oo ii) (sst oo ii i) j + 1 else alk (sst oo ii) (sst oo ii i) j); rw [← hs3 j (by omega), ← hs3 i (by omega)]; simp [c_50]), (show (b + 1) ≤ (j + 1) from by omega)⟩ _ _ _ hw (lv_sub hl [0, 1, 2, 3, 4] rfl)
  · skip
    rw [q_b0] at c_4; try simp only [Bool.not_eq_false, Bool.not_eq_true] at c_4
    have hs := of_decide_eq_false c_4
    refine lv_bipush (v := (-3)) hx hb dX6_memories_7 (by decide) ?_
    exact x_iret X hw (⟨s2, (hb2), ((gd1_f hs).symm), rfl⟩) dX6_memories_9
