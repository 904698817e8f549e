/-! ===== the reference ===== -/
def inn (v lo hi : Int32) : Bool := decide (¬ v < lo ∧ ¬ hi < v)
theorem inn_bel (x : Int32) {k : Nat} (hk : k + 1 < 2 ^ 31) : inn x (nI 0) (nI k) = bel x (nI (k + 1)) := by
  unfold inn bel
  have h : (¬ x < nI 0 ∧ ¬ nI k < x) ↔ (¬ x < 0 ∧ ¬ nI (k + 1) ≤ x) := by
    rw [Int32.lt_iff_toInt_lt, Int32.lt_iff_toInt_lt, Int32.lt_iff_toInt_lt, Int32.le_iff_toInt_le, nI_toInt (show k < 2 ^ 31 by omega), nI_toInt hk, nI_toInt (show 0 < 2 ^ 31 by decide), show (0 : Int32).toInt = 0 by decide]
    omega
  exact decide_eq_decide.mpr h
theorem inn_m (x : Int32) {k : Nat} (hk : k < 2 ^ 31) : inn x (nI 0) (mI k) = bel x (nI k) := by
  unfold inn bel
  have h : (¬ x < nI 0 ∧ ¬ mI k < x) ↔ (¬ x < 0 ∧ ¬ nI k ≤ x) := by
    rw [Int32.lt_iff_toInt_lt, Int32.lt_iff_toInt_lt, Int32.lt_iff_toInt_lt, Int32.le_iff_toInt_le, q_mi hk, nI_toInt hk, nI_toInt (show 0 < 2 ^ 31 by decide), show (0 : Int32).toInt = 0 by decide]
    omega
  exact decide_eq_decide.mpr h
def popS (e i : Nat) : Nat := fo (fun i a => a + (e.testBit i).toNat) 0 i
theorem popc_s (e : Nat) : ∀ i : Nat, fo (fun i a => a + (e.testBit i).toNat) 0 i ≤ i
  | 0 => Nat.le_refl 0
  | i + 1 => by
    have h := popc_s e i
    show fo (fun i a => a + (e.testBit i).toNat) 0 i + (e.testBit i).toNat ≤ i + 1
    cases e.testBit i
    · show _ + 0 ≤ _
      omega
    · show _ + 1 ≤ _
      omega
theorem popc_le (e : Nat) : popc e ≤ 16 := popc_s e 16
def sst (oo ii : Nat → Nat) : Nat → Nat
  | 0 => 0
  | k + 1 => anN (sst oo ii k ||| oo k) (ii k)
theorem sst_lt {oo ii : Nat → Nat} (ho : ∀ k, oo k < 64) : ∀ k, sst oo ii k < 64
  | 0 => by show 0 < 64; omega
  | k + 1 => anN_lt (k := 6) (Nat.or_lt_two_pow (n := 6) (sst_lt ho k) (ho k))
def wrR (oo ii : Nat → Nat) (k : Nat) : Bool := decide (¬ oo k &&& sst oo ii k = 0) || decide (¬ anN (ii k) (sst oo ii k) = 0)
def fwR (oo ii : Nat → Nat) (n : Nat) : Int32 := if fs (wrR oo ii) n < n then nI (fs (wrR oo ii) n) else if n = 0 ∨ ¬ sst oo ii n = 0 then nI n else -1
theorem fwR_pos {oo ii : Nat → Nat} {n : Nat} (h : fwR oo ii n = -1) : 0 < n := by
  rcases Nat.eq_zero_or_pos n with q | q
  · subst q
    exact absurd h (by unfold fwR; rw [if_neg (Nat.not_lt_zero _), if_pos (Or.inl rfl)]; decide)
  · exact q
theorem sst_up {oo ii s9 : Nat → Nat} {i : Nat} (h : ∀ j, j ≤ i → s9 j = sst oo ii j) : ∀ j, j ≤ i + 1 → va_up (va_up s9 (i + 1) (s9 i ||| oo i)) (i + 1) (anN (va_up s9 (i + 1) (s9 i ||| oo i) (i + 1)) (ii i)) j = sst oo ii j := by
  intro j hj
  have h0 : va_up s9 (i + 1) (s9 i ||| oo i) (i + 1) = s9 i ||| oo i := by unfold va_up; rw [if_pos rfl]
  rw [h0]
  by_cases e : j = i + 1
  · subst e
    unfold va_up
    rw [if_pos rfl, h i (Nat.le_refl i)]
    rfl
  · unfold va_up
    rw [if_neg e, if_neg e]
    exact h j (by omega)
/-- step, the reference's -/
def STPR (x y : Int32) (n : Nat) (oo ii : Nat → Nat) (r : Int32) (n9 : Nat) (oo9 ii9 : Nat → Nat) : Prop :=
  (n9 = n ∧ oo9 = oo ∧ ii9 = ii ∧ ((bad2 x y = true ∧ r = -2) ∨ (bad2 x y = false ∧ n = 16 ∧ r = -4))) ∨
  (∃ a b : Nat, a < 64 ∧ b < 64 ∧ x = nI a ∧ y = nI b ∧ bad2 x y = false ∧ n < 16 ∧ r = nI (n + 1) ∧ n9 = n + 1 ∧ oo9 = va_up oo n a ∧ ii9 = va_up ii n b)
theorem nI_ne {a : Nat} (h : a < 2 ^ 31) : ¬ nI a = -1 := by
  rw [← Int32.toInt_inj, nI_toInt h, show (-1 : Int32).toInt = -1 by decide]
  omega
def onR (oo ii : Nat → Nat) (n k st : Nat) : Bool := decide (anN (oo (pr n k)) st = 0) && decide (ii (pr n k) &&& st = 0)
set_option maxHeartbeats 4000000 in
set_option maxRecDepth 100000 in
theorem c_X6_in (l : Launch) (D : va_G) (cI cZ : ClassId) (v : Int32) (lo : Int32) (hi : Int32)  : MI l D cI cZ yX6_in wsX6_in ({ frames := 0, cells := 0, slots := 0, locals := 0 }) [.int v, .int lo, .int hi] [] (fun r w => r = (bI (inn v lo hi)) ∧ w = []) := by
  refine MI.of (cc := cX6_in) (maxL := 3) (ret := (some .boolean)) (own := RX6) (by decide) rfl rfl (Nat.le_of_ble_eq_true rfl) ?_
  intro pQ eQ s mQ args below meth cQ A X hw ls hl
  obtain ⟨⟨hx, hb, hml, hown, hts⟩, hr, hlk, hK, hN, hA⟩ := id X
  have hl : lv_has ls 3 [(0, .int v), (1, .int lo), (2, .int hi)] := hl
  refine lv_iload_n hx hb dX6_in_0 rfl (lv_at hl 0 rfl) ?_
  refine lv_iload_n hx hb dX6_in_1 rfl (lv_at hl 1 rfl) ?_
  refine lv_icmp_lt (tgt := 14) hx hb dX6_in_2 (by decide) (fun c_2 => ?_) (fun c_2 => ?_)
  · skip
    refine lv_iconst (v := nI 0) hx hb dX6_in_14 (by decide) ?_
    refine cv_i (show nI 0 = bI false from by decide) ?_
    exact x_zret X hw (⟨(by simp [inn, c_2]), rfl⟩) dX6_in_15
  · skip
    refine lv_iload_n hx hb dX6_in_5 rfl (lv_at hl 0 rfl) ?_
    refine lv_iload_n hx hb dX6_in_6 rfl (lv_at hl 2 rfl) ?_
    refine lv_icmp_gt (tgt := 14) hx hb dX6_in_7 (by decide) (fun c_7 => ?_) (fun c_7 => ?_)
    · skip
      refine lv_iconst (v := nI 0) hx hb dX6_in_14 (by decide) ?_
      refine cv_i (show nI 0 = bI false from by decide) ?_
      exact x_zret X hw (⟨(by simp [inn, c_2, c_7]), rfl⟩) dX6_in_15
    · skip
      refine lv_iconst (v := nI 1) hx hb dX6_in_10 (by decide) ?_
      refine lv_goto (tgt := 15) hx hb dX6_in_11 (by decide) ?_
      refine cv_i (show nI 1 = bI true from by decide) ?_
      exact x_zret X hw (⟨(by simp [inn, c_2, c_7]), rfl⟩) dX6_in_15
set_option maxHeartbeats 4000000 in
set_option maxRecDepth 100000 in
theorem c_X6_ones (l : Launch) (D : va_G) (cI cZ : ClassId) (e1 : Nat) (he1 : e1 < 2 ^ 31) : MI l D cI cZ yX6_ones wsX6_ones ({ frames := 0, cells := 0, slots := 0, locals := 0 }) [.int (nI e1)] [] (fun r w => r = (nI (popc e1)) ∧ w = []) := by
  refine MI.of (cc := cX6_ones) (maxL := 3) (ret := (some .int)) (own := RX6) (by decide) rfl rfl (Nat.le_of_ble_eq_true rfl) ?_
  intro pQ eQ s mQ args below meth cQ A X hw ls hl
  obtain ⟨⟨hx, hb, hml, hown, hts⟩, hr, hlk, hK, hN, hA⟩ := id X
  have hl : lv_has ls 3 [(0, .int (nI e1))] := hl
  refine lv_iconst (v := nI 0) hx hb dX6_ones_0 (by decide) ?_
  refine lv_istore_n (lv' := [(1, .int (nI 0)), (0, .int (nI e1))]) hx hb dX6_ones_1 rfl hl (by decide) rfl (fun ls hl => ?_)
  refine lv_iconst (v := nI 0) hx hb dX6_ones_2 (by decide) ?_
  refine lv_istore_n (lv' := [(2, .int (nI 0)), (1, .int (nI 0)), (0, .int (nI e1))]) hx hb dX6_ones_3 rfl hl (by decide) rfl (fun ls hl => ?_)
  refine wl (α := Nat × Nat) (nL := 3) (fun aQ => 16 - aQ.2) (fun aQ => (aQ.2 ≤ 16) ∧ (aQ.1 = popS e1 aQ.2)) (fun aQ => []) (fun aQ => [(2, .int (nI aQ.2)), (1, .int (nI aQ.1)), (0, .int (nI e1))]) ?_ (0, 0) ⟨(show 0 ≤ 16 from by omega), (show 0 = popS e1 0 from rfl)⟩ _ _ _ hw (lv_sub hl [0, 1, 2] rfl)
  rintro ⟨a, i⟩ ⟨hi, ha⟩ H locs ls hw hl ih_4
  have hi : i ≤ 16 := hi
  have ha : a = popS e1 i := ha
  have hw : WD D A s.heap [] H locs := hw
  have hl : lv_has ls 3 [(2, .int (nI i)), (1, .int (nI a)), (0, .int (nI e1))] := hl
  refine lv_iload_n hx hb dX6_ones_4 rfl (lv_at hl 0 rfl) ?_
  refine lv_bipush (v := nI 16) hx hb dX6_ones_5 (by decide) ?_
  refine lv_icmp_ge (tgt := 24) hx hb dX6_ones_7 (by decide) (fun c_7 => ?_) (fun c_7 => ?_)
  · skip
    rw [nI_leI (by omega) (by omega)] at c_7
    refine lv_iload_n hx hb dX6_ones_24 rfl (lv_at hl 1 rfl) ?_
    exact x_iret X hw (⟨(by rw [ha, show i = 16 by omega]; rfl), rfl⟩) dX6_ones_25
  · skip
    rw [nI_leI (by omega) (by omega)] at c_7
    refine lv_iload_n hx hb dX6_ones_10 rfl (lv_at hl 1 rfl) ?_
    refine lv_iload_n hx hb dX6_ones_11 rfl (lv_at hl 2 rfl) ?_
    refine lv_iload_n hx hb dX6_ones_12 rfl (lv_at hl 0 rfl) ?_
    refine lv_ishr hx hb dX6_ones_13 ?_
    refine cv_i (show (nI e1) >>> (nI i &&& 31) = nI (e1 >>> i) from q_shr e1 i (by first | omega | assumption) (by first | omega | assumption)) ?_
    refine lv_iconst (v := nI 1) hx hb dX6_ones_14 (by decide) ?_
    refine lv_iand hx hb dX6_ones_15 ?_
    refine cv_i (show nI (e1 >>> i) &&& nI 1 = bI (e1.testBit i) from q_bit e1 i) ?_
    refine lv_iadd hx hb dX6_ones_16 ?_
    refine cv_i (show nI a + bI (e1.testBit i) = nI (a + (e1.testBit i).toNat) from (by rw [q_bN, nI_add])) ?_
    refine lv_istore_n (lv' := [(1, .int (nI (a + (e1.testBit i).toNat))), (2, .int (nI i)), (0, .int (nI e1))]) hx hb dX6_ones_17 rfl hl (by decide) rfl (fun ls hl => ?_)
    refine lv_iinc (v := nI (i + 1)) (lv' := [(2, .int (nI (i + 1))), (1, .int (nI (a + (e1.testBit i).toNat))), (0, .int (nI e1))]) hx hb dX6_ones_18 hl (k := 1) rfl (nI_add i 1) (by decide) rfl (fun ls hl => ?_)
    refine lv_goto (tgt := 4) hx hb dX6_ones_21 (by decide) ?_
    exact ih_4 (a + (e1.testBit i).toNat, i + 1) (by show 16 - (i + 1) < 16 - i; omega) ⟨(show (i + 1) ≤ 16 from by omega), (show (a + (e1.testBit i).toNat) = popS e1 (i + 1) from by rw [ha]; rfl)⟩ _ _ _ hw (lv_sub hl [0, 1, 2] rfl)
set_option maxHeartbeats 4000000 in
set_option maxRecDepth 100000 in
theorem c_X6_step (l : Launch) (D : va_G) (cI cZ : ClassId) (mx : Nat) (m1 : Nat) (m2 : Nat) (m3 : Nat) (m4 : Nat) (m5 : Nat) (m6 : Nat) (m7 : Nat) (m8 : Nat) (m9 : Nat) (m10 : Nat) (n : Nat) (nl : Nat) (ct : Nat) (oo : Nat → Nat) (ii : Nat → Nat) (x : Int32) (y : Int32) (hn : n ≤ 16) (hoo : ∀ k, oo k < 64) (hii : ∀ k, ii k < 64) : MI l D cI cZ yX6_step wsX6_step ({ frames := 1, cells := 0, slots := 0, locals := 22 }) [.ref mx, .int x, .int y] [(mx, .inr (6, [.int (nI n), .ref m1, .ref m2, .ref m3, .ref m4, .int (nI nl), .ref m5, .ref m6, .ref m7, .ref m8, .ref m9, .int (nI ct), .ref m10])), (m1, .inl (cI, 16, .inl (iA oo))), (m2, .inl (cI, 16, .inl (iA ii)))] (fun r w => ∃ r9 : Int32, ∃ n9 : Nat, ∃ oo9 : Nat → Nat, ∃ ii9 : Nat → Nat, (STPR x y n oo ii r9 n9 oo9 ii9) ∧ r = r9 ∧ w = [(mx, .inr (6, [.int (nI n9), .ref m1, .ref m2, .ref m3, .ref m4, .int (nI nl), .ref m5, .ref m6, .ref m7, .ref m8, .ref m9, .int (nI ct), .ref m10])), (m1, .inl (cI, 16, .inl (iA oo9))), (m2, .inl (cI, 16, .inl (iA ii9)))]) := by
  refine MI.of (cc := cX6_step) (maxL := 3) (ret := (some .int)) (own := RX6) (by decide) rfl rfl (Nat.le_of_ble_eq_true rfl) ?_
  intro pQ eQ s mQ args below meth cQ A X hw ls hl
  obtain ⟨⟨hx, hb, hml, hown, hts⟩, hr, hlk, hK, hN, hA⟩ := id X
  have hl : lv_has ls 3 [(0, .ref mx), (1, .int x), (2, .int y)] := hl
  have n6 : ∀ w ∈ wsX60, w ∈ wsX6_step := by decide +kernel
  have f7 : FF args s RX6 wsX6_step 7 6 1 := ⟨_, rfl, by decide, n6, hts (.fieldLink RX6 7 "AirStepsModel" "outs" "[I") (by decide +kernel)⟩
  have f13 : FF args s RX6 wsX6_step 13 6 2 := ⟨_, rfl, by decide, n6, hts (.fieldLink RX6 13 "AirStepsModel" "ins" "[I") (by decide +kernel)⟩
  have f45 : FF args s RX6 wsX6_step 45 6 0 := ⟨_, rfl, by decide, n6, hts (.fieldLink RX6 45 "AirStepsModel" "n" "I") (by decide +kernel)⟩
  have p45 : FP args s RX6 wsX6_step 45 6 0 := ⟨_, tyX6, rfl, by decide, n6, hts (.fieldLink RX6 45 "AirStepsModel" "n" "I") (by decide +kernel), tyX6_ok, nmX6, rfl, by decide +kernel⟩
  refine lv_iload_n hx hb dX6_step_0 rfl (lv_at hl 1 rfl) ?_
  refine lv_iconst (v := nI 0) hx hb dX6_step_1 (by decide) ?_
  refine lv_bipush (v := nI 63) hx hb dX6_step_2 (by decide) ?_
  refine x_callS (As := [.int x, .int (nI 0), .int (nI 63)]) (rest := []) X hw hl.1 (c_X6_in l D cI cZ x (nI 0) (nI 63) ) (va_cwS 3 hts gX6_step_X6_in rfl rfl rfl (by decide +kernel) ⟨Nat.le_of_ble_eq_true rfl, Nat.le_of_ble_eq_true rfl⟩) [] rfl rfl rfl (Nat.le_of_ble_eq_true rfl) dX6_step_4 (by decide) (fun r w1 H locs hp hw1 => ?_)
  obtain ⟨rfl, rfl⟩ := hp
  have hw : WD D A s.heap [(mx, .inr (6, [.int (nI n), .ref m1, .ref m2, .ref m3, .ref m4, .int (nI nl), .ref m5, .ref m6, .ref m7, .ref m8, .ref m9, .int (nI ct), .ref m10])), (m1, .inl (cI, 16, .inl (iA oo))), (m2, .inl (cI, 16, .inl (iA ii)))] H locs := hw1 rfl
  refine cv_i (show bI (inn x (nI 0) (nI 63)) = bI (bel x (nI 64)) from congrArg bI (inn_bel x (by decide))) ?_
  refine lv_if_eq (tgt := 32) hx hb dX6_step_7 (by decide) (fun c_7 => ?_) (fun c_7 => ?_)
  · skip
    rw [q_b0] at c_7; try simp only [Bool.not_eq_false, Bool.not_eq_true] at c_7
    refine lv_bipush (v := (-2)) hx hb dX6_step_32 (by decide) ?_
    exact x_iret X hw (⟨_, _, _, _, (Or.inl ⟨rfl, rfl, rfl, Or.inl ⟨by first | (simp [bad2, c_7]; done) | (simp [bad2, c_17]; done) | (simp [bad2, q_and, q_eq0 (show a &&& b < 2 ^ 31 from Nat.lt_of_le_of_lt Nat.and_le_left (by omega)), c_23]; done) | (simp [bad2, q_or, c_29, nI_0]; done), rfl⟩⟩), (rfl), rfl⟩) dX6_step_34
  · skip
    rw [q_b0] at c_7; try simp only [Bool.not_eq_false, Bool.not_eq_true] at c_7
    obtain ⟨a, ha, rfl⟩ := bel_t (by decide) c_7
    refine lv_iload_n hx hb dX6_step_10 rfl (lv_at hl 2 rfl) ?_
    refine lv_iconst (v := nI 0) hx hb dX6_step_11 (by decide) ?_
    refine lv_bipush (v := nI 63) hx hb dX6_step_12 (by decide) ?_
    refine x_callS (As := [.int y, .int (nI 0), .int (nI 63)]) (rest := []) X hw hl.1 (c_X6_in l D cI cZ y (nI 0) (nI 63) ) (va_cwS 3 hts gX6_step_X6_in rfl rfl rfl (by decide +kernel) ⟨Nat.le_of_ble_eq_true rfl, Nat.le_of_ble_eq_true rfl⟩) [] rfl rfl rfl (Nat.le_of_ble_eq_true rfl) dX6_step_14 (by decide) (fun r w1 H locs hp hw1 => ?_)
    obtain ⟨rfl, rfl⟩ := hp
    have hw : WD D A s.heap [(mx, .inr (6, [.int (nI n), .ref m1, .ref m2, .ref m3, .ref m4, .int (nI nl), .ref m5, .ref m6, .ref m7, .ref m8, .ref m9, .int (nI ct), .ref m10])), (m1, .inl (cI, 16, .inl (iA oo))), (m2, .inl (cI, 16, .inl (iA ii)))] H locs := hw1 rfl
    refine cv_i (show bI (inn y (nI 0) (nI 63)) = bI (bel y (nI 64)) from congrArg bI (inn_bel y (by decide))) ?_
    refine lv_if_eq (tgt := 32) hx hb dX6_step_17 (by decide) (fun c_17 => ?_) (fun c_17 => ?_)
    · skip
      rw [q_b0] at c_17; try simp only [Bool.not_eq_false, Bool.not_eq_true] at c_17
      refine lv_bipush (v := (-2)) hx hb dX6_step_32 (by decide) ?_
      exact x_iret X hw (⟨_, _, _, _, (Or.inl ⟨rfl, rfl, rfl, Or.inl ⟨by first | (simp [bad2, c_7]; done) | (simp [bad2, c_17]; done) | (simp [bad2, q_and, q_eq0 (show a &&& b < 2 ^ 31 from Nat.lt_of_le_of_lt Nat.and_le_left (by omega)), c_23]; done) | (simp [bad2, q_or, c_29, nI_0]; done), rfl⟩⟩), (rfl), rfl⟩) dX6_step_34
    · skip
      rw [q_b0] at c_17; try simp only [Bool.not_eq_false, Bool.not_eq_true] at c_17
      obtain ⟨b, hb9, rfl⟩ := bel_t (by decide) c_17
      refine lv_iload_n hx hb dX6_step_20 rfl (lv_at hl 1 rfl) ?_
      refine lv_iload_n hx hb dX6_step_21 rfl (lv_at hl 2 rfl) ?_
      refine lv_iand hx hb dX6_step_22 ?_
      refine cv_i (show nI a &&& nI b = nI (a &&& b) from q_and a b) ?_
      refine lv_if_ne (tgt := 32) hx hb dX6_step_23 (by decide) (fun c_23 => ?_) (fun c_23 => ?_)
      · skip
        rw [q_eq0 (Nat.lt_of_le_of_lt Nat.and_le_left (by omega))] at c_23
        refine lv_bipush (v := (-2)) hx hb dX6_step_32 (by decide) ?_
        exact x_iret X hw (⟨_, _, _, _, (Or.inl ⟨rfl, rfl, rfl, Or.inl ⟨by first | (simp [bad2, c_7]; done) | (simp [bad2, c_17]; done) | (simp [bad2, q_and, q_eq0 (show a &&& b < 2 ^ 31 from Nat.lt_of_le_of_lt Nat.and_le_left (by omega)), c_23]; done) | (simp [bad2, q_or, c_29, nI_0]; done), rfl⟩⟩), (rfl), rfl⟩) dX6_step_34
      · skip
        rw [q_eq0 (Nat.lt_of_le_of_lt Nat.and_le_left (by omega))] at c_23
        refine lv_iload_n hx hb dX6_step_26 rfl (lv_at hl 1 rfl) ?_
        refine lv_iload_n hx hb dX6_step_27 rfl (lv_at hl 2 rfl) ?_
        refine lv_ior hx hb dX6_step_28 ?_
        refine cv_i (show nI a ||| nI b = nI (a ||| b) from q_or a b) ?_
        refine lv_if_ne (tgt := 35) hx hb dX6_step_29 (by decide) (fun c_29 => ?_) (fun c_29 => ?_)
        · skip
          rw [q_eq0 (Nat.lt_trans (Nat.or_lt_two_pow (n := 6) ha hb9) (by decide))] at c_29
          have hbad : bad2 (nI a) (nI b) = false := by simp [bad2, c_7, c_17, q_or, q_and, q_eq0 (show a ||| b < 2 ^ 31 from Nat.lt_trans (Nat.or_lt_two_pow (n := 6) ha hb9) (by decide)), q_eq0 (show a &&& b < 2 ^ 31 from Nat.lt_of_le_of_lt Nat.and_le_left (by omega)), c_23, c_29, nI_0]
          refine lv_aload_n hx hb dX6_step_35 rfl (lv_at hl 0 rfl) ?_
          refine x_get X hw f45 0 rfl rfl dX6_step_36 ?_
          refine lv_bipush (v := nI 16) hx hb dX6_step_39 (by decide) ?_
          refine lv_icmp_ne (tgt := 47) hx hb dX6_step_41 (by decide) (fun c_41 => ?_) (fun c_41 => ?_)
          · skip
            rw [nI_eq (by omega) (by omega)] at c_41
            refine lv_aload_n hx hb dX6_step_47 rfl (lv_at hl 0 rfl) ?_
            refine x_get X hw f7 0 rfl rfl dX6_step_48 ?_
            refine lv_aload_n hx hb dX6_step_51 rfl (lv_at hl 0 rfl) ?_
            refine x_get X hw f45 0 rfl rfl dX6_step_52 ?_
            refine lv_iload_n hx hb dX6_step_55 rfl (lv_at hl 1 rfl) ?_
            refine x_astN X hw 1 rfl (by omega) (by omega) dX6_step_56 (fun H locs hw => ?_)
            have hw : WD D A s.heap [(mx, .inr (6, [.int (nI n), .ref m1, .ref m2, .ref m3, .ref m4, .int (nI nl), .ref m5, .ref m6, .ref m7, .ref m8, .ref m9, .int (nI ct), .ref m10])), (m1, .inl (cI, 16, .inl (iA (va_up oo n a)))), (m2, .inl (cI, 16, .inl (iA ii)))] H locs := hw
            refine lv_aload_n hx hb dX6_step_57 rfl (lv_at hl 0 rfl) ?_
            refine x_get X hw f13 0 rfl rfl dX6_step_58 ?_
            refine lv_aload_n hx hb dX6_step_61 rfl (lv_at hl 0 rfl) ?_
            refine x_get X hw f45 0 rfl rfl dX6_step_62 ?_
            refine lv_iload_n hx hb dX6_step_65 rfl (lv_at hl 2 rfl) ?_
            refine x_astN X hw 2 rfl (by omega) (by omega) dX6_step_66 (fun H locs hw => ?_)
            have hw : WD D A s.heap [(mx, .inr (6, [.int (nI n), .ref m1, .ref m2, .ref m3, .ref m4, .int (nI nl), .ref m5, .ref m6, .ref m7, .ref m8, .ref m9, .int (nI ct), .ref m10])), (m1, .inl (cI, 16, .inl (iA (va_up oo n a)))), (m2, .inl (cI, 16, .inl (iA (va_up ii n b))))] H locs := hw
            refine lv_aload_n hx hb dX6_step_67 rfl (lv_at hl 0 rfl) ?_
            refine lv_dup hx hb dX6_step_68 rfl ?_
            refine x_get X hw f45 0 rfl rfl dX6_step_69 ?_
            refine lv_iconst (v := nI 1) hx hb dX6_step_72 (by decide) ?_
            refine lv_iadd hx hb dX6_step_73 ?_
            refine cv_i (show nI n + nI 1 = nI (n + 1) from nI_add n 1) ?_
            refine x_put X hw p45 0 rfl (Nat.le_of_ble_eq_true rfl) dX6_step_74 (fun H locs hw => ?_)
            have hw : WD D A s.heap [(mx, .inr (6, [.int (nI (n + 1)), .ref m1, .ref m2, .ref m3, .ref m4, .int (nI nl), .ref m5, .ref m6, .ref m7, .ref m8, .ref m9, .int (nI ct), .ref m10])), (m1, .inl (cI, 16, .inl (iA (va_up oo n a)))), (m2, .inl (cI, 16, .inl (iA (va_up ii n b))))] H locs := hw
            refine lv_aload_n hx hb dX6_step_77 rfl (lv_at hl 0 rfl) ?_
            refine x_get X hw f45 0 rfl rfl dX6_step_78 ?_
            exact x_iret X hw (⟨_, _, _, _, (Or.inr ⟨a, b, ha, hb9, rfl, rfl, hbad, by omega, rfl, rfl, rfl, rfl⟩), (rfl), rfl⟩) dX6_step_81
          · skip
            rw [nI_eq (by omega) (by omega)] at c_41
            refine lv_bipush (v := (-4)) hx hb dX6_step_44 (by decide) ?_
            exact x_iret X hw (⟨_, _, _, _, (Or.inl ⟨rfl, rfl, rfl, Or.inr ⟨hbad, c_41, rfl⟩⟩), (rfl), rfl⟩) dX6_step_46
        · skip
          rw [q_eq0 (Nat.lt_trans (Nat.or_lt_two_pow (n := 6) ha hb9) (by decide))] at c_29
          refine lv_bipush (v := (-2)) hx hb dX6_step_32 (by decide) ?_
          exact x_iret X hw (⟨_, _, _, _, (Or.inl ⟨rfl, rfl, rfl, Or.inl ⟨by first | (simp [bad2, c_7]; done) | (simp [bad2, c_17]; done) | (simp [bad2, q_and, q_eq0 (show a &&& b < 2 ^ 31 from Nat.lt_of_le_of_lt Nat.and_le_left (by omega)), c_23]; done) | (simp [bad2, q_or, c_29, nI_0]; done), rfl⟩⟩), (rfl), rfl⟩) dX6_step_34
set_option maxHeartbeats 4000000 in
set_option maxRecDepth 100000 in
theorem c_X6_drop (l : Launch) (D : va_G) (cI cZ : ClassId) (mx : Nat) (m1 : Nat) (m2 : Nat) (m3 : Nat) (m4 : Nat) (m5 : Nat) (m6 : Nat) (m7 : Nat) (m8 : Nat) (m9 : Nat) (m10 : Nat) (n : Nat) (nl : Nat) (ct : Nat) (hn : n ≤ 16) : MI l D cI cZ yX6_drop wsX6_drop ({ frames := 0, cells := 0, slots := 0, locals := 0 }) [.ref mx] [(mx, .inr (6, [.int (nI n), .ref m1, .ref m2, .ref m3, .ref m4, .int (nI nl), .ref m5, .ref m6, .ref m7, .ref m8, .ref m9, .int (nI ct), .ref m10]))] (fun r w => r = (if n = 0 then -3 else nI (n - 1)) ∧ w = [(mx, .inr (6, [.int (nI (n - 1)), .ref m1, .ref m2, .ref m3, .ref m4, .int (nI nl), .ref m5, .ref m6, .ref m7, .ref m8, .ref m9, .int (nI ct), .ref m10]))]) := by
  refine MI.of (cc := cX6_drop) (maxL := 1) (ret := (some .int)) (own := RX6) (by decide) rfl rfl (Nat.le_of_ble_eq_true rfl) ?_
  intro pQ eQ s mQ args below meth cQ A X hw ls hl
  obtain ⟨⟨hx, hb, hml, hown, hts⟩, hr, hlk, hK, hN, hA⟩ := id X
  have hl : lv_has ls 1 [(0, .ref mx)] := hl
  have n6 : ∀ w ∈ wsX60, w ∈ wsX6_drop := by decide +kernel
  have f45 : FF args s RX6 wsX6_drop 45 6 0 := ⟨_, rfl, by decide, n6, hts (.fieldLink RX6 45 "AirStepsModel" "n" "I") (by decide +kernel)⟩
  have p45 : FP args s RX6 wsX6_drop 45 6 0 := ⟨_, tyX6, rfl, by decide, n6, hts (.fieldLink RX6 45 "AirStepsModel" "n" "I") (by decide +kernel), tyX6_ok, nmX6, rfl, by decide +kernel⟩
  refine lv_aload_n hx hb dX6_drop_0 rfl (lv_at hl 0 rfl) ?_
  refine x_get X hw f45 0 rfl rfl dX6_drop_1 ?_
  refine lv_if_ne (tgt := 10) hx hb dX6_drop_4 (by decide) (fun c_4 => ?_) (fun c_4 => ?_)
  · skip
    rw [q_eq0 (by omega)] at c_4
    refine lv_aload_n hx hb dX6_drop_10 rfl (lv_at hl 0 rfl) ?_
    refine lv_dup hx hb dX6_drop_11 rfl ?_
    refine x_get X hw f45 0 rfl rfl dX6_drop_12 ?_
    refine lv_iconst (v := nI 1) hx hb dX6_drop_15 (by decide) ?_
    refine lv_isub hx hb dX6_drop_16 ?_
    refine cv_i (show nI n - nI 1 = nI (n - 1) from pk_sub (by first | omega | assumption)) ?_
    refine x_put X hw p45 0 rfl (Nat.le_of_ble_eq_true rfl) dX6_drop_17 (fun H locs hw => ?_)
    have hw : WD D A s.heap [(mx, .inr (6, [.int (nI (n - 1)), .ref m1, .ref m2, .ref m3, .ref m4, .int (nI nl), .ref m5, .ref m6, .ref m7, .ref m8, .ref m9, .int (nI ct), .ref m10]))] H locs := hw
    refine lv_aload_n hx hb dX6_drop_20 rfl (lv_at hl 0 rfl) ?_
    refine x_get X hw f45 0 rfl rfl dX6_drop_21 ?_
    exact x_iret X hw (⟨(by rw [if_neg c_4]), rfl⟩) dX6_drop_24
  · skip
    rw [q_eq0 (by omega)] at c_4
    refine lv_bipush (v := (-3)) hx hb dX6_drop_7 (by decide) ?_
    exact x_iret X hw (⟨(by rw [if_pos c_4]), (by rw [c_4])⟩) dX6_drop_9
set_option maxHeartbeats 4000000 in
set_option maxRecDepth 100000 in
theorem c_X6_sound (l : Launch) (D : va_G) (cI cZ : ClassId) (mx : Nat) (m1 : Nat) (m2 : Nat) (m3 : Nat) (m4 : Nat) (m5 : Nat) (m6 : Nat) (m7 : Nat) (m8 : Nat) (m9 : Nat) (m10 : Nat) (n : Nat) (nl : Nat) (ct : Nat) (oo : Nat → Nat) (ii : Nat → Nat) (ss : Nat → Nat) (hn : n ≤ 16) (hoo : ∀ k, oo k < 64) (hii : ∀ k, ii k < 64) (hss : ∀ k, ss k < 64) : MI l D cI cZ yX6_sound wsX6_sound ({ frames := 0, cells := 0, slots := 0, locals := 0 }) [.ref mx] [(mx, .inr (6, [.int (nI n), .ref m1, .ref m2, .ref m3, .ref m4, .int (nI nl), .ref m5, .ref m6, .ref m7, .ref m8, .ref m9, .int (nI ct), .ref m10])), (m1, .inl (cI, 16, .inl (iA oo))), (m2, .inl (cI, 16, .inl (iA ii))), (m9, .inl (cI, 17, .inl (iA ss)))] (fun r w => ∃ s9 : Nat → Nat, (fwR oo ii n = -1 → ∀ k, k ≤ n → s9 k = sst oo ii k) ∧ (∀ k, s9 k < 64) ∧ r = (fwR oo ii n) ∧ w = [(mx, .inr (6, [.int (nI n), .ref m1, .ref m2, .ref m3, .ref m4, .int (nI nl), .ref m5, .ref m6, .ref m7, .ref m8, .ref m9, .int (nI ct), .ref m10])), (m1, .inl (cI, 16, .inl (iA oo))), (m2, .inl (cI, 16, .inl (iA ii))), (m9, .inl (cI, 17, .inl (iA s9)))]) := by
  refine MI.of (cc := cX6_sound) (maxL := 2) (ret := (some .int)) (own := RX6) (by decide) rfl rfl (Nat.le_of_ble_eq_true rfl) ?_
  intro pQ eQ s mQ args below meth cQ A X hw ls hl
  obtain ⟨⟨hx, hb, hml, hown, hts⟩, hr, hlk, hK, hN, hA⟩ := id X
  have hl : lv_has ls 2 [(0, .ref mx)] := hl
  have n6 : ∀ w ∈ wsX60, w ∈ wsX6_sound := by decide +kernel
  have f7 : FF args s RX6 wsX6_sound 7 6 1 := ⟨_, rfl, by decide, n6, hts (.fieldLink RX6 7 "AirStepsModel" "outs" "[I") (by decide +kernel)⟩
  have f13 : FF args s RX6 wsX6_sound 13 6 2 := ⟨_, rfl, by decide, n6, hts (.fieldLink RX6 13 "AirStepsModel" "ins" "[I") (by decide +kernel)⟩
  have f35 : FF args s RX6 wsX6_sound 35 6 10 := ⟨_, rfl, by decide, n6, hts (.fieldLink RX6 35 "AirStepsModel" "states" "[I") (by decide +kernel)⟩
  have f45 : FF args s RX6 wsX6_sound 45 6 0 := ⟨_, rfl, by decide, n6, hts (.fieldLink RX6 45 "AirStepsModel" "n" "I") (by decide +kernel)⟩
  refine lv_aload_n hx hb dX6_sound_0 rfl (lv_at hl 0 rfl) ?_
  refine x_get X hw f35 0 rfl rfl dX6_sound_1 ?_
  refine lv_iconst (v := nI 0) hx hb dX6_sound_4 (by decide) ?_
  refine lv_iconst (v := nI 0) hx hb dX6_sound_5 (by decide) ?_
  refine x_astN X hw 3 rfl (by omega) (by omega) dX6_sound_6 (fun H locs hw => ?_)
  have hw : WD D A s.heap [(mx, .inr (6, [.int (nI n), .ref m1, .ref m2, .ref m3, .ref m4, .int (nI nl), .ref m5, .ref m6, .ref m7, .ref m8, .ref m9, .int (nI ct), .ref m10])), (m1, .inl (cI, 16, .inl (iA oo))), (m2, .inl (cI, 16, .inl (iA ii))), (m9, .inl (cI, 17, .inl (iA (va_up ss 0 0))))] H locs := hw
  refine lv_iconst (v := nI 0) hx hb dX6_sound_7 (by decide) ?_
  refine lv_istore_n (lv' := [(1, .int (nI 0)), (0, .ref mx)]) hx hb dX6_sound_8 rfl hl (by decide) rfl (fun ls hl => ?_)
  refine wl (α := (Nat → Nat) × Nat) (nL := 2) (fun aQ => n - aQ.2) (fun aQ => (aQ.2 ≤ n) ∧ (∀ j, j ≤ aQ.2 → aQ.1 j = sst oo ii j) ∧ (∀ k, aQ.1 k < 64) ∧ (∀ j, j < aQ.2 → wrR oo ii j = false)) (fun aQ => [(mx, .inr (6, [.int (nI n), .ref m1, .ref m2, .ref m3, .ref m4, .int (nI nl), .ref m5, .ref m6, .ref m7, .ref m8, .ref m9, .int (nI ct), .ref m10])), (m1, .inl (cI, 16, .inl (iA oo))), (m2, .inl (cI, 16, .inl (iA ii))), (m9, .inl (cI, 17, .inl (iA aQ.1)))]) (fun aQ => [(1, .int (nI aQ.2)), (0, .ref mx)]) ?_ (va_up ss 0 0, 0) ⟨(show 0 ≤ n from by omega), (show ∀ j, j ≤ 0 → (va_up ss 0 0) j = sst oo ii j from fun j hj => by rw [show j = 0 by omega]; rfl), (show ∀ k, (va_up ss 0 0) k < 64 from up_lt hss (by omega)), (show ∀ j, j < 0 → wrR oo ii j = false from fun j hj => absurd hj (Nat.not_lt_zero j))⟩ _ _ _ hw (lv_sub hl [0, 1] rfl)
  rintro ⟨s9, i⟩ ⟨hi, hs, hb9, hq⟩ H locs ls hw hl ih_9
  have hi : i ≤ n := hi
  have hs : ∀ j, j ≤ i → s9 j = sst oo ii j := hs
  have hb9 : ∀ k, s9 k < 64 := hb9
  have hq : ∀ j, j < i → wrR oo ii j = false := hq
  have hw : WD D A s.heap [(mx, .inr (6, [.int (nI n), .ref m1, .ref m2, .ref m3, .ref m4, .int (nI nl), .ref m5, .ref m6, .ref m7, .ref m8, .ref m9, .int (nI ct), .ref m10])), (m1, .inl (cI, 16, .inl (iA oo))), (m2, .inl (cI, 16, .inl (iA ii))), (m9, .inl (cI, 17, .inl (iA s9)))] H locs := hw
  have hl : lv_has ls 2 [(1, .int (nI i)), (0, .ref mx)] := hl
  have hsi := hs i (Nat.le_refl i)
  refine lv_iload_n hx hb dX6_sound_9 rfl (lv_at hl 0 rfl) ?_
  refine lv_aload_n hx hb dX6_sound_10 rfl (lv_at hl 1 rfl) ?_
  refine x_get X hw f45 0 rfl rfl dX6_sound_11 ?_
  refine lv_icmp_ge (tgt := 99) hx hb dX6_sound_14 (by decide) (fun c_14 => ?_) (fun c_14 => ?_)
  · skip
    rw [nI_leI (by omega) (by omega)] at c_14
    have hin : i = n := by omega
    have hfs : fs (wrR oo ii) n = n := fs_eq (by omega) (fun j hj => hq j (by omega)) (Or.inl rfl)
    have hsn := hs n (by omega)
    refine lv_aload_n hx hb dX6_sound_99 rfl (lv_at hl 1 rfl) ?_
    refine x_get X hw f45 0 rfl rfl dX6_sound_100 ?_
    refine lv_if_eq (tgt := 118) hx hb dX6_sound_103 (by decide) (fun c_103 => ?_) (fun c_103 => ?_)
    · skip
      rw [q_eq0 (by omega)] at c_103
      refine lv_aload_n hx hb dX6_sound_118 rfl (lv_at hl 1 rfl) ?_
      refine x_get X hw f45 0 rfl rfl dX6_sound_119 ?_
      refine lv_goto (tgt := 126) hx hb dX6_sound_122 (by decide) ?_
      exact x_iret X hw (⟨s9, (fun _ k hk => hs k (by omega)), (hb9), (by unfold fwR; rw [hfs, if_neg (by omega), ← hsn]; simp [c_103]), rfl⟩) dX6_sound_126
    · skip
      rw [q_eq0 (by omega)] at c_103
      refine lv_aload_n hx hb dX6_sound_106 rfl (lv_at hl 1 rfl) ?_
      refine x_get X hw f35 0 rfl rfl dX6_sound_107 ?_
      refine lv_aload_n hx hb dX6_sound_110 rfl (lv_at hl 1 rfl) ?_
      refine x_get X hw f45 0 rfl rfl dX6_sound_111 ?_
      refine x_aldN X hw 3 rfl (by omega) (by omega) dX6_sound_114 ?_
      have hb_114 := hb9 n
      refine lv_if_eq (tgt := 125) hx hb dX6_sound_115 (by decide) (fun c_115 => ?_) (fun c_115 => ?_)
      · skip
        rw [q_eq0 (by omega)] at c_115
        refine lv_iconst (v := (-1)) hx hb dX6_sound_125 (by decide) ?_
        exact x_iret X hw (⟨s9, (fun _ k hk => hs k (by omega)), (hb9), (by unfold fwR; rw [hfs, if_neg (by omega), ← hsn]; simp [c_103, c_115]), rfl⟩) dX6_sound_126
      · skip
        rw [q_eq0 (by omega)] at c_115
        refine lv_aload_n hx hb dX6_sound_118 rfl (lv_at hl 1 rfl) ?_
        refine x_get X hw f45 0 rfl rfl dX6_sound_119 ?_
        refine lv_goto (tgt := 126) hx hb dX6_sound_122 (by decide) ?_
        exact x_iret X hw (⟨s9, (fun _ k hk => hs k (by omega)), (hb9), (by unfold fwR; rw [hfs, if_neg (by omega), ← hsn]; simp [c_103, c_115]), rfl⟩) dX6_sound_126
  · skip
    rw [nI_leI (by omega) (by omega)] at c_14
    refine lv_aload_n hx hb dX6_sound_17 rfl (lv_at hl 1 rfl) ?_
    refine x_get X hw f7 0 rfl rfl dX6_sound_18 ?_
    refine lv_iload_n hx hb dX6_sound_21 rfl (lv_at hl 0 rfl) ?_
    refine x_aldN X hw 1 rfl (by omega) (by omega) dX6_sound_22 ?_
    have hb_22 := hoo i
    refine lv_aload_n hx hb dX6_sound_23 rfl (lv_at hl 1 rfl) ?_
    refine x_get X hw f35 0 rfl rfl dX6_sound_24 ?_
    refine lv_iload_n hx hb dX6_sound_27 rfl (lv_at hl 0 rfl) ?_
    refine x_aldN X hw 3 rfl (by omega) (by omega) dX6_sound_28 ?_
    have hb_28 := hb9 i
    refine lv_iand hx hb dX6_sound_29 ?_
    refine cv_i (show nI (oo i) &&& nI (s9 i) = nI ((oo i) &&& (s9 i)) from q_and (oo i) (s9 i)) ?_
    refine lv_if_ne (tgt := 51) hx hb dX6_sound_30 (by decide) (fun c_30 => ?_) (fun c_30 => ?_)
    · skip
      rw [q_eq0 (Nat.lt_of_le_of_lt Nat.and_le_left (by omega))] at c_30
      refine lv_iload_n hx hb dX6_sound_51 rfl (lv_at hl 0 rfl) ?_
      exact x_iret X hw (⟨s9, (fun h => by unfold fwR at h; rw [fs_eq (k := i) (by omega) hq (Or.inr (by first | (simp [wrR, ← hsi, c_30]; done) | (simp [wrR, ← hsi, c_48]; done))), if_pos (by omega)] at h; exact absurd h (nI_ne (by omega))), (hb9), (by unfold fwR; rw [fs_eq (k := i) (by omega) hq (Or.inr (by first | (simp [wrR, ← hsi, c_30]; done) | (simp [wrR, ← hsi, c_48]; done))), if_pos (by omega)]), rfl⟩) dX6_sound_52
    · skip
      rw [q_eq0 (Nat.lt_of_le_of_lt Nat.and_le_left (by omega))] at c_30
      refine lv_aload_n hx hb dX6_sound_33 rfl (lv_at hl 1 rfl) ?_
      refine x_get X hw f13 0 rfl rfl dX6_sound_34 ?_
      refine lv_iload_n hx hb dX6_sound_37 rfl (lv_at hl 0 rfl) ?_
      refine x_aldN X hw 2 rfl (by omega) (by omega) dX6_sound_38 ?_
      have hb_38 := hii i
      refine lv_aload_n hx hb dX6_sound_39 rfl (lv_at hl 1 rfl) ?_
      refine x_get X hw f35 0 rfl rfl dX6_sound_40 ?_
      refine lv_iload_n hx hb dX6_sound_43 rfl (lv_at hl 0 rfl) ?_
      refine x_aldN X hw 3 rfl (by omega) (by omega) dX6_sound_44 ?_
      have hb_44 := hb9 i
      refine lv_iconst (v := (-1)) hx hb dX6_sound_45 (by decide) ?_
      refine lv_ixor hx hb dX6_sound_46 ?_
      refine lv_iand hx hb dX6_sound_47 ?_
      refine cv_i (show nI (ii i) &&& (nI (s9 i) ^^^ (-1 : Int32)) = nI (anN (ii i) (s9 i)) from q_anR (ii i) (s9 i)) ?_
      refine lv_if_eq (tgt := 53) hx hb dX6_sound_48 (by decide) (fun c_48 => ?_) (fun c_48 => ?_)
      · skip
        rw [q_eq0 (Nat.lt_trans (anN_lt (k := 6) (hii i)) (by decide))] at c_48
        refine lv_aload_n hx hb dX6_sound_53 rfl (lv_at hl 1 rfl) ?_
        refine x_get X hw f35 0 rfl rfl dX6_sound_54 ?_
        refine lv_iload_n hx hb dX6_sound_57 rfl (lv_at hl 0 rfl) ?_
        refine lv_iconst (v := nI 1) hx hb dX6_sound_58 (by decide) ?_
        refine lv_iadd hx hb dX6_sound_59 ?_
        refine cv_i (show nI i + nI 1 = nI (i + 1) from nI_add i 1) ?_
        refine lv_aload_n hx hb dX6_sound_60 rfl (lv_at hl 1 rfl) ?_
        refine x_get X hw f35 0 rfl rfl dX6_sound_61 ?_
        refine lv_iload_n hx hb dX6_sound_64 rfl (lv_at hl 0 rfl) ?_
        refine x_aldN X hw 3 rfl (by omega) (by omega) dX6_sound_65 ?_
        have hb_65 := hb9 i
        refine lv_aload_n hx hb dX6_sound_66 rfl (lv_at hl 1 rfl) ?_
        refine x_get X hw f7 0 rfl rfl dX6_sound_67 ?_
        refine lv_iload_n hx hb dX6_sound_70 rfl (lv_at hl 0 rfl) ?_
        refine x_aldN X hw 1 rfl (by omega) (by omega) dX6_sound_71 ?_
        have hb_71 := hoo i
        refine lv_ior hx hb dX6_sound_72 ?_
        refine cv_i (show nI (s9 i) ||| nI (oo i) = nI ((s9 i) ||| (oo i)) from q_or (s9 i) (oo i)) ?_
        refine x_astN X hw 3 rfl (by omega) (by omega) dX6_sound_73 (fun H locs hw => ?_)
        have hw : WD D A s.heap [(mx, .inr (6, [.int (nI n), .ref m1, .ref m2, .ref m3, .ref m4, .int (nI nl), .ref m5, .ref m6, .ref m7, .ref m8, .ref m9, .int (nI ct), .ref m10])), (m1, .inl (cI, 16, .inl (iA oo))), (m2, .inl (cI, 16, .inl (iA ii))), (m9, .inl (cI, 17, .inl (iA (va_up s9 (i + 1) ((s9 i) ||| (oo i))))))] H locs := hw
        refine lv_aload_n hx hb dX6_sound_74 rfl (lv_at hl 1 rfl) ?_
        refine x_get X hw f35 0 rfl rfl dX6_sound_75 ?_
        refine lv_iload_n hx hb dX6_sound_78 rfl (lv_at hl 0 rfl) ?_
        refine lv_iconst (v := nI 1) hx hb dX6_sound_79 (by decide) ?_
        refine lv_iadd hx hb dX6_sound_80 ?_
        refine cv_i (show nI i + nI 1 = nI (i + 1) from nI_add i 1) ?_
        refine lv_dup2_11 hx hb dX6_sound_81 rfl rfl ?_
        refine x_aldN X hw 3 rfl (by omega) (by omega) dX6_sound_82 ?_
        refine lv_aload_n hx hb dX6_sound_83 rfl (lv_at hl 1 rfl) ?_
        refine x_get X hw f13 0 rfl rfl dX6_sound_84 ?_
        refine lv_iload_n hx hb dX6_sound_87 rfl (lv_at hl 0 rfl) ?_
        refine x_aldN X hw 2 rfl (by omega) (by omega) dX6_sound_88 ?_
        have hb_88 := hii i
        refine lv_iconst (v := (-1)) hx hb dX6_sound_89 (by decide) ?_
        refine lv_ixor hx hb dX6_sound_90 ?_
        refine lv_iand hx hb dX6_sound_91 ?_
        refine cv_i (show nI ((va_up s9 (i + 1) ((s9 i) ||| (oo i))) (i + 1)) &&& (nI (ii i) ^^^ (-1 : Int32)) = nI (anN ((va_up s9 (i + 1) ((s9 i) ||| (oo i))) (i + 1)) (ii i)) from q_anR ((va_up s9 (i + 1) ((s9 i) ||| (oo i))) (i + 1)) (ii i)) ?_
        refine x_astN X hw 3 rfl (by omega) (by omega) dX6_sound_92 (fun H locs hw => ?_)
        have hw : WD D A s.heap [(mx, .inr (6, [.int (nI n), .ref m1, .ref m2, .ref m3, .ref m4, .int (nI nl), .ref m5, .ref m6, .ref m7, .ref m8, .ref m9, .int (nI ct), .ref m10])), (m1, .inl (cI, 16, .inl (iA oo))), (m2, .inl (cI, 16, .inl (iA ii))), (m9, .inl (cI, 17, .inl (iA (va_up (va_up s9 (i + 1) ((s9 i) ||| (oo i))) (i + 1) (anN ((va_up s9 (i + 1) ((s9 i) ||| (oo i))) (i + 1)) (ii i))))))] H locs := hw
        refine lv_iinc (v := nI (i + 1)) (lv' := [(1, .int (nI (i + 1))), (0, .ref mx)]) hx hb dX6_sound_93 hl (k := 0) rfl (nI_add i 1) (by decide) rfl (fun ls hl => ?_)
        refine lv_goto (tgt := 9) hx hb dX6_sound_96 (by decide) ?_
        exact ih_9 (va_up (va_up s9 (i + 1) ((s9 i) ||| (oo i))) (i + 1) (anN ((va_up s9 (i + 1) ((s9 i) ||| (oo i))) (i + 1)) (ii i)), i + 1) (by show n - (i + 1) < n - i; omega) ⟨(show (i + 1) ≤ n from by omega), (show ∀ j, j ≤ (i + 1) → (va_up (va_up s9 (i + 1) ((s9 i) ||| (oo i))) (i + 1) (anN ((va_up s9 (i + 1) ((s9 i) ||| (oo i))) (i + 1)) (ii i))) j = sst oo ii j from sst_up hs), (show ∀ k, (va_up (va_up s9 (i + 1) ((s9 i) ||| (oo i))) (i + 1) (anN ((va_up s9 (i + 1) ((s9 i) ||| (oo i))) (i + 1)) (ii i))) k < 64 from up_lt (up_lt hb9 (Nat.or_lt_two_pow (n := 6) (hb9 i) (hoo i))) (anN_lt (k := 6) (up_lt hb9 (Nat.or_lt_two_pow (n := 6) (hb9 i) (hoo i)) _))), (show ∀ j, j < (i + 1) → wrR oo ii j = false from lt_snoc hq (by simp [wrR, ← hsi, c_30, c_48]))⟩ _ _ _ hw (lv_sub hl [0, 1] rfl)
      · skip
        rw [q_eq0 (Nat.lt_trans (anN_lt (k := 6) (hii i)) (by decide))] at c_48
        refine lv_iload_n hx hb dX6_sound_51 rfl (lv_at hl 0 rfl) ?_
        exact x_iret X hw (⟨s9, (fun h => by unfold fwR at h; rw [fs_eq (k := i) (by omega) hq (Or.inr (by first | (simp [wrR, ← hsi, c_30]; done) | (simp [wrR, ← hsi, c_48]; done))), if_pos (by omega)] at h; exact absurd h (nI_ne (by omega))), (hb9), (by unfold fwR; rw [fs_eq (k := i) (by omega) hq (Or.inr (by first | (simp [wrR, ← hsi, c_30]; done) | (simp [wrR, ← hsi, c_48]; done))), if_pos (by omega)]), rfl⟩) dX6_sound_52
set_option maxHeartbeats 4000000 in
set_option maxRecDepth 100000 in
theorem c_X6_isSound (l : Launch) (D : va_G) (cI cZ : ClassId) (mx : Nat) (m1 : Nat) (m2 : Nat) (m3 : Nat) (m4 : Nat) (m5 : Nat) (m6 : Nat) (m7 : Nat) (m8 : Nat) (m9 : Nat) (m10 : Nat) (n : Nat) (nl : Nat) (ct : Nat) (oo : Nat → Nat) (ii : Nat → Nat) (ss : Nat → Nat) (hn : n ≤ 16) (hoo : ∀ k, oo k < 64) (hii : ∀ k, ii k < 64) (hss : ∀ k, ss k < 64) : MI l D cI cZ yX6_isSound wsX6_isSound ({ frames := 1, cells := 0, slots := 0, locals := 21 }) [.ref mx] [(mx, .inr (6, [.int (nI n), .ref m1, .ref m2, .ref m3, .ref m4, .int (nI nl), .ref m5, .ref m6, .ref m7, .ref m8, .ref m9, .int (nI ct), .ref m10])), (m1, .inl (cI, 16, .inl (iA oo))), (m2, .inl (cI, 16, .inl (iA ii))), (m9, .inl (cI, 17, .inl (iA ss)))] (fun r w => ∃ s9 : Nat → Nat, (fwR oo ii n = -1 → ∀ k, k ≤ n → s9 k = sst oo ii k) ∧ (∀ k, s9 k < 64) ∧ r = (bI (decide (fwR oo ii n = -1))) ∧ w = [(mx, .inr (6, [.int (nI n), .ref m1, .ref m2, .ref m3, .ref m4, .int (nI nl), .ref m5, .ref m6, .ref m7, .ref m8, .ref m9, .int (nI ct), .ref m10])), (m1, .inl (cI, 16, .inl (iA oo))), (m2, .inl (cI, 16, .inl (iA ii))), (m9, .inl (cI, 17, .inl (iA s9)))]) := by
  refine MI.of (cc := cX6_isSound) (maxL := 1) (ret := (some .boolean)) (own := RX6) (by decide) rfl rfl (Nat.le_of_ble_eq_true rfl) ?_
  intro pQ eQ s mQ args below meth cQ A X hw ls hl
  obtain ⟨⟨hx, hb, hml, hown, hts⟩, hr, hlk, hK, hN, hA⟩ := id X
  have hl : lv_has ls 1 [(0, .ref mx)] := hl
  refine lv_aload_n hx hb dX6_isSound_0 rfl (lv_at hl 0 rfl) ?_
  refine x_callV (As := []) (rest := []) X hw hl.1 (c_X6_sound l D cI cZ mx m1 m2 m3 m4 m5 m6 m7 m8 m9 m10 n nl ct oo ii ss (by first | assumption | omega) (by first | assumption | omega) (by first | assumption | omega) (by first | assumption | omega)) (cwV 0 hts gX6_isSound_X6_sound rfl rfl rfl (by decide +kernel) ⟨Nat.le_of_ble_eq_true rfl, Nat.le_of_ble_eq_true rfl⟩) [0, 1, 2, 3] rfl rfl 0 rfl rfl rfl rfl (Nat.le_of_ble_eq_true rfl) dX6_isSound_1 (by decide) (fun r w1 H locs hp hw1 => ?_)
  obtain ⟨s2, hs2, hb2, rfl, rfl⟩ := hp
  have hw : WD D A s.heap [(mx, .inr (6, [.int (nI n), .ref m1, .ref m2, .ref m3, .ref m4, .int (nI nl), .ref m5, .ref m6, .ref m7, .ref m8, .ref m9, .int (nI ct), .ref m10])), (m1, .inl (cI, 16, .inl (iA oo))), (m2, .inl (cI, 16, .inl (iA ii))), (m9, .inl (cI, 17, .inl (iA s2)))] H locs := hw1 rfl
  refine lv_iconst (v := (-1)) hx hb dX6_isSound_4 (by decide) ?_
  refine lv_icmp_ne (tgt := 12) hx hb dX6_isSound_5 (by decide) (fun c_5 => ?_) (fun c_5 => ?_)
  · skip
    refine lv_iconst (v := nI 0) hx hb dX6_isSound_12 (by decide) ?_
    refine cv_i (show nI 0 = bI false from by decide) ?_
    exact x_zret X hw (⟨s2, (hs2), (hb2), (by simp [c_5]), rfl⟩) dX6_isSound_13
  · skip
    refine lv_iconst (v := nI 1) hx hb dX6_isSound_8 (by decide) ?_
    refine lv_goto (tgt := 13) hx hb dX6_isSound_9 (by decide) ?_
    refine cv_i (show nI 1 = bI true from by decide) ?_
    exact x_zret X hw (⟨s2, (hs2), (hb2), (by simp [c_5]), rfl⟩) dX6_isSound_13
set_option maxHeartbeats 4000000 in
set_option maxRecDepth 100000 in
theorem c_X6_isStep (l : Launch) (D : va_G) (cI cZ : ClassId) (mx : Nat) (m1 : Nat) (m2 : Nat) (m3 : Nat) (m4 : Nat) (m5 : Nat) (m6 : Nat) (m7 : Nat) (m8 : Nat) (m9 : Nat) (m10 : Nat) (n : Nat) (nl : Nat) (ct : Nat) (x : Int32) (hn : n ≤ 16) : MI l D cI cZ yX6_isStep wsX6_isStep ({ frames := 1, cells := 0, slots := 0, locals := 22 }) [.ref mx, .int x] [(mx, .inr (6, [.int (nI n), .ref m1, .ref m2, .ref m3, .ref m4, .int (nI nl), .ref m5, .ref m6, .ref m7, .ref m8, .ref m9, .int (nI ct), .ref m10]))] (fun r w => r = (bI (bel x (nI n))) ∧ w = [(mx, .inr (6, [.int (nI n), .ref m1, .ref m2, .ref m3, .ref m4, .int (nI nl), .ref m5, .ref m6, .ref m7, .ref m8, .ref m9, .int (nI ct), .ref m10]))]) := by
  refine MI.of (cc := cX6_isStep) (maxL := 2) (ret := (some .boolean)) (own := RX6) (by decide) rfl rfl (Nat.le_of_ble_eq_true rfl) ?_
  intro pQ eQ s mQ args below meth cQ A X hw ls hl
  obtain ⟨⟨hx, hb, hml, hown, hts⟩, hr, hlk, hK, hN, hA⟩ := id X
  have hl : lv_has ls 2 [(0, .ref mx), (1, .int x)] := hl
  have n6 : ∀ w ∈ wsX60, w ∈ wsX6_isStep := by decide +kernel
  have f45 : FF args s RX6 wsX6_isStep 45 6 0 := ⟨_, rfl, by decide, n6, hts (.fieldLink RX6 45 "AirStepsModel" "n" "I") (by decide +kernel)⟩
  refine lv_iload_n hx hb dX6_isStep_0 rfl (lv_at hl 1 rfl) ?_
  refine lv_iconst (v := nI 0) hx hb dX6_isStep_1 (by decide) ?_
  refine lv_aload_n hx hb dX6_isStep_2 rfl (lv_at hl 0 rfl) ?_
  refine x_get X hw f45 0 rfl rfl dX6_isStep_3 ?_
  refine lv_iconst (v := nI 1) hx hb dX6_isStep_6 (by decide) ?_
  refine lv_isub hx hb dX6_isStep_7 ?_
  refine cv_i (show nI n - nI 1 = mI n from rfl) ?_
  refine x_callS (As := [.int x, .int (nI 0), .int (mI n)]) (rest := []) X hw hl.1 (c_X6_in l D cI cZ x (nI 0) (mI n) ) (va_cwS 3 hts gX6_isStep_X6_in rfl rfl rfl (by decide +kernel) ⟨Nat.le_of_ble_eq_true rfl, Nat.le_of_ble_eq_true rfl⟩) [] rfl rfl rfl (Nat.le_of_ble_eq_true rfl) dX6_isStep_8 (by decide) (fun r w1 H locs hp hw1 => ?_)
  obtain ⟨rfl, rfl⟩ := hp
  have hw : WD D A s.heap [(mx, .inr (6, [.int (nI n), .ref m1, .ref m2, .ref m3, .ref m4, .int (nI nl), .ref m5, .ref m6, .ref m7, .ref m8, .ref m9, .int (nI ct), .ref m10]))] H locs := hw1 rfl
  exact x_zret X hw (⟨(congrArg bI (inn_m x (by omega))), rfl⟩) dX6_isStep_11
set_option maxHeartbeats 4000000 in
set_option maxRecDepth 100000 in
theorem c_X6_state (l : Launch) (D : va_G) (cI cZ : ClassId) (mx : Nat) (m1 : Nat) (m2 : Nat) (m3 : Nat) (m4 : Nat) (m5 : Nat) (m6 : Nat) (m7 : Nat) (m8 : Nat) (m9 : Nat) (m10 : Nat) (n : Nat) (nl : Nat) (ct : Nat) (oo : Nat → Nat) (ii : Nat → Nat) (ss : Nat → Nat) (x : Int32) (hn : n ≤ 16) (hoo : ∀ k, oo k < 64) (hii : ∀ k, ii k < 64) (hss : ∀ k, ss k < 64) : MI l D cI cZ yX6_state wsX6_state ({ frames := 2, cells := 0, slots := 0, locals := 43 }) [.ref mx, .int x] [(mx, .inr (6, [.int (nI n), .ref m1, .ref m2, .ref m3, .ref m4, .int (nI nl), .ref m5, .ref m6, .ref m7, .ref m8, .ref m9, .int (nI ct), .ref m10])), (m1, .inl (cI, 16, .inl (iA oo))), (m2, .inl (cI, 16, .inl (iA ii))), (m9, .inl (cI, 17, .inl (iA ss)))] (fun r w => ∃ s9 : Nat → Nat, (∀ k, s9 k < 64) ∧ r = (gd2 (bel x (nI n)) (fwR oo ii n) (nI (sst oo ii x.toNatClampNeg))) ∧ w = [(mx, .inr (6, [.int (nI n), .ref m1, .ref m2, .ref m3, .ref m4, .int (nI nl), .ref m5, .ref m6, .ref m7, .ref m8, .ref m9, .int (nI ct), .ref m10])), (m1, .inl (cI, 16, .inl (iA oo))), (m2, .inl (cI, 16, .inl (iA ii))), (m9, .inl (cI, 17, .inl (iA s9)))]) := by
  refine MI.of (cc := cX6_state) (maxL := 2) (ret := (some .int)) (own := RX6) (by decide) rfl rfl (Nat.le_of_ble_eq_true rfl) ?_
  intro pQ eQ s mQ args below meth cQ A X hw ls hl
  obtain ⟨⟨hx, hb, hml, hown, hts⟩, hr, hlk, hK, hN, hA⟩ := id X
  have hl : lv_has ls 2 [(0, .ref mx), (1, .int x)] := hl
  have n6 : ∀ w ∈ wsX60, w ∈ wsX6_state := by decide +kernel
  have f35 : FF args s RX6 wsX6_state 35 6 10 := ⟨_, rfl, by decide, n6, hts (.fieldLink RX6 35 "AirStepsModel" "states" "[I") (by decide +kernel)⟩
  refine lv_aload_n hx hb dX6_state_0 rfl (lv_at hl 0 rfl) ?_
  refine lv_iload_n hx hb dX6_state_1 rfl (lv_at hl 1 rfl) ?_
  refine x_callV (As := [.int x]) (rest := []) X hw hl.1 (c_X6_isStep l D cI cZ mx m1 m2 m3 m4 m5 m6 m7 m8 m9 m10 n nl ct x (by first | assumption | omega)) (cwV 1 hts gX6_state_X6_isStep rfl rfl rfl (by decide +kernel) ⟨Nat.le_of_ble_eq_true rfl, Nat.le_of_ble_eq_true rfl⟩) [0] rfl rfl 0 rfl rfl rfl rfl (Nat.le_of_ble_eq_true rfl) dX6_state_2 (by decide) (fun r w1 H locs hp hw1 => ?_)
  obtain ⟨rfl, rfl⟩ := hp
  have hw : WD D A s.heap [(mx, .inr (6, [.int (nI n), .ref m1, .ref m2, .ref m3, .ref m4, .int (nI nl), .ref m5, .ref m6, .ref m7, .ref m8, .ref m9, .int (nI ct), .ref m10])), (m1, .inl (cI, 16, .inl (iA oo))), (m2, .inl (cI, 16, .inl (iA ii))), (m9, .inl (cI, 17, .inl (iA ss)))] H locs := hw1 rfl
  refine lv_if_ne (tgt := 13) hx hb dX6_state_5 (by decide) (fun c_5 => ?_) (fun c_5 => ?_)
  · skip
    rw [q_b0] at c_5; try simp only [Bool.not_eq_false, Bool.not_eq_true] at c_5
    obtain ⟨k, hk, rfl⟩ := bel_t (by omega) c_5
    refine lv_aload_n hx hb dX6_state_13 rfl (lv_at hl 0 rfl) ?_
    refine x_callV (As := []) (rest := []) X hw hl.1 (c_X6_isSound l D cI cZ mx m1 m2 m3 m4 m5 m6 m7 m8 m9 m10 n nl ct oo ii ss (by first | assumption | omega) (by first | assumption | omega) (by first | assumption | omega) (by first | assumption | omega)) (cwV 0 hts gX6_state_X6_isSound rfl rfl rfl (by decide +kernel) ⟨Nat.le_of_ble_eq_true rfl, Nat.le_of_ble_eq_true rfl⟩) [0, 1, 2, 3] rfl rfl 0 rfl rfl rfl rfl (Nat.le_of_ble_eq_true rfl) dX6_state_14 (by decide) (fun r w1 H locs hp hw1 => ?_)
    obtain ⟨s2, hs2, hb2, rfl, rfl⟩ := hp
    have hw : WD D A s.heap [(mx, .inr (6, [.int (nI n), .ref m1, .ref m2, .ref m3, .ref m4, .int (nI nl), .ref m5, .ref m6, .ref m7, .ref m8, .ref m9, .int (nI ct), .ref m10])), (m1, .inl (cI, 16, .inl (iA oo))), (m2, .inl (cI, 16, .inl (iA ii))), (m9, .inl (cI, 17, .inl (iA s2)))] H locs := hw1 rfl
    refine lv_if_eq (tgt := 29) hx hb dX6_state_17 (by decide) (fun c_17 => ?_) (fun c_17 => ?_)
    · skip
      rw [q_b0] at c_17; try simp only [Bool.not_eq_false, Bool.not_eq_true] at c_17
      have hs := of_decide_eq_false c_17
      refine lv_bipush (v := (-3)) hx hb dX6_state_29 (by decide) ?_
      exact x_iret X hw (⟨s2, (hb2), (by first | (rw [gd2_t c_5, gd1_f hs]; done) | (rw [gd2_t c_5, gd1_t hs, nc k (by omega), hs3 k (by omega)]; done)), rfl⟩) dX6_state_31
    · skip
      rw [q_b0] at c_17; try simp only [Bool.not_eq_false, Bool.not_eq_true] at c_17
      have hs := of_decide_eq_true c_17
      have hn0 := fwR_pos hs
      have hs3 := hs2 hs
      refine lv_aload_n hx hb dX6_state_20 rfl (lv_at hl 0 rfl) ?_
      refine x_get X hw f35 0 rfl rfl dX6_state_21 ?_
      refine lv_iload_n hx hb dX6_state_24 rfl (lv_at hl 1 rfl) ?_
      refine x_aldN X hw 3 rfl (by omega) (by omega) dX6_state_25 ?_
      refine lv_goto (tgt := 31) hx hb dX6_state_26 (by decide) ?_
      exact x_iret X hw (⟨s2, (hb2), (by first | (rw [gd2_t c_5, gd1_f hs]; done) | (rw [gd2_t c_5, gd1_t hs, nc k (by omega), hs3 k (by omega)]; done)), rfl⟩) dX6_state_31
  · skip
    rw [q_b0] at c_5; try simp only [Bool.not_eq_false, Bool.not_eq_true] at c_5
    refine lv_bipush (v := (-2)) hx hb dX6_state_8 (by decide) ?_
    refine lv_goto (tgt := 31) hx hb dX6_state_10 (by decide) ?_
    exact x_iret X hw (⟨ss, (hss), ((gd2_f c_5).symm), rfl⟩) dX6_state_31
set_option maxHeartbeats 4000000 in
set_option maxRecDepth 100000 in
theorem c_X6_ahead (l : Launch) (D : va_G) (cI cZ : ClassId) (mx : Nat) (m1 : Nat) (m2 : Nat) (m3 : Nat) (m4 : Nat) (m5 : Nat) (m6 : Nat) (m7 : Nat) (m8 : Nat) (m9 : Nat) (m10 : Nat) (n : Nat) (nl : Nat) (ct : Nat) (k : Nat) (hn : n ≤ 16) (hk : k < n) : MI l D cI cZ yX6_ahead wsX6_ahead ({ frames := 0, cells := 0, slots := 0, locals := 0 }) [.ref mx, .int (nI k)] [(mx, .inr (6, [.int (nI n), .ref m1, .ref m2, .ref m3, .ref m4, .int (nI nl), .ref m5, .ref m6, .ref m7, .ref m8, .ref m9, .int (nI ct), .ref m10]))] (fun r w => r = (nI (pr n k)) ∧ w = [(mx, .inr (6, [.int (nI n), .ref m1, .ref m2, .ref m3, .ref m4, .int (nI nl), .ref m5, .ref m6, .ref m7, .ref m8, .ref m9, .int (nI ct), .ref m10]))]) := by
  refine MI.of (cc := cX6_ahead) (maxL := 2) (ret := (some .int)) (own := RX6) (by decide) rfl rfl (Nat.le_of_ble_eq_true rfl) ?_
  intro pQ eQ s mQ args below meth cQ A X hw ls hl
  obtain ⟨⟨hx, hb, hml, hown, hts⟩, hr, hlk, hK, hN, hA⟩ := id X
  have hl : lv_has ls 2 [(0, .ref mx), (1, .int (nI k))] := hl
  have n6 : ∀ w ∈ wsX60, w ∈ wsX6_ahead := by decide +kernel
  have f45 : FF args s RX6 wsX6_ahead 45 6 0 := ⟨_, rfl, by decide, n6, hts (.fieldLink RX6 45 "AirStepsModel" "n" "I") (by decide +kernel)⟩
  refine lv_iload_n hx hb dX6_ahead_0 rfl (lv_at hl 1 rfl) ?_
  refine lv_if_ne (tgt := 13) hx hb dX6_ahead_1 (by decide) (fun c_1 => ?_) (fun c_1 => ?_)
  · skip
    rw [q_eq0 (by omega)] at c_1
    refine lv_iload_n hx hb dX6_ahead_13 rfl (lv_at hl 1 rfl) ?_
    refine lv_iconst (v := nI 1) hx hb dX6_ahead_14 (by decide) ?_
    refine lv_isub hx hb dX6_ahead_15 ?_
    refine cv_i (show nI k - nI 1 = nI (k - 1) from pk_sub (by first | omega | assumption)) ?_
    exact x_iret X hw (⟨(by simp [pr, c_1]), rfl⟩) dX6_ahead_16
  · skip
    rw [q_eq0 (by omega)] at c_1
    refine lv_aload_n hx hb dX6_ahead_4 rfl (lv_at hl 0 rfl) ?_
    refine x_get X hw f45 0 rfl rfl dX6_ahead_5 ?_
    refine lv_iconst (v := nI 1) hx hb dX6_ahead_8 (by decide) ?_
    refine lv_isub hx hb dX6_ahead_9 ?_
    refine cv_i (show nI n - nI 1 = nI (n - 1) from pk_sub (by first | omega | assumption)) ?_
    refine lv_goto (tgt := 16) hx hb dX6_ahead_10 (by decide) ?_
    exact x_iret X hw (⟨(by simp [pr, c_1]), rfl⟩) dX6_ahead_16
set_option maxHeartbeats 4000000 in
set_option maxRecDepth 100000 in
theorem c_X6_isOn (l : Launch) (D : va_G) (cI cZ : ClassId) (mx : Nat) (m1 : Nat) (m2 : Nat) (m3 : Nat) (m4 : Nat) (m5 : Nat) (m6 : Nat) (m7 : Nat) (m8 : Nat) (m9 : Nat) (m10 : Nat) (n : Nat) (nl : Nat) (ct : Nat) (oo : Nat → Nat) (ii : Nat → Nat) (k : Nat) (st : Nat) (hn : n ≤ 16) (hoo : ∀ k, oo k < 64) (hii : ∀ k, ii k < 64) (hk : k < n) : MI l D cI cZ yX6_isOn wsX6_isOn ({ frames := 1, cells := 0, slots := 0, locals := 21 }) [.ref mx, .int (nI k), .int (nI st)] [(mx, .inr (6, [.int (nI n), .ref m1, .ref m2, .ref m3, .ref m4, .int (nI nl), .ref m5, .ref m6, .ref m7, .ref m8, .ref m9, .int (nI ct), .ref m10])), (m1, .inl (cI, 16, .inl (iA oo))), (m2, .inl (cI, 16, .inl (iA ii)))] (fun r w => r = (bI (onR oo ii n k st)) ∧ w = [(mx, .inr (6, [.int (nI n), .ref m1, .ref m2, .ref m3, .ref m4, .int (nI nl), .ref m5, .ref m6, .ref m7, .ref m8, .ref m9, .int (nI ct), .ref m10])), (m1, .inl (cI, 16, .inl (iA oo))), (m2, .inl (cI, 16, .inl (iA ii)))]) := by
  refine MI.of (cc := cX6_isOn) (maxL := 4) (ret := (some .boolean)) (own := RX6) (by decide) rfl rfl (Nat.le_of_ble_eq_true rfl) ?_
  intro pQ eQ s mQ args below meth cQ A X hw ls hl
  obtain ⟨⟨hx, hb, hml, hown, hts⟩, hr, hlk, hK, hN, hA⟩ := id X
  have hl : lv_has ls 4 [(0, .ref mx), (1, .int (nI k)), (2, .int (nI st))] := hl
  have n6 : ∀ w ∈ wsX60, w ∈ wsX6_isOn := by decide +kernel
  have f7 : FF args s RX6 wsX6_isOn 7 6 1 := ⟨_, rfl, by decide, n6, hts (.fieldLink RX6 7 "AirStepsModel" "outs" "[I") (by decide +kernel)⟩
  have f13 : FF args s RX6 wsX6_isOn 13 6 2 := ⟨_, rfl, by decide, n6, hts (.fieldLink RX6 13 "AirStepsModel" "ins" "[I") (by decide +kernel)⟩
  refine lv_aload_n hx hb dX6_isOn_0 rfl (lv_at hl 0 rfl) ?_
  refine lv_iload_n hx hb dX6_isOn_1 rfl (lv_at hl 1 rfl) ?_
  refine x_callV (As := [.int (nI k)]) (rest := []) X hw hl.1 (c_X6_ahead l D cI cZ mx m1 m2 m3 m4 m5 m6 m7 m8 m9 m10 n nl ct k (by first | assumption | omega) (by first | assumption | omega)) (cwV 1 hts gX6_isOn_X6_ahead rfl rfl rfl (by decide +kernel) ⟨Nat.le_of_ble_eq_true rfl, Nat.le_of_ble_eq_true rfl⟩) [0] rfl rfl 0 rfl rfl rfl rfl (Nat.le_of_ble_eq_true rfl) dX6_isOn_2 (by decide) (fun r w1 H locs hp hw1 => ?_)
  obtain ⟨rfl, rfl⟩ := hp
  have hw : WD D A s.heap [(mx, .inr (6, [.int (nI n), .ref m1, .ref m2, .ref m3, .ref m4, .int (nI nl), .ref m5, .ref m6, .ref m7, .ref m8, .ref m9, .int (nI ct), .ref m10])), (m1, .inl (cI, 16, .inl (iA oo))), (m2, .inl (cI, 16, .inl (iA ii)))] H locs := hw1 rfl
  have hpr := pr_lt hk
  refine lv_istore_n (lv' := [(3, .int (nI (pr n k))), (0, .ref mx), (1, .int (nI k)), (2, .int (nI st))]) hx hb dX6_isOn_5 rfl hl (by decide) rfl (fun ls hl => ?_)
  refine lv_aload_n hx hb dX6_isOn_6 rfl (lv_at hl 1 rfl) ?_
  refine x_get X hw f7 0 rfl rfl dX6_isOn_7 ?_
  refine lv_iload_n hx hb dX6_isOn_10 rfl (lv_at hl 0 rfl) ?_
  refine x_aldN X hw 1 rfl (by omega) (by omega) dX6_isOn_11 ?_
  have hb_11 := hoo (pr n k)
  refine lv_iload_n hx hb dX6_isOn_12 rfl (lv_at hl 3 rfl) ?_
  refine lv_iconst (v := (-1)) hx hb dX6_isOn_13 (by decide) ?_
  refine lv_ixor hx hb dX6_isOn_14 ?_
  refine lv_iand hx hb dX6_isOn_15 ?_
  refine cv_i (show nI (oo (pr n k)) &&& (nI st ^^^ (-1 : Int32)) = nI (anN (oo (pr n k)) st) from q_anR (oo (pr n k)) st) ?_
  refine lv_if_ne (tgt := 34) hx hb dX6_isOn_16 (by decide) (fun c_16 => ?_) (fun c_16 => ?_)
  · skip
    rw [q_eq0 (Nat.lt_trans (anN_lt (k := 6) (hoo _)) (by decide))] at c_16
    refine lv_iconst (v := nI 0) hx hb dX6_isOn_34 (by decide) ?_
    refine cv_i (show nI 0 = bI false from by decide) ?_
    exact x_zret X hw (⟨(by simp [onR, c_16]), rfl⟩) dX6_isOn_35
  · skip
    rw [q_eq0 (Nat.lt_trans (anN_lt (k := 6) (hoo _)) (by decide))] at c_16
    refine lv_aload_n hx hb dX6_isOn_19 rfl (lv_at hl 1 rfl) ?_
    refine x_get X hw f13 0 rfl rfl dX6_isOn_20 ?_
    refine lv_iload_n hx hb dX6_isOn_23 rfl (lv_at hl 0 rfl) ?_
    refine x_aldN X hw 2 rfl (by omega) (by omega) dX6_isOn_24 ?_
    have hb_24 := hii (pr n k)
    refine lv_iload_n hx hb dX6_isOn_25 rfl (lv_at hl 3 rfl) ?_
    refine lv_iand hx hb dX6_isOn_26 ?_
    refine cv_i (show nI (ii (pr n k)) &&& nI st = nI ((ii (pr n k)) &&& st) from q_and (ii (pr n k)) st) ?_
    refine lv_if_ne (tgt := 34) hx hb dX6_isOn_27 (by decide) (fun c_27 => ?_) (fun c_27 => ?_)
    · skip
      rw [q_eq0 (Nat.lt_of_le_of_lt Nat.and_le_left (by omega))] at c_27
      refine lv_iconst (v := nI 0) hx hb dX6_isOn_34 (by decide) ?_
      refine cv_i (show nI 0 = bI false from by decide) ?_
      exact x_zret X hw (⟨(by simp [onR, c_16, c_27]), rfl⟩) dX6_isOn_35
    · skip
      rw [q_eq0 (Nat.lt_of_le_of_lt Nat.and_le_left (by omega))] at c_27
      refine lv_iconst (v := nI 1) hx hb dX6_isOn_30 (by decide) ?_
      refine lv_goto (tgt := 35) hx hb dX6_isOn_31 (by decide) ?_
      refine cv_i (show nI 1 = bI true from by decide) ?_
      exact x_zret X hw (⟨(by simp [onR, c_16, c_27]), rfl⟩) dX6_isOn_35
