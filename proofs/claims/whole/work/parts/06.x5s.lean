/-! ===== the class's static methods ===== -/
def bel (x b : Int32) : Bool := decide (¬ x < 0 ∧ ¬ b ≤ x)
def sen (st : Nat) : Nat := (st <<< 6) ||| anN 63 st
def cyl (e : Nat) : Nat := (e >>> 6) ||| (e &&& 63)
def enE (c : Nat) (o : Bool) : Nat := if o then c + 6 else c
def cyE (e : Nat) : Nat := if e < 6 then e else e - 6
theorem bel_nI {k n : Nat} (hk : k < 2 ^ 31) (hn : n < 2 ^ 31) : bel (nI k) (nI n) = decide (k < n) := by
  unfold bel
  by_cases h : k < n
  · simp [h, nI_pos hk, nI_leI hn hk]
  · simp [h, nI_pos hk, nI_leI hn hk]
theorem bel_t {x : Int32} {n : Nat} (hn : n < 2 ^ 31) (h : bel x (nI n) = true) : ∃ j : Nat, j < n ∧ x = nI j := by
  unfold bel at h
  have h := of_decide_eq_true h
  exact q_nI hn h.1 h.2
theorem sen_lt {st : Nat} (h : st < 64) : sen st < 4096 := by
  revert st
  decide +kernel
theorem anN_lt {a b k : Nat} (h : b < 2 ^ k) : anN b a < 2 ^ k := by
  refine Nat.lt_pow_two_of_testBit _ (fun i hi => ?_)
  rw [anN_bit, Nat.testBit_lt_two_pow (Nat.lt_of_lt_of_le h (Nat.pow_le_pow_right (by decide) hi))]
  rfl
theorem cyl_lt {e : Nat} (h : e < 4096) : cyl e < 64 := by
  refine Nat.or_lt_two_pow (n := 6) ?_ ?_
  · rw [Nat.shiftRight_eq_div_pow]; omega
  · exact Nat.lt_of_le_of_lt Nat.and_le_right (by decide)
set_option maxHeartbeats 4000000 in
set_option maxRecDepth 100000 in
theorem c_X5_isBelow (l : Launch) (D : va_G) (cI cZ : ClassId) (x : Int32) (b : Int32)  : MI l D cI cZ yX5_isBelow wsX5_isBelow ({ frames := 0, cells := 0, slots := 0, locals := 0 }) [.int x, .int b] [] (fun r w => r = (bI (bel x b)) ∧ w = []) := by
  refine MI.of (cc := cX5_isBelow) (maxL := 2) (ret := (some .boolean)) (own := RX5) (by decide) rfl rfl (Nat.le_of_ble_eq_true rfl) ?_
  intro pQ eQ s mQ args below meth cQ A X hw ls hl
  obtain ⟨⟨hx, hb, hml, hown, hts⟩, hr, hlk, hK, hN, hA⟩ := id X
  have hl : lv_has ls 2 [(0, .int x), (1, .int b)] := hl
  refine lv_iload_n hx hb dX5_isBelow_0 rfl (lv_at hl 0 rfl) ?_
  refine lv_if_lt (tgt := 13) hx hb dX5_isBelow_1 (by decide) (fun c_1 => ?_) (fun c_1 => ?_)
  · skip
    refine lv_iconst (v := nI 0) hx hb dX5_isBelow_13 (by decide) ?_
    refine cv_i (show nI 0 = bI false from by decide) ?_
    exact x_zret X hw (⟨(by simp [bel, c_1]), rfl⟩) dX5_isBelow_14
  · skip
    refine lv_iload_n hx hb dX5_isBelow_4 rfl (lv_at hl 0 rfl) ?_
    refine lv_iload_n hx hb dX5_isBelow_5 rfl (lv_at hl 1 rfl) ?_
    refine lv_icmp_ge (tgt := 13) hx hb dX5_isBelow_6 (by decide) (fun c_6 => ?_) (fun c_6 => ?_)
    · skip
      refine lv_iconst (v := nI 0) hx hb dX5_isBelow_13 (by decide) ?_
      refine cv_i (show nI 0 = bI false from by decide) ?_
      exact x_zret X hw (⟨(by simp [bel, c_1, c_6]), rfl⟩) dX5_isBelow_14
    · skip
      refine lv_iconst (v := nI 1) hx hb dX5_isBelow_9 (by decide) ?_
      refine lv_goto (tgt := 14) hx hb dX5_isBelow_10 (by decide) ?_
      refine cv_i (show nI 1 = bI true from by decide) ?_
      exact x_zret X hw (⟨(by simp [bel, c_1, c_6]), rfl⟩) dX5_isBelow_14
set_option maxHeartbeats 4000000 in
set_option maxRecDepth 100000 in
theorem c_X5_isState (l : Launch) (D : va_G) (cI cZ : ClassId) (x : Int32)  : MI l D cI cZ yX5_isState wsX5_isState ({ frames := 1, cells := 0, slots := 0, locals := 21 }) [.int x] [] (fun r w => r = (bI (bel x (nI 64))) ∧ w = []) := by
  refine MI.of (cc := cX5_isState) (maxL := 1) (ret := (some .boolean)) (own := RX5) (by decide) rfl rfl (Nat.le_of_ble_eq_true rfl) ?_
  intro pQ eQ s mQ args below meth cQ A X hw ls hl
  obtain ⟨⟨hx, hb, hml, hown, hts⟩, hr, hlk, hK, hN, hA⟩ := id X
  have hl : lv_has ls 1 [(0, .int x)] := hl
  refine lv_iload_n hx hb dX5_isState_0 rfl (lv_at hl 0 rfl) ?_
  refine lv_bipush (v := nI 64) hx hb dX5_isState_1 (by decide) ?_
  refine x_callS (As := [.int x, .int (nI 64)]) (rest := []) X hw hl.1 (c_X5_isBelow l D cI cZ x (nI 64) ) (va_cwS 2 hts gX5_isState_X5_isBelow rfl rfl rfl (by decide +kernel) ⟨Nat.le_of_ble_eq_true rfl, Nat.le_of_ble_eq_true rfl⟩) [] rfl rfl rfl (Nat.le_of_ble_eq_true rfl) dX5_isState_3 (by decide) (fun r w1 H locs hp hw1 => ?_)
  obtain ⟨rfl, rfl⟩ := hp
  have hw : WD D A s.heap [] H locs := hw1 rfl
  exact x_zret X hw (⟨(by first | rfl | omega), rfl⟩) dX5_isState_6
set_option maxHeartbeats 4000000 in
set_option maxRecDepth 100000 in
theorem c_X5_has (l : Launch) (D : va_G) (cI cZ : ClassId) (b : Nat) (k : Nat) (hb1 : b < 2 ^ 31) (hk1 : k < 32) : MI l D cI cZ yX5_has wsX5_has ({ frames := 0, cells := 0, slots := 0, locals := 0 }) [.int (nI b), .int (nI k)] [] (fun r w => r = (bI (b.testBit k)) ∧ w = []) := by
  refine MI.of (cc := cX5_has) (maxL := 2) (ret := (some .boolean)) (own := RX5) (by decide) rfl rfl (Nat.le_of_ble_eq_true rfl) ?_
  intro pQ eQ s mQ args below meth cQ A X hw ls hl
  obtain ⟨⟨hx, hb, hml, hown, hts⟩, hr, hlk, hK, hN, hA⟩ := id X
  have hl : lv_has ls 2 [(0, .int (nI b)), (1, .int (nI k))] := hl
  refine lv_iload_n hx hb dX5_has_0 rfl (lv_at hl 0 rfl) ?_
  refine lv_iload_n hx hb dX5_has_1 rfl (lv_at hl 1 rfl) ?_
  refine lv_ishr hx hb dX5_has_2 ?_
  refine cv_i (show (nI b) >>> (nI k &&& 31) = nI (b >>> k) from q_shr b k (by first | omega | assumption) (by first | omega | assumption)) ?_
  refine lv_iconst (v := nI 1) hx hb dX5_has_3 (by decide) ?_
  refine lv_iand hx hb dX5_has_4 ?_
  refine cv_i (show nI (b >>> k) &&& nI 1 = bI (b.testBit k) from q_bit b k) ?_
  refine lv_if_eq (tgt := 12) hx hb dX5_has_5 (by decide) (fun c_5 => ?_) (fun c_5 => ?_)
  · skip
    rw [q_b0] at c_5; try simp only [Bool.not_eq_false, Bool.not_eq_true] at c_5
    refine lv_iconst (v := nI 0) hx hb dX5_has_12 (by decide) ?_
    refine cv_i (show nI 0 = bI false from by decide) ?_
    exact x_zret X hw (⟨(by rw [c_5]), rfl⟩) dX5_has_13
  · skip
    rw [q_b0] at c_5; try simp only [Bool.not_eq_false, Bool.not_eq_true] at c_5
    refine lv_iconst (v := nI 1) hx hb dX5_has_8 (by decide) ?_
    refine lv_goto (tgt := 13) hx hb dX5_has_9 (by decide) ?_
    refine cv_i (show nI 1 = bI true from by decide) ?_
    exact x_zret X hw (⟨(by rw [c_5]), rfl⟩) dX5_has_13
set_option maxHeartbeats 4000000 in
set_option maxRecDepth 100000 in
theorem c_X5_leastOf (l : Launch) (D : va_G) (cI cZ : ClassId) (b : Nat) (hb1 : b < 2 ^ 31) : MI l D cI cZ yX5_leastOf wsX5_leastOf ({ frames := 1, cells := 0, slots := 0, locals := 21 }) [.int (nI b)] [] (fun r w => r = (fsI (fun c => b.testBit c) 6) ∧ w = []) := by
  refine MI.of (cc := cX5_leastOf) (maxL := 2) (ret := (some .int)) (own := RX5) (by decide) rfl rfl (Nat.le_of_ble_eq_true rfl) ?_
  intro pQ eQ s mQ args below meth cQ A X hw ls hl
  obtain ⟨⟨hx, hb, hml, hown, hts⟩, hr, hlk, hK, hN, hA⟩ := id X
  have hl : lv_has ls 2 [(0, .int (nI b))] := hl
  refine lv_iconst (v := nI 0) hx hb dX5_leastOf_0 (by decide) ?_
  refine lv_istore_n (lv' := [(1, .int (nI 0)), (0, .int (nI b))]) hx hb dX5_leastOf_1 rfl hl (by decide) rfl (fun ls hl => ?_)
  refine wl (α := Nat) (nL := 2) (fun aQ => 6 - aQ) (fun aQ => (aQ ≤ 6) ∧ (∀ j, j < aQ → b.testBit j = false)) (fun aQ => []) (fun aQ => [(1, .int (nI aQ)), (0, .int (nI b))]) ?_ 0 ⟨(show 0 ≤ 6 from by omega), (show ∀ j, j < 0 → b.testBit j = false from fun j hj => absurd hj (Nat.not_lt_zero j))⟩ _ _ _ hw (lv_sub hl [0, 1] rfl)
  rintro i ⟨hi, hq⟩ H locs ls hw hl ih_2
  have hi : i ≤ 6 := hi
  have hq : ∀ j, j < i → b.testBit j = false := hq
  have hw : WD D A s.heap [] H locs := hw
  have hl : lv_has ls 2 [(1, .int (nI i)), (0, .int (nI b))] := hl
  refine lv_iload_n hx hb dX5_leastOf_2 rfl (lv_at hl 0 rfl) ?_
  refine lv_bipush (v := nI 6) hx hb dX5_leastOf_3 (by decide) ?_
  refine lv_icmp_ge (tgt := 24) hx hb dX5_leastOf_5 (by decide) (fun c_5 => ?_) (fun c_5 => ?_)
  · skip
    rw [nI_leI (by omega) (by omega)] at c_5
    refine lv_iconst (v := (-1)) hx hb dX5_leastOf_24 (by decide) ?_
    exact x_iret X hw (⟨((fsI_no (P := fun c => b.testBit c) (fun j hj => hq j (by omega))).symm), rfl⟩) dX5_leastOf_25
  · skip
    rw [nI_leI (by omega) (by omega)] at c_5
    refine lv_iload_n hx hb dX5_leastOf_8 rfl (lv_at hl 1 rfl) ?_
    refine lv_iload_n hx hb dX5_leastOf_9 rfl (lv_at hl 0 rfl) ?_
    refine x_callS (As := [.int (nI b), .int (nI i)]) (rest := []) X hw hl.1 (c_X5_has l D cI cZ b i (by first | assumption | omega) (by first | assumption | omega)) (va_cwS 2 hts gX5_leastOf_X5_has rfl rfl rfl (by decide +kernel) ⟨Nat.le_of_ble_eq_true rfl, Nat.le_of_ble_eq_true rfl⟩) [] rfl rfl rfl (Nat.le_of_ble_eq_true rfl) dX5_leastOf_10 (by decide) (fun r w1 H locs hp hw1 => ?_)
    obtain ⟨rfl, rfl⟩ := hp
    have hw : WD D A s.heap [] H locs := hw1 rfl
    refine lv_if_eq (tgt := 18) hx hb dX5_leastOf_13 (by decide) (fun c_13 => ?_) (fun c_13 => ?_)
    · skip
      rw [q_b0] at c_13; try simp only [Bool.not_eq_false, Bool.not_eq_true] at c_13
      refine lv_iinc (v := nI (i + 1)) (lv' := [(1, .int (nI (i + 1))), (0, .int (nI b))]) hx hb dX5_leastOf_18 hl (k := 0) rfl (nI_add i 1) (by decide) rfl (fun ls hl => ?_)
      refine lv_goto (tgt := 2) hx hb dX5_leastOf_21 (by decide) ?_
      exact ih_2 (i + 1) (by show 6 - (i + 1) < 6 - i; omega) ⟨(show (i + 1) ≤ 6 from by omega), (show ∀ j, j < (i + 1) → b.testBit j = false from lt_snoc (P := fun c => b.testBit c) hq c_13)⟩ _ _ _ hw (lv_sub hl [0, 1] rfl)
    · skip
      rw [q_b0] at c_13; try simp only [Bool.not_eq_false, Bool.not_eq_true] at c_13
      refine lv_iload_n hx hb dX5_leastOf_16 rfl (lv_at hl 0 rfl) ?_
      exact x_iret X hw (⟨((fsI_yes (P := fun c => b.testBit c) (by omega) hq c_13).symm), rfl⟩) dX5_leastOf_17
set_option maxHeartbeats 4000000 in
set_option maxRecDepth 100000 in
theorem c_X5_endOf (l : Launch) (D : va_G) (cI cZ : ClassId) (c : Nat) (o : Bool)  : MI l D cI cZ yX5_endOf wsX5_endOf ({ frames := 0, cells := 0, slots := 0, locals := 0 }) [.int (nI c), .int (bI o)] [] (fun r w => r = (nI (enE c o)) ∧ w = []) := by
  refine MI.of (cc := cX5_endOf) (maxL := 2) (ret := (some .int)) (own := RX5) (by decide) rfl rfl (Nat.le_of_ble_eq_true rfl) ?_
  intro pQ eQ s mQ args below meth cQ A X hw ls hl
  obtain ⟨⟨hx, hb, hml, hown, hts⟩, hr, hlk, hK, hN, hA⟩ := id X
  have hl : lv_has ls 2 [(0, .int (nI c)), (1, .int (bI o))] := hl
  refine lv_iload_n hx hb dX5_endOf_0 rfl (lv_at hl 1 rfl) ?_
  refine lv_if_eq (tgt := 11) hx hb dX5_endOf_1 (by decide) (fun c_1 => ?_) (fun c_1 => ?_)
  · skip
    rw [q_b0] at c_1; try simp only [Bool.not_eq_false, Bool.not_eq_true] at c_1
    refine lv_iload_n hx hb dX5_endOf_11 rfl (lv_at hl 0 rfl) ?_
    exact x_iret X hw (⟨(by rw [c_1]; rfl), rfl⟩) dX5_endOf_12
  · skip
    rw [q_b0] at c_1; try simp only [Bool.not_eq_false, Bool.not_eq_true] at c_1
    refine lv_iload_n hx hb dX5_endOf_4 rfl (lv_at hl 0 rfl) ?_
    refine lv_bipush (v := nI 6) hx hb dX5_endOf_5 (by decide) ?_
    refine lv_iadd hx hb dX5_endOf_7 ?_
    refine cv_i (show nI c + nI 6 = nI (c + 6) from nI_add c 6) ?_
    refine lv_goto (tgt := 12) hx hb dX5_endOf_8 (by decide) ?_
    exact x_iret X hw (⟨(by rw [c_1]; rfl), rfl⟩) dX5_endOf_12
set_option maxHeartbeats 4000000 in
set_option maxRecDepth 100000 in
theorem c_X5_cylinderOf (l : Launch) (D : va_G) (cI cZ : ClassId) (e1 : Nat) (he1 : e1 < 2 ^ 31) : MI l D cI cZ yX5_cylinderOf wsX5_cylinderOf ({ frames := 0, cells := 0, slots := 0, locals := 0 }) [.int (nI e1)] [] (fun r w => r = (nI (cyE e1)) ∧ w = []) := by
  refine MI.of (cc := cX5_cylinderOf) (maxL := 1) (ret := (some .int)) (own := RX5) (by decide) rfl rfl (Nat.le_of_ble_eq_true rfl) ?_
  intro pQ eQ s mQ args below meth cQ A X hw ls hl
  obtain ⟨⟨hx, hb, hml, hown, hts⟩, hr, hlk, hK, hN, hA⟩ := id X
  have hl : lv_has ls 1 [(0, .int (nI e1))] := hl
  refine lv_iload_n hx hb dX5_cylinderOf_0 rfl (lv_at hl 0 rfl) ?_
  refine lv_bipush (v := nI 6) hx hb dX5_cylinderOf_1 (by decide) ?_
  refine lv_icmp_ge (tgt := 10) hx hb dX5_cylinderOf_3 (by decide) (fun c_3 => ?_) (fun c_3 => ?_)
  · skip
    rw [nI_leI (by omega) (by omega)] at c_3
    refine lv_iload_n hx hb dX5_cylinderOf_10 rfl (lv_at hl 0 rfl) ?_
    refine lv_bipush (v := nI 6) hx hb dX5_cylinderOf_11 (by decide) ?_
    refine lv_isub hx hb dX5_cylinderOf_13 ?_
    refine cv_i (show nI e1 - nI 6 = nI (e1 - 6) from pk_sub (by first | omega | assumption)) ?_
    exact x_iret X hw (⟨(congrArg nI (by unfold cyE; split <;> omega)), rfl⟩) dX5_cylinderOf_14
  · skip
    rw [nI_leI (by omega) (by omega)] at c_3
    refine lv_iload_n hx hb dX5_cylinderOf_6 rfl (lv_at hl 0 rfl) ?_
    refine lv_goto (tgt := 14) hx hb dX5_cylinderOf_7 (by decide) ?_
    exact x_iret X hw (⟨(congrArg nI (by unfold cyE; split <;> omega)), rfl⟩) dX5_cylinderOf_14
set_option maxHeartbeats 4000000 in
set_option maxRecDepth 100000 in
theorem c_X5_endsTo (l : Launch) (D : va_G) (cI cZ : ClassId) (o : Nat) (i : Nat)  : MI l D cI cZ yX5_endsTo wsX5_endsTo ({ frames := 0, cells := 0, slots := 0, locals := 0 }) [.int (nI o), .int (nI i)] [] (fun r w => r = (nI ((o <<< 6) ||| i)) ∧ w = []) := by
  refine MI.of (cc := cX5_endsTo) (maxL := 2) (ret := (some .int)) (own := RX5) (by decide) rfl rfl (Nat.le_of_ble_eq_true rfl) ?_
  intro pQ eQ s mQ args below meth cQ A X hw ls hl
  obtain ⟨⟨hx, hb, hml, hown, hts⟩, hr, hlk, hK, hN, hA⟩ := id X
  have hl : lv_has ls 2 [(0, .int (nI o)), (1, .int (nI i))] := hl
  refine lv_iload_n hx hb dX5_endsTo_0 rfl (lv_at hl 0 rfl) ?_
  refine lv_bipush (v := nI 6) hx hb dX5_endsTo_1 (by decide) ?_
  refine lv_ishl hx hb dX5_endsTo_3 ?_
  refine cv_i (show (nI o) <<< (nI 6 &&& 31) = nI (o <<< 6) from q_shl o 6 (by first | omega | assumption)) ?_
  refine lv_iload_n hx hb dX5_endsTo_4 rfl (lv_at hl 1 rfl) ?_
  refine lv_ior hx hb dX5_endsTo_5 ?_
  refine cv_i (show nI (o <<< 6) ||| nI i = nI ((o <<< 6) ||| i) from q_or (o <<< 6) i) ?_
  exact x_iret X hw (⟨(by first | rfl | omega), rfl⟩) dX5_endsTo_6
set_option maxHeartbeats 4000000 in
set_option maxRecDepth 100000 in
theorem c_X5_outsOf (l : Launch) (D : va_G) (cI cZ : ClassId) (e1 : Nat) (he1 : e1 < 2 ^ 31) : MI l D cI cZ yX5_outsOf wsX5_outsOf ({ frames := 0, cells := 0, slots := 0, locals := 0 }) [.int (nI e1)] [] (fun r w => r = (nI (e1 >>> 6)) ∧ w = []) := by
  refine MI.of (cc := cX5_outsOf) (maxL := 1) (ret := (some .int)) (own := RX5) (by decide) rfl rfl (Nat.le_of_ble_eq_true rfl) ?_
  intro pQ eQ s mQ args below meth cQ A X hw ls hl
  obtain ⟨⟨hx, hb, hml, hown, hts⟩, hr, hlk, hK, hN, hA⟩ := id X
  have hl : lv_has ls 1 [(0, .int (nI e1))] := hl
  refine lv_iload_n hx hb dX5_outsOf_0 rfl (lv_at hl 0 rfl) ?_
  refine lv_bipush (v := nI 6) hx hb dX5_outsOf_1 (by decide) ?_
  refine lv_ishr hx hb dX5_outsOf_3 ?_
  refine cv_i (show (nI e1) >>> (nI 6 &&& 31) = nI (e1 >>> 6) from q_shr e1 6 (by first | omega | assumption) (by first | omega | assumption)) ?_
  exact x_iret X hw (⟨(by first | rfl | omega), rfl⟩) dX5_outsOf_4
set_option maxHeartbeats 4000000 in
set_option maxRecDepth 100000 in
theorem c_X5_insOf (l : Launch) (D : va_G) (cI cZ : ClassId) (e1 : Nat)  : MI l D cI cZ yX5_insOf wsX5_insOf ({ frames := 0, cells := 0, slots := 0, locals := 0 }) [.int (nI e1)] [] (fun r w => r = (nI (e1 &&& 63)) ∧ w = []) := by
  refine MI.of (cc := cX5_insOf) (maxL := 1) (ret := (some .int)) (own := RX5) (by decide) rfl rfl (Nat.le_of_ble_eq_true rfl) ?_
  intro pQ eQ s mQ args below meth cQ A X hw ls hl
  obtain ⟨⟨hx, hb, hml, hown, hts⟩, hr, hlk, hK, hN, hA⟩ := id X
  have hl : lv_has ls 1 [(0, .int (nI e1))] := hl
  refine lv_iload_n hx hb dX5_insOf_0 rfl (lv_at hl 0 rfl) ?_
  refine lv_bipush (v := nI 63) hx hb dX5_insOf_1 (by decide) ?_
  refine lv_iand hx hb dX5_insOf_3 ?_
  refine cv_i (show nI e1 &&& nI 63 = nI (e1 &&& 63) from q_and e1 63) ?_
  exact x_iret X hw (⟨(by first | rfl | omega), rfl⟩) dX5_insOf_4
set_option maxHeartbeats 4000000 in
set_option maxRecDepth 100000 in
theorem c_X5_cylindersOf (l : Launch) (D : va_G) (cI cZ : ClassId) (e1 : Nat) (he1 : e1 < 2 ^ 31) : MI l D cI cZ yX5_cylindersOf wsX5_cylindersOf ({ frames := 1, cells := 0, slots := 0, locals := 20 }) [.int (nI e1)] [] (fun r w => r = (nI (cyl e1)) ∧ w = []) := by
  refine MI.of (cc := cX5_cylindersOf) (maxL := 1) (ret := (some .int)) (own := RX5) (by decide) rfl rfl (Nat.le_of_ble_eq_true rfl) ?_
  intro pQ eQ s mQ args below meth cQ A X hw ls hl
  obtain ⟨⟨hx, hb, hml, hown, hts⟩, hr, hlk, hK, hN, hA⟩ := id X
  have hl : lv_has ls 1 [(0, .int (nI e1))] := hl
  refine lv_iload_n hx hb dX5_cylindersOf_0 rfl (lv_at hl 0 rfl) ?_
  refine x_callS (As := [.int (nI e1)]) (rest := []) X hw hl.1 (c_X5_outsOf l D cI cZ e1 (by first | assumption | omega)) (va_cwS 1 hts gX5_cylindersOf_X5_outsOf rfl rfl rfl (by decide +kernel) ⟨Nat.le_of_ble_eq_true rfl, Nat.le_of_ble_eq_true rfl⟩) [] rfl rfl rfl (Nat.le_of_ble_eq_true rfl) dX5_cylindersOf_1 (by decide) (fun r w1 H locs hp hw1 => ?_)
  obtain ⟨rfl, rfl⟩ := hp
  have hw : WD D A s.heap [] H locs := hw1 rfl
  refine lv_iload_n hx hb dX5_cylindersOf_4 rfl (lv_at hl 0 rfl) ?_
  refine x_callS (As := [.int (nI e1)]) (rest := [.int (nI (e1 >>> 6))]) X hw hl.1 (c_X5_insOf l D cI cZ e1 ) (va_cwS 1 hts gX5_cylindersOf_X5_insOf rfl rfl rfl (by decide +kernel) ⟨Nat.le_of_ble_eq_true rfl, Nat.le_of_ble_eq_true rfl⟩) [] rfl rfl rfl (Nat.le_of_ble_eq_true rfl) dX5_cylindersOf_5 (by decide) (fun r w1 H locs hp hw1 => ?_)
  obtain ⟨rfl, rfl⟩ := hp
  have hw : WD D A s.heap [] H locs := hw1 rfl
  refine lv_ior hx hb dX5_cylindersOf_8 ?_
  refine cv_i (show nI (e1 >>> 6) ||| nI (e1 &&& 63) = nI ((e1 >>> 6) ||| (e1 &&& 63)) from q_or (e1 >>> 6) (e1 &&& 63)) ?_
  exact x_iret X hw (⟨(by first | rfl | omega), rfl⟩) dX5_cylindersOf_9
set_option maxHeartbeats 4000000 in
set_option maxRecDepth 100000 in
theorem c_X5_sensorsOn (l : Launch) (D : va_G) (cI cZ : ClassId) (st : Nat)  : MI l D cI cZ yX5_sensorsOn wsX5_sensorsOn ({ frames := 1, cells := 0, slots := 0, locals := 21 }) [.int (nI st)] [] (fun r w => r = (nI (sen st)) ∧ w = []) := by
  refine MI.of (cc := cX5_sensorsOn) (maxL := 1) (ret := (some .int)) (own := RX5) (by decide) rfl rfl (Nat.le_of_ble_eq_true rfl) ?_
  intro pQ eQ s mQ args below meth cQ A X hw ls hl
  obtain ⟨⟨hx, hb, hml, hown, hts⟩, hr, hlk, hK, hN, hA⟩ := id X
  have hl : lv_has ls 1 [(0, .int (nI st))] := hl
  refine lv_iload_n hx hb dX5_sensorsOn_0 rfl (lv_at hl 0 rfl) ?_
  refine lv_iload_n hx hb dX5_sensorsOn_1 rfl (lv_at hl 0 rfl) ?_
  refine lv_iconst (v := (-1)) hx hb dX5_sensorsOn_2 (by decide) ?_
  refine lv_ixor hx hb dX5_sensorsOn_3 ?_
  refine lv_bipush (v := nI 63) hx hb dX5_sensorsOn_4 (by decide) ?_
  refine lv_iand hx hb dX5_sensorsOn_6 ?_
  refine cv_i (show (nI st ^^^ (-1 : Int32)) &&& nI 63 = nI (anN 63 st) from q_anL 63 st) ?_
  refine x_callS (As := [.int (nI st), .int (nI (anN 63 st))]) (rest := []) X hw hl.1 (c_X5_endsTo l D cI cZ st (anN 63 st) ) (va_cwS 2 hts gX5_sensorsOn_X5_endsTo rfl rfl rfl (by decide +kernel) ⟨Nat.le_of_ble_eq_true rfl, Nat.le_of_ble_eq_true rfl⟩) [] rfl rfl rfl (Nat.le_of_ble_eq_true rfl) dX5_sensorsOn_7 (by decide) (fun r w1 H locs hp hw1 => ?_)
  obtain ⟨rfl, rfl⟩ := hp
  have hw : WD D A s.heap [] H locs := hw1 rfl
  exact x_iret X hw (⟨(by first | rfl | omega), rfl⟩) dX5_sensorsOn_10
