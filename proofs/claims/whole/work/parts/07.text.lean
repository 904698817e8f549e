/-! ===== AirSteps.Text ===== -/
def pr (n k : Nat) : Nat := if k = 0 then n - 1 else k - 1
theorem pr_lt {n k : Nat} (h : k < n) : pr n k < n := by unfold pr; split <;> omega
def wr (en st : Nat → Nat) (k : Nat) : Bool := decide (¬ en k &&& sen (st k) = 0)
def fwC (en st : Nat → Nat) (n : Nat) : Int32 := if fs (wr en st) n < n then nI (fs (wr en st) n) else if n = 0 ∨ ¬ st n = 0 then nI n else -1
def alk (st : Nat → Nat) (v : Nat) (n : Nat) : Nat := fo (fun k a => if st k = v then a + 1 else a) 0 n
theorem alk_le (st : Nat → Nat) (v : Nat) : ∀ n : Nat, alk st v n ≤ n
  | 0 => Nat.le_refl 0
  | n + 1 => by
    have h := alk_le st v n
    show (if st n = v then alk st v n + 1 else alk st v n) ≤ n + 1
    split <;> omega
def mal (st : Nat → Nat) (n i : Nat) : Nat := fo (fun k a => max a (alk st (st k) n)) 0 i
def popc (e : Nat) : Nat := fo (fun i a => a + (e.testBit i).toNat) 0 16
def mvs (en : Nat → Nat) (n : Nat) : Nat := fo (fun k a => a + popc (en k)) 0 n
set_option maxHeartbeats 4000000 in
set_option maxRecDepth 100000 in
theorem c_X3_size (l : Launch) (D : va_G) (cI cZ : ClassId) (t : Nat) (te : Nat) (ts : Nat) (en : Nat → Nat) (st : Nat → Nat) (n : Nat)  : MI l D cI cZ yX3_size wsX3_size ({ frames := 0, cells := 0, slots := 0, locals := 0 }) [.ref t] [(t, .inr (3, [.ref te, .ref ts, .int (nI n)])), (te, .inl (cI, 16, .inl (iA en))), (ts, .inl (cI, 17, .inl (iA st)))] (fun r w => r = (nI n) ∧ w = [(t, .inr (3, [.ref te, .ref ts, .int (nI n)])), (te, .inl (cI, 16, .inl (iA en))), (ts, .inl (cI, 17, .inl (iA st)))]) := by
  refine MI.of (cc := cX3_size) (maxL := 1) (ret := (some .int)) (own := RX3) (by decide) rfl rfl (Nat.le_of_ble_eq_true rfl) ?_
  intro pQ eQ s mQ args below meth cQ A X hw ls hl
  obtain ⟨⟨hx, hb, hml, hown, hts⟩, hr, hlk, hK, hN, hA⟩ := id X
  have hl : lv_has ls 1 [(0, .ref t)] := hl
  have n3 : ∀ w ∈ wsX30, w ∈ wsX3_size := by decide +kernel
  have f18 : FF args s RX3 wsX3_size 18 3 2 := ⟨_, rfl, by decide, n3, hts (.fieldLink RX3 18 "AirSteps$Text" "size" "I") (by decide +kernel)⟩
  refine lv_aload_n hx hb dX3_size_0 rfl (lv_at hl 0 rfl) ?_
  refine x_get X hw f18 0 rfl rfl dX3_size_1 ?_
  exact x_iret X hw (⟨(by first | rfl | omega), rfl⟩) dX3_size_4
set_option maxHeartbeats 4000000 in
set_option maxRecDepth 100000 in
theorem c_X3_add (l : Launch) (D : va_G) (cI cZ : ClassId) (t : Nat) (te : Nat) (ts : Nat) (en : Nat → Nat) (st : Nat → Nat) (n : Nat) (o : Nat) (i : Nat) (hn16 : n < 16) (hst : ∀ k, st k < 64) (hen : ∀ k, en k < 4096) : MV l D cI cZ yX3_add wsX3_add ({ frames := 1, cells := 0, slots := 0, locals := 21 }) [.ref t, .int (nI o), .int (nI i)] [(t, .inr (3, [.ref te, .ref ts, .int (nI n)])), (te, .inl (cI, 16, .inl (iA en))), (ts, .inl (cI, 17, .inl (iA st)))] 0 0 (fun w => w = [(t, .inr (3, [.ref te, .ref ts, .int (nI (n + 1))])), (te, .inl (cI, 16, .inl (iA (va_up en n (o <<< 6 ||| i))))), (ts, .inl (cI, 17, .inl (iA (va_up st (n + 1) (anN (st n ||| o) i)))))]) := by
  refine MV.of (cc := cX3_add) (maxL := 3) (ret := none) (own := RX3) (by decide) rfl rfl (Nat.le_of_ble_eq_true rfl) ?_
  intro pQ eQ s mQ args below meth cQ A X hnm hw ls hl
  obtain ⟨⟨hx, hb, hml, hown, hts⟩, hr, hlk, hK, hN, hA⟩ := id X
  have hl : lv_has ls 3 [(0, .ref t), (1, .int (nI o)), (2, .int (nI i))] := hl
  have n3 : ∀ w ∈ wsX30, w ∈ wsX3_add := by decide +kernel
  have f9 : FF args s RX3 wsX3_add 9 3 0 := ⟨_, rfl, by decide, n3, hts (.fieldLink RX3 9 "AirSteps$Text" "ends" "[I") (by decide +kernel)⟩
  have f15 : FF args s RX3 wsX3_add 15 3 1 := ⟨_, rfl, by decide, n3, hts (.fieldLink RX3 15 "AirSteps$Text" "states" "[I") (by decide +kernel)⟩
  have f18 : FF args s RX3 wsX3_add 18 3 2 := ⟨_, rfl, by decide, n3, hts (.fieldLink RX3 18 "AirSteps$Text" "size" "I") (by decide +kernel)⟩
  have p18 : FP args s RX3 wsX3_add 18 3 2 := ⟨_, tyX3, rfl, by decide, n3, hts (.fieldLink RX3 18 "AirSteps$Text" "size" "I") (by decide +kernel), tyX3_ok, nmX3, rfl, by decide +kernel⟩
  refine lv_aload_n hx hb dX3_add_0 rfl (lv_at hl 0 rfl) ?_
  refine x_get X hw f18 0 rfl rfl dX3_add_1 ?_
  refine lv_bipush (v := nI 16) hx hb dX3_add_4 (by decide) ?_
  refine lv_icmp_lt (tgt := 10) hx hb dX3_add_6 (by decide) (fun c_6 => ?_) (fun c_6 => ?_)
  · skip
    rw [nI_ltI (by omega) (by omega)] at c_6
    refine lv_aload_n hx hb dX3_add_10 rfl (lv_at hl 0 rfl) ?_
    refine x_get X hw f9 0 rfl rfl dX3_add_11 ?_
    refine lv_aload_n hx hb dX3_add_14 rfl (lv_at hl 0 rfl) ?_
    refine x_get X hw f18 0 rfl rfl dX3_add_15 ?_
    refine lv_iload_n hx hb dX3_add_18 rfl (lv_at hl 1 rfl) ?_
    refine lv_iload_n hx hb dX3_add_19 rfl (lv_at hl 2 rfl) ?_
    refine x_callN (As := [.int (nI o), .int (nI i)]) (rest := [.int (nI n), .ref te]) (host := RX5) (n := 2) X hw hl.1 (c_X5_endsTo l D cI cZ o i ) gX3_add_X5_endsTo_n22 rfl rfl rfl (List.mem_of_getElem? (i := 3) rfl) (by decide +kernel) (by decide +kernel) (by decide +kernel) ⟨Nat.le_of_ble_eq_true rfl, Nat.le_of_ble_eq_true rfl⟩ [] rfl rfl rfl (Nat.le_of_ble_eq_true rfl) dX3_add_20 (by decide) (fun r w1 H locs hp hw1 => ?_)
    obtain ⟨rfl, rfl⟩ := hp
    have hw : WD D A s.heap [(t, .inr (3, [.ref te, .ref ts, .int (nI n)])), (te, .inl (cI, 16, .inl (iA en))), (ts, .inl (cI, 17, .inl (iA st)))] H locs := hw1 rfl
    refine x_astN X hw 1 rfl (by omega) (by omega) dX3_add_23 (fun H locs hw => ?_)
    have hw : WD D A s.heap [(t, .inr (3, [.ref te, .ref ts, .int (nI n)])), (te, .inl (cI, 16, .inl (iA (va_up en n ((o <<< 6) ||| i))))), (ts, .inl (cI, 17, .inl (iA st)))] H locs := hw
    refine lv_aload_n hx hb dX3_add_24 rfl (lv_at hl 0 rfl) ?_
    refine x_get X hw f15 0 rfl rfl dX3_add_25 ?_
    refine lv_aload_n hx hb dX3_add_28 rfl (lv_at hl 0 rfl) ?_
    refine x_get X hw f18 0 rfl rfl dX3_add_29 ?_
    refine lv_iconst (v := nI 1) hx hb dX3_add_32 (by decide) ?_
    refine lv_iadd hx hb dX3_add_33 ?_
    refine cv_i (show nI n + nI 1 = nI (n + 1) from nI_add n 1) ?_
    refine lv_aload_n hx hb dX3_add_34 rfl (lv_at hl 0 rfl) ?_
    refine x_get X hw f15 0 rfl rfl dX3_add_35 ?_
    refine lv_aload_n hx hb dX3_add_38 rfl (lv_at hl 0 rfl) ?_
    refine x_get X hw f18 0 rfl rfl dX3_add_39 ?_
    refine x_aldN X hw 2 rfl (by omega) (by omega) dX3_add_42 ?_
    have hb_42 := hst n
    refine lv_iload_n hx hb dX3_add_43 rfl (lv_at hl 1 rfl) ?_
    refine lv_ior hx hb dX3_add_44 ?_
    refine cv_i (show nI (st n) ||| nI o = nI ((st n) ||| o) from q_or (st n) o) ?_
    refine lv_iload_n hx hb dX3_add_45 rfl (lv_at hl 2 rfl) ?_
    refine lv_iconst (v := (-1)) hx hb dX3_add_46 (by decide) ?_
    refine lv_ixor hx hb dX3_add_47 ?_
    refine lv_iand hx hb dX3_add_48 ?_
    refine cv_i (show nI ((st n) ||| o) &&& (nI i ^^^ (-1 : Int32)) = nI (anN ((st n) ||| o) i) from q_anR ((st n) ||| o) i) ?_
    refine x_astN X hw 2 rfl (by omega) (by omega) dX3_add_49 (fun H locs hw => ?_)
    have hw : WD D A s.heap [(t, .inr (3, [.ref te, .ref ts, .int (nI n)])), (te, .inl (cI, 16, .inl (iA (va_up en n ((o <<< 6) ||| i))))), (ts, .inl (cI, 17, .inl (iA (va_up st (n + 1) (anN ((st n) ||| o) i)))))] H locs := hw
    refine lv_aload_n hx hb dX3_add_50 rfl (lv_at hl 0 rfl) ?_
    refine lv_dup hx hb dX3_add_51 rfl ?_
    refine x_get X hw f18 0 rfl rfl dX3_add_52 ?_
    refine lv_iconst (v := nI 1) hx hb dX3_add_55 (by decide) ?_
    refine lv_iadd hx hb dX3_add_56 ?_
    refine cv_i (show nI n + nI 1 = nI (n + 1) from nI_add n 1) ?_
    refine x_put X hw p18 0 rfl (Nat.le_of_ble_eq_true rfl) dX3_add_57 (fun H locs hw => ?_)
    have hw : WD D A s.heap [(t, .inr (3, [.ref te, .ref ts, .int (nI (n + 1))])), (te, .inl (cI, 16, .inl (iA (va_up en n ((o <<< 6) ||| i))))), (ts, .inl (cI, 17, .inl (iA (va_up st (n + 1) (anN ((st n) ||| o) i)))))] H locs := hw
    exact x_vret X hw (rfl) dX3_add_60
  · skip
    rw [nI_ltI (by omega) (by omega)] at c_6
    exact absurd hn16 c_6
set_option maxHeartbeats 4000000 in
set_option maxRecDepth 100000 in
theorem c_X3_removeLast (l : Launch) (D : va_G) (cI cZ : ClassId) (t : Nat) (te : Nat) (ts : Nat) (en : Nat → Nat) (st : Nat → Nat) (n : Nat) (hn0 : 0 < n) (hn : n ≤ 16) : MV l D cI cZ yX3_removeLast wsX3_removeLast ({ frames := 0, cells := 0, slots := 0, locals := 0 }) [.ref t] [(t, .inr (3, [.ref te, .ref ts, .int (nI n)])), (te, .inl (cI, 16, .inl (iA en))), (ts, .inl (cI, 17, .inl (iA st)))] 0 0 (fun w => w = [(t, .inr (3, [.ref te, .ref ts, .int (nI (n - 1))])), (te, .inl (cI, 16, .inl (iA en))), (ts, .inl (cI, 17, .inl (iA st)))]) := by
  refine MV.of (cc := cX3_removeLast) (maxL := 1) (ret := none) (own := RX3) (by decide) rfl rfl (Nat.le_of_ble_eq_true rfl) ?_
  intro pQ eQ s mQ args below meth cQ A X hnm hw ls hl
  obtain ⟨⟨hx, hb, hml, hown, hts⟩, hr, hlk, hK, hN, hA⟩ := id X
  have hl : lv_has ls 1 [(0, .ref t)] := hl
  have n3 : ∀ w ∈ wsX30, w ∈ wsX3_removeLast := by decide +kernel
  have f18 : FF args s RX3 wsX3_removeLast 18 3 2 := ⟨_, rfl, by decide, n3, hts (.fieldLink RX3 18 "AirSteps$Text" "size" "I") (by decide +kernel)⟩
  have p18 : FP args s RX3 wsX3_removeLast 18 3 2 := ⟨_, tyX3, rfl, by decide, n3, hts (.fieldLink RX3 18 "AirSteps$Text" "size" "I") (by decide +kernel), tyX3_ok, nmX3, rfl, by decide +kernel⟩
  refine lv_aload_n hx hb dX3_removeLast_0 rfl (lv_at hl 0 rfl) ?_
  refine x_get X hw f18 0 rfl rfl dX3_removeLast_1 ?_
  refine lv_if_le (tgt := 17) hx hb dX3_removeLast_4 (by decide) (fun c_4 => ?_) (fun c_4 => ?_)
  · skip
    rw [q_le0 (by omega)] at c_4
    exact absurd c_4 (by omega)
  · skip
    rw [q_le0 (by omega)] at c_4
    refine lv_aload_n hx hb dX3_removeLast_7 rfl (lv_at hl 0 rfl) ?_
    refine lv_dup hx hb dX3_removeLast_8 rfl ?_
    refine x_get X hw f18 0 rfl rfl dX3_removeLast_9 ?_
    refine lv_iconst (v := nI 1) hx hb dX3_removeLast_12 (by decide) ?_
    refine lv_isub hx hb dX3_removeLast_13 ?_
    refine cv_i (show nI n - nI 1 = nI (n - 1) from pk_sub (by first | omega | assumption)) ?_
    refine x_put X hw p18 0 rfl (Nat.le_of_ble_eq_true rfl) dX3_removeLast_14 (fun H locs hw => ?_)
    have hw : WD D A s.heap [(t, .inr (3, [.ref te, .ref ts, .int (nI (n - 1))])), (te, .inl (cI, 16, .inl (iA en))), (ts, .inl (cI, 17, .inl (iA st)))] H locs := hw
    exact x_vret X hw (rfl) dX3_removeLast_17
set_option maxHeartbeats 4000000 in
set_option maxRecDepth 100000 in
theorem c_X3_endsOf (l : Launch) (D : va_G) (cI cZ : ClassId) (t : Nat) (te : Nat) (ts : Nat) (en : Nat → Nat) (st : Nat → Nat) (n : Nat) (k : Nat) (hn : n ≤ 16) (hen : ∀ k, en k < 4096) (hst : ∀ k, st k < 64) (hk : k < n) : MI l D cI cZ yX3_endsOf wsX3_endsOf ({ frames := 1, cells := 0, slots := 0, locals := 21 }) [.ref t, .int (nI k)] [(t, .inr (3, [.ref te, .ref ts, .int (nI n)])), (te, .inl (cI, 16, .inl (iA en))), (ts, .inl (cI, 17, .inl (iA st)))] (fun r w => r = (nI (en k)) ∧ w = [(t, .inr (3, [.ref te, .ref ts, .int (nI n)])), (te, .inl (cI, 16, .inl (iA en))), (ts, .inl (cI, 17, .inl (iA st)))]) := by
  refine MI.of (cc := cX3_endsOf) (maxL := 2) (ret := (some .int)) (own := RX3) (by decide) rfl rfl (Nat.le_of_ble_eq_true rfl) ?_
  intro pQ eQ s mQ args below meth cQ A X hw ls hl
  obtain ⟨⟨hx, hb, hml, hown, hts⟩, hr, hlk, hK, hN, hA⟩ := id X
  have hl : lv_has ls 2 [(0, .ref t), (1, .int (nI k))] := hl
  have n3 : ∀ w ∈ wsX30, w ∈ wsX3_endsOf := by decide +kernel
  have f9 : FF args s RX3 wsX3_endsOf 9 3 0 := ⟨_, rfl, by decide, n3, hts (.fieldLink RX3 9 "AirSteps$Text" "ends" "[I") (by decide +kernel)⟩
  have f18 : FF args s RX3 wsX3_endsOf 18 3 2 := ⟨_, rfl, by decide, n3, hts (.fieldLink RX3 18 "AirSteps$Text" "size" "I") (by decide +kernel)⟩
  refine lv_iload_n hx hb dX3_endsOf_0 rfl (lv_at hl 1 rfl) ?_
  refine lv_aload_n hx hb dX3_endsOf_1 rfl (lv_at hl 0 rfl) ?_
  refine x_get X hw f18 0 rfl rfl dX3_endsOf_2 ?_
  refine x_callN (As := [.int (nI k), .int (nI n)]) (rest := []) (host := RX5) (n := 2) X hw hl.1 (c_X5_isBelow l D cI cZ (nI k) (nI n) ) gX3_endsOf_X5_isBelow_n26 rfl rfl rfl (List.mem_of_getElem? (i := 5) rfl) (by decide +kernel) (by decide +kernel) (by decide +kernel) ⟨Nat.le_of_ble_eq_true rfl, Nat.le_of_ble_eq_true rfl⟩ [] rfl rfl rfl (Nat.le_of_ble_eq_true rfl) dX3_endsOf_5 (by decide) (fun r w1 H locs hp hw1 => ?_)
  obtain ⟨rfl, rfl⟩ := hp
  have hw : WD D A s.heap [(t, .inr (3, [.ref te, .ref ts, .int (nI n)])), (te, .inl (cI, 16, .inl (iA en))), (ts, .inl (cI, 17, .inl (iA st)))] H locs := hw1 rfl
  refine lv_if_eq (tgt := 20) hx hb dX3_endsOf_8 (by decide) (fun c_8 => ?_) (fun c_8 => ?_)
  · skip
    rw [q_b0] at c_8; try simp only [Bool.not_eq_false, Bool.not_eq_true] at c_8
    rw [bel_nI (by omega) (by omega)] at c_8; simp at c_8; omega
  · skip
    rw [q_b0] at c_8; try simp only [Bool.not_eq_false, Bool.not_eq_true] at c_8
    refine lv_aload_n hx hb dX3_endsOf_11 rfl (lv_at hl 0 rfl) ?_
    refine x_get X hw f9 0 rfl rfl dX3_endsOf_12 ?_
    refine lv_iload_n hx hb dX3_endsOf_15 rfl (lv_at hl 1 rfl) ?_
    refine x_aldN X hw 1 rfl (by omega) (by omega) dX3_endsOf_16 ?_
    have hb_16 := hen k
    refine lv_goto (tgt := 21) hx hb dX3_endsOf_17 (by decide) ?_
    exact x_iret X hw (⟨(by first | rfl | omega | (simp [c_8]; done) | (simp_all; done)), rfl⟩) dX3_endsOf_21
set_option maxHeartbeats 4000000 in
set_option maxRecDepth 100000 in
theorem c_X3_stateAt (l : Launch) (D : va_G) (cI cZ : ClassId) (t : Nat) (te : Nat) (ts : Nat) (en : Nat → Nat) (st : Nat → Nat) (n : Nat) (k : Nat) (hn : n ≤ 16) (hen : ∀ k, en k < 4096) (hst : ∀ k, st k < 64) (hk : k < n) : MI l D cI cZ yX3_stateAt wsX3_stateAt ({ frames := 1, cells := 0, slots := 0, locals := 21 }) [.ref t, .int (nI k)] [(t, .inr (3, [.ref te, .ref ts, .int (nI n)])), (te, .inl (cI, 16, .inl (iA en))), (ts, .inl (cI, 17, .inl (iA st)))] (fun r w => r = (nI (st k)) ∧ w = [(t, .inr (3, [.ref te, .ref ts, .int (nI n)])), (te, .inl (cI, 16, .inl (iA en))), (ts, .inl (cI, 17, .inl (iA st)))]) := by
  refine MI.of (cc := cX3_stateAt) (maxL := 2) (ret := (some .int)) (own := RX3) (by decide) rfl rfl (Nat.le_of_ble_eq_true rfl) ?_
  intro pQ eQ s mQ args below meth cQ A X hw ls hl
  obtain ⟨⟨hx, hb, hml, hown, hts⟩, hr, hlk, hK, hN, hA⟩ := id X
  have hl : lv_has ls 2 [(0, .ref t), (1, .int (nI k))] := hl
  have n3 : ∀ w ∈ wsX30, w ∈ wsX3_stateAt := by decide +kernel
  have f15 : FF args s RX3 wsX3_stateAt 15 3 1 := ⟨_, rfl, by decide, n3, hts (.fieldLink RX3 15 "AirSteps$Text" "states" "[I") (by decide +kernel)⟩
  have f18 : FF args s RX3 wsX3_stateAt 18 3 2 := ⟨_, rfl, by decide, n3, hts (.fieldLink RX3 18 "AirSteps$Text" "size" "I") (by decide +kernel)⟩
  refine lv_iload_n hx hb dX3_stateAt_0 rfl (lv_at hl 1 rfl) ?_
  refine lv_aload_n hx hb dX3_stateAt_1 rfl (lv_at hl 0 rfl) ?_
  refine x_get X hw f18 0 rfl rfl dX3_stateAt_2 ?_
  refine x_callN (As := [.int (nI k), .int (nI n)]) (rest := []) (host := RX5) (n := 2) X hw hl.1 (c_X5_isBelow l D cI cZ (nI k) (nI n) ) gX3_stateAt_X5_isBelow_n26 rfl rfl rfl (List.mem_of_getElem? (i := 5) rfl) (by decide +kernel) (by decide +kernel) (by decide +kernel) ⟨Nat.le_of_ble_eq_true rfl, Nat.le_of_ble_eq_true rfl⟩ [] rfl rfl rfl (Nat.le_of_ble_eq_true rfl) dX3_stateAt_5 (by decide) (fun r w1 H locs hp hw1 => ?_)
  obtain ⟨rfl, rfl⟩ := hp
  have hw : WD D A s.heap [(t, .inr (3, [.ref te, .ref ts, .int (nI n)])), (te, .inl (cI, 16, .inl (iA en))), (ts, .inl (cI, 17, .inl (iA st)))] H locs := hw1 rfl
  refine lv_if_eq (tgt := 20) hx hb dX3_stateAt_8 (by decide) (fun c_8 => ?_) (fun c_8 => ?_)
  · skip
    rw [q_b0] at c_8; try simp only [Bool.not_eq_false, Bool.not_eq_true] at c_8
    rw [bel_nI (by omega) (by omega)] at c_8; simp at c_8; omega
  · skip
    rw [q_b0] at c_8; try simp only [Bool.not_eq_false, Bool.not_eq_true] at c_8
    refine lv_aload_n hx hb dX3_stateAt_11 rfl (lv_at hl 0 rfl) ?_
    refine x_get X hw f15 0 rfl rfl dX3_stateAt_12 ?_
    refine lv_iload_n hx hb dX3_stateAt_15 rfl (lv_at hl 1 rfl) ?_
    refine x_aldN X hw 2 rfl (by omega) (by omega) dX3_stateAt_16 ?_
    have hb_16 := hst k
    refine lv_goto (tgt := 21) hx hb dX3_stateAt_17 (by decide) ?_
    exact x_iret X hw (⟨(by first | rfl | omega | (simp [c_8]; done) | (simp_all; done)), rfl⟩) dX3_stateAt_21
set_option maxHeartbeats 4000000 in
set_option maxRecDepth 100000 in
theorem c_X3_trigger (l : Launch) (D : va_G) (cI cZ : ClassId) (t : Nat) (te : Nat) (ts : Nat) (en : Nat → Nat) (st : Nat → Nat) (n : Nat) (k : Nat) (hn : n ≤ 16) (hen : ∀ k, en k < 4096) (hst : ∀ k, st k < 64) (hk : k < n) : MI l D cI cZ yX3_trigger wsX3_trigger ({ frames := 2, cells := 0, slots := 0, locals := 42 }) [.ref t, .int (nI k)] [(t, .inr (3, [.ref te, .ref ts, .int (nI n)])), (te, .inl (cI, 16, .inl (iA en))), (ts, .inl (cI, 17, .inl (iA st)))] (fun r w => r = (nI (en (pr n k))) ∧ w = [(t, .inr (3, [.ref te, .ref ts, .int (nI n)])), (te, .inl (cI, 16, .inl (iA en))), (ts, .inl (cI, 17, .inl (iA st)))]) := by
  refine MI.of (cc := cX3_trigger) (maxL := 2) (ret := (some .int)) (own := RX3) (by decide) rfl rfl (Nat.le_of_ble_eq_true rfl) ?_
  intro pQ eQ s mQ args below meth cQ A X hw ls hl
  obtain ⟨⟨hx, hb, hml, hown, hts⟩, hr, hlk, hK, hN, hA⟩ := id X
  have hl : lv_has ls 2 [(0, .ref t), (1, .int (nI k))] := hl
  have n3 : ∀ w ∈ wsX30, w ∈ wsX3_trigger := by decide +kernel
  have f18 : FF args s RX3 wsX3_trigger 18 3 2 := ⟨_, rfl, by decide, n3, hts (.fieldLink RX3 18 "AirSteps$Text" "size" "I") (by decide +kernel)⟩
  refine lv_aload_n hx hb dX3_trigger_0 rfl (lv_at hl 0 rfl) ?_
  refine lv_iload_n hx hb dX3_trigger_1 rfl (lv_at hl 1 rfl) ?_
  refine lv_if_ne (tgt := 14) hx hb dX3_trigger_2 (by decide) (fun c_2 => ?_) (fun c_2 => ?_)
  · skip
    rw [q_eq0 (by omega)] at c_2
    refine lv_iload_n hx hb dX3_trigger_14 rfl (lv_at hl 1 rfl) ?_
    refine lv_iconst (v := nI 1) hx hb dX3_trigger_15 (by decide) ?_
    refine lv_isub hx hb dX3_trigger_16 ?_
    refine cv_i (show nI k - nI 1 = nI (k - 1) from pk_sub (by first | omega | assumption)) ?_
    refine x_callV (As := [.int (nI (k - 1))]) (rest := []) X hw hl.1 (c_X3_endsOf l D cI cZ t te ts en st n (k - 1) (by first | assumption | omega) (by first | assumption | omega) (by first | assumption | omega) (by first | assumption | omega)) (cwV 1 hts gX3_trigger_X3_endsOf rfl rfl rfl (by decide +kernel) ⟨Nat.le_of_ble_eq_true rfl, Nat.le_of_ble_eq_true rfl⟩) [0, 1, 2] rfl rfl 0 rfl rfl rfl rfl (Nat.le_of_ble_eq_true rfl) dX3_trigger_17 (by decide) (fun r w1 H locs hp hw1 => ?_)
    obtain ⟨rfl, rfl⟩ := hp
    have hw : WD D A s.heap [(t, .inr (3, [.ref te, .ref ts, .int (nI n)])), (te, .inl (cI, 16, .inl (iA en))), (ts, .inl (cI, 17, .inl (iA st)))] H locs := hw1 rfl
    exact x_iret X hw (⟨(by simp [pr, c_2]), rfl⟩) dX3_trigger_20
  · skip
    rw [q_eq0 (by omega)] at c_2
    refine lv_aload_n hx hb dX3_trigger_5 rfl (lv_at hl 0 rfl) ?_
    refine x_get X hw f18 0 rfl rfl dX3_trigger_6 ?_
    refine lv_iconst (v := nI 1) hx hb dX3_trigger_9 (by decide) ?_
    refine lv_isub hx hb dX3_trigger_10 ?_
    refine cv_i (show nI n - nI 1 = nI (n - 1) from pk_sub (by first | omega | assumption)) ?_
    refine lv_goto (tgt := 17) hx hb dX3_trigger_11 (by decide) ?_
    refine x_callV (As := [.int (nI (n - 1))]) (rest := []) X hw hl.1 (c_X3_endsOf l D cI cZ t te ts en st n (n - 1) (by first | assumption | omega) (by first | assumption | omega) (by first | assumption | omega) (by first | assumption | omega)) (cwV 1 hts gX3_trigger_X3_endsOf rfl rfl rfl (by decide +kernel) ⟨Nat.le_of_ble_eq_true rfl, Nat.le_of_ble_eq_true rfl⟩) [0, 1, 2] rfl rfl 0 rfl rfl rfl rfl (Nat.le_of_ble_eq_true rfl) dX3_trigger_17 (by decide) (fun r w1 H locs hp hw1 => ?_)
    obtain ⟨rfl, rfl⟩ := hp
    have hw : WD D A s.heap [(t, .inr (3, [.ref te, .ref ts, .int (nI n)])), (te, .inl (cI, 16, .inl (iA en))), (ts, .inl (cI, 17, .inl (iA st)))] H locs := hw1 rfl
    exact x_iret X hw (⟨(by simp [pr, c_2]), rfl⟩) dX3_trigger_20
set_option maxHeartbeats 4000000 in
set_option maxRecDepth 100000 in
theorem c_X3_firstWrong (l : Launch) (D : va_G) (cI cZ : ClassId) (t : Nat) (te : Nat) (ts : Nat) (en : Nat → Nat) (st : Nat → Nat) (n : Nat) (hn : n ≤ 16) (hen : ∀ k, en k < 4096) (hst : ∀ k, st k < 64) : MI l D cI cZ yX3_firstWrong wsX3_firstWrong ({ frames := 2, cells := 0, slots := 0, locals := 41 }) [.ref t] [(t, .inr (3, [.ref te, .ref ts, .int (nI n)])), (te, .inl (cI, 16, .inl (iA en))), (ts, .inl (cI, 17, .inl (iA st)))] (fun r w => r = (fwC en st n) ∧ w = [(t, .inr (3, [.ref te, .ref ts, .int (nI n)])), (te, .inl (cI, 16, .inl (iA en))), (ts, .inl (cI, 17, .inl (iA st)))]) := by
  refine MI.of (cc := cX3_firstWrong) (maxL := 2) (ret := (some .int)) (own := RX3) (by decide) rfl rfl (Nat.le_of_ble_eq_true rfl) ?_
  intro pQ eQ s mQ args below meth cQ A X hw ls hl
  obtain ⟨⟨hx, hb, hml, hown, hts⟩, hr, hlk, hK, hN, hA⟩ := id X
  have hl : lv_has ls 2 [(0, .ref t)] := hl
  have n3 : ∀ w ∈ wsX30, w ∈ wsX3_firstWrong := by decide +kernel
  have f9 : FF args s RX3 wsX3_firstWrong 9 3 0 := ⟨_, rfl, by decide, n3, hts (.fieldLink RX3 9 "AirSteps$Text" "ends" "[I") (by decide +kernel)⟩
  have f15 : FF args s RX3 wsX3_firstWrong 15 3 1 := ⟨_, rfl, by decide, n3, hts (.fieldLink RX3 15 "AirSteps$Text" "states" "[I") (by decide +kernel)⟩
  have f18 : FF args s RX3 wsX3_firstWrong 18 3 2 := ⟨_, rfl, by decide, n3, hts (.fieldLink RX3 18 "AirSteps$Text" "size" "I") (by decide +kernel)⟩
  refine lv_iconst (v := nI 0) hx hb dX3_firstWrong_0 (by decide) ?_
  refine lv_istore_n (lv' := [(1, .int (nI 0)), (0, .ref t)]) hx hb dX3_firstWrong_1 rfl hl (by decide) rfl (fun ls hl => ?_)
  refine wl (α := Nat) (nL := 2) (fun aQ => n - aQ) (fun aQ => (aQ ≤ n) ∧ (∀ j, j < aQ → wr en st j = false)) (fun aQ => [(t, .inr (3, [.ref te, .ref ts, .int (nI n)])), (te, .inl (cI, 16, .inl (iA en))), (ts, .inl (cI, 17, .inl (iA st)))]) (fun aQ => [(1, .int (nI aQ)), (0, .ref t)]) ?_ 0 ⟨(show 0 ≤ n from by omega), (show ∀ j, j < 0 → wr en st j = false from fun j hj => absurd hj (Nat.not_lt_zero j))⟩ _ _ _ hw (lv_sub hl [0, 1] rfl)
  rintro i ⟨hi, hq⟩ H locs ls hw hl ih_2
  have hi : i ≤ n := hi
  have hq : ∀ j, j < i → wr en st j = false := hq
  have hw : WD D A s.heap [(t, .inr (3, [.ref te, .ref ts, .int (nI n)])), (te, .inl (cI, 16, .inl (iA en))), (ts, .inl (cI, 17, .inl (iA st)))] H locs := hw
  have hl : lv_has ls 2 [(1, .int (nI i)), (0, .ref t)] := hl
  refine lv_iload_n hx hb dX3_firstWrong_2 rfl (lv_at hl 0 rfl) ?_
  refine lv_aload_n hx hb dX3_firstWrong_3 rfl (lv_at hl 1 rfl) ?_
  refine x_get X hw f18 0 rfl rfl dX3_firstWrong_4 ?_
  refine lv_icmp_ge (tgt := 37) hx hb dX3_firstWrong_7 (by decide) (fun c_7 => ?_) (fun c_7 => ?_)
  · skip
    rw [nI_leI (by omega) (by omega)] at c_7
    refine lv_aload_n hx hb dX3_firstWrong_37 rfl (lv_at hl 1 rfl) ?_
    refine x_get X hw f18 0 rfl rfl dX3_firstWrong_38 ?_
    refine lv_if_eq (tgt := 56) hx hb dX3_firstWrong_41 (by decide) (fun c_41 => ?_) (fun c_41 => ?_)
    · skip
      rw [q_eq0 (by omega)] at c_41
      refine lv_aload_n hx hb dX3_firstWrong_56 rfl (lv_at hl 1 rfl) ?_
      refine x_get X hw f18 0 rfl rfl dX3_firstWrong_57 ?_
      refine lv_goto (tgt := 64) hx hb dX3_firstWrong_60 (by decide) ?_
      exact x_iret X hw (⟨(by unfold fwC; rw [fs_eq (k := n) (by omega) (fun j hj => hq j (by omega)) (Or.inl rfl), if_neg (by omega)]; simp [*]), rfl⟩) dX3_firstWrong_64
    · skip
      rw [q_eq0 (by omega)] at c_41
      refine lv_aload_n hx hb dX3_firstWrong_44 rfl (lv_at hl 1 rfl) ?_
      refine x_get X hw f15 0 rfl rfl dX3_firstWrong_45 ?_
      refine lv_aload_n hx hb dX3_firstWrong_48 rfl (lv_at hl 1 rfl) ?_
      refine x_get X hw f18 0 rfl rfl dX3_firstWrong_49 ?_
      refine x_aldN X hw 2 rfl (by omega) (by omega) dX3_firstWrong_52 ?_
      have hb_52 := hst n
      refine lv_if_eq (tgt := 63) hx hb dX3_firstWrong_53 (by decide) (fun c_53 => ?_) (fun c_53 => ?_)
      · skip
        rw [q_eq0 (by omega)] at c_53
        refine lv_iconst (v := (-1)) hx hb dX3_firstWrong_63 (by decide) ?_
        exact x_iret X hw (⟨(by unfold fwC; rw [fs_eq (k := n) (by omega) (fun j hj => hq j (by omega)) (Or.inl rfl), if_neg (by omega)]; simp [*]), rfl⟩) dX3_firstWrong_64
      · skip
        rw [q_eq0 (by omega)] at c_53
        refine lv_aload_n hx hb dX3_firstWrong_56 rfl (lv_at hl 1 rfl) ?_
        refine x_get X hw f18 0 rfl rfl dX3_firstWrong_57 ?_
        refine lv_goto (tgt := 64) hx hb dX3_firstWrong_60 (by decide) ?_
        exact x_iret X hw (⟨(by unfold fwC; rw [fs_eq (k := n) (by omega) (fun j hj => hq j (by omega)) (Or.inl rfl), if_neg (by omega)]; simp [*]), rfl⟩) dX3_firstWrong_64
  · skip
    rw [nI_leI (by omega) (by omega)] at c_7
    refine lv_aload_n hx hb dX3_firstWrong_10 rfl (lv_at hl 1 rfl) ?_
    refine x_get X hw f9 0 rfl rfl dX3_firstWrong_11 ?_
    refine lv_iload_n hx hb dX3_firstWrong_14 rfl (lv_at hl 0 rfl) ?_
    refine x_aldN X hw 1 rfl (by omega) (by omega) dX3_firstWrong_15 ?_
    have hb_15 := hen i
    refine lv_aload_n hx hb dX3_firstWrong_16 rfl (lv_at hl 1 rfl) ?_
    refine x_get X hw f15 0 rfl rfl dX3_firstWrong_17 ?_
    refine lv_iload_n hx hb dX3_firstWrong_20 rfl (lv_at hl 0 rfl) ?_
    refine x_aldN X hw 2 rfl (by omega) (by omega) dX3_firstWrong_21 ?_
    have hb_21 := hst i
    refine x_callN (As := [.int (nI (st i))]) (rest := [.int (nI (en i))]) (host := RX5) (n := 1) X hw hl.1 (c_X5_sensorsOn l D cI cZ (st i) ) gX3_firstWrong_X5_sensorsOn_n38 rfl rfl rfl (List.mem_of_getElem? (i := 4) rfl) (by decide +kernel) (by decide +kernel) (by decide +kernel) ⟨Nat.le_of_ble_eq_true rfl, Nat.le_of_ble_eq_true rfl⟩ [] rfl rfl rfl (Nat.le_of_ble_eq_true rfl) dX3_firstWrong_22 (by decide) (fun r w1 H locs hp hw1 => ?_)
    obtain ⟨rfl, rfl⟩ := hp
    have hw : WD D A s.heap [(t, .inr (3, [.ref te, .ref ts, .int (nI n)])), (te, .inl (cI, 16, .inl (iA en))), (ts, .inl (cI, 17, .inl (iA st)))] H locs := hw1 rfl
    refine lv_iand hx hb dX3_firstWrong_25 ?_
    refine cv_i (show nI (en i) &&& nI (sen (st i)) = nI ((en i) &&& (sen (st i))) from q_and (en i) (sen (st i))) ?_
    refine lv_if_eq (tgt := 31) hx hb dX3_firstWrong_26 (by decide) (fun c_26 => ?_) (fun c_26 => ?_)
    · skip
      rw [q_eq0 (Nat.lt_of_le_of_lt Nat.and_le_left (by omega))] at c_26
      refine lv_iinc (v := nI (i + 1)) (lv' := [(1, .int (nI (i + 1))), (0, .ref t)]) hx hb dX3_firstWrong_31 hl (k := 0) rfl (nI_add i 1) (by decide) rfl (fun ls hl => ?_)
      refine lv_goto (tgt := 2) hx hb dX3_firstWrong_34 (by decide) ?_
      exact ih_2 (i + 1) (by show n - (i + 1) < n - i; omega) ⟨(show (i + 1) ≤ n from by omega), (show ∀ j, j < (i + 1) → wr en st j = false from lt_snoc hq (by simp [wr, c_26]))⟩ _ _ _ hw (lv_sub hl [0, 1] rfl)
    · skip
      rw [q_eq0 (Nat.lt_of_le_of_lt Nat.and_le_left (by omega))] at c_26
      refine lv_iload_n hx hb dX3_firstWrong_29 rfl (lv_at hl 0 rfl) ?_
      exact x_iret X hw (⟨(by unfold fwC; rw [fs_eq (k := i) (by omega) hq (Or.inr (by simp [wr, c_26])), if_pos (by omega)]), rfl⟩) dX3_firstWrong_30
set_option maxHeartbeats 4000000 in
set_option maxRecDepth 100000 in
theorem c_X3_isSound (l : Launch) (D : va_G) (cI cZ : ClassId) (t : Nat) (te : Nat) (ts : Nat) (en : Nat → Nat) (st : Nat → Nat) (n : Nat) (hn : n ≤ 16) (hen : ∀ k, en k < 4096) (hst : ∀ k, st k < 64) : MI l D cI cZ yX3_isSound wsX3_isSound ({ frames := 3, cells := 0, slots := 0, locals := 62 }) [.ref t] [(t, .inr (3, [.ref te, .ref ts, .int (nI n)])), (te, .inl (cI, 16, .inl (iA en))), (ts, .inl (cI, 17, .inl (iA st)))] (fun r w => r = (bI (decide (fwC en st n = -1))) ∧ w = [(t, .inr (3, [.ref te, .ref ts, .int (nI n)])), (te, .inl (cI, 16, .inl (iA en))), (ts, .inl (cI, 17, .inl (iA st)))]) := by
  refine MI.of (cc := cX3_isSound) (maxL := 1) (ret := (some .boolean)) (own := RX3) (by decide) rfl rfl (Nat.le_of_ble_eq_true rfl) ?_
  intro pQ eQ s mQ args below meth cQ A X hw ls hl
  obtain ⟨⟨hx, hb, hml, hown, hts⟩, hr, hlk, hK, hN, hA⟩ := id X
  have hl : lv_has ls 1 [(0, .ref t)] := hl
  refine lv_aload_n hx hb dX3_isSound_0 rfl (lv_at hl 0 rfl) ?_
  refine x_callV (As := []) (rest := []) X hw hl.1 (c_X3_firstWrong l D cI cZ t te ts en st n (by first | assumption | omega) (by first | assumption | omega) (by first | assumption | omega)) (cwV 0 hts gX3_isSound_X3_firstWrong rfl rfl rfl (by decide +kernel) ⟨Nat.le_of_ble_eq_true rfl, Nat.le_of_ble_eq_true rfl⟩) [0, 1, 2] rfl rfl 0 rfl rfl rfl rfl (Nat.le_of_ble_eq_true rfl) dX3_isSound_1 (by decide) (fun r w1 H locs hp hw1 => ?_)
  obtain ⟨rfl, rfl⟩ := hp
  have hw : WD D A s.heap [(t, .inr (3, [.ref te, .ref ts, .int (nI n)])), (te, .inl (cI, 16, .inl (iA en))), (ts, .inl (cI, 17, .inl (iA st)))] H locs := hw1 rfl
  refine lv_iconst (v := (-1)) hx hb dX3_isSound_4 (by decide) ?_
  refine lv_icmp_ne (tgt := 12) hx hb dX3_isSound_5 (by decide) (fun c_5 => ?_) (fun c_5 => ?_)
  · skip
    refine lv_iconst (v := nI 0) hx hb dX3_isSound_12 (by decide) ?_
    refine cv_i (show nI 0 = bI false from by decide) ?_
    exact x_zret X hw (⟨(by simp [c_5]), rfl⟩) dX3_isSound_13
  · skip
    refine lv_iconst (v := nI 1) hx hb dX3_isSound_8 (by decide) ?_
    refine lv_goto (tgt := 13) hx hb dX3_isSound_9 (by decide) ?_
    refine cv_i (show nI 1 = bI true from by decide) ?_
    exact x_zret X hw (⟨(by simp [c_5]), rfl⟩) dX3_isSound_13
set_option maxHeartbeats 4000000 in
set_option maxRecDepth 100000 in
theorem c_X3_alike (l : Launch) (D : va_G) (cI cZ : ClassId) (t : Nat) (te : Nat) (ts : Nat) (en : Nat → Nat) (st : Nat → Nat) (n : Nat) (v : Nat) (hn : n ≤ 16) (hen : ∀ k, en k < 4096) (hst : ∀ k, st k < 64) (hv : v < 64) : MI l D cI cZ yX3_alike wsX3_alike ({ frames := 0, cells := 0, slots := 0, locals := 0 }) [.ref t, .int (nI v)] [(t, .inr (3, [.ref te, .ref ts, .int (nI n)])), (te, .inl (cI, 16, .inl (iA en))), (ts, .inl (cI, 17, .inl (iA st)))] (fun r w => r = (nI (alk st v n)) ∧ w = [(t, .inr (3, [.ref te, .ref ts, .int (nI n)])), (te, .inl (cI, 16, .inl (iA en))), (ts, .inl (cI, 17, .inl (iA st)))]) := by
  refine MI.of (cc := cX3_alike) (maxL := 4) (ret := (some .int)) (own := RX3) (by decide) rfl rfl (Nat.le_of_ble_eq_true rfl) ?_
  intro pQ eQ s mQ args below meth cQ A X hw ls hl
  obtain ⟨⟨hx, hb, hml, hown, hts⟩, hr, hlk, hK, hN, hA⟩ := id X
  have hl : lv_has ls 4 [(0, .ref t), (1, .int (nI v))] := hl
  have n3 : ∀ w ∈ wsX30, w ∈ wsX3_alike := by decide +kernel
  have f15 : FF args s RX3 wsX3_alike 15 3 1 := ⟨_, rfl, by decide, n3, hts (.fieldLink RX3 15 "AirSteps$Text" "states" "[I") (by decide +kernel)⟩
  have f18 : FF args s RX3 wsX3_alike 18 3 2 := ⟨_, rfl, by decide, n3, hts (.fieldLink RX3 18 "AirSteps$Text" "size" "I") (by decide +kernel)⟩
  refine lv_iconst (v := nI 0) hx hb dX3_alike_0 (by decide) ?_
  refine lv_istore_n (lv' := [(2, .int (nI 0)), (0, .ref t), (1, .int (nI v))]) hx hb dX3_alike_1 rfl hl (by decide) rfl (fun ls hl => ?_)
  refine lv_iconst (v := nI 0) hx hb dX3_alike_2 (by decide) ?_
  refine lv_istore_n (lv' := [(3, .int (nI 0)), (2, .int (nI 0)), (0, .ref t), (1, .int (nI v))]) hx hb dX3_alike_3 rfl hl (by decide) rfl (fun ls hl => ?_)
  refine wl (α := Nat × Nat) (nL := 4) (fun aQ => n - aQ.2) (fun aQ => (aQ.2 ≤ n) ∧ (aQ.1 = alk st v aQ.2)) (fun aQ => [(t, .inr (3, [.ref te, .ref ts, .int (nI n)])), (te, .inl (cI, 16, .inl (iA en))), (ts, .inl (cI, 17, .inl (iA st)))]) (fun aQ => [(3, .int (nI aQ.2)), (2, .int (nI aQ.1)), (0, .ref t), (1, .int (nI v))]) ?_ (0, 0) ⟨(show 0 ≤ n from by omega), (show 0 = alk st v 0 from rfl)⟩ _ _ _ hw (lv_sub hl [0, 1, 2, 3] rfl)
  rintro ⟨a, i⟩ ⟨hi, ha⟩ H locs ls hw hl ih_4
  have hi : i ≤ n := hi
  have ha : a = alk st v i := ha
  have hw : WD D A s.heap [(t, .inr (3, [.ref te, .ref ts, .int (nI n)])), (te, .inl (cI, 16, .inl (iA en))), (ts, .inl (cI, 17, .inl (iA st)))] H locs := hw
  have hl : lv_has ls 4 [(3, .int (nI i)), (2, .int (nI a)), (0, .ref t), (1, .int (nI v))] := hl
  refine lv_iload_n hx hb dX3_alike_4 rfl (lv_at hl 0 rfl) ?_
  refine lv_aload_n hx hb dX3_alike_5 rfl (lv_at hl 2 rfl) ?_
  refine x_get X hw f18 0 rfl rfl dX3_alike_6 ?_
  refine lv_icmp_ge (tgt := 31) hx hb dX3_alike_9 (by decide) (fun c_9 => ?_) (fun c_9 => ?_)
  · skip
    rw [nI_leI (by omega) (by omega)] at c_9
    refine lv_iload_n hx hb dX3_alike_31 rfl (lv_at hl 1 rfl) ?_
    exact x_iret X hw (⟨(by rw [ha, show i = n by omega]), rfl⟩) dX3_alike_32
  · skip
    rw [nI_leI (by omega) (by omega)] at c_9
    refine lv_aload_n hx hb dX3_alike_12 rfl (lv_at hl 2 rfl) ?_
    refine x_get X hw f15 0 rfl rfl dX3_alike_13 ?_
    refine lv_iload_n hx hb dX3_alike_16 rfl (lv_at hl 0 rfl) ?_
    refine x_aldN X hw 2 rfl (by omega) (by omega) dX3_alike_17 ?_
    have hb_17 := hst i
    refine lv_iload_n hx hb dX3_alike_18 rfl (lv_at hl 3 rfl) ?_
    refine lv_icmp_ne (tgt := 25) hx hb dX3_alike_19 (by decide) (fun c_19 => ?_) (fun c_19 => ?_)
    · skip
      rw [nI_eq (by omega) (by omega)] at c_19
      refine lv_iinc (v := nI (i + 1)) (lv' := [(3, .int (nI (i + 1))), (2, .int (nI a)), (0, .ref t), (1, .int (nI v))]) hx hb dX3_alike_25 hl (k := 0) rfl (nI_add i 1) (by decide) rfl (fun ls hl => ?_)
      refine lv_goto (tgt := 4) hx hb dX3_alike_28 (by decide) ?_
      exact ih_4 (a, i + 1) (by show n - (i + 1) < n - i; omega) ⟨(show (i + 1) ≤ n from by omega), (show a = alk st v (i + 1) from by rw [ha]; simp [alk, fo, c_19])⟩ _ _ _ hw (lv_sub hl [0, 1, 2, 3] rfl)
    · skip
      rw [nI_eq (by omega) (by omega)] at c_19
      refine lv_iinc (v := nI (a + 1)) (lv' := [(2, .int (nI (a + 1))), (3, .int (nI i)), (0, .ref t), (1, .int (nI v))]) hx hb dX3_alike_22 hl (k := 1) rfl (nI_add a 1) (by decide) rfl (fun ls hl => ?_)
      refine lv_iinc (v := nI (i + 1)) (lv' := [(3, .int (nI (i + 1))), (2, .int (nI (a + 1))), (0, .ref t), (1, .int (nI v))]) hx hb dX3_alike_25 hl (k := 1) rfl (nI_add i 1) (by decide) rfl (fun ls hl => ?_)
      refine lv_goto (tgt := 4) hx hb dX3_alike_28 (by decide) ?_
      exact ih_4 (a + 1, i + 1) (by show n - (i + 1) < n - i; omega) ⟨(show (i + 1) ≤ n from by omega), (show (a + 1) = alk st v (i + 1) from by rw [ha]; simp [alk, fo, c_19])⟩ _ _ _ hw (lv_sub hl [0, 1, 2, 3] rfl)
set_option maxHeartbeats 4000000 in
set_option maxRecDepth 100000 in
theorem c_X3_mostAlike (l : Launch) (D : va_G) (cI cZ : ClassId) (t : Nat) (te : Nat) (ts : Nat) (en : Nat → Nat) (st : Nat → Nat) (n : Nat) (hn : n ≤ 16) (hen : ∀ k, en k < 4096) (hst : ∀ k, st k < 64) : MI l D cI cZ yX3_mostAlike wsX3_mostAlike ({ frames := 1, cells := 0, slots := 0, locals := 23 }) [.ref t] [(t, .inr (3, [.ref te, .ref ts, .int (nI n)])), (te, .inl (cI, 16, .inl (iA en))), (ts, .inl (cI, 17, .inl (iA st)))] (fun r w => r = (nI (mal st n n)) ∧ w = [(t, .inr (3, [.ref te, .ref ts, .int (nI n)])), (te, .inl (cI, 16, .inl (iA en))), (ts, .inl (cI, 17, .inl (iA st)))]) := by
  refine MI.of (cc := cX3_mostAlike) (maxL := 3) (ret := (some .int)) (own := RX3) (by decide) rfl rfl (Nat.le_of_ble_eq_true rfl) ?_
  intro pQ eQ s mQ args below meth cQ A X hw ls hl
  obtain ⟨⟨hx, hb, hml, hown, hts⟩, hr, hlk, hK, hN, hA⟩ := id X
  have hl : lv_has ls 3 [(0, .ref t)] := hl
  have n3 : ∀ w ∈ wsX30, w ∈ wsX3_mostAlike := by decide +kernel
  have f15 : FF args s RX3 wsX3_mostAlike 15 3 1 := ⟨_, rfl, by decide, n3, hts (.fieldLink RX3 15 "AirSteps$Text" "states" "[I") (by decide +kernel)⟩
  have f18 : FF args s RX3 wsX3_mostAlike 18 3 2 := ⟨_, rfl, by decide, n3, hts (.fieldLink RX3 18 "AirSteps$Text" "size" "I") (by decide +kernel)⟩
  refine lv_iconst (v := nI 0) hx hb dX3_mostAlike_0 (by decide) ?_
  refine lv_istore_n (lv' := [(1, .int (nI 0)), (0, .ref t)]) hx hb dX3_mostAlike_1 rfl hl (by decide) rfl (fun ls hl => ?_)
  refine lv_iconst (v := nI 0) hx hb dX3_mostAlike_2 (by decide) ?_
  refine lv_istore_n (lv' := [(2, .int (nI 0)), (1, .int (nI 0)), (0, .ref t)]) hx hb dX3_mostAlike_3 rfl hl (by decide) rfl (fun ls hl => ?_)
  refine wl (α := Nat × Nat) (nL := 3) (fun aQ => n - aQ.2) (fun aQ => (aQ.2 ≤ n) ∧ (aQ.1 = mal st n aQ.2) ∧ (aQ.1 ≤ 16)) (fun aQ => [(t, .inr (3, [.ref te, .ref ts, .int (nI n)])), (te, .inl (cI, 16, .inl (iA en))), (ts, .inl (cI, 17, .inl (iA st)))]) (fun aQ => [(2, .int (nI aQ.2)), (1, .int (nI aQ.1)), (0, .ref t)]) ?_ (0, 0) ⟨(show 0 ≤ n from by omega), (show 0 = mal st n 0 from rfl), (show 0 ≤ 16 from by omega)⟩ _ _ _ hw (lv_sub hl [0, 1, 2] rfl)
  rintro ⟨a, i⟩ ⟨hi, ha, hab⟩ H locs ls hw hl ih_4
  have hi : i ≤ n := hi
  have ha : a = mal st n i := ha
  have hab : a ≤ 16 := hab
  have hw : WD D A s.heap [(t, .inr (3, [.ref te, .ref ts, .int (nI n)])), (te, .inl (cI, 16, .inl (iA en))), (ts, .inl (cI, 17, .inl (iA st)))] H locs := hw
  have hl : lv_has ls 3 [(2, .int (nI i)), (1, .int (nI a)), (0, .ref t)] := hl
  refine lv_iload_n hx hb dX3_mostAlike_4 rfl (lv_at hl 0 rfl) ?_
  refine lv_aload_n hx hb dX3_mostAlike_5 rfl (lv_at hl 2 rfl) ?_
  refine x_get X hw f18 0 rfl rfl dX3_mostAlike_6 ?_
  refine lv_icmp_ge (tgt := 33) hx hb dX3_mostAlike_9 (by decide) (fun c_9 => ?_) (fun c_9 => ?_)
  · skip
    rw [nI_leI (by omega) (by omega)] at c_9
    refine lv_iload_n hx hb dX3_mostAlike_33 rfl (lv_at hl 1 rfl) ?_
    exact x_iret X hw (⟨(by rw [ha, show i = n by omega]), rfl⟩) dX3_mostAlike_34
  · skip
    rw [nI_leI (by omega) (by omega)] at c_9
    refine lv_iload_n hx hb dX3_mostAlike_12 rfl (lv_at hl 1 rfl) ?_
    refine lv_aload_n hx hb dX3_mostAlike_13 rfl (lv_at hl 2 rfl) ?_
    refine lv_aload_n hx hb dX3_mostAlike_14 rfl (lv_at hl 2 rfl) ?_
    refine x_get X hw f15 0 rfl rfl dX3_mostAlike_15 ?_
    refine lv_iload_n hx hb dX3_mostAlike_18 rfl (lv_at hl 0 rfl) ?_
    refine x_aldN X hw 2 rfl (by omega) (by omega) dX3_mostAlike_19 ?_
    have hb_19 := hst i
    refine x_callV (As := [.int (nI (st i))]) (rest := [.int (nI a)]) X hw hl.1 (c_X3_alike l D cI cZ t te ts en st n (st i) (by first | assumption | omega) (by first | assumption | omega) (by first | assumption | omega) (by first | assumption | omega)) (cwV 1 hts gX3_mostAlike_X3_alike rfl rfl rfl (by decide +kernel) ⟨Nat.le_of_ble_eq_true rfl, Nat.le_of_ble_eq_true rfl⟩) [0, 1, 2] rfl rfl 0 rfl rfl rfl rfl (Nat.le_of_ble_eq_true rfl) dX3_mostAlike_20 (by decide) (fun r w1 H locs hp hw1 => ?_)
    obtain ⟨rfl, rfl⟩ := hp
    have hw : WD D A s.heap [(t, .inr (3, [.ref te, .ref ts, .int (nI n)])), (te, .inl (cI, 16, .inl (iA en))), (ts, .inl (cI, 17, .inl (iA st)))] H locs := hw1 rfl
    have hal := alk_le st (st i) n
    refine va_mmax hx hb (by rw [hml]; exact hl.1.symm) hown (hts (.methodLink RX3 44 Lib.Math.max.name) (by decide +kernel)) (hts (.static Lib.Math.max.name) (by decide +kernel)) (hts (.initialized "java/lang/Math") (by decide +kernel)) (hts (.code Lib.Math.max.name Lib.Math.max.code 2 (some .int)) (by decide +kernel)) (by decide) (by decide) (by decide) (by decide) dX3_mostAlike_23 ?_
    refine cv_i (show (if nI a < nI (alk st (st i) n) then nI (alk st (st i) n) else nI a) = nI (max a (alk st (st i) n)) from q_max (by omega) (by omega)) ?_
    refine lv_istore_n (lv' := [(1, .int (nI (max a (alk st (st i) n)))), (2, .int (nI i)), (0, .ref t)]) hx hb dX3_mostAlike_26 rfl hl (by decide) rfl (fun ls hl => ?_)
    refine lv_iinc (v := nI (i + 1)) (lv' := [(2, .int (nI (i + 1))), (1, .int (nI (max a (alk st (st i) n)))), (0, .ref t)]) hx hb dX3_mostAlike_27 hl (k := 1) rfl (nI_add i 1) (by decide) rfl (fun ls hl => ?_)
    refine lv_goto (tgt := 4) hx hb dX3_mostAlike_30 (by decide) ?_
    exact ih_4 (max a (alk st (st i) n), i + 1) (by show n - (i + 1) < n - i; omega) ⟨(show (i + 1) ≤ n from by omega), (show (max a (alk st (st i) n)) = mal st n (i + 1) from by rw [ha]; rfl), (show (max a (alk st (st i) n)) ≤ 16 from by omega)⟩ _ _ _ hw (lv_sub hl [0, 1, 2] rfl)
