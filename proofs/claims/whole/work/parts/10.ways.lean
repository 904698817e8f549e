/-! ===== AirSteps.Ways ===== -/
theorem xb_lt : ∀ st, st < 64 → ∀ c, c < 6 → st ^^^ 1 <<< c < 64 := by decide +kernel
abbrev WS : Type := (Nat → Nat) × (Nat → Nat) × Nat
def rbS (aw : Nat → Nat → Bool) (st c : Nat) (a : WS) : WS := if a.1 (st ^^^ 1 <<< c) = 0 ∧ aw (st ^^^ 1 <<< c) c = true ∧ a.2.2 < 64 then (va_up a.1 (st ^^^ 1 <<< c) (a.1 st + 1), va_up a.2.1 a.2.2 (st ^^^ 1 <<< c), a.2.2 + 1) else a
def rbF (aw : Nat → Nat → Bool) (st : Nat) (a : WS) (i : Nat) : WS := fo (rbS aw st) a i
def nxP (aw : Nat → Nat → Bool) (dp : Nat → Nat) (st c : Nat) : Bool := decide (dp (st ^^^ 1 <<< c) + 1 = dp st) && aw st c
def nxt (aw : Nat → Nat → Bool) (dp : Nat → Nat) (st : Nat) : Nat := if fs (nxP aw dp st) 6 < 6 then fs (nxP aw dp st) 6 else 0
theorem nxt_lt (aw : Nat → Nat → Bool) (dp : Nat → Nat) (st : Nat) : nxt aw dp st < 6 := by unfold nxt; split <;> omega
def wlk (aw : Nat → Nat → Bool) (dp : Nat → Nat) (st i : Nat) : Nat := fo (fun _ a => a ^^^ 1 <<< nxt aw dp a) st i
theorem wlk_lt (aw : Nat → Nat → Bool) (dp : Nat → Nat) {st : Nat} (h : st < 64) : ∀ i : Nat, wlk aw dp st i < 64
  | 0 => h
  | i + 1 => xb_lt _ (wlk_lt aw dp h i) _ (nxt_lt aw dp _)
def mvC (aw : Nat → Nat → Bool) (dp : Nat → Nat) (st i : Nat) : Int32 := if i + 1 < dp st then nI (if (wlk aw dp st i).testBit (nxt aw dp (wlk aw dp st i)) then nxt aw dp (wlk aw dp st i) else nxt aw dp (wlk aw dp st i) + 10) else -1
theorem rbS_bd {aw : Nat → Nat → Bool} {st c : Nat} {a : WS} {B : Nat} (hst : st < 64) (hc : c < 6) (h0 : a.1 st ≤ B) (h : ∀ k, a.1 k ≤ B + 1) (hq : ∀ k, a.2.1 k < 64) : (rbS aw st c a).1 st ≤ B ∧ (∀ k, (rbS aw st c a).1 k ≤ B + 1) ∧ ∀ k, (rbS aw st c a).2.1 k < 64 := by
  unfold rbS
  split
  · refine ⟨?_, fun k => ?_, fun k => ?_⟩
    · show va_up a.1 _ _ st ≤ B
      unfold va_up
      split
      · rename_i he
        exfalso
        revert he
        have : ∀ st, st < 64 → ∀ c, c < 6 → ¬ st = st ^^^ 1 <<< c := by decide +kernel
        exact this st hst c hc
      · exact h0
    · show va_up a.1 _ _ k ≤ B + 1
      unfold va_up
      split
      · omega
      · exact h k
    · show va_up a.2.1 _ _ k < 64
      unfold va_up
      split
      · exact xb_lt st hst c hc
      · exact hq k
  · exact ⟨h0, h, hq⟩
theorem rbF_bd {aw : Nat → Nat → Bool} {st : Nat} {a : WS} {B : Nat} (hst : st < 64) (h : ∀ k, a.1 k ≤ B) (hq : ∀ k, a.2.1 k < 64) : ∀ i, i ≤ 6 → (rbF aw st a i).1 st ≤ B ∧ (∀ k, (rbF aw st a i).1 k ≤ B + 1) ∧ ∀ k, (rbF aw st a i).2.1 k < 64
  | 0, _ => ⟨h st, fun k => Nat.le_succ_of_le (h k), hq⟩
  | i + 1, hi => by
    obtain ⟨h1, h2, h3⟩ := rbF_bd hst h hq i (by omega)
    exact rbS_bd hst (by omega) h1 h2 h3
def msS (aw : Nat → Nat → Bool) (i : Nat) (a : WS) : WS := if i < a.2.2 then rbF aw (a.2.1 i) a 6 else a
def msF (aw : Nat → Nat → Bool) (q : Nat → Nat) (i : Nat) : WS := fo (msS aw) (va_up (fun _ => 0) 0 1, va_up q 0 0, 1) i
theorem msF_bd {aw : Nat → Nat → Bool} {q : Nat → Nat} (hq : ∀ k, q k < 64) : ∀ i : Nat, (∀ k, (msF aw q i).1 k ≤ i + 1) ∧ ∀ k, (msF aw q i).2.1 k < 64
  | 0 => by
    refine ⟨fun k => ?_, fun k => ?_⟩
    · show va_up (fun _ => 0) 0 1 k ≤ 1
      unfold va_up
      split
      · omega
      · show 0 ≤ 1
        omega
    · show va_up q 0 0 k < 64
      unfold va_up
      split
      · omega
      · exact hq k
  | i + 1 => by
    obtain ⟨h1, h2⟩ := msF_bd hq i
    show (∀ k, (msS aw i (msF aw q i)).1 k ≤ i + 1 + 1) ∧ ∀ k, (msS aw i (msF aw q i)).2.1 k < 64
    unfold msS
    split
    · exact (rbF_bd (h2 i) h1 h2 6 (Nat.le_refl 6)).2
    · exact ⟨fun k => Nat.le_succ_of_le (h1 k), h2⟩
theorem msF_stay {aw : Nat → Nat → Bool} {q : Nat → Nat} {i : Nat} (h : ¬ i < (msF aw q i).2.2) : ∀ d : Nat, msF aw q (i + d) = msF aw q i
  | 0 => rfl
  | d + 1 => by
    show msS aw (i + d) (msF aw q (i + d)) = _
    rw [msF_stay h d]
    unfold msS
    rw [if_neg (by omega)]
theorem up_zero {d : Nat → Nat} {i : Nat} (h : ∀ j, j < i → d j = 0) : ∀ j, j < i + 1 → va_up d i 0 j = 0 := fun j hj => by
  unfold va_up
  split
  · rfl
  · exact h j (by omega)
theorem rbF_kn {aw : Nat → Nat → Bool} {st : Nat} {a : WS} {K : Nat} (h : a.2.2 ≤ K) : (rbF aw st a 6).2.2 ≤ K + 6 := by
  have key : ∀ i, (rbF aw st a i).2.2 ≤ K + i := by
    intro i
    induction i with
    | zero => exact h
    | succ i ih =>
      show (rbS aw st i (rbF aw st a i)).2.2 ≤ K + (i + 1)
      unfold rbS
      split
      · show (rbF aw st a i).2.2 + 1 ≤ _
        omega
      · omega
  exact key 6
set_option maxHeartbeats 4000000 in
set_option maxRecDepth 100000 in
theorem c_X4_length (l : Launch) (D : va_G) (cI cZ : ClassId) (wa : Nat) (wv : Nat) (wq : Nat) (dp : Nat → Nat) (qu : Nat → Nat) (k : Nat) (hk : k < 64) : MI l D cI cZ yX4_length wsX4_length ({ frames := 2, cells := 0, slots := 0, locals := 41 }) [.ref wa, .int (nI k)] [(wa, .inr (4, [.ref wv, .ref wq])), (wv, .inl (cI, 64, .inl (mA dp))), (wq, .inl (cI, 64, .inl (iA qu)))] (fun r w => r = (mI (dp k)) ∧ w = [(wa, .inr (4, [.ref wv, .ref wq])), (wv, .inl (cI, 64, .inl (mA dp))), (wq, .inl (cI, 64, .inl (iA qu)))]) := by
  refine MI.of (cc := cX4_length) (maxL := 2) (ret := (some .int)) (own := RX4) (by decide) rfl rfl (Nat.le_of_ble_eq_true rfl) ?_
  intro pQ eQ s mQ args below meth cQ A X hw ls hl
  obtain ⟨⟨hx, hb, hml, hown, hts⟩, hr, hlk, hK, hN, hA⟩ := id X
  have hl : lv_has ls 2 [(0, .ref wa), (1, .int (nI k))] := hl
  have n4 : ∀ w ∈ wsX40, w ∈ wsX4_length := by decide +kernel
  have f9 : FF args s RX4 wsX4_length 9 4 0 := ⟨_, rfl, by decide, n4, hts (.fieldLink RX4 9 "AirSteps$Ways" "lengths" "[I") (by decide +kernel)⟩
  refine lv_iload_n hx hb dX4_length_0 rfl (lv_at hl 1 rfl) ?_
  refine x_callN (As := [.int (nI k)]) (rest := []) (host := RX5) (n := 1) X hw hl.1 (c_X5_isState l D cI cZ (nI k) ) gX4_length_X5_isState_n34 rfl rfl rfl (List.mem_of_getElem? (i := 16) rfl) (by decide +kernel) (by decide +kernel) (by decide +kernel) ⟨Nat.le_of_ble_eq_true rfl, Nat.le_of_ble_eq_true rfl⟩ [] rfl rfl rfl (Nat.le_of_ble_eq_true rfl) dX4_length_1 (by decide) (fun r w1 H locs hp hw1 => ?_)
  obtain ⟨rfl, rfl⟩ := hp
  have hw : WD D A s.heap [(wa, .inr (4, [.ref wv, .ref wq])), (wv, .inl (cI, 64, .inl (mA dp))), (wq, .inl (cI, 64, .inl (iA qu)))] H locs := hw1 rfl
  refine lv_if_eq (tgt := 16) hx hb dX4_length_4 (by decide) (fun c_4 => ?_) (fun c_4 => ?_)
  · skip
    rw [q_b0] at c_4; try simp only [Bool.not_eq_false, Bool.not_eq_true] at c_4
    rw [bel_nI (by omega) (by omega)] at c_4; simp at c_4; omega
  · skip
    rw [q_b0] at c_4; try simp only [Bool.not_eq_false, Bool.not_eq_true] at c_4
    refine lv_aload_n hx hb dX4_length_7 rfl (lv_at hl 0 rfl) ?_
    refine x_get X hw f9 0 rfl rfl dX4_length_8 ?_
    refine lv_iload_n hx hb dX4_length_11 rfl (lv_at hl 1 rfl) ?_
    refine x_aldM X hw 1 rfl (by omega) (by omega) dX4_length_12 ?_
    refine lv_goto (tgt := 17) hx hb dX4_length_13 (by decide) ?_
    exact x_iret X hw (⟨(by first | rfl | omega | (simp [c_4]; done) | (simp_all; done)), rfl⟩) dX4_length_17
set_option maxHeartbeats 4000000 in
set_option maxRecDepth 100000 in
theorem c_X4_reachBack (l : Launch) (D : va_G) (cI cZ : ClassId) (wa : Nat) (wv : Nat) (wq : Nat) (dp : Nat → Nat) (qu : Nat → Nat) (la : Nat) (lb : Nat) (lw : Nat) (ba : Nat → Nat) (wh : Nat → Nat) (nl : Nat) (st : Nat) (kn : Nat) (B : Nat) (hnl : nl ≤ 12) (hba : ∀ k, ba k < 12) (hwh : ∀ k, wh k < 12) (hst1 : st < 64) (hB : B < 900) (hdB : ∀ k, dp k ≤ B) (hqu : ∀ k, qu k < 64) (hkn : kn < 1000) : MI l D cI cZ yX4_reachBack wsX4_reachBack ({ frames := 4, cells := 0, slots := 0, locals := 90 }) [.ref wa, .ref la, .int (nI st), .int (nI kn)] [(wa, .inr (4, [.ref wv, .ref wq])), (wv, .inl (cI, 64, .inl (mA dp))), (wq, .inl (cI, 64, .inl (iA qu))), (la, .inr (1, [.ref lb, .ref lw, .int (nI nl)])), (lb, .inl (cI, 12, .inl (iA ba))), (lw, .inl (cI, 12, .inl (iA wh)))] (fun r w => r = (nI ((rbF (alM ba wh nl) st (dp, qu, kn) 6).2.2)) ∧ w = [(wa, .inr (4, [.ref wv, .ref wq])), (wv, .inl (cI, 64, .inl (mA ((rbF (alM ba wh nl) st (dp, qu, kn) 6).1)))), (wq, .inl (cI, 64, .inl (iA ((rbF (alM ba wh nl) st (dp, qu, kn) 6).2.1)))), (la, .inr (1, [.ref lb, .ref lw, .int (nI nl)])), (lb, .inl (cI, 12, .inl (iA ba))), (lw, .inl (cI, 12, .inl (iA wh)))]) := by
  refine MI.of (cc := cX4_reachBack) (maxL := 7) (ret := (some .int)) (own := RX4) (by decide) rfl rfl (Nat.le_of_ble_eq_true rfl) ?_
  intro pQ eQ s mQ args below meth cQ A X hw ls hl
  obtain ⟨⟨hx, hb, hml, hown, hts⟩, hr, hlk, hK, hN, hA⟩ := id X
  have hl : lv_has ls 7 [(0, .ref wa), (1, .ref la), (2, .int (nI st)), (3, .int (nI kn))] := hl
  have n4 : ∀ w ∈ wsX40, w ∈ wsX4_reachBack := by decide +kernel
  have f9 : FF args s RX4 wsX4_reachBack 9 4 0 := ⟨_, rfl, by decide, n4, hts (.fieldLink RX4 9 "AirSteps$Ways" "lengths" "[I") (by decide +kernel)⟩
  have f15 : FF args s RX4 wsX4_reachBack 15 4 1 := ⟨_, rfl, by decide, n4, hts (.fieldLink RX4 15 "AirSteps$Ways" "queue" "[I") (by decide +kernel)⟩
  refine lv_iload_n hx hb dX4_reachBack_0 rfl (lv_at hl 3 rfl) ?_
  refine lv_istore (lv' := [(4, .int (nI kn)), (0, .ref wa), (1, .ref la), (2, .int (nI st)), (3, .int (nI kn))]) hx hb dX4_reachBack_1 hl (by decide) rfl (fun ls hl => ?_)
  refine lv_iconst (v := nI 0) hx hb dX4_reachBack_3 (by decide) ?_
  refine lv_istore (lv' := [(5, .int (nI 0)), (4, .int (nI kn)), (0, .ref wa), (1, .ref la), (2, .int (nI st)), (3, .int (nI kn))]) hx hb dX4_reachBack_4 hl (by decide) rfl (fun ls hl => ?_)
  refine wl (α := (Nat → Nat) × (Nat → Nat) × Nat × Nat) (nL := 7) (fun aQ => 6 - aQ.2.2.2) (fun aQ => (aQ.2.2.2 ≤ 6) ∧ ((aQ.1, aQ.2.1, aQ.2.2.1) = rbF (alM ba wh nl) st (dp, qu, kn) aQ.2.2.2) ∧ (aQ.2.2.1 ≤ kn + aQ.2.2.2)) (fun aQ => [(wa, .inr (4, [.ref wv, .ref wq])), (wv, .inl (cI, 64, .inl (mA aQ.1))), (wq, .inl (cI, 64, .inl (iA aQ.2.1))), (la, .inr (1, [.ref lb, .ref lw, .int (nI nl)])), (lb, .inl (cI, 12, .inl (iA ba))), (lw, .inl (cI, 12, .inl (iA wh)))]) (fun aQ => [(5, .int (nI aQ.2.2.2)), (4, .int (nI aQ.2.2.1)), (0, .ref wa), (1, .ref la), (2, .int (nI st)), (3, .int (nI kn))]) ?_ (dp, qu, kn, 0) ⟨(show 0 ≤ 6 from by omega), (show (dp, qu, kn) = rbF (alM ba wh nl) st (dp, qu, kn) 0 from rfl), (show kn ≤ kn + 0 from by omega)⟩ _ _ _ hw (lv_sub hl [0, 1, 2, 3, 4, 5] rfl)
  rintro ⟨d, q, k1, i⟩ ⟨hi, ha, hk1⟩ H locs ls hw hl ih_6
  have hi : i ≤ 6 := hi
  have ha : (d, q, k1) = rbF (alM ba wh nl) st (dp, qu, kn) i := ha
  have hk1 : k1 ≤ kn + i := hk1
  have hw : WD D A s.heap [(wa, .inr (4, [.ref wv, .ref wq])), (wv, .inl (cI, 64, .inl (mA d))), (wq, .inl (cI, 64, .inl (iA q))), (la, .inr (1, [.ref lb, .ref lw, .int (nI nl)])), (lb, .inl (cI, 12, .inl (iA ba))), (lw, .inl (cI, 12, .inl (iA wh)))] H locs := hw
  have hl : lv_has ls 7 [(5, .int (nI i)), (4, .int (nI k1)), (0, .ref wa), (1, .ref la), (2, .int (nI st)), (3, .int (nI kn))] := hl
  obtain ⟨hd1, hd2, hd3⟩ := rbF_bd (aw := alM ba wh nl) (a := (dp, qu, kn)) hst1 hdB hqu i hi
  rw [← ha] at hd1 hd2 hd3
  have hd1 : d st ≤ B := hd1
  have hd2 : ∀ k, d k ≤ B + 1 := hd2
  have hd3 : ∀ k, q k < 64 := hd3
  refine lv_iload hx hb dX4_reachBack_6 (lv_at hl 0 rfl) ?_
  refine lv_bipush (v := nI 6) hx hb dX4_reachBack_8 (by decide) ?_
  refine lv_icmp_ge (tgt := 83) hx hb dX4_reachBack_10 (by decide) (fun c_10 => ?_) (fun c_10 => ?_)
  · skip
    rw [nI_leI (by omega) (by omega)] at c_10
    have ha6 : rbF (alM ba wh nl) st (dp, qu, kn) 6 = (d, q, k1) := by rw [ha, show i = 6 by omega]
    refine lv_iload hx hb dX4_reachBack_83 (lv_at hl 1 rfl) ?_
    exact x_iret X hw (⟨(by rw [ha6]), (by rw [ha6])⟩) dX4_reachBack_85
  · skip
    rw [nI_leI (by omega) (by omega)] at c_10
    have hx1 := xb_lt st hst1 i (by omega)
    refine lv_iload_n hx hb dX4_reachBack_13 rfl (lv_at hl 4 rfl) ?_
    refine lv_iconst (v := nI 1) hx hb dX4_reachBack_14 (by decide) ?_
    refine lv_iload hx hb dX4_reachBack_15 (lv_at hl 0 rfl) ?_
    refine lv_ishl hx hb dX4_reachBack_17 ?_
    refine cv_i (show (nI 1) <<< (nI i &&& 31) = nI (1 <<< i) from q_shl 1 i (by first | omega | assumption)) ?_
    refine lv_ixor hx hb dX4_reachBack_18 ?_
    refine cv_i (show nI st ^^^ nI (1 <<< i) = nI (st ^^^ (1 <<< i)) from q_xor st (1 <<< i)) ?_
    refine lv_istore (lv' := [(6, .int (nI (st ^^^ (1 <<< i)))), (5, .int (nI i)), (4, .int (nI k1)), (0, .ref wa), (1, .ref la), (2, .int (nI st)), (3, .int (nI kn))]) hx hb dX4_reachBack_19 hl (by decide) rfl (fun ls hl => ?_)
    refine lv_aload_n hx hb dX4_reachBack_21 rfl (lv_at hl 3 rfl) ?_
    refine x_get X hw f9 0 rfl rfl dX4_reachBack_22 ?_
    refine lv_iload hx hb dX4_reachBack_25 (lv_at hl 0 rfl) ?_
    refine x_aldM X hw 1 rfl (by omega) (by omega) dX4_reachBack_27 ?_
    have hb_27 := hd2 (st ^^^ (1 <<< i))
    refine lv_iconst (v := (-1)) hx hb dX4_reachBack_28 (by decide) ?_
    refine lv_icmp_ne (tgt := 77) hx hb dX4_reachBack_29 (by decide) (fun c_29 => ?_) (fun c_29 => ?_)
    · skip
      rw [q_mN (by omega)] at c_29
      refine lv_iinc (v := nI (i + 1)) (lv' := [(5, .int (nI (i + 1))), (6, .int (nI (st ^^^ (1 <<< i)))), (4, .int (nI k1)), (0, .ref wa), (1, .ref la), (2, .int (nI st)), (3, .int (nI kn))]) hx hb dX4_reachBack_77 hl (k := 1) rfl (nI_add i 1) (by decide) rfl (fun ls hl => ?_)
      refine lv_goto (tgt := 6) hx hb dX4_reachBack_80 (by decide) ?_
      exact ih_6 (d, q, k1, i + 1) (by show 6 - (i + 1) < 6 - i; omega) ⟨(show (i + 1) ≤ 6 from by omega), (show (d, q, k1) = rbF (alM ba wh nl) st (dp, qu, kn) (i + 1) from by show _ = rbS (alM ba wh nl) st i (rbF (alM ba wh nl) st (dp, qu, kn) i); rw [← ha]; first | (simp [rbS, c_29]; done) | (simp [rbS, c_29, c_40]; done) | (simp [rbS, c_29, c_40, c_47]; done) | (simp [rbS, c_29, c_40]; omega)), (show k1 ≤ kn + (i + 1) from by omega)⟩ _ _ _ hw (lv_sub hl [0, 2, 3, 4, 5, 6] rfl)
    · skip
      rw [q_mN (by omega)] at c_29
      refine lv_aload_n hx hb dX4_reachBack_32 rfl (lv_at hl 4 rfl) ?_
      refine lv_iload hx hb dX4_reachBack_33 (lv_at hl 0 rfl) ?_
      refine lv_iload hx hb dX4_reachBack_35 (lv_at hl 1 rfl) ?_
      refine x_callV (As := [.int (nI (st ^^^ (1 <<< i))), .int (nI i)]) (rest := []) X hw hl.1 (c_X1_allowMove l D cI cZ la lb lw ba wh nl (st ^^^ (1 <<< i)) i (by first | assumption | omega) (by first | assumption | omega) (by first | assumption | omega) (by first | assumption | omega) (by first | assumption | omega)) (cwV 2 hts gX4_reachBack_X1_allowMove rfl rfl rfl (by decide +kernel) ⟨Nat.le_of_ble_eq_true rfl, Nat.le_of_ble_eq_true rfl⟩) [3, 4, 5] rfl rfl 0 rfl rfl rfl rfl (Nat.le_of_ble_eq_true rfl) dX4_reachBack_37 (by decide) (fun r w1 H locs hp hw1 => ?_)
      obtain ⟨rfl, rfl⟩ := hp
      have hw : WD D A s.heap [(wa, .inr (4, [.ref wv, .ref wq])), (wv, .inl (cI, 64, .inl (mA d))), (wq, .inl (cI, 64, .inl (iA q))), (la, .inr (1, [.ref lb, .ref lw, .int (nI nl)])), (lb, .inl (cI, 12, .inl (iA ba))), (lw, .inl (cI, 12, .inl (iA wh)))] H locs := hw1 rfl
      refine lv_if_eq (tgt := 77) hx hb dX4_reachBack_40 (by decide) (fun c_40 => ?_) (fun c_40 => ?_)
      · skip
        rw [q_b0] at c_40; try simp only [Bool.not_eq_false, Bool.not_eq_true] at c_40
        refine lv_iinc (v := nI (i + 1)) (lv' := [(5, .int (nI (i + 1))), (6, .int (nI (st ^^^ (1 <<< i)))), (4, .int (nI k1)), (0, .ref wa), (1, .ref la), (2, .int (nI st)), (3, .int (nI kn))]) hx hb dX4_reachBack_77 hl (k := 1) rfl (nI_add i 1) (by decide) rfl (fun ls hl => ?_)
        refine lv_goto (tgt := 6) hx hb dX4_reachBack_80 (by decide) ?_
        exact ih_6 (d, q, k1, i + 1) (by show 6 - (i + 1) < 6 - i; omega) ⟨(show (i + 1) ≤ 6 from by omega), (show (d, q, k1) = rbF (alM ba wh nl) st (dp, qu, kn) (i + 1) from by show _ = rbS (alM ba wh nl) st i (rbF (alM ba wh nl) st (dp, qu, kn) i); rw [← ha]; first | (simp [rbS, c_29]; done) | (simp [rbS, c_29, c_40]; done) | (simp [rbS, c_29, c_40, c_47]; done) | (simp [rbS, c_29, c_40]; omega)), (show k1 ≤ kn + (i + 1) from by omega)⟩ _ _ _ hw (lv_sub hl [0, 2, 3, 4, 5, 6] rfl)
      · skip
        rw [q_b0] at c_40; try simp only [Bool.not_eq_false, Bool.not_eq_true] at c_40
        refine lv_iload hx hb dX4_reachBack_43 (lv_at hl 2 rfl) ?_
        refine lv_bipush (v := nI 64) hx hb dX4_reachBack_45 (by decide) ?_
        refine lv_icmp_ge (tgt := 77) hx hb dX4_reachBack_47 (by decide) (fun c_47 => ?_) (fun c_47 => ?_)
        · skip
          rw [nI_leI (by omega) (by omega)] at c_47
          refine lv_iinc (v := nI (i + 1)) (lv' := [(5, .int (nI (i + 1))), (6, .int (nI (st ^^^ (1 <<< i)))), (4, .int (nI k1)), (0, .ref wa), (1, .ref la), (2, .int (nI st)), (3, .int (nI kn))]) hx hb dX4_reachBack_77 hl (k := 1) rfl (nI_add i 1) (by decide) rfl (fun ls hl => ?_)
          refine lv_goto (tgt := 6) hx hb dX4_reachBack_80 (by decide) ?_
          exact ih_6 (d, q, k1, i + 1) (by show 6 - (i + 1) < 6 - i; omega) ⟨(show (i + 1) ≤ 6 from by omega), (show (d, q, k1) = rbF (alM ba wh nl) st (dp, qu, kn) (i + 1) from by show _ = rbS (alM ba wh nl) st i (rbF (alM ba wh nl) st (dp, qu, kn) i); rw [← ha]; first | (simp [rbS, c_29]; done) | (simp [rbS, c_29, c_40]; done) | (simp [rbS, c_29, c_40, c_47]; done) | (simp [rbS, c_29, c_40]; omega)), (show k1 ≤ kn + (i + 1) from by omega)⟩ _ _ _ hw (lv_sub hl [0, 2, 3, 4, 5, 6] rfl)
        · skip
          rw [nI_leI (by omega) (by omega)] at c_47
          refine lv_aload_n hx hb dX4_reachBack_50 rfl (lv_at hl 3 rfl) ?_
          refine x_get X hw f9 0 rfl rfl dX4_reachBack_51 ?_
          refine lv_iload hx hb dX4_reachBack_54 (lv_at hl 0 rfl) ?_
          refine lv_aload_n hx hb dX4_reachBack_56 rfl (lv_at hl 3 rfl) ?_
          refine x_get X hw f9 0 rfl rfl dX4_reachBack_57 ?_
          refine lv_iload_n hx hb dX4_reachBack_60 rfl (lv_at hl 5 rfl) ?_
          refine x_aldM X hw 1 rfl (by omega) (by omega) dX4_reachBack_61 ?_
          have hb_61 := hd2 st
          refine lv_iconst (v := nI 1) hx hb dX4_reachBack_62 (by decide) ?_
          refine lv_iadd hx hb dX4_reachBack_63 ?_
          refine cv_i (show mI (d st) + nI 1 = nI (d st) from q_mp (d st)) ?_
          refine cv_i (show nI (d st) = mI ((d st) + 1) from (nI_pred (d st)).symm) ?_
          refine x_astM X hw 1 rfl (by omega) (by omega) dX4_reachBack_64 (fun H locs hw => ?_)
          have hw : WD D A s.heap [(wa, .inr (4, [.ref wv, .ref wq])), (wv, .inl (cI, 64, .inl (mA (va_up d (st ^^^ (1 <<< i)) ((d st) + 1))))), (wq, .inl (cI, 64, .inl (iA q))), (la, .inr (1, [.ref lb, .ref lw, .int (nI nl)])), (lb, .inl (cI, 12, .inl (iA ba))), (lw, .inl (cI, 12, .inl (iA wh)))] H locs := hw
          refine lv_aload_n hx hb dX4_reachBack_65 rfl (lv_at hl 3 rfl) ?_
          refine x_get X hw f15 0 rfl rfl dX4_reachBack_66 ?_
          refine lv_iload hx hb dX4_reachBack_69 (lv_at hl 2 rfl) ?_
          refine lv_iload hx hb dX4_reachBack_71 (lv_at hl 0 rfl) ?_
          refine x_astN X hw 2 rfl (by omega) (by omega) dX4_reachBack_73 (fun H locs hw => ?_)
          have hw : WD D A s.heap [(wa, .inr (4, [.ref wv, .ref wq])), (wv, .inl (cI, 64, .inl (mA (va_up d (st ^^^ (1 <<< i)) ((d st) + 1))))), (wq, .inl (cI, 64, .inl (iA (va_up q k1 (st ^^^ (1 <<< i)))))), (la, .inr (1, [.ref lb, .ref lw, .int (nI nl)])), (lb, .inl (cI, 12, .inl (iA ba))), (lw, .inl (cI, 12, .inl (iA wh)))] H locs := hw
          refine lv_iinc (v := nI (k1 + 1)) (lv' := [(4, .int (nI (k1 + 1))), (6, .int (nI (st ^^^ (1 <<< i)))), (5, .int (nI i)), (0, .ref wa), (1, .ref la), (2, .int (nI st)), (3, .int (nI kn))]) hx hb dX4_reachBack_74 hl (k := 2) rfl (nI_add k1 1) (by decide) rfl (fun ls hl => ?_)
          refine lv_iinc (v := nI (i + 1)) (lv' := [(5, .int (nI (i + 1))), (4, .int (nI (k1 + 1))), (6, .int (nI (st ^^^ (1 <<< i)))), (0, .ref wa), (1, .ref la), (2, .int (nI st)), (3, .int (nI kn))]) hx hb dX4_reachBack_77 hl (k := 2) rfl (nI_add i 1) (by decide) rfl (fun ls hl => ?_)
          refine lv_goto (tgt := 6) hx hb dX4_reachBack_80 (by decide) ?_
          exact ih_6 (va_up d (st ^^^ (1 <<< i)) ((d st) + 1), va_up q k1 (st ^^^ (1 <<< i)), k1 + 1, i + 1) (by show 6 - (i + 1) < 6 - i; omega) ⟨(show (i + 1) ≤ 6 from by omega), (show ((va_up d (st ^^^ (1 <<< i)) ((d st) + 1)), (va_up q k1 (st ^^^ (1 <<< i))), (k1 + 1)) = rbF (alM ba wh nl) st (dp, qu, kn) (i + 1) from by show _ = rbS (alM ba wh nl) st i (rbF (alM ba wh nl) st (dp, qu, kn) i); rw [← ha]; first | (simp [rbS, c_29]; done) | (simp [rbS, c_29, c_40]; done) | (simp [rbS, c_29, c_40, c_47]; done) | (simp [rbS, c_29, c_40]; omega)), (show (k1 + 1) ≤ kn + (i + 1) from by omega)⟩ _ _ _ hw (lv_sub hl [0, 1, 3, 4, 5, 6] rfl)
set_option maxHeartbeats 4000000 in
set_option maxRecDepth 100000 in
theorem c_X4_measure (l : Launch) (D : va_G) (cI cZ : ClassId) (wa : Nat) (wv : Nat) (wq : Nat) (dp : Nat → Nat) (qu : Nat → Nat) (la : Nat) (lb : Nat) (lw : Nat) (ba : Nat → Nat) (wh : Nat → Nat) (nl : Nat) (hnl : nl ≤ 12) (hba : ∀ k, ba k < 12) (hwh : ∀ k, wh k < 12) (hqu : ∀ k, qu k < 64) : MV l D cI cZ yX4_measure wsX4_measure ({ frames := 5, cells := 0, slots := 0, locals := 116 }) [.ref wa, .ref la] [(wa, .inr (4, [.ref wv, .ref wq])), (wv, .inl (cI, 64, .inl (mA dp))), (wq, .inl (cI, 64, .inl (iA qu))), (la, .inr (1, [.ref lb, .ref lw, .int (nI nl)])), (lb, .inl (cI, 12, .inl (iA ba))), (lw, .inl (cI, 12, .inl (iA wh)))] 0 0 (fun w => ∃ d9 : Nat → Nat, ∃ q9 : Nat → Nat, (d9 = (msF (alM ba wh nl) qu 64).1) ∧ (∀ k, q9 k < 64) ∧ w = [(wa, .inr (4, [.ref wv, .ref wq])), (wv, .inl (cI, 64, .inl (mA d9))), (wq, .inl (cI, 64, .inl (iA q9))), (la, .inr (1, [.ref lb, .ref lw, .int (nI nl)])), (lb, .inl (cI, 12, .inl (iA ba))), (lw, .inl (cI, 12, .inl (iA wh)))]) := by
  refine MV.of (cc := cX4_measure) (maxL := 4) (ret := none) (own := RX4) (by decide) rfl rfl (Nat.le_of_ble_eq_true rfl) ?_
  intro pQ eQ s mQ args below meth cQ A X hnm hw ls hl
  obtain ⟨⟨hx, hb, hml, hown, hts⟩, hr, hlk, hK, hN, hA⟩ := id X
  have hl : lv_has ls 4 [(0, .ref wa), (1, .ref la)] := hl
  have n4 : ∀ w ∈ wsX40, w ∈ wsX4_measure := by decide +kernel
  have f9 : FF args s RX4 wsX4_measure 9 4 0 := ⟨_, rfl, by decide, n4, hts (.fieldLink RX4 9 "AirSteps$Ways" "lengths" "[I") (by decide +kernel)⟩
  have f15 : FF args s RX4 wsX4_measure 15 4 1 := ⟨_, rfl, by decide, n4, hts (.fieldLink RX4 15 "AirSteps$Ways" "queue" "[I") (by decide +kernel)⟩
  refine lv_iconst (v := nI 0) hx hb dX4_measure_0 (by decide) ?_
  refine lv_istore_n (lv' := [(2, .int (nI 0)), (0, .ref wa), (1, .ref la)]) hx hb dX4_measure_1 rfl hl (by decide) rfl (fun ls hl => ?_)
  refine wl (α := (Nat → Nat) × Nat) (nL := 4) (fun aQ => 64 - aQ.2) (fun aQ => (aQ.2 ≤ 64) ∧ (∀ j, j < aQ.2 → aQ.1 j = 0)) (fun aQ => [(wa, .inr (4, [.ref wv, .ref wq])), (wv, .inl (cI, 64, .inl (mA aQ.1))), (wq, .inl (cI, 64, .inl (iA qu))), (la, .inr (1, [.ref lb, .ref lw, .int (nI nl)])), (lb, .inl (cI, 12, .inl (iA ba))), (lw, .inl (cI, 12, .inl (iA wh)))]) (fun aQ => [(2, .int (nI aQ.2)), (0, .ref wa), (1, .ref la)]) ?_ (dp, 0) ⟨(show 0 ≤ 64 from by omega), (show ∀ j, j < 0 → dp j = 0 from fun j hj => absurd hj (Nat.not_lt_zero j))⟩ _ _ _ hw (lv_sub hl [0, 1, 2] rfl)
  rintro ⟨d, i⟩ ⟨hi, hd⟩ H locs ls hw hl ih_2
  have hi : i ≤ 64 := hi
  have hd : ∀ j, j < i → d j = 0 := hd
  have hw : WD D A s.heap [(wa, .inr (4, [.ref wv, .ref wq])), (wv, .inl (cI, 64, .inl (mA d))), (wq, .inl (cI, 64, .inl (iA qu))), (la, .inr (1, [.ref lb, .ref lw, .int (nI nl)])), (lb, .inl (cI, 12, .inl (iA ba))), (lw, .inl (cI, 12, .inl (iA wh)))] H locs := hw
  have hl : lv_has ls 4 [(2, .int (nI i)), (0, .ref wa), (1, .ref la)] := hl
  refine lv_iload_n hx hb dX4_measure_2 rfl (lv_at hl 0 rfl) ?_
  refine lv_bipush (v := nI 64) hx hb dX4_measure_3 (by decide) ?_
  refine lv_icmp_ge (tgt := 21) hx hb dX4_measure_5 (by decide) (fun c_5 => ?_) (fun c_5 => ?_)
  · skip
    rw [nI_leI (by omega) (by omega)] at c_5
    have hw := WD.ext hw 1 rfl (fun j hj => congrArg mI (hd j (by omega)))
    have hw : WD D A s.heap [(wa, .inr (4, [.ref wv, .ref wq])), (wv, .inl (cI, 64, .inl (mA (fun _ => 0)))), (wq, .inl (cI, 64, .inl (iA qu))), (la, .inr (1, [.ref lb, .ref lw, .int (nI nl)])), (lb, .inl (cI, 12, .inl (iA ba))), (lw, .inl (cI, 12, .inl (iA wh)))] H locs := hw
    refine lv_aload_n hx hb dX4_measure_21 rfl (lv_at hl 1 rfl) ?_
    refine x_get X hw f9 0 rfl rfl dX4_measure_22 ?_
    refine lv_iconst (v := nI 0) hx hb dX4_measure_25 (by decide) ?_
    refine lv_iconst (v := nI 0) hx hb dX4_measure_26 (by decide) ?_
    refine cv_i (show nI 0 = mI (0 + 1) from (nI_pred 0).symm) ?_
    refine x_astM X hw 1 rfl (by omega) (by omega) dX4_measure_27 (fun H locs hw => ?_)
    have hw : WD D A s.heap [(wa, .inr (4, [.ref wv, .ref wq])), (wv, .inl (cI, 64, .inl (mA (va_up (fun _ => 0) 0 (0 + 1))))), (wq, .inl (cI, 64, .inl (iA qu))), (la, .inr (1, [.ref lb, .ref lw, .int (nI nl)])), (lb, .inl (cI, 12, .inl (iA ba))), (lw, .inl (cI, 12, .inl (iA wh)))] H locs := hw
    refine lv_aload_n hx hb dX4_measure_28 rfl (lv_at hl 1 rfl) ?_
    refine x_get X hw f15 0 rfl rfl dX4_measure_29 ?_
    refine lv_iconst (v := nI 0) hx hb dX4_measure_32 (by decide) ?_
    refine lv_iconst (v := nI 0) hx hb dX4_measure_33 (by decide) ?_
    refine x_astN X hw 2 rfl (by omega) (by omega) dX4_measure_34 (fun H locs hw => ?_)
    have hw : WD D A s.heap [(wa, .inr (4, [.ref wv, .ref wq])), (wv, .inl (cI, 64, .inl (mA (va_up (fun _ => 0) 0 (0 + 1))))), (wq, .inl (cI, 64, .inl (iA (va_up qu 0 0)))), (la, .inr (1, [.ref lb, .ref lw, .int (nI nl)])), (lb, .inl (cI, 12, .inl (iA ba))), (lw, .inl (cI, 12, .inl (iA wh)))] H locs := hw
    refine lv_iconst (v := nI 1) hx hb dX4_measure_35 (by decide) ?_
    refine lv_istore_n (lv' := [(2, .int (nI 1)), (0, .ref wa), (1, .ref la)]) hx hb dX4_measure_36 rfl hl (by decide) rfl (fun ls hl => ?_)
    refine lv_iconst (v := nI 0) hx hb dX4_measure_37 (by decide) ?_
    refine lv_istore_n (lv' := [(3, .int (nI 0)), (2, .int (nI 1)), (0, .ref wa), (1, .ref la)]) hx hb dX4_measure_38 rfl hl (by decide) rfl (fun ls hl => ?_)
    refine wl (α := (Nat → Nat) × (Nat → Nat) × Nat × Nat) (nL := 4) (fun aQ => 64 - aQ.2.2.2) (fun aQ => (aQ.2.2.2 ≤ 64) ∧ ((aQ.1, aQ.2.1, aQ.2.2.1) = msF (alM ba wh nl) qu aQ.2.2.2) ∧ (aQ.2.2.1 ≤ 1 + 6 * aQ.2.2.2)) (fun aQ => [(wa, .inr (4, [.ref wv, .ref wq])), (wv, .inl (cI, 64, .inl (mA aQ.1))), (wq, .inl (cI, 64, .inl (iA aQ.2.1))), (la, .inr (1, [.ref lb, .ref lw, .int (nI nl)])), (lb, .inl (cI, 12, .inl (iA ba))), (lw, .inl (cI, 12, .inl (iA wh)))]) (fun aQ => [(3, .int (nI aQ.2.2.2)), (2, .int (nI aQ.2.2.1)), (0, .ref wa), (1, .ref la)]) ?_ (va_up (fun _ => 0) 0 (0 + 1), va_up qu 0 0, 1, 0) ⟨(show 0 ≤ 64 from by omega), (show ((va_up (fun _ => 0) 0 (0 + 1)), (va_up qu 0 0), 1) = msF (alM ba wh nl) qu 0 from rfl), (show 1 ≤ 1 + 6 * 0 from by omega)⟩ _ _ _ hw (lv_sub hl [0, 1, 2, 3] rfl)
    rintro ⟨d, q, k1, i⟩ ⟨hi, ha, hk1⟩ H locs ls hw hl ih_39
    have hi : i ≤ 64 := hi
    have ha : (d, q, k1) = msF (alM ba wh nl) qu i := ha
    have hk1 : k1 ≤ 1 + 6 * i := hk1
    have hw : WD D A s.heap [(wa, .inr (4, [.ref wv, .ref wq])), (wv, .inl (cI, 64, .inl (mA d))), (wq, .inl (cI, 64, .inl (iA q))), (la, .inr (1, [.ref lb, .ref lw, .int (nI nl)])), (lb, .inl (cI, 12, .inl (iA ba))), (lw, .inl (cI, 12, .inl (iA wh)))] H locs := hw
    have hl : lv_has ls 4 [(3, .int (nI i)), (2, .int (nI k1)), (0, .ref wa), (1, .ref la)] := hl
    obtain ⟨hd2, hd3⟩ := msF_bd (aw := alM ba wh nl) hqu i
    rw [← ha] at hd2 hd3
    have hd2 : ∀ k, d k ≤ i + 1 := hd2
    have hd3 : ∀ k, q k < 64 := hd3
    refine lv_iload_n hx hb dX4_measure_39 rfl (lv_at hl 0 rfl) ?_
    refine lv_iload_n hx hb dX4_measure_40 rfl (lv_at hl 1 rfl) ?_
    refine lv_icmp_ge (tgt := 69) hx hb dX4_measure_41 (by decide) (fun c_41 => ?_) (fun c_41 => ?_)
    · skip
      rw [nI_leI (by omega) (by omega)] at c_41
      have hfin : msF (alM ba wh nl) qu 64 = (d, q, k1) := by first | (rw [show 64 = i by omega, ← ha]; done) | (have h9 := msF_stay (aw := alM ba wh nl) (q := qu) (i := i) (by rw [← ha]; show ¬ i < k1; omega) (64 - i); rw [show i + (64 - i) = 64 by omega] at h9; rw [h9, ← ha])
      exact x_vret X hw (⟨d, q, (by rw [hfin]), (hd3), rfl⟩) dX4_measure_69
    · skip
      rw [nI_leI (by omega) (by omega)] at c_41
      refine lv_iload_n hx hb dX4_measure_44 rfl (lv_at hl 0 rfl) ?_
      refine lv_bipush (v := nI 64) hx hb dX4_measure_45 (by decide) ?_
      refine lv_icmp_ge (tgt := 69) hx hb dX4_measure_47 (by decide) (fun c_47 => ?_) (fun c_47 => ?_)
      · skip
        rw [nI_leI (by omega) (by omega)] at c_47
        have hfin : msF (alM ba wh nl) qu 64 = (d, q, k1) := by first | (rw [show 64 = i by omega, ← ha]; done) | (have h9 := msF_stay (aw := alM ba wh nl) (q := qu) (i := i) (by rw [← ha]; show ¬ i < k1; omega) (64 - i); rw [show i + (64 - i) = 64 by omega] at h9; rw [h9, ← ha])
        exact x_vret X hw (⟨d, q, (by rw [hfin]), (hd3), rfl⟩) dX4_measure_69
      · skip
        rw [nI_leI (by omega) (by omega)] at c_47
        refine lv_aload_n hx hb dX4_measure_50 rfl (lv_at hl 2 rfl) ?_
        refine lv_aload_n hx hb dX4_measure_51 rfl (lv_at hl 3 rfl) ?_
        refine lv_aload_n hx hb dX4_measure_52 rfl (lv_at hl 2 rfl) ?_
        refine x_get X hw f15 0 rfl rfl dX4_measure_53 ?_
        refine lv_iload_n hx hb dX4_measure_56 rfl (lv_at hl 0 rfl) ?_
        refine x_aldN X hw 2 rfl (by omega) (by omega) dX4_measure_57 ?_
        have hb_57 := hd3 i
        refine lv_iload_n hx hb dX4_measure_58 rfl (lv_at hl 1 rfl) ?_
        refine x_callV (As := [.ref la, .int (nI (q i)), .int (nI k1)]) (rest := []) X hw hl.1 (c_X4_reachBack l D cI cZ wa wv wq d q la lb lw ba wh nl (q i) k1 (i + 1) (by first | assumption | omega) (by first | assumption | omega) (by first | assumption | omega) (by first | assumption | omega) (by first | assumption | omega) (by first | assumption | omega) (by first | assumption | omega) (by first | assumption | omega)) (cwV 3 hts gX4_measure_X4_reachBack rfl rfl rfl (by decide +kernel) ⟨Nat.le_of_ble_eq_true rfl, Nat.le_of_ble_eq_true rfl⟩) [0, 1, 2, 3, 4, 5] rfl rfl 0 rfl rfl rfl rfl (Nat.le_of_ble_eq_true rfl) dX4_measure_59 (by decide) (fun r w1 H locs hp hw1 => ?_)
        obtain ⟨rfl, rfl⟩ := hp
        have hw : WD D A s.heap [(wa, .inr (4, [.ref wv, .ref wq])), (wv, .inl (cI, 64, .inl (mA ((rbF (alM ba wh nl) (q i) (d, q, k1) 6).1)))), (wq, .inl (cI, 64, .inl (iA ((rbF (alM ba wh nl) (q i) (d, q, k1) 6).2.1)))), (la, .inr (1, [.ref lb, .ref lw, .int (nI nl)])), (lb, .inl (cI, 12, .inl (iA ba))), (lw, .inl (cI, 12, .inl (iA wh)))] H locs := hw1 rfl
        refine lv_istore_n (lv' := [(2, .int (nI ((rbF (alM ba wh nl) (q i) (d, q, k1) 6).2.2))), (3, .int (nI i)), (0, .ref wa), (1, .ref la)]) hx hb dX4_measure_62 rfl hl (by decide) rfl (fun ls hl => ?_)
        refine lv_iinc (v := nI (i + 1)) (lv' := [(3, .int (nI (i + 1))), (2, .int (nI ((rbF (alM ba wh nl) (q i) (d, q, k1) 6).2.2))), (0, .ref wa), (1, .ref la)]) hx hb dX4_measure_63 hl (k := 1) rfl (nI_add i 1) (by decide) rfl (fun ls hl => ?_)
        refine lv_goto (tgt := 39) hx hb dX4_measure_66 (by decide) ?_
        exact ih_39 ((rbF (alM ba wh nl) (q i) (d, q, k1) 6).1, (rbF (alM ba wh nl) (q i) (d, q, k1) 6).2.1, (rbF (alM ba wh nl) (q i) (d, q, k1) 6).2.2, i + 1) (by show 64 - (i + 1) < 64 - i; omega) ⟨(show (i + 1) ≤ 64 from by omega), (show (((rbF (alM ba wh nl) (q i) (d, q, k1) 6).1), ((rbF (alM ba wh nl) (q i) (d, q, k1) 6).2.1), ((rbF (alM ba wh nl) (q i) (d, q, k1) 6).2.2)) = msF (alM ba wh nl) qu (i + 1) from by show _ = msS (alM ba wh nl) i (msF (alM ba wh nl) qu i); rw [← ha]; simp [msS, c_41]), (show ((rbF (alM ba wh nl) (q i) (d, q, k1) 6).2.2) ≤ 1 + 6 * (i + 1) from Nat.le_trans (rbF_kn (K := 1 + 6 * i) hk1) (by omega))⟩ _ _ _ hw (lv_sub hl [0, 1, 2, 3] rfl)
  · skip
    rw [nI_leI (by omega) (by omega)] at c_5
    refine lv_aload_n hx hb dX4_measure_8 rfl (lv_at hl 1 rfl) ?_
    refine x_get X hw f9 0 rfl rfl dX4_measure_9 ?_
    refine lv_iload_n hx hb dX4_measure_12 rfl (lv_at hl 0 rfl) ?_
    refine lv_iconst (v := (-1)) hx hb dX4_measure_13 (by decide) ?_
    refine cv_i (show (-1) = mI 0 from (by decide)) ?_
    refine x_astM X hw 1 rfl (by omega) (by omega) dX4_measure_14 (fun H locs hw => ?_)
    have hw : WD D A s.heap [(wa, .inr (4, [.ref wv, .ref wq])), (wv, .inl (cI, 64, .inl (mA (va_up d i 0)))), (wq, .inl (cI, 64, .inl (iA qu))), (la, .inr (1, [.ref lb, .ref lw, .int (nI nl)])), (lb, .inl (cI, 12, .inl (iA ba))), (lw, .inl (cI, 12, .inl (iA wh)))] H locs := hw
    refine lv_iinc (v := nI (i + 1)) (lv' := [(2, .int (nI (i + 1))), (0, .ref wa), (1, .ref la)]) hx hb dX4_measure_15 hl (k := 0) rfl (nI_add i 1) (by decide) rfl (fun ls hl => ?_)
    refine lv_goto (tgt := 2) hx hb dX4_measure_18 (by decide) ?_
    exact ih_2 (va_up d i 0, i + 1) (by show 64 - (i + 1) < 64 - i; omega) ⟨(show (i + 1) ≤ 64 from by omega), (show ∀ j, j < (i + 1) → (va_up d i 0) j = 0 from up_zero hd)⟩ _ _ _ hw (lv_sub hl [0, 1, 2] rfl)
