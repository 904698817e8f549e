/-! ===== law, repeal, constructors ===== -/
theorem up_lt {nf : Nat → Nat} {B i v : Nat} (h : ∀ k, nf k < B) (hv : v < B) : ∀ k, va_up nf i v k < B := fun k => by
  unfold va_up
  split
  · exact hv
  · exact h k
theorem up_c {d : Nat → Nat} {i v : Nat} (h : ∀ j, j < i → d j = v) : ∀ j, j < i + 1 → va_up d i v j = v := fun j hj => by
  unfold va_up
  split
  · rfl
  · exact h j (by omega)
theorem up_f {d g : Nat → Nat} {i : Nat} (h : ∀ j, j < i → d j = g j) : ∀ j, j < i + 1 → va_up d i (g i) j = g j := fun j hj => by
  unfold va_up
  split
  · rename_i e
    rw [e]
  · exact h j (by omega)
theorem enE_lt {k : Nat} {o : Bool} (h : k < 6) : enE k o < 12 := by unfold enE; split <;> omega
theorem shf_lt {f g : Nat → Nat} {k m B : Nat} (h : ∀ j, f j = if k ≤ j ∧ j < m then g (j + 1) else g j) (hg : ∀ j, g j < B) : ∀ j, f j < B := fun j => by
  rw [h j]
  split
  · exact hg _
  · exact hg _
set_option maxHeartbeats 4000000 in
set_option maxRecDepth 100000 in
theorem c_X5_law (l : Launch) (D : va_G) (cI cZ : ClassId) (ax : Nat) (t : Nat) (ga : Nat) (la : Nat) (wa : Nat) (pa : Nat) (lb : Nat) (lw : Nat) (ba : Nat → Nat) (wh : Nat → Nat) (nl : Nat) (wv : Nat) (wq : Nat) (dp : Nat → Nat) (qu : Nat → Nat) (x : Int32) (o : Bool) (y : Int32) (q : Bool) (hnl : nl ≤ 12) (hba : ∀ k, ba k < 12) (hwh : ∀ k, wh k < 12) (hqu : ∀ k, qu k < 64) : MI l D cI cZ yX5_law wsX5_law ({ frames := 6, cells := 0, slots := 0, locals := 139 }) [.ref ax, .int x, .int (bI o), .int y, .int (bI q)] [(ax, .inr (5, [.ref t, .ref ga, .ref la, .ref wa, .ref pa])), (la, .inr (1, [.ref lb, .ref lw, .int (nI nl)])), (lb, .inl (cI, 12, .inl (iA ba))), (lw, .inl (cI, 12, .inl (iA wh))), (wa, .inr (4, [.ref wv, .ref wq])), (wv, .inl (cI, 64, .inl (mA dp))), (wq, .inl (cI, 64, .inl (iA qu)))] (fun r w => ∃ r9 : Int32, ∃ nl9 : Nat, ∃ ba9 : Nat → Nat, ∃ wh9 : Nat → Nat, ∃ dp9 : Nat → Nat, ∃ qu9 : Nat → Nat, (LAWR x o y q nl ba wh dp r9 nl9 ba9 wh9 dp9) ∧ (∀ k, qu9 k < 64) ∧ r = r9 ∧ w = [(ax, .inr (5, [.ref t, .ref ga, .ref la, .ref wa, .ref pa])), (la, .inr (1, [.ref lb, .ref lw, .int (nI nl9)])), (lb, .inl (cI, 12, .inl (iA ba9))), (lw, .inl (cI, 12, .inl (iA wh9))), (wa, .inr (4, [.ref wv, .ref wq])), (wv, .inl (cI, 64, .inl (mA dp9))), (wq, .inl (cI, 64, .inl (iA qu9)))]) := by
  refine MI.of (cc := cX5_law) (maxL := 5) (ret := (some .int)) (own := RX5) (by decide) rfl rfl (Nat.le_of_ble_eq_true rfl) ?_
  intro pQ eQ s mQ args below meth cQ A X hw ls hl
  obtain ⟨⟨hx, hb, hml, hown, hts⟩, hr, hlk, hK, hN, hA⟩ := id X
  have hl : lv_has ls 5 [(0, .ref ax), (1, .int x), (2, .int (bI o)), (3, .int y), (4, .int (bI q))] := hl
  have n5 : ∀ w ∈ wsX50, w ∈ wsX5_law := by decide +kernel
  have f26 : FF args s RX5 wsX5_law 26 5 2 := ⟨_, rfl, by decide, n5, hts (.fieldLink RX5 26 "AirSteps" "laws" "LAirSteps$Laws;") (by decide +kernel)⟩
  have f33 : FF args s RX5 wsX5_law 33 5 3 := ⟨_, rfl, by decide, n5, hts (.fieldLink RX5 33 "AirSteps" "ways" "LAirSteps$Ways;") (by decide +kernel)⟩
  refine lv_iload_n hx hb dX5_law_0 rfl (lv_at hl 1 rfl) ?_
  refine lv_bipush (v := nI 6) hx hb dX5_law_1 (by decide) ?_
  refine x_callS (As := [.int x, .int (nI 6)]) (rest := []) X hw hl.1 (c_X5_isBelow l D cI cZ x (nI 6) ) (va_cwS 2 hts gX5_law_X5_isBelow rfl rfl rfl (by decide +kernel) ⟨Nat.le_of_ble_eq_true rfl, Nat.le_of_ble_eq_true rfl⟩) [] rfl rfl rfl (Nat.le_of_ble_eq_true rfl) dX5_law_3 (by decide) (fun r w1 H locs hp hw1 => ?_)
  obtain ⟨rfl, rfl⟩ := hp
  have hw : WD D A s.heap [(ax, .inr (5, [.ref t, .ref ga, .ref la, .ref wa, .ref pa])), (la, .inr (1, [.ref lb, .ref lw, .int (nI nl)])), (lb, .inl (cI, 12, .inl (iA ba))), (lw, .inl (cI, 12, .inl (iA wh))), (wa, .inr (4, [.ref wv, .ref wq])), (wv, .inl (cI, 64, .inl (mA dp))), (wq, .inl (cI, 64, .inl (iA qu)))] H locs := hw1 rfl
  refine lv_if_eq (tgt := 23) hx hb dX5_law_6 (by decide) (fun c_6 => ?_) (fun c_6 => ?_)
  · skip
    rw [q_b0] at c_6; try simp only [Bool.not_eq_false, Bool.not_eq_true] at c_6
    refine lv_bipush (v := (-2)) hx hb dX5_law_23 (by decide) ?_
    exact x_iret X hw (⟨(-2), nl, ba, wh, dp, qu, (Or.inl ⟨rfl, rfl, rfl, rfl, Or.inl ⟨by first | (simp [okL, c_20]; done) | (simp [okL, c_6]; done) | (simp [okL, c_15]; done), rfl⟩⟩), (hqu), (rfl), rfl⟩) dX5_law_25
  · skip
    rw [q_b0] at c_6; try simp only [Bool.not_eq_false, Bool.not_eq_true] at c_6
    obtain ⟨a, ha, rfl⟩ := bel_t (by decide) c_6
    refine lv_iload_n hx hb dX5_law_9 rfl (lv_at hl 3 rfl) ?_
    refine lv_bipush (v := nI 6) hx hb dX5_law_10 (by decide) ?_
    refine x_callS (As := [.int y, .int (nI 6)]) (rest := []) X hw hl.1 (c_X5_isBelow l D cI cZ y (nI 6) ) (va_cwS 2 hts gX5_law_X5_isBelow rfl rfl rfl (by decide +kernel) ⟨Nat.le_of_ble_eq_true rfl, Nat.le_of_ble_eq_true rfl⟩) [] rfl rfl rfl (Nat.le_of_ble_eq_true rfl) dX5_law_12 (by decide) (fun r w1 H locs hp hw1 => ?_)
    obtain ⟨rfl, rfl⟩ := hp
    have hw : WD D A s.heap [(ax, .inr (5, [.ref t, .ref ga, .ref la, .ref wa, .ref pa])), (la, .inr (1, [.ref lb, .ref lw, .int (nI nl)])), (lb, .inl (cI, 12, .inl (iA ba))), (lw, .inl (cI, 12, .inl (iA wh))), (wa, .inr (4, [.ref wv, .ref wq])), (wv, .inl (cI, 64, .inl (mA dp))), (wq, .inl (cI, 64, .inl (iA qu)))] H locs := hw1 rfl
    refine lv_if_eq (tgt := 23) hx hb dX5_law_15 (by decide) (fun c_15 => ?_) (fun c_15 => ?_)
    · skip
      rw [q_b0] at c_15; try simp only [Bool.not_eq_false, Bool.not_eq_true] at c_15
      refine lv_bipush (v := (-2)) hx hb dX5_law_23 (by decide) ?_
      exact x_iret X hw (⟨(-2), nl, ba, wh, dp, qu, (Or.inl ⟨rfl, rfl, rfl, rfl, Or.inl ⟨by first | (simp [okL, c_20]; done) | (simp [okL, c_6]; done) | (simp [okL, c_15]; done), rfl⟩⟩), (hqu), (rfl), rfl⟩) dX5_law_25
    · skip
      rw [q_b0] at c_15; try simp only [Bool.not_eq_false, Bool.not_eq_true] at c_15
      obtain ⟨b, hb9, rfl⟩ := bel_t (by decide) c_15
      refine lv_iload_n hx hb dX5_law_18 rfl (lv_at hl 1 rfl) ?_
      refine lv_iload_n hx hb dX5_law_19 rfl (lv_at hl 3 rfl) ?_
      refine lv_icmp_ne (tgt := 26) hx hb dX5_law_20 (by decide) (fun c_20 => ?_) (fun c_20 => ?_)
      · skip
        rw [nI_eq (by omega) (by omega)] at c_20
        refine lv_aload_n hx hb dX5_law_26 rfl (lv_at hl 0 rfl) ?_
        refine x_get X hw f26 0 rfl rfl dX5_law_27 ?_
        refine x_callV (As := []) (rest := []) X hw hl.1 (c_X1_size l D cI cZ la lb lw ba wh nl ) (cwV 0 hts gX5_law_X1_size rfl rfl rfl (by decide +kernel) ⟨Nat.le_of_ble_eq_true rfl, Nat.le_of_ble_eq_true rfl⟩) [1, 2, 3] rfl rfl 0 rfl rfl rfl rfl (Nat.le_of_ble_eq_true rfl) dX5_law_30 (by decide) (fun r w1 H locs hp hw1 => ?_)
        obtain ⟨rfl, rfl⟩ := hp
        have hw : WD D A s.heap [(ax, .inr (5, [.ref t, .ref ga, .ref la, .ref wa, .ref pa])), (la, .inr (1, [.ref lb, .ref lw, .int (nI nl)])), (lb, .inl (cI, 12, .inl (iA ba))), (lw, .inl (cI, 12, .inl (iA wh))), (wa, .inr (4, [.ref wv, .ref wq])), (wv, .inl (cI, 64, .inl (mA dp))), (wq, .inl (cI, 64, .inl (iA qu)))] H locs := hw1 rfl
        refine lv_bipush (v := nI 12) hx hb dX5_law_33 (by decide) ?_
        refine lv_icmp_lt (tgt := 41) hx hb dX5_law_35 (by decide) (fun c_35 => ?_) (fun c_35 => ?_)
        · skip
          rw [nI_ltI (by omega) (by omega)] at c_35
          refine lv_aload_n hx hb dX5_law_41 rfl (lv_at hl 0 rfl) ?_
          refine x_get X hw f26 0 rfl rfl dX5_law_42 ?_
          refine lv_iload_n hx hb dX5_law_45 rfl (lv_at hl 1 rfl) ?_
          refine lv_iload_n hx hb dX5_law_46 rfl (lv_at hl 2 rfl) ?_
          refine x_callS (As := [.int (nI a), .int (bI o)]) (rest := [.ref la]) X hw hl.1 (c_X5_endOf l D cI cZ a o ) (va_cwS 2 hts gX5_law_X5_endOf rfl rfl rfl (by decide +kernel) ⟨Nat.le_of_ble_eq_true rfl, Nat.le_of_ble_eq_true rfl⟩) [] rfl rfl rfl (Nat.le_of_ble_eq_true rfl) dX5_law_47 (by decide) (fun r w1 H locs hp hw1 => ?_)
          obtain ⟨rfl, rfl⟩ := hp
          have hw : WD D A s.heap [(ax, .inr (5, [.ref t, .ref ga, .ref la, .ref wa, .ref pa])), (la, .inr (1, [.ref lb, .ref lw, .int (nI nl)])), (lb, .inl (cI, 12, .inl (iA ba))), (lw, .inl (cI, 12, .inl (iA wh))), (wa, .inr (4, [.ref wv, .ref wq])), (wv, .inl (cI, 64, .inl (mA dp))), (wq, .inl (cI, 64, .inl (iA qu)))] H locs := hw1 rfl
          refine lv_iload_n hx hb dX5_law_50 rfl (lv_at hl 3 rfl) ?_
          refine lv_iload hx hb dX5_law_51 (lv_at hl 4 rfl) ?_
          refine x_callS (As := [.int (nI b), .int (bI q)]) (rest := [.int (nI (enE a o)), .ref la]) X hw hl.1 (c_X5_endOf l D cI cZ b q ) (va_cwS 2 hts gX5_law_X5_endOf rfl rfl rfl (by decide +kernel) ⟨Nat.le_of_ble_eq_true rfl, Nat.le_of_ble_eq_true rfl⟩) [] rfl rfl rfl (Nat.le_of_ble_eq_true rfl) dX5_law_53 (by decide) (fun r w1 H locs hp hw1 => ?_)
          obtain ⟨rfl, rfl⟩ := hp
          have hw : WD D A s.heap [(ax, .inr (5, [.ref t, .ref ga, .ref la, .ref wa, .ref pa])), (la, .inr (1, [.ref lb, .ref lw, .int (nI nl)])), (lb, .inl (cI, 12, .inl (iA ba))), (lw, .inl (cI, 12, .inl (iA wh))), (wa, .inr (4, [.ref wv, .ref wq])), (wv, .inl (cI, 64, .inl (mA dp))), (wq, .inl (cI, 64, .inl (iA qu)))] H locs := hw1 rfl
          refine x_callVv (As := [.int (nI (enE a o)), .int (nI (enE b q))]) (rest := []) X hw hl.1 (c_X1_add l D cI cZ la lb lw ba wh nl (enE a o) (enE b q) (by omega)) (cwV 2 hts gX5_law_X1_add rfl rfl rfl (by decide +kernel) ⟨Nat.le_of_ble_eq_true rfl, Nat.le_of_ble_eq_true rfl⟩) [1, 2, 3] rfl rfl 0 rfl rfl rfl rfl (Nat.le_of_ble_eq_true rfl) dX5_law_56 (by decide) (fun w1 H locs hp hw1 => ?_)
          obtain rfl := hp
          have hw : WD D A s.heap [(ax, .inr (5, [.ref t, .ref ga, .ref la, .ref wa, .ref pa])), (la, .inr (1, [.ref lb, .ref lw, .int (nI (nl + 1))])), (lb, .inl (cI, 12, .inl (iA (va_up ba nl (enE a o))))), (lw, .inl (cI, 12, .inl (iA (va_up wh nl (enE b q))))), (wa, .inr (4, [.ref wv, .ref wq])), (wv, .inl (cI, 64, .inl (mA dp))), (wq, .inl (cI, 64, .inl (iA qu)))] H locs := hw1 rfl
          refine lv_aload_n hx hb dX5_law_59 rfl (lv_at hl 0 rfl) ?_
          refine x_get X hw f33 0 rfl rfl dX5_law_60 ?_
          refine lv_aload_n hx hb dX5_law_63 rfl (lv_at hl 0 rfl) ?_
          refine x_get X hw f26 0 rfl rfl dX5_law_64 ?_
          refine x_callVv (As := [.ref la]) (rest := []) X hw hl.1 (c_X4_measure l D cI cZ wa wv wq dp qu la lb lw (va_up ba nl (enE a o)) (va_up wh nl (enE b q)) (nl + 1) (by omega) (up_lt hba (enE_lt ha)) (up_lt hwh (enE_lt hb9)) (by first | assumption | omega)) (cwV 1 hts gX5_law_X4_measure rfl rfl rfl (by decide +kernel) ⟨Nat.le_of_ble_eq_true rfl, Nat.le_of_ble_eq_true rfl⟩) [4, 5, 6, 1, 2, 3] rfl rfl 0 rfl rfl rfl rfl (Nat.le_of_ble_eq_true rfl) dX5_law_67 (by decide) (fun w1 H locs hp hw1 => ?_)
          obtain ⟨d2, q2, hd2, hq2, rfl⟩ := hp
          have hw : WD D A s.heap [(ax, .inr (5, [.ref t, .ref ga, .ref la, .ref wa, .ref pa])), (la, .inr (1, [.ref lb, .ref lw, .int (nI (nl + 1))])), (lb, .inl (cI, 12, .inl (iA (va_up ba nl (enE a o))))), (lw, .inl (cI, 12, .inl (iA (va_up wh nl (enE b q))))), (wa, .inr (4, [.ref wv, .ref wq])), (wv, .inl (cI, 64, .inl (mA d2))), (wq, .inl (cI, 64, .inl (iA q2)))] H locs := hw1 rfl
          refine lv_aload_n hx hb dX5_law_70 rfl (lv_at hl 0 rfl) ?_
          refine x_get X hw f26 0 rfl rfl dX5_law_71 ?_
          refine x_callV (As := []) (rest := []) X hw hl.1 (c_X1_size l D cI cZ la lb lw (va_up ba nl (enE a o)) (va_up wh nl (enE b q)) (nl + 1) ) (cwV 0 hts gX5_law_X1_size rfl rfl rfl (by decide +kernel) ⟨Nat.le_of_ble_eq_true rfl, Nat.le_of_ble_eq_true rfl⟩) [1, 2, 3] rfl rfl 0 rfl rfl rfl rfl (Nat.le_of_ble_eq_true rfl) dX5_law_74 (by decide) (fun r w1 H locs hp hw1 => ?_)
          obtain ⟨rfl, rfl⟩ := hp
          have hw : WD D A s.heap [(ax, .inr (5, [.ref t, .ref ga, .ref la, .ref wa, .ref pa])), (la, .inr (1, [.ref lb, .ref lw, .int (nI (nl + 1))])), (lb, .inl (cI, 12, .inl (iA (va_up ba nl (enE a o))))), (lw, .inl (cI, 12, .inl (iA (va_up wh nl (enE b q))))), (wa, .inr (4, [.ref wv, .ref wq])), (wv, .inl (cI, 64, .inl (mA d2))), (wq, .inl (cI, 64, .inl (iA q2)))] H locs := hw1 rfl
          refine lv_iconst (v := nI 1) hx hb dX5_law_77 (by decide) ?_
          refine lv_isub hx hb dX5_law_78 ?_
          refine cv_i (show nI (nl + 1) - nI 1 = nI ((nl + 1) - 1) from pk_sub (by first | omega | assumption)) ?_
          exact x_iret X hw (⟨(nI nl), (nl + 1), (va_up ba nl (enE a o)), (va_up wh nl (enE b q)), d2, q2, (Or.inr ⟨a, b, qu, hqu, ha, hb9, rfl, rfl, by simp [okL, c_6, c_15, nI_eq (show a < 2 ^ 31 by omega) (show b < 2 ^ 31 by omega), c_20], by omega, rfl, rfl, rfl, rfl, hd2⟩), (hq2), (by rw [Nat.add_sub_cancel]), rfl⟩) dX5_law_79
        · skip
          rw [nI_ltI (by omega) (by omega)] at c_35
          refine lv_bipush (v := (-4)) hx hb dX5_law_38 (by decide) ?_
          exact x_iret X hw (⟨(-4), nl, ba, wh, dp, qu, (Or.inl ⟨rfl, rfl, rfl, rfl, Or.inr ⟨by simp [okL, c_6, c_15, nI_eq (show a < 2 ^ 31 by omega) (show b < 2 ^ 31 by omega), c_20], by omega, rfl⟩⟩), (hqu), (rfl), rfl⟩) dX5_law_40
      · skip
        rw [nI_eq (by omega) (by omega)] at c_20
        refine lv_bipush (v := (-2)) hx hb dX5_law_23 (by decide) ?_
        exact x_iret X hw (⟨(-2), nl, ba, wh, dp, qu, (Or.inl ⟨rfl, rfl, rfl, rfl, Or.inl ⟨by first | (simp [okL, c_20]; done) | (simp [okL, c_6]; done) | (simp [okL, c_15]; done), rfl⟩⟩), (hqu), (rfl), rfl⟩) dX5_law_25
set_option maxHeartbeats 4000000 in
set_option maxRecDepth 100000 in
theorem c_X5_repeal (l : Launch) (D : va_G) (cI cZ : ClassId) (ax : Nat) (t : Nat) (ga : Nat) (la : Nat) (wa : Nat) (pa : Nat) (lb : Nat) (lw : Nat) (ba : Nat → Nat) (wh : Nat → Nat) (nl : Nat) (wv : Nat) (wq : Nat) (dp : Nat → Nat) (qu : Nat → Nat) (x : Int32) (hnl : nl ≤ 12) (hba : ∀ k, ba k < 12) (hwh : ∀ k, wh k < 12) (hqu : ∀ k, qu k < 64) : MI l D cI cZ yX5_repeal wsX5_repeal ({ frames := 6, cells := 0, slots := 0, locals := 139 }) [.ref ax, .int x] [(ax, .inr (5, [.ref t, .ref ga, .ref la, .ref wa, .ref pa])), (la, .inr (1, [.ref lb, .ref lw, .int (nI nl)])), (lb, .inl (cI, 12, .inl (iA ba))), (lw, .inl (cI, 12, .inl (iA wh))), (wa, .inr (4, [.ref wv, .ref wq])), (wv, .inl (cI, 64, .inl (mA dp))), (wq, .inl (cI, 64, .inl (iA qu)))] (fun r w => ∃ r9 : Int32, ∃ nl9 : Nat, ∃ ba9 : Nat → Nat, ∃ wh9 : Nat → Nat, ∃ dp9 : Nat → Nat, ∃ qu9 : Nat → Nat, (REPR x nl ba wh dp r9 nl9 ba9 wh9 dp9) ∧ (∀ k, qu9 k < 64) ∧ r = r9 ∧ w = [(ax, .inr (5, [.ref t, .ref ga, .ref la, .ref wa, .ref pa])), (la, .inr (1, [.ref lb, .ref lw, .int (nI nl9)])), (lb, .inl (cI, 12, .inl (iA ba9))), (lw, .inl (cI, 12, .inl (iA wh9))), (wa, .inr (4, [.ref wv, .ref wq])), (wv, .inl (cI, 64, .inl (mA dp9))), (wq, .inl (cI, 64, .inl (iA qu9)))]) := by
  refine MI.of (cc := cX5_repeal) (maxL := 2) (ret := (some .int)) (own := RX5) (by decide) rfl rfl (Nat.le_of_ble_eq_true rfl) ?_
  intro pQ eQ s mQ args below meth cQ A X hw ls hl
  obtain ⟨⟨hx, hb, hml, hown, hts⟩, hr, hlk, hK, hN, hA⟩ := id X
  have hl : lv_has ls 2 [(0, .ref ax), (1, .int x)] := hl
  have n5 : ∀ w ∈ wsX50, w ∈ wsX5_repeal := by decide +kernel
  have f26 : FF args s RX5 wsX5_repeal 26 5 2 := ⟨_, rfl, by decide, n5, hts (.fieldLink RX5 26 "AirSteps" "laws" "LAirSteps$Laws;") (by decide +kernel)⟩
  have f33 : FF args s RX5 wsX5_repeal 33 5 3 := ⟨_, rfl, by decide, n5, hts (.fieldLink RX5 33 "AirSteps" "ways" "LAirSteps$Ways;") (by decide +kernel)⟩
  refine lv_iload_n hx hb dX5_repeal_0 rfl (lv_at hl 1 rfl) ?_
  refine lv_aload_n hx hb dX5_repeal_1 rfl (lv_at hl 0 rfl) ?_
  refine x_get X hw f26 0 rfl rfl dX5_repeal_2 ?_
  refine x_callV (As := []) (rest := [.int x]) X hw hl.1 (c_X1_size l D cI cZ la lb lw ba wh nl ) (cwV 0 hts gX5_repeal_X1_size rfl rfl rfl (by decide +kernel) ⟨Nat.le_of_ble_eq_true rfl, Nat.le_of_ble_eq_true rfl⟩) [1, 2, 3] rfl rfl 0 rfl rfl rfl rfl (Nat.le_of_ble_eq_true rfl) dX5_repeal_5 (by decide) (fun r w1 H locs hp hw1 => ?_)
  obtain ⟨rfl, rfl⟩ := hp
  have hw : WD D A s.heap [(ax, .inr (5, [.ref t, .ref ga, .ref la, .ref wa, .ref pa])), (la, .inr (1, [.ref lb, .ref lw, .int (nI nl)])), (lb, .inl (cI, 12, .inl (iA ba))), (lw, .inl (cI, 12, .inl (iA wh))), (wa, .inr (4, [.ref wv, .ref wq])), (wv, .inl (cI, 64, .inl (mA dp))), (wq, .inl (cI, 64, .inl (iA qu)))] H locs := hw1 rfl
  refine x_callS (As := [.int x, .int (nI nl)]) (rest := []) X hw hl.1 (c_X5_isBelow l D cI cZ x (nI nl) ) (va_cwS 2 hts gX5_repeal_X5_isBelow rfl rfl rfl (by decide +kernel) ⟨Nat.le_of_ble_eq_true rfl, Nat.le_of_ble_eq_true rfl⟩) [] rfl rfl rfl (Nat.le_of_ble_eq_true rfl) dX5_repeal_8 (by decide) (fun r w1 H locs hp hw1 => ?_)
  obtain ⟨rfl, rfl⟩ := hp
  have hw : WD D A s.heap [(ax, .inr (5, [.ref t, .ref ga, .ref la, .ref wa, .ref pa])), (la, .inr (1, [.ref lb, .ref lw, .int (nI nl)])), (lb, .inl (cI, 12, .inl (iA ba))), (lw, .inl (cI, 12, .inl (iA wh))), (wa, .inr (4, [.ref wv, .ref wq])), (wv, .inl (cI, 64, .inl (mA dp))), (wq, .inl (cI, 64, .inl (iA qu)))] H locs := hw1 rfl
  refine lv_if_ne (tgt := 17) hx hb dX5_repeal_11 (by decide) (fun c_11 => ?_) (fun c_11 => ?_)
  · skip
    rw [q_b0] at c_11; try simp only [Bool.not_eq_false, Bool.not_eq_true] at c_11
    obtain ⟨k, hk, rfl⟩ := bel_t (by omega) c_11
    refine lv_aload_n hx hb dX5_repeal_17 rfl (lv_at hl 0 rfl) ?_
    refine x_get X hw f26 0 rfl rfl dX5_repeal_18 ?_
    refine lv_iload_n hx hb dX5_repeal_21 rfl (lv_at hl 1 rfl) ?_
    refine x_callVv (As := [.int (nI k)]) (rest := []) X hw hl.1 (c_X1_remove l D cI cZ la lb lw ba wh nl k (by first | assumption | omega) (by first | assumption | omega)) (cwV 1 hts gX5_repeal_X1_remove rfl rfl rfl (by decide +kernel) ⟨Nat.le_of_ble_eq_true rfl, Nat.le_of_ble_eq_true rfl⟩) [1, 2, 3] rfl rfl 0 rfl rfl rfl rfl (Nat.le_of_ble_eq_true rfl) dX5_repeal_22 (by decide) (fun w1 H locs hp hw1 => ?_)
    obtain ⟨fb, fw, hfb, hfw, rfl⟩ := hp
    have hw : WD D A s.heap [(ax, .inr (5, [.ref t, .ref ga, .ref la, .ref wa, .ref pa])), (la, .inr (1, [.ref lb, .ref lw, .int (nI (nl - 1))])), (lb, .inl (cI, 12, .inl (iA fb))), (lw, .inl (cI, 12, .inl (iA fw))), (wa, .inr (4, [.ref wv, .ref wq])), (wv, .inl (cI, 64, .inl (mA dp))), (wq, .inl (cI, 64, .inl (iA qu)))] H locs := hw1 rfl
    refine lv_aload_n hx hb dX5_repeal_25 rfl (lv_at hl 0 rfl) ?_
    refine x_get X hw f33 0 rfl rfl dX5_repeal_26 ?_
    refine lv_aload_n hx hb dX5_repeal_29 rfl (lv_at hl 0 rfl) ?_
    refine x_get X hw f26 0 rfl rfl dX5_repeal_30 ?_
    refine x_callVv (As := [.ref la]) (rest := []) X hw hl.1 (c_X4_measure l D cI cZ wa wv wq dp qu la lb lw fb fw (nl - 1) (by omega) (shf_lt hfb hba) (shf_lt hfw hwh) (by first | assumption | omega)) (cwV 1 hts gX5_repeal_X4_measure rfl rfl rfl (by decide +kernel) ⟨Nat.le_of_ble_eq_true rfl, Nat.le_of_ble_eq_true rfl⟩) [4, 5, 6, 1, 2, 3] rfl rfl 0 rfl rfl rfl rfl (Nat.le_of_ble_eq_true rfl) dX5_repeal_33 (by decide) (fun w1 H locs hp hw1 => ?_)
    obtain ⟨d2, q2, hd2, hq2, rfl⟩ := hp
    have hw : WD D A s.heap [(ax, .inr (5, [.ref t, .ref ga, .ref la, .ref wa, .ref pa])), (la, .inr (1, [.ref lb, .ref lw, .int (nI (nl - 1))])), (lb, .inl (cI, 12, .inl (iA fb))), (lw, .inl (cI, 12, .inl (iA fw))), (wa, .inr (4, [.ref wv, .ref wq])), (wv, .inl (cI, 64, .inl (mA d2))), (wq, .inl (cI, 64, .inl (iA q2)))] H locs := hw1 rfl
    refine lv_iconst (v := nI 1) hx hb dX5_repeal_36 (by decide) ?_
    exact x_iret X hw (⟨(nI 1), (nl - 1), fb, fw, d2, q2, (Or.inr ⟨k, qu, hqu, hk, rfl, rfl, rfl, hfb, hfw, hd2⟩), (hq2), (rfl), rfl⟩) dX5_repeal_37
  · skip
    rw [q_b0] at c_11; try simp only [Bool.not_eq_false, Bool.not_eq_true] at c_11
    refine lv_bipush (v := (-2)) hx hb dX5_repeal_14 (by decide) ?_
    exact x_iret X hw (⟨(-2), nl, ba, wh, dp, qu, (Or.inl ⟨rfl, rfl, rfl, rfl, c_11, rfl⟩), (hqu), (rfl), rfl⟩) dX5_repeal_16
set_option maxHeartbeats 4000000 in
set_option maxRecDepth 100000 in
theorem c_X3_init (l : Launch) (D : va_G) (cI cZ : ClassId) (t : Nat)  : MV l D cI cZ yX3_init wsX3_init ({ frames := 1, cells := 2, slots := 33, locals := 12 }) [.ref t] [(t, .inr (3, [.null, .null, .int (nI 0)]))] 2 33 (fun w => ∃ te : Nat, ∃ ts : Nat, w = [(t, .inr (3, [.ref te, .ref ts, .int (nI 0)])), (te, .inl (cI, 16, .inl (iA (fun _ => 0)))), (ts, .inl (cI, 17, .inl (iA (fun _ => 0))))]) := by
  refine MV.of (cc := cX3_init) (maxL := 1) (ret := none) (own := RX3) (by decide) rfl rfl (Nat.le_of_ble_eq_true rfl) ?_
  intro pQ eQ s mQ args below meth cQ A X hnm hw ls hl
  obtain ⟨⟨hx, hb, hml, hown, hts⟩, hr, hlk, hK, hN, hA⟩ := id X
  have hl : lv_has ls 1 [(0, .ref t)] := hl
  have n3 : ∀ w ∈ wsX30, w ∈ wsX3_init := by decide +kernel
  have p18 : FP args s RX3 wsX3_init 18 3 2 := ⟨_, tyX3, rfl, by decide, n3, hts (.fieldLink RX3 18 "AirSteps$Text" "size" "I") (by decide +kernel), tyX3_ok, nmX3, rfl, by decide +kernel⟩
  refine lv_aload_n hx hb dX3_init_0 rfl (lv_at hl 0 rfl) ?_
  refine W.objInit hx hb hown (hts (.methodLink RX3 3 objectInit) (by decide +kernel)) (hts (.instanceMethod objectInit) (by decide +kernel)) (hts _ (List.mem_of_getElem? (i := 3) rfl)) rfl (by rw [hml]; exact hl.1) rfl dX3_init_1 (Nat.le_of_ble_eq_true rfl) (Nat.le_of_ble_eq_true rfl) ?_
  refine W.eq (g2 := F0 mQ 4 ls []) rfl ?_
  refine lv_aload_n hx hb dX3_init_4 rfl (lv_at hl 0 rfl) ?_
  refine lv_bipush (v := nI 16) hx hb dX3_init_5 (by decide) ?_
  refine x_newI X hw (by decide +kernel) (by omega) (Nat.le_of_ble_eq_true rfl) (Nat.le_of_ble_eq_true rfl) dX3_init_7 (fun q7 H hw => ?_)
  have hw : WD D A s.heap [(t, .inr (3, [.null, .null, .int (nI 0)])), (q7, .inl (cI, 16, .inl (iA (fun _ => 0))))] H _ := hw
  have fp9 : FPR args s RX3 wsX3_init 9 3 0 (.ref q7) := ⟨_, tyX3, (.array .int), rfl, by decide, n3, hts (.fieldLink RX3 9 "AirSteps$Text" "ends" "[I") (by decide +kernel), tyX3_ok, nmX3, rfl, rfl, by decide +kernel, rfl, rfl⟩
  refine x_putF X hnm hw fp9 0 rfl (Nat.le_of_ble_eq_true rfl) dX3_init_9 (fun H locs hw => ?_)
  have hw : WD D A s.heap [(t, .inr (3, [.ref q7, .null, .int (nI 0)])), (q7, .inl (cI, 16, .inl (iA (fun _ => 0))))] H locs := hw
  refine lv_aload_n hx hb dX3_init_12 rfl (lv_at hl 0 rfl) ?_
  refine lv_bipush (v := nI 17) hx hb dX3_init_13 (by decide) ?_
  refine x_newI X hw (by decide +kernel) (by omega) (Nat.le_of_ble_eq_true rfl) (Nat.le_of_ble_eq_true rfl) dX3_init_15 (fun q15 H hw => ?_)
  have hw : WD D A s.heap [(t, .inr (3, [.ref q7, .null, .int (nI 0)])), (q7, .inl (cI, 16, .inl (iA (fun _ => 0)))), (q15, .inl (cI, 17, .inl (iA (fun _ => 0))))] H _ := hw
  have fp17 : FPR args s RX3 wsX3_init 15 3 1 (.ref q15) := ⟨_, tyX3, (.array .int), rfl, by decide, n3, hts (.fieldLink RX3 15 "AirSteps$Text" "states" "[I") (by decide +kernel), tyX3_ok, nmX3, rfl, rfl, by decide +kernel, rfl, rfl⟩
  refine x_putF X hnm hw fp17 0 rfl (Nat.le_of_ble_eq_true rfl) dX3_init_17 (fun H locs hw => ?_)
  have hw : WD D A s.heap [(t, .inr (3, [.ref q7, .ref q15, .int (nI 0)])), (q7, .inl (cI, 16, .inl (iA (fun _ => 0)))), (q15, .inl (cI, 17, .inl (iA (fun _ => 0))))] H locs := hw
  refine lv_aload_n hx hb dX3_init_20 rfl (lv_at hl 0 rfl) ?_
  refine lv_iconst (v := nI 0) hx hb dX3_init_21 (by decide) ?_
  refine x_put X hw p18 0 rfl (Nat.le_of_ble_eq_true rfl) dX3_init_22 (fun H locs hw => ?_)
  have hw : WD D A s.heap [(t, .inr (3, [.ref q7, .ref q15, .int (nI 0)])), (q7, .inl (cI, 16, .inl (iA (fun _ => 0)))), (q15, .inl (cI, 17, .inl (iA (fun _ => 0))))] H locs := hw
  exact x_vret X hw (⟨_, _, rfl⟩) dX3_init_25
set_option maxHeartbeats 4000000 in
set_option maxRecDepth 100000 in
theorem c_X0_init (l : Launch) (D : va_G) (cI cZ : ClassId) (ga : Nat)  : MV l D cI cZ yX0_init wsX0_init ({ frames := 1, cells := 2, slots := 32, locals := 12 }) [.ref ga] [(ga, .inr (0, [.null, .null, .int (nI 0)]))] 2 32 (fun w => ∃ gc : Nat, ∃ gn : Nat, w = [(ga, .inr (0, [.ref gc, .ref gn, .int (nI 0)])), (gc, .inl (cI, 16, .inl (iA (fun _ => 0)))), (gn, .inl (cI, 16, .inl (iA (fun _ => 0))))]) := by
  refine MV.of (cc := cX0_init) (maxL := 1) (ret := none) (own := RX0) (by decide) rfl rfl (Nat.le_of_ble_eq_true rfl) ?_
  intro pQ eQ s mQ args below meth cQ A X hnm hw ls hl
  obtain ⟨⟨hx, hb, hml, hown, hts⟩, hr, hlk, hK, hN, hA⟩ := id X
  have hl : lv_has ls 1 [(0, .ref ga)] := hl
  have n0 : ∀ w ∈ wsX00, w ∈ wsX0_init := by decide +kernel
  have p18 : FP args s RX0 wsX0_init 18 0 2 := ⟨_, tyX0, rfl, by decide, n0, hts (.fieldLink RX0 18 "AirSteps$Groups" "size" "I") (by decide +kernel), tyX0_ok, nmX0, rfl, by decide +kernel⟩
  refine lv_aload_n hx hb dX0_init_0 rfl (lv_at hl 0 rfl) ?_
  refine W.objInit hx hb hown (hts (.methodLink RX0 3 objectInit) (by decide +kernel)) (hts (.instanceMethod objectInit) (by decide +kernel)) (hts _ (List.mem_of_getElem? (i := 3) rfl)) rfl (by rw [hml]; exact hl.1) rfl dX0_init_1 (Nat.le_of_ble_eq_true rfl) (Nat.le_of_ble_eq_true rfl) ?_
  refine W.eq (g2 := F0 mQ 4 ls []) rfl ?_
  refine lv_aload_n hx hb dX0_init_4 rfl (lv_at hl 0 rfl) ?_
  refine lv_bipush (v := nI 16) hx hb dX0_init_5 (by decide) ?_
  refine x_newI X hw (by decide +kernel) (by omega) (Nat.le_of_ble_eq_true rfl) (Nat.le_of_ble_eq_true rfl) dX0_init_7 (fun q7 H hw => ?_)
  have hw : WD D A s.heap [(ga, .inr (0, [.null, .null, .int (nI 0)])), (q7, .inl (cI, 16, .inl (iA (fun _ => 0))))] H _ := hw
  have fp9 : FPR args s RX0 wsX0_init 9 0 0 (.ref q7) := ⟨_, tyX0, (.array .int), rfl, by decide, n0, hts (.fieldLink RX0 9 "AirSteps$Groups" "cuts" "[I") (by decide +kernel), tyX0_ok, nmX0, rfl, rfl, by decide +kernel, rfl, rfl⟩
  refine x_putF X hnm hw fp9 0 rfl (Nat.le_of_ble_eq_true rfl) dX0_init_9 (fun H locs hw => ?_)
  have hw : WD D A s.heap [(ga, .inr (0, [.ref q7, .null, .int (nI 0)])), (q7, .inl (cI, 16, .inl (iA (fun _ => 0))))] H locs := hw
  refine lv_aload_n hx hb dX0_init_12 rfl (lv_at hl 0 rfl) ?_
  refine lv_bipush (v := nI 16) hx hb dX0_init_13 (by decide) ?_
  refine x_newI X hw (by decide +kernel) (by omega) (Nat.le_of_ble_eq_true rfl) (Nat.le_of_ble_eq_true rfl) dX0_init_15 (fun q15 H hw => ?_)
  have hw : WD D A s.heap [(ga, .inr (0, [.ref q7, .null, .int (nI 0)])), (q7, .inl (cI, 16, .inl (iA (fun _ => 0)))), (q15, .inl (cI, 16, .inl (iA (fun _ => 0))))] H _ := hw
  have fp17 : FPR args s RX0 wsX0_init 15 0 1 (.ref q15) := ⟨_, tyX0, (.array .int), rfl, by decide, n0, hts (.fieldLink RX0 15 "AirSteps$Groups" "needs" "[I") (by decide +kernel), tyX0_ok, nmX0, rfl, rfl, by decide +kernel, rfl, rfl⟩
  refine x_putF X hnm hw fp17 0 rfl (Nat.le_of_ble_eq_true rfl) dX0_init_17 (fun H locs hw => ?_)
  have hw : WD D A s.heap [(ga, .inr (0, [.ref q7, .ref q15, .int (nI 0)])), (q7, .inl (cI, 16, .inl (iA (fun _ => 0)))), (q15, .inl (cI, 16, .inl (iA (fun _ => 0))))] H locs := hw
  refine lv_aload_n hx hb dX0_init_20 rfl (lv_at hl 0 rfl) ?_
  refine lv_iconst (v := nI 0) hx hb dX0_init_21 (by decide) ?_
  refine x_put X hw p18 0 rfl (Nat.le_of_ble_eq_true rfl) dX0_init_22 (fun H locs hw => ?_)
  have hw : WD D A s.heap [(ga, .inr (0, [.ref q7, .ref q15, .int (nI 0)])), (q7, .inl (cI, 16, .inl (iA (fun _ => 0)))), (q15, .inl (cI, 16, .inl (iA (fun _ => 0))))] H locs := hw
  exact x_vret X hw (⟨_, _, rfl⟩) dX0_init_25
set_option maxHeartbeats 4000000 in
set_option maxRecDepth 100000 in
theorem c_X1_init (l : Launch) (D : va_G) (cI cZ : ClassId) (la : Nat)  : MV l D cI cZ yX1_init wsX1_init ({ frames := 1, cells := 2, slots := 24, locals := 12 }) [.ref la] [(la, .inr (1, [.null, .null, .int (nI 0)]))] 2 24 (fun w => ∃ lb : Nat, ∃ lw : Nat, w = [(la, .inr (1, [.ref lb, .ref lw, .int (nI 0)])), (lb, .inl (cI, 12, .inl (iA (fun _ => 0)))), (lw, .inl (cI, 12, .inl (iA (fun _ => 0))))]) := by
  refine MV.of (cc := cX1_init) (maxL := 1) (ret := none) (own := RX1) (by decide) rfl rfl (Nat.le_of_ble_eq_true rfl) ?_
  intro pQ eQ s mQ args below meth cQ A X hnm hw ls hl
  obtain ⟨⟨hx, hb, hml, hown, hts⟩, hr, hlk, hK, hN, hA⟩ := id X
  have hl : lv_has ls 1 [(0, .ref la)] := hl
  have n1 : ∀ w ∈ wsX10, w ∈ wsX1_init := by decide +kernel
  have p18 : FP args s RX1 wsX1_init 18 1 2 := ⟨_, tyX1, rfl, by decide, n1, hts (.fieldLink RX1 18 "AirSteps$Laws" "size" "I") (by decide +kernel), tyX1_ok, nmX1, rfl, by decide +kernel⟩
  refine lv_aload_n hx hb dX1_init_0 rfl (lv_at hl 0 rfl) ?_
  refine W.objInit hx hb hown (hts (.methodLink RX1 3 objectInit) (by decide +kernel)) (hts (.instanceMethod objectInit) (by decide +kernel)) (hts _ (List.mem_of_getElem? (i := 3) rfl)) rfl (by rw [hml]; exact hl.1) rfl dX1_init_1 (Nat.le_of_ble_eq_true rfl) (Nat.le_of_ble_eq_true rfl) ?_
  refine W.eq (g2 := F0 mQ 4 ls []) rfl ?_
  refine lv_aload_n hx hb dX1_init_4 rfl (lv_at hl 0 rfl) ?_
  refine lv_bipush (v := nI 12) hx hb dX1_init_5 (by decide) ?_
  refine x_newI X hw (by decide +kernel) (by omega) (Nat.le_of_ble_eq_true rfl) (Nat.le_of_ble_eq_true rfl) dX1_init_7 (fun q7 H hw => ?_)
  have hw : WD D A s.heap [(la, .inr (1, [.null, .null, .int (nI 0)])), (q7, .inl (cI, 12, .inl (iA (fun _ => 0))))] H _ := hw
  have fp9 : FPR args s RX1 wsX1_init 9 1 0 (.ref q7) := ⟨_, tyX1, (.array .int), rfl, by decide, n1, hts (.fieldLink RX1 9 "AirSteps$Laws" "barred" "[I") (by decide +kernel), tyX1_ok, nmX1, rfl, rfl, by decide +kernel, rfl, rfl⟩
  refine x_putF X hnm hw fp9 0 rfl (Nat.le_of_ble_eq_true rfl) dX1_init_9 (fun H locs hw => ?_)
  have hw : WD D A s.heap [(la, .inr (1, [.ref q7, .null, .int (nI 0)])), (q7, .inl (cI, 12, .inl (iA (fun _ => 0))))] H locs := hw
  refine lv_aload_n hx hb dX1_init_12 rfl (lv_at hl 0 rfl) ?_
  refine lv_bipush (v := nI 12) hx hb dX1_init_13 (by decide) ?_
  refine x_newI X hw (by decide +kernel) (by omega) (Nat.le_of_ble_eq_true rfl) (Nat.le_of_ble_eq_true rfl) dX1_init_15 (fun q15 H hw => ?_)
  have hw : WD D A s.heap [(la, .inr (1, [.ref q7, .null, .int (nI 0)])), (q7, .inl (cI, 12, .inl (iA (fun _ => 0)))), (q15, .inl (cI, 12, .inl (iA (fun _ => 0))))] H _ := hw
  have fp17 : FPR args s RX1 wsX1_init 15 1 1 (.ref q15) := ⟨_, tyX1, (.array .int), rfl, by decide, n1, hts (.fieldLink RX1 15 "AirSteps$Laws" "whileAt" "[I") (by decide +kernel), tyX1_ok, nmX1, rfl, rfl, by decide +kernel, rfl, rfl⟩
  refine x_putF X hnm hw fp17 0 rfl (Nat.le_of_ble_eq_true rfl) dX1_init_17 (fun H locs hw => ?_)
  have hw : WD D A s.heap [(la, .inr (1, [.ref q7, .ref q15, .int (nI 0)])), (q7, .inl (cI, 12, .inl (iA (fun _ => 0)))), (q15, .inl (cI, 12, .inl (iA (fun _ => 0))))] H locs := hw
  refine lv_aload_n hx hb dX1_init_20 rfl (lv_at hl 0 rfl) ?_
  refine lv_iconst (v := nI 0) hx hb dX1_init_21 (by decide) ?_
  refine x_put X hw p18 0 rfl (Nat.le_of_ble_eq_true rfl) dX1_init_22 (fun H locs hw => ?_)
  have hw : WD D A s.heap [(la, .inr (1, [.ref q7, .ref q15, .int (nI 0)])), (q7, .inl (cI, 12, .inl (iA (fun _ => 0)))), (q15, .inl (cI, 12, .inl (iA (fun _ => 0))))] H locs := hw
  exact x_vret X hw (⟨_, _, rfl⟩) dX1_init_25
set_option maxHeartbeats 4000000 in
set_option maxRecDepth 100000 in
theorem c_X2_init (l : Launch) (D : va_G) (cI cZ : ClassId) (pa : Nat)  : MV l D cI cZ yX2_init wsX2_init ({ frames := 1, cells := 2, slots := 24, locals := 12 }) [.ref pa] [(pa, .inr (2, [.null, .null]))] 2 24 (fun w => ∃ pl : Nat, ∃ pm : Nat, w = [(pa, .inr (2, [.ref pl, .ref pm])), (pl, .inl (cI, 12, .inl (iA (fun _ => 1)))), (pm, .inl (cI, 12, .inl (iA (fun _ => 1))))]) := by
  refine MV.of (cc := cX2_init) (maxL := 2) (ret := none) (own := RX2) (by decide) rfl rfl (Nat.le_of_ble_eq_true rfl) ?_
  intro pQ eQ s mQ args below meth cQ A X hnm hw ls hl
  obtain ⟨⟨hx, hb, hml, hown, hts⟩, hr, hlk, hK, hN, hA⟩ := id X
  have hl : lv_has ls 2 [(0, .ref pa)] := hl
  have n2 : ∀ w ∈ wsX20, w ∈ wsX2_init := by decide +kernel
  have f9 : FF args s RX2 wsX2_init 9 2 0 := ⟨_, rfl, by decide, n2, hts (.fieldLink RX2 9 "AirSteps$Paces" "least" "[I") (by decide +kernel)⟩
  have f15 : FF args s RX2 wsX2_init 15 2 1 := ⟨_, rfl, by decide, n2, hts (.fieldLink RX2 15 "AirSteps$Paces" "most" "[I") (by decide +kernel)⟩
  refine lv_aload_n hx hb dX2_init_0 rfl (lv_at hl 0 rfl) ?_
  refine W.objInit hx hb hown (hts (.methodLink RX2 3 objectInit) (by decide +kernel)) (hts (.instanceMethod objectInit) (by decide +kernel)) (hts _ (List.mem_of_getElem? (i := 3) rfl)) rfl (by rw [hml]; exact hl.1) rfl dX2_init_1 (Nat.le_of_ble_eq_true rfl) (Nat.le_of_ble_eq_true rfl) ?_
  refine W.eq (g2 := F0 mQ 4 ls []) rfl ?_
  refine lv_aload_n hx hb dX2_init_4 rfl (lv_at hl 0 rfl) ?_
  refine lv_bipush (v := nI 12) hx hb dX2_init_5 (by decide) ?_
  refine x_newI X hw (by decide +kernel) (by omega) (Nat.le_of_ble_eq_true rfl) (Nat.le_of_ble_eq_true rfl) dX2_init_7 (fun q7 H hw => ?_)
  have hw : WD D A s.heap [(pa, .inr (2, [.null, .null])), (q7, .inl (cI, 12, .inl (iA (fun _ => 0))))] H _ := hw
  have fp9 : FPR args s RX2 wsX2_init 9 2 0 (.ref q7) := ⟨_, tyX2, (.array .int), rfl, by decide, n2, hts (.fieldLink RX2 9 "AirSteps$Paces" "least" "[I") (by decide +kernel), tyX2_ok, nmX2, rfl, rfl, by decide +kernel, rfl, rfl⟩
  refine x_putF X hnm hw fp9 0 rfl (Nat.le_of_ble_eq_true rfl) dX2_init_9 (fun H locs hw => ?_)
  have hw : WD D A s.heap [(pa, .inr (2, [.ref q7, .null])), (q7, .inl (cI, 12, .inl (iA (fun _ => 0))))] H locs := hw
  refine lv_aload_n hx hb dX2_init_12 rfl (lv_at hl 0 rfl) ?_
  refine lv_bipush (v := nI 12) hx hb dX2_init_13 (by decide) ?_
  refine x_newI X hw (by decide +kernel) (by omega) (Nat.le_of_ble_eq_true rfl) (Nat.le_of_ble_eq_true rfl) dX2_init_15 (fun q15 H hw => ?_)
  have hw : WD D A s.heap [(pa, .inr (2, [.ref q7, .null])), (q7, .inl (cI, 12, .inl (iA (fun _ => 0)))), (q15, .inl (cI, 12, .inl (iA (fun _ => 0))))] H _ := hw
  have fp17 : FPR args s RX2 wsX2_init 15 2 1 (.ref q15) := ⟨_, tyX2, (.array .int), rfl, by decide, n2, hts (.fieldLink RX2 15 "AirSteps$Paces" "most" "[I") (by decide +kernel), tyX2_ok, nmX2, rfl, rfl, by decide +kernel, rfl, rfl⟩
  refine x_putF X hnm hw fp17 0 rfl (Nat.le_of_ble_eq_true rfl) dX2_init_17 (fun H locs hw => ?_)
  have hw : WD D A s.heap [(pa, .inr (2, [.ref q7, .ref q15])), (q7, .inl (cI, 12, .inl (iA (fun _ => 0)))), (q15, .inl (cI, 12, .inl (iA (fun _ => 0))))] H locs := hw
  refine lv_iconst (v := nI 0) hx hb dX2_init_20 (by decide) ?_
  refine lv_istore_n (lv' := [(1, .int (nI 0)), (0, .ref pa)]) hx hb dX2_init_21 rfl hl (by decide) rfl (fun ls hl => ?_)
  refine wl (α := (Nat → Nat) × (Nat → Nat) × Nat) (nL := 2) (fun aQ => 12 - aQ.2.2) (fun aQ => (aQ.2.2 ≤ 12) ∧ (∀ j, j < aQ.2.2 → aQ.1 j = 1) ∧ (∀ j, j < aQ.2.2 → aQ.2.1 j = 1)) (fun aQ => [(pa, .inr (2, [.ref q7, .ref q15])), (q7, .inl (cI, 12, .inl (iA aQ.1))), (q15, .inl (cI, 12, .inl (iA aQ.2.1)))]) (fun aQ => [(1, .int (nI aQ.2.2)), (0, .ref pa)]) ?_ (fun _ => 0, fun _ => 0, 0) ⟨(show 0 ≤ 12 from by omega), (show ∀ j, j < 0 → (fun _ => 0) j = 1 from fun j hj => absurd hj (Nat.not_lt_zero j)), (show ∀ j, j < 0 → (fun _ => 0) j = 1 from fun j hj => absurd hj (Nat.not_lt_zero j))⟩ _ _ _ hw (lv_sub hl [0, 1] rfl)
  rintro ⟨f1, f2, i⟩ ⟨hi, h1, h2⟩ H locs ls hw hl ih_22
  have hi : i ≤ 12 := hi
  have h1 : ∀ j, j < i → f1 j = 1 := h1
  have h2 : ∀ j, j < i → f2 j = 1 := h2
  have hw : WD D A s.heap [(pa, .inr (2, [.ref q7, .ref q15])), (q7, .inl (cI, 12, .inl (iA f1))), (q15, .inl (cI, 12, .inl (iA f2)))] H locs := hw
  have hl : lv_has ls 2 [(1, .int (nI i)), (0, .ref pa)] := hl
  refine lv_iload_n hx hb dX2_init_22 rfl (lv_at hl 0 rfl) ?_
  refine lv_bipush (v := nI 12) hx hb dX2_init_23 (by decide) ?_
  refine lv_icmp_ge (tgt := 48) hx hb dX2_init_25 (by decide) (fun c_25 => ?_) (fun c_25 => ?_)
  · skip
    rw [nI_leI (by omega) (by omega)] at c_25
    have hw := WD.ext hw 1 rfl (fun j hj => congrArg nI (h1 j (by omega)))
    have hw : WD D A s.heap [(pa, .inr (2, [.ref q7, .ref q15])), (q7, .inl (cI, 12, .inl (iA (fun _ => 1)))), (q15, .inl (cI, 12, .inl (iA f2)))] H locs := hw
    have hw := WD.ext hw 2 rfl (fun j hj => congrArg nI (h2 j (by omega)))
    have hw : WD D A s.heap [(pa, .inr (2, [.ref q7, .ref q15])), (q7, .inl (cI, 12, .inl (iA (fun _ => 1)))), (q15, .inl (cI, 12, .inl (iA (fun _ => 1))))] H locs := hw
    exact x_vret X hw (⟨_, _, rfl⟩) dX2_init_48
  · skip
    rw [nI_leI (by omega) (by omega)] at c_25
    refine lv_aload_n hx hb dX2_init_28 rfl (lv_at hl 1 rfl) ?_
    refine x_get X hw f9 0 rfl rfl dX2_init_29 ?_
    refine lv_iload_n hx hb dX2_init_32 rfl (lv_at hl 0 rfl) ?_
    refine lv_iconst (v := nI 1) hx hb dX2_init_33 (by decide) ?_
    refine x_astN X hw 1 rfl (by omega) (by omega) dX2_init_34 (fun H locs hw => ?_)
    have hw : WD D A s.heap [(pa, .inr (2, [.ref q7, .ref q15])), (q7, .inl (cI, 12, .inl (iA (va_up f1 i 1)))), (q15, .inl (cI, 12, .inl (iA f2)))] H locs := hw
    refine lv_aload_n hx hb dX2_init_35 rfl (lv_at hl 1 rfl) ?_
    refine x_get X hw f15 0 rfl rfl dX2_init_36 ?_
    refine lv_iload_n hx hb dX2_init_39 rfl (lv_at hl 0 rfl) ?_
    refine lv_iconst (v := nI 1) hx hb dX2_init_40 (by decide) ?_
    refine x_astN X hw 2 rfl (by omega) (by omega) dX2_init_41 (fun H locs hw => ?_)
    have hw : WD D A s.heap [(pa, .inr (2, [.ref q7, .ref q15])), (q7, .inl (cI, 12, .inl (iA (va_up f1 i 1)))), (q15, .inl (cI, 12, .inl (iA (va_up f2 i 1))))] H locs := hw
    refine lv_iinc (v := nI (i + 1)) (lv' := [(1, .int (nI (i + 1))), (0, .ref pa)]) hx hb dX2_init_42 hl (k := 0) rfl (nI_add i 1) (by decide) rfl (fun ls hl => ?_)
    refine lv_goto (tgt := 22) hx hb dX2_init_45 (by decide) ?_
    exact ih_22 (va_up f1 i 1, va_up f2 i 1, i + 1) (by show 12 - (i + 1) < 12 - i; omega) ⟨(show (i + 1) ≤ 12 from by omega), (show ∀ j, j < (i + 1) → (va_up f1 i 1) j = 1 from up_c h1), (show ∀ j, j < (i + 1) → (va_up f2 i 1) j = 1 from up_c h2)⟩ _ _ _ hw (lv_sub hl [0, 1] rfl)
set_option maxHeartbeats 4000000 in
set_option maxRecDepth 100000 in
theorem c_X4_init (l : Launch) (D : va_G) (cI cZ : ClassId) (wa : Nat)  : MV l D cI cZ yX4_init wsX4_init ({ frames := 1, cells := 2, slots := 128, locals := 20 }) [.ref wa] [(wa, .inr (4, [.null, .null]))] 2 128 (fun w => ∃ wv : Nat, ∃ wq : Nat, w = [(wa, .inr (4, [.ref wv, .ref wq])), (wv, .inl (cI, 64, .inl (mA (fun k => popc k + 1)))), (wq, .inl (cI, 64, .inl (iA (fun _ => 0))))]) := by
  refine MV.of (cc := cX4_init) (maxL := 2) (ret := none) (own := RX4) (by decide) rfl rfl (Nat.le_of_ble_eq_true rfl) ?_
  intro pQ eQ s mQ args below meth cQ A X hnm hw ls hl
  obtain ⟨⟨hx, hb, hml, hown, hts⟩, hr, hlk, hK, hN, hA⟩ := id X
  have hl : lv_has ls 2 [(0, .ref wa)] := hl
  have n4 : ∀ w ∈ wsX40, w ∈ wsX4_init := by decide +kernel
  have f9 : FF args s RX4 wsX4_init 9 4 0 := ⟨_, rfl, by decide, n4, hts (.fieldLink RX4 9 "AirSteps$Ways" "lengths" "[I") (by decide +kernel)⟩
  refine lv_aload_n hx hb dX4_init_0 rfl (lv_at hl 0 rfl) ?_
  refine W.objInit hx hb hown (hts (.methodLink RX4 3 objectInit) (by decide +kernel)) (hts (.instanceMethod objectInit) (by decide +kernel)) (hts _ (List.mem_of_getElem? (i := 3) rfl)) rfl (by rw [hml]; exact hl.1) rfl dX4_init_1 (Nat.le_of_ble_eq_true rfl) (Nat.le_of_ble_eq_true rfl) ?_
  refine W.eq (g2 := F0 mQ 4 ls []) rfl ?_
  refine lv_aload_n hx hb dX4_init_4 rfl (lv_at hl 0 rfl) ?_
  refine lv_bipush (v := nI 64) hx hb dX4_init_5 (by decide) ?_
  refine x_newI X hw (by decide +kernel) (by omega) (Nat.le_of_ble_eq_true rfl) (Nat.le_of_ble_eq_true rfl) dX4_init_7 (fun q7 H hw => ?_)
  have hw : WD D A s.heap [(wa, .inr (4, [.null, .null])), (q7, .inl (cI, 64, .inl (iA (fun _ => 0))))] H _ := hw
  have fp9 : FPR args s RX4 wsX4_init 9 4 0 (.ref q7) := ⟨_, tyX4, (.array .int), rfl, by decide, n4, hts (.fieldLink RX4 9 "AirSteps$Ways" "lengths" "[I") (by decide +kernel), tyX4_ok, nmX4, rfl, rfl, by decide +kernel, rfl, rfl⟩
  refine x_putF X hnm hw fp9 0 rfl (Nat.le_of_ble_eq_true rfl) dX4_init_9 (fun H locs hw => ?_)
  have hw : WD D A s.heap [(wa, .inr (4, [.ref q7, .null])), (q7, .inl (cI, 64, .inl (iA (fun _ => 0))))] H locs := hw
  refine lv_aload_n hx hb dX4_init_12 rfl (lv_at hl 0 rfl) ?_
  refine lv_bipush (v := nI 64) hx hb dX4_init_13 (by decide) ?_
  refine x_newI X hw (by decide +kernel) (by omega) (Nat.le_of_ble_eq_true rfl) (Nat.le_of_ble_eq_true rfl) dX4_init_15 (fun q15 H hw => ?_)
  have hw : WD D A s.heap [(wa, .inr (4, [.ref q7, .null])), (q7, .inl (cI, 64, .inl (iA (fun _ => 0)))), (q15, .inl (cI, 64, .inl (iA (fun _ => 0))))] H _ := hw
  have fp17 : FPR args s RX4 wsX4_init 15 4 1 (.ref q15) := ⟨_, tyX4, (.array .int), rfl, by decide, n4, hts (.fieldLink RX4 15 "AirSteps$Ways" "queue" "[I") (by decide +kernel), tyX4_ok, nmX4, rfl, rfl, by decide +kernel, rfl, rfl⟩
  refine x_putF X hnm hw fp17 0 rfl (Nat.le_of_ble_eq_true rfl) dX4_init_17 (fun H locs hw => ?_)
  have hw : WD D A s.heap [(wa, .inr (4, [.ref q7, .ref q15])), (q7, .inl (cI, 64, .inl (iA (fun _ => 0)))), (q15, .inl (cI, 64, .inl (iA (fun _ => 0))))] H locs := hw
  have hw := WD.ext hw 1 rfl (fun j hj => (by decide : nI 0 = mI 1))
  have hw : WD D A s.heap [(wa, .inr (4, [.ref q7, .ref q15])), (q7, .inl (cI, 64, .inl (mA (fun _ => 1)))), (q15, .inl (cI, 64, .inl (iA (fun _ => 0))))] H locs := hw
  refine lv_iconst (v := nI 0) hx hb dX4_init_20 (by decide) ?_
  refine lv_istore_n (lv' := [(1, .int (nI 0)), (0, .ref wa)]) hx hb dX4_init_21 rfl hl (by decide) rfl (fun ls hl => ?_)
  refine wl (α := (Nat → Nat) × Nat) (nL := 2) (fun aQ => 64 - aQ.2) (fun aQ => (aQ.2 ≤ 64) ∧ (∀ j, j < aQ.2 → aQ.1 j = popc j + 1)) (fun aQ => [(wa, .inr (4, [.ref q7, .ref q15])), (q7, .inl (cI, 64, .inl (mA aQ.1))), (q15, .inl (cI, 64, .inl (iA (fun _ => 0))))]) (fun aQ => [(1, .int (nI aQ.2)), (0, .ref wa)]) ?_ (fun _ => 1, 0) ⟨(show 0 ≤ 64 from by omega), (show ∀ j, j < 0 → (fun _ => 1) j = popc j + 1 from fun j hj => absurd hj (Nat.not_lt_zero j))⟩ _ _ _ hw (lv_sub hl [0, 1] rfl)
  rintro ⟨f1, i⟩ ⟨hi, h1⟩ H locs ls hw hl ih_22
  have hi : i ≤ 64 := hi
  have h1 : ∀ j, j < i → f1 j = popc j + 1 := h1
  have hw : WD D A s.heap [(wa, .inr (4, [.ref q7, .ref q15])), (q7, .inl (cI, 64, .inl (mA f1))), (q15, .inl (cI, 64, .inl (iA (fun _ => 0))))] H locs := hw
  have hl : lv_has ls 2 [(1, .int (nI i)), (0, .ref wa)] := hl
  refine lv_iload_n hx hb dX4_init_22 rfl (lv_at hl 0 rfl) ?_
  refine lv_bipush (v := nI 64) hx hb dX4_init_23 (by decide) ?_
  refine lv_icmp_ge (tgt := 44) hx hb dX4_init_25 (by decide) (fun c_25 => ?_) (fun c_25 => ?_)
  · skip
    rw [nI_leI (by omega) (by omega)] at c_25
    have hw := WD.ext hw 1 rfl (fun j hj => congrArg mI (h1 j (by omega)))
    have hw : WD D A s.heap [(wa, .inr (4, [.ref q7, .ref q15])), (q7, .inl (cI, 64, .inl (mA (fun k => popc k + 1)))), (q15, .inl (cI, 64, .inl (iA (fun _ => 0))))] H locs := hw
    exact x_vret X hw (⟨_, _, rfl⟩) dX4_init_44
  · skip
    rw [nI_leI (by omega) (by omega)] at c_25
    refine lv_aload_n hx hb dX4_init_28 rfl (lv_at hl 1 rfl) ?_
    refine x_get X hw f9 0 rfl rfl dX4_init_29 ?_
    refine lv_iload_n hx hb dX4_init_32 rfl (lv_at hl 0 rfl) ?_
    refine lv_iload_n hx hb dX4_init_33 rfl (lv_at hl 0 rfl) ?_
    refine x_callS (As := [.int (nI i)]) (rest := [.int (nI i), .ref q7]) X hw hl.1 (c_J6_bitCount_0f7a4 l D cI cZ i (by first | assumption | omega)) (va_cwS 1 hts gX4_init_J6_bitCount_0f7a4 rfl rfl rfl (by decide +kernel) ⟨Nat.le_of_ble_eq_true rfl, Nat.le_of_ble_eq_true rfl⟩) [] rfl rfl rfl (Nat.le_of_ble_eq_true rfl) dX4_init_34 (by decide) (fun r w1 H locs hp hw1 => ?_)
    obtain ⟨rfl, rfl⟩ := hp
    have hw : WD D A s.heap [(wa, .inr (4, [.ref q7, .ref q15])), (q7, .inl (cI, 64, .inl (mA f1))), (q15, .inl (cI, 64, .inl (iA (fun _ => 0))))] H locs := hw1 rfl
    refine cv_i (show nI (popc i) = mI ((popc i) + 1) from (nI_pred (popc i)).symm) ?_
    refine x_astM X hw 1 rfl (by omega) (by omega) dX4_init_37 (fun H locs hw => ?_)
    have hw : WD D A s.heap [(wa, .inr (4, [.ref q7, .ref q15])), (q7, .inl (cI, 64, .inl (mA (va_up f1 i ((popc i) + 1))))), (q15, .inl (cI, 64, .inl (iA (fun _ => 0))))] H locs := hw
    refine lv_iinc (v := nI (i + 1)) (lv' := [(1, .int (nI (i + 1))), (0, .ref wa)]) hx hb dX4_init_38 hl (k := 0) rfl (nI_add i 1) (by decide) rfl (fun ls hl => ?_)
    refine lv_goto (tgt := 22) hx hb dX4_init_41 (by decide) ?_
    exact ih_22 (va_up f1 i ((popc i) + 1), i + 1) (by show 64 - (i + 1) < 64 - i; omega) ⟨(show (i + 1) ≤ 64 from by omega), (show ∀ j, j < (i + 1) → (va_up f1 i ((popc i) + 1)) j = popc j + 1 from up_f (g := fun k => popc k + 1) h1)⟩ _ _ _ hw (lv_sub hl [0, 1] rfl)
set_option maxHeartbeats 4000000 in
set_option maxRecDepth 100000 in
theorem c_X5_init (l : Launch) (D : va_G) (cI cZ : ClassId) (ax : Nat)  : MV l D cI cZ yX5_init wsX5_init ({ frames := 2, cells := 15, slots := 254, locals := 41 }) [.ref ax] [(ax, .inr (5, [.null, .null, .null, .null, .null]))] 15 254 (fun w => ∃ t : Nat, ∃ te : Nat, ∃ ts : Nat, ∃ ga : Nat, ∃ gc : Nat, ∃ gn : Nat, ∃ la : Nat, ∃ lb : Nat, ∃ lw : Nat, ∃ wa : Nat, ∃ wv : Nat, ∃ wq : Nat, ∃ pa : Nat, ∃ pl : Nat, ∃ pm : Nat, w = [(ax, .inr (5, [.ref t, .ref ga, .ref la, .ref wa, .ref pa])), (t, .inr (3, [.ref te, .ref ts, .int (nI 0)])), (te, .inl (cI, 16, .inl (iA (fun _ => 0)))), (ts, .inl (cI, 17, .inl (iA (fun _ => 0)))), (ga, .inr (0, [.ref gc, .ref gn, .int (nI 0)])), (gc, .inl (cI, 16, .inl (iA (fun _ => 0)))), (gn, .inl (cI, 16, .inl (iA (fun _ => 0)))), (la, .inr (1, [.ref lb, .ref lw, .int (nI 0)])), (lb, .inl (cI, 12, .inl (iA (fun _ => 0)))), (lw, .inl (cI, 12, .inl (iA (fun _ => 0)))), (wa, .inr (4, [.ref wv, .ref wq])), (wv, .inl (cI, 64, .inl (mA (fun k => popc k + 1)))), (wq, .inl (cI, 64, .inl (iA (fun _ => 0)))), (pa, .inr (2, [.ref pl, .ref pm])), (pl, .inl (cI, 12, .inl (iA (fun _ => 1)))), (pm, .inl (cI, 12, .inl (iA (fun _ => 1))))]) := by
  refine MV.of (cc := cX5_init) (maxL := 1) (ret := none) (own := RX5) (by decide) rfl rfl (Nat.le_of_ble_eq_true rfl) ?_
  intro pQ eQ s mQ args below meth cQ A X hnm hw ls hl
  obtain ⟨⟨hx, hb, hml, hown, hts⟩, hr, hlk, hK, hN, hA⟩ := id X
  have hl : lv_has ls 1 [(0, .ref ax)] := hl
  have n0 : ∀ w ∈ wsX00, w ∈ wsX5_init := by decide +kernel
  have n1 : ∀ w ∈ wsX10, w ∈ wsX5_init := by decide +kernel
  have n2 : ∀ w ∈ wsX20, w ∈ wsX5_init := by decide +kernel
  have n3 : ∀ w ∈ wsX30, w ∈ wsX5_init := by decide +kernel
  have n4 : ∀ w ∈ wsX40, w ∈ wsX5_init := by decide +kernel
  have n5 : ∀ w ∈ wsX50, w ∈ wsX5_init := by decide +kernel
  refine lv_aload_n hx hb dX5_init_0 rfl (lv_at hl 0 rfl) ?_
  refine W.objInit hx hb hown (hts (.methodLink RX5 1 objectInit) (by decide +kernel)) (hts (.instanceMethod objectInit) (by decide +kernel)) (hts _ (List.mem_of_getElem? (i := 3) rfl)) rfl (by rw [hml]; exact hl.1) rfl dX5_init_1 (Nat.le_of_ble_eq_true rfl) (Nat.le_of_ble_eq_true rfl) ?_
  refine W.eq (g2 := F0 mQ 4 ls []) rfl ?_
  refine lv_aload_n hx hb dX5_init_4 rfl (lv_at hl 0 rfl) ?_
  refine x_new (ci := 3) (C := RX3) (T := TX3) (N := 3) (fs := [.null, .null, .int (nI 0)]) X hw rfl n3 tyX3 tyX3_ok (by decide +kernel) (by decide +kernel) (by decide +kernel) (fun j hj => by rcases (show j = 0 ∨ j = 1 ∨ j = 2 by omega) with rfl | rfl | rfl <;> rfl) (Nat.le_of_ble_eq_true rfl) (Nat.le_of_ble_eq_true rfl) dX5_init_5 (fun q5 H hw => ?_)
  have hw : WD D A s.heap [(ax, .inr (5, [.null, .null, .null, .null, .null])), (q5, .inr (3, [.null, .null, .int (nI 0)]))] H _ := hw
  refine lv_dup hx hb dX5_init_8 rfl ?_
  refine x_initN (wr := [(ax, .inr (5, [.null, .null, .null, .null, .null]))]) (rest := [.ref q5, .ref ax]) (host := RX5) X hw hl.1 (c_X3_init l D cI cZ q5) gX5_init_X3_init_n9 rfl rfl rfl (List.mem_of_getElem? (i := 0) rfl) (by decide +kernel) (by decide +kernel) rfl (by decide +kernel) ⟨Nat.le_of_ble_eq_true rfl, Nat.le_of_ble_eq_true rfl⟩ [1] [0] rfl rfl rfl rfl (by decide) (Nat.le_of_ble_eq_true rfl) dX5_init_9 ⟨Nat.le_of_ble_eq_true rfl, Nat.le_of_ble_eq_true rfl⟩ (fun w1 H locs hp hw => ?_)
  obtain ⟨te, ts, rfl⟩ := hp
  have hw : WD D A s.heap [(ax, .inr (5, [.null, .null, .null, .null, .null])), (q5, .inr (3, [.ref te, .ref ts, .int (nI 0)])), (te, .inl (cI, 16, .inl (iA (fun _ => 0)))), (ts, .inl (cI, 17, .inl (iA (fun _ => 0))))] H locs := hw
  have fp12 : FPR args s RX5 wsX5_init 10 5 0 (.ref q5) := ⟨_, tyX5, (.object "AirSteps$Text"), rfl, by decide, n5, hts (.fieldLink RX5 10 "AirSteps" "text" "LAirSteps$Text;") (by decide +kernel), tyX5_ok, nmX5, rfl, rfl, by decide +kernel, rfl, rfl⟩
  refine x_putF X hnm hw fp12 0 rfl (Nat.le_of_ble_eq_true rfl) dX5_init_12 (fun H locs hw => ?_)
  have hw : WD D A s.heap [(ax, .inr (5, [.ref q5, .null, .null, .null, .null])), (q5, .inr (3, [.ref te, .ref ts, .int (nI 0)])), (te, .inl (cI, 16, .inl (iA (fun _ => 0)))), (ts, .inl (cI, 17, .inl (iA (fun _ => 0))))] H locs := hw
  refine lv_aload_n hx hb dX5_init_15 rfl (lv_at hl 0 rfl) ?_
  refine x_new (ci := 0) (C := RX0) (T := TX0) (N := 3) (fs := [.null, .null, .int (nI 0)]) X hw rfl n0 tyX0 tyX0_ok (by decide +kernel) (by decide +kernel) (by decide +kernel) (fun j hj => by rcases (show j = 0 ∨ j = 1 ∨ j = 2 by omega) with rfl | rfl | rfl <;> rfl) (Nat.le_of_ble_eq_true rfl) (Nat.le_of_ble_eq_true rfl) dX5_init_16 (fun q16 H hw => ?_)
  have hw : WD D A s.heap [(ax, .inr (5, [.ref q5, .null, .null, .null, .null])), (q5, .inr (3, [.ref te, .ref ts, .int (nI 0)])), (te, .inl (cI, 16, .inl (iA (fun _ => 0)))), (ts, .inl (cI, 17, .inl (iA (fun _ => 0)))), (q16, .inr (0, [.null, .null, .int (nI 0)]))] H _ := hw
  refine lv_dup hx hb dX5_init_19 rfl ?_
  refine x_initN (wr := [(ax, .inr (5, [.ref q5, .null, .null, .null, .null])), (q5, .inr (3, [.ref te, .ref ts, .int (nI 0)])), (te, .inl (cI, 16, .inl (iA (fun _ => 0)))), (ts, .inl (cI, 17, .inl (iA (fun _ => 0))))]) (rest := [.ref q16, .ref ax]) (host := RX5) X hw hl.1 (c_X0_init l D cI cZ q16) gX5_init_X0_init_n18 rfl rfl rfl (List.mem_of_getElem? (i := 1) rfl) (by decide +kernel) (by decide +kernel) rfl (by decide +kernel) ⟨Nat.le_of_ble_eq_true rfl, Nat.le_of_ble_eq_true rfl⟩ [4] [0, 1, 2, 3] rfl rfl rfl rfl (by decide) (Nat.le_of_ble_eq_true rfl) dX5_init_20 ⟨Nat.le_of_ble_eq_true rfl, Nat.le_of_ble_eq_true rfl⟩ (fun w1 H locs hp hw => ?_)
  obtain ⟨gc, gn, rfl⟩ := hp
  have hw : WD D A s.heap [(ax, .inr (5, [.ref q5, .null, .null, .null, .null])), (q5, .inr (3, [.ref te, .ref ts, .int (nI 0)])), (te, .inl (cI, 16, .inl (iA (fun _ => 0)))), (ts, .inl (cI, 17, .inl (iA (fun _ => 0)))), (q16, .inr (0, [.ref gc, .ref gn, .int (nI 0)])), (gc, .inl (cI, 16, .inl (iA (fun _ => 0)))), (gn, .inl (cI, 16, .inl (iA (fun _ => 0))))] H locs := hw
  have fp23 : FPR args s RX5 wsX5_init 19 5 1 (.ref q16) := ⟨_, tyX5, (.object "AirSteps$Groups"), rfl, by decide, n5, hts (.fieldLink RX5 19 "AirSteps" "rows" "LAirSteps$Groups;") (by decide +kernel), tyX5_ok, nmX5, rfl, rfl, by decide +kernel, rfl, rfl⟩
  refine x_putF X hnm hw fp23 0 rfl (Nat.le_of_ble_eq_true rfl) dX5_init_23 (fun H locs hw => ?_)
  have hw : WD D A s.heap [(ax, .inr (5, [.ref q5, .ref q16, .null, .null, .null])), (q5, .inr (3, [.ref te, .ref ts, .int (nI 0)])), (te, .inl (cI, 16, .inl (iA (fun _ => 0)))), (ts, .inl (cI, 17, .inl (iA (fun _ => 0)))), (q16, .inr (0, [.ref gc, .ref gn, .int (nI 0)])), (gc, .inl (cI, 16, .inl (iA (fun _ => 0)))), (gn, .inl (cI, 16, .inl (iA (fun _ => 0))))] H locs := hw
  refine lv_aload_n hx hb dX5_init_26 rfl (lv_at hl 0 rfl) ?_
  refine x_new (ci := 1) (C := RX1) (T := TX1) (N := 3) (fs := [.null, .null, .int (nI 0)]) X hw rfl n1 tyX1 tyX1_ok (by decide +kernel) (by decide +kernel) (by decide +kernel) (fun j hj => by rcases (show j = 0 ∨ j = 1 ∨ j = 2 by omega) with rfl | rfl | rfl <;> rfl) (Nat.le_of_ble_eq_true rfl) (Nat.le_of_ble_eq_true rfl) dX5_init_27 (fun q27 H hw => ?_)
  have hw : WD D A s.heap [(ax, .inr (5, [.ref q5, .ref q16, .null, .null, .null])), (q5, .inr (3, [.ref te, .ref ts, .int (nI 0)])), (te, .inl (cI, 16, .inl (iA (fun _ => 0)))), (ts, .inl (cI, 17, .inl (iA (fun _ => 0)))), (q16, .inr (0, [.ref gc, .ref gn, .int (nI 0)])), (gc, .inl (cI, 16, .inl (iA (fun _ => 0)))), (gn, .inl (cI, 16, .inl (iA (fun _ => 0)))), (q27, .inr (1, [.null, .null, .int (nI 0)]))] H _ := hw
  refine lv_dup hx hb dX5_init_30 rfl ?_
  refine x_initN (wr := [(ax, .inr (5, [.ref q5, .ref q16, .null, .null, .null])), (q5, .inr (3, [.ref te, .ref ts, .int (nI 0)])), (te, .inl (cI, 16, .inl (iA (fun _ => 0)))), (ts, .inl (cI, 17, .inl (iA (fun _ => 0)))), (q16, .inr (0, [.ref gc, .ref gn, .int (nI 0)])), (gc, .inl (cI, 16, .inl (iA (fun _ => 0)))), (gn, .inl (cI, 16, .inl (iA (fun _ => 0))))]) (rest := [.ref q27, .ref ax]) (host := RX5) X hw hl.1 (c_X1_init l D cI cZ q27) gX5_init_X1_init_n25 rfl rfl rfl (List.mem_of_getElem? (i := 2) rfl) (by decide +kernel) (by decide +kernel) rfl (by decide +kernel) ⟨Nat.le_of_ble_eq_true rfl, Nat.le_of_ble_eq_true rfl⟩ [7] [0, 1, 2, 3, 4, 5, 6] rfl rfl rfl rfl (by decide) (Nat.le_of_ble_eq_true rfl) dX5_init_31 ⟨Nat.le_of_ble_eq_true rfl, Nat.le_of_ble_eq_true rfl⟩ (fun w1 H locs hp hw => ?_)
  obtain ⟨lb, lw, rfl⟩ := hp
  have hw : WD D A s.heap [(ax, .inr (5, [.ref q5, .ref q16, .null, .null, .null])), (q5, .inr (3, [.ref te, .ref ts, .int (nI 0)])), (te, .inl (cI, 16, .inl (iA (fun _ => 0)))), (ts, .inl (cI, 17, .inl (iA (fun _ => 0)))), (q16, .inr (0, [.ref gc, .ref gn, .int (nI 0)])), (gc, .inl (cI, 16, .inl (iA (fun _ => 0)))), (gn, .inl (cI, 16, .inl (iA (fun _ => 0)))), (q27, .inr (1, [.ref lb, .ref lw, .int (nI 0)])), (lb, .inl (cI, 12, .inl (iA (fun _ => 0)))), (lw, .inl (cI, 12, .inl (iA (fun _ => 0))))] H locs := hw
  have fp34 : FPR args s RX5 wsX5_init 26 5 2 (.ref q27) := ⟨_, tyX5, (.object "AirSteps$Laws"), rfl, by decide, n5, hts (.fieldLink RX5 26 "AirSteps" "laws" "LAirSteps$Laws;") (by decide +kernel), tyX5_ok, nmX5, rfl, rfl, by decide +kernel, rfl, rfl⟩
  refine x_putF X hnm hw fp34 0 rfl (Nat.le_of_ble_eq_true rfl) dX5_init_34 (fun H locs hw => ?_)
  have hw : WD D A s.heap [(ax, .inr (5, [.ref q5, .ref q16, .ref q27, .null, .null])), (q5, .inr (3, [.ref te, .ref ts, .int (nI 0)])), (te, .inl (cI, 16, .inl (iA (fun _ => 0)))), (ts, .inl (cI, 17, .inl (iA (fun _ => 0)))), (q16, .inr (0, [.ref gc, .ref gn, .int (nI 0)])), (gc, .inl (cI, 16, .inl (iA (fun _ => 0)))), (gn, .inl (cI, 16, .inl (iA (fun _ => 0)))), (q27, .inr (1, [.ref lb, .ref lw, .int (nI 0)])), (lb, .inl (cI, 12, .inl (iA (fun _ => 0)))), (lw, .inl (cI, 12, .inl (iA (fun _ => 0))))] H locs := hw
  refine lv_aload_n hx hb dX5_init_37 rfl (lv_at hl 0 rfl) ?_
  refine x_new (ci := 4) (C := RX4) (T := TX4) (N := 2) (fs := [.null, .null]) X hw rfl n4 tyX4 tyX4_ok (by decide +kernel) (by decide +kernel) (by decide +kernel) (fun j hj => by rcases (show j = 0 ∨ j = 1 by omega) with rfl | rfl <;> rfl) (Nat.le_of_ble_eq_true rfl) (Nat.le_of_ble_eq_true rfl) dX5_init_38 (fun q38 H hw => ?_)
  have hw : WD D A s.heap [(ax, .inr (5, [.ref q5, .ref q16, .ref q27, .null, .null])), (q5, .inr (3, [.ref te, .ref ts, .int (nI 0)])), (te, .inl (cI, 16, .inl (iA (fun _ => 0)))), (ts, .inl (cI, 17, .inl (iA (fun _ => 0)))), (q16, .inr (0, [.ref gc, .ref gn, .int (nI 0)])), (gc, .inl (cI, 16, .inl (iA (fun _ => 0)))), (gn, .inl (cI, 16, .inl (iA (fun _ => 0)))), (q27, .inr (1, [.ref lb, .ref lw, .int (nI 0)])), (lb, .inl (cI, 12, .inl (iA (fun _ => 0)))), (lw, .inl (cI, 12, .inl (iA (fun _ => 0)))), (q38, .inr (4, [.null, .null]))] H _ := hw
  refine lv_dup hx hb dX5_init_41 rfl ?_
  refine x_init (wr := [(ax, .inr (5, [.ref q5, .ref q16, .ref q27, .null, .null])), (q5, .inr (3, [.ref te, .ref ts, .int (nI 0)])), (te, .inl (cI, 16, .inl (iA (fun _ => 0)))), (ts, .inl (cI, 17, .inl (iA (fun _ => 0)))), (q16, .inr (0, [.ref gc, .ref gn, .int (nI 0)])), (gc, .inl (cI, 16, .inl (iA (fun _ => 0)))), (gn, .inl (cI, 16, .inl (iA (fun _ => 0)))), (q27, .inr (1, [.ref lb, .ref lw, .int (nI 0)])), (lb, .inl (cI, 12, .inl (iA (fun _ => 0)))), (lw, .inl (cI, 12, .inl (iA (fun _ => 0))))]) (rest := [.ref q38, .ref ax]) X hw hl.1 (c_X4_init l D cI cZ q38) (cwI 0 hts gX5_init_X4_init rfl rfl rfl (hts (.initialized RX4) (by decide +kernel)) (hts (.methodLink RX5 32 yX4_init) (by decide +kernel)) (hts (.instanceMethod yX4_init) (by decide +kernel)) rfl (by decide +kernel) ⟨Nat.le_of_ble_eq_true rfl, Nat.le_of_ble_eq_true rfl⟩) [10] [0, 1, 2, 3, 4, 5, 6, 7, 8, 9] rfl rfl rfl rfl (by decide) (Nat.le_of_ble_eq_true rfl) dX5_init_42 ⟨Nat.le_of_ble_eq_true rfl, Nat.le_of_ble_eq_true rfl⟩ (fun w1 H locs hp hw => ?_)
  obtain ⟨wv, wq, rfl⟩ := hp
  have hw : WD D A s.heap [(ax, .inr (5, [.ref q5, .ref q16, .ref q27, .null, .null])), (q5, .inr (3, [.ref te, .ref ts, .int (nI 0)])), (te, .inl (cI, 16, .inl (iA (fun _ => 0)))), (ts, .inl (cI, 17, .inl (iA (fun _ => 0)))), (q16, .inr (0, [.ref gc, .ref gn, .int (nI 0)])), (gc, .inl (cI, 16, .inl (iA (fun _ => 0)))), (gn, .inl (cI, 16, .inl (iA (fun _ => 0)))), (q27, .inr (1, [.ref lb, .ref lw, .int (nI 0)])), (lb, .inl (cI, 12, .inl (iA (fun _ => 0)))), (lw, .inl (cI, 12, .inl (iA (fun _ => 0)))), (q38, .inr (4, [.ref wv, .ref wq])), (wv, .inl (cI, 64, .inl (mA (fun k => popc k + 1)))), (wq, .inl (cI, 64, .inl (iA (fun _ => 0))))] H locs := hw
  have fp45 : FPR args s RX5 wsX5_init 33 5 3 (.ref q38) := ⟨_, tyX5, (.object "AirSteps$Ways"), rfl, by decide, n5, hts (.fieldLink RX5 33 "AirSteps" "ways" "LAirSteps$Ways;") (by decide +kernel), tyX5_ok, nmX5, rfl, rfl, by decide +kernel, rfl, rfl⟩
  refine x_putF X hnm hw fp45 0 rfl (Nat.le_of_ble_eq_true rfl) dX5_init_45 (fun H locs hw => ?_)
  have hw : WD D A s.heap [(ax, .inr (5, [.ref q5, .ref q16, .ref q27, .ref q38, .null])), (q5, .inr (3, [.ref te, .ref ts, .int (nI 0)])), (te, .inl (cI, 16, .inl (iA (fun _ => 0)))), (ts, .inl (cI, 17, .inl (iA (fun _ => 0)))), (q16, .inr (0, [.ref gc, .ref gn, .int (nI 0)])), (gc, .inl (cI, 16, .inl (iA (fun _ => 0)))), (gn, .inl (cI, 16, .inl (iA (fun _ => 0)))), (q27, .inr (1, [.ref lb, .ref lw, .int (nI 0)])), (lb, .inl (cI, 12, .inl (iA (fun _ => 0)))), (lw, .inl (cI, 12, .inl (iA (fun _ => 0)))), (q38, .inr (4, [.ref wv, .ref wq])), (wv, .inl (cI, 64, .inl (mA (fun k => popc k + 1)))), (wq, .inl (cI, 64, .inl (iA (fun _ => 0))))] H locs := hw
  refine lv_aload_n hx hb dX5_init_48 rfl (lv_at hl 0 rfl) ?_
  refine x_new (ci := 2) (C := RX2) (T := TX2) (N := 2) (fs := [.null, .null]) X hw rfl n2 tyX2 tyX2_ok (by decide +kernel) (by decide +kernel) (by decide +kernel) (fun j hj => by rcases (show j = 0 ∨ j = 1 by omega) with rfl | rfl <;> rfl) (Nat.le_of_ble_eq_true rfl) (Nat.le_of_ble_eq_true rfl) dX5_init_49 (fun q49 H hw => ?_)
  have hw : WD D A s.heap [(ax, .inr (5, [.ref q5, .ref q16, .ref q27, .ref q38, .null])), (q5, .inr (3, [.ref te, .ref ts, .int (nI 0)])), (te, .inl (cI, 16, .inl (iA (fun _ => 0)))), (ts, .inl (cI, 17, .inl (iA (fun _ => 0)))), (q16, .inr (0, [.ref gc, .ref gn, .int (nI 0)])), (gc, .inl (cI, 16, .inl (iA (fun _ => 0)))), (gn, .inl (cI, 16, .inl (iA (fun _ => 0)))), (q27, .inr (1, [.ref lb, .ref lw, .int (nI 0)])), (lb, .inl (cI, 12, .inl (iA (fun _ => 0)))), (lw, .inl (cI, 12, .inl (iA (fun _ => 0)))), (q38, .inr (4, [.ref wv, .ref wq])), (wv, .inl (cI, 64, .inl (mA (fun k => popc k + 1)))), (wq, .inl (cI, 64, .inl (iA (fun _ => 0)))), (q49, .inr (2, [.null, .null]))] H _ := hw
  refine lv_dup hx hb dX5_init_52 rfl ?_
  refine x_init (wr := [(ax, .inr (5, [.ref q5, .ref q16, .ref q27, .ref q38, .null])), (q5, .inr (3, [.ref te, .ref ts, .int (nI 0)])), (te, .inl (cI, 16, .inl (iA (fun _ => 0)))), (ts, .inl (cI, 17, .inl (iA (fun _ => 0)))), (q16, .inr (0, [.ref gc, .ref gn, .int (nI 0)])), (gc, .inl (cI, 16, .inl (iA (fun _ => 0)))), (gn, .inl (cI, 16, .inl (iA (fun _ => 0)))), (q27, .inr (1, [.ref lb, .ref lw, .int (nI 0)])), (lb, .inl (cI, 12, .inl (iA (fun _ => 0)))), (lw, .inl (cI, 12, .inl (iA (fun _ => 0)))), (q38, .inr (4, [.ref wv, .ref wq])), (wv, .inl (cI, 64, .inl (mA (fun k => popc k + 1)))), (wq, .inl (cI, 64, .inl (iA (fun _ => 0))))]) (rest := [.ref q49, .ref ax]) X hw hl.1 (c_X2_init l D cI cZ q49) (cwI 0 hts gX5_init_X2_init rfl rfl rfl (hts (.initialized RX2) (by decide +kernel)) (hts (.methodLink RX5 39 yX2_init) (by decide +kernel)) (hts (.instanceMethod yX2_init) (by decide +kernel)) rfl (by decide +kernel) ⟨Nat.le_of_ble_eq_true rfl, Nat.le_of_ble_eq_true rfl⟩) [13] [0, 1, 2, 3, 4, 5, 6, 7, 8, 9, 10, 11, 12] rfl rfl rfl rfl (by decide) (Nat.le_of_ble_eq_true rfl) dX5_init_53 ⟨Nat.le_of_ble_eq_true rfl, Nat.le_of_ble_eq_true rfl⟩ (fun w1 H locs hp hw => ?_)
  obtain ⟨pl, pm, rfl⟩ := hp
  have hw : WD D A s.heap [(ax, .inr (5, [.ref q5, .ref q16, .ref q27, .ref q38, .null])), (q5, .inr (3, [.ref te, .ref ts, .int (nI 0)])), (te, .inl (cI, 16, .inl (iA (fun _ => 0)))), (ts, .inl (cI, 17, .inl (iA (fun _ => 0)))), (q16, .inr (0, [.ref gc, .ref gn, .int (nI 0)])), (gc, .inl (cI, 16, .inl (iA (fun _ => 0)))), (gn, .inl (cI, 16, .inl (iA (fun _ => 0)))), (q27, .inr (1, [.ref lb, .ref lw, .int (nI 0)])), (lb, .inl (cI, 12, .inl (iA (fun _ => 0)))), (lw, .inl (cI, 12, .inl (iA (fun _ => 0)))), (q38, .inr (4, [.ref wv, .ref wq])), (wv, .inl (cI, 64, .inl (mA (fun k => popc k + 1)))), (wq, .inl (cI, 64, .inl (iA (fun _ => 0)))), (q49, .inr (2, [.ref pl, .ref pm])), (pl, .inl (cI, 12, .inl (iA (fun _ => 1)))), (pm, .inl (cI, 12, .inl (iA (fun _ => 1))))] H locs := hw
  have fp56 : FPR args s RX5 wsX5_init 40 5 4 (.ref q49) := ⟨_, tyX5, (.object "AirSteps$Paces"), rfl, by decide, n5, hts (.fieldLink RX5 40 "AirSteps" "paces" "LAirSteps$Paces;") (by decide +kernel), tyX5_ok, nmX5, rfl, rfl, by decide +kernel, rfl, rfl⟩
  refine x_putF X hnm hw fp56 0 rfl (Nat.le_of_ble_eq_true rfl) dX5_init_56 (fun H locs hw => ?_)
  have hw : WD D A s.heap [(ax, .inr (5, [.ref q5, .ref q16, .ref q27, .ref q38, .ref q49])), (q5, .inr (3, [.ref te, .ref ts, .int (nI 0)])), (te, .inl (cI, 16, .inl (iA (fun _ => 0)))), (ts, .inl (cI, 17, .inl (iA (fun _ => 0)))), (q16, .inr (0, [.ref gc, .ref gn, .int (nI 0)])), (gc, .inl (cI, 16, .inl (iA (fun _ => 0)))), (gn, .inl (cI, 16, .inl (iA (fun _ => 0)))), (q27, .inr (1, [.ref lb, .ref lw, .int (nI 0)])), (lb, .inl (cI, 12, .inl (iA (fun _ => 0)))), (lw, .inl (cI, 12, .inl (iA (fun _ => 0)))), (q38, .inr (4, [.ref wv, .ref wq])), (wv, .inl (cI, 64, .inl (mA (fun k => popc k + 1)))), (wq, .inl (cI, 64, .inl (iA (fun _ => 0)))), (q49, .inr (2, [.ref pl, .ref pm])), (pl, .inl (cI, 12, .inl (iA (fun _ => 1)))), (pm, .inl (cI, 12, .inl (iA (fun _ => 1))))] H locs := hw
  exact x_vret X hw (⟨_, _, _, _, _, _, _, _, _, _, _, _, _, _, _, rfl⟩) dX5_init_59
