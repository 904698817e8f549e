/-! ===== AirSteps.Ways: roads ===== -/
set_option maxHeartbeats 4000000 in
set_option maxRecDepth 100000 in
theorem c_X4_nextCylinder (l : Launch) (D : va_G) (cI cZ : ClassId) (wa : Nat) (wv : Nat) (wq : Nat) (dp : Nat → Nat) (qu : Nat → Nat) (la : Nat) (lb : Nat) (lw : Nat) (ba : Nat → Nat) (wh : Nat → Nat) (nl : Nat) (st : Nat) (hnl : nl ≤ 12) (hba : ∀ k, ba k < 12) (hwh : ∀ k, wh k < 12) (hdp : ∀ k, dp k < 1000) (hqu : ∀ k, qu k < 64) (hst1 : st < 64) : MI l D cI cZ yX4_nextCylinder wsX4_nextCylinder ({ frames := 4, cells := 0, slots := 0, locals := 90 }) [.ref wa, .ref la, .int (nI st)] [(wa, .inr (4, [.ref wv, .ref wq])), (wv, .inl (cI, 64, .inl (mA dp))), (wq, .inl (cI, 64, .inl (iA qu))), (la, .inr (1, [.ref lb, .ref lw, .int (nI nl)])), (lb, .inl (cI, 12, .inl (iA ba))), (lw, .inl (cI, 12, .inl (iA wh)))] (fun r w => r = (nI (nxt (alM ba wh nl) dp st)) ∧ w = [(wa, .inr (4, [.ref wv, .ref wq])), (wv, .inl (cI, 64, .inl (mA dp))), (wq, .inl (cI, 64, .inl (iA qu))), (la, .inr (1, [.ref lb, .ref lw, .int (nI nl)])), (lb, .inl (cI, 12, .inl (iA ba))), (lw, .inl (cI, 12, .inl (iA wh)))]) := by
  refine MI.of (cc := cX4_nextCylinder) (maxL := 5) (ret := (some .int)) (own := RX4) (by decide) rfl rfl (Nat.le_of_ble_eq_true rfl) ?_
  intro pQ eQ s mQ args below meth cQ A X hw ls hl
  obtain ⟨⟨hx, hb, hml, hown, hts⟩, hr, hlk, hK, hN, hA⟩ := id X
  have hl : lv_has ls 5 [(0, .ref wa), (1, .ref la), (2, .int (nI st))] := hl
  refine lv_aload_n hx hb dX4_nextCylinder_0 rfl (lv_at hl 0 rfl) ?_
  refine lv_iload_n hx hb dX4_nextCylinder_1 rfl (lv_at hl 2 rfl) ?_
  refine x_callV (As := [.int (nI st)]) (rest := []) X hw hl.1 (c_X4_length l D cI cZ wa wv wq dp qu st (by first | assumption | omega)) (cwV 1 hts gX4_nextCylinder_X4_length rfl rfl rfl (by decide +kernel) ⟨Nat.le_of_ble_eq_true rfl, Nat.le_of_ble_eq_true rfl⟩) [0, 1, 2] rfl rfl 0 rfl rfl rfl rfl (Nat.le_of_ble_eq_true rfl) dX4_nextCylinder_2 (by decide) (fun r w1 H locs hp hw1 => ?_)
  obtain ⟨rfl, rfl⟩ := hp
  have hw : WD D A s.heap [(wa, .inr (4, [.ref wv, .ref wq])), (wv, .inl (cI, 64, .inl (mA dp))), (wq, .inl (cI, 64, .inl (iA qu))), (la, .inr (1, [.ref lb, .ref lw, .int (nI nl)])), (lb, .inl (cI, 12, .inl (iA ba))), (lw, .inl (cI, 12, .inl (iA wh)))] H locs := hw1 rfl
  refine lv_istore_n (lv' := [(3, .int (mI (dp st))), (0, .ref wa), (1, .ref la), (2, .int (nI st))]) hx hb dX4_nextCylinder_5 rfl hl (by decide) rfl (fun ls hl => ?_)
  refine lv_iconst (v := nI 0) hx hb dX4_nextCylinder_6 (by decide) ?_
  refine lv_istore (lv' := [(4, .int (nI 0)), (3, .int (mI (dp st))), (0, .ref wa), (1, .ref la), (2, .int (nI st))]) hx hb dX4_nextCylinder_7 hl (by decide) rfl (fun ls hl => ?_)
  refine wl (α := Nat) (nL := 5) (fun aQ => 6 - aQ) (fun aQ => (aQ ≤ 6) ∧ (∀ j, j < aQ → nxP (alM ba wh nl) dp st j = false)) (fun aQ => [(wa, .inr (4, [.ref wv, .ref wq])), (wv, .inl (cI, 64, .inl (mA dp))), (wq, .inl (cI, 64, .inl (iA qu))), (la, .inr (1, [.ref lb, .ref lw, .int (nI nl)])), (lb, .inl (cI, 12, .inl (iA ba))), (lw, .inl (cI, 12, .inl (iA wh)))]) (fun aQ => [(4, .int (nI aQ)), (3, .int (mI (dp st))), (0, .ref wa), (1, .ref la), (2, .int (nI st))]) ?_ 0 ⟨(show 0 ≤ 6 from by omega), (show ∀ j, j < 0 → nxP (alM ba wh nl) dp st j = false from fun j hj => absurd hj (Nat.not_lt_zero j))⟩ _ _ _ hw (lv_sub hl [0, 1, 2, 3, 4] rfl)
  rintro i ⟨hi, hq⟩ H locs ls hw hl ih_9
  have hi : i ≤ 6 := hi
  have hq : ∀ j, j < i → nxP (alM ba wh nl) dp st j = false := hq
  have hw : WD D A s.heap [(wa, .inr (4, [.ref wv, .ref wq])), (wv, .inl (cI, 64, .inl (mA dp))), (wq, .inl (cI, 64, .inl (iA qu))), (la, .inr (1, [.ref lb, .ref lw, .int (nI nl)])), (lb, .inl (cI, 12, .inl (iA ba))), (lw, .inl (cI, 12, .inl (iA wh)))] H locs := hw
  have hl : lv_has ls 5 [(4, .int (nI i)), (3, .int (mI (dp st))), (0, .ref wa), (1, .ref la), (2, .int (nI st))] := hl
  refine lv_iload hx hb dX4_nextCylinder_9 (lv_at hl 0 rfl) ?_
  refine lv_bipush (v := nI 6) hx hb dX4_nextCylinder_11 (by decide) ?_
  refine lv_icmp_ge (tgt := 51) hx hb dX4_nextCylinder_13 (by decide) (fun c_13 => ?_) (fun c_13 => ?_)
  · skip
    rw [nI_leI (by omega) (by omega)] at c_13
    refine lv_iconst (v := nI 0) hx hb dX4_nextCylinder_51 (by decide) ?_
    exact x_iret X hw (⟨(congrArg nI (by unfold nxt; rw [fs_eq (k := 6) (by omega) (fun j hj => hq j (by omega)) (Or.inl rfl), if_neg (by omega)])), rfl⟩) dX4_nextCylinder_52
  · skip
    rw [nI_leI (by omega) (by omega)] at c_13
    have hx1 := xb_lt st hst1 i (by omega)
    refine lv_aload_n hx hb dX4_nextCylinder_16 rfl (lv_at hl 2 rfl) ?_
    refine lv_iload_n hx hb dX4_nextCylinder_17 rfl (lv_at hl 4 rfl) ?_
    refine lv_iconst (v := nI 1) hx hb dX4_nextCylinder_18 (by decide) ?_
    refine lv_iload hx hb dX4_nextCylinder_19 (lv_at hl 0 rfl) ?_
    refine lv_ishl hx hb dX4_nextCylinder_21 ?_
    refine cv_i (show (nI 1) <<< (nI i &&& 31) = nI (1 <<< i) from q_shl 1 i (by first | omega | assumption)) ?_
    refine lv_ixor hx hb dX4_nextCylinder_22 ?_
    refine cv_i (show nI st ^^^ nI (1 <<< i) = nI (st ^^^ (1 <<< i)) from q_xor st (1 <<< i)) ?_
    refine x_callV (As := [.int (nI (st ^^^ (1 <<< i)))]) (rest := []) X hw hl.1 (c_X4_length l D cI cZ wa wv wq dp qu (st ^^^ (1 <<< i)) (by first | assumption | omega)) (cwV 1 hts gX4_nextCylinder_X4_length rfl rfl rfl (by decide +kernel) ⟨Nat.le_of_ble_eq_true rfl, Nat.le_of_ble_eq_true rfl⟩) [0, 1, 2] rfl rfl 0 rfl rfl rfl rfl (Nat.le_of_ble_eq_true rfl) dX4_nextCylinder_23 (by decide) (fun r w1 H locs hp hw1 => ?_)
    obtain ⟨rfl, rfl⟩ := hp
    have hw : WD D A s.heap [(wa, .inr (4, [.ref wv, .ref wq])), (wv, .inl (cI, 64, .inl (mA dp))), (wq, .inl (cI, 64, .inl (iA qu))), (la, .inr (1, [.ref lb, .ref lw, .int (nI nl)])), (lb, .inl (cI, 12, .inl (iA ba))), (lw, .inl (cI, 12, .inl (iA wh)))] H locs := hw1 rfl
    refine lv_iload_n hx hb dX4_nextCylinder_26 rfl (lv_at hl 1 rfl) ?_
    refine lv_iconst (v := nI 1) hx hb dX4_nextCylinder_27 (by decide) ?_
    refine lv_isub hx hb dX4_nextCylinder_28 ?_
    refine lv_icmp_ne (tgt := 45) hx hb dX4_nextCylinder_29 (by decide) (fun c_29 => ?_) (fun c_29 => ?_)
    · skip
      rw [q_mm (by have := hdp (st ^^^ 1 <<< i); omega) (by have := hdp st; omega)] at c_29
      refine lv_iinc (v := nI (i + 1)) (lv' := [(4, .int (nI (i + 1))), (3, .int (mI (dp st))), (0, .ref wa), (1, .ref la), (2, .int (nI st))]) hx hb dX4_nextCylinder_45 hl (k := 0) rfl (nI_add i 1) (by decide) rfl (fun ls hl => ?_)
      refine lv_goto (tgt := 9) hx hb dX4_nextCylinder_48 (by decide) ?_
      exact ih_9 (i + 1) (by show 6 - (i + 1) < 6 - i; omega) ⟨(show (i + 1) ≤ 6 from by omega), (show ∀ j, j < (i + 1) → nxP (alM ba wh nl) dp st j = false from lt_snoc hq (by first | (simp [nxP, c_29]; done) | (simp [nxP, c_39]; done)))⟩ _ _ _ hw (lv_sub hl [0, 1, 2, 3, 4] rfl)
    · skip
      rw [q_mm (by have := hdp (st ^^^ 1 <<< i); omega) (by have := hdp st; omega)] at c_29
      refine lv_aload_n hx hb dX4_nextCylinder_32 rfl (lv_at hl 3 rfl) ?_
      refine lv_iload_n hx hb dX4_nextCylinder_33 rfl (lv_at hl 4 rfl) ?_
      refine lv_iload hx hb dX4_nextCylinder_34 (lv_at hl 0 rfl) ?_
      refine x_callV (As := [.int (nI st), .int (nI i)]) (rest := []) X hw hl.1 (c_X1_allowMove l D cI cZ la lb lw ba wh nl st i (by first | assumption | omega) (by first | assumption | omega) (by first | assumption | omega) (by first | assumption | omega) (by first | assumption | omega)) (cwV 2 hts gX4_nextCylinder_X1_allowMove rfl rfl rfl (by decide +kernel) ⟨Nat.le_of_ble_eq_true rfl, Nat.le_of_ble_eq_true rfl⟩) [3, 4, 5] rfl rfl 0 rfl rfl rfl rfl (Nat.le_of_ble_eq_true rfl) dX4_nextCylinder_36 (by decide) (fun r w1 H locs hp hw1 => ?_)
      obtain ⟨rfl, rfl⟩ := hp
      have hw : WD D A s.heap [(wa, .inr (4, [.ref wv, .ref wq])), (wv, .inl (cI, 64, .inl (mA dp))), (wq, .inl (cI, 64, .inl (iA qu))), (la, .inr (1, [.ref lb, .ref lw, .int (nI nl)])), (lb, .inl (cI, 12, .inl (iA ba))), (lw, .inl (cI, 12, .inl (iA wh)))] H locs := hw1 rfl
      refine lv_if_eq (tgt := 45) hx hb dX4_nextCylinder_39 (by decide) (fun c_39 => ?_) (fun c_39 => ?_)
      · skip
        rw [q_b0] at c_39; try simp only [Bool.not_eq_false, Bool.not_eq_true] at c_39
        refine lv_iinc (v := nI (i + 1)) (lv' := [(4, .int (nI (i + 1))), (3, .int (mI (dp st))), (0, .ref wa), (1, .ref la), (2, .int (nI st))]) hx hb dX4_nextCylinder_45 hl (k := 0) rfl (nI_add i 1) (by decide) rfl (fun ls hl => ?_)
        refine lv_goto (tgt := 9) hx hb dX4_nextCylinder_48 (by decide) ?_
        exact ih_9 (i + 1) (by show 6 - (i + 1) < 6 - i; omega) ⟨(show (i + 1) ≤ 6 from by omega), (show ∀ j, j < (i + 1) → nxP (alM ba wh nl) dp st j = false from lt_snoc hq (by first | (simp [nxP, c_29]; done) | (simp [nxP, c_39]; done)))⟩ _ _ _ hw (lv_sub hl [0, 1, 2, 3, 4] rfl)
      · skip
        rw [q_b0] at c_39; try simp only [Bool.not_eq_false, Bool.not_eq_true] at c_39
        refine lv_iload hx hb dX4_nextCylinder_42 (lv_at hl 0 rfl) ?_
        exact x_iret X hw (⟨(congrArg nI (by unfold nxt; rw [fs_eq (k := i) (by omega) hq (Or.inr (by simp [nxP, c_29, c_39])), if_pos (by omega)])), rfl⟩) dX4_nextCylinder_44
set_option maxHeartbeats 4000000 in
set_option maxRecDepth 100000 in
theorem c_X4_move (l : Launch) (D : va_G) (cI cZ : ClassId) (wa : Nat) (wv : Nat) (wq : Nat) (dp : Nat → Nat) (qu : Nat → Nat) (la : Nat) (lb : Nat) (lw : Nat) (ba : Nat → Nat) (wh : Nat → Nat) (nl : Nat) (st : Nat) (k : Nat) (hnl : nl ≤ 12) (hba : ∀ k, ba k < 12) (hwh : ∀ k, wh k < 12) (hdp : ∀ k, dp k < 1000) (hqu : ∀ k, qu k < 64) (hst1 : st < 64) (hk : k < 2 ^ 31) : MI l D cI cZ yX4_move wsX4_move ({ frames := 5, cells := 0, slots := 0, locals := 114 }) [.ref wa, .ref la, .int (nI st), .int (nI k)] [(wa, .inr (4, [.ref wv, .ref wq])), (wv, .inl (cI, 64, .inl (mA dp))), (wq, .inl (cI, 64, .inl (iA qu))), (la, .inr (1, [.ref lb, .ref lw, .int (nI nl)])), (lb, .inl (cI, 12, .inl (iA ba))), (lw, .inl (cI, 12, .inl (iA wh)))] (fun r w => r = (mvC (alM ba wh nl) dp st k) ∧ w = [(wa, .inr (4, [.ref wv, .ref wq])), (wv, .inl (cI, 64, .inl (mA dp))), (wq, .inl (cI, 64, .inl (iA qu))), (la, .inr (1, [.ref lb, .ref lw, .int (nI nl)])), (lb, .inl (cI, 12, .inl (iA ba))), (lw, .inl (cI, 12, .inl (iA wh)))]) := by
  refine MI.of (cc := cX4_move) (maxL := 6) (ret := (some .int)) (own := RX4) (by decide) rfl rfl (Nat.le_of_ble_eq_true rfl) ?_
  intro pQ eQ s mQ args below meth cQ A X hw ls hl
  obtain ⟨⟨hx, hb, hml, hown, hts⟩, hr, hlk, hK, hN, hA⟩ := id X
  have hl : lv_has ls 6 [(0, .ref wa), (1, .ref la), (2, .int (nI st)), (3, .int (nI k))] := hl
  refine lv_iload_n hx hb dX4_move_0 rfl (lv_at hl 3 rfl) ?_
  refine lv_aload_n hx hb dX4_move_1 rfl (lv_at hl 0 rfl) ?_
  refine lv_iload_n hx hb dX4_move_2 rfl (lv_at hl 2 rfl) ?_
  refine x_callV (As := [.int (nI st)]) (rest := [.int (nI k)]) X hw hl.1 (c_X4_length l D cI cZ wa wv wq dp qu st (by first | assumption | omega)) (cwV 1 hts gX4_move_X4_length rfl rfl rfl (by decide +kernel) ⟨Nat.le_of_ble_eq_true rfl, Nat.le_of_ble_eq_true rfl⟩) [0, 1, 2] rfl rfl 0 rfl rfl rfl rfl (Nat.le_of_ble_eq_true rfl) dX4_move_3 (by decide) (fun r w1 H locs hp hw1 => ?_)
  obtain ⟨rfl, rfl⟩ := hp
  have hw : WD D A s.heap [(wa, .inr (4, [.ref wv, .ref wq])), (wv, .inl (cI, 64, .inl (mA dp))), (wq, .inl (cI, 64, .inl (iA qu))), (la, .inr (1, [.ref lb, .ref lw, .int (nI nl)])), (lb, .inl (cI, 12, .inl (iA ba))), (lw, .inl (cI, 12, .inl (iA wh)))] H locs := hw1 rfl
  refine lv_icmp_lt (tgt := 11) hx hb dX4_move_6 (by decide) (fun c_6 => ?_) (fun c_6 => ?_)
  · skip
    rw [q_mlt (by omega) (by have := hdp st; omega)] at c_6
    refine lv_iload_n hx hb dX4_move_11 rfl (lv_at hl 2 rfl) ?_
    refine lv_istore (lv' := [(4, .int (nI st)), (0, .ref wa), (1, .ref la), (2, .int (nI st)), (3, .int (nI k))]) hx hb dX4_move_12 hl (by decide) rfl (fun ls hl => ?_)
    refine lv_iconst (v := nI 0) hx hb dX4_move_14 (by decide) ?_
    refine lv_istore (lv' := [(5, .int (nI 0)), (4, .int (nI st)), (0, .ref wa), (1, .ref la), (2, .int (nI st)), (3, .int (nI k))]) hx hb dX4_move_15 hl (by decide) rfl (fun ls hl => ?_)
    refine wl (α := Nat × Nat) (nL := 6) (fun aQ => k - aQ.2) (fun aQ => (aQ.2 ≤ k) ∧ (aQ.1 = wlk (alM ba wh nl) dp st aQ.2)) (fun aQ => [(wa, .inr (4, [.ref wv, .ref wq])), (wv, .inl (cI, 64, .inl (mA dp))), (wq, .inl (cI, 64, .inl (iA qu))), (la, .inr (1, [.ref lb, .ref lw, .int (nI nl)])), (lb, .inl (cI, 12, .inl (iA ba))), (lw, .inl (cI, 12, .inl (iA wh)))]) (fun aQ => [(5, .int (nI aQ.2)), (4, .int (nI aQ.1)), (0, .ref wa), (1, .ref la), (2, .int (nI st)), (3, .int (nI k))]) ?_ (st, 0) ⟨(show 0 ≤ k from by omega), (show st = wlk (alM ba wh nl) dp st 0 from rfl)⟩ _ _ _ hw (lv_sub hl [0, 1, 2, 3, 4, 5] rfl)
    rintro ⟨a, i⟩ ⟨hi, ha⟩ H locs ls hw hl ih_17
    have hi : i ≤ k := hi
    have ha : a = wlk (alM ba wh nl) dp st i := ha
    have hw : WD D A s.heap [(wa, .inr (4, [.ref wv, .ref wq])), (wv, .inl (cI, 64, .inl (mA dp))), (wq, .inl (cI, 64, .inl (iA qu))), (la, .inr (1, [.ref lb, .ref lw, .int (nI nl)])), (lb, .inl (cI, 12, .inl (iA ba))), (lw, .inl (cI, 12, .inl (iA wh)))] H locs := hw
    have hl : lv_has ls 6 [(5, .int (nI i)), (4, .int (nI a)), (0, .ref wa), (1, .ref la), (2, .int (nI st)), (3, .int (nI k))] := hl
    have ha64 : a < 64 := by rw [ha]; exact wlk_lt _ _ hst1 i
    have hn6 := nxt_lt (alM ba wh nl) dp a
    refine lv_iload hx hb dX4_move_17 (lv_at hl 0 rfl) ?_
    refine lv_iload_n hx hb dX4_move_19 rfl (lv_at hl 5 rfl) ?_
    refine lv_icmp_ge (tgt := 43) hx hb dX4_move_20 (by decide) (fun c_20 => ?_) (fun c_20 => ?_)
    · skip
      rw [nI_leI (by omega) (by omega)] at c_20
      refine lv_aload_n hx hb dX4_move_43 rfl (lv_at hl 2 rfl) ?_
      refine lv_aload_n hx hb dX4_move_44 rfl (lv_at hl 3 rfl) ?_
      refine lv_iload hx hb dX4_move_45 (lv_at hl 1 rfl) ?_
      refine x_callV (As := [.ref la, .int (nI a)]) (rest := []) X hw hl.1 (c_X4_nextCylinder l D cI cZ wa wv wq dp qu la lb lw ba wh nl a (by first | assumption | omega) (by first | assumption | omega) (by first | assumption | omega) (by first | assumption | omega) (by first | assumption | omega) (by first | assumption | omega)) (cwV 2 hts gX4_move_X4_nextCylinder rfl rfl rfl (by decide +kernel) ⟨Nat.le_of_ble_eq_true rfl, Nat.le_of_ble_eq_true rfl⟩) [0, 1, 2, 3, 4, 5] rfl rfl 0 rfl rfl rfl rfl (Nat.le_of_ble_eq_true rfl) dX4_move_47 (by decide) (fun r w1 H locs hp hw1 => ?_)
      obtain ⟨rfl, rfl⟩ := hp
      have hw : WD D A s.heap [(wa, .inr (4, [.ref wv, .ref wq])), (wv, .inl (cI, 64, .inl (mA dp))), (wq, .inl (cI, 64, .inl (iA qu))), (la, .inr (1, [.ref lb, .ref lw, .int (nI nl)])), (lb, .inl (cI, 12, .inl (iA ba))), (lw, .inl (cI, 12, .inl (iA wh)))] H locs := hw1 rfl
      refine lv_istore (lv' := [(5, .int (nI (nxt (alM ba wh nl) dp a))), (4, .int (nI a)), (0, .ref wa), (1, .ref la), (2, .int (nI st)), (3, .int (nI k))]) hx hb dX4_move_50 hl (by decide) rfl (fun ls hl => ?_)
      refine lv_iload hx hb dX4_move_52 (lv_at hl 1 rfl) ?_
      refine lv_iload hx hb dX4_move_54 (lv_at hl 0 rfl) ?_
      refine x_callN (As := [.int (nI a), .int (nI (nxt (alM ba wh nl) dp a))]) (rest := []) (host := RX5) (n := 2) X hw hl.1 (c_X5_has l D cI cZ a (nxt (alM ba wh nl) dp a) (by first | assumption | omega) (by first | assumption | omega)) gX4_move_X5_has_n45 rfl rfl rfl (List.mem_of_getElem? (i := 17) rfl) (by decide +kernel) (by decide +kernel) (by decide +kernel) ⟨Nat.le_of_ble_eq_true rfl, Nat.le_of_ble_eq_true rfl⟩ [] rfl rfl rfl (Nat.le_of_ble_eq_true rfl) dX4_move_56 (by decide) (fun r w1 H locs hp hw1 => ?_)
      obtain ⟨rfl, rfl⟩ := hp
      have hw : WD D A s.heap [(wa, .inr (4, [.ref wv, .ref wq])), (wv, .inl (cI, 64, .inl (mA dp))), (wq, .inl (cI, 64, .inl (iA qu))), (la, .inr (1, [.ref lb, .ref lw, .int (nI nl)])), (lb, .inl (cI, 12, .inl (iA ba))), (lw, .inl (cI, 12, .inl (iA wh)))] H locs := hw1 rfl
      refine lv_if_eq (tgt := 67) hx hb dX4_move_59 (by decide) (fun c_59 => ?_) (fun c_59 => ?_)
      · skip
        rw [q_b0] at c_59; try simp only [Bool.not_eq_false, Bool.not_eq_true] at c_59
        refine lv_iload hx hb dX4_move_67 (lv_at hl 0 rfl) ?_
        refine lv_bipush (v := nI 10) hx hb dX4_move_69 (by decide) ?_
        refine lv_iadd hx hb dX4_move_71 ?_
        refine cv_i (show nI (nxt (alM ba wh nl) dp a) + nI 10 = nI ((nxt (alM ba wh nl) dp a) + 10) from nI_add (nxt (alM ba wh nl) dp a) 10) ?_
        exact x_iret X hw (⟨(by rw [show k = i by omega]; unfold mvC; rw [if_pos (by omega), ← ha]; simp [c_59]), rfl⟩) dX4_move_72
      · skip
        rw [q_b0] at c_59; try simp only [Bool.not_eq_false, Bool.not_eq_true] at c_59
        refine lv_iload hx hb dX4_move_62 (lv_at hl 0 rfl) ?_
        refine lv_goto (tgt := 72) hx hb dX4_move_64 (by decide) ?_
        exact x_iret X hw (⟨(by rw [show k = i by omega]; unfold mvC; rw [if_pos (by omega), ← ha]; simp [c_59]), rfl⟩) dX4_move_72
    · skip
      rw [nI_leI (by omega) (by omega)] at c_20
      refine lv_iload hx hb dX4_move_23 (lv_at hl 1 rfl) ?_
      refine lv_iconst (v := nI 1) hx hb dX4_move_25 (by decide) ?_
      refine lv_aload_n hx hb dX4_move_26 rfl (lv_at hl 2 rfl) ?_
      refine lv_aload_n hx hb dX4_move_27 rfl (lv_at hl 3 rfl) ?_
      refine lv_iload hx hb dX4_move_28 (lv_at hl 1 rfl) ?_
      refine x_callV (As := [.ref la, .int (nI a)]) (rest := [.int (nI 1), .int (nI a)]) X hw hl.1 (c_X4_nextCylinder l D cI cZ wa wv wq dp qu la lb lw ba wh nl a (by first | assumption | omega) (by first | assumption | omega) (by first | assumption | omega) (by first | assumption | omega) (by first | assumption | omega) (by first | assumption | omega)) (cwV 2 hts gX4_move_X4_nextCylinder rfl rfl rfl (by decide +kernel) ⟨Nat.le_of_ble_eq_true rfl, Nat.le_of_ble_eq_true rfl⟩) [0, 1, 2, 3, 4, 5] rfl rfl 0 rfl rfl rfl rfl (Nat.le_of_ble_eq_true rfl) dX4_move_30 (by decide) (fun r w1 H locs hp hw1 => ?_)
      obtain ⟨rfl, rfl⟩ := hp
      have hw : WD D A s.heap [(wa, .inr (4, [.ref wv, .ref wq])), (wv, .inl (cI, 64, .inl (mA dp))), (wq, .inl (cI, 64, .inl (iA qu))), (la, .inr (1, [.ref lb, .ref lw, .int (nI nl)])), (lb, .inl (cI, 12, .inl (iA ba))), (lw, .inl (cI, 12, .inl (iA wh)))] H locs := hw1 rfl
      refine lv_ishl hx hb dX4_move_33 ?_
      refine cv_i (show (nI 1) <<< (nI (nxt (alM ba wh nl) dp a) &&& 31) = nI (1 <<< (nxt (alM ba wh nl) dp a)) from q_shl 1 (nxt (alM ba wh nl) dp a) (by first | omega | assumption)) ?_
      refine lv_ixor hx hb dX4_move_34 ?_
      refine cv_i (show nI a ^^^ nI (1 <<< (nxt (alM ba wh nl) dp a)) = nI (a ^^^ (1 <<< (nxt (alM ba wh nl) dp a))) from q_xor a (1 <<< (nxt (alM ba wh nl) dp a))) ?_
      refine lv_istore (lv' := [(4, .int (nI (a ^^^ (1 <<< (nxt (alM ba wh nl) dp a))))), (5, .int (nI i)), (0, .ref wa), (1, .ref la), (2, .int (nI st)), (3, .int (nI k))]) hx hb dX4_move_35 hl (by decide) rfl (fun ls hl => ?_)
      refine lv_iinc (v := nI (i + 1)) (lv' := [(5, .int (nI (i + 1))), (4, .int (nI (a ^^^ (1 <<< (nxt (alM ba wh nl) dp a))))), (0, .ref wa), (1, .ref la), (2, .int (nI st)), (3, .int (nI k))]) hx hb dX4_move_37 hl (k := 1) rfl (nI_add i 1) (by decide) rfl (fun ls hl => ?_)
      refine lv_goto (tgt := 17) hx hb dX4_move_40 (by decide) ?_
      exact ih_17 (a ^^^ (1 <<< (nxt (alM ba wh nl) dp a)), i + 1) (by show k - (i + 1) < k - i; omega) ⟨(show (i + 1) ≤ k from by omega), (show (a ^^^ (1 <<< (nxt (alM ba wh nl) dp a))) = wlk (alM ba wh nl) dp st (i + 1) from by rw [ha]; rfl)⟩ _ _ _ hw (lv_sub hl [0, 1, 2, 3, 4, 5] rfl)
  · skip
    rw [q_mlt (by omega) (by have := hdp st; omega)] at c_6
    refine lv_iconst (v := (-1)) hx hb dX4_move_9 (by decide) ?_
    exact x_iret X hw (⟨(by unfold mvC; rw [if_neg (by omega)]), rfl⟩) dX4_move_10
