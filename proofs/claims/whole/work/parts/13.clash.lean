/-! ===== AirSteps: clashes ===== -/
def trg (en st : Nat → Nat) (n j k : Nat) : Bool := decide (anN (en (pr n j)) (sen (st k)) = 0)
def psh (en st cu : Nat → Nat) (n sz wy j k : Nat) : Bool := if wy = 0 then trg en st n j k else (decide (grp cu sz j = grp cu sz k) && (isF cu sz j || trg en st n j k))
def pus (en st cu : Nat → Nat) (n sz wy k i : Nat) : Nat := fo (fun j a => if psh en st cu n sz wy j k then a ||| en j else a) 0 i
theorem pus_lt {en st cu : Nat → Nat} {n sz wy k : Nat} (h : ∀ j, en j < 4096) : ∀ i : Nat, pus en st cu n sz wy k i < 4096
  | 0 => by show 0 < 4096; omega
  | i + 1 => by
    have h1 := pus_lt (st := st) (cu := cu) (n := n) (sz := sz) (wy := wy) (k := k) h i
    show (if psh en st cu n sz wy i k then pus en st cu n sz wy k i ||| en i else pus en st cu n sz wy k i) < 4096
    split
    · exact Nat.or_lt_two_pow (n := 12) h1 (h i)
    · exact h1
def clsE (e pu : Nat) : Nat := ((e >>> 6) &&& (pu &&& 63)) ||| ((e &&& 63) &&& (pu >>> 6))
theorem clsE_lt (e pu : Nat) (he : e < 4096) : clsE e pu < 64 := by
  refine Nat.or_lt_two_pow (n := 6) (Nat.lt_of_le_of_lt Nat.and_le_left ?_) (Nat.lt_of_le_of_lt Nat.and_le_left (Nat.lt_of_le_of_lt Nat.and_le_right (by decide)))
  rw [Nat.shiftRight_eq_div_pow]
  omega
def cls (en st cu : Nat → Nat) (n sz wy k : Nat) : Nat := clsE (en k) (pus en st cu n sz wy k n)
def clP (en st cu : Nat → Nat) (n sz wy k : Nat) : Bool := decide (¬ cls en st cu n sz wy k = 0)
theorem fwC_pos {en st : Nat → Nat} {n : Nat} (h : fwC en st n = -1) : 0 < n := by
  rcases Nat.eq_zero_or_pos n with q | q
  · subst q
    exact absurd h (by unfold fwC; rw [if_neg (Nat.not_lt_zero _), if_pos (Or.inl rfl)]; decide)
  · exact q
set_option maxHeartbeats 4000000 in
set_option maxRecDepth 100000 in
theorem c_X5_isPushed (l : Launch) (D : va_G) (cI cZ : ClassId) (ax : Nat) (t : Nat) (ga : Nat) (la : Nat) (wa : Nat) (pa : Nat) (te : Nat) (ts : Nat) (en : Nat → Nat) (st : Nat → Nat) (n : Nat) (gc : Nat) (gn : Nat) (cu : Nat → Nat) (ne : Nat → Nat) (sz : Nat) (wy : Nat) (j : Nat) (k : Nat) (hn : n ≤ 16) (hen : ∀ k, en k < 4096) (hst : ∀ k, st k < 64) (hsz : sz ≤ 16) (hcu : ∀ k, cu k < 16) (hgz : wy = 1 → 1 ≤ sz) (hwy : wy < 2) (hj : j < n) (hk : k < n) : MI l D cI cZ yX5_isPushed wsX5_isPushed ({ frames := 3, cells := 0, slots := 0, locals := 63 }) [.ref ax, .int (nI wy), .int (nI j), .int (nI k)] [(ax, .inr (5, [.ref t, .ref ga, .ref la, .ref wa, .ref pa])), (t, .inr (3, [.ref te, .ref ts, .int (nI n)])), (te, .inl (cI, 16, .inl (iA en))), (ts, .inl (cI, 17, .inl (iA st))), (ga, .inr (0, [.ref gc, .ref gn, .int (nI sz)])), (gc, .inl (cI, 16, .inl (iA cu))), (gn, .inl (cI, 16, .inl (iA ne)))] (fun r w => r = (bI (psh en st cu n sz wy j k)) ∧ w = [(ax, .inr (5, [.ref t, .ref ga, .ref la, .ref wa, .ref pa])), (t, .inr (3, [.ref te, .ref ts, .int (nI n)])), (te, .inl (cI, 16, .inl (iA en))), (ts, .inl (cI, 17, .inl (iA st))), (ga, .inr (0, [.ref gc, .ref gn, .int (nI sz)])), (gc, .inl (cI, 16, .inl (iA cu))), (gn, .inl (cI, 16, .inl (iA ne)))]) := by
  refine MI.of (cc := cX5_isPushed) (maxL := 5) (ret := (some .boolean)) (own := RX5) (by decide) rfl rfl (Nat.le_of_ble_eq_true rfl) ?_
  intro pQ eQ s mQ args below meth cQ A X hw ls hl
  obtain ⟨⟨hx, hb, hml, hown, hts⟩, hr, hlk, hK, hN, hA⟩ := id X
  have hl : lv_has ls 5 [(0, .ref ax), (1, .int (nI wy)), (2, .int (nI j)), (3, .int (nI k))] := hl
  have n5 : ∀ w ∈ wsX50, w ∈ wsX5_isPushed := by decide +kernel
  have f10 : FF args s RX5 wsX5_isPushed 10 5 0 := ⟨_, rfl, by decide, n5, hts (.fieldLink RX5 10 "AirSteps" "text" "LAirSteps$Text;") (by decide +kernel)⟩
  have f19 : FF args s RX5 wsX5_isPushed 19 5 1 := ⟨_, rfl, by decide, n5, hts (.fieldLink RX5 19 "AirSteps" "rows" "LAirSteps$Groups;") (by decide +kernel)⟩
  refine wj (α := Bool) (nL := 5) 30 (fun aQ => (aQ = trg en st n j k)) (fun aQ => [(ax, .inr (5, [.ref t, .ref ga, .ref la, .ref wa, .ref pa])), (t, .inr (3, [.ref te, .ref ts, .int (nI n)])), (te, .inl (cI, 16, .inl (iA en))), (ts, .inl (cI, 17, .inl (iA st))), (ga, .inr (0, [.ref gc, .ref gn, .int (nI sz)])), (gc, .inl (cI, 16, .inl (iA cu))), (gn, .inl (cI, 16, .inl (iA ne)))]) (fun aQ => [(0, .ref ax), (1, .int (nI wy)), (2, .int (nI j)), (3, .int (nI k))]) (fun aQ => [.int (bI aQ)]) (D := D) (A := A) (H0 := s.heap) (fun J30 => ?_) ?_
  · skip
    refine lv_aload_n hx hb dX5_isPushed_0 rfl (lv_at hl 0 rfl) ?_
    refine x_get X hw f10 0 rfl rfl dX5_isPushed_1 ?_
    refine lv_iload_n hx hb dX5_isPushed_4 rfl (lv_at hl 2 rfl) ?_
    refine x_callV (As := [.int (nI j)]) (rest := []) X hw hl.1 (c_X3_trigger l D cI cZ t te ts en st n j (by first | assumption | omega) (by first | assumption | omega) (by first | assumption | omega) (by first | assumption | omega)) (cwV 1 hts gX5_isPushed_X3_trigger rfl rfl rfl (by decide +kernel) ⟨Nat.le_of_ble_eq_true rfl, Nat.le_of_ble_eq_true rfl⟩) [1, 2, 3] rfl rfl 0 rfl rfl rfl rfl (Nat.le_of_ble_eq_true rfl) dX5_isPushed_5 (by decide) (fun r w1 H locs hp hw1 => ?_)
    obtain ⟨rfl, rfl⟩ := hp
    have hw : WD D A s.heap [(ax, .inr (5, [.ref t, .ref ga, .ref la, .ref wa, .ref pa])), (t, .inr (3, [.ref te, .ref ts, .int (nI n)])), (te, .inl (cI, 16, .inl (iA en))), (ts, .inl (cI, 17, .inl (iA st))), (ga, .inr (0, [.ref gc, .ref gn, .int (nI sz)])), (gc, .inl (cI, 16, .inl (iA cu))), (gn, .inl (cI, 16, .inl (iA ne)))] H locs := hw1 rfl
    refine lv_aload_n hx hb dX5_isPushed_8 rfl (lv_at hl 0 rfl) ?_
    refine x_get X hw f10 0 rfl rfl dX5_isPushed_9 ?_
    refine lv_iload_n hx hb dX5_isPushed_12 rfl (lv_at hl 3 rfl) ?_
    refine x_callV (As := [.int (nI k)]) (rest := [.int (nI (en (pr n j)))]) X hw hl.1 (c_X3_stateAt l D cI cZ t te ts en st n k (by first | assumption | omega) (by first | assumption | omega) (by first | assumption | omega) (by first | assumption | omega)) (cwV 1 hts gX5_isPushed_X3_stateAt rfl rfl rfl (by decide +kernel) ⟨Nat.le_of_ble_eq_true rfl, Nat.le_of_ble_eq_true rfl⟩) [1, 2, 3] rfl rfl 0 rfl rfl rfl rfl (Nat.le_of_ble_eq_true rfl) dX5_isPushed_13 (by decide) (fun r w1 H locs hp hw1 => ?_)
    obtain ⟨rfl, rfl⟩ := hp
    have hw : WD D A s.heap [(ax, .inr (5, [.ref t, .ref ga, .ref la, .ref wa, .ref pa])), (t, .inr (3, [.ref te, .ref ts, .int (nI n)])), (te, .inl (cI, 16, .inl (iA en))), (ts, .inl (cI, 17, .inl (iA st))), (ga, .inr (0, [.ref gc, .ref gn, .int (nI sz)])), (gc, .inl (cI, 16, .inl (iA cu))), (gn, .inl (cI, 16, .inl (iA ne)))] H locs := hw1 rfl
    refine x_callS (As := [.int (nI (st k))]) (rest := [.int (nI (en (pr n j)))]) X hw hl.1 (c_X5_sensorsOn l D cI cZ (st k) ) (va_cwS 1 hts gX5_isPushed_X5_sensorsOn rfl rfl rfl (by decide +kernel) ⟨Nat.le_of_ble_eq_true rfl, Nat.le_of_ble_eq_true rfl⟩) [] rfl rfl rfl (Nat.le_of_ble_eq_true rfl) dX5_isPushed_16 (by decide) (fun r w1 H locs hp hw1 => ?_)
    obtain ⟨rfl, rfl⟩ := hp
    have hw : WD D A s.heap [(ax, .inr (5, [.ref t, .ref ga, .ref la, .ref wa, .ref pa])), (t, .inr (3, [.ref te, .ref ts, .int (nI n)])), (te, .inl (cI, 16, .inl (iA en))), (ts, .inl (cI, 17, .inl (iA st))), (ga, .inr (0, [.ref gc, .ref gn, .int (nI sz)])), (gc, .inl (cI, 16, .inl (iA cu))), (gn, .inl (cI, 16, .inl (iA ne)))] H locs := hw1 rfl
    refine lv_iconst (v := (-1)) hx hb dX5_isPushed_19 (by decide) ?_
    refine lv_ixor hx hb dX5_isPushed_20 ?_
    refine lv_iand hx hb dX5_isPushed_21 ?_
    refine cv_i (show nI (en (pr n j)) &&& (nI (sen (st k)) ^^^ (-1 : Int32)) = nI (anN (en (pr n j)) (sen (st k))) from q_anR (en (pr n j)) (sen (st k))) ?_
    refine lv_if_ne (tgt := 29) hx hb dX5_isPushed_22 (by decide) (fun c_22 => ?_) (fun c_22 => ?_)
    · skip
      rw [q_eq0 (Nat.lt_of_lt_of_le (anN_lt (k := 12) (hen _)) (by decide))] at c_22
      refine lv_iconst (v := nI 0) hx hb dX5_isPushed_29 (by decide) ?_
      refine cv_i (show nI 0 = bI false from by decide) ?_
      exact J30 false (show false = trg en st n j k from by simp [trg, c_22]) _ _ _ hw (lv_sub hl [0, 1, 2, 3] rfl)
    · skip
      rw [q_eq0 (Nat.lt_of_lt_of_le (anN_lt (k := 12) (hen _)) (by decide))] at c_22
      refine lv_iconst (v := nI 1) hx hb dX5_isPushed_25 (by decide) ?_
      refine lv_goto (tgt := 30) hx hb dX5_isPushed_26 (by decide) ?_
      refine cv_i (show nI 1 = bI true from by decide) ?_
      exact J30 true (show true = trg en st n j k from by simp [trg, c_22]) _ _ _ hw (lv_sub hl [0, 1, 2, 3] rfl)
  · rintro b hb9 H locs ls hw hl
    have hb9 : b = trg en st n j k := hb9
    have hw : WD D A s.heap [(ax, .inr (5, [.ref t, .ref ga, .ref la, .ref wa, .ref pa])), (t, .inr (3, [.ref te, .ref ts, .int (nI n)])), (te, .inl (cI, 16, .inl (iA en))), (ts, .inl (cI, 17, .inl (iA st))), (ga, .inr (0, [.ref gc, .ref gn, .int (nI sz)])), (gc, .inl (cI, 16, .inl (iA cu))), (gn, .inl (cI, 16, .inl (iA ne)))] H locs := hw
    have hl : lv_has ls 5 [(0, .ref ax), (1, .int (nI wy)), (2, .int (nI j)), (3, .int (nI k))] := hl
    refine lv_istore (lv' := [(4, .int (bI b)), (0, .ref ax), (1, .int (nI wy)), (2, .int (nI j)), (3, .int (nI k))]) hx hb dX5_isPushed_30 hl (by decide) rfl (fun ls hl => ?_)
    refine lv_iload_n hx hb dX5_isPushed_32 rfl (lv_at hl 2 rfl) ?_
    refine lv_if_ne (tgt := 39) hx hb dX5_isPushed_33 (by decide) (fun c_33 => ?_) (fun c_33 => ?_)
    · skip
      rw [q_eq0 (by omega)] at c_33
      refine lv_aload_n hx hb dX5_isPushed_39 rfl (lv_at hl 1 rfl) ?_
      refine x_get X hw f19 0 rfl rfl dX5_isPushed_40 ?_
      refine lv_iload_n hx hb dX5_isPushed_43 rfl (lv_at hl 3 rfl) ?_
      refine x_callV (As := [.int (nI j)]) (rest := []) X hw hl.1 (c_X0_groupOf l D cI cZ ga gc gn cu ne sz j (by first | assumption | omega) (hgz (by omega)) (by first | assumption | omega) (by first | assumption | omega)) (cwV 1 hts gX5_isPushed_X0_groupOf rfl rfl rfl (by decide +kernel) ⟨Nat.le_of_ble_eq_true rfl, Nat.le_of_ble_eq_true rfl⟩) [4, 5, 6] rfl rfl 0 rfl rfl rfl rfl (Nat.le_of_ble_eq_true rfl) dX5_isPushed_44 (by decide) (fun r w1 H locs hp hw1 => ?_)
      obtain ⟨rfl, rfl⟩ := hp
      have hw : WD D A s.heap [(ax, .inr (5, [.ref t, .ref ga, .ref la, .ref wa, .ref pa])), (t, .inr (3, [.ref te, .ref ts, .int (nI n)])), (te, .inl (cI, 16, .inl (iA en))), (ts, .inl (cI, 17, .inl (iA st))), (ga, .inr (0, [.ref gc, .ref gn, .int (nI sz)])), (gc, .inl (cI, 16, .inl (iA cu))), (gn, .inl (cI, 16, .inl (iA ne)))] H locs := hw1 rfl
      have hg1 := grp_le cu (sz := sz) j
      refine lv_aload_n hx hb dX5_isPushed_47 rfl (lv_at hl 1 rfl) ?_
      refine x_get X hw f19 0 rfl rfl dX5_isPushed_48 ?_
      refine lv_iload_n hx hb dX5_isPushed_51 rfl (lv_at hl 4 rfl) ?_
      refine x_callV (As := [.int (nI k)]) (rest := [.int (nI (grp cu sz j))]) X hw hl.1 (c_X0_groupOf l D cI cZ ga gc gn cu ne sz k (by first | assumption | omega) (hgz (by omega)) (by first | assumption | omega) (by first | assumption | omega)) (cwV 1 hts gX5_isPushed_X0_groupOf rfl rfl rfl (by decide +kernel) ⟨Nat.le_of_ble_eq_true rfl, Nat.le_of_ble_eq_true rfl⟩) [4, 5, 6] rfl rfl 0 rfl rfl rfl rfl (Nat.le_of_ble_eq_true rfl) dX5_isPushed_52 (by decide) (fun r w1 H locs hp hw1 => ?_)
      obtain ⟨rfl, rfl⟩ := hp
      have hw : WD D A s.heap [(ax, .inr (5, [.ref t, .ref ga, .ref la, .ref wa, .ref pa])), (t, .inr (3, [.ref te, .ref ts, .int (nI n)])), (te, .inl (cI, 16, .inl (iA en))), (ts, .inl (cI, 17, .inl (iA st))), (ga, .inr (0, [.ref gc, .ref gn, .int (nI sz)])), (gc, .inl (cI, 16, .inl (iA cu))), (gn, .inl (cI, 16, .inl (iA ne)))] H locs := hw1 rfl
      have hg2 := grp_le cu (sz := sz) k
      refine lv_icmp_ne (tgt := 78) hx hb dX5_isPushed_55 (by decide) (fun c_55 => ?_) (fun c_55 => ?_)
      · skip
        rw [nI_eq (by omega) (by omega)] at c_55
        refine lv_iconst (v := nI 0) hx hb dX5_isPushed_78 (by decide) ?_
        refine cv_i (show nI 0 = bI false from by decide) ?_
        exact x_zret X hw (⟨(congrArg bI (by unfold psh; rw [if_neg (by omega), ← hb9]; simp [c_33, c_55])), rfl⟩) dX5_isPushed_79
      · skip
        rw [nI_eq (by omega) (by omega)] at c_55
        refine lv_aload_n hx hb dX5_isPushed_58 rfl (lv_at hl 1 rfl) ?_
        refine x_get X hw f19 0 rfl rfl dX5_isPushed_59 ?_
        refine lv_iload_n hx hb dX5_isPushed_62 rfl (lv_at hl 3 rfl) ?_
        refine x_callV (As := [.int (nI j)]) (rest := []) X hw hl.1 (c_X0_isFirst l D cI cZ ga gc gn cu ne sz j (by first | assumption | omega) (by first | assumption | omega) (by first | assumption | omega)) (cwV 1 hts gX5_isPushed_X0_isFirst rfl rfl rfl (by decide +kernel) ⟨Nat.le_of_ble_eq_true rfl, Nat.le_of_ble_eq_true rfl⟩) [4, 5, 6] rfl rfl 0 rfl rfl rfl rfl (Nat.le_of_ble_eq_true rfl) dX5_isPushed_63 (by decide) (fun r w1 H locs hp hw1 => ?_)
        obtain ⟨rfl, rfl⟩ := hp
        have hw : WD D A s.heap [(ax, .inr (5, [.ref t, .ref ga, .ref la, .ref wa, .ref pa])), (t, .inr (3, [.ref te, .ref ts, .int (nI n)])), (te, .inl (cI, 16, .inl (iA en))), (ts, .inl (cI, 17, .inl (iA st))), (ga, .inr (0, [.ref gc, .ref gn, .int (nI sz)])), (gc, .inl (cI, 16, .inl (iA cu))), (gn, .inl (cI, 16, .inl (iA ne)))] H locs := hw1 rfl
        refine lv_if_ne (tgt := 74) hx hb dX5_isPushed_66 (by decide) (fun c_66 => ?_) (fun c_66 => ?_)
        · skip
          rw [q_b0] at c_66; try simp only [Bool.not_eq_false, Bool.not_eq_true] at c_66
          refine lv_iconst (v := nI 1) hx hb dX5_isPushed_74 (by decide) ?_
          refine lv_goto (tgt := 79) hx hb dX5_isPushed_75 (by decide) ?_
          refine cv_i (show nI 1 = bI true from by decide) ?_
          exact x_zret X hw (⟨(congrArg bI (by unfold psh; rw [if_neg (by omega), ← hb9]; simp [c_33, c_55, c_66])), rfl⟩) dX5_isPushed_79
        · skip
          rw [q_b0] at c_66; try simp only [Bool.not_eq_false, Bool.not_eq_true] at c_66
          refine lv_iload hx hb dX5_isPushed_69 (lv_at hl 0 rfl) ?_
          refine lv_if_eq (tgt := 78) hx hb dX5_isPushed_71 (by decide) (fun c_71 => ?_) (fun c_71 => ?_)
          · skip
            rw [q_b0] at c_71; try simp only [Bool.not_eq_false, Bool.not_eq_true] at c_71
            refine lv_iconst (v := nI 0) hx hb dX5_isPushed_78 (by decide) ?_
            refine cv_i (show nI 0 = bI false from by decide) ?_
            exact x_zret X hw (⟨(congrArg bI (by unfold psh; rw [if_neg (by omega), ← hb9]; simp [c_33, c_55, c_66, c_71])), rfl⟩) dX5_isPushed_79
          · skip
            rw [q_b0] at c_71; try simp only [Bool.not_eq_false, Bool.not_eq_true] at c_71
            refine lv_iconst (v := nI 1) hx hb dX5_isPushed_74 (by decide) ?_
            refine lv_goto (tgt := 79) hx hb dX5_isPushed_75 (by decide) ?_
            refine cv_i (show nI 1 = bI true from by decide) ?_
            exact x_zret X hw (⟨(congrArg bI (by unfold psh; rw [if_neg (by omega), ← hb9]; simp [c_33, c_55, c_66, c_71])), rfl⟩) dX5_isPushed_79
    · skip
      rw [q_eq0 (by omega)] at c_33
      refine lv_iload hx hb dX5_isPushed_36 (lv_at hl 0 rfl) ?_
      exact x_zret X hw (⟨(by unfold psh; rw [if_pos c_33, hb9]), rfl⟩) dX5_isPushed_38
set_option maxHeartbeats 4000000 in
set_option maxRecDepth 100000 in
theorem c_X5_clashing (l : Launch) (D : va_G) (cI cZ : ClassId) (ax : Nat) (t : Nat) (ga : Nat) (la : Nat) (wa : Nat) (pa : Nat) (te : Nat) (ts : Nat) (en : Nat → Nat) (st : Nat → Nat) (n : Nat) (gc : Nat) (gn : Nat) (cu : Nat → Nat) (ne : Nat → Nat) (sz : Nat) (wy : Nat) (k : Nat) (hn : n ≤ 16) (hen : ∀ k, en k < 4096) (hst : ∀ k, st k < 64) (hsz : sz ≤ 16) (hcu : ∀ k, cu k < 16) (hgz : wy = 1 → 1 ≤ sz) (hwy : wy < 2) (hk : k < n) : MI l D cI cZ yX5_clashing wsX5_clashing ({ frames := 4, cells := 0, slots := 0, locals := 87 }) [.ref ax, .int (nI wy), .int (nI k)] [(ax, .inr (5, [.ref t, .ref ga, .ref la, .ref wa, .ref pa])), (t, .inr (3, [.ref te, .ref ts, .int (nI n)])), (te, .inl (cI, 16, .inl (iA en))), (ts, .inl (cI, 17, .inl (iA st))), (ga, .inr (0, [.ref gc, .ref gn, .int (nI sz)])), (gc, .inl (cI, 16, .inl (iA cu))), (gn, .inl (cI, 16, .inl (iA ne)))] (fun r w => r = (nI (cls en st cu n sz wy k)) ∧ w = [(ax, .inr (5, [.ref t, .ref ga, .ref la, .ref wa, .ref pa])), (t, .inr (3, [.ref te, .ref ts, .int (nI n)])), (te, .inl (cI, 16, .inl (iA en))), (ts, .inl (cI, 17, .inl (iA st))), (ga, .inr (0, [.ref gc, .ref gn, .int (nI sz)])), (gc, .inl (cI, 16, .inl (iA cu))), (gn, .inl (cI, 16, .inl (iA ne)))]) := by
  refine MI.of (cc := cX5_clashing) (maxL := 5) (ret := (some .int)) (own := RX5) (by decide) rfl rfl (Nat.le_of_ble_eq_true rfl) ?_
  intro pQ eQ s mQ args below meth cQ A X hw ls hl
  obtain ⟨⟨hx, hb, hml, hown, hts⟩, hr, hlk, hK, hN, hA⟩ := id X
  have hl : lv_has ls 5 [(0, .ref ax), (1, .int (nI wy)), (2, .int (nI k))] := hl
  have n5 : ∀ w ∈ wsX50, w ∈ wsX5_clashing := by decide +kernel
  have f10 : FF args s RX5 wsX5_clashing 10 5 0 := ⟨_, rfl, by decide, n5, hts (.fieldLink RX5 10 "AirSteps" "text" "LAirSteps$Text;") (by decide +kernel)⟩
  refine lv_iconst (v := nI 0) hx hb dX5_clashing_0 (by decide) ?_
  refine lv_istore_n (lv' := [(3, .int (nI 0)), (0, .ref ax), (1, .int (nI wy)), (2, .int (nI k))]) hx hb dX5_clashing_1 rfl hl (by decide) rfl (fun ls hl => ?_)
  refine lv_iconst (v := nI 0) hx hb dX5_clashing_2 (by decide) ?_
  refine lv_istore (lv' := [(4, .int (nI 0)), (3, .int (nI 0)), (0, .ref ax), (1, .int (nI wy)), (2, .int (nI k))]) hx hb dX5_clashing_3 hl (by decide) rfl (fun ls hl => ?_)
  refine wl (α := Nat × Nat) (nL := 5) (fun aQ => n - aQ.2) (fun aQ => (aQ.2 ≤ n) ∧ (aQ.1 = pus en st cu n sz wy k aQ.2)) (fun aQ => [(ax, .inr (5, [.ref t, .ref ga, .ref la, .ref wa, .ref pa])), (t, .inr (3, [.ref te, .ref ts, .int (nI n)])), (te, .inl (cI, 16, .inl (iA en))), (ts, .inl (cI, 17, .inl (iA st))), (ga, .inr (0, [.ref gc, .ref gn, .int (nI sz)])), (gc, .inl (cI, 16, .inl (iA cu))), (gn, .inl (cI, 16, .inl (iA ne)))]) (fun aQ => [(4, .int (nI aQ.2)), (3, .int (nI aQ.1)), (0, .ref ax), (1, .int (nI wy)), (2, .int (nI k))]) ?_ (0, 0) ⟨(show 0 ≤ n from by omega), (show 0 = pus en st cu n sz wy k 0 from rfl)⟩ _ _ _ hw (lv_sub hl [0, 1, 2, 3, 4] rfl)
  rintro ⟨a, i⟩ ⟨hi, ha⟩ H locs ls hw hl ih_5
  have hi : i ≤ n := hi
  have ha : a = pus en st cu n sz wy k i := ha
  have hw : WD D A s.heap [(ax, .inr (5, [.ref t, .ref ga, .ref la, .ref wa, .ref pa])), (t, .inr (3, [.ref te, .ref ts, .int (nI n)])), (te, .inl (cI, 16, .inl (iA en))), (ts, .inl (cI, 17, .inl (iA st))), (ga, .inr (0, [.ref gc, .ref gn, .int (nI sz)])), (gc, .inl (cI, 16, .inl (iA cu))), (gn, .inl (cI, 16, .inl (iA ne)))] H locs := hw
  have hl : lv_has ls 5 [(4, .int (nI i)), (3, .int (nI a)), (0, .ref ax), (1, .int (nI wy)), (2, .int (nI k))] := hl
  have ha4 : a < 4096 := by rw [ha]; exact pus_lt hen i
  refine lv_iload hx hb dX5_clashing_5 (lv_at hl 0 rfl) ?_
  refine lv_aload_n hx hb dX5_clashing_7 rfl (lv_at hl 2 rfl) ?_
  refine x_get X hw f10 0 rfl rfl dX5_clashing_8 ?_
  refine x_callV (As := []) (rest := [.int (nI i)]) X hw hl.1 (c_X3_size l D cI cZ t te ts en st n ) (cwV 0 hts gX5_clashing_X3_size rfl rfl rfl (by decide +kernel) ⟨Nat.le_of_ble_eq_true rfl, Nat.le_of_ble_eq_true rfl⟩) [1, 2, 3] rfl rfl 0 rfl rfl rfl rfl (Nat.le_of_ble_eq_true rfl) dX5_clashing_11 (by decide) (fun r w1 H locs hp hw1 => ?_)
  obtain ⟨rfl, rfl⟩ := hp
  have hw : WD D A s.heap [(ax, .inr (5, [.ref t, .ref ga, .ref la, .ref wa, .ref pa])), (t, .inr (3, [.ref te, .ref ts, .int (nI n)])), (te, .inl (cI, 16, .inl (iA en))), (ts, .inl (cI, 17, .inl (iA st))), (ga, .inr (0, [.ref gc, .ref gn, .int (nI sz)])), (gc, .inl (cI, 16, .inl (iA cu))), (gn, .inl (cI, 16, .inl (iA ne)))] H locs := hw1 rfl
  refine lv_icmp_ge (tgt := 46) hx hb dX5_clashing_14 (by decide) (fun c_14 => ?_) (fun c_14 => ?_)
  · skip
    rw [nI_leI (by omega) (by omega)] at c_14
    refine lv_aload_n hx hb dX5_clashing_46 rfl (lv_at hl 2 rfl) ?_
    refine x_get X hw f10 0 rfl rfl dX5_clashing_47 ?_
    refine lv_iload_n hx hb dX5_clashing_50 rfl (lv_at hl 4 rfl) ?_
    refine x_callV (As := [.int (nI k)]) (rest := []) X hw hl.1 (c_X3_endsOf l D cI cZ t te ts en st n k (by first | assumption | omega) (by first | assumption | omega) (by first | assumption | omega) (by first | assumption | omega)) (cwV 1 hts gX5_clashing_X3_endsOf rfl rfl rfl (by decide +kernel) ⟨Nat.le_of_ble_eq_true rfl, Nat.le_of_ble_eq_true rfl⟩) [1, 2, 3] rfl rfl 0 rfl rfl rfl rfl (Nat.le_of_ble_eq_true rfl) dX5_clashing_51 (by decide) (fun r w1 H locs hp hw1 => ?_)
    obtain ⟨rfl, rfl⟩ := hp
    have hw : WD D A s.heap [(ax, .inr (5, [.ref t, .ref ga, .ref la, .ref wa, .ref pa])), (t, .inr (3, [.ref te, .ref ts, .int (nI n)])), (te, .inl (cI, 16, .inl (iA en))), (ts, .inl (cI, 17, .inl (iA st))), (ga, .inr (0, [.ref gc, .ref gn, .int (nI sz)])), (gc, .inl (cI, 16, .inl (iA cu))), (gn, .inl (cI, 16, .inl (iA ne)))] H locs := hw1 rfl
    have he9 := hen k
    refine lv_istore (lv' := [(4, .int (nI (en k))), (3, .int (nI a)), (0, .ref ax), (1, .int (nI wy)), (2, .int (nI k))]) hx hb dX5_clashing_54 hl (by decide) rfl (fun ls hl => ?_)
    refine lv_iload hx hb dX5_clashing_56 (lv_at hl 0 rfl) ?_
    refine x_callS (As := [.int (nI (en k))]) (rest := []) X hw hl.1 (c_X5_outsOf l D cI cZ (en k) (by first | assumption | omega)) (va_cwS 1 hts gX5_clashing_X5_outsOf rfl rfl rfl (by decide +kernel) ⟨Nat.le_of_ble_eq_true rfl, Nat.le_of_ble_eq_true rfl⟩) [] rfl rfl rfl (Nat.le_of_ble_eq_true rfl) dX5_clashing_58 (by decide) (fun r w1 H locs hp hw1 => ?_)
    obtain ⟨rfl, rfl⟩ := hp
    have hw : WD D A s.heap [(ax, .inr (5, [.ref t, .ref ga, .ref la, .ref wa, .ref pa])), (t, .inr (3, [.ref te, .ref ts, .int (nI n)])), (te, .inl (cI, 16, .inl (iA en))), (ts, .inl (cI, 17, .inl (iA st))), (ga, .inr (0, [.ref gc, .ref gn, .int (nI sz)])), (gc, .inl (cI, 16, .inl (iA cu))), (gn, .inl (cI, 16, .inl (iA ne)))] H locs := hw1 rfl
    refine lv_iload_n hx hb dX5_clashing_61 rfl (lv_at hl 1 rfl) ?_
    refine x_callS (As := [.int (nI a)]) (rest := [.int (nI ((en k) >>> 6))]) X hw hl.1 (c_X5_insOf l D cI cZ a ) (va_cwS 1 hts gX5_clashing_X5_insOf rfl rfl rfl (by decide +kernel) ⟨Nat.le_of_ble_eq_true rfl, Nat.le_of_ble_eq_true rfl⟩) [] rfl rfl rfl (Nat.le_of_ble_eq_true rfl) dX5_clashing_62 (by decide) (fun r w1 H locs hp hw1 => ?_)
    obtain ⟨rfl, rfl⟩ := hp
    have hw : WD D A s.heap [(ax, .inr (5, [.ref t, .ref ga, .ref la, .ref wa, .ref pa])), (t, .inr (3, [.ref te, .ref ts, .int (nI n)])), (te, .inl (cI, 16, .inl (iA en))), (ts, .inl (cI, 17, .inl (iA st))), (ga, .inr (0, [.ref gc, .ref gn, .int (nI sz)])), (gc, .inl (cI, 16, .inl (iA cu))), (gn, .inl (cI, 16, .inl (iA ne)))] H locs := hw1 rfl
    refine lv_iand hx hb dX5_clashing_65 ?_
    refine cv_i (show nI ((en k) >>> 6) &&& nI (a &&& 63) = nI (((en k) >>> 6) &&& (a &&& 63)) from q_and ((en k) >>> 6) (a &&& 63)) ?_
    refine lv_iload hx hb dX5_clashing_66 (lv_at hl 0 rfl) ?_
    refine x_callS (As := [.int (nI (en k))]) (rest := [.int (nI (((en k) >>> 6) &&& (a &&& 63)))]) X hw hl.1 (c_X5_insOf l D cI cZ (en k) ) (va_cwS 1 hts gX5_clashing_X5_insOf rfl rfl rfl (by decide +kernel) ⟨Nat.le_of_ble_eq_true rfl, Nat.le_of_ble_eq_true rfl⟩) [] rfl rfl rfl (Nat.le_of_ble_eq_true rfl) dX5_clashing_68 (by decide) (fun r w1 H locs hp hw1 => ?_)
    obtain ⟨rfl, rfl⟩ := hp
    have hw : WD D A s.heap [(ax, .inr (5, [.ref t, .ref ga, .ref la, .ref wa, .ref pa])), (t, .inr (3, [.ref te, .ref ts, .int (nI n)])), (te, .inl (cI, 16, .inl (iA en))), (ts, .inl (cI, 17, .inl (iA st))), (ga, .inr (0, [.ref gc, .ref gn, .int (nI sz)])), (gc, .inl (cI, 16, .inl (iA cu))), (gn, .inl (cI, 16, .inl (iA ne)))] H locs := hw1 rfl
    refine lv_iload_n hx hb dX5_clashing_71 rfl (lv_at hl 1 rfl) ?_
    refine x_callS (As := [.int (nI a)]) (rest := [.int (nI ((en k) &&& 63)), .int (nI (((en k) >>> 6) &&& (a &&& 63)))]) X hw hl.1 (c_X5_outsOf l D cI cZ a (by first | assumption | omega)) (va_cwS 1 hts gX5_clashing_X5_outsOf rfl rfl rfl (by decide +kernel) ⟨Nat.le_of_ble_eq_true rfl, Nat.le_of_ble_eq_true rfl⟩) [] rfl rfl rfl (Nat.le_of_ble_eq_true rfl) dX5_clashing_72 (by decide) (fun r w1 H locs hp hw1 => ?_)
    obtain ⟨rfl, rfl⟩ := hp
    have hw : WD D A s.heap [(ax, .inr (5, [.ref t, .ref ga, .ref la, .ref wa, .ref pa])), (t, .inr (3, [.ref te, .ref ts, .int (nI n)])), (te, .inl (cI, 16, .inl (iA en))), (ts, .inl (cI, 17, .inl (iA st))), (ga, .inr (0, [.ref gc, .ref gn, .int (nI sz)])), (gc, .inl (cI, 16, .inl (iA cu))), (gn, .inl (cI, 16, .inl (iA ne)))] H locs := hw1 rfl
    refine lv_iand hx hb dX5_clashing_75 ?_
    refine cv_i (show nI ((en k) &&& 63) &&& nI (a >>> 6) = nI (((en k) &&& 63) &&& (a >>> 6)) from q_and ((en k) &&& 63) (a >>> 6)) ?_
    refine lv_ior hx hb dX5_clashing_76 ?_
    refine cv_i (show nI (((en k) >>> 6) &&& (a &&& 63)) ||| nI (((en k) &&& 63) &&& (a >>> 6)) = nI ((((en k) >>> 6) &&& (a &&& 63)) ||| (((en k) &&& 63) &&& (a >>> 6))) from q_or (((en k) >>> 6) &&& (a &&& 63)) (((en k) &&& 63) &&& (a >>> 6))) ?_
    exact x_iret X hw (⟨(by rw [ha, show i = n by omega]; rfl), rfl⟩) dX5_clashing_77
  · skip
    rw [nI_leI (by omega) (by omega)] at c_14
    refine lv_aload_n hx hb dX5_clashing_17 rfl (lv_at hl 2 rfl) ?_
    refine lv_iload_n hx hb dX5_clashing_18 rfl (lv_at hl 3 rfl) ?_
    refine lv_iload hx hb dX5_clashing_19 (lv_at hl 0 rfl) ?_
    refine lv_iload_n hx hb dX5_clashing_21 rfl (lv_at hl 4 rfl) ?_
    refine x_callV (As := [.int (nI wy), .int (nI i), .int (nI k)]) (rest := []) X hw hl.1 (c_X5_isPushed l D cI cZ ax t ga la wa pa te ts en st n gc gn cu ne sz wy i k (by first | assumption | omega) (by first | assumption | omega) (by first | assumption | omega) (by first | assumption | omega) (by first | assumption | omega) (by first | assumption | omega) (by first | assumption | omega) (by first | assumption | omega) (by first | assumption | omega)) (cwV 3 hts gX5_clashing_X5_isPushed rfl rfl rfl (by decide +kernel) ⟨Nat.le_of_ble_eq_true rfl, Nat.le_of_ble_eq_true rfl⟩) [0, 1, 2, 3, 4, 5, 6] rfl rfl 0 rfl rfl rfl rfl (Nat.le_of_ble_eq_true rfl) dX5_clashing_22 (by decide) (fun r w1 H locs hp hw1 => ?_)
    obtain ⟨rfl, rfl⟩ := hp
    have hw : WD D A s.heap [(ax, .inr (5, [.ref t, .ref ga, .ref la, .ref wa, .ref pa])), (t, .inr (3, [.ref te, .ref ts, .int (nI n)])), (te, .inl (cI, 16, .inl (iA en))), (ts, .inl (cI, 17, .inl (iA st))), (ga, .inr (0, [.ref gc, .ref gn, .int (nI sz)])), (gc, .inl (cI, 16, .inl (iA cu))), (gn, .inl (cI, 16, .inl (iA ne)))] H locs := hw1 rfl
    refine lv_if_eq (tgt := 40) hx hb dX5_clashing_25 (by decide) (fun c_25 => ?_) (fun c_25 => ?_)
    · skip
      rw [q_b0] at c_25; try simp only [Bool.not_eq_false, Bool.not_eq_true] at c_25
      refine lv_iinc (v := nI (i + 1)) (lv' := [(4, .int (nI (i + 1))), (3, .int (nI a)), (0, .ref ax), (1, .int (nI wy)), (2, .int (nI k))]) hx hb dX5_clashing_40 hl (k := 0) rfl (nI_add i 1) (by decide) rfl (fun ls hl => ?_)
      refine lv_goto (tgt := 5) hx hb dX5_clashing_43 (by decide) ?_
      exact ih_5 (a, i + 1) (by show n - (i + 1) < n - i; omega) ⟨(show (i + 1) ≤ n from by omega), (show a = pus en st cu n sz wy k (i + 1) from by rw [ha]; simp [pus, fo, c_25])⟩ _ _ _ hw (lv_sub hl [0, 1, 2, 3, 4] rfl)
    · skip
      rw [q_b0] at c_25; try simp only [Bool.not_eq_false, Bool.not_eq_true] at c_25
      refine lv_iload_n hx hb dX5_clashing_28 rfl (lv_at hl 1 rfl) ?_
      refine lv_aload_n hx hb dX5_clashing_29 rfl (lv_at hl 2 rfl) ?_
      refine x_get X hw f10 0 rfl rfl dX5_clashing_30 ?_
      refine lv_iload hx hb dX5_clashing_33 (lv_at hl 0 rfl) ?_
      refine x_callV (As := [.int (nI i)]) (rest := [.int (nI a)]) X hw hl.1 (c_X3_endsOf l D cI cZ t te ts en st n i (by first | assumption | omega) (by first | assumption | omega) (by first | assumption | omega) (by first | assumption | omega)) (cwV 1 hts gX5_clashing_X3_endsOf rfl rfl rfl (by decide +kernel) ⟨Nat.le_of_ble_eq_true rfl, Nat.le_of_ble_eq_true rfl⟩) [1, 2, 3] rfl rfl 0 rfl rfl rfl rfl (Nat.le_of_ble_eq_true rfl) dX5_clashing_35 (by decide) (fun r w1 H locs hp hw1 => ?_)
      obtain ⟨rfl, rfl⟩ := hp
      have hw : WD D A s.heap [(ax, .inr (5, [.ref t, .ref ga, .ref la, .ref wa, .ref pa])), (t, .inr (3, [.ref te, .ref ts, .int (nI n)])), (te, .inl (cI, 16, .inl (iA en))), (ts, .inl (cI, 17, .inl (iA st))), (ga, .inr (0, [.ref gc, .ref gn, .int (nI sz)])), (gc, .inl (cI, 16, .inl (iA cu))), (gn, .inl (cI, 16, .inl (iA ne)))] H locs := hw1 rfl
      refine lv_ior hx hb dX5_clashing_38 ?_
      refine cv_i (show nI a ||| nI (en i) = nI (a ||| (en i)) from q_or a (en i)) ?_
      refine lv_istore_n (lv' := [(3, .int (nI (a ||| (en i)))), (4, .int (nI i)), (0, .ref ax), (1, .int (nI wy)), (2, .int (nI k))]) hx hb dX5_clashing_39 rfl hl (by decide) rfl (fun ls hl => ?_)
      refine lv_iinc (v := nI (i + 1)) (lv' := [(4, .int (nI (i + 1))), (3, .int (nI (a ||| (en i)))), (0, .ref ax), (1, .int (nI wy)), (2, .int (nI k))]) hx hb dX5_clashing_40 hl (k := 1) rfl (nI_add i 1) (by decide) rfl (fun ls hl => ?_)
      refine lv_goto (tgt := 5) hx hb dX5_clashing_43 (by decide) ?_
      exact ih_5 (a ||| (en i), i + 1) (by show n - (i + 1) < n - i; omega) ⟨(show (i + 1) ≤ n from by omega), (show (a ||| (en i)) = pus en st cu n sz wy k (i + 1) from by rw [ha]; simp [pus, fo, c_25])⟩ _ _ _ hw (lv_sub hl [0, 1, 2, 3, 4] rfl)
set_option maxHeartbeats 4000000 in
set_option maxRecDepth 100000 in
theorem c_X5_firstClash (l : Launch) (D : va_G) (cI cZ : ClassId) (ax : Nat) (t : Nat) (ga : Nat) (la : Nat) (wa : Nat) (pa : Nat) (te : Nat) (ts : Nat) (en : Nat → Nat) (st : Nat → Nat) (n : Nat) (gc : Nat) (gn : Nat) (cu : Nat → Nat) (ne : Nat → Nat) (sz : Nat) (wy : Nat) (hn : n ≤ 16) (hen : ∀ k, en k < 4096) (hst : ∀ k, st k < 64) (hsz : sz ≤ 16) (hcu : ∀ k, cu k < 16) (hne : ∀ k, ne k ≤ 1000) (hwy : wy < 2) (hn0 : 0 < n) : MI l D cI cZ yX5_firstClash wsX5_firstClash ({ frames := 5, cells := 0, slots := 0, locals := 118 }) [.ref ax, .int (nI wy)] [(ax, .inr (5, [.ref t, .ref ga, .ref la, .ref wa, .ref pa])), (t, .inr (3, [.ref te, .ref ts, .int (nI n)])), (te, .inl (cI, 16, .inl (iA en))), (ts, .inl (cI, 17, .inl (iA st))), (ga, .inr (0, [.ref gc, .ref gn, .int (nI sz)])), (gc, .inl (cI, 16, .inl (iA cu))), (gn, .inl (cI, 16, .inl (iA ne)))] (fun r w => ∃ nf9 : Nat → Nat, ∃ cu9 : Nat → Nat, ∃ sz9 : Nat, (wy = 1 → FD en n cu9 sz9) ∧ (∀ k, nf9 k ≤ 1000) ∧ (∀ k, cu9 k < 16) ∧ (sz9 ≤ 16) ∧ (wy = 1 → 1 ≤ sz9) ∧ r = (fsI (clP en st cu9 n sz9 wy) n) ∧ w = [(ax, .inr (5, [.ref t, .ref ga, .ref la, .ref wa, .ref pa])), (t, .inr (3, [.ref te, .ref ts, .int (nI n)])), (te, .inl (cI, 16, .inl (iA en))), (ts, .inl (cI, 17, .inl (iA st))), (ga, .inr (0, [.ref gc, .ref gn, .int (nI sz9)])), (gc, .inl (cI, 16, .inl (iA cu9))), (gn, .inl (cI, 16, .inl (iA nf9)))]) := by
  refine MI.of (cc := cX5_firstClash) (maxL := 3) (ret := (some .int)) (own := RX5) (by decide) rfl rfl (Nat.le_of_ble_eq_true rfl) ?_
  intro pQ eQ s mQ args below meth cQ A X hw ls hl
  obtain ⟨⟨hx, hb, hml, hown, hts⟩, hr, hlk, hK, hN, hA⟩ := id X
  have hl : lv_has ls 3 [(0, .ref ax), (1, .int (nI wy))] := hl
  have n5 : ∀ w ∈ wsX50, w ∈ wsX5_firstClash := by decide +kernel
  have f10 : FF args s RX5 wsX5_firstClash 10 5 0 := ⟨_, rfl, by decide, n5, hts (.fieldLink RX5 10 "AirSteps" "text" "LAirSteps$Text;") (by decide +kernel)⟩
  have f19 : FF args s RX5 wsX5_firstClash 19 5 1 := ⟨_, rfl, by decide, n5, hts (.fieldLink RX5 19 "AirSteps" "rows" "LAirSteps$Groups;") (by decide +kernel)⟩
  refine wj (α := (Nat → Nat) × (Nat → Nat) × Nat) (nL := 3) 16 (fun aQ => (wy = 1 → FD en n aQ.2.1 aQ.2.2) ∧ (∀ k, aQ.1 k ≤ 1000) ∧ (∀ k, aQ.2.1 k < 16) ∧ (aQ.2.2 ≤ 16) ∧ (wy = 1 → 1 ≤ aQ.2.2)) (fun aQ => [(ax, .inr (5, [.ref t, .ref ga, .ref la, .ref wa, .ref pa])), (t, .inr (3, [.ref te, .ref ts, .int (nI n)])), (te, .inl (cI, 16, .inl (iA en))), (ts, .inl (cI, 17, .inl (iA st))), (ga, .inr (0, [.ref gc, .ref gn, .int (nI aQ.2.2)])), (gc, .inl (cI, 16, .inl (iA aQ.2.1))), (gn, .inl (cI, 16, .inl (iA aQ.1)))]) (fun aQ => [(0, .ref ax), (1, .int (nI wy))]) (fun aQ => []) (D := D) (A := A) (H0 := s.heap) (fun J16 => ?_) ?_
  · skip
    refine lv_iload_n hx hb dX5_firstClash_0 rfl (lv_at hl 1 rfl) ?_
    refine lv_iconst (v := nI 1) hx hb dX5_firstClash_1 (by decide) ?_
    refine lv_icmp_ne (tgt := 16) hx hb dX5_firstClash_2 (by decide) (fun c_2 => ?_) (fun c_2 => ?_)
    · skip
      rw [nI_eq (by omega) (by omega)] at c_2
      exact J16 (ne, cu, sz) ⟨(show wy = 1 → FD en n cu sz from by first | (intro h; exact absurd h c_2) | (intro _; exact hFD2)), (show ∀ k, ne k ≤ 1000 from by assumption), (show ∀ k, cu k < 16 from by assumption), (show sz ≤ 16 from by assumption), (show wy = 1 → 1 ≤ sz from by first | (intro h; exact absurd h c_2) | (intro _; exact hs12))⟩ _ _ _ hw (lv_sub hl [0, 1] rfl)
    · skip
      rw [nI_eq (by omega) (by omega)] at c_2
      refine lv_aload_n hx hb dX5_firstClash_5 rfl (lv_at hl 0 rfl) ?_
      refine x_get X hw f19 0 rfl rfl dX5_firstClash_6 ?_
      refine lv_aload_n hx hb dX5_firstClash_9 rfl (lv_at hl 0 rfl) ?_
      refine x_get X hw f10 0 rfl rfl dX5_firstClash_10 ?_
      refine x_callVv (As := [.ref t]) (rest := []) X hw hl.1 (c_X0_find l D cI cZ ga gc gn cu ne sz t te ts en st n (by first | assumption | omega) (by first | assumption | omega) (by first | assumption | omega) (by first | assumption | omega) (by first | assumption | omega) (by first | assumption | omega)) (cwV 1 hts gX5_firstClash_X0_find rfl rfl rfl (by decide +kernel) ⟨Nat.le_of_ble_eq_true rfl, Nat.le_of_ble_eq_true rfl⟩) [4, 5, 6, 1, 2, 3] rfl rfl 0 rfl rfl rfl rfl (Nat.le_of_ble_eq_true rfl) dX5_firstClash_13 (by decide) (fun w1 H locs hp hw1 => ?_)
      obtain ⟨nf2, cu2, sz2, hFD2, hnf2, hcu2, hsz2, hs12, rfl⟩ := hp
      have hw : WD D A s.heap [(ax, .inr (5, [.ref t, .ref ga, .ref la, .ref wa, .ref pa])), (t, .inr (3, [.ref te, .ref ts, .int (nI n)])), (te, .inl (cI, 16, .inl (iA en))), (ts, .inl (cI, 17, .inl (iA st))), (ga, .inr (0, [.ref gc, .ref gn, .int (nI sz2)])), (gc, .inl (cI, 16, .inl (iA cu2))), (gn, .inl (cI, 16, .inl (iA nf2)))] H locs := hw1 rfl
      exact J16 (nf2, cu2, sz2) ⟨(show wy = 1 → FD en n cu2 sz2 from by first | (intro h; exact absurd h c_2) | (intro _; exact hFD2)), (show ∀ k, nf2 k ≤ 1000 from by assumption), (show ∀ k, cu2 k < 16 from by assumption), (show sz2 ≤ 16 from by assumption), (show wy = 1 → 1 ≤ sz2 from by first | (intro h; exact absurd h c_2) | (intro _; exact hs12))⟩ _ _ _ hw (lv_sub hl [0, 1] rfl)
  · rintro ⟨nf9, cu9, sz9⟩ ⟨hFD, hnf9, hcu9, hsz9, hs19⟩ H locs ls hw hl
    have hFD : wy = 1 → FD en n cu9 sz9 := hFD
    have hnf9 : ∀ k, nf9 k ≤ 1000 := hnf9
    have hcu9 : ∀ k, cu9 k < 16 := hcu9
    have hsz9 : sz9 ≤ 16 := hsz9
    have hs19 : wy = 1 → 1 ≤ sz9 := hs19
    have hw : WD D A s.heap [(ax, .inr (5, [.ref t, .ref ga, .ref la, .ref wa, .ref pa])), (t, .inr (3, [.ref te, .ref ts, .int (nI n)])), (te, .inl (cI, 16, .inl (iA en))), (ts, .inl (cI, 17, .inl (iA st))), (ga, .inr (0, [.ref gc, .ref gn, .int (nI sz9)])), (gc, .inl (cI, 16, .inl (iA cu9))), (gn, .inl (cI, 16, .inl (iA nf9)))] H locs := hw
    have hl : lv_has ls 3 [(0, .ref ax), (1, .int (nI wy))] := hl
    refine lv_iconst (v := nI 0) hx hb dX5_firstClash_16 (by decide) ?_
    refine lv_istore_n (lv' := [(2, .int (nI 0)), (0, .ref ax), (1, .int (nI wy))]) hx hb dX5_firstClash_17 rfl hl (by decide) rfl (fun ls hl => ?_)
    refine wl (α := Nat) (nL := 3) (fun aQ => n - aQ) (fun aQ => (aQ ≤ n) ∧ (∀ j, j < aQ → clP en st cu9 n sz9 wy j = false)) (fun aQ => [(ax, .inr (5, [.ref t, .ref ga, .ref la, .ref wa, .ref pa])), (t, .inr (3, [.ref te, .ref ts, .int (nI n)])), (te, .inl (cI, 16, .inl (iA en))), (ts, .inl (cI, 17, .inl (iA st))), (ga, .inr (0, [.ref gc, .ref gn, .int (nI sz9)])), (gc, .inl (cI, 16, .inl (iA cu9))), (gn, .inl (cI, 16, .inl (iA nf9)))]) (fun aQ => [(2, .int (nI aQ)), (0, .ref ax), (1, .int (nI wy))]) ?_ 0 ⟨(show 0 ≤ n from by omega), (show ∀ j, j < 0 → clP en st cu9 n sz9 wy j = false from fun j hj => absurd hj (Nat.not_lt_zero j))⟩ _ _ _ hw (lv_sub hl [0, 1, 2] rfl)
    rintro i ⟨hi, hq⟩ H locs ls hw hl ih_18
    have hi : i ≤ n := hi
    have hq : ∀ j, j < i → clP en st cu9 n sz9 wy j = false := hq
    have hw : WD D A s.heap [(ax, .inr (5, [.ref t, .ref ga, .ref la, .ref wa, .ref pa])), (t, .inr (3, [.ref te, .ref ts, .int (nI n)])), (te, .inl (cI, 16, .inl (iA en))), (ts, .inl (cI, 17, .inl (iA st))), (ga, .inr (0, [.ref gc, .ref gn, .int (nI sz9)])), (gc, .inl (cI, 16, .inl (iA cu9))), (gn, .inl (cI, 16, .inl (iA nf9)))] H locs := hw
    have hl : lv_has ls 3 [(2, .int (nI i)), (0, .ref ax), (1, .int (nI wy))] := hl
    refine lv_iload_n hx hb dX5_firstClash_18 rfl (lv_at hl 0 rfl) ?_
    refine lv_aload_n hx hb dX5_firstClash_19 rfl (lv_at hl 1 rfl) ?_
    refine x_get X hw f10 0 rfl rfl dX5_firstClash_20 ?_
    refine x_callV (As := []) (rest := [.int (nI i)]) X hw hl.1 (c_X3_size l D cI cZ t te ts en st n ) (cwV 0 hts gX5_firstClash_X3_size rfl rfl rfl (by decide +kernel) ⟨Nat.le_of_ble_eq_true rfl, Nat.le_of_ble_eq_true rfl⟩) [1, 2, 3] rfl rfl 0 rfl rfl rfl rfl (Nat.le_of_ble_eq_true rfl) dX5_firstClash_23 (by decide) (fun r w1 H locs hp hw1 => ?_)
    obtain ⟨rfl, rfl⟩ := hp
    have hw : WD D A s.heap [(ax, .inr (5, [.ref t, .ref ga, .ref la, .ref wa, .ref pa])), (t, .inr (3, [.ref te, .ref ts, .int (nI n)])), (te, .inl (cI, 16, .inl (iA en))), (ts, .inl (cI, 17, .inl (iA st))), (ga, .inr (0, [.ref gc, .ref gn, .int (nI sz9)])), (gc, .inl (cI, 16, .inl (iA cu9))), (gn, .inl (cI, 16, .inl (iA nf9)))] H locs := hw1 rfl
    refine lv_icmp_ge (tgt := 46) hx hb dX5_firstClash_26 (by decide) (fun c_26 => ?_) (fun c_26 => ?_)
    · skip
      rw [nI_leI (by omega) (by omega)] at c_26
      refine lv_iconst (v := (-1)) hx hb dX5_firstClash_46 (by decide) ?_
      exact x_iret X hw (⟨nf9, cu9, sz9, (hFD), (hnf9), (hcu9), (hsz9), (hs19), ((fsI_no (fun j hj => hq j (by omega))).symm), rfl⟩) dX5_firstClash_47
    · skip
      rw [nI_leI (by omega) (by omega)] at c_26
      refine lv_aload_n hx hb dX5_firstClash_29 rfl (lv_at hl 1 rfl) ?_
      refine lv_iload_n hx hb dX5_firstClash_30 rfl (lv_at hl 2 rfl) ?_
      refine lv_iload_n hx hb dX5_firstClash_31 rfl (lv_at hl 0 rfl) ?_
      refine x_callV (As := [.int (nI wy), .int (nI i)]) (rest := []) X hw hl.1 (c_X5_clashing l D cI cZ ax t ga la wa pa te ts en st n gc gn cu9 nf9 sz9 wy i (by first | assumption | omega) (by first | assumption | omega) (by first | assumption | omega) (hsz9) (hcu9) (hs19) (by first | assumption | omega) (by first | assumption | omega)) (cwV 2 hts gX5_firstClash_X5_clashing rfl rfl rfl (by decide +kernel) ⟨Nat.le_of_ble_eq_true rfl, Nat.le_of_ble_eq_true rfl⟩) [0, 1, 2, 3, 4, 5, 6] rfl rfl 0 rfl rfl rfl rfl (Nat.le_of_ble_eq_true rfl) dX5_firstClash_32 (by decide) (fun r w1 H locs hp hw1 => ?_)
      obtain ⟨rfl, rfl⟩ := hp
      have hw : WD D A s.heap [(ax, .inr (5, [.ref t, .ref ga, .ref la, .ref wa, .ref pa])), (t, .inr (3, [.ref te, .ref ts, .int (nI n)])), (te, .inl (cI, 16, .inl (iA en))), (ts, .inl (cI, 17, .inl (iA st))), (ga, .inr (0, [.ref gc, .ref gn, .int (nI sz9)])), (gc, .inl (cI, 16, .inl (iA cu9))), (gn, .inl (cI, 16, .inl (iA nf9)))] H locs := hw1 rfl
      have hcl : cls en st cu9 n sz9 wy i < 64 := clsE_lt _ _ (hen i)
      refine lv_if_eq (tgt := 40) hx hb dX5_firstClash_35 (by decide) (fun c_35 => ?_) (fun c_35 => ?_)
      · skip
        rw [q_eq0 (by omega)] at c_35
        refine lv_iinc (v := nI (i + 1)) (lv' := [(2, .int (nI (i + 1))), (0, .ref ax), (1, .int (nI wy))]) hx hb dX5_firstClash_40 hl (k := 0) rfl (nI_add i 1) (by decide) rfl (fun ls hl => ?_)
        refine lv_goto (tgt := 18) hx hb dX5_firstClash_43 (by decide) ?_
        exact ih_18 (i + 1) (by show n - (i + 1) < n - i; omega) ⟨(show (i + 1) ≤ n from by omega), (show ∀ j, j < (i + 1) → clP en st cu9 n sz9 wy j = false from lt_snoc hq (by simp [clP, c_35]))⟩ _ _ _ hw (lv_sub hl [0, 1, 2] rfl)
      · skip
        rw [q_eq0 (by omega)] at c_35
        refine lv_iload_n hx hb dX5_firstClash_38 rfl (lv_at hl 0 rfl) ?_
        exact x_iret X hw (⟨nf9, cu9, sz9, (hFD), (hnf9), (hcu9), (hsz9), (hs19), ((fsI_yes (by omega) hq (by simp [clP, c_35])).symm), rfl⟩) dX5_firstClash_39
