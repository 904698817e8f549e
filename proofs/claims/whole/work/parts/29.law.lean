-- ===== end of PART A; then your names; then what follows =====
/-! THE CLAIM OUT OF ONE WALK OF THE LAW'S BODY. Your part is whole_start (and what it stands on); all else here is the same for every law, but numbers. -/
def R_law : String := "AirStepsLaw"
def lw_P (b : Addr) (xs : List Int32) (args : Array Value) (s : State) : Prop := args = #[.ref b] ∧ s.IntsAt b xs ∧ xs.length ≤ 2560 ∧ (Jvm.Cond.and given_1 narrow_1).before args s = true
def lw_Q (_ : Array Value) (s : State) (o : Outcome) (t : State) : Prop := o = .returned (some (.int 1)) ∧ Framed s o t [] 27 457
def lw_Z (below : List Frame) (a : Array Value) (s : State) : State → Prop := fun t => ∃ o, t.status = .running ∧ Ended t below o ∧ lw_Q a s o t
/-- the law's own end, with 1 on the stack, nothing written that was there before, its room as the claim has it -/
theorem lw_ret {p : Program} {l : Launch} {e : Env} {s : State} {m : MethodId} {below : List Frame} {meth : Method} {c : Code} {b : Nat} (hx : p.tables.exec = Jvm.exec) (hb : c.code = code) (hr : meth.sig.returnType = ret) (hlocks : meth.locks = false) {pc : Nat} {H : Heap} {ls : Array Slot} (hdg : decode code pc = .ok (.ireturn, 1)) : W p l e room_1 s m #[Value.ref b] below meth c H [] 27 457 (lw_Z below #[Value.ref b] s) (F0 m pc ls [.int 1]) := by
  intro T hT X
  obtain ⟨fs, hret, hrun, hended, hW, hframe⟩ := X.leave (v := some (.int 1)) (hlocks := hlocks) (fun h => by rw [hr] at h; cases h)
  have hmeth' : T.vm.method? m = some meth := X.method'
  refine ⟨T.setFrames fs, ?_, .returned (some (.int 1)), hrun, hended, rfl, ⟨_, rfl⟩, hW, hframe⟩
  jvm_step X.here [X.here.top, hx, hb, hdg, hmeth', hr, ret, narrow_b1]
  (try refine ⟨rfl, ?_⟩); (try refine ⟨rfl, ?_⟩)
  first | (intro acts; rw [hret _ acts rfl rfl rfl]) | rw [hret _ _ rfl rfl rfl]
  exact Steps.refl _
/-- what holds at the law's entry: the machine, the code, the tables' words (any of lw_tbl by 'hts w (by decide +kernel)'), the script of L ints xs at the cell b, what the Statement gives of the start (any of its parts by flat_of_before) -/
def lw_At (p : Program) (s : State) (m : MethodId) (meth : Method) (c : Code) (b L : Nat) (xs : Nat → Int32) : Prop :=
  p.tables.exec = Jvm.exec ∧ c.code = code ∧ meth.sig.returnType = ret ∧ c.maxLocals = 4 ∧ s.vm.findClass R_law = some m.cls ∧ (∀ w ∈ lw_tbl, w.before #[Value.ref b] s = true) ∧ va_X b L xs s s.heap ∧ b < s.heap.size ∧ meth.locks = false ∧ (Jvm.Cond.and given_1 narrow_1).before #[Value.ref b] s = true
theorem law_c {L i : Nat} (hL : L < 2 ^ 30) (hi : i < 2 ^ 30) : (nI L - nI 5 < nI i) ↔ L < i + 5 := by
  rw [Int32.lt_iff_toInt_lt, pk_sub_toInt hL (by decide), nI_toInt (by omega)]
  omega
set_option maxHeartbeats 8000000 in
set_option maxRecDepth 100000 in
/-- the law's loop -/
theorem law_loop {p : Program} {l : Launch} {e : Env} {s : State} {m : MethodId} {below : List Frame} {meth : Method} {c : Code} {D : va_G} {cI cZ : ClassId} {b L : Nat} {xs : Nat → Int32} (hL : L ≤ 2560) (X : CX p s m #[Value.ref b] meth c cL_law 4 wsL_law RL ret D cI cZ (fun q : Nat => s.heap.size ≤ q)) (hX : va_X b L xs s s.heap) (hbl : b < s.heap.size) (ax : Nat) (t : Nat) (te : Nat) (ts : Nat) (ga : Nat) (gc : Nat) (gn : Nat) (la : Nat) (lb : Nat) (lw : Nat) (wa : Nat) (wv : Nat) (wq : Nat) (pa : Nat) (pl : Nat) (pm : Nat) (mx : Nat) (m1 : Nat) (m2 : Nat) (m3 : Nat) (m4 : Nat) (m5 : Nat) (m6 : Nat) (m7 : Nat) (m8 : Nat) (m9 : Nat) (m10 : Nat) (i : Nat) (n : Nat) (nl : Nat) (en : Nat → Nat) (st : Nat → Nat) (sz : Nat) (cu : Nat → Nat) (ne : Nat → Nat) (ba : Nat → Nat) (wh : Nat → Nat) (dp : Nat → Nat) (qu : Nat → Nat) (le : Nat → Nat) (mo : Nat → Nat) (oo : Nat → Nat) (ii : Nat → Nat) (lle : Nat → Nat) (lmo : Nat → Nat) (aA : Nat → Nat) (aO : Nat → Bool) (aB : Nat → Nat) (aI : Nat → Bool) (ss : Nat → Nat) (ww : Nat → Nat) (ct : Nat) (hR : REL n nl en st sz cu ne ba wh dp qu le mo oo ii lle lmo aA aO aB aI ss) (hi : i ≤ L) (H : Heap) (locs : List Loc) (ls : Array Slot) (hw : WD D (fun q : Nat => s.heap.size ≤ q) s.heap [(ax, .inr (5, [.ref t, .ref ga, .ref la, .ref wa, .ref pa])), (t, .inr (3, [.ref te, .ref ts, .int (nI n)])), (te, .inl (cI, 16, .inl (iA en))), (ts, .inl (cI, 17, .inl (iA st))), (ga, .inr (0, [.ref gc, .ref gn, .int (nI sz)])), (gc, .inl (cI, 16, .inl (iA cu))), (gn, .inl (cI, 16, .inl (iA ne))), (la, .inr (1, [.ref lb, .ref lw, .int (nI nl)])), (lb, .inl (cI, 12, .inl (iA ba))), (lw, .inl (cI, 12, .inl (iA wh))), (wa, .inr (4, [.ref wv, .ref wq])), (wv, .inl (cI, 64, .inl (mA dp))), (wq, .inl (cI, 64, .inl (iA qu))), (pa, .inr (2, [.ref pl, .ref pm])), (pl, .inl (cI, 12, .inl (iA le))), (pm, .inl (cI, 12, .inl (iA mo))), (mx, .inr (6, [.int (nI n), .ref m1, .ref m2, .ref m3, .ref m4, .int (nI nl), .ref m5, .ref m6, .ref m7, .ref m8, .ref m9, .int (nI ct), .ref m10])), (m1, .inl (cI, 16, .inl (iA oo))), (m2, .inl (cI, 16, .inl (iA ii))), (m3, .inl (cI, 12, .inl (iA lle))), (m4, .inl (cI, 12, .inl (iA lmo))), (m5, .inl (cI, 12, .inl (iA aA))), (m6, .inl (cZ, 12, .inl (bA aO))), (m7, .inl (cI, 12, .inl (iA aB))), (m8, .inl (cZ, 12, .inl (bA aI))), (m9, .inl (cI, 17, .inl (iA ss))), (m10, .inl (cI, 64, .inl (iA ww)))] H locs) (hl : lv_has ls 4 [(3, .int (nI i)), (2, .ref mx), (1, .ref ax), (0, .ref b)]) : W p l e room_1 s m #[Value.ref b] below meth c H locs 27 457 (lw_Z below #[Value.ref b] s) (F0 m 18 ls []) := by
  obtain ⟨⟨hx, hb, hml, hown, hts⟩, hr, hlk, hK, hN, hA⟩ := id X
  have hbA : ¬ (fun q : Nat => s.heap.size ≤ q) b := Nat.not_le.mpr hbl
  refine wl (α := Nat × Nat × Nat × (Nat → Nat) × (Nat → Nat) × Nat × (Nat → Nat) × (Nat → Nat) × (Nat → Nat) × (Nat → Nat) × (Nat → Nat) × (Nat → Nat) × (Nat → Nat) × (Nat → Nat) × (Nat → Nat) × (Nat → Nat) × (Nat → Nat) × (Nat → Nat) × (Nat → Nat) × (Nat → Bool) × (Nat → Nat) × (Nat → Bool) × (Nat → Nat) × (Nat → Nat) × Nat) (nL := 4) (fun aQ => L + 5 - aQ.1) (fun aQ => (REL aQ.2.1 aQ.2.2.1 aQ.2.2.2.1 aQ.2.2.2.2.1 aQ.2.2.2.2.2.1 aQ.2.2.2.2.2.2.1 aQ.2.2.2.2.2.2.2.1 aQ.2.2.2.2.2.2.2.2.1 aQ.2.2.2.2.2.2.2.2.2.1 aQ.2.2.2.2.2.2.2.2.2.2.1 aQ.2.2.2.2.2.2.2.2.2.2.2.1 aQ.2.2.2.2.2.2.2.2.2.2.2.2.1 aQ.2.2.2.2.2.2.2.2.2.2.2.2.2.1 aQ.2.2.2.2.2.2.2.2.2.2.2.2.2.2.1 aQ.2.2.2.2.2.2.2.2.2.2.2.2.2.2.2.1 aQ.2.2.2.2.2.2.2.2.2.2.2.2.2.2.2.2.1 aQ.2.2.2.2.2.2.2.2.2.2.2.2.2.2.2.2.2.1 aQ.2.2.2.2.2.2.2.2.2.2.2.2.2.2.2.2.2.2.1 aQ.2.2.2.2.2.2.2.2.2.2.2.2.2.2.2.2.2.2.2.1 aQ.2.2.2.2.2.2.2.2.2.2.2.2.2.2.2.2.2.2.2.2.1 aQ.2.2.2.2.2.2.2.2.2.2.2.2.2.2.2.2.2.2.2.2.2.1 aQ.2.2.2.2.2.2.2.2.2.2.2.2.2.2.2.2.2.2.2.2.2.2.1) ∧ (aQ.1 ≤ L)) (fun aQ => [(ax, .inr (5, [.ref t, .ref ga, .ref la, .ref wa, .ref pa])), (t, .inr (3, [.ref te, .ref ts, .int (nI aQ.2.1)])), (te, .inl (cI, 16, .inl (iA aQ.2.2.2.1))), (ts, .inl (cI, 17, .inl (iA aQ.2.2.2.2.1))), (ga, .inr (0, [.ref gc, .ref gn, .int (nI aQ.2.2.2.2.2.1)])), (gc, .inl (cI, 16, .inl (iA aQ.2.2.2.2.2.2.1))), (gn, .inl (cI, 16, .inl (iA aQ.2.2.2.2.2.2.2.1))), (la, .inr (1, [.ref lb, .ref lw, .int (nI aQ.2.2.1)])), (lb, .inl (cI, 12, .inl (iA aQ.2.2.2.2.2.2.2.2.1))), (lw, .inl (cI, 12, .inl (iA aQ.2.2.2.2.2.2.2.2.2.1))), (wa, .inr (4, [.ref wv, .ref wq])), (wv, .inl (cI, 64, .inl (mA aQ.2.2.2.2.2.2.2.2.2.2.1))), (wq, .inl (cI, 64, .inl (iA aQ.2.2.2.2.2.2.2.2.2.2.2.1))), (pa, .inr (2, [.ref pl, .ref pm])), (pl, .inl (cI, 12, .inl (iA aQ.2.2.2.2.2.2.2.2.2.2.2.2.1))), (pm, .inl (cI, 12, .inl (iA aQ.2.2.2.2.2.2.2.2.2.2.2.2.2.1))), (mx, .inr (6, [.int (nI aQ.2.1), .ref m1, .ref m2, .ref m3, .ref m4, .int (nI aQ.2.2.1), .ref m5, .ref m6, .ref m7, .ref m8, .ref m9, .int (nI aQ.2.2.2.2.2.2.2.2.2.2.2.2.2.2.2.2.2.2.2.2.2.2.2.2), .ref m10])), (m1, .inl (cI, 16, .inl (iA aQ.2.2.2.2.2.2.2.2.2.2.2.2.2.2.1))), (m2, .inl (cI, 16, .inl (iA aQ.2.2.2.2.2.2.2.2.2.2.2.2.2.2.2.1))), (m3, .inl (cI, 12, .inl (iA aQ.2.2.2.2.2.2.2.2.2.2.2.2.2.2.2.2.1))), (m4, .inl (cI, 12, .inl (iA aQ.2.2.2.2.2.2.2.2.2.2.2.2.2.2.2.2.2.1))), (m5, .inl (cI, 12, .inl (iA aQ.2.2.2.2.2.2.2.2.2.2.2.2.2.2.2.2.2.2.1))), (m6, .inl (cZ, 12, .inl (bA aQ.2.2.2.2.2.2.2.2.2.2.2.2.2.2.2.2.2.2.2.1))), (m7, .inl (cI, 12, .inl (iA aQ.2.2.2.2.2.2.2.2.2.2.2.2.2.2.2.2.2.2.2.2.1))), (m8, .inl (cZ, 12, .inl (bA aQ.2.2.2.2.2.2.2.2.2.2.2.2.2.2.2.2.2.2.2.2.2.1))), (m9, .inl (cI, 17, .inl (iA aQ.2.2.2.2.2.2.2.2.2.2.2.2.2.2.2.2.2.2.2.2.2.2.1))), (m10, .inl (cI, 64, .inl (iA aQ.2.2.2.2.2.2.2.2.2.2.2.2.2.2.2.2.2.2.2.2.2.2.2.1)))]) (fun aQ => [(3, .int (nI aQ.1)), (2, .ref mx), (1, .ref ax), (0, .ref b)]) ?_ (i, n, nl, en, st, sz, cu, ne, ba, wh, dp, qu, le, mo, oo, ii, lle, lmo, aA, aO, aB, aI, ss, ww, ct) ⟨(show REL n nl en st sz cu ne ba wh dp qu le mo oo ii lle lmo aA aO aB aI ss from hR), (show i ≤ L from hi)⟩ _ _ _ hw (lv_sub hl [0, 1, 2, 3] rfl)
  rintro ⟨i, n, nl, en, st, sz, cu, ne, ba, wh, dp, qu, le, mo, oo, ii, lle, lmo, aA, aO, aB, aI, ss, ww, ct⟩ ⟨hR, hi⟩ H locs ls hw hl ih_18
  have hR : REL n nl en st sz cu ne ba wh dp qu le mo oo ii lle lmo aA aO aB aI ss := hR
  have hi : i ≤ L := hi
  have hw : WD D (fun q : Nat => s.heap.size ≤ q) s.heap [(ax, .inr (5, [.ref t, .ref ga, .ref la, .ref wa, .ref pa])), (t, .inr (3, [.ref te, .ref ts, .int (nI n)])), (te, .inl (cI, 16, .inl (iA en))), (ts, .inl (cI, 17, .inl (iA st))), (ga, .inr (0, [.ref gc, .ref gn, .int (nI sz)])), (gc, .inl (cI, 16, .inl (iA cu))), (gn, .inl (cI, 16, .inl (iA ne))), (la, .inr (1, [.ref lb, .ref lw, .int (nI nl)])), (lb, .inl (cI, 12, .inl (iA ba))), (lw, .inl (cI, 12, .inl (iA wh))), (wa, .inr (4, [.ref wv, .ref wq])), (wv, .inl (cI, 64, .inl (mA dp))), (wq, .inl (cI, 64, .inl (iA qu))), (pa, .inr (2, [.ref pl, .ref pm])), (pl, .inl (cI, 12, .inl (iA le))), (pm, .inl (cI, 12, .inl (iA mo))), (mx, .inr (6, [.int (nI n), .ref m1, .ref m2, .ref m3, .ref m4, .int (nI nl), .ref m5, .ref m6, .ref m7, .ref m8, .ref m9, .int (nI ct), .ref m10])), (m1, .inl (cI, 16, .inl (iA oo))), (m2, .inl (cI, 16, .inl (iA ii))), (m3, .inl (cI, 12, .inl (iA lle))), (m4, .inl (cI, 12, .inl (iA lmo))), (m5, .inl (cI, 12, .inl (iA aA))), (m6, .inl (cZ, 12, .inl (bA aO))), (m7, .inl (cI, 12, .inl (iA aB))), (m8, .inl (cZ, 12, .inl (bA aI))), (m9, .inl (cI, 17, .inl (iA ss))), (m10, .inl (cI, 64, .inl (iA ww)))] H locs := hw
  have hl : lv_has ls 4 [(3, .int (nI i)), (2, .ref mx), (1, .ref ax), (0, .ref b)] := hl
  obtain ⟨T, hsz, hcu, hne, LS, DK, hqu, hle, hmo, hlle, hlmo, K1, K2, hmo1, hss⟩ := id hR
  obtain ⟨hn, hen, hst, hoo, hii, hte, htst, htd⟩ := id T
  obtain ⟨hnl, hba, hwh, haA, haB, hlw⟩ := id LS
  have hdp := DK.2.2.2
  refine lv_iload_n hx hb dL_law_18 rfl (lv_at hl 0 rfl) ?_
  refine lv_aload_n hx hb dL_law_19 rfl (lv_at hl 3 rfl) ?_
  refine va_slen hx hb hX hbl hbA hw.2.2 dL_law_20 ?_
  refine lv_iconst (v := nI 5) hx hb dL_law_21 (by decide) ?_
  refine lv_isub hx hb dL_law_22 ?_
  refine cv_i (show nI L - nI 5 = (nI L - nI 5) from rfl) ?_
  refine lv_icmp_gt (tgt := 645) hx hb dL_law_23 (by decide) (fun c_23 => ?_) (fun c_23 => ?_)
  · skip
    rw [law_c (by omega) (by omega)] at c_23
    refine lv_iconst (v := nI 1) hx hb dL_law_645 (by decide) ?_
    refine va_forget (fun q hq => hw.2.2.2.2 q hq) ?_
    exact lw_ret hx hb hr hlk dL_law_646
  · skip
    rw [law_c (by omega) (by omega)] at c_23
    refine lv_aload_n hx hb dL_law_26 rfl (lv_at hl 3 rfl) ?_
    refine lv_iload_n hx hb dL_law_27 rfl (lv_at hl 0 rfl) ?_
    refine va_sld hx hb hX hbl hbA hw.2.2 (vp_in_nI (by omega) (by omega)) dL_law_28 ?_
    refine cv_i (show xs (nI i).toNatClampNeg = xs i from by rw [nI_clamp (by omega)]) ?_
    refine lv_bipush (v := nI 31) hx hb dL_law_29 (by decide) ?_
    refine lv_iand hx hb dL_law_31 ?_
    obtain ⟨j, hj, ej⟩ := pk_andE (xs i) (m := nI 31) 5 (by decide)
    refine cv_i ej ?_
    have hjc : j = 0 ∨ j = 1 ∨ j = 2 ∨ j = 3 ∨ j = 4 ∨ j = 5 ∨ j = 6 ∨ j = 7 ∨ j = 8 ∨ j = 9 ∨ j = 10 ∨ j = 11 ∨ j = 12 ∨ j = 13 ∨ j = 14 ∨ j = 15 ∨ j = 16 ∨ j = 17 ∨ j = 18 ∨ 19 ≤ j := by omega
    rcases hjc with rfl | rfl | rfl | rfl | rfl | rfl | rfl | rfl | rfl | rfl | rfl | rfl | rfl | rfl | rfl | rfl | rfl | rfl | rfl | hj19
    · skip
      refine lv_tableIn (off := 92) (tgt := 124) hx hb dL_law_32 (by decide) (by decide) (by rfl) (by decide) ?_
      refine lv_aload_n hx hb dL_law_124 rfl (lv_at hl 2 rfl) ?_
      refine lv_aload_n hx hb dL_law_125 rfl (lv_at hl 3 rfl) ?_
      refine lv_iload_n hx hb dL_law_126 rfl (lv_at hl 0 rfl) ?_
      refine lv_iconst (v := nI 1) hx hb dL_law_127 (by decide) ?_
      refine lv_iadd hx hb dL_law_128 ?_
      refine cv_i (show nI i + nI 1 = nI (i + 1) from nI_add i 1) ?_
      refine va_sld hx hb hX hbl hbA hw.2.2 (vp_in_nI (by omega) (by omega)) dL_law_129 ?_
      refine cv_i (show xs (nI (i + 1)).toNatClampNeg = xs (i + 1) from by rw [nI_clamp (by omega)]) ?_
      refine lv_aload_n hx hb dL_law_130 rfl (lv_at hl 3 rfl) ?_
      refine lv_iload_n hx hb dL_law_131 rfl (lv_at hl 0 rfl) ?_
      refine lv_iconst (v := nI 2) hx hb dL_law_132 (by decide) ?_
      refine lv_iadd hx hb dL_law_133 ?_
      refine cv_i (show nI i + nI 2 = nI (i + 2) from nI_add i 2) ?_
      refine va_sld hx hb hX hbl hbA hw.2.2 (vp_in_nI (by omega) (by omega)) dL_law_134 ?_
      refine cv_i (show xs (nI (i + 2)).toNatClampNeg = xs (i + 2) from by rw [nI_clamp (by omega)]) ?_
      refine x_callV (As := [.int (xs (i + 1)), .int (xs (i + 2))]) (rest := []) X hw hl.1 (c_X5_step l D cI cZ ax t ga la wa pa te ts en st n (xs (i + 1)) (xs (i + 2)) (by first | assumption | omega) (by first | assumption | omega) (by first | assumption | omega)) (cwV 2 hts gL_law_X5_step rfl rfl rfl (by decide +kernel) ⟨Nat.le_of_ble_eq_true rfl, Nat.le_of_ble_eq_true rfl⟩) [0, 1, 2, 3] rfl rfl 0 rfl rfl rfl rfl (Nat.le_of_ble_eq_true rfl) dL_law_135 (by decide) (fun rC w1 H locs hp hw1 => ?_)
      obtain ⟨rC0, nC, enC, stC, hfc, rfl, rfl⟩ := hp
      have hw : WD D (fun q : Nat => s.heap.size ≤ q) s.heap [(ax, .inr (5, [.ref t, .ref ga, .ref la, .ref wa, .ref pa])), (t, .inr (3, [.ref te, .ref ts, .int (nI nC)])), (te, .inl (cI, 16, .inl (iA enC))), (ts, .inl (cI, 17, .inl (iA stC))), (ga, .inr (0, [.ref gc, .ref gn, .int (nI sz)])), (gc, .inl (cI, 16, .inl (iA cu))), (gn, .inl (cI, 16, .inl (iA ne))), (la, .inr (1, [.ref lb, .ref lw, .int (nI nl)])), (lb, .inl (cI, 12, .inl (iA ba))), (lw, .inl (cI, 12, .inl (iA wh))), (wa, .inr (4, [.ref wv, .ref wq])), (wv, .inl (cI, 64, .inl (mA dp))), (wq, .inl (cI, 64, .inl (iA qu))), (pa, .inr (2, [.ref pl, .ref pm])), (pl, .inl (cI, 12, .inl (iA le))), (pm, .inl (cI, 12, .inl (iA mo))), (mx, .inr (6, [.int (nI n), .ref m1, .ref m2, .ref m3, .ref m4, .int (nI nl), .ref m5, .ref m6, .ref m7, .ref m8, .ref m9, .int (nI ct), .ref m10])), (m1, .inl (cI, 16, .inl (iA oo))), (m2, .inl (cI, 16, .inl (iA ii))), (m3, .inl (cI, 12, .inl (iA lle))), (m4, .inl (cI, 12, .inl (iA lmo))), (m5, .inl (cI, 12, .inl (iA aA))), (m6, .inl (cZ, 12, .inl (bA aO))), (m7, .inl (cI, 12, .inl (iA aB))), (m8, .inl (cZ, 12, .inl (bA aI))), (m9, .inl (cI, 17, .inl (iA ss))), (m10, .inl (cI, 64, .inl (iA ww)))] H locs := hw1 rfl
      refine lv_aload_n hx hb dL_law_138 rfl (lv_at hl 1 rfl) ?_
      refine lv_aload_n hx hb dL_law_139 rfl (lv_at hl 3 rfl) ?_
      refine lv_iload_n hx hb dL_law_140 rfl (lv_at hl 0 rfl) ?_
      refine lv_iconst (v := nI 1) hx hb dL_law_141 (by decide) ?_
      refine lv_iadd hx hb dL_law_142 ?_
      refine cv_i (show nI i + nI 1 = nI (i + 1) from nI_add i 1) ?_
      refine va_sld hx hb hX hbl hbA hw.2.2 (vp_in_nI (by omega) (by omega)) dL_law_143 ?_
      refine cv_i (show xs (nI (i + 1)).toNatClampNeg = xs (i + 1) from by rw [nI_clamp (by omega)]) ?_
      refine lv_aload_n hx hb dL_law_144 rfl (lv_at hl 3 rfl) ?_
      refine lv_iload_n hx hb dL_law_145 rfl (lv_at hl 0 rfl) ?_
      refine lv_iconst (v := nI 2) hx hb dL_law_146 (by decide) ?_
      refine lv_iadd hx hb dL_law_147 ?_
      refine cv_i (show nI i + nI 2 = nI (i + 2) from nI_add i 2) ?_
      refine va_sld hx hb hX hbl hbA hw.2.2 (vp_in_nI (by omega) (by omega)) dL_law_148 ?_
      refine cv_i (show xs (nI (i + 2)).toNatClampNeg = xs (i + 2) from by rw [nI_clamp (by omega)]) ?_
      refine x_callV (As := [.int (xs (i + 1)), .int (xs (i + 2))]) (rest := [.int rC]) X hw hl.1 (c_X6_step l D cI cZ mx m1 m2 m3 m4 m5 m6 m7 m8 m9 m10 n nl ct oo ii (xs (i + 1)) (xs (i + 2)) (by first | assumption | omega) (by first | assumption | omega) (by first | assumption | omega)) (cwV 2 hts gL_law_X6_step rfl rfl rfl (by decide +kernel) ⟨Nat.le_of_ble_eq_true rfl, Nat.le_of_ble_eq_true rfl⟩) [16, 17, 18] rfl rfl 0 rfl rfl rfl rfl (Nat.le_of_ble_eq_true rfl) dL_law_149 (by decide) (fun rM w1 H locs hp hw1 => ?_)
      obtain ⟨rM0, nM, ooM, iiM, hfm, rfl, rfl⟩ := hp
      have hw : WD D (fun q : Nat => s.heap.size ≤ q) s.heap [(ax, .inr (5, [.ref t, .ref ga, .ref la, .ref wa, .ref pa])), (t, .inr (3, [.ref te, .ref ts, .int (nI nC)])), (te, .inl (cI, 16, .inl (iA enC))), (ts, .inl (cI, 17, .inl (iA stC))), (ga, .inr (0, [.ref gc, .ref gn, .int (nI sz)])), (gc, .inl (cI, 16, .inl (iA cu))), (gn, .inl (cI, 16, .inl (iA ne))), (la, .inr (1, [.ref lb, .ref lw, .int (nI nl)])), (lb, .inl (cI, 12, .inl (iA ba))), (lw, .inl (cI, 12, .inl (iA wh))), (wa, .inr (4, [.ref wv, .ref wq])), (wv, .inl (cI, 64, .inl (mA dp))), (wq, .inl (cI, 64, .inl (iA qu))), (pa, .inr (2, [.ref pl, .ref pm])), (pl, .inl (cI, 12, .inl (iA le))), (pm, .inl (cI, 12, .inl (iA mo))), (mx, .inr (6, [.int (nI nM), .ref m1, .ref m2, .ref m3, .ref m4, .int (nI nl), .ref m5, .ref m6, .ref m7, .ref m8, .ref m9, .int (nI ct), .ref m10])), (m1, .inl (cI, 16, .inl (iA ooM))), (m2, .inl (cI, 16, .inl (iA iiM))), (m3, .inl (cI, 12, .inl (iA lle))), (m4, .inl (cI, 12, .inl (iA lmo))), (m5, .inl (cI, 12, .inl (iA aA))), (m6, .inl (cZ, 12, .inl (bA aO))), (m7, .inl (cI, 12, .inl (iA aB))), (m8, .inl (cZ, 12, .inl (bA aI))), (m9, .inl (cI, 17, .inl (iA ss))), (m10, .inl (cI, 64, .inl (iA ww)))] H locs := hw1 rfl
      refine lv_icmp_eq (tgt := 639) hx hb dL_law_152 (by decide) (fun c_152 => ?_) (fun c_152 => ?_)
      · skip
        obtain ⟨-, e2, T9⟩ := E_step T hfc hfm
        subst e2
        refine lv_iinc (v := nI (i + 5)) (lv' := [(3, .int (nI (i + 5))), (2, .ref mx), (1, .ref ax), (0, .ref b)]) hx hb dL_law_639 hl (k := 0) rfl (nI_add i 5) (by decide) rfl (fun ls hl => ?_)
        refine lv_goto (tgt := 18) hx hb dL_law_642 (by decide) ?_
        exact ih_18 (i + 5, nC, nl, enC, stC, sz, cu, ne, ba, wh, dp, qu, le, mo, ooM, iiM, lle, lmo, aA, aO, aB, aI, ss, ww, ct) (by show L + 5 - (i + 5) < L + 5 - i; omega) ⟨(show REL nC nl enC stC sz cu ne ba wh dp qu le mo ooM iiM lle lmo aA aO aB aI ss from ⟨T9, hsz, hcu, hne, LS, DK, hqu, hle, hmo, hlle, hlmo, K1, K2, hmo1, hss⟩), (show (i + 5) ≤ L from by omega)⟩ _ _ _ hw (lv_sub hl [0, 1, 2, 3] rfl)
      · skip
        exact absurd ((E_step T hfc hfm).1) c_152
    · skip
      refine lv_tableIn (off := 125) (tgt := 157) hx hb dL_law_32 (by decide) (by decide) (by rfl) (by decide) ?_
      refine lv_aload_n hx hb dL_law_157 rfl (lv_at hl 2 rfl) ?_
      refine x_callV (As := []) (rest := []) X hw hl.1 (c_X5_drop l D cI cZ ax t ga la wa pa te ts en st n (by first | assumption | omega) (by first | assumption | omega) (by first | assumption | omega)) (cwV 0 hts gL_law_X5_drop rfl rfl rfl (by decide +kernel) ⟨Nat.le_of_ble_eq_true rfl, Nat.le_of_ble_eq_true rfl⟩) [0, 1, 2, 3] rfl rfl 0 rfl rfl rfl rfl (Nat.le_of_ble_eq_true rfl) dL_law_158 (by decide) (fun r w1 H locs hp hw1 => ?_)
      obtain ⟨rfl, rfl⟩ := hp
      have hw : WD D (fun q : Nat => s.heap.size ≤ q) s.heap [(ax, .inr (5, [.ref t, .ref ga, .ref la, .ref wa, .ref pa])), (t, .inr (3, [.ref te, .ref ts, .int (nI (n - 1))])), (te, .inl (cI, 16, .inl (iA en))), (ts, .inl (cI, 17, .inl (iA st))), (ga, .inr (0, [.ref gc, .ref gn, .int (nI sz)])), (gc, .inl (cI, 16, .inl (iA cu))), (gn, .inl (cI, 16, .inl (iA ne))), (la, .inr (1, [.ref lb, .ref lw, .int (nI nl)])), (lb, .inl (cI, 12, .inl (iA ba))), (lw, .inl (cI, 12, .inl (iA wh))), (wa, .inr (4, [.ref wv, .ref wq])), (wv, .inl (cI, 64, .inl (mA dp))), (wq, .inl (cI, 64, .inl (iA qu))), (pa, .inr (2, [.ref pl, .ref pm])), (pl, .inl (cI, 12, .inl (iA le))), (pm, .inl (cI, 12, .inl (iA mo))), (mx, .inr (6, [.int (nI n), .ref m1, .ref m2, .ref m3, .ref m4, .int (nI nl), .ref m5, .ref m6, .ref m7, .ref m8, .ref m9, .int (nI ct), .ref m10])), (m1, .inl (cI, 16, .inl (iA oo))), (m2, .inl (cI, 16, .inl (iA ii))), (m3, .inl (cI, 12, .inl (iA lle))), (m4, .inl (cI, 12, .inl (iA lmo))), (m5, .inl (cI, 12, .inl (iA aA))), (m6, .inl (cZ, 12, .inl (bA aO))), (m7, .inl (cI, 12, .inl (iA aB))), (m8, .inl (cZ, 12, .inl (bA aI))), (m9, .inl (cI, 17, .inl (iA ss))), (m10, .inl (cI, 64, .inl (iA ww)))] H locs := hw1 rfl
      refine lv_aload_n hx hb dL_law_161 rfl (lv_at hl 1 rfl) ?_
      refine x_callV (As := []) (rest := [.int (if n = 0 then -3 else nI (n - 1))]) X hw hl.1 (c_X6_drop l D cI cZ mx m1 m2 m3 m4 m5 m6 m7 m8 m9 m10 n nl ct (by first | assumption | omega)) (cwV 0 hts gL_law_X6_drop rfl rfl rfl (by decide +kernel) ⟨Nat.le_of_ble_eq_true rfl, Nat.le_of_ble_eq_true rfl⟩) [16] rfl rfl 0 rfl rfl rfl rfl (Nat.le_of_ble_eq_true rfl) dL_law_162 (by decide) (fun r w1 H locs hp hw1 => ?_)
      obtain ⟨rfl, rfl⟩ := hp
      have hw : WD D (fun q : Nat => s.heap.size ≤ q) s.heap [(ax, .inr (5, [.ref t, .ref ga, .ref la, .ref wa, .ref pa])), (t, .inr (3, [.ref te, .ref ts, .int (nI (n - 1))])), (te, .inl (cI, 16, .inl (iA en))), (ts, .inl (cI, 17, .inl (iA st))), (ga, .inr (0, [.ref gc, .ref gn, .int (nI sz)])), (gc, .inl (cI, 16, .inl (iA cu))), (gn, .inl (cI, 16, .inl (iA ne))), (la, .inr (1, [.ref lb, .ref lw, .int (nI nl)])), (lb, .inl (cI, 12, .inl (iA ba))), (lw, .inl (cI, 12, .inl (iA wh))), (wa, .inr (4, [.ref wv, .ref wq])), (wv, .inl (cI, 64, .inl (mA dp))), (wq, .inl (cI, 64, .inl (iA qu))), (pa, .inr (2, [.ref pl, .ref pm])), (pl, .inl (cI, 12, .inl (iA le))), (pm, .inl (cI, 12, .inl (iA mo))), (mx, .inr (6, [.int (nI (n - 1)), .ref m1, .ref m2, .ref m3, .ref m4, .int (nI nl), .ref m5, .ref m6, .ref m7, .ref m8, .ref m9, .int (nI ct), .ref m10])), (m1, .inl (cI, 16, .inl (iA oo))), (m2, .inl (cI, 16, .inl (iA ii))), (m3, .inl (cI, 12, .inl (iA lle))), (m4, .inl (cI, 12, .inl (iA lmo))), (m5, .inl (cI, 12, .inl (iA aA))), (m6, .inl (cZ, 12, .inl (bA aO))), (m7, .inl (cI, 12, .inl (iA aB))), (m8, .inl (cZ, 12, .inl (bA aI))), (m9, .inl (cI, 17, .inl (iA ss))), (m10, .inl (cI, 64, .inl (iA ww)))] H locs := hw1 rfl
      refine lv_icmp_eq (tgt := 639) hx hb dL_law_165 (by decide) (fun c_165 => ?_) (fun c_165 => ?_)
      · skip
        refine lv_iinc (v := nI (i + 5)) (lv' := [(3, .int (nI (i + 5))), (2, .ref mx), (1, .ref ax), (0, .ref b)]) hx hb dL_law_639 hl (k := 0) rfl (nI_add i 5) (by decide) rfl (fun ls hl => ?_)
        refine lv_goto (tgt := 18) hx hb dL_law_642 (by decide) ?_
        exact ih_18 (i + 5, n - 1, nl, en, st, sz, cu, ne, ba, wh, dp, qu, le, mo, oo, ii, lle, lmo, aA, aO, aB, aI, ss, ww, ct) (by show L + 5 - (i + 5) < L + 5 - i; omega) ⟨(show REL (n - 1) nl en st sz cu ne ba wh dp qu le mo oo ii lle lmo aA aO aB aI ss from ⟨E_drop T, hsz, hcu, hne, LS, DK, hqu, hle, hmo, hlle, hlmo, K1, K2, hmo1, hss⟩), (show (i + 5) ≤ L from by omega)⟩ _ _ _ hw (lv_sub hl [0, 1, 2, 3] rfl)
      · skip
        exact absurd (rfl) c_165
    · skip
      refine lv_tableIn (off := 138) (tgt := 170) hx hb dL_law_32 (by decide) (by decide) (by rfl) (by decide) ?_
      refine lv_aload_n hx hb dL_law_170 rfl (lv_at hl 2 rfl) ?_
      refine x_callV (As := []) (rest := []) X hw hl.1 (c_X5_sound l D cI cZ ax t ga la wa pa te ts en st n (by first | assumption | omega) (by first | assumption | omega) (by first | assumption | omega)) (cwV 0 hts gL_law_X5_sound rfl rfl rfl (by decide +kernel) ⟨Nat.le_of_ble_eq_true rfl, Nat.le_of_ble_eq_true rfl⟩) [0, 1, 2, 3] rfl rfl 0 rfl rfl rfl rfl (Nat.le_of_ble_eq_true rfl) dL_law_171 (by decide) (fun r w1 H locs hp hw1 => ?_)
      obtain ⟨rfl, rfl⟩ := hp
      have hw : WD D (fun q : Nat => s.heap.size ≤ q) s.heap [(ax, .inr (5, [.ref t, .ref ga, .ref la, .ref wa, .ref pa])), (t, .inr (3, [.ref te, .ref ts, .int (nI n)])), (te, .inl (cI, 16, .inl (iA en))), (ts, .inl (cI, 17, .inl (iA st))), (ga, .inr (0, [.ref gc, .ref gn, .int (nI sz)])), (gc, .inl (cI, 16, .inl (iA cu))), (gn, .inl (cI, 16, .inl (iA ne))), (la, .inr (1, [.ref lb, .ref lw, .int (nI nl)])), (lb, .inl (cI, 12, .inl (iA ba))), (lw, .inl (cI, 12, .inl (iA wh))), (wa, .inr (4, [.ref wv, .ref wq])), (wv, .inl (cI, 64, .inl (mA dp))), (wq, .inl (cI, 64, .inl (iA qu))), (pa, .inr (2, [.ref pl, .ref pm])), (pl, .inl (cI, 12, .inl (iA le))), (pm, .inl (cI, 12, .inl (iA mo))), (mx, .inr (6, [.int (nI n), .ref m1, .ref m2, .ref m3, .ref m4, .int (nI nl), .ref m5, .ref m6, .ref m7, .ref m8, .ref m9, .int (nI ct), .ref m10])), (m1, .inl (cI, 16, .inl (iA oo))), (m2, .inl (cI, 16, .inl (iA ii))), (m3, .inl (cI, 12, .inl (iA lle))), (m4, .inl (cI, 12, .inl (iA lmo))), (m5, .inl (cI, 12, .inl (iA aA))), (m6, .inl (cZ, 12, .inl (bA aO))), (m7, .inl (cI, 12, .inl (iA aB))), (m8, .inl (cZ, 12, .inl (bA aI))), (m9, .inl (cI, 17, .inl (iA ss))), (m10, .inl (cI, 64, .inl (iA ww)))] H locs := hw1 rfl
      refine lv_aload_n hx hb dL_law_174 rfl (lv_at hl 1 rfl) ?_
      refine x_callV (As := []) (rest := [.int (fwC en st n)]) X hw hl.1 (c_X6_sound l D cI cZ mx m1 m2 m3 m4 m5 m6 m7 m8 m9 m10 n nl ct oo ii ss (by first | assumption | omega) (by first | assumption | omega) (by first | assumption | omega) (by first | assumption | omega)) (cwV 0 hts gL_law_X6_sound rfl rfl rfl (by decide +kernel) ⟨Nat.le_of_ble_eq_true rfl, Nat.le_of_ble_eq_true rfl⟩) [16, 17, 18, 25] rfl rfl 0 rfl rfl rfl rfl (Nat.le_of_ble_eq_true rfl) dL_law_175 (by decide) (fun r w1 H locs hp hw1 => ?_)
      obtain ⟨sN, hsM, hsN, rfl, rfl⟩ := hp
      have hw : WD D (fun q : Nat => s.heap.size ≤ q) s.heap [(ax, .inr (5, [.ref t, .ref ga, .ref la, .ref wa, .ref pa])), (t, .inr (3, [.ref te, .ref ts, .int (nI n)])), (te, .inl (cI, 16, .inl (iA en))), (ts, .inl (cI, 17, .inl (iA st))), (ga, .inr (0, [.ref gc, .ref gn, .int (nI sz)])), (gc, .inl (cI, 16, .inl (iA cu))), (gn, .inl (cI, 16, .inl (iA ne))), (la, .inr (1, [.ref lb, .ref lw, .int (nI nl)])), (lb, .inl (cI, 12, .inl (iA ba))), (lw, .inl (cI, 12, .inl (iA wh))), (wa, .inr (4, [.ref wv, .ref wq])), (wv, .inl (cI, 64, .inl (mA dp))), (wq, .inl (cI, 64, .inl (iA qu))), (pa, .inr (2, [.ref pl, .ref pm])), (pl, .inl (cI, 12, .inl (iA le))), (pm, .inl (cI, 12, .inl (iA mo))), (mx, .inr (6, [.int (nI n), .ref m1, .ref m2, .ref m3, .ref m4, .int (nI nl), .ref m5, .ref m6, .ref m7, .ref m8, .ref m9, .int (nI ct), .ref m10])), (m1, .inl (cI, 16, .inl (iA oo))), (m2, .inl (cI, 16, .inl (iA ii))), (m3, .inl (cI, 12, .inl (iA lle))), (m4, .inl (cI, 12, .inl (iA lmo))), (m5, .inl (cI, 12, .inl (iA aA))), (m6, .inl (cZ, 12, .inl (bA aO))), (m7, .inl (cI, 12, .inl (iA aB))), (m8, .inl (cZ, 12, .inl (bA aI))), (m9, .inl (cI, 17, .inl (iA sN))), (m10, .inl (cI, 64, .inl (iA ww)))] H locs := hw1 rfl
      refine lv_icmp_eq (tgt := 639) hx hb dL_law_178 (by decide) (fun c_178 => ?_) (fun c_178 => ?_)
      · skip
        refine lv_iinc (v := nI (i + 5)) (lv' := [(3, .int (nI (i + 5))), (2, .ref mx), (1, .ref ax), (0, .ref b)]) hx hb dL_law_639 hl (k := 0) rfl (nI_add i 5) (by decide) rfl (fun ls hl => ?_)
        refine lv_goto (tgt := 18) hx hb dL_law_642 (by decide) ?_
        exact ih_18 (i + 5, n, nl, en, st, sz, cu, ne, ba, wh, dp, qu, le, mo, oo, ii, lle, lmo, aA, aO, aB, aI, sN, ww, ct) (by show L + 5 - (i + 5) < L + 5 - i; omega) ⟨(show REL n nl en st sz cu ne ba wh dp qu le mo oo ii lle lmo aA aO aB aI sN from ⟨T, hsz, hcu, hne, LS, DK, hqu, hle, hmo, hlle, hlmo, K1, K2, hmo1, hsN⟩), (show (i + 5) ≤ L from by omega)⟩ _ _ _ hw (lv_sub hl [0, 1, 2, 3] rfl)
      · skip
        exact absurd (t_fw T) c_178
    · skip
      refine lv_tableIn (off := 151) (tgt := 183) hx hb dL_law_32 (by decide) (by decide) (by rfl) (by decide) ?_
      refine lv_aload_n hx hb dL_law_183 rfl (lv_at hl 2 rfl) ?_
      refine lv_aload_n hx hb dL_law_184 rfl (lv_at hl 3 rfl) ?_
      refine lv_iload_n hx hb dL_law_185 rfl (lv_at hl 0 rfl) ?_
      refine lv_iconst (v := nI 1) hx hb dL_law_186 (by decide) ?_
      refine lv_iadd hx hb dL_law_187 ?_
      refine cv_i (show nI i + nI 1 = nI (i + 1) from nI_add i 1) ?_
      refine va_sld hx hb hX hbl hbA hw.2.2 (vp_in_nI (by omega) (by omega)) dL_law_188 ?_
      refine cv_i (show xs (nI (i + 1)).toNatClampNeg = xs (i + 1) from by rw [nI_clamp (by omega)]) ?_
      refine x_callV (As := [.int (xs (i + 1))]) (rest := []) X hw hl.1 (c_X5_state l D cI cZ ax t ga la wa pa te ts en st n (xs (i + 1)) (by first | assumption | omega) (by first | assumption | omega) (by first | assumption | omega)) (cwV 1 hts gL_law_X5_state rfl rfl rfl (by decide +kernel) ⟨Nat.le_of_ble_eq_true rfl, Nat.le_of_ble_eq_true rfl⟩) [0, 1, 2, 3] rfl rfl 0 rfl rfl rfl rfl (Nat.le_of_ble_eq_true rfl) dL_law_189 (by decide) (fun r w1 H locs hp hw1 => ?_)
      obtain ⟨rfl, rfl⟩ := hp
      have hw : WD D (fun q : Nat => s.heap.size ≤ q) s.heap [(ax, .inr (5, [.ref t, .ref ga, .ref la, .ref wa, .ref pa])), (t, .inr (3, [.ref te, .ref ts, .int (nI n)])), (te, .inl (cI, 16, .inl (iA en))), (ts, .inl (cI, 17, .inl (iA st))), (ga, .inr (0, [.ref gc, .ref gn, .int (nI sz)])), (gc, .inl (cI, 16, .inl (iA cu))), (gn, .inl (cI, 16, .inl (iA ne))), (la, .inr (1, [.ref lb, .ref lw, .int (nI nl)])), (lb, .inl (cI, 12, .inl (iA ba))), (lw, .inl (cI, 12, .inl (iA wh))), (wa, .inr (4, [.ref wv, .ref wq])), (wv, .inl (cI, 64, .inl (mA dp))), (wq, .inl (cI, 64, .inl (iA qu))), (pa, .inr (2, [.ref pl, .ref pm])), (pl, .inl (cI, 12, .inl (iA le))), (pm, .inl (cI, 12, .inl (iA mo))), (mx, .inr (6, [.int (nI n), .ref m1, .ref m2, .ref m3, .ref m4, .int (nI nl), .ref m5, .ref m6, .ref m7, .ref m8, .ref m9, .int (nI ct), .ref m10])), (m1, .inl (cI, 16, .inl (iA oo))), (m2, .inl (cI, 16, .inl (iA ii))), (m3, .inl (cI, 12, .inl (iA lle))), (m4, .inl (cI, 12, .inl (iA lmo))), (m5, .inl (cI, 12, .inl (iA aA))), (m6, .inl (cZ, 12, .inl (bA aO))), (m7, .inl (cI, 12, .inl (iA aB))), (m8, .inl (cZ, 12, .inl (bA aI))), (m9, .inl (cI, 17, .inl (iA ss))), (m10, .inl (cI, 64, .inl (iA ww)))] H locs := hw1 rfl
      refine lv_aload_n hx hb dL_law_192 rfl (lv_at hl 1 rfl) ?_
      refine lv_aload_n hx hb dL_law_193 rfl (lv_at hl 3 rfl) ?_
      refine lv_iload_n hx hb dL_law_194 rfl (lv_at hl 0 rfl) ?_
      refine lv_iconst (v := nI 1) hx hb dL_law_195 (by decide) ?_
      refine lv_iadd hx hb dL_law_196 ?_
      refine cv_i (show nI i + nI 1 = nI (i + 1) from nI_add i 1) ?_
      refine va_sld hx hb hX hbl hbA hw.2.2 (vp_in_nI (by omega) (by omega)) dL_law_197 ?_
      refine cv_i (show xs (nI (i + 1)).toNatClampNeg = xs (i + 1) from by rw [nI_clamp (by omega)]) ?_
      refine x_callV (As := [.int (xs (i + 1))]) (rest := [.int (gd2 (bel (xs (i + 1)) (nI n)) (fwC en st n) (nI (st (xs (i + 1)).toNatClampNeg)))]) X hw hl.1 (c_X6_state l D cI cZ mx m1 m2 m3 m4 m5 m6 m7 m8 m9 m10 n nl ct oo ii ss (xs (i + 1)) (by first | assumption | omega) (by first | assumption | omega) (by first | assumption | omega) (by first | assumption | omega)) (cwV 1 hts gL_law_X6_state rfl rfl rfl (by decide +kernel) ⟨Nat.le_of_ble_eq_true rfl, Nat.le_of_ble_eq_true rfl⟩) [16, 17, 18, 25] rfl rfl 0 rfl rfl rfl rfl (Nat.le_of_ble_eq_true rfl) dL_law_198 (by decide) (fun r w1 H locs hp hw1 => ?_)
      obtain ⟨sN, hsN, rfl, rfl⟩ := hp
      have hw : WD D (fun q : Nat => s.heap.size ≤ q) s.heap [(ax, .inr (5, [.ref t, .ref ga, .ref la, .ref wa, .ref pa])), (t, .inr (3, [.ref te, .ref ts, .int (nI n)])), (te, .inl (cI, 16, .inl (iA en))), (ts, .inl (cI, 17, .inl (iA st))), (ga, .inr (0, [.ref gc, .ref gn, .int (nI sz)])), (gc, .inl (cI, 16, .inl (iA cu))), (gn, .inl (cI, 16, .inl (iA ne))), (la, .inr (1, [.ref lb, .ref lw, .int (nI nl)])), (lb, .inl (cI, 12, .inl (iA ba))), (lw, .inl (cI, 12, .inl (iA wh))), (wa, .inr (4, [.ref wv, .ref wq])), (wv, .inl (cI, 64, .inl (mA dp))), (wq, .inl (cI, 64, .inl (iA qu))), (pa, .inr (2, [.ref pl, .ref pm])), (pl, .inl (cI, 12, .inl (iA le))), (pm, .inl (cI, 12, .inl (iA mo))), (mx, .inr (6, [.int (nI n), .ref m1, .ref m2, .ref m3, .ref m4, .int (nI nl), .ref m5, .ref m6, .ref m7, .ref m8, .ref m9, .int (nI ct), .ref m10])), (m1, .inl (cI, 16, .inl (iA oo))), (m2, .inl (cI, 16, .inl (iA ii))), (m3, .inl (cI, 12, .inl (iA lle))), (m4, .inl (cI, 12, .inl (iA lmo))), (m5, .inl (cI, 12, .inl (iA aA))), (m6, .inl (cZ, 12, .inl (bA aO))), (m7, .inl (cI, 12, .inl (iA aB))), (m8, .inl (cZ, 12, .inl (bA aI))), (m9, .inl (cI, 17, .inl (iA sN))), (m10, .inl (cI, 64, .inl (iA ww)))] H locs := hw1 rfl
      refine lv_icmp_eq (tgt := 639) hx hb dL_law_201 (by decide) (fun c_201 => ?_) (fun c_201 => ?_)
      · skip
        refine lv_iinc (v := nI (i + 5)) (lv' := [(3, .int (nI (i + 5))), (2, .ref mx), (1, .ref ax), (0, .ref b)]) hx hb dL_law_639 hl (k := 0) rfl (nI_add i 5) (by decide) rfl (fun ls hl => ?_)
        refine lv_goto (tgt := 18) hx hb dL_law_642 (by decide) ?_
        exact ih_18 (i + 5, n, nl, en, st, sz, cu, ne, ba, wh, dp, qu, le, mo, oo, ii, lle, lmo, aA, aO, aB, aI, sN, ww, ct) (by show L + 5 - (i + 5) < L + 5 - i; omega) ⟨(show REL n nl en st sz cu ne ba wh dp qu le mo oo ii lle lmo aA aO aB aI sN from ⟨T, hsz, hcu, hne, LS, DK, hqu, hle, hmo, hlle, hlmo, K1, K2, hmo1, hsN⟩), (show (i + 5) ≤ L from by omega)⟩ _ _ _ hw (lv_sub hl [0, 1, 2, 3] rfl)
      · skip
        exact absurd (E_state T) c_201
    · skip
      refine lv_tableIn (off := 174) (tgt := 206) hx hb dL_law_32 (by decide) (by decide) (by rfl) (by decide) ?_
      refine lv_aload_n hx hb dL_law_206 rfl (lv_at hl 2 rfl) ?_
      refine lv_aload_n hx hb dL_law_207 rfl (lv_at hl 3 rfl) ?_
      refine lv_iload_n hx hb dL_law_208 rfl (lv_at hl 0 rfl) ?_
      refine lv_iconst (v := nI 1) hx hb dL_law_209 (by decide) ?_
      refine lv_iadd hx hb dL_law_210 ?_
      refine cv_i (show nI i + nI 1 = nI (i + 1) from nI_add i 1) ?_
      refine va_sld hx hb hX hbl hbA hw.2.2 (vp_in_nI (by omega) (by omega)) dL_law_211 ?_
      refine cv_i (show xs (nI (i + 1)).toNatClampNeg = xs (i + 1) from by rw [nI_clamp (by omega)]) ?_
      refine x_callV (As := [.int (xs (i + 1))]) (rest := []) X hw hl.1 (c_X5_clash l D cI cZ ax t ga la wa pa te ts en st n gc gn cu ne sz (xs (i + 1)) (by first | assumption | omega) (by first | assumption | omega) (by first | assumption | omega) (by first | assumption | omega) (by first | assumption | omega) (by first | assumption | omega)) (cwV 1 hts gL_law_X5_clash rfl rfl rfl (by decide +kernel) ⟨Nat.le_of_ble_eq_true rfl, Nat.le_of_ble_eq_true rfl⟩) [0, 1, 2, 3, 4, 5, 6] rfl rfl 0 rfl rfl rfl rfl (Nat.le_of_ble_eq_true rfl) dL_law_212 (by decide) (fun r w1 H locs hp hw1 => ?_)
      obtain ⟨nfC, cuC, szC, hFD, hnfC, hcuC, hszC, rfl, rfl⟩ := hp
      have hw : WD D (fun q : Nat => s.heap.size ≤ q) s.heap [(ax, .inr (5, [.ref t, .ref ga, .ref la, .ref wa, .ref pa])), (t, .inr (3, [.ref te, .ref ts, .int (nI n)])), (te, .inl (cI, 16, .inl (iA en))), (ts, .inl (cI, 17, .inl (iA st))), (ga, .inr (0, [.ref gc, .ref gn, .int (nI szC)])), (gc, .inl (cI, 16, .inl (iA cuC))), (gn, .inl (cI, 16, .inl (iA nfC))), (la, .inr (1, [.ref lb, .ref lw, .int (nI nl)])), (lb, .inl (cI, 12, .inl (iA ba))), (lw, .inl (cI, 12, .inl (iA wh))), (wa, .inr (4, [.ref wv, .ref wq])), (wv, .inl (cI, 64, .inl (mA dp))), (wq, .inl (cI, 64, .inl (iA qu))), (pa, .inr (2, [.ref pl, .ref pm])), (pl, .inl (cI, 12, .inl (iA le))), (pm, .inl (cI, 12, .inl (iA mo))), (mx, .inr (6, [.int (nI n), .ref m1, .ref m2, .ref m3, .ref m4, .int (nI nl), .ref m5, .ref m6, .ref m7, .ref m8, .ref m9, .int (nI ct), .ref m10])), (m1, .inl (cI, 16, .inl (iA oo))), (m2, .inl (cI, 16, .inl (iA ii))), (m3, .inl (cI, 12, .inl (iA lle))), (m4, .inl (cI, 12, .inl (iA lmo))), (m5, .inl (cI, 12, .inl (iA aA))), (m6, .inl (cZ, 12, .inl (bA aO))), (m7, .inl (cI, 12, .inl (iA aB))), (m8, .inl (cZ, 12, .inl (bA aI))), (m9, .inl (cI, 17, .inl (iA ss))), (m10, .inl (cI, 64, .inl (iA ww)))] H locs := hw1 rfl
      refine lv_aload_n hx hb dL_law_215 rfl (lv_at hl 1 rfl) ?_
      refine lv_aload_n hx hb dL_law_216 rfl (lv_at hl 3 rfl) ?_
      refine lv_iload_n hx hb dL_law_217 rfl (lv_at hl 0 rfl) ?_
      refine lv_iconst (v := nI 1) hx hb dL_law_218 (by decide) ?_
      refine lv_iadd hx hb dL_law_219 ?_
      refine cv_i (show nI i + nI 1 = nI (i + 1) from nI_add i 1) ?_
      refine va_sld hx hb hX hbl hbA hw.2.2 (vp_in_nI (by omega) (by omega)) dL_law_220 ?_
      refine cv_i (show xs (nI (i + 1)).toNatClampNeg = xs (i + 1) from by rw [nI_clamp (by omega)]) ?_
      refine x_callV (As := [.int (xs (i + 1))]) (rest := [.int (gd2 (bel (xs (i + 1)) (nI 2)) (fwC en st n) (fsI (clP en st cuC n szC (xs (i + 1)).toNatClampNeg) n))]) X hw hl.1 (c_X6_clash l D cI cZ mx m1 m2 m3 m4 m5 m6 m7 m8 m9 m10 n nl ct oo ii ss (xs (i + 1)) (by first | assumption | omega) (by first | assumption | omega) (by first | assumption | omega) (by first | assumption | omega)) (cwV 1 hts gL_law_X6_clash rfl rfl rfl (by decide +kernel) ⟨Nat.le_of_ble_eq_true rfl, Nat.le_of_ble_eq_true rfl⟩) [16, 17, 18, 25] rfl rfl 0 rfl rfl rfl rfl (Nat.le_of_ble_eq_true rfl) dL_law_221 (by decide) (fun r w1 H locs hp hw1 => ?_)
      obtain ⟨sN, cN, hsN, hcN, rfl, rfl⟩ := hp
      have hw : WD D (fun q : Nat => s.heap.size ≤ q) s.heap [(ax, .inr (5, [.ref t, .ref ga, .ref la, .ref wa, .ref pa])), (t, .inr (3, [.ref te, .ref ts, .int (nI n)])), (te, .inl (cI, 16, .inl (iA en))), (ts, .inl (cI, 17, .inl (iA st))), (ga, .inr (0, [.ref gc, .ref gn, .int (nI szC)])), (gc, .inl (cI, 16, .inl (iA cuC))), (gn, .inl (cI, 16, .inl (iA nfC))), (la, .inr (1, [.ref lb, .ref lw, .int (nI nl)])), (lb, .inl (cI, 12, .inl (iA ba))), (lw, .inl (cI, 12, .inl (iA wh))), (wa, .inr (4, [.ref wv, .ref wq])), (wv, .inl (cI, 64, .inl (mA dp))), (wq, .inl (cI, 64, .inl (iA qu))), (pa, .inr (2, [.ref pl, .ref pm])), (pl, .inl (cI, 12, .inl (iA le))), (pm, .inl (cI, 12, .inl (iA mo))), (mx, .inr (6, [.int (nI n), .ref m1, .ref m2, .ref m3, .ref m4, .int (nI nl), .ref m5, .ref m6, .ref m7, .ref m8, .ref m9, .int (nI cN), .ref m10])), (m1, .inl (cI, 16, .inl (iA oo))), (m2, .inl (cI, 16, .inl (iA ii))), (m3, .inl (cI, 12, .inl (iA lle))), (m4, .inl (cI, 12, .inl (iA lmo))), (m5, .inl (cI, 12, .inl (iA aA))), (m6, .inl (cZ, 12, .inl (bA aO))), (m7, .inl (cI, 12, .inl (iA aB))), (m8, .inl (cZ, 12, .inl (bA aI))), (m9, .inl (cI, 17, .inl (iA sN))), (m10, .inl (cI, 64, .inl (iA ww)))] H locs := hw1 rfl
      refine lv_icmp_eq (tgt := 639) hx hb dL_law_224 (by decide) (fun c_224 => ?_) (fun c_224 => ?_)
      · skip
        refine lv_iinc (v := nI (i + 5)) (lv' := [(3, .int (nI (i + 5))), (2, .ref mx), (1, .ref ax), (0, .ref b)]) hx hb dL_law_639 hl (k := 0) rfl (nI_add i 5) (by decide) rfl (fun ls hl => ?_)
        refine lv_goto (tgt := 18) hx hb dL_law_642 (by decide) ?_
        exact ih_18 (i + 5, n, nl, en, st, szC, cuC, nfC, ba, wh, dp, qu, le, mo, oo, ii, lle, lmo, aA, aO, aB, aI, sN, ww, cN) (by show L + 5 - (i + 5) < L + 5 - i; omega) ⟨(show REL n nl en st szC cuC nfC ba wh dp qu le mo oo ii lle lmo aA aO aB aI sN from ⟨T, hszC, hcuC, hnfC, LS, DK, hqu, hle, hmo, hlle, hlmo, K1, K2, hmo1, hsN⟩), (show (i + 5) ≤ L from by omega)⟩ _ _ _ hw (lv_sub hl [0, 1, 2, 3] rfl)
      · skip
        exact absurd ((E_clash T hFD).1) c_224
    · skip
      refine lv_tableIn (off := 197) (tgt := 229) hx hb dL_law_32 (by decide) (by decide) (by rfl) (by decide) ?_
      refine lv_aload_n hx hb dL_law_229 rfl (lv_at hl 2 rfl) ?_
      refine lv_aload_n hx hb dL_law_230 rfl (lv_at hl 3 rfl) ?_
      refine lv_iload_n hx hb dL_law_231 rfl (lv_at hl 0 rfl) ?_
      refine lv_iconst (v := nI 1) hx hb dL_law_232 (by decide) ?_
      refine lv_iadd hx hb dL_law_233 ?_
      refine cv_i (show nI i + nI 1 = nI (i + 1) from nI_add i 1) ?_
      refine va_sld hx hb hX hbl hbA hw.2.2 (vp_in_nI (by omega) (by omega)) dL_law_234 ?_
      refine cv_i (show xs (nI (i + 1)).toNatClampNeg = xs (i + 1) from by rw [nI_clamp (by omega)]) ?_
      refine x_callV (As := [.int (xs (i + 1))]) (rest := []) X hw hl.1 (c_X5_clashOf l D cI cZ ax t ga la wa pa te ts en st n gc gn cu ne sz (xs (i + 1)) (by first | assumption | omega) (by first | assumption | omega) (by first | assumption | omega) (by first | assumption | omega) (by first | assumption | omega) (by first | assumption | omega)) (cwV 1 hts gL_law_X5_clashOf rfl rfl rfl (by decide +kernel) ⟨Nat.le_of_ble_eq_true rfl, Nat.le_of_ble_eq_true rfl⟩) [0, 1, 2, 3, 4, 5, 6] rfl rfl 0 rfl rfl rfl rfl (Nat.le_of_ble_eq_true rfl) dL_law_235 (by decide) (fun r w1 H locs hp hw1 => ?_)
      obtain ⟨nfC, cuC, szC, hFD, hnfC, hcuC, hszC, rfl, rfl⟩ := hp
      have hw : WD D (fun q : Nat => s.heap.size ≤ q) s.heap [(ax, .inr (5, [.ref t, .ref ga, .ref la, .ref wa, .ref pa])), (t, .inr (3, [.ref te, .ref ts, .int (nI n)])), (te, .inl (cI, 16, .inl (iA en))), (ts, .inl (cI, 17, .inl (iA st))), (ga, .inr (0, [.ref gc, .ref gn, .int (nI szC)])), (gc, .inl (cI, 16, .inl (iA cuC))), (gn, .inl (cI, 16, .inl (iA nfC))), (la, .inr (1, [.ref lb, .ref lw, .int (nI nl)])), (lb, .inl (cI, 12, .inl (iA ba))), (lw, .inl (cI, 12, .inl (iA wh))), (wa, .inr (4, [.ref wv, .ref wq])), (wv, .inl (cI, 64, .inl (mA dp))), (wq, .inl (cI, 64, .inl (iA qu))), (pa, .inr (2, [.ref pl, .ref pm])), (pl, .inl (cI, 12, .inl (iA le))), (pm, .inl (cI, 12, .inl (iA mo))), (mx, .inr (6, [.int (nI n), .ref m1, .ref m2, .ref m3, .ref m4, .int (nI nl), .ref m5, .ref m6, .ref m7, .ref m8, .ref m9, .int (nI ct), .ref m10])), (m1, .inl (cI, 16, .inl (iA oo))), (m2, .inl (cI, 16, .inl (iA ii))), (m3, .inl (cI, 12, .inl (iA lle))), (m4, .inl (cI, 12, .inl (iA lmo))), (m5, .inl (cI, 12, .inl (iA aA))), (m6, .inl (cZ, 12, .inl (bA aO))), (m7, .inl (cI, 12, .inl (iA aB))), (m8, .inl (cZ, 12, .inl (bA aI))), (m9, .inl (cI, 17, .inl (iA ss))), (m10, .inl (cI, 64, .inl (iA ww)))] H locs := hw1 rfl
      refine lv_aload_n hx hb dL_law_238 rfl (lv_at hl 1 rfl) ?_
      refine lv_aload_n hx hb dL_law_239 rfl (lv_at hl 3 rfl) ?_
      refine lv_iload_n hx hb dL_law_240 rfl (lv_at hl 0 rfl) ?_
      refine lv_iconst (v := nI 1) hx hb dL_law_241 (by decide) ?_
      refine lv_iadd hx hb dL_law_242 ?_
      refine cv_i (show nI i + nI 1 = nI (i + 1) from nI_add i 1) ?_
      refine va_sld hx hb hX hbl hbA hw.2.2 (vp_in_nI (by omega) (by omega)) dL_law_243 ?_
      refine cv_i (show xs (nI (i + 1)).toNatClampNeg = xs (i + 1) from by rw [nI_clamp (by omega)]) ?_
      refine x_callV (As := [.int (xs (i + 1))]) (rest := [.int (gd2 (bel (xs (i + 1)) (nI 2)) (fwC en st n) (clO en st cuC n szC (xs (i + 1)).toNatClampNeg))]) X hw hl.1 (c_X6_clashOf l D cI cZ mx m1 m2 m3 m4 m5 m6 m7 m8 m9 m10 n nl ct oo ii ss (xs (i + 1)) (by first | assumption | omega) (by first | assumption | omega) (by first | assumption | omega) (by first | assumption | omega)) (cwV 1 hts gL_law_X6_clashOf rfl rfl rfl (by decide +kernel) ⟨Nat.le_of_ble_eq_true rfl, Nat.le_of_ble_eq_true rfl⟩) [16, 17, 18, 25] rfl rfl 0 rfl rfl rfl rfl (Nat.le_of_ble_eq_true rfl) dL_law_244 (by decide) (fun r w1 H locs hp hw1 => ?_)
      obtain ⟨sN, cN, hsN, hcN, rfl, rfl⟩ := hp
      have hw : WD D (fun q : Nat => s.heap.size ≤ q) s.heap [(ax, .inr (5, [.ref t, .ref ga, .ref la, .ref wa, .ref pa])), (t, .inr (3, [.ref te, .ref ts, .int (nI n)])), (te, .inl (cI, 16, .inl (iA en))), (ts, .inl (cI, 17, .inl (iA st))), (ga, .inr (0, [.ref gc, .ref gn, .int (nI szC)])), (gc, .inl (cI, 16, .inl (iA cuC))), (gn, .inl (cI, 16, .inl (iA nfC))), (la, .inr (1, [.ref lb, .ref lw, .int (nI nl)])), (lb, .inl (cI, 12, .inl (iA ba))), (lw, .inl (cI, 12, .inl (iA wh))), (wa, .inr (4, [.ref wv, .ref wq])), (wv, .inl (cI, 64, .inl (mA dp))), (wq, .inl (cI, 64, .inl (iA qu))), (pa, .inr (2, [.ref pl, .ref pm])), (pl, .inl (cI, 12, .inl (iA le))), (pm, .inl (cI, 12, .inl (iA mo))), (mx, .inr (6, [.int (nI n), .ref m1, .ref m2, .ref m3, .ref m4, .int (nI nl), .ref m5, .ref m6, .ref m7, .ref m8, .ref m9, .int (nI cN), .ref m10])), (m1, .inl (cI, 16, .inl (iA oo))), (m2, .inl (cI, 16, .inl (iA ii))), (m3, .inl (cI, 12, .inl (iA lle))), (m4, .inl (cI, 12, .inl (iA lmo))), (m5, .inl (cI, 12, .inl (iA aA))), (m6, .inl (cZ, 12, .inl (bA aO))), (m7, .inl (cI, 12, .inl (iA aB))), (m8, .inl (cZ, 12, .inl (bA aI))), (m9, .inl (cI, 17, .inl (iA sN))), (m10, .inl (cI, 64, .inl (iA ww)))] H locs := hw1 rfl
      refine lv_icmp_eq (tgt := 639) hx hb dL_law_247 (by decide) (fun c_247 => ?_) (fun c_247 => ?_)
      · skip
        refine lv_iinc (v := nI (i + 5)) (lv' := [(3, .int (nI (i + 5))), (2, .ref mx), (1, .ref ax), (0, .ref b)]) hx hb dL_law_639 hl (k := 0) rfl (nI_add i 5) (by decide) rfl (fun ls hl => ?_)
        refine lv_goto (tgt := 18) hx hb dL_law_642 (by decide) ?_
        exact ih_18 (i + 5, n, nl, en, st, szC, cuC, nfC, ba, wh, dp, qu, le, mo, oo, ii, lle, lmo, aA, aO, aB, aI, sN, ww, cN) (by show L + 5 - (i + 5) < L + 5 - i; omega) ⟨(show REL n nl en st szC cuC nfC ba wh dp qu le mo oo ii lle lmo aA aO aB aI sN from ⟨T, hszC, hcuC, hnfC, LS, DK, hqu, hle, hmo, hlle, hlmo, K1, K2, hmo1, hsN⟩), (show (i + 5) ≤ L from by omega)⟩ _ _ _ hw (lv_sub hl [0, 1, 2, 3] rfl)
      · skip
        exact absurd ((E_clash T hFD).2) c_247
    · skip
      refine lv_tableIn (off := 220) (tgt := 252) hx hb dL_law_32 (by decide) (by decide) (by rfl) (by decide) ?_
      refine lv_aload_n hx hb dL_law_252 rfl (lv_at hl 2 rfl) ?_
      refine x_callV (As := []) (rest := []) X hw hl.1 (c_X5_groups l D cI cZ ax t ga la wa pa te ts en st n gc gn cu ne sz (by first | assumption | omega) (by first | assumption | omega) (by first | assumption | omega) (by first | assumption | omega) (by first | assumption | omega) (by first | assumption | omega)) (cwV 0 hts gL_law_X5_groups rfl rfl rfl (by decide +kernel) ⟨Nat.le_of_ble_eq_true rfl, Nat.le_of_ble_eq_true rfl⟩) [0, 1, 2, 3, 4, 5, 6] rfl rfl 0 rfl rfl rfl rfl (Nat.le_of_ble_eq_true rfl) dL_law_253 (by decide) (fun r w1 H locs hp hw1 => ?_)
      obtain ⟨nfC, cuC, szC, hFD, hnfC, hcuC, hszC, rfl, rfl⟩ := hp
      have hw : WD D (fun q : Nat => s.heap.size ≤ q) s.heap [(ax, .inr (5, [.ref t, .ref ga, .ref la, .ref wa, .ref pa])), (t, .inr (3, [.ref te, .ref ts, .int (nI n)])), (te, .inl (cI, 16, .inl (iA en))), (ts, .inl (cI, 17, .inl (iA st))), (ga, .inr (0, [.ref gc, .ref gn, .int (nI szC)])), (gc, .inl (cI, 16, .inl (iA cuC))), (gn, .inl (cI, 16, .inl (iA nfC))), (la, .inr (1, [.ref lb, .ref lw, .int (nI nl)])), (lb, .inl (cI, 12, .inl (iA ba))), (lw, .inl (cI, 12, .inl (iA wh))), (wa, .inr (4, [.ref wv, .ref wq])), (wv, .inl (cI, 64, .inl (mA dp))), (wq, .inl (cI, 64, .inl (iA qu))), (pa, .inr (2, [.ref pl, .ref pm])), (pl, .inl (cI, 12, .inl (iA le))), (pm, .inl (cI, 12, .inl (iA mo))), (mx, .inr (6, [.int (nI n), .ref m1, .ref m2, .ref m3, .ref m4, .int (nI nl), .ref m5, .ref m6, .ref m7, .ref m8, .ref m9, .int (nI ct), .ref m10])), (m1, .inl (cI, 16, .inl (iA oo))), (m2, .inl (cI, 16, .inl (iA ii))), (m3, .inl (cI, 12, .inl (iA lle))), (m4, .inl (cI, 12, .inl (iA lmo))), (m5, .inl (cI, 12, .inl (iA aA))), (m6, .inl (cZ, 12, .inl (bA aO))), (m7, .inl (cI, 12, .inl (iA aB))), (m8, .inl (cZ, 12, .inl (bA aI))), (m9, .inl (cI, 17, .inl (iA ss))), (m10, .inl (cI, 64, .inl (iA ww)))] H locs := hw1 rfl
      refine lv_aload_n hx hb dL_law_256 rfl (lv_at hl 1 rfl) ?_
      refine x_callV (As := []) (rest := [.int (gd1 (fwC en st n) (nI szC))]) X hw hl.1 (c_X6_groups l D cI cZ mx m1 m2 m3 m4 m5 m6 m7 m8 m9 m10 n nl ct oo ii ss (by first | assumption | omega) (by first | assumption | omega) (by first | assumption | omega) (by first | assumption | omega)) (cwV 0 hts gL_law_X6_groups rfl rfl rfl (by decide +kernel) ⟨Nat.le_of_ble_eq_true rfl, Nat.le_of_ble_eq_true rfl⟩) [16, 17, 18, 25] rfl rfl 0 rfl rfl rfl rfl (Nat.le_of_ble_eq_true rfl) dL_law_257 (by decide) (fun r w1 H locs hp hw1 => ?_)
      obtain ⟨sN, cN, hsN, hcN, rfl, rfl⟩ := hp
      have hw : WD D (fun q : Nat => s.heap.size ≤ q) s.heap [(ax, .inr (5, [.ref t, .ref ga, .ref la, .ref wa, .ref pa])), (t, .inr (3, [.ref te, .ref ts, .int (nI n)])), (te, .inl (cI, 16, .inl (iA en))), (ts, .inl (cI, 17, .inl (iA st))), (ga, .inr (0, [.ref gc, .ref gn, .int (nI szC)])), (gc, .inl (cI, 16, .inl (iA cuC))), (gn, .inl (cI, 16, .inl (iA nfC))), (la, .inr (1, [.ref lb, .ref lw, .int (nI nl)])), (lb, .inl (cI, 12, .inl (iA ba))), (lw, .inl (cI, 12, .inl (iA wh))), (wa, .inr (4, [.ref wv, .ref wq])), (wv, .inl (cI, 64, .inl (mA dp))), (wq, .inl (cI, 64, .inl (iA qu))), (pa, .inr (2, [.ref pl, .ref pm])), (pl, .inl (cI, 12, .inl (iA le))), (pm, .inl (cI, 12, .inl (iA mo))), (mx, .inr (6, [.int (nI n), .ref m1, .ref m2, .ref m3, .ref m4, .int (nI nl), .ref m5, .ref m6, .ref m7, .ref m8, .ref m9, .int (nI cN), .ref m10])), (m1, .inl (cI, 16, .inl (iA oo))), (m2, .inl (cI, 16, .inl (iA ii))), (m3, .inl (cI, 12, .inl (iA lle))), (m4, .inl (cI, 12, .inl (iA lmo))), (m5, .inl (cI, 12, .inl (iA aA))), (m6, .inl (cZ, 12, .inl (bA aO))), (m7, .inl (cI, 12, .inl (iA aB))), (m8, .inl (cZ, 12, .inl (bA aI))), (m9, .inl (cI, 17, .inl (iA sN))), (m10, .inl (cI, 64, .inl (iA ww)))] H locs := hw1 rfl
      refine lv_icmp_eq (tgt := 639) hx hb dL_law_260 (by decide) (fun c_260 => ?_) (fun c_260 => ?_)
      · skip
        refine lv_iinc (v := nI (i + 5)) (lv' := [(3, .int (nI (i + 5))), (2, .ref mx), (1, .ref ax), (0, .ref b)]) hx hb dL_law_639 hl (k := 0) rfl (nI_add i 5) (by decide) rfl (fun ls hl => ?_)
        refine lv_goto (tgt := 18) hx hb dL_law_642 (by decide) ?_
        exact ih_18 (i + 5, n, nl, en, st, szC, cuC, nfC, ba, wh, dp, qu, le, mo, oo, ii, lle, lmo, aA, aO, aB, aI, sN, ww, cN) (by show L + 5 - (i + 5) < L + 5 - i; omega) ⟨(show REL n nl en st szC cuC nfC ba wh dp qu le mo oo ii lle lmo aA aO aB aI sN from ⟨T, hszC, hcuC, hnfC, LS, DK, hqu, hle, hmo, hlle, hlmo, K1, K2, hmo1, hsN⟩), (show (i + 5) ≤ L from by omega)⟩ _ _ _ hw (lv_sub hl [0, 1, 2, 3] rfl)
      · skip
        exact absurd (E_groups T hFD) c_260
    · skip
      refine lv_tableIn (off := 233) (tgt := 265) hx hb dL_law_32 (by decide) (by decide) (by rfl) (by decide) ?_
      refine lv_aload_n hx hb dL_law_265 rfl (lv_at hl 2 rfl) ?_
      refine lv_aload_n hx hb dL_law_266 rfl (lv_at hl 3 rfl) ?_
      refine lv_iload_n hx hb dL_law_267 rfl (lv_at hl 0 rfl) ?_
      refine lv_iconst (v := nI 1) hx hb dL_law_268 (by decide) ?_
      refine lv_iadd hx hb dL_law_269 ?_
      refine cv_i (show nI i + nI 1 = nI (i + 1) from nI_add i 1) ?_
      refine va_sld hx hb hX hbl hbA hw.2.2 (vp_in_nI (by omega) (by omega)) dL_law_270 ?_
      refine cv_i (show xs (nI (i + 1)).toNatClampNeg = xs (i + 1) from by rw [nI_clamp (by omega)]) ?_
      refine x_callV (As := [.int (xs (i + 1))]) (rest := []) X hw hl.1 (c_X5_cut l D cI cZ ax t ga la wa pa te ts en st n gc gn cu ne sz (xs (i + 1)) (by first | assumption | omega) (by first | assumption | omega) (by first | assumption | omega) (by first | assumption | omega) (by first | assumption | omega) (by first | assumption | omega)) (cwV 1 hts gL_law_X5_cut rfl rfl rfl (by decide +kernel) ⟨Nat.le_of_ble_eq_true rfl, Nat.le_of_ble_eq_true rfl⟩) [0, 1, 2, 3, 4, 5, 6] rfl rfl 0 rfl rfl rfl rfl (Nat.le_of_ble_eq_true rfl) dL_law_271 (by decide) (fun r w1 H locs hp hw1 => ?_)
      obtain ⟨nfC, cuC, szC, hFD, hnfC, hcuC, hszC, rfl, rfl⟩ := hp
      have hw : WD D (fun q : Nat => s.heap.size ≤ q) s.heap [(ax, .inr (5, [.ref t, .ref ga, .ref la, .ref wa, .ref pa])), (t, .inr (3, [.ref te, .ref ts, .int (nI n)])), (te, .inl (cI, 16, .inl (iA en))), (ts, .inl (cI, 17, .inl (iA st))), (ga, .inr (0, [.ref gc, .ref gn, .int (nI szC)])), (gc, .inl (cI, 16, .inl (iA cuC))), (gn, .inl (cI, 16, .inl (iA nfC))), (la, .inr (1, [.ref lb, .ref lw, .int (nI nl)])), (lb, .inl (cI, 12, .inl (iA ba))), (lw, .inl (cI, 12, .inl (iA wh))), (wa, .inr (4, [.ref wv, .ref wq])), (wv, .inl (cI, 64, .inl (mA dp))), (wq, .inl (cI, 64, .inl (iA qu))), (pa, .inr (2, [.ref pl, .ref pm])), (pl, .inl (cI, 12, .inl (iA le))), (pm, .inl (cI, 12, .inl (iA mo))), (mx, .inr (6, [.int (nI n), .ref m1, .ref m2, .ref m3, .ref m4, .int (nI nl), .ref m5, .ref m6, .ref m7, .ref m8, .ref m9, .int (nI ct), .ref m10])), (m1, .inl (cI, 16, .inl (iA oo))), (m2, .inl (cI, 16, .inl (iA ii))), (m3, .inl (cI, 12, .inl (iA lle))), (m4, .inl (cI, 12, .inl (iA lmo))), (m5, .inl (cI, 12, .inl (iA aA))), (m6, .inl (cZ, 12, .inl (bA aO))), (m7, .inl (cI, 12, .inl (iA aB))), (m8, .inl (cZ, 12, .inl (bA aI))), (m9, .inl (cI, 17, .inl (iA ss))), (m10, .inl (cI, 64, .inl (iA ww)))] H locs := hw1 rfl
      refine lv_aload_n hx hb dL_law_274 rfl (lv_at hl 1 rfl) ?_
      refine lv_aload_n hx hb dL_law_275 rfl (lv_at hl 3 rfl) ?_
      refine lv_iload_n hx hb dL_law_276 rfl (lv_at hl 0 rfl) ?_
      refine lv_iconst (v := nI 1) hx hb dL_law_277 (by decide) ?_
      refine lv_iadd hx hb dL_law_278 ?_
      refine cv_i (show nI i + nI 1 = nI (i + 1) from nI_add i 1) ?_
      refine va_sld hx hb hX hbl hbA hw.2.2 (vp_in_nI (by omega) (by omega)) dL_law_279 ?_
      refine cv_i (show xs (nI (i + 1)).toNatClampNeg = xs (i + 1) from by rw [nI_clamp (by omega)]) ?_
      refine x_callV (As := [.int (xs (i + 1))]) (rest := [.int (if (xs (i + 1)) < 0 then -2 else gd1 (fwC en st n) (if nI szC ≤ (xs (i + 1)) then -2 else nI (cuC (xs (i + 1)).toNatClampNeg)))]) X hw hl.1 (c_X6_cut l D cI cZ mx m1 m2 m3 m4 m5 m6 m7 m8 m9 m10 n nl ct oo ii ss (xs (i + 1)) (by first | assumption | omega) (by first | assumption | omega) (by first | assumption | omega) (by first | assumption | omega)) (cwV 1 hts gL_law_X6_cut rfl rfl rfl (by decide +kernel) ⟨Nat.le_of_ble_eq_true rfl, Nat.le_of_ble_eq_true rfl⟩) [16, 17, 18, 25] rfl rfl 0 rfl rfl rfl rfl (Nat.le_of_ble_eq_true rfl) dL_law_280 (by decide) (fun r w1 H locs hp hw1 => ?_)
      obtain ⟨sN, cN, hsN, hcN, rfl, rfl⟩ := hp
      have hw : WD D (fun q : Nat => s.heap.size ≤ q) s.heap [(ax, .inr (5, [.ref t, .ref ga, .ref la, .ref wa, .ref pa])), (t, .inr (3, [.ref te, .ref ts, .int (nI n)])), (te, .inl (cI, 16, .inl (iA en))), (ts, .inl (cI, 17, .inl (iA st))), (ga, .inr (0, [.ref gc, .ref gn, .int (nI szC)])), (gc, .inl (cI, 16, .inl (iA cuC))), (gn, .inl (cI, 16, .inl (iA nfC))), (la, .inr (1, [.ref lb, .ref lw, .int (nI nl)])), (lb, .inl (cI, 12, .inl (iA ba))), (lw, .inl (cI, 12, .inl (iA wh))), (wa, .inr (4, [.ref wv, .ref wq])), (wv, .inl (cI, 64, .inl (mA dp))), (wq, .inl (cI, 64, .inl (iA qu))), (pa, .inr (2, [.ref pl, .ref pm])), (pl, .inl (cI, 12, .inl (iA le))), (pm, .inl (cI, 12, .inl (iA mo))), (mx, .inr (6, [.int (nI n), .ref m1, .ref m2, .ref m3, .ref m4, .int (nI nl), .ref m5, .ref m6, .ref m7, .ref m8, .ref m9, .int (nI cN), .ref m10])), (m1, .inl (cI, 16, .inl (iA oo))), (m2, .inl (cI, 16, .inl (iA ii))), (m3, .inl (cI, 12, .inl (iA lle))), (m4, .inl (cI, 12, .inl (iA lmo))), (m5, .inl (cI, 12, .inl (iA aA))), (m6, .inl (cZ, 12, .inl (bA aO))), (m7, .inl (cI, 12, .inl (iA aB))), (m8, .inl (cZ, 12, .inl (bA aI))), (m9, .inl (cI, 17, .inl (iA sN))), (m10, .inl (cI, 64, .inl (iA ww)))] H locs := hw1 rfl
      refine lv_icmp_eq (tgt := 639) hx hb dL_law_283 (by decide) (fun c_283 => ?_) (fun c_283 => ?_)
      · skip
        refine lv_iinc (v := nI (i + 5)) (lv' := [(3, .int (nI (i + 5))), (2, .ref mx), (1, .ref ax), (0, .ref b)]) hx hb dL_law_639 hl (k := 0) rfl (nI_add i 5) (by decide) rfl (fun ls hl => ?_)
        refine lv_goto (tgt := 18) hx hb dL_law_642 (by decide) ?_
        exact ih_18 (i + 5, n, nl, en, st, szC, cuC, nfC, ba, wh, dp, qu, le, mo, oo, ii, lle, lmo, aA, aO, aB, aI, sN, ww, cN) (by show L + 5 - (i + 5) < L + 5 - i; omega) ⟨(show REL n nl en st szC cuC nfC ba wh dp qu le mo oo ii lle lmo aA aO aB aI sN from ⟨T, hszC, hcuC, hnfC, LS, DK, hqu, hle, hmo, hlle, hlmo, K1, K2, hmo1, hsN⟩), (show (i + 5) ≤ L from by omega)⟩ _ _ _ hw (lv_sub hl [0, 1, 2, 3] rfl)
      · skip
        exact absurd (E_cut T hszC hFD) c_283
    · skip
      refine lv_tableIn (off := 256) (tgt := 288) hx hb dL_law_32 (by decide) (by decide) (by rfl) (by decide) ?_
      refine lv_aload_n hx hb dL_law_288 rfl (lv_at hl 2 rfl) ?_
      refine x_callV (As := []) (rest := []) X hw hl.1 (c_X5_memories l D cI cZ ax t ga la wa pa te ts en st n (by first | assumption | omega) (by first | assumption | omega) (by first | assumption | omega)) (cwV 0 hts gL_law_X5_memories rfl rfl rfl (by decide +kernel) ⟨Nat.le_of_ble_eq_true rfl, Nat.le_of_ble_eq_true rfl⟩) [0, 1, 2, 3] rfl rfl 0 rfl rfl rfl rfl (Nat.le_of_ble_eq_true rfl) dL_law_289 (by decide) (fun r w1 H locs hp hw1 => ?_)
      obtain ⟨rfl, rfl⟩ := hp
      have hw : WD D (fun q : Nat => s.heap.size ≤ q) s.heap [(ax, .inr (5, [.ref t, .ref ga, .ref la, .ref wa, .ref pa])), (t, .inr (3, [.ref te, .ref ts, .int (nI n)])), (te, .inl (cI, 16, .inl (iA en))), (ts, .inl (cI, 17, .inl (iA st))), (ga, .inr (0, [.ref gc, .ref gn, .int (nI sz)])), (gc, .inl (cI, 16, .inl (iA cu))), (gn, .inl (cI, 16, .inl (iA ne))), (la, .inr (1, [.ref lb, .ref lw, .int (nI nl)])), (lb, .inl (cI, 12, .inl (iA ba))), (lw, .inl (cI, 12, .inl (iA wh))), (wa, .inr (4, [.ref wv, .ref wq])), (wv, .inl (cI, 64, .inl (mA dp))), (wq, .inl (cI, 64, .inl (iA qu))), (pa, .inr (2, [.ref pl, .ref pm])), (pl, .inl (cI, 12, .inl (iA le))), (pm, .inl (cI, 12, .inl (iA mo))), (mx, .inr (6, [.int (nI n), .ref m1, .ref m2, .ref m3, .ref m4, .int (nI nl), .ref m5, .ref m6, .ref m7, .ref m8, .ref m9, .int (nI ct), .ref m10])), (m1, .inl (cI, 16, .inl (iA oo))), (m2, .inl (cI, 16, .inl (iA ii))), (m3, .inl (cI, 12, .inl (iA lle))), (m4, .inl (cI, 12, .inl (iA lmo))), (m5, .inl (cI, 12, .inl (iA aA))), (m6, .inl (cZ, 12, .inl (bA aO))), (m7, .inl (cI, 12, .inl (iA aB))), (m8, .inl (cZ, 12, .inl (bA aI))), (m9, .inl (cI, 17, .inl (iA ss))), (m10, .inl (cI, 64, .inl (iA ww)))] H locs := hw1 rfl
      refine lv_aload_n hx hb dL_law_292 rfl (lv_at hl 1 rfl) ?_
      refine x_callV (As := []) (rest := [.int (gd1 (fwC en st n) (nI (memN (mal st n n))))]) X hw hl.1 (c_X6_memories l D cI cZ mx m1 m2 m3 m4 m5 m6 m7 m8 m9 m10 n nl ct oo ii ss (by first | assumption | omega) (by first | assumption | omega) (by first | assumption | omega) (by first | assumption | omega)) (cwV 0 hts gL_law_X6_memories rfl rfl rfl (by decide +kernel) ⟨Nat.le_of_ble_eq_true rfl, Nat.le_of_ble_eq_true rfl⟩) [16, 17, 18, 25] rfl rfl 0 rfl rfl rfl rfl (Nat.le_of_ble_eq_true rfl) dL_law_293 (by decide) (fun r w1 H locs hp hw1 => ?_)
      obtain ⟨sN, hsN, rfl, rfl⟩ := hp
      have hw : WD D (fun q : Nat => s.heap.size ≤ q) s.heap [(ax, .inr (5, [.ref t, .ref ga, .ref la, .ref wa, .ref pa])), (t, .inr (3, [.ref te, .ref ts, .int (nI n)])), (te, .inl (cI, 16, .inl (iA en))), (ts, .inl (cI, 17, .inl (iA st))), (ga, .inr (0, [.ref gc, .ref gn, .int (nI sz)])), (gc, .inl (cI, 16, .inl (iA cu))), (gn, .inl (cI, 16, .inl (iA ne))), (la, .inr (1, [.ref lb, .ref lw, .int (nI nl)])), (lb, .inl (cI, 12, .inl (iA ba))), (lw, .inl (cI, 12, .inl (iA wh))), (wa, .inr (4, [.ref wv, .ref wq])), (wv, .inl (cI, 64, .inl (mA dp))), (wq, .inl (cI, 64, .inl (iA qu))), (pa, .inr (2, [.ref pl, .ref pm])), (pl, .inl (cI, 12, .inl (iA le))), (pm, .inl (cI, 12, .inl (iA mo))), (mx, .inr (6, [.int (nI n), .ref m1, .ref m2, .ref m3, .ref m4, .int (nI nl), .ref m5, .ref m6, .ref m7, .ref m8, .ref m9, .int (nI ct), .ref m10])), (m1, .inl (cI, 16, .inl (iA oo))), (m2, .inl (cI, 16, .inl (iA ii))), (m3, .inl (cI, 12, .inl (iA lle))), (m4, .inl (cI, 12, .inl (iA lmo))), (m5, .inl (cI, 12, .inl (iA aA))), (m6, .inl (cZ, 12, .inl (bA aO))), (m7, .inl (cI, 12, .inl (iA aB))), (m8, .inl (cZ, 12, .inl (bA aI))), (m9, .inl (cI, 17, .inl (iA sN))), (m10, .inl (cI, 64, .inl (iA ww)))] H locs := hw1 rfl
      refine lv_icmp_eq (tgt := 639) hx hb dL_law_296 (by decide) (fun c_296 => ?_) (fun c_296 => ?_)
      · skip
        refine lv_iinc (v := nI (i + 5)) (lv' := [(3, .int (nI (i + 5))), (2, .ref mx), (1, .ref ax), (0, .ref b)]) hx hb dL_law_639 hl (k := 0) rfl (nI_add i 5) (by decide) rfl (fun ls hl => ?_)
        refine lv_goto (tgt := 18) hx hb dL_law_642 (by decide) ?_
        exact ih_18 (i + 5, n, nl, en, st, sz, cu, ne, ba, wh, dp, qu, le, mo, oo, ii, lle, lmo, aA, aO, aB, aI, sN, ww, ct) (by show L + 5 - (i + 5) < L + 5 - i; omega) ⟨(show REL n nl en st sz cu ne ba wh dp qu le mo oo ii lle lmo aA aO aB aI sN from ⟨T, hsz, hcu, hne, LS, DK, hqu, hle, hmo, hlle, hlmo, K1, K2, hmo1, hsN⟩), (show (i + 5) ≤ L from by omega)⟩ _ _ _ hw (lv_sub hl [0, 1, 2, 3] rfl)
      · skip
        exact absurd (E_mem T) c_296
    · skip
      refine lv_tableIn (off := 269) (tgt := 301) hx hb dL_law_32 (by decide) (by decide) (by rfl) (by decide) ?_
      refine lv_aload_n hx hb dL_law_301 rfl (lv_at hl 2 rfl) ?_
      refine lv_aload_n hx hb dL_law_302 rfl (lv_at hl 3 rfl) ?_
      refine lv_iload_n hx hb dL_law_303 rfl (lv_at hl 0 rfl) ?_
      refine lv_iconst (v := nI 1) hx hb dL_law_304 (by decide) ?_
      refine lv_iadd hx hb dL_law_305 ?_
      refine cv_i (show nI i + nI 1 = nI (i + 1) from nI_add i 1) ?_
      refine va_sld hx hb hX hbl hbA hw.2.2 (vp_in_nI (by omega) (by omega)) dL_law_306 ?_
      refine cv_i (show xs (nI (i + 1)).toNatClampNeg = xs (i + 1) from by rw [nI_clamp (by omega)]) ?_
      refine wj (α := Unit) (nL := 4) 320 (fun aQ => True) (fun aQ => [(ax, .inr (5, [.ref t, .ref ga, .ref la, .ref wa, .ref pa])), (t, .inr (3, [.ref te, .ref ts, .int (nI n)])), (te, .inl (cI, 16, .inl (iA en))), (ts, .inl (cI, 17, .inl (iA st))), (ga, .inr (0, [.ref gc, .ref gn, .int (nI sz)])), (gc, .inl (cI, 16, .inl (iA cu))), (gn, .inl (cI, 16, .inl (iA ne))), (la, .inr (1, [.ref lb, .ref lw, .int (nI nl)])), (lb, .inl (cI, 12, .inl (iA ba))), (lw, .inl (cI, 12, .inl (iA wh))), (wa, .inr (4, [.ref wv, .ref wq])), (wv, .inl (cI, 64, .inl (mA dp))), (wq, .inl (cI, 64, .inl (iA qu))), (pa, .inr (2, [.ref pl, .ref pm])), (pl, .inl (cI, 12, .inl (iA le))), (pm, .inl (cI, 12, .inl (iA mo))), (mx, .inr (6, [.int (nI n), .ref m1, .ref m2, .ref m3, .ref m4, .int (nI nl), .ref m5, .ref m6, .ref m7, .ref m8, .ref m9, .int (nI ct), .ref m10])), (m1, .inl (cI, 16, .inl (iA oo))), (m2, .inl (cI, 16, .inl (iA ii))), (m3, .inl (cI, 12, .inl (iA lle))), (m4, .inl (cI, 12, .inl (iA lmo))), (m5, .inl (cI, 12, .inl (iA aA))), (m6, .inl (cZ, 12, .inl (bA aO))), (m7, .inl (cI, 12, .inl (iA aB))), (m8, .inl (cZ, 12, .inl (bA aI))), (m9, .inl (cI, 17, .inl (iA ss))), (m10, .inl (cI, 64, .inl (iA ww)))]) (fun aQ => [(3, .int (nI i)), (2, .ref mx), (1, .ref ax), (0, .ref b)]) (fun aQ => [.int (bI (decide (¬ xs (i + 2) = 0))), .int (xs (i + 1)), .ref ax]) (D := D) (A := (fun q : Nat => s.heap.size ≤ q)) (H0 := s.heap) (fun J320 => ?_) ?_
      · skip
        refine lv_aload_n hx hb dL_law_307 rfl (lv_at hl 3 rfl) ?_
        refine lv_iload_n hx hb dL_law_308 rfl (lv_at hl 0 rfl) ?_
        refine lv_iconst (v := nI 2) hx hb dL_law_309 (by decide) ?_
        refine lv_iadd hx hb dL_law_310 ?_
        refine cv_i (show nI i + nI 2 = nI (i + 2) from nI_add i 2) ?_
        refine va_sld hx hb hX hbl hbA hw.2.2 (vp_in_nI (by omega) (by omega)) dL_law_311 ?_
        refine cv_i (show xs (nI (i + 2)).toNatClampNeg = xs (i + 2) from by rw [nI_clamp (by omega)]) ?_
        refine lv_if_eq (tgt := 319) hx hb dL_law_312 (by decide) (fun c_312 => ?_) (fun c_312 => ?_)
        · skip
          refine lv_iconst (v := nI 0) hx hb dL_law_319 (by decide) ?_
          refine cv_i (show nI 0 = bI (decide (¬ xs (i + 2) = 0)) from by rw [decide_eq_false (fun h => h c_312)]; rfl) ?_
          exact J320 () trivial _ _ _ hw (lv_sub hl [0, 1, 2, 3] rfl)
        · skip
          refine lv_iconst (v := nI 1) hx hb dL_law_315 (by decide) ?_
          refine lv_goto (tgt := 320) hx hb dL_law_316 (by decide) ?_
          refine cv_i (show nI 1 = bI (decide (¬ xs (i + 2) = 0)) from by rw [decide_eq_true c_312]; rfl) ?_
          exact J320 () trivial _ _ _ hw (lv_sub hl [0, 1, 2, 3] rfl)
      · rintro u _ H locs ls hw hl
        have hw : WD D (fun q : Nat => s.heap.size ≤ q) s.heap [(ax, .inr (5, [.ref t, .ref ga, .ref la, .ref wa, .ref pa])), (t, .inr (3, [.ref te, .ref ts, .int (nI n)])), (te, .inl (cI, 16, .inl (iA en))), (ts, .inl (cI, 17, .inl (iA st))), (ga, .inr (0, [.ref gc, .ref gn, .int (nI sz)])), (gc, .inl (cI, 16, .inl (iA cu))), (gn, .inl (cI, 16, .inl (iA ne))), (la, .inr (1, [.ref lb, .ref lw, .int (nI nl)])), (lb, .inl (cI, 12, .inl (iA ba))), (lw, .inl (cI, 12, .inl (iA wh))), (wa, .inr (4, [.ref wv, .ref wq])), (wv, .inl (cI, 64, .inl (mA dp))), (wq, .inl (cI, 64, .inl (iA qu))), (pa, .inr (2, [.ref pl, .ref pm])), (pl, .inl (cI, 12, .inl (iA le))), (pm, .inl (cI, 12, .inl (iA mo))), (mx, .inr (6, [.int (nI n), .ref m1, .ref m2, .ref m3, .ref m4, .int (nI nl), .ref m5, .ref m6, .ref m7, .ref m8, .ref m9, .int (nI ct), .ref m10])), (m1, .inl (cI, 16, .inl (iA oo))), (m2, .inl (cI, 16, .inl (iA ii))), (m3, .inl (cI, 12, .inl (iA lle))), (m4, .inl (cI, 12, .inl (iA lmo))), (m5, .inl (cI, 12, .inl (iA aA))), (m6, .inl (cZ, 12, .inl (bA aO))), (m7, .inl (cI, 12, .inl (iA aB))), (m8, .inl (cZ, 12, .inl (bA aI))), (m9, .inl (cI, 17, .inl (iA ss))), (m10, .inl (cI, 64, .inl (iA ww)))] H locs := hw
        have hl : lv_has ls 4 [(3, .int (nI i)), (2, .ref mx), (1, .ref ax), (0, .ref b)] := hl
        refine lv_aload_n hx hb dL_law_320 rfl (lv_at hl 3 rfl) ?_
        refine lv_iload_n hx hb dL_law_321 rfl (lv_at hl 0 rfl) ?_
        refine lv_iconst (v := nI 3) hx hb dL_law_322 (by decide) ?_
        refine lv_iadd hx hb dL_law_323 ?_
        refine cv_i (show nI i + nI 3 = nI (i + 3) from nI_add i 3) ?_
        refine va_sld hx hb hX hbl hbA hw.2.2 (vp_in_nI (by omega) (by omega)) dL_law_324 ?_
        refine cv_i (show xs (nI (i + 3)).toNatClampNeg = xs (i + 3) from by rw [nI_clamp (by omega)]) ?_
        refine lv_aload_n hx hb dL_law_325 rfl (lv_at hl 3 rfl) ?_
        refine lv_iload_n hx hb dL_law_326 rfl (lv_at hl 0 rfl) ?_
        refine lv_iconst (v := nI 4) hx hb dL_law_327 (by decide) ?_
        refine lv_iadd hx hb dL_law_328 ?_
        refine cv_i (show nI i + nI 4 = nI (i + 4) from nI_add i 4) ?_
        refine va_sld hx hb hX hbl hbA hw.2.2 (vp_in_nI (by omega) (by omega)) dL_law_329 ?_
        refine cv_i (show xs (nI (i + 4)).toNatClampNeg = xs (i + 4) from by rw [nI_clamp (by omega)]) ?_
        refine x_callV (As := [.int (xs (i + 1)), .int (bI (decide (¬ xs (i + 2) = 0))), .int (xs (i + 3)), .int (xs (i + 4))]) (rest := []) X hw hl.1 (c_X5_pace l D cI cZ ax t ga la wa pa pl pm le mo (xs (i + 1)) (decide (¬ xs (i + 2) = 0)) (xs (i + 3)) (xs (i + 4)) (by first | assumption | omega) (by first | assumption | omega)) (cwV 4 hts gL_law_X5_pace rfl rfl rfl (by decide +kernel) ⟨Nat.le_of_ble_eq_true rfl, Nat.le_of_ble_eq_true rfl⟩) [0, 13, 14, 15] rfl rfl 0 rfl rfl rfl rfl (Nat.le_of_ble_eq_true rfl) dL_law_330 (by decide) (fun rC w1 H locs hp hw1 => ?_)
        obtain ⟨rC0, leC, moC, hfc, rfl, rfl⟩ := hp
        have hw : WD D (fun q : Nat => s.heap.size ≤ q) s.heap [(ax, .inr (5, [.ref t, .ref ga, .ref la, .ref wa, .ref pa])), (t, .inr (3, [.ref te, .ref ts, .int (nI n)])), (te, .inl (cI, 16, .inl (iA en))), (ts, .inl (cI, 17, .inl (iA st))), (ga, .inr (0, [.ref gc, .ref gn, .int (nI sz)])), (gc, .inl (cI, 16, .inl (iA cu))), (gn, .inl (cI, 16, .inl (iA ne))), (la, .inr (1, [.ref lb, .ref lw, .int (nI nl)])), (lb, .inl (cI, 12, .inl (iA ba))), (lw, .inl (cI, 12, .inl (iA wh))), (wa, .inr (4, [.ref wv, .ref wq])), (wv, .inl (cI, 64, .inl (mA dp))), (wq, .inl (cI, 64, .inl (iA qu))), (pa, .inr (2, [.ref pl, .ref pm])), (pl, .inl (cI, 12, .inl (iA leC))), (pm, .inl (cI, 12, .inl (iA moC))), (mx, .inr (6, [.int (nI n), .ref m1, .ref m2, .ref m3, .ref m4, .int (nI nl), .ref m5, .ref m6, .ref m7, .ref m8, .ref m9, .int (nI ct), .ref m10])), (m1, .inl (cI, 16, .inl (iA oo))), (m2, .inl (cI, 16, .inl (iA ii))), (m3, .inl (cI, 12, .inl (iA lle))), (m4, .inl (cI, 12, .inl (iA lmo))), (m5, .inl (cI, 12, .inl (iA aA))), (m6, .inl (cZ, 12, .inl (bA aO))), (m7, .inl (cI, 12, .inl (iA aB))), (m8, .inl (cZ, 12, .inl (bA aI))), (m9, .inl (cI, 17, .inl (iA ss))), (m10, .inl (cI, 64, .inl (iA ww)))] H locs := hw1 rfl
        refine lv_aload_n hx hb dL_law_333 rfl (lv_at hl 1 rfl) ?_
        refine lv_aload_n hx hb dL_law_334 rfl (lv_at hl 3 rfl) ?_
        refine lv_iload_n hx hb dL_law_335 rfl (lv_at hl 0 rfl) ?_
        refine lv_iconst (v := nI 1) hx hb dL_law_336 (by decide) ?_
        refine lv_iadd hx hb dL_law_337 ?_
        refine cv_i (show nI i + nI 1 = nI (i + 1) from nI_add i 1) ?_
        refine va_sld hx hb hX hbl hbA hw.2.2 (vp_in_nI (by omega) (by omega)) dL_law_338 ?_
        refine cv_i (show xs (nI (i + 1)).toNatClampNeg = xs (i + 1) from by rw [nI_clamp (by omega)]) ?_
        refine wj (α := Unit) (nL := 4) 352 (fun aQ => True) (fun aQ => [(ax, .inr (5, [.ref t, .ref ga, .ref la, .ref wa, .ref pa])), (t, .inr (3, [.ref te, .ref ts, .int (nI n)])), (te, .inl (cI, 16, .inl (iA en))), (ts, .inl (cI, 17, .inl (iA st))), (ga, .inr (0, [.ref gc, .ref gn, .int (nI sz)])), (gc, .inl (cI, 16, .inl (iA cu))), (gn, .inl (cI, 16, .inl (iA ne))), (la, .inr (1, [.ref lb, .ref lw, .int (nI nl)])), (lb, .inl (cI, 12, .inl (iA ba))), (lw, .inl (cI, 12, .inl (iA wh))), (wa, .inr (4, [.ref wv, .ref wq])), (wv, .inl (cI, 64, .inl (mA dp))), (wq, .inl (cI, 64, .inl (iA qu))), (pa, .inr (2, [.ref pl, .ref pm])), (pl, .inl (cI, 12, .inl (iA leC))), (pm, .inl (cI, 12, .inl (iA moC))), (mx, .inr (6, [.int (nI n), .ref m1, .ref m2, .ref m3, .ref m4, .int (nI nl), .ref m5, .ref m6, .ref m7, .ref m8, .ref m9, .int (nI ct), .ref m10])), (m1, .inl (cI, 16, .inl (iA oo))), (m2, .inl (cI, 16, .inl (iA ii))), (m3, .inl (cI, 12, .inl (iA lle))), (m4, .inl (cI, 12, .inl (iA lmo))), (m5, .inl (cI, 12, .inl (iA aA))), (m6, .inl (cZ, 12, .inl (bA aO))), (m7, .inl (cI, 12, .inl (iA aB))), (m8, .inl (cZ, 12, .inl (bA aI))), (m9, .inl (cI, 17, .inl (iA ss))), (m10, .inl (cI, 64, .inl (iA ww)))]) (fun aQ => [(3, .int (nI i)), (2, .ref mx), (1, .ref ax), (0, .ref b)]) (fun aQ => [.int (bI (decide (¬ xs (i + 2) = 0))), .int (xs (i + 1)), .ref mx, .int rC]) (D := D) (A := (fun q : Nat => s.heap.size ≤ q)) (H0 := s.heap) (fun J352 => ?_) ?_
        · skip
          refine lv_aload_n hx hb dL_law_339 rfl (lv_at hl 3 rfl) ?_
          refine lv_iload_n hx hb dL_law_340 rfl (lv_at hl 0 rfl) ?_
          refine lv_iconst (v := nI 2) hx hb dL_law_341 (by decide) ?_
          refine lv_iadd hx hb dL_law_342 ?_
          refine cv_i (show nI i + nI 2 = nI (i + 2) from nI_add i 2) ?_
          refine va_sld hx hb hX hbl hbA hw.2.2 (vp_in_nI (by omega) (by omega)) dL_law_343 ?_
          refine cv_i (show xs (nI (i + 2)).toNatClampNeg = xs (i + 2) from by rw [nI_clamp (by omega)]) ?_
          refine lv_if_eq (tgt := 351) hx hb dL_law_344 (by decide) (fun c_344 => ?_) (fun c_344 => ?_)
          · skip
            refine lv_iconst (v := nI 0) hx hb dL_law_351 (by decide) ?_
            refine cv_i (show nI 0 = bI (decide (¬ xs (i + 2) = 0)) from by rw [decide_eq_false (fun h => h c_344)]; rfl) ?_
            exact J352 () trivial _ _ _ hw (lv_sub hl [0, 1, 2, 3] rfl)
          · skip
            refine lv_iconst (v := nI 1) hx hb dL_law_347 (by decide) ?_
            refine lv_goto (tgt := 352) hx hb dL_law_348 (by decide) ?_
            refine cv_i (show nI 1 = bI (decide (¬ xs (i + 2) = 0)) from by rw [decide_eq_true c_344]; rfl) ?_
            exact J352 () trivial _ _ _ hw (lv_sub hl [0, 1, 2, 3] rfl)
        · rintro u _ H locs ls hw hl
          have hw : WD D (fun q : Nat => s.heap.size ≤ q) s.heap [(ax, .inr (5, [.ref t, .ref ga, .ref la, .ref wa, .ref pa])), (t, .inr (3, [.ref te, .ref ts, .int (nI n)])), (te, .inl (cI, 16, .inl (iA en))), (ts, .inl (cI, 17, .inl (iA st))), (ga, .inr (0, [.ref gc, .ref gn, .int (nI sz)])), (gc, .inl (cI, 16, .inl (iA cu))), (gn, .inl (cI, 16, .inl (iA ne))), (la, .inr (1, [.ref lb, .ref lw, .int (nI nl)])), (lb, .inl (cI, 12, .inl (iA ba))), (lw, .inl (cI, 12, .inl (iA wh))), (wa, .inr (4, [.ref wv, .ref wq])), (wv, .inl (cI, 64, .inl (mA dp))), (wq, .inl (cI, 64, .inl (iA qu))), (pa, .inr (2, [.ref pl, .ref pm])), (pl, .inl (cI, 12, .inl (iA leC))), (pm, .inl (cI, 12, .inl (iA moC))), (mx, .inr (6, [.int (nI n), .ref m1, .ref m2, .ref m3, .ref m4, .int (nI nl), .ref m5, .ref m6, .ref m7, .ref m8, .ref m9, .int (nI ct), .ref m10])), (m1, .inl (cI, 16, .inl (iA oo))), (m2, .inl (cI, 16, .inl (iA ii))), (m3, .inl (cI, 12, .inl (iA lle))), (m4, .inl (cI, 12, .inl (iA lmo))), (m5, .inl (cI, 12, .inl (iA aA))), (m6, .inl (cZ, 12, .inl (bA aO))), (m7, .inl (cI, 12, .inl (iA aB))), (m8, .inl (cZ, 12, .inl (bA aI))), (m9, .inl (cI, 17, .inl (iA ss))), (m10, .inl (cI, 64, .inl (iA ww)))] H locs := hw
          have hl : lv_has ls 4 [(3, .int (nI i)), (2, .ref mx), (1, .ref ax), (0, .ref b)] := hl
          refine lv_aload_n hx hb dL_law_352 rfl (lv_at hl 3 rfl) ?_
          refine lv_iload_n hx hb dL_law_353 rfl (lv_at hl 0 rfl) ?_
          refine lv_iconst (v := nI 3) hx hb dL_law_354 (by decide) ?_
          refine lv_iadd hx hb dL_law_355 ?_
          refine cv_i (show nI i + nI 3 = nI (i + 3) from nI_add i 3) ?_
          refine va_sld hx hb hX hbl hbA hw.2.2 (vp_in_nI (by omega) (by omega)) dL_law_356 ?_
          refine cv_i (show xs (nI (i + 3)).toNatClampNeg = xs (i + 3) from by rw [nI_clamp (by omega)]) ?_
          refine lv_aload_n hx hb dL_law_357 rfl (lv_at hl 3 rfl) ?_
          refine lv_iload_n hx hb dL_law_358 rfl (lv_at hl 0 rfl) ?_
          refine lv_iconst (v := nI 4) hx hb dL_law_359 (by decide) ?_
          refine lv_iadd hx hb dL_law_360 ?_
          refine cv_i (show nI i + nI 4 = nI (i + 4) from nI_add i 4) ?_
          refine va_sld hx hb hX hbl hbA hw.2.2 (vp_in_nI (by omega) (by omega)) dL_law_361 ?_
          refine cv_i (show xs (nI (i + 4)).toNatClampNeg = xs (i + 4) from by rw [nI_clamp (by omega)]) ?_
          refine x_callV (As := [.int (xs (i + 1)), .int (bI (decide (¬ xs (i + 2) = 0))), .int (xs (i + 3)), .int (xs (i + 4))]) (rest := [.int rC]) X hw hl.1 (c_X6_pace l D cI cZ mx m1 m2 m3 m4 m5 m6 m7 m8 m9 m10 n nl ct lle lmo (xs (i + 1)) (decide (¬ xs (i + 2) = 0)) (xs (i + 3)) (xs (i + 4)) (by first | assumption | omega) (by first | assumption | omega)) (cwV 4 hts gL_law_X6_pace rfl rfl rfl (by decide +kernel) ⟨Nat.le_of_ble_eq_true rfl, Nat.le_of_ble_eq_true rfl⟩) [16, 19, 20] rfl rfl 0 rfl rfl rfl rfl (Nat.le_of_ble_eq_true rfl) dL_law_362 (by decide) (fun rM w1 H locs hp hw1 => ?_)
          obtain ⟨rM0, leM, moM, hfm, rfl, rfl⟩ := hp
          have hw : WD D (fun q : Nat => s.heap.size ≤ q) s.heap [(ax, .inr (5, [.ref t, .ref ga, .ref la, .ref wa, .ref pa])), (t, .inr (3, [.ref te, .ref ts, .int (nI n)])), (te, .inl (cI, 16, .inl (iA en))), (ts, .inl (cI, 17, .inl (iA st))), (ga, .inr (0, [.ref gc, .ref gn, .int (nI sz)])), (gc, .inl (cI, 16, .inl (iA cu))), (gn, .inl (cI, 16, .inl (iA ne))), (la, .inr (1, [.ref lb, .ref lw, .int (nI nl)])), (lb, .inl (cI, 12, .inl (iA ba))), (lw, .inl (cI, 12, .inl (iA wh))), (wa, .inr (4, [.ref wv, .ref wq])), (wv, .inl (cI, 64, .inl (mA dp))), (wq, .inl (cI, 64, .inl (iA qu))), (pa, .inr (2, [.ref pl, .ref pm])), (pl, .inl (cI, 12, .inl (iA leC))), (pm, .inl (cI, 12, .inl (iA moC))), (mx, .inr (6, [.int (nI n), .ref m1, .ref m2, .ref m3, .ref m4, .int (nI nl), .ref m5, .ref m6, .ref m7, .ref m8, .ref m9, .int (nI ct), .ref m10])), (m1, .inl (cI, 16, .inl (iA oo))), (m2, .inl (cI, 16, .inl (iA ii))), (m3, .inl (cI, 12, .inl (iA leM))), (m4, .inl (cI, 12, .inl (iA moM))), (m5, .inl (cI, 12, .inl (iA aA))), (m6, .inl (cZ, 12, .inl (bA aO))), (m7, .inl (cI, 12, .inl (iA aB))), (m8, .inl (cZ, 12, .inl (bA aI))), (m9, .inl (cI, 17, .inl (iA ss))), (m10, .inl (cI, 64, .inl (iA ww)))] H locs := hw1 rfl
          refine lv_icmp_eq (tgt := 639) hx hb dL_law_365 (by decide) (fun c_365 => ?_) (fun c_365 => ?_)
          · skip
            obtain ⟨-, g1, g2, g3, g4, g5, g6, g7⟩ := E_pace hfc hfm hle hmo hlle hlmo K1 K2 hmo1
            refine lv_iinc (v := nI (i + 5)) (lv' := [(3, .int (nI (i + 5))), (2, .ref mx), (1, .ref ax), (0, .ref b)]) hx hb dL_law_639 hl (k := 0) rfl (nI_add i 5) (by decide) rfl (fun ls hl => ?_)
            refine lv_goto (tgt := 18) hx hb dL_law_642 (by decide) ?_
            exact ih_18 (i + 5, n, nl, en, st, sz, cu, ne, ba, wh, dp, qu, leC, moC, oo, ii, leM, moM, aA, aO, aB, aI, ss, ww, ct) (by show L + 5 - (i + 5) < L + 5 - i; omega) ⟨(show REL n nl en st sz cu ne ba wh dp qu leC moC oo ii leM moM aA aO aB aI ss from ⟨T, hsz, hcu, hne, LS, DK, hqu, g1, g2, g3, g4, g5, g6, g7, hss⟩), (show (i + 5) ≤ L from by omega)⟩ _ _ _ hw (lv_sub hl [0, 1, 2, 3] rfl)
          · skip
            exact absurd ((E_pace hfc hfm hle hmo hlle hlmo K1 K2 hmo1).1) c_365
    · skip
      refine lv_tableIn (off := 338) (tgt := 370) hx hb dL_law_32 (by decide) (by decide) (by rfl) (by decide) ?_
      refine lv_aload_n hx hb dL_law_370 rfl (lv_at hl 2 rfl) ?_
      refine lv_aload_n hx hb dL_law_371 rfl (lv_at hl 3 rfl) ?_
      refine lv_iload_n hx hb dL_law_372 rfl (lv_at hl 0 rfl) ?_
      refine lv_iconst (v := nI 1) hx hb dL_law_373 (by decide) ?_
      refine lv_iadd hx hb dL_law_374 ?_
      refine cv_i (show nI i + nI 1 = nI (i + 1) from nI_add i 1) ?_
      refine va_sld hx hb hX hbl hbA hw.2.2 (vp_in_nI (by omega) (by omega)) dL_law_375 ?_
      refine cv_i (show xs (nI (i + 1)).toNatClampNeg = xs (i + 1) from by rw [nI_clamp (by omega)]) ?_
      refine x_callV (As := [.int (xs (i + 1))]) (rest := []) X hw hl.1 (c_X5_span l D cI cZ ax t ga la wa pa te ts en st n pl pm le mo (xs (i + 1)) (by first | assumption | omega) (by first | assumption | omega) (by first | assumption | omega) (by first | assumption | omega) (by first | assumption | omega)) (cwV 1 hts gL_law_X5_span rfl rfl rfl (by decide +kernel) ⟨Nat.le_of_ble_eq_true rfl, Nat.le_of_ble_eq_true rfl⟩) [0, 1, 2, 3, 13, 14, 15] rfl rfl 0 rfl rfl rfl rfl (Nat.le_of_ble_eq_true rfl) dL_law_376 (by decide) (fun r w1 H locs hp hw1 => ?_)
      obtain ⟨rfl, rfl⟩ := hp
      have hw : WD D (fun q : Nat => s.heap.size ≤ q) s.heap [(ax, .inr (5, [.ref t, .ref ga, .ref la, .ref wa, .ref pa])), (t, .inr (3, [.ref te, .ref ts, .int (nI n)])), (te, .inl (cI, 16, .inl (iA en))), (ts, .inl (cI, 17, .inl (iA st))), (ga, .inr (0, [.ref gc, .ref gn, .int (nI sz)])), (gc, .inl (cI, 16, .inl (iA cu))), (gn, .inl (cI, 16, .inl (iA ne))), (la, .inr (1, [.ref lb, .ref lw, .int (nI nl)])), (lb, .inl (cI, 12, .inl (iA ba))), (lw, .inl (cI, 12, .inl (iA wh))), (wa, .inr (4, [.ref wv, .ref wq])), (wv, .inl (cI, 64, .inl (mA dp))), (wq, .inl (cI, 64, .inl (iA qu))), (pa, .inr (2, [.ref pl, .ref pm])), (pl, .inl (cI, 12, .inl (iA le))), (pm, .inl (cI, 12, .inl (iA mo))), (mx, .inr (6, [.int (nI n), .ref m1, .ref m2, .ref m3, .ref m4, .int (nI nl), .ref m5, .ref m6, .ref m7, .ref m8, .ref m9, .int (nI ct), .ref m10])), (m1, .inl (cI, 16, .inl (iA oo))), (m2, .inl (cI, 16, .inl (iA ii))), (m3, .inl (cI, 12, .inl (iA lle))), (m4, .inl (cI, 12, .inl (iA lmo))), (m5, .inl (cI, 12, .inl (iA aA))), (m6, .inl (cZ, 12, .inl (bA aO))), (m7, .inl (cI, 12, .inl (iA aB))), (m8, .inl (cZ, 12, .inl (bA aI))), (m9, .inl (cI, 17, .inl (iA ss))), (m10, .inl (cI, 64, .inl (iA ww)))] H locs := hw1 rfl
      refine lv_aload_n hx hb dL_law_379 rfl (lv_at hl 1 rfl) ?_
      refine lv_aload_n hx hb dL_law_380 rfl (lv_at hl 3 rfl) ?_
      refine lv_iload_n hx hb dL_law_381 rfl (lv_at hl 0 rfl) ?_
      refine lv_iconst (v := nI 1) hx hb dL_law_382 (by decide) ?_
      refine lv_iadd hx hb dL_law_383 ?_
      refine cv_i (show nI i + nI 1 = nI (i + 1) from nI_add i 1) ?_
      refine va_sld hx hb hX hbl hbA hw.2.2 (vp_in_nI (by omega) (by omega)) dL_law_384 ?_
      refine cv_i (show xs (nI (i + 1)).toNatClampNeg = xs (i + 1) from by rw [nI_clamp (by omega)]) ?_
      refine x_callV (As := [.int (xs (i + 1))]) (rest := [.int (gd2 (bel (xs (i + 1)) (nI 3)) (fwC en st n) (if (xs (i + 1)) = nI 0 then nI (sumP le en n) else if (xs (i + 1)) = nI 1 then nI (sumP mo en n) else (slo mo en n).1))]) X hw hl.1 (c_X6_span l D cI cZ mx m1 m2 m3 m4 m5 m6 m7 m8 m9 m10 n nl ct oo ii ss lle lmo (xs (i + 1)) (by first | assumption | omega) (by first | assumption | omega) (by first | assumption | omega) (by first | assumption | omega) (by first | assumption | omega) (by first | assumption | omega)) (cwV 1 hts gL_law_X6_span rfl rfl rfl (by decide +kernel) ⟨Nat.le_of_ble_eq_true rfl, Nat.le_of_ble_eq_true rfl⟩) [16, 17, 18, 25, 19, 20] rfl rfl 0 rfl rfl rfl rfl (Nat.le_of_ble_eq_true rfl) dL_law_385 (by decide) (fun r w1 H locs hp hw1 => ?_)
      obtain ⟨sN, hsN, rfl, rfl⟩ := hp
      have hw : WD D (fun q : Nat => s.heap.size ≤ q) s.heap [(ax, .inr (5, [.ref t, .ref ga, .ref la, .ref wa, .ref pa])), (t, .inr (3, [.ref te, .ref ts, .int (nI n)])), (te, .inl (cI, 16, .inl (iA en))), (ts, .inl (cI, 17, .inl (iA st))), (ga, .inr (0, [.ref gc, .ref gn, .int (nI sz)])), (gc, .inl (cI, 16, .inl (iA cu))), (gn, .inl (cI, 16, .inl (iA ne))), (la, .inr (1, [.ref lb, .ref lw, .int (nI nl)])), (lb, .inl (cI, 12, .inl (iA ba))), (lw, .inl (cI, 12, .inl (iA wh))), (wa, .inr (4, [.ref wv, .ref wq])), (wv, .inl (cI, 64, .inl (mA dp))), (wq, .inl (cI, 64, .inl (iA qu))), (pa, .inr (2, [.ref pl, .ref pm])), (pl, .inl (cI, 12, .inl (iA le))), (pm, .inl (cI, 12, .inl (iA mo))), (mx, .inr (6, [.int (nI n), .ref m1, .ref m2, .ref m3, .ref m4, .int (nI nl), .ref m5, .ref m6, .ref m7, .ref m8, .ref m9, .int (nI ct), .ref m10])), (m1, .inl (cI, 16, .inl (iA oo))), (m2, .inl (cI, 16, .inl (iA ii))), (m3, .inl (cI, 12, .inl (iA lle))), (m4, .inl (cI, 12, .inl (iA lmo))), (m5, .inl (cI, 12, .inl (iA aA))), (m6, .inl (cZ, 12, .inl (bA aO))), (m7, .inl (cI, 12, .inl (iA aB))), (m8, .inl (cZ, 12, .inl (bA aI))), (m9, .inl (cI, 17, .inl (iA sN))), (m10, .inl (cI, 64, .inl (iA ww)))] H locs := hw1 rfl
      refine lv_icmp_eq (tgt := 639) hx hb dL_law_388 (by decide) (fun c_388 => ?_) (fun c_388 => ?_)
      · skip
        refine lv_iinc (v := nI (i + 5)) (lv' := [(3, .int (nI (i + 5))), (2, .ref mx), (1, .ref ax), (0, .ref b)]) hx hb dL_law_639 hl (k := 0) rfl (nI_add i 5) (by decide) rfl (fun ls hl => ?_)
        refine lv_goto (tgt := 18) hx hb dL_law_642 (by decide) ?_
        exact ih_18 (i + 5, n, nl, en, st, sz, cu, ne, ba, wh, dp, qu, le, mo, oo, ii, lle, lmo, aA, aO, aB, aI, sN, ww, ct) (by show L + 5 - (i + 5) < L + 5 - i; omega) ⟨(show REL n nl en st sz cu ne ba wh dp qu le mo oo ii lle lmo aA aO aB aI sN from ⟨T, hsz, hcu, hne, LS, DK, hqu, hle, hmo, hlle, hlmo, K1, K2, hmo1, hsN⟩), (show (i + 5) ≤ L from by omega)⟩ _ _ _ hw (lv_sub hl [0, 1, 2, 3] rfl)
      · skip
        exact absurd (E_span T K1 K2 hmo1) c_388
    · skip
      refine lv_tableIn (off := 361) (tgt := 393) hx hb dL_law_32 (by decide) (by decide) (by rfl) (by decide) ?_
      refine lv_aload_n hx hb dL_law_393 rfl (lv_at hl 2 rfl) ?_
      refine lv_aload_n hx hb dL_law_394 rfl (lv_at hl 3 rfl) ?_
      refine lv_iload_n hx hb dL_law_395 rfl (lv_at hl 0 rfl) ?_
      refine lv_iconst (v := nI 1) hx hb dL_law_396 (by decide) ?_
      refine lv_iadd hx hb dL_law_397 ?_
      refine cv_i (show nI i + nI 1 = nI (i + 1) from nI_add i 1) ?_
      refine va_sld hx hb hX hbl hbA hw.2.2 (vp_in_nI (by omega) (by omega)) dL_law_398 ?_
      refine cv_i (show xs (nI (i + 1)).toNatClampNeg = xs (i + 1) from by rw [nI_clamp (by omega)]) ?_
      refine wj (α := Unit) (nL := 4) 412 (fun aQ => True) (fun aQ => [(ax, .inr (5, [.ref t, .ref ga, .ref la, .ref wa, .ref pa])), (t, .inr (3, [.ref te, .ref ts, .int (nI n)])), (te, .inl (cI, 16, .inl (iA en))), (ts, .inl (cI, 17, .inl (iA st))), (ga, .inr (0, [.ref gc, .ref gn, .int (nI sz)])), (gc, .inl (cI, 16, .inl (iA cu))), (gn, .inl (cI, 16, .inl (iA ne))), (la, .inr (1, [.ref lb, .ref lw, .int (nI nl)])), (lb, .inl (cI, 12, .inl (iA ba))), (lw, .inl (cI, 12, .inl (iA wh))), (wa, .inr (4, [.ref wv, .ref wq])), (wv, .inl (cI, 64, .inl (mA dp))), (wq, .inl (cI, 64, .inl (iA qu))), (pa, .inr (2, [.ref pl, .ref pm])), (pl, .inl (cI, 12, .inl (iA le))), (pm, .inl (cI, 12, .inl (iA mo))), (mx, .inr (6, [.int (nI n), .ref m1, .ref m2, .ref m3, .ref m4, .int (nI nl), .ref m5, .ref m6, .ref m7, .ref m8, .ref m9, .int (nI ct), .ref m10])), (m1, .inl (cI, 16, .inl (iA oo))), (m2, .inl (cI, 16, .inl (iA ii))), (m3, .inl (cI, 12, .inl (iA lle))), (m4, .inl (cI, 12, .inl (iA lmo))), (m5, .inl (cI, 12, .inl (iA aA))), (m6, .inl (cZ, 12, .inl (bA aO))), (m7, .inl (cI, 12, .inl (iA aB))), (m8, .inl (cZ, 12, .inl (bA aI))), (m9, .inl (cI, 17, .inl (iA ss))), (m10, .inl (cI, 64, .inl (iA ww)))]) (fun aQ => [(3, .int (nI i)), (2, .ref mx), (1, .ref ax), (0, .ref b)]) (fun aQ => [.int (bI (decide (¬ xs (i + 2) = 0))), .int (xs (i + 1)), .ref ax]) (D := D) (A := (fun q : Nat => s.heap.size ≤ q)) (H0 := s.heap) (fun J412 => ?_) ?_
      · skip
        refine lv_aload_n hx hb dL_law_399 rfl (lv_at hl 3 rfl) ?_
        refine lv_iload_n hx hb dL_law_400 rfl (lv_at hl 0 rfl) ?_
        refine lv_iconst (v := nI 2) hx hb dL_law_401 (by decide) ?_
        refine lv_iadd hx hb dL_law_402 ?_
        refine cv_i (show nI i + nI 2 = nI (i + 2) from nI_add i 2) ?_
        refine va_sld hx hb hX hbl hbA hw.2.2 (vp_in_nI (by omega) (by omega)) dL_law_403 ?_
        refine cv_i (show xs (nI (i + 2)).toNatClampNeg = xs (i + 2) from by rw [nI_clamp (by omega)]) ?_
        refine lv_if_eq (tgt := 411) hx hb dL_law_404 (by decide) (fun c_404 => ?_) (fun c_404 => ?_)
        · skip
          refine lv_iconst (v := nI 0) hx hb dL_law_411 (by decide) ?_
          refine cv_i (show nI 0 = bI (decide (¬ xs (i + 2) = 0)) from by rw [decide_eq_false (fun h => h c_404)]; rfl) ?_
          exact J412 () trivial _ _ _ hw (lv_sub hl [0, 1, 2, 3] rfl)
        · skip
          refine lv_iconst (v := nI 1) hx hb dL_law_407 (by decide) ?_
          refine lv_goto (tgt := 412) hx hb dL_law_408 (by decide) ?_
          refine cv_i (show nI 1 = bI (decide (¬ xs (i + 2) = 0)) from by rw [decide_eq_true c_404]; rfl) ?_
          exact J412 () trivial _ _ _ hw (lv_sub hl [0, 1, 2, 3] rfl)
      · rintro u _ H locs ls hw hl
        have hw : WD D (fun q : Nat => s.heap.size ≤ q) s.heap [(ax, .inr (5, [.ref t, .ref ga, .ref la, .ref wa, .ref pa])), (t, .inr (3, [.ref te, .ref ts, .int (nI n)])), (te, .inl (cI, 16, .inl (iA en))), (ts, .inl (cI, 17, .inl (iA st))), (ga, .inr (0, [.ref gc, .ref gn, .int (nI sz)])), (gc, .inl (cI, 16, .inl (iA cu))), (gn, .inl (cI, 16, .inl (iA ne))), (la, .inr (1, [.ref lb, .ref lw, .int (nI nl)])), (lb, .inl (cI, 12, .inl (iA ba))), (lw, .inl (cI, 12, .inl (iA wh))), (wa, .inr (4, [.ref wv, .ref wq])), (wv, .inl (cI, 64, .inl (mA dp))), (wq, .inl (cI, 64, .inl (iA qu))), (pa, .inr (2, [.ref pl, .ref pm])), (pl, .inl (cI, 12, .inl (iA le))), (pm, .inl (cI, 12, .inl (iA mo))), (mx, .inr (6, [.int (nI n), .ref m1, .ref m2, .ref m3, .ref m4, .int (nI nl), .ref m5, .ref m6, .ref m7, .ref m8, .ref m9, .int (nI ct), .ref m10])), (m1, .inl (cI, 16, .inl (iA oo))), (m2, .inl (cI, 16, .inl (iA ii))), (m3, .inl (cI, 12, .inl (iA lle))), (m4, .inl (cI, 12, .inl (iA lmo))), (m5, .inl (cI, 12, .inl (iA aA))), (m6, .inl (cZ, 12, .inl (bA aO))), (m7, .inl (cI, 12, .inl (iA aB))), (m8, .inl (cZ, 12, .inl (bA aI))), (m9, .inl (cI, 17, .inl (iA ss))), (m10, .inl (cI, 64, .inl (iA ww)))] H locs := hw
        have hl : lv_has ls 4 [(3, .int (nI i)), (2, .ref mx), (1, .ref ax), (0, .ref b)] := hl
        refine lv_aload_n hx hb dL_law_412 rfl (lv_at hl 3 rfl) ?_
        refine lv_iload_n hx hb dL_law_413 rfl (lv_at hl 0 rfl) ?_
        refine lv_iconst (v := nI 3) hx hb dL_law_414 (by decide) ?_
        refine lv_iadd hx hb dL_law_415 ?_
        refine cv_i (show nI i + nI 3 = nI (i + 3) from nI_add i 3) ?_
        refine va_sld hx hb hX hbl hbA hw.2.2 (vp_in_nI (by omega) (by omega)) dL_law_416 ?_
        refine cv_i (show xs (nI (i + 3)).toNatClampNeg = xs (i + 3) from by rw [nI_clamp (by omega)]) ?_
        refine wj (α := Unit) (nL := 4) 430 (fun aQ => True) (fun aQ => [(ax, .inr (5, [.ref t, .ref ga, .ref la, .ref wa, .ref pa])), (t, .inr (3, [.ref te, .ref ts, .int (nI n)])), (te, .inl (cI, 16, .inl (iA en))), (ts, .inl (cI, 17, .inl (iA st))), (ga, .inr (0, [.ref gc, .ref gn, .int (nI sz)])), (gc, .inl (cI, 16, .inl (iA cu))), (gn, .inl (cI, 16, .inl (iA ne))), (la, .inr (1, [.ref lb, .ref lw, .int (nI nl)])), (lb, .inl (cI, 12, .inl (iA ba))), (lw, .inl (cI, 12, .inl (iA wh))), (wa, .inr (4, [.ref wv, .ref wq])), (wv, .inl (cI, 64, .inl (mA dp))), (wq, .inl (cI, 64, .inl (iA qu))), (pa, .inr (2, [.ref pl, .ref pm])), (pl, .inl (cI, 12, .inl (iA le))), (pm, .inl (cI, 12, .inl (iA mo))), (mx, .inr (6, [.int (nI n), .ref m1, .ref m2, .ref m3, .ref m4, .int (nI nl), .ref m5, .ref m6, .ref m7, .ref m8, .ref m9, .int (nI ct), .ref m10])), (m1, .inl (cI, 16, .inl (iA oo))), (m2, .inl (cI, 16, .inl (iA ii))), (m3, .inl (cI, 12, .inl (iA lle))), (m4, .inl (cI, 12, .inl (iA lmo))), (m5, .inl (cI, 12, .inl (iA aA))), (m6, .inl (cZ, 12, .inl (bA aO))), (m7, .inl (cI, 12, .inl (iA aB))), (m8, .inl (cZ, 12, .inl (bA aI))), (m9, .inl (cI, 17, .inl (iA ss))), (m10, .inl (cI, 64, .inl (iA ww)))]) (fun aQ => [(3, .int (nI i)), (2, .ref mx), (1, .ref ax), (0, .ref b)]) (fun aQ => [.int (bI (decide (¬ xs (i + 4) = 0))), .int (xs (i + 3)), .int (bI (decide (¬ xs (i + 2) = 0))), .int (xs (i + 1)), .ref ax]) (D := D) (A := (fun q : Nat => s.heap.size ≤ q)) (H0 := s.heap) (fun J430 => ?_) ?_
        · skip
          refine lv_aload_n hx hb dL_law_417 rfl (lv_at hl 3 rfl) ?_
          refine lv_iload_n hx hb dL_law_418 rfl (lv_at hl 0 rfl) ?_
          refine lv_iconst (v := nI 4) hx hb dL_law_419 (by decide) ?_
          refine lv_iadd hx hb dL_law_420 ?_
          refine cv_i (show nI i + nI 4 = nI (i + 4) from nI_add i 4) ?_
          refine va_sld hx hb hX hbl hbA hw.2.2 (vp_in_nI (by omega) (by omega)) dL_law_421 ?_
          refine cv_i (show xs (nI (i + 4)).toNatClampNeg = xs (i + 4) from by rw [nI_clamp (by omega)]) ?_
          refine lv_if_eq (tgt := 429) hx hb dL_law_422 (by decide) (fun c_422 => ?_) (fun c_422 => ?_)
          · skip
            refine lv_iconst (v := nI 0) hx hb dL_law_429 (by decide) ?_
            refine cv_i (show nI 0 = bI (decide (¬ xs (i + 4) = 0)) from by rw [decide_eq_false (fun h => h c_422)]; rfl) ?_
            exact J430 () trivial _ _ _ hw (lv_sub hl [0, 1, 2, 3] rfl)
          · skip
            refine lv_iconst (v := nI 1) hx hb dL_law_425 (by decide) ?_
            refine lv_goto (tgt := 430) hx hb dL_law_426 (by decide) ?_
            refine cv_i (show nI 1 = bI (decide (¬ xs (i + 4) = 0)) from by rw [decide_eq_true c_422]; rfl) ?_
            exact J430 () trivial _ _ _ hw (lv_sub hl [0, 1, 2, 3] rfl)
        · rintro u _ H locs ls hw hl
          have hw : WD D (fun q : Nat => s.heap.size ≤ q) s.heap [(ax, .inr (5, [.ref t, .ref ga, .ref la, .ref wa, .ref pa])), (t, .inr (3, [.ref te, .ref ts, .int (nI n)])), (te, .inl (cI, 16, .inl (iA en))), (ts, .inl (cI, 17, .inl (iA st))), (ga, .inr (0, [.ref gc, .ref gn, .int (nI sz)])), (gc, .inl (cI, 16, .inl (iA cu))), (gn, .inl (cI, 16, .inl (iA ne))), (la, .inr (1, [.ref lb, .ref lw, .int (nI nl)])), (lb, .inl (cI, 12, .inl (iA ba))), (lw, .inl (cI, 12, .inl (iA wh))), (wa, .inr (4, [.ref wv, .ref wq])), (wv, .inl (cI, 64, .inl (mA dp))), (wq, .inl (cI, 64, .inl (iA qu))), (pa, .inr (2, [.ref pl, .ref pm])), (pl, .inl (cI, 12, .inl (iA le))), (pm, .inl (cI, 12, .inl (iA mo))), (mx, .inr (6, [.int (nI n), .ref m1, .ref m2, .ref m3, .ref m4, .int (nI nl), .ref m5, .ref m6, .ref m7, .ref m8, .ref m9, .int (nI ct), .ref m10])), (m1, .inl (cI, 16, .inl (iA oo))), (m2, .inl (cI, 16, .inl (iA ii))), (m3, .inl (cI, 12, .inl (iA lle))), (m4, .inl (cI, 12, .inl (iA lmo))), (m5, .inl (cI, 12, .inl (iA aA))), (m6, .inl (cZ, 12, .inl (bA aO))), (m7, .inl (cI, 12, .inl (iA aB))), (m8, .inl (cZ, 12, .inl (bA aI))), (m9, .inl (cI, 17, .inl (iA ss))), (m10, .inl (cI, 64, .inl (iA ww)))] H locs := hw
          have hl : lv_has ls 4 [(3, .int (nI i)), (2, .ref mx), (1, .ref ax), (0, .ref b)] := hl
          refine x_callV (As := [.int (xs (i + 1)), .int (bI (decide (¬ xs (i + 2) = 0))), .int (xs (i + 3)), .int (bI (decide (¬ xs (i + 4) = 0)))]) (rest := []) X hw hl.1 (c_X5_law l D cI cZ ax t ga la wa pa lb lw ba wh nl wv wq dp qu (xs (i + 1)) (decide (¬ xs (i + 2) = 0)) (xs (i + 3)) (decide (¬ xs (i + 4) = 0)) (by first | assumption | omega) (by first | assumption | omega) (by first | assumption | omega) (by first | assumption | omega)) (cwV 4 hts gL_law_X5_law rfl rfl rfl (by decide +kernel) ⟨Nat.le_of_ble_eq_true rfl, Nat.le_of_ble_eq_true rfl⟩) [0, 7, 8, 9, 10, 11, 12] rfl rfl 0 rfl rfl rfl rfl (Nat.le_of_ble_eq_true rfl) dL_law_430 (by decide) (fun rC w1 H locs hp hw1 => ?_)
          obtain ⟨rC0, nlC, baC, whC, dpC, quC, hfc, hqC, rfl, rfl⟩ := hp
          have hw : WD D (fun q : Nat => s.heap.size ≤ q) s.heap [(ax, .inr (5, [.ref t, .ref ga, .ref la, .ref wa, .ref pa])), (t, .inr (3, [.ref te, .ref ts, .int (nI n)])), (te, .inl (cI, 16, .inl (iA en))), (ts, .inl (cI, 17, .inl (iA st))), (ga, .inr (0, [.ref gc, .ref gn, .int (nI sz)])), (gc, .inl (cI, 16, .inl (iA cu))), (gn, .inl (cI, 16, .inl (iA ne))), (la, .inr (1, [.ref lb, .ref lw, .int (nI nlC)])), (lb, .inl (cI, 12, .inl (iA baC))), (lw, .inl (cI, 12, .inl (iA whC))), (wa, .inr (4, [.ref wv, .ref wq])), (wv, .inl (cI, 64, .inl (mA dpC))), (wq, .inl (cI, 64, .inl (iA quC))), (pa, .inr (2, [.ref pl, .ref pm])), (pl, .inl (cI, 12, .inl (iA le))), (pm, .inl (cI, 12, .inl (iA mo))), (mx, .inr (6, [.int (nI n), .ref m1, .ref m2, .ref m3, .ref m4, .int (nI nl), .ref m5, .ref m6, .ref m7, .ref m8, .ref m9, .int (nI ct), .ref m10])), (m1, .inl (cI, 16, .inl (iA oo))), (m2, .inl (cI, 16, .inl (iA ii))), (m3, .inl (cI, 12, .inl (iA lle))), (m4, .inl (cI, 12, .inl (iA lmo))), (m5, .inl (cI, 12, .inl (iA aA))), (m6, .inl (cZ, 12, .inl (bA aO))), (m7, .inl (cI, 12, .inl (iA aB))), (m8, .inl (cZ, 12, .inl (bA aI))), (m9, .inl (cI, 17, .inl (iA ss))), (m10, .inl (cI, 64, .inl (iA ww)))] H locs := hw1 rfl
          refine lv_aload_n hx hb dL_law_433 rfl (lv_at hl 1 rfl) ?_
          refine lv_aload_n hx hb dL_law_434 rfl (lv_at hl 3 rfl) ?_
          refine lv_iload_n hx hb dL_law_435 rfl (lv_at hl 0 rfl) ?_
          refine lv_iconst (v := nI 1) hx hb dL_law_436 (by decide) ?_
          refine lv_iadd hx hb dL_law_437 ?_
          refine cv_i (show nI i + nI 1 = nI (i + 1) from nI_add i 1) ?_
          refine va_sld hx hb hX hbl hbA hw.2.2 (vp_in_nI (by omega) (by omega)) dL_law_438 ?_
          refine cv_i (show xs (nI (i + 1)).toNatClampNeg = xs (i + 1) from by rw [nI_clamp (by omega)]) ?_
          refine wj (α := Unit) (nL := 4) 452 (fun aQ => True) (fun aQ => [(ax, .inr (5, [.ref t, .ref ga, .ref la, .ref wa, .ref pa])), (t, .inr (3, [.ref te, .ref ts, .int (nI n)])), (te, .inl (cI, 16, .inl (iA en))), (ts, .inl (cI, 17, .inl (iA st))), (ga, .inr (0, [.ref gc, .ref gn, .int (nI sz)])), (gc, .inl (cI, 16, .inl (iA cu))), (gn, .inl (cI, 16, .inl (iA ne))), (la, .inr (1, [.ref lb, .ref lw, .int (nI nlC)])), (lb, .inl (cI, 12, .inl (iA baC))), (lw, .inl (cI, 12, .inl (iA whC))), (wa, .inr (4, [.ref wv, .ref wq])), (wv, .inl (cI, 64, .inl (mA dpC))), (wq, .inl (cI, 64, .inl (iA quC))), (pa, .inr (2, [.ref pl, .ref pm])), (pl, .inl (cI, 12, .inl (iA le))), (pm, .inl (cI, 12, .inl (iA mo))), (mx, .inr (6, [.int (nI n), .ref m1, .ref m2, .ref m3, .ref m4, .int (nI nl), .ref m5, .ref m6, .ref m7, .ref m8, .ref m9, .int (nI ct), .ref m10])), (m1, .inl (cI, 16, .inl (iA oo))), (m2, .inl (cI, 16, .inl (iA ii))), (m3, .inl (cI, 12, .inl (iA lle))), (m4, .inl (cI, 12, .inl (iA lmo))), (m5, .inl (cI, 12, .inl (iA aA))), (m6, .inl (cZ, 12, .inl (bA aO))), (m7, .inl (cI, 12, .inl (iA aB))), (m8, .inl (cZ, 12, .inl (bA aI))), (m9, .inl (cI, 17, .inl (iA ss))), (m10, .inl (cI, 64, .inl (iA ww)))]) (fun aQ => [(3, .int (nI i)), (2, .ref mx), (1, .ref ax), (0, .ref b)]) (fun aQ => [.int (bI (decide (¬ xs (i + 2) = 0))), .int (xs (i + 1)), .ref mx, .int rC]) (D := D) (A := (fun q : Nat => s.heap.size ≤ q)) (H0 := s.heap) (fun J452 => ?_) ?_
          · skip
            refine lv_aload_n hx hb dL_law_439 rfl (lv_at hl 3 rfl) ?_
            refine lv_iload_n hx hb dL_law_440 rfl (lv_at hl 0 rfl) ?_
            refine lv_iconst (v := nI 2) hx hb dL_law_441 (by decide) ?_
            refine lv_iadd hx hb dL_law_442 ?_
            refine cv_i (show nI i + nI 2 = nI (i + 2) from nI_add i 2) ?_
            refine va_sld hx hb hX hbl hbA hw.2.2 (vp_in_nI (by omega) (by omega)) dL_law_443 ?_
            refine cv_i (show xs (nI (i + 2)).toNatClampNeg = xs (i + 2) from by rw [nI_clamp (by omega)]) ?_
            refine lv_if_eq (tgt := 451) hx hb dL_law_444 (by decide) (fun c_444 => ?_) (fun c_444 => ?_)
            · skip
              refine lv_iconst (v := nI 0) hx hb dL_law_451 (by decide) ?_
              refine cv_i (show nI 0 = bI (decide (¬ xs (i + 2) = 0)) from by rw [decide_eq_false (fun h => h c_444)]; rfl) ?_
              exact J452 () trivial _ _ _ hw (lv_sub hl [0, 1, 2, 3] rfl)
            · skip
              refine lv_iconst (v := nI 1) hx hb dL_law_447 (by decide) ?_
              refine lv_goto (tgt := 452) hx hb dL_law_448 (by decide) ?_
              refine cv_i (show nI 1 = bI (decide (¬ xs (i + 2) = 0)) from by rw [decide_eq_true c_444]; rfl) ?_
              exact J452 () trivial _ _ _ hw (lv_sub hl [0, 1, 2, 3] rfl)
          · rintro u _ H locs ls hw hl
            have hw : WD D (fun q : Nat => s.heap.size ≤ q) s.heap [(ax, .inr (5, [.ref t, .ref ga, .ref la, .ref wa, .ref pa])), (t, .inr (3, [.ref te, .ref ts, .int (nI n)])), (te, .inl (cI, 16, .inl (iA en))), (ts, .inl (cI, 17, .inl (iA st))), (ga, .inr (0, [.ref gc, .ref gn, .int (nI sz)])), (gc, .inl (cI, 16, .inl (iA cu))), (gn, .inl (cI, 16, .inl (iA ne))), (la, .inr (1, [.ref lb, .ref lw, .int (nI nlC)])), (lb, .inl (cI, 12, .inl (iA baC))), (lw, .inl (cI, 12, .inl (iA whC))), (wa, .inr (4, [.ref wv, .ref wq])), (wv, .inl (cI, 64, .inl (mA dpC))), (wq, .inl (cI, 64, .inl (iA quC))), (pa, .inr (2, [.ref pl, .ref pm])), (pl, .inl (cI, 12, .inl (iA le))), (pm, .inl (cI, 12, .inl (iA mo))), (mx, .inr (6, [.int (nI n), .ref m1, .ref m2, .ref m3, .ref m4, .int (nI nl), .ref m5, .ref m6, .ref m7, .ref m8, .ref m9, .int (nI ct), .ref m10])), (m1, .inl (cI, 16, .inl (iA oo))), (m2, .inl (cI, 16, .inl (iA ii))), (m3, .inl (cI, 12, .inl (iA lle))), (m4, .inl (cI, 12, .inl (iA lmo))), (m5, .inl (cI, 12, .inl (iA aA))), (m6, .inl (cZ, 12, .inl (bA aO))), (m7, .inl (cI, 12, .inl (iA aB))), (m8, .inl (cZ, 12, .inl (bA aI))), (m9, .inl (cI, 17, .inl (iA ss))), (m10, .inl (cI, 64, .inl (iA ww)))] H locs := hw
            have hl : lv_has ls 4 [(3, .int (nI i)), (2, .ref mx), (1, .ref ax), (0, .ref b)] := hl
            refine lv_aload_n hx hb dL_law_452 rfl (lv_at hl 3 rfl) ?_
            refine lv_iload_n hx hb dL_law_453 rfl (lv_at hl 0 rfl) ?_
            refine lv_iconst (v := nI 3) hx hb dL_law_454 (by decide) ?_
            refine lv_iadd hx hb dL_law_455 ?_
            refine cv_i (show nI i + nI 3 = nI (i + 3) from nI_add i 3) ?_
            refine va_sld hx hb hX hbl hbA hw.2.2 (vp_in_nI (by omega) (by omega)) dL_law_456 ?_
            refine cv_i (show xs (nI (i + 3)).toNatClampNeg = xs (i + 3) from by rw [nI_clamp (by omega)]) ?_
            refine wj (α := Unit) (nL := 4) 470 (fun aQ => True) (fun aQ => [(ax, .inr (5, [.ref t, .ref ga, .ref la, .ref wa, .ref pa])), (t, .inr (3, [.ref te, .ref ts, .int (nI n)])), (te, .inl (cI, 16, .inl (iA en))), (ts, .inl (cI, 17, .inl (iA st))), (ga, .inr (0, [.ref gc, .ref gn, .int (nI sz)])), (gc, .inl (cI, 16, .inl (iA cu))), (gn, .inl (cI, 16, .inl (iA ne))), (la, .inr (1, [.ref lb, .ref lw, .int (nI nlC)])), (lb, .inl (cI, 12, .inl (iA baC))), (lw, .inl (cI, 12, .inl (iA whC))), (wa, .inr (4, [.ref wv, .ref wq])), (wv, .inl (cI, 64, .inl (mA dpC))), (wq, .inl (cI, 64, .inl (iA quC))), (pa, .inr (2, [.ref pl, .ref pm])), (pl, .inl (cI, 12, .inl (iA le))), (pm, .inl (cI, 12, .inl (iA mo))), (mx, .inr (6, [.int (nI n), .ref m1, .ref m2, .ref m3, .ref m4, .int (nI nl), .ref m5, .ref m6, .ref m7, .ref m8, .ref m9, .int (nI ct), .ref m10])), (m1, .inl (cI, 16, .inl (iA oo))), (m2, .inl (cI, 16, .inl (iA ii))), (m3, .inl (cI, 12, .inl (iA lle))), (m4, .inl (cI, 12, .inl (iA lmo))), (m5, .inl (cI, 12, .inl (iA aA))), (m6, .inl (cZ, 12, .inl (bA aO))), (m7, .inl (cI, 12, .inl (iA aB))), (m8, .inl (cZ, 12, .inl (bA aI))), (m9, .inl (cI, 17, .inl (iA ss))), (m10, .inl (cI, 64, .inl (iA ww)))]) (fun aQ => [(3, .int (nI i)), (2, .ref mx), (1, .ref ax), (0, .ref b)]) (fun aQ => [.int (bI (decide (¬ xs (i + 4) = 0))), .int (xs (i + 3)), .int (bI (decide (¬ xs (i + 2) = 0))), .int (xs (i + 1)), .ref mx, .int rC]) (D := D) (A := (fun q : Nat => s.heap.size ≤ q)) (H0 := s.heap) (fun J470 => ?_) ?_
            · skip
              refine lv_aload_n hx hb dL_law_457 rfl (lv_at hl 3 rfl) ?_
              refine lv_iload_n hx hb dL_law_458 rfl (lv_at hl 0 rfl) ?_
              refine lv_iconst (v := nI 4) hx hb dL_law_459 (by decide) ?_
              refine lv_iadd hx hb dL_law_460 ?_
              refine cv_i (show nI i + nI 4 = nI (i + 4) from nI_add i 4) ?_
              refine va_sld hx hb hX hbl hbA hw.2.2 (vp_in_nI (by omega) (by omega)) dL_law_461 ?_
              refine cv_i (show xs (nI (i + 4)).toNatClampNeg = xs (i + 4) from by rw [nI_clamp (by omega)]) ?_
              refine lv_if_eq (tgt := 469) hx hb dL_law_462 (by decide) (fun c_462 => ?_) (fun c_462 => ?_)
              · skip
                refine lv_iconst (v := nI 0) hx hb dL_law_469 (by decide) ?_
                refine cv_i (show nI 0 = bI (decide (¬ xs (i + 4) = 0)) from by rw [decide_eq_false (fun h => h c_462)]; rfl) ?_
                exact J470 () trivial _ _ _ hw (lv_sub hl [0, 1, 2, 3] rfl)
              · skip
                refine lv_iconst (v := nI 1) hx hb dL_law_465 (by decide) ?_
                refine lv_goto (tgt := 470) hx hb dL_law_466 (by decide) ?_
                refine cv_i (show nI 1 = bI (decide (¬ xs (i + 4) = 0)) from by rw [decide_eq_true c_462]; rfl) ?_
                exact J470 () trivial _ _ _ hw (lv_sub hl [0, 1, 2, 3] rfl)
            · rintro u _ H locs ls hw hl
              have hw : WD D (fun q : Nat => s.heap.size ≤ q) s.heap [(ax, .inr (5, [.ref t, .ref ga, .ref la, .ref wa, .ref pa])), (t, .inr (3, [.ref te, .ref ts, .int (nI n)])), (te, .inl (cI, 16, .inl (iA en))), (ts, .inl (cI, 17, .inl (iA st))), (ga, .inr (0, [.ref gc, .ref gn, .int (nI sz)])), (gc, .inl (cI, 16, .inl (iA cu))), (gn, .inl (cI, 16, .inl (iA ne))), (la, .inr (1, [.ref lb, .ref lw, .int (nI nlC)])), (lb, .inl (cI, 12, .inl (iA baC))), (lw, .inl (cI, 12, .inl (iA whC))), (wa, .inr (4, [.ref wv, .ref wq])), (wv, .inl (cI, 64, .inl (mA dpC))), (wq, .inl (cI, 64, .inl (iA quC))), (pa, .inr (2, [.ref pl, .ref pm])), (pl, .inl (cI, 12, .inl (iA le))), (pm, .inl (cI, 12, .inl (iA mo))), (mx, .inr (6, [.int (nI n), .ref m1, .ref m2, .ref m3, .ref m4, .int (nI nl), .ref m5, .ref m6, .ref m7, .ref m8, .ref m9, .int (nI ct), .ref m10])), (m1, .inl (cI, 16, .inl (iA oo))), (m2, .inl (cI, 16, .inl (iA ii))), (m3, .inl (cI, 12, .inl (iA lle))), (m4, .inl (cI, 12, .inl (iA lmo))), (m5, .inl (cI, 12, .inl (iA aA))), (m6, .inl (cZ, 12, .inl (bA aO))), (m7, .inl (cI, 12, .inl (iA aB))), (m8, .inl (cZ, 12, .inl (bA aI))), (m9, .inl (cI, 17, .inl (iA ss))), (m10, .inl (cI, 64, .inl (iA ww)))] H locs := hw
              have hl : lv_has ls 4 [(3, .int (nI i)), (2, .ref mx), (1, .ref ax), (0, .ref b)] := hl
              refine x_callV (As := [.int (xs (i + 1)), .int (bI (decide (¬ xs (i + 2) = 0))), .int (xs (i + 3)), .int (bI (decide (¬ xs (i + 4) = 0)))]) (rest := [.int rC]) X hw hl.1 (c_X6_law l D cI cZ mx m1 m2 m3 m4 m5 m6 m7 m8 m9 m10 n nl ct aA aO aB aI (xs (i + 1)) (decide (¬ xs (i + 2) = 0)) (xs (i + 3)) (decide (¬ xs (i + 4) = 0)) (by first | assumption | omega) (by first | assumption | omega) (by first | assumption | omega)) (cwV 4 hts gL_law_X6_law rfl rfl rfl (by decide +kernel) ⟨Nat.le_of_ble_eq_true rfl, Nat.le_of_ble_eq_true rfl⟩) [16, 21, 22, 23, 24] rfl rfl 0 rfl rfl rfl rfl (Nat.le_of_ble_eq_true rfl) dL_law_470 (by decide) (fun rM w1 H locs hp hw1 => ?_)
              obtain ⟨rM0, nlM, aAM, aBM, aOM, aIM, hfm, rfl, rfl⟩ := hp
              have hw : WD D (fun q : Nat => s.heap.size ≤ q) s.heap [(ax, .inr (5, [.ref t, .ref ga, .ref la, .ref wa, .ref pa])), (t, .inr (3, [.ref te, .ref ts, .int (nI n)])), (te, .inl (cI, 16, .inl (iA en))), (ts, .inl (cI, 17, .inl (iA st))), (ga, .inr (0, [.ref gc, .ref gn, .int (nI sz)])), (gc, .inl (cI, 16, .inl (iA cu))), (gn, .inl (cI, 16, .inl (iA ne))), (la, .inr (1, [.ref lb, .ref lw, .int (nI nlC)])), (lb, .inl (cI, 12, .inl (iA baC))), (lw, .inl (cI, 12, .inl (iA whC))), (wa, .inr (4, [.ref wv, .ref wq])), (wv, .inl (cI, 64, .inl (mA dpC))), (wq, .inl (cI, 64, .inl (iA quC))), (pa, .inr (2, [.ref pl, .ref pm])), (pl, .inl (cI, 12, .inl (iA le))), (pm, .inl (cI, 12, .inl (iA mo))), (mx, .inr (6, [.int (nI n), .ref m1, .ref m2, .ref m3, .ref m4, .int (nI nlM), .ref m5, .ref m6, .ref m7, .ref m8, .ref m9, .int (nI ct), .ref m10])), (m1, .inl (cI, 16, .inl (iA oo))), (m2, .inl (cI, 16, .inl (iA ii))), (m3, .inl (cI, 12, .inl (iA lle))), (m4, .inl (cI, 12, .inl (iA lmo))), (m5, .inl (cI, 12, .inl (iA aAM))), (m6, .inl (cZ, 12, .inl (bA aOM))), (m7, .inl (cI, 12, .inl (iA aBM))), (m8, .inl (cZ, 12, .inl (bA aIM))), (m9, .inl (cI, 17, .inl (iA ss))), (m10, .inl (cI, 64, .inl (iA ww)))] H locs := hw1 rfl
              refine lv_icmp_eq (tgt := 639) hx hb dL_law_473 (by decide) (fun c_473 => ?_) (fun c_473 => ?_)
              · skip
                obtain ⟨-, e2, L9, D9⟩ := E_law LS DK hfc hfm
                subst e2
                refine lv_iinc (v := nI (i + 5)) (lv' := [(3, .int (nI (i + 5))), (2, .ref mx), (1, .ref ax), (0, .ref b)]) hx hb dL_law_639 hl (k := 0) rfl (nI_add i 5) (by decide) rfl (fun ls hl => ?_)
                refine lv_goto (tgt := 18) hx hb dL_law_642 (by decide) ?_
                exact ih_18 (i + 5, n, nlC, en, st, sz, cu, ne, baC, whC, dpC, quC, le, mo, oo, ii, lle, lmo, aAM, aOM, aBM, aIM, ss, ww, ct) (by show L + 5 - (i + 5) < L + 5 - i; omega) ⟨(show REL n nlC en st sz cu ne baC whC dpC quC le mo oo ii lle lmo aAM aOM aBM aIM ss from ⟨T, hsz, hcu, hne, L9, D9, hqC, hle, hmo, hlle, hlmo, K1, K2, hmo1, hss⟩), (show (i + 5) ≤ L from by omega)⟩ _ _ _ hw (lv_sub hl [0, 1, 2, 3] rfl)
              · skip
                exact absurd ((E_law LS DK hfc hfm).1) c_473
    · skip
      refine lv_tableIn (off := 446) (tgt := 478) hx hb dL_law_32 (by decide) (by decide) (by rfl) (by decide) ?_
      refine lv_aload_n hx hb dL_law_478 rfl (lv_at hl 2 rfl) ?_
      refine lv_aload_n hx hb dL_law_479 rfl (lv_at hl 3 rfl) ?_
      refine lv_iload_n hx hb dL_law_480 rfl (lv_at hl 0 rfl) ?_
      refine lv_iconst (v := nI 1) hx hb dL_law_481 (by decide) ?_
      refine lv_iadd hx hb dL_law_482 ?_
      refine cv_i (show nI i + nI 1 = nI (i + 1) from nI_add i 1) ?_
      refine va_sld hx hb hX hbl hbA hw.2.2 (vp_in_nI (by omega) (by omega)) dL_law_483 ?_
      refine cv_i (show xs (nI (i + 1)).toNatClampNeg = xs (i + 1) from by rw [nI_clamp (by omega)]) ?_
      refine x_callV (As := [.int (xs (i + 1))]) (rest := []) X hw hl.1 (c_X5_repeal l D cI cZ ax t ga la wa pa lb lw ba wh nl wv wq dp qu (xs (i + 1)) (by first | assumption | omega) (by first | assumption | omega) (by first | assumption | omega) (by first | assumption | omega)) (cwV 1 hts gL_law_X5_repeal rfl rfl rfl (by decide +kernel) ⟨Nat.le_of_ble_eq_true rfl, Nat.le_of_ble_eq_true rfl⟩) [0, 7, 8, 9, 10, 11, 12] rfl rfl 0 rfl rfl rfl rfl (Nat.le_of_ble_eq_true rfl) dL_law_484 (by decide) (fun rC w1 H locs hp hw1 => ?_)
      obtain ⟨rC0, nlC, baC, whC, dpC, quC, hfc, hqC, rfl, rfl⟩ := hp
      have hw : WD D (fun q : Nat => s.heap.size ≤ q) s.heap [(ax, .inr (5, [.ref t, .ref ga, .ref la, .ref wa, .ref pa])), (t, .inr (3, [.ref te, .ref ts, .int (nI n)])), (te, .inl (cI, 16, .inl (iA en))), (ts, .inl (cI, 17, .inl (iA st))), (ga, .inr (0, [.ref gc, .ref gn, .int (nI sz)])), (gc, .inl (cI, 16, .inl (iA cu))), (gn, .inl (cI, 16, .inl (iA ne))), (la, .inr (1, [.ref lb, .ref lw, .int (nI nlC)])), (lb, .inl (cI, 12, .inl (iA baC))), (lw, .inl (cI, 12, .inl (iA whC))), (wa, .inr (4, [.ref wv, .ref wq])), (wv, .inl (cI, 64, .inl (mA dpC))), (wq, .inl (cI, 64, .inl (iA quC))), (pa, .inr (2, [.ref pl, .ref pm])), (pl, .inl (cI, 12, .inl (iA le))), (pm, .inl (cI, 12, .inl (iA mo))), (mx, .inr (6, [.int (nI n), .ref m1, .ref m2, .ref m3, .ref m4, .int (nI nl), .ref m5, .ref m6, .ref m7, .ref m8, .ref m9, .int (nI ct), .ref m10])), (m1, .inl (cI, 16, .inl (iA oo))), (m2, .inl (cI, 16, .inl (iA ii))), (m3, .inl (cI, 12, .inl (iA lle))), (m4, .inl (cI, 12, .inl (iA lmo))), (m5, .inl (cI, 12, .inl (iA aA))), (m6, .inl (cZ, 12, .inl (bA aO))), (m7, .inl (cI, 12, .inl (iA aB))), (m8, .inl (cZ, 12, .inl (bA aI))), (m9, .inl (cI, 17, .inl (iA ss))), (m10, .inl (cI, 64, .inl (iA ww)))] H locs := hw1 rfl
      refine lv_aload_n hx hb dL_law_487 rfl (lv_at hl 1 rfl) ?_
      refine lv_aload_n hx hb dL_law_488 rfl (lv_at hl 3 rfl) ?_
      refine lv_iload_n hx hb dL_law_489 rfl (lv_at hl 0 rfl) ?_
      refine lv_iconst (v := nI 1) hx hb dL_law_490 (by decide) ?_
      refine lv_iadd hx hb dL_law_491 ?_
      refine cv_i (show nI i + nI 1 = nI (i + 1) from nI_add i 1) ?_
      refine va_sld hx hb hX hbl hbA hw.2.2 (vp_in_nI (by omega) (by omega)) dL_law_492 ?_
      refine cv_i (show xs (nI (i + 1)).toNatClampNeg = xs (i + 1) from by rw [nI_clamp (by omega)]) ?_
      refine x_callV (As := [.int (xs (i + 1))]) (rest := [.int rC]) X hw hl.1 (c_X6_repeal l D cI cZ mx m1 m2 m3 m4 m5 m6 m7 m8 m9 m10 n nl ct aA aO aB aI (xs (i + 1)) (by first | assumption | omega) (by first | assumption | omega) (by first | assumption | omega)) (cwV 1 hts gL_law_X6_repeal rfl rfl rfl (by decide +kernel) ⟨Nat.le_of_ble_eq_true rfl, Nat.le_of_ble_eq_true rfl⟩) [16, 21, 22, 23, 24] rfl rfl 0 rfl rfl rfl rfl (Nat.le_of_ble_eq_true rfl) dL_law_493 (by decide) (fun rM w1 H locs hp hw1 => ?_)
      obtain ⟨rM0, nlM, aAM, aBM, aOM, aIM, hfm, rfl, rfl⟩ := hp
      have hw : WD D (fun q : Nat => s.heap.size ≤ q) s.heap [(ax, .inr (5, [.ref t, .ref ga, .ref la, .ref wa, .ref pa])), (t, .inr (3, [.ref te, .ref ts, .int (nI n)])), (te, .inl (cI, 16, .inl (iA en))), (ts, .inl (cI, 17, .inl (iA st))), (ga, .inr (0, [.ref gc, .ref gn, .int (nI sz)])), (gc, .inl (cI, 16, .inl (iA cu))), (gn, .inl (cI, 16, .inl (iA ne))), (la, .inr (1, [.ref lb, .ref lw, .int (nI nlC)])), (lb, .inl (cI, 12, .inl (iA baC))), (lw, .inl (cI, 12, .inl (iA whC))), (wa, .inr (4, [.ref wv, .ref wq])), (wv, .inl (cI, 64, .inl (mA dpC))), (wq, .inl (cI, 64, .inl (iA quC))), (pa, .inr (2, [.ref pl, .ref pm])), (pl, .inl (cI, 12, .inl (iA le))), (pm, .inl (cI, 12, .inl (iA mo))), (mx, .inr (6, [.int (nI n), .ref m1, .ref m2, .ref m3, .ref m4, .int (nI nlM), .ref m5, .ref m6, .ref m7, .ref m8, .ref m9, .int (nI ct), .ref m10])), (m1, .inl (cI, 16, .inl (iA oo))), (m2, .inl (cI, 16, .inl (iA ii))), (m3, .inl (cI, 12, .inl (iA lle))), (m4, .inl (cI, 12, .inl (iA lmo))), (m5, .inl (cI, 12, .inl (iA aAM))), (m6, .inl (cZ, 12, .inl (bA aOM))), (m7, .inl (cI, 12, .inl (iA aBM))), (m8, .inl (cZ, 12, .inl (bA aIM))), (m9, .inl (cI, 17, .inl (iA ss))), (m10, .inl (cI, 64, .inl (iA ww)))] H locs := hw1 rfl
      refine lv_icmp_eq (tgt := 639) hx hb dL_law_496 (by decide) (fun c_496 => ?_) (fun c_496 => ?_)
      · skip
        obtain ⟨-, e2, L9, D9⟩ := E_repeal LS DK hfc hfm
        subst e2
        refine lv_iinc (v := nI (i + 5)) (lv' := [(3, .int (nI (i + 5))), (2, .ref mx), (1, .ref ax), (0, .ref b)]) hx hb dL_law_639 hl (k := 0) rfl (nI_add i 5) (by decide) rfl (fun ls hl => ?_)
        refine lv_goto (tgt := 18) hx hb dL_law_642 (by decide) ?_
        exact ih_18 (i + 5, n, nlC, en, st, sz, cu, ne, baC, whC, dpC, quC, le, mo, oo, ii, lle, lmo, aAM, aOM, aBM, aIM, ss, ww, ct) (by show L + 5 - (i + 5) < L + 5 - i; omega) ⟨(show REL n nlC en st sz cu ne baC whC dpC quC le mo oo ii lle lmo aAM aOM aBM aIM ss from ⟨T, hsz, hcu, hne, L9, D9, hqC, hle, hmo, hlle, hlmo, K1, K2, hmo1, hss⟩), (show (i + 5) ≤ L from by omega)⟩ _ _ _ hw (lv_sub hl [0, 1, 2, 3] rfl)
      · skip
        exact absurd ((E_repeal LS DK hfc hfm).1) c_496
    · skip
      refine lv_tableIn (off := 469) (tgt := 501) hx hb dL_law_32 (by decide) (by decide) (by rfl) (by decide) ?_
      refine lv_aload_n hx hb dL_law_501 rfl (lv_at hl 2 rfl) ?_
      refine x_callV (As := []) (rest := []) X hw hl.1 (c_X5_breach l D cI cZ ax t ga la wa pa te ts en st n lb lw ba wh nl (by first | assumption | omega) (by first | assumption | omega) (by first | assumption | omega) (by first | assumption | omega) (by first | assumption | omega) (by first | assumption | omega)) (cwV 0 hts gL_law_X5_breach rfl rfl rfl (by decide +kernel) ⟨Nat.le_of_ble_eq_true rfl, Nat.le_of_ble_eq_true rfl⟩) [0, 1, 2, 3, 7, 8, 9] rfl rfl 0 rfl rfl rfl rfl (Nat.le_of_ble_eq_true rfl) dL_law_502 (by decide) (fun r w1 H locs hp hw1 => ?_)
      obtain ⟨rfl, rfl⟩ := hp
      have hw : WD D (fun q : Nat => s.heap.size ≤ q) s.heap [(ax, .inr (5, [.ref t, .ref ga, .ref la, .ref wa, .ref pa])), (t, .inr (3, [.ref te, .ref ts, .int (nI n)])), (te, .inl (cI, 16, .inl (iA en))), (ts, .inl (cI, 17, .inl (iA st))), (ga, .inr (0, [.ref gc, .ref gn, .int (nI sz)])), (gc, .inl (cI, 16, .inl (iA cu))), (gn, .inl (cI, 16, .inl (iA ne))), (la, .inr (1, [.ref lb, .ref lw, .int (nI nl)])), (lb, .inl (cI, 12, .inl (iA ba))), (lw, .inl (cI, 12, .inl (iA wh))), (wa, .inr (4, [.ref wv, .ref wq])), (wv, .inl (cI, 64, .inl (mA dp))), (wq, .inl (cI, 64, .inl (iA qu))), (pa, .inr (2, [.ref pl, .ref pm])), (pl, .inl (cI, 12, .inl (iA le))), (pm, .inl (cI, 12, .inl (iA mo))), (mx, .inr (6, [.int (nI n), .ref m1, .ref m2, .ref m3, .ref m4, .int (nI nl), .ref m5, .ref m6, .ref m7, .ref m8, .ref m9, .int (nI ct), .ref m10])), (m1, .inl (cI, 16, .inl (iA oo))), (m2, .inl (cI, 16, .inl (iA ii))), (m3, .inl (cI, 12, .inl (iA lle))), (m4, .inl (cI, 12, .inl (iA lmo))), (m5, .inl (cI, 12, .inl (iA aA))), (m6, .inl (cZ, 12, .inl (bA aO))), (m7, .inl (cI, 12, .inl (iA aB))), (m8, .inl (cZ, 12, .inl (bA aI))), (m9, .inl (cI, 17, .inl (iA ss))), (m10, .inl (cI, 64, .inl (iA ww)))] H locs := hw1 rfl
      refine lv_aload_n hx hb dL_law_505 rfl (lv_at hl 1 rfl) ?_
      refine x_callV (As := []) (rest := [.int (gd1 (fwC en st n) (fsI (fun k => !alw ba wh nl (en k) (st k)) n))]) X hw hl.1 (c_X6_breach l D cI cZ mx m1 m2 m3 m4 m5 m6 m7 m8 m9 m10 n nl ct oo ii ss aA aO aB aI (by first | assumption | omega) (by first | assumption | omega) (by first | assumption | omega) (by first | assumption | omega) (by first | assumption | omega) (by first | assumption | omega) (by first | assumption | omega)) (cwV 0 hts gL_law_X6_breach rfl rfl rfl (by decide +kernel) ⟨Nat.le_of_ble_eq_true rfl, Nat.le_of_ble_eq_true rfl⟩) [16, 17, 18, 25, 21, 22, 23, 24] rfl rfl 0 rfl rfl rfl rfl (Nat.le_of_ble_eq_true rfl) dL_law_506 (by decide) (fun r w1 H locs hp hw1 => ?_)
      obtain ⟨sN, hsN, rfl, rfl⟩ := hp
      have hw : WD D (fun q : Nat => s.heap.size ≤ q) s.heap [(ax, .inr (5, [.ref t, .ref ga, .ref la, .ref wa, .ref pa])), (t, .inr (3, [.ref te, .ref ts, .int (nI n)])), (te, .inl (cI, 16, .inl (iA en))), (ts, .inl (cI, 17, .inl (iA st))), (ga, .inr (0, [.ref gc, .ref gn, .int (nI sz)])), (gc, .inl (cI, 16, .inl (iA cu))), (gn, .inl (cI, 16, .inl (iA ne))), (la, .inr (1, [.ref lb, .ref lw, .int (nI nl)])), (lb, .inl (cI, 12, .inl (iA ba))), (lw, .inl (cI, 12, .inl (iA wh))), (wa, .inr (4, [.ref wv, .ref wq])), (wv, .inl (cI, 64, .inl (mA dp))), (wq, .inl (cI, 64, .inl (iA qu))), (pa, .inr (2, [.ref pl, .ref pm])), (pl, .inl (cI, 12, .inl (iA le))), (pm, .inl (cI, 12, .inl (iA mo))), (mx, .inr (6, [.int (nI n), .ref m1, .ref m2, .ref m3, .ref m4, .int (nI nl), .ref m5, .ref m6, .ref m7, .ref m8, .ref m9, .int (nI ct), .ref m10])), (m1, .inl (cI, 16, .inl (iA oo))), (m2, .inl (cI, 16, .inl (iA ii))), (m3, .inl (cI, 12, .inl (iA lle))), (m4, .inl (cI, 12, .inl (iA lmo))), (m5, .inl (cI, 12, .inl (iA aA))), (m6, .inl (cZ, 12, .inl (bA aO))), (m7, .inl (cI, 12, .inl (iA aB))), (m8, .inl (cZ, 12, .inl (bA aI))), (m9, .inl (cI, 17, .inl (iA sN))), (m10, .inl (cI, 64, .inl (iA ww)))] H locs := hw1 rfl
      refine lv_icmp_eq (tgt := 639) hx hb dL_law_509 (by decide) (fun c_509 => ?_) (fun c_509 => ?_)
      · skip
        refine lv_iinc (v := nI (i + 5)) (lv' := [(3, .int (nI (i + 5))), (2, .ref mx), (1, .ref ax), (0, .ref b)]) hx hb dL_law_639 hl (k := 0) rfl (nI_add i 5) (by decide) rfl (fun ls hl => ?_)
        refine lv_goto (tgt := 18) hx hb dL_law_642 (by decide) ?_
        exact ih_18 (i + 5, n, nl, en, st, sz, cu, ne, ba, wh, dp, qu, le, mo, oo, ii, lle, lmo, aA, aO, aB, aI, sN, ww, ct) (by show L + 5 - (i + 5) < L + 5 - i; omega) ⟨(show REL n nl en st sz cu ne ba wh dp qu le mo oo ii lle lmo aA aO aB aI sN from ⟨T, hsz, hcu, hne, LS, DK, hqu, hle, hmo, hlle, hlmo, K1, K2, hmo1, hsN⟩), (show (i + 5) ≤ L from by omega)⟩ _ _ _ hw (lv_sub hl [0, 1, 2, 3] rfl)
      · skip
        exact absurd (E_breach T LS) c_509
    · skip
      refine lv_tableIn (off := 482) (tgt := 514) hx hb dL_law_32 (by decide) (by decide) (by rfl) (by decide) ?_
      refine lv_aload_n hx hb dL_law_514 rfl (lv_at hl 2 rfl) ?_
      refine lv_aload_n hx hb dL_law_515 rfl (lv_at hl 3 rfl) ?_
      refine lv_iload_n hx hb dL_law_516 rfl (lv_at hl 0 rfl) ?_
      refine lv_iconst (v := nI 1) hx hb dL_law_517 (by decide) ?_
      refine lv_iadd hx hb dL_law_518 ?_
      refine cv_i (show nI i + nI 1 = nI (i + 1) from nI_add i 1) ?_
      refine va_sld hx hb hX hbl hbA hw.2.2 (vp_in_nI (by omega) (by omega)) dL_law_519 ?_
      refine cv_i (show xs (nI (i + 1)).toNatClampNeg = xs (i + 1) from by rw [nI_clamp (by omega)]) ?_
      refine x_callV (As := [.int (xs (i + 1))]) (rest := []) X hw hl.1 (c_X5_home l D cI cZ ax t ga la wa pa wv wq dp qu (xs (i + 1)) ) (cwV 1 hts gL_law_X5_home rfl rfl rfl (by decide +kernel) ⟨Nat.le_of_ble_eq_true rfl, Nat.le_of_ble_eq_true rfl⟩) [0, 10, 11, 12] rfl rfl 0 rfl rfl rfl rfl (Nat.le_of_ble_eq_true rfl) dL_law_520 (by decide) (fun r w1 H locs hp hw1 => ?_)
      obtain ⟨rfl, rfl⟩ := hp
      have hw : WD D (fun q : Nat => s.heap.size ≤ q) s.heap [(ax, .inr (5, [.ref t, .ref ga, .ref la, .ref wa, .ref pa])), (t, .inr (3, [.ref te, .ref ts, .int (nI n)])), (te, .inl (cI, 16, .inl (iA en))), (ts, .inl (cI, 17, .inl (iA st))), (ga, .inr (0, [.ref gc, .ref gn, .int (nI sz)])), (gc, .inl (cI, 16, .inl (iA cu))), (gn, .inl (cI, 16, .inl (iA ne))), (la, .inr (1, [.ref lb, .ref lw, .int (nI nl)])), (lb, .inl (cI, 12, .inl (iA ba))), (lw, .inl (cI, 12, .inl (iA wh))), (wa, .inr (4, [.ref wv, .ref wq])), (wv, .inl (cI, 64, .inl (mA dp))), (wq, .inl (cI, 64, .inl (iA qu))), (pa, .inr (2, [.ref pl, .ref pm])), (pl, .inl (cI, 12, .inl (iA le))), (pm, .inl (cI, 12, .inl (iA mo))), (mx, .inr (6, [.int (nI n), .ref m1, .ref m2, .ref m3, .ref m4, .int (nI nl), .ref m5, .ref m6, .ref m7, .ref m8, .ref m9, .int (nI ct), .ref m10])), (m1, .inl (cI, 16, .inl (iA oo))), (m2, .inl (cI, 16, .inl (iA ii))), (m3, .inl (cI, 12, .inl (iA lle))), (m4, .inl (cI, 12, .inl (iA lmo))), (m5, .inl (cI, 12, .inl (iA aA))), (m6, .inl (cZ, 12, .inl (bA aO))), (m7, .inl (cI, 12, .inl (iA aB))), (m8, .inl (cZ, 12, .inl (bA aI))), (m9, .inl (cI, 17, .inl (iA ss))), (m10, .inl (cI, 64, .inl (iA ww)))] H locs := hw1 rfl
      refine lv_aload_n hx hb dL_law_523 rfl (lv_at hl 1 rfl) ?_
      refine lv_aload_n hx hb dL_law_524 rfl (lv_at hl 3 rfl) ?_
      refine lv_iload_n hx hb dL_law_525 rfl (lv_at hl 0 rfl) ?_
      refine lv_iconst (v := nI 1) hx hb dL_law_526 (by decide) ?_
      refine lv_iadd hx hb dL_law_527 ?_
      refine cv_i (show nI i + nI 1 = nI (i + 1) from nI_add i 1) ?_
      refine va_sld hx hb hX hbl hbA hw.2.2 (vp_in_nI (by omega) (by omega)) dL_law_528 ?_
      refine cv_i (show xs (nI (i + 1)).toNatClampNeg = xs (i + 1) from by rw [nI_clamp (by omega)]) ?_
      refine x_callV (As := [.int (xs (i + 1))]) (rest := [.int (if bel (xs (i + 1)) (nI 64) then mI (dp (xs (i + 1)).toNatClampNeg) else -2)]) X hw hl.1 (c_X6_home l D cI cZ mx m1 m2 m3 m4 m5 m6 m7 m8 m9 m10 n nl ct aA aO aB aI ww (xs (i + 1)) (by first | assumption | omega) (by first | assumption | omega) (by first | assumption | omega)) (cwV 1 hts gL_law_X6_home rfl rfl rfl (by decide +kernel) ⟨Nat.le_of_ble_eq_true rfl, Nat.le_of_ble_eq_true rfl⟩) [16, 21, 22, 23, 24, 26] rfl rfl 0 rfl rfl rfl rfl (Nat.le_of_ble_eq_true rfl) dL_law_529 (by decide) (fun r w1 H locs hp hw1 => ?_)
      obtain ⟨wN, hIw, hFw, rfl, rfl⟩ := hp
      have hw : WD D (fun q : Nat => s.heap.size ≤ q) s.heap [(ax, .inr (5, [.ref t, .ref ga, .ref la, .ref wa, .ref pa])), (t, .inr (3, [.ref te, .ref ts, .int (nI n)])), (te, .inl (cI, 16, .inl (iA en))), (ts, .inl (cI, 17, .inl (iA st))), (ga, .inr (0, [.ref gc, .ref gn, .int (nI sz)])), (gc, .inl (cI, 16, .inl (iA cu))), (gn, .inl (cI, 16, .inl (iA ne))), (la, .inr (1, [.ref lb, .ref lw, .int (nI nl)])), (lb, .inl (cI, 12, .inl (iA ba))), (lw, .inl (cI, 12, .inl (iA wh))), (wa, .inr (4, [.ref wv, .ref wq])), (wv, .inl (cI, 64, .inl (mA dp))), (wq, .inl (cI, 64, .inl (iA qu))), (pa, .inr (2, [.ref pl, .ref pm])), (pl, .inl (cI, 12, .inl (iA le))), (pm, .inl (cI, 12, .inl (iA mo))), (mx, .inr (6, [.int (nI n), .ref m1, .ref m2, .ref m3, .ref m4, .int (nI nl), .ref m5, .ref m6, .ref m7, .ref m8, .ref m9, .int (nI ct), .ref m10])), (m1, .inl (cI, 16, .inl (iA oo))), (m2, .inl (cI, 16, .inl (iA ii))), (m3, .inl (cI, 12, .inl (iA lle))), (m4, .inl (cI, 12, .inl (iA lmo))), (m5, .inl (cI, 12, .inl (iA aA))), (m6, .inl (cZ, 12, .inl (bA aO))), (m7, .inl (cI, 12, .inl (iA aB))), (m8, .inl (cZ, 12, .inl (bA aI))), (m9, .inl (cI, 17, .inl (iA ss))), (m10, .inl (cI, 64, .inl (iA wN)))] H locs := hw1 rfl
      refine lv_icmp_eq (tgt := 639) hx hb dL_law_532 (by decide) (fun c_532 => ?_) (fun c_532 => ?_)
      · skip
        refine lv_iinc (v := nI (i + 5)) (lv' := [(3, .int (nI (i + 5))), (2, .ref mx), (1, .ref ax), (0, .ref b)]) hx hb dL_law_639 hl (k := 0) rfl (nI_add i 5) (by decide) rfl (fun ls hl => ?_)
        refine lv_goto (tgt := 18) hx hb dL_law_642 (by decide) ?_
        exact ih_18 (i + 5, n, nl, en, st, sz, cu, ne, ba, wh, dp, qu, le, mo, oo, ii, lle, lmo, aA, aO, aB, aI, ss, wN, ct) (by show L + 5 - (i + 5) < L + 5 - i; omega) ⟨(show REL n nl en st sz cu ne ba wh dp qu le mo oo ii lle lmo aA aO aB aI ss from ⟨T, hsz, hcu, hne, LS, DK, hqu, hle, hmo, hlle, hlmo, K1, K2, hmo1, hss⟩), (show (i + 5) ≤ L from by omega)⟩ _ _ _ hw (lv_sub hl [0, 1, 2, 3] rfl)
      · skip
        exact absurd (E_home LS DK hIw hFw) c_532
    · skip
      refine lv_tableIn (off := 505) (tgt := 537) hx hb dL_law_32 (by decide) (by decide) (by rfl) (by decide) ?_
      refine lv_aload_n hx hb dL_law_537 rfl (lv_at hl 2 rfl) ?_
      refine lv_aload_n hx hb dL_law_538 rfl (lv_at hl 3 rfl) ?_
      refine lv_iload_n hx hb dL_law_539 rfl (lv_at hl 0 rfl) ?_
      refine lv_iconst (v := nI 1) hx hb dL_law_540 (by decide) ?_
      refine lv_iadd hx hb dL_law_541 ?_
      refine cv_i (show nI i + nI 1 = nI (i + 1) from nI_add i 1) ?_
      refine va_sld hx hb hX hbl hbA hw.2.2 (vp_in_nI (by omega) (by omega)) dL_law_542 ?_
      refine cv_i (show xs (nI (i + 1)).toNatClampNeg = xs (i + 1) from by rw [nI_clamp (by omega)]) ?_
      refine lv_aload_n hx hb dL_law_543 rfl (lv_at hl 3 rfl) ?_
      refine lv_iload_n hx hb dL_law_544 rfl (lv_at hl 0 rfl) ?_
      refine lv_iconst (v := nI 2) hx hb dL_law_545 (by decide) ?_
      refine lv_iadd hx hb dL_law_546 ?_
      refine cv_i (show nI i + nI 2 = nI (i + 2) from nI_add i 2) ?_
      refine va_sld hx hb hX hbl hbA hw.2.2 (vp_in_nI (by omega) (by omega)) dL_law_547 ?_
      refine cv_i (show xs (nI (i + 2)).toNatClampNeg = xs (i + 2) from by rw [nI_clamp (by omega)]) ?_
      refine x_callV (As := [.int (xs (i + 1)), .int (xs (i + 2))]) (rest := []) X hw hl.1 (c_X5_way l D cI cZ ax t ga la wa pa wv wq dp qu lb lw ba wh nl (xs (i + 1)) (xs (i + 2)) (by first | assumption | omega) (by first | assumption | omega) (by first | assumption | omega) (by first | assumption | omega) (by first | assumption | omega)) (cwV 2 hts gL_law_X5_way rfl rfl rfl (by decide +kernel) ⟨Nat.le_of_ble_eq_true rfl, Nat.le_of_ble_eq_true rfl⟩) [0, 10, 11, 12, 7, 8, 9] rfl rfl 0 rfl rfl rfl rfl (Nat.le_of_ble_eq_true rfl) dL_law_548 (by decide) (fun r w1 H locs hp hw1 => ?_)
      obtain ⟨rfl, rfl⟩ := hp
      have hw : WD D (fun q : Nat => s.heap.size ≤ q) s.heap [(ax, .inr (5, [.ref t, .ref ga, .ref la, .ref wa, .ref pa])), (t, .inr (3, [.ref te, .ref ts, .int (nI n)])), (te, .inl (cI, 16, .inl (iA en))), (ts, .inl (cI, 17, .inl (iA st))), (ga, .inr (0, [.ref gc, .ref gn, .int (nI sz)])), (gc, .inl (cI, 16, .inl (iA cu))), (gn, .inl (cI, 16, .inl (iA ne))), (la, .inr (1, [.ref lb, .ref lw, .int (nI nl)])), (lb, .inl (cI, 12, .inl (iA ba))), (lw, .inl (cI, 12, .inl (iA wh))), (wa, .inr (4, [.ref wv, .ref wq])), (wv, .inl (cI, 64, .inl (mA dp))), (wq, .inl (cI, 64, .inl (iA qu))), (pa, .inr (2, [.ref pl, .ref pm])), (pl, .inl (cI, 12, .inl (iA le))), (pm, .inl (cI, 12, .inl (iA mo))), (mx, .inr (6, [.int (nI n), .ref m1, .ref m2, .ref m3, .ref m4, .int (nI nl), .ref m5, .ref m6, .ref m7, .ref m8, .ref m9, .int (nI ct), .ref m10])), (m1, .inl (cI, 16, .inl (iA oo))), (m2, .inl (cI, 16, .inl (iA ii))), (m3, .inl (cI, 12, .inl (iA lle))), (m4, .inl (cI, 12, .inl (iA lmo))), (m5, .inl (cI, 12, .inl (iA aA))), (m6, .inl (cZ, 12, .inl (bA aO))), (m7, .inl (cI, 12, .inl (iA aB))), (m8, .inl (cZ, 12, .inl (bA aI))), (m9, .inl (cI, 17, .inl (iA ss))), (m10, .inl (cI, 64, .inl (iA ww)))] H locs := hw1 rfl
      refine lv_aload_n hx hb dL_law_551 rfl (lv_at hl 1 rfl) ?_
      refine lv_aload_n hx hb dL_law_552 rfl (lv_at hl 3 rfl) ?_
      refine lv_iload_n hx hb dL_law_553 rfl (lv_at hl 0 rfl) ?_
      refine lv_iconst (v := nI 1) hx hb dL_law_554 (by decide) ?_
      refine lv_iadd hx hb dL_law_555 ?_
      refine cv_i (show nI i + nI 1 = nI (i + 1) from nI_add i 1) ?_
      refine va_sld hx hb hX hbl hbA hw.2.2 (vp_in_nI (by omega) (by omega)) dL_law_556 ?_
      refine cv_i (show xs (nI (i + 1)).toNatClampNeg = xs (i + 1) from by rw [nI_clamp (by omega)]) ?_
      refine lv_aload_n hx hb dL_law_557 rfl (lv_at hl 3 rfl) ?_
      refine lv_iload_n hx hb dL_law_558 rfl (lv_at hl 0 rfl) ?_
      refine lv_iconst (v := nI 2) hx hb dL_law_559 (by decide) ?_
      refine lv_iadd hx hb dL_law_560 ?_
      refine cv_i (show nI i + nI 2 = nI (i + 2) from nI_add i 2) ?_
      refine va_sld hx hb hX hbl hbA hw.2.2 (vp_in_nI (by omega) (by omega)) dL_law_561 ?_
      refine cv_i (show xs (nI (i + 2)).toNatClampNeg = xs (i + 2) from by rw [nI_clamp (by omega)]) ?_
      refine x_callV (As := [.int (xs (i + 1)), .int (xs (i + 2))]) (rest := [.int (if bel (xs (i + 1)) (nI 64) = true ∧ ¬ (xs (i + 2)) < 0 then mvC (alM ba wh nl) dp (xs (i + 1)).toNatClampNeg (xs (i + 2)).toNatClampNeg else -2)]) X hw hl.1 (c_X6_way l D cI cZ mx m1 m2 m3 m4 m5 m6 m7 m8 m9 m10 n nl ct aA aO aB aI ww (xs (i + 1)) (xs (i + 2)) (by first | assumption | omega) (by first | assumption | omega) (by first | assumption | omega)) (cwV 2 hts gL_law_X6_way rfl rfl rfl (by decide +kernel) ⟨Nat.le_of_ble_eq_true rfl, Nat.le_of_ble_eq_true rfl⟩) [16, 21, 22, 23, 24, 26] rfl rfl 0 rfl rfl rfl rfl (Nat.le_of_ble_eq_true rfl) dL_law_562 (by decide) (fun r w1 H locs hp hw1 => ?_)
      obtain ⟨wN, hIw, hFw, rfl, rfl⟩ := hp
      have hw : WD D (fun q : Nat => s.heap.size ≤ q) s.heap [(ax, .inr (5, [.ref t, .ref ga, .ref la, .ref wa, .ref pa])), (t, .inr (3, [.ref te, .ref ts, .int (nI n)])), (te, .inl (cI, 16, .inl (iA en))), (ts, .inl (cI, 17, .inl (iA st))), (ga, .inr (0, [.ref gc, .ref gn, .int (nI sz)])), (gc, .inl (cI, 16, .inl (iA cu))), (gn, .inl (cI, 16, .inl (iA ne))), (la, .inr (1, [.ref lb, .ref lw, .int (nI nl)])), (lb, .inl (cI, 12, .inl (iA ba))), (lw, .inl (cI, 12, .inl (iA wh))), (wa, .inr (4, [.ref wv, .ref wq])), (wv, .inl (cI, 64, .inl (mA dp))), (wq, .inl (cI, 64, .inl (iA qu))), (pa, .inr (2, [.ref pl, .ref pm])), (pl, .inl (cI, 12, .inl (iA le))), (pm, .inl (cI, 12, .inl (iA mo))), (mx, .inr (6, [.int (nI n), .ref m1, .ref m2, .ref m3, .ref m4, .int (nI nl), .ref m5, .ref m6, .ref m7, .ref m8, .ref m9, .int (nI ct), .ref m10])), (m1, .inl (cI, 16, .inl (iA oo))), (m2, .inl (cI, 16, .inl (iA ii))), (m3, .inl (cI, 12, .inl (iA lle))), (m4, .inl (cI, 12, .inl (iA lmo))), (m5, .inl (cI, 12, .inl (iA aA))), (m6, .inl (cZ, 12, .inl (bA aO))), (m7, .inl (cI, 12, .inl (iA aB))), (m8, .inl (cZ, 12, .inl (bA aI))), (m9, .inl (cI, 17, .inl (iA ss))), (m10, .inl (cI, 64, .inl (iA wN)))] H locs := hw1 rfl
      refine lv_icmp_eq (tgt := 639) hx hb dL_law_565 (by decide) (fun c_565 => ?_) (fun c_565 => ?_)
      · skip
        refine lv_iinc (v := nI (i + 5)) (lv' := [(3, .int (nI (i + 5))), (2, .ref mx), (1, .ref ax), (0, .ref b)]) hx hb dL_law_639 hl (k := 0) rfl (nI_add i 5) (by decide) rfl (fun ls hl => ?_)
        refine lv_goto (tgt := 18) hx hb dL_law_642 (by decide) ?_
        exact ih_18 (i + 5, n, nl, en, st, sz, cu, ne, ba, wh, dp, qu, le, mo, oo, ii, lle, lmo, aA, aO, aB, aI, ss, wN, ct) (by show L + 5 - (i + 5) < L + 5 - i; omega) ⟨(show REL n nl en st sz cu ne ba wh dp qu le mo oo ii lle lmo aA aO aB aI ss from ⟨T, hsz, hcu, hne, LS, DK, hqu, hle, hmo, hlle, hlmo, K1, K2, hmo1, hss⟩), (show (i + 5) ≤ L from by omega)⟩ _ _ _ hw (lv_sub hl [0, 1, 2, 3] rfl)
      · skip
        exact absurd (E_way LS DK hIw hFw) c_565
    · skip
      refine lv_tableIn (off := 538) (tgt := 570) hx hb dL_law_32 (by decide) (by decide) (by rfl) (by decide) ?_
      refine lv_aload_n hx hb dL_law_570 rfl (lv_at hl 2 rfl) ?_
      refine lv_aload_n hx hb dL_law_571 rfl (lv_at hl 3 rfl) ?_
      refine lv_iload_n hx hb dL_law_572 rfl (lv_at hl 0 rfl) ?_
      refine lv_iconst (v := nI 1) hx hb dL_law_573 (by decide) ?_
      refine lv_iadd hx hb dL_law_574 ?_
      refine cv_i (show nI i + nI 1 = nI (i + 1) from nI_add i 1) ?_
      refine va_sld hx hb hX hbl hbA hw.2.2 (vp_in_nI (by omega) (by omega)) dL_law_575 ?_
      refine cv_i (show xs (nI (i + 1)).toNatClampNeg = xs (i + 1) from by rw [nI_clamp (by omega)]) ?_
      refine x_callV (As := [.int (xs (i + 1))]) (rest := []) X hw hl.1 (c_X5_stops l D cI cZ ax t ga la wa pa te ts en st n (xs (i + 1)) (by first | assumption | omega) (by first | assumption | omega) (by first | assumption | omega)) (cwV 1 hts gL_law_X5_stops rfl rfl rfl (by decide +kernel) ⟨Nat.le_of_ble_eq_true rfl, Nat.le_of_ble_eq_true rfl⟩) [0, 1, 2, 3] rfl rfl 0 rfl rfl rfl rfl (Nat.le_of_ble_eq_true rfl) dL_law_576 (by decide) (fun r w1 H locs hp hw1 => ?_)
      obtain ⟨rfl, rfl⟩ := hp
      have hw : WD D (fun q : Nat => s.heap.size ≤ q) s.heap [(ax, .inr (5, [.ref t, .ref ga, .ref la, .ref wa, .ref pa])), (t, .inr (3, [.ref te, .ref ts, .int (nI n)])), (te, .inl (cI, 16, .inl (iA en))), (ts, .inl (cI, 17, .inl (iA st))), (ga, .inr (0, [.ref gc, .ref gn, .int (nI sz)])), (gc, .inl (cI, 16, .inl (iA cu))), (gn, .inl (cI, 16, .inl (iA ne))), (la, .inr (1, [.ref lb, .ref lw, .int (nI nl)])), (lb, .inl (cI, 12, .inl (iA ba))), (lw, .inl (cI, 12, .inl (iA wh))), (wa, .inr (4, [.ref wv, .ref wq])), (wv, .inl (cI, 64, .inl (mA dp))), (wq, .inl (cI, 64, .inl (iA qu))), (pa, .inr (2, [.ref pl, .ref pm])), (pl, .inl (cI, 12, .inl (iA le))), (pm, .inl (cI, 12, .inl (iA mo))), (mx, .inr (6, [.int (nI n), .ref m1, .ref m2, .ref m3, .ref m4, .int (nI nl), .ref m5, .ref m6, .ref m7, .ref m8, .ref m9, .int (nI ct), .ref m10])), (m1, .inl (cI, 16, .inl (iA oo))), (m2, .inl (cI, 16, .inl (iA ii))), (m3, .inl (cI, 12, .inl (iA lle))), (m4, .inl (cI, 12, .inl (iA lmo))), (m5, .inl (cI, 12, .inl (iA aA))), (m6, .inl (cZ, 12, .inl (bA aO))), (m7, .inl (cI, 12, .inl (iA aB))), (m8, .inl (cZ, 12, .inl (bA aI))), (m9, .inl (cI, 17, .inl (iA ss))), (m10, .inl (cI, 64, .inl (iA ww)))] H locs := hw1 rfl
      refine lv_aload_n hx hb dL_law_579 rfl (lv_at hl 1 rfl) ?_
      refine lv_aload_n hx hb dL_law_580 rfl (lv_at hl 3 rfl) ?_
      refine lv_iload_n hx hb dL_law_581 rfl (lv_at hl 0 rfl) ?_
      refine lv_iconst (v := nI 1) hx hb dL_law_582 (by decide) ?_
      refine lv_iadd hx hb dL_law_583 ?_
      refine cv_i (show nI i + nI 1 = nI (i + 1) from nI_add i 1) ?_
      refine va_sld hx hb hX hbl hbA hw.2.2 (vp_in_nI (by omega) (by omega)) dL_law_584 ?_
      refine cv_i (show xs (nI (i + 1)).toNatClampNeg = xs (i + 1) from by rw [nI_clamp (by omega)]) ?_
      refine x_callV (As := [.int (xs (i + 1))]) (rest := [.int (gd2 (bel (xs (i + 1)) (nI 12)) (fwC en st n) (fsI (fun k => (en (pr n k)).testBit (xs (i + 1)).toNatClampNeg) n))]) X hw hl.1 (c_X6_stops l D cI cZ mx m1 m2 m3 m4 m5 m6 m7 m8 m9 m10 n nl ct oo ii ss (xs (i + 1)) (by first | assumption | omega) (by first | assumption | omega) (by first | assumption | omega) (by first | assumption | omega)) (cwV 1 hts gL_law_X6_stops rfl rfl rfl (by decide +kernel) ⟨Nat.le_of_ble_eq_true rfl, Nat.le_of_ble_eq_true rfl⟩) [16, 17, 18, 25] rfl rfl 0 rfl rfl rfl rfl (Nat.le_of_ble_eq_true rfl) dL_law_585 (by decide) (fun r w1 H locs hp hw1 => ?_)
      obtain ⟨sN, hsN, rfl, rfl⟩ := hp
      have hw : WD D (fun q : Nat => s.heap.size ≤ q) s.heap [(ax, .inr (5, [.ref t, .ref ga, .ref la, .ref wa, .ref pa])), (t, .inr (3, [.ref te, .ref ts, .int (nI n)])), (te, .inl (cI, 16, .inl (iA en))), (ts, .inl (cI, 17, .inl (iA st))), (ga, .inr (0, [.ref gc, .ref gn, .int (nI sz)])), (gc, .inl (cI, 16, .inl (iA cu))), (gn, .inl (cI, 16, .inl (iA ne))), (la, .inr (1, [.ref lb, .ref lw, .int (nI nl)])), (lb, .inl (cI, 12, .inl (iA ba))), (lw, .inl (cI, 12, .inl (iA wh))), (wa, .inr (4, [.ref wv, .ref wq])), (wv, .inl (cI, 64, .inl (mA dp))), (wq, .inl (cI, 64, .inl (iA qu))), (pa, .inr (2, [.ref pl, .ref pm])), (pl, .inl (cI, 12, .inl (iA le))), (pm, .inl (cI, 12, .inl (iA mo))), (mx, .inr (6, [.int (nI n), .ref m1, .ref m2, .ref m3, .ref m4, .int (nI nl), .ref m5, .ref m6, .ref m7, .ref m8, .ref m9, .int (nI ct), .ref m10])), (m1, .inl (cI, 16, .inl (iA oo))), (m2, .inl (cI, 16, .inl (iA ii))), (m3, .inl (cI, 12, .inl (iA lle))), (m4, .inl (cI, 12, .inl (iA lmo))), (m5, .inl (cI, 12, .inl (iA aA))), (m6, .inl (cZ, 12, .inl (bA aO))), (m7, .inl (cI, 12, .inl (iA aB))), (m8, .inl (cZ, 12, .inl (bA aI))), (m9, .inl (cI, 17, .inl (iA sN))), (m10, .inl (cI, 64, .inl (iA ww)))] H locs := hw1 rfl
      refine lv_icmp_eq (tgt := 639) hx hb dL_law_588 (by decide) (fun c_588 => ?_) (fun c_588 => ?_)
      · skip
        refine lv_iinc (v := nI (i + 5)) (lv' := [(3, .int (nI (i + 5))), (2, .ref mx), (1, .ref ax), (0, .ref b)]) hx hb dL_law_639 hl (k := 0) rfl (nI_add i 5) (by decide) rfl (fun ls hl => ?_)
        refine lv_goto (tgt := 18) hx hb dL_law_642 (by decide) ?_
        exact ih_18 (i + 5, n, nl, en, st, sz, cu, ne, ba, wh, dp, qu, le, mo, oo, ii, lle, lmo, aA, aO, aB, aI, sN, ww, ct) (by show L + 5 - (i + 5) < L + 5 - i; omega) ⟨(show REL n nl en st sz cu ne ba wh dp qu le mo oo ii lle lmo aA aO aB aI sN from ⟨T, hsz, hcu, hne, LS, DK, hqu, hle, hmo, hlle, hlmo, K1, K2, hmo1, hsN⟩), (show (i + 5) ≤ L from by omega)⟩ _ _ _ hw (lv_sub hl [0, 1, 2, 3] rfl)
      · skip
        exact absurd (E_stops T) c_588
    · skip
      refine lv_tableIn (off := 561) (tgt := 593) hx hb dL_law_32 (by decide) (by decide) (by rfl) (by decide) ?_
      refine lv_aload_n hx hb dL_law_593 rfl (lv_at hl 2 rfl) ?_
      refine lv_aload_n hx hb dL_law_594 rfl (lv_at hl 3 rfl) ?_
      refine lv_iload_n hx hb dL_law_595 rfl (lv_at hl 0 rfl) ?_
      refine lv_iconst (v := nI 1) hx hb dL_law_596 (by decide) ?_
      refine lv_iadd hx hb dL_law_597 ?_
      refine cv_i (show nI i + nI 1 = nI (i + 1) from nI_add i 1) ?_
      refine va_sld hx hb hX hbl hbA hw.2.2 (vp_in_nI (by omega) (by omega)) dL_law_598 ?_
      refine cv_i (show xs (nI (i + 1)).toNatClampNeg = xs (i + 1) from by rw [nI_clamp (by omega)]) ?_
      refine x_callV (As := [.int (xs (i + 1))]) (rest := []) X hw hl.1 (c_X5_explains l D cI cZ ax t ga la wa pa te ts en st n (xs (i + 1)) (by first | assumption | omega) (by first | assumption | omega) (by first | assumption | omega)) (cwV 1 hts gL_law_X5_explains rfl rfl rfl (by decide +kernel) ⟨Nat.le_of_ble_eq_true rfl, Nat.le_of_ble_eq_true rfl⟩) [0, 1, 2, 3] rfl rfl 0 rfl rfl rfl rfl (Nat.le_of_ble_eq_true rfl) dL_law_599 (by decide) (fun r w1 H locs hp hw1 => ?_)
      obtain ⟨rfl, rfl⟩ := hp
      have hw : WD D (fun q : Nat => s.heap.size ≤ q) s.heap [(ax, .inr (5, [.ref t, .ref ga, .ref la, .ref wa, .ref pa])), (t, .inr (3, [.ref te, .ref ts, .int (nI n)])), (te, .inl (cI, 16, .inl (iA en))), (ts, .inl (cI, 17, .inl (iA st))), (ga, .inr (0, [.ref gc, .ref gn, .int (nI sz)])), (gc, .inl (cI, 16, .inl (iA cu))), (gn, .inl (cI, 16, .inl (iA ne))), (la, .inr (1, [.ref lb, .ref lw, .int (nI nl)])), (lb, .inl (cI, 12, .inl (iA ba))), (lw, .inl (cI, 12, .inl (iA wh))), (wa, .inr (4, [.ref wv, .ref wq])), (wv, .inl (cI, 64, .inl (mA dp))), (wq, .inl (cI, 64, .inl (iA qu))), (pa, .inr (2, [.ref pl, .ref pm])), (pl, .inl (cI, 12, .inl (iA le))), (pm, .inl (cI, 12, .inl (iA mo))), (mx, .inr (6, [.int (nI n), .ref m1, .ref m2, .ref m3, .ref m4, .int (nI nl), .ref m5, .ref m6, .ref m7, .ref m8, .ref m9, .int (nI ct), .ref m10])), (m1, .inl (cI, 16, .inl (iA oo))), (m2, .inl (cI, 16, .inl (iA ii))), (m3, .inl (cI, 12, .inl (iA lle))), (m4, .inl (cI, 12, .inl (iA lmo))), (m5, .inl (cI, 12, .inl (iA aA))), (m6, .inl (cZ, 12, .inl (bA aO))), (m7, .inl (cI, 12, .inl (iA aB))), (m8, .inl (cZ, 12, .inl (bA aI))), (m9, .inl (cI, 17, .inl (iA ss))), (m10, .inl (cI, 64, .inl (iA ww)))] H locs := hw1 rfl
      refine lv_aload_n hx hb dL_law_602 rfl (lv_at hl 1 rfl) ?_
      refine lv_aload_n hx hb dL_law_603 rfl (lv_at hl 3 rfl) ?_
      refine lv_iload_n hx hb dL_law_604 rfl (lv_at hl 0 rfl) ?_
      refine lv_iconst (v := nI 1) hx hb dL_law_605 (by decide) ?_
      refine lv_iadd hx hb dL_law_606 ?_
      refine cv_i (show nI i + nI 1 = nI (i + 1) from nI_add i 1) ?_
      refine va_sld hx hb hX hbl hbA hw.2.2 (vp_in_nI (by omega) (by omega)) dL_law_607 ?_
      refine cv_i (show xs (nI (i + 1)).toNatClampNeg = xs (i + 1) from by rw [nI_clamp (by omega)]) ?_
      refine x_callV (As := [.int (xs (i + 1))]) (rest := [.int (gd2 (bel (xs (i + 1)) (nI n)) (fwC en st n) (nI (anN (en (pr n (xs (i + 1)).toNatClampNeg)) (exC en n (xs (i + 1)).toNatClampNeg))))]) X hw hl.1 (c_X6_explains l D cI cZ mx m1 m2 m3 m4 m5 m6 m7 m8 m9 m10 n nl ct oo ii ss (xs (i + 1)) (by first | assumption | omega) (by first | assumption | omega) (by first | assumption | omega) (by first | assumption | omega)) (cwV 1 hts gL_law_X6_explains rfl rfl rfl (by decide +kernel) ⟨Nat.le_of_ble_eq_true rfl, Nat.le_of_ble_eq_true rfl⟩) [16, 17, 18, 25] rfl rfl 0 rfl rfl rfl rfl (Nat.le_of_ble_eq_true rfl) dL_law_608 (by decide) (fun r w1 H locs hp hw1 => ?_)
      obtain ⟨sN, hsN, rfl, rfl⟩ := hp
      have hw : WD D (fun q : Nat => s.heap.size ≤ q) s.heap [(ax, .inr (5, [.ref t, .ref ga, .ref la, .ref wa, .ref pa])), (t, .inr (3, [.ref te, .ref ts, .int (nI n)])), (te, .inl (cI, 16, .inl (iA en))), (ts, .inl (cI, 17, .inl (iA st))), (ga, .inr (0, [.ref gc, .ref gn, .int (nI sz)])), (gc, .inl (cI, 16, .inl (iA cu))), (gn, .inl (cI, 16, .inl (iA ne))), (la, .inr (1, [.ref lb, .ref lw, .int (nI nl)])), (lb, .inl (cI, 12, .inl (iA ba))), (lw, .inl (cI, 12, .inl (iA wh))), (wa, .inr (4, [.ref wv, .ref wq])), (wv, .inl (cI, 64, .inl (mA dp))), (wq, .inl (cI, 64, .inl (iA qu))), (pa, .inr (2, [.ref pl, .ref pm])), (pl, .inl (cI, 12, .inl (iA le))), (pm, .inl (cI, 12, .inl (iA mo))), (mx, .inr (6, [.int (nI n), .ref m1, .ref m2, .ref m3, .ref m4, .int (nI nl), .ref m5, .ref m6, .ref m7, .ref m8, .ref m9, .int (nI ct), .ref m10])), (m1, .inl (cI, 16, .inl (iA oo))), (m2, .inl (cI, 16, .inl (iA ii))), (m3, .inl (cI, 12, .inl (iA lle))), (m4, .inl (cI, 12, .inl (iA lmo))), (m5, .inl (cI, 12, .inl (iA aA))), (m6, .inl (cZ, 12, .inl (bA aO))), (m7, .inl (cI, 12, .inl (iA aB))), (m8, .inl (cZ, 12, .inl (bA aI))), (m9, .inl (cI, 17, .inl (iA sN))), (m10, .inl (cI, 64, .inl (iA ww)))] H locs := hw1 rfl
      refine lv_icmp_eq (tgt := 639) hx hb dL_law_611 (by decide) (fun c_611 => ?_) (fun c_611 => ?_)
      · skip
        refine lv_iinc (v := nI (i + 5)) (lv' := [(3, .int (nI (i + 5))), (2, .ref mx), (1, .ref ax), (0, .ref b)]) hx hb dL_law_639 hl (k := 0) rfl (nI_add i 5) (by decide) rfl (fun ls hl => ?_)
        refine lv_goto (tgt := 18) hx hb dL_law_642 (by decide) ?_
        exact ih_18 (i + 5, n, nl, en, st, sz, cu, ne, ba, wh, dp, qu, le, mo, oo, ii, lle, lmo, aA, aO, aB, aI, sN, ww, ct) (by show L + 5 - (i + 5) < L + 5 - i; omega) ⟨(show REL n nl en st sz cu ne ba wh dp qu le mo oo ii lle lmo aA aO aB aI sN from ⟨T, hsz, hcu, hne, LS, DK, hqu, hle, hmo, hlle, hlmo, K1, K2, hmo1, hsN⟩), (show (i + 5) ≤ L from by omega)⟩ _ _ _ hw (lv_sub hl [0, 1, 2, 3] rfl)
      · skip
        exact absurd (E_ex T) c_611
    · skip
      refine lv_tableIn (off := 584) (tgt := 616) hx hb dL_law_32 (by decide) (by decide) (by rfl) (by decide) ?_
      refine lv_aload_n hx hb dL_law_616 rfl (lv_at hl 2 rfl) ?_
      refine lv_aload_n hx hb dL_law_617 rfl (lv_at hl 3 rfl) ?_
      refine lv_iload_n hx hb dL_law_618 rfl (lv_at hl 0 rfl) ?_
      refine lv_iconst (v := nI 1) hx hb dL_law_619 (by decide) ?_
      refine lv_iadd hx hb dL_law_620 ?_
      refine cv_i (show nI i + nI 1 = nI (i + 1) from nI_add i 1) ?_
      refine va_sld hx hb hX hbl hbA hw.2.2 (vp_in_nI (by omega) (by omega)) dL_law_621 ?_
      refine cv_i (show xs (nI (i + 1)).toNatClampNeg = xs (i + 1) from by rw [nI_clamp (by omega)]) ?_
      refine x_callV (As := [.int (xs (i + 1))]) (rest := []) X hw hl.1 (c_X5_count l D cI cZ ax t ga la wa pa te ts en st n lb lw ba wh nl (xs (i + 1)) (by first | assumption | omega) (by first | assumption | omega) (by first | assumption | omega)) (cwV 1 hts gL_law_X5_count rfl rfl rfl (by decide +kernel) ⟨Nat.le_of_ble_eq_true rfl, Nat.le_of_ble_eq_true rfl⟩) [0, 1, 2, 3, 7, 8, 9] rfl rfl 0 rfl rfl rfl rfl (Nat.le_of_ble_eq_true rfl) dL_law_622 (by decide) (fun r w1 H locs hp hw1 => ?_)
      obtain ⟨rfl, rfl⟩ := hp
      have hw : WD D (fun q : Nat => s.heap.size ≤ q) s.heap [(ax, .inr (5, [.ref t, .ref ga, .ref la, .ref wa, .ref pa])), (t, .inr (3, [.ref te, .ref ts, .int (nI n)])), (te, .inl (cI, 16, .inl (iA en))), (ts, .inl (cI, 17, .inl (iA st))), (ga, .inr (0, [.ref gc, .ref gn, .int (nI sz)])), (gc, .inl (cI, 16, .inl (iA cu))), (gn, .inl (cI, 16, .inl (iA ne))), (la, .inr (1, [.ref lb, .ref lw, .int (nI nl)])), (lb, .inl (cI, 12, .inl (iA ba))), (lw, .inl (cI, 12, .inl (iA wh))), (wa, .inr (4, [.ref wv, .ref wq])), (wv, .inl (cI, 64, .inl (mA dp))), (wq, .inl (cI, 64, .inl (iA qu))), (pa, .inr (2, [.ref pl, .ref pm])), (pl, .inl (cI, 12, .inl (iA le))), (pm, .inl (cI, 12, .inl (iA mo))), (mx, .inr (6, [.int (nI n), .ref m1, .ref m2, .ref m3, .ref m4, .int (nI nl), .ref m5, .ref m6, .ref m7, .ref m8, .ref m9, .int (nI ct), .ref m10])), (m1, .inl (cI, 16, .inl (iA oo))), (m2, .inl (cI, 16, .inl (iA ii))), (m3, .inl (cI, 12, .inl (iA lle))), (m4, .inl (cI, 12, .inl (iA lmo))), (m5, .inl (cI, 12, .inl (iA aA))), (m6, .inl (cZ, 12, .inl (bA aO))), (m7, .inl (cI, 12, .inl (iA aB))), (m8, .inl (cZ, 12, .inl (bA aI))), (m9, .inl (cI, 17, .inl (iA ss))), (m10, .inl (cI, 64, .inl (iA ww)))] H locs := hw1 rfl
      refine lv_aload_n hx hb dL_law_625 rfl (lv_at hl 1 rfl) ?_
      refine lv_aload_n hx hb dL_law_626 rfl (lv_at hl 3 rfl) ?_
      refine lv_iload_n hx hb dL_law_627 rfl (lv_at hl 0 rfl) ?_
      refine lv_iconst (v := nI 1) hx hb dL_law_628 (by decide) ?_
      refine lv_iadd hx hb dL_law_629 ?_
      refine cv_i (show nI i + nI 1 = nI (i + 1) from nI_add i 1) ?_
      refine va_sld hx hb hX hbl hbA hw.2.2 (vp_in_nI (by omega) (by omega)) dL_law_630 ?_
      refine cv_i (show xs (nI (i + 1)).toNatClampNeg = xs (i + 1) from by rw [nI_clamp (by omega)]) ?_
      refine x_callV (As := [.int (xs (i + 1))]) (rest := [.int (if (xs (i + 1)) = 0 then nI n else if (xs (i + 1)) = nI 1 then nI nl else if (xs (i + 1)) = nI 2 then nI (mvs en n) else -2)]) X hw hl.1 (c_X6_count l D cI cZ mx m1 m2 m3 m4 m5 m6 m7 m8 m9 m10 n nl ct oo ii (xs (i + 1)) (by first | assumption | omega) (by first | assumption | omega) (by first | assumption | omega)) (cwV 1 hts gL_law_X6_count rfl rfl rfl (by decide +kernel) ⟨Nat.le_of_ble_eq_true rfl, Nat.le_of_ble_eq_true rfl⟩) [16, 17, 18] rfl rfl 0 rfl rfl rfl rfl (Nat.le_of_ble_eq_true rfl) dL_law_631 (by decide) (fun r w1 H locs hp hw1 => ?_)
      obtain ⟨rfl, rfl⟩ := hp
      have hw : WD D (fun q : Nat => s.heap.size ≤ q) s.heap [(ax, .inr (5, [.ref t, .ref ga, .ref la, .ref wa, .ref pa])), (t, .inr (3, [.ref te, .ref ts, .int (nI n)])), (te, .inl (cI, 16, .inl (iA en))), (ts, .inl (cI, 17, .inl (iA st))), (ga, .inr (0, [.ref gc, .ref gn, .int (nI sz)])), (gc, .inl (cI, 16, .inl (iA cu))), (gn, .inl (cI, 16, .inl (iA ne))), (la, .inr (1, [.ref lb, .ref lw, .int (nI nl)])), (lb, .inl (cI, 12, .inl (iA ba))), (lw, .inl (cI, 12, .inl (iA wh))), (wa, .inr (4, [.ref wv, .ref wq])), (wv, .inl (cI, 64, .inl (mA dp))), (wq, .inl (cI, 64, .inl (iA qu))), (pa, .inr (2, [.ref pl, .ref pm])), (pl, .inl (cI, 12, .inl (iA le))), (pm, .inl (cI, 12, .inl (iA mo))), (mx, .inr (6, [.int (nI n), .ref m1, .ref m2, .ref m3, .ref m4, .int (nI nl), .ref m5, .ref m6, .ref m7, .ref m8, .ref m9, .int (nI ct), .ref m10])), (m1, .inl (cI, 16, .inl (iA oo))), (m2, .inl (cI, 16, .inl (iA ii))), (m3, .inl (cI, 12, .inl (iA lle))), (m4, .inl (cI, 12, .inl (iA lmo))), (m5, .inl (cI, 12, .inl (iA aA))), (m6, .inl (cZ, 12, .inl (bA aO))), (m7, .inl (cI, 12, .inl (iA aB))), (m8, .inl (cZ, 12, .inl (bA aI))), (m9, .inl (cI, 17, .inl (iA ss))), (m10, .inl (cI, 64, .inl (iA ww)))] H locs := hw1 rfl
      refine lv_icmp_eq (tgt := 639) hx hb dL_law_634 (by decide) (fun c_634 => ?_) (fun c_634 => ?_)
      · skip
        refine lv_iinc (v := nI (i + 5)) (lv' := [(3, .int (nI (i + 5))), (2, .ref mx), (1, .ref ax), (0, .ref b)]) hx hb dL_law_639 hl (k := 0) rfl (nI_add i 5) (by decide) rfl (fun ls hl => ?_)
        refine lv_goto (tgt := 18) hx hb dL_law_642 (by decide) ?_
        exact ih_18 (i + 5, n, nl, en, st, sz, cu, ne, ba, wh, dp, qu, le, mo, oo, ii, lle, lmo, aA, aO, aB, aI, ss, ww, ct) (by show L + 5 - (i + 5) < L + 5 - i; omega) ⟨(show REL n nl en st sz cu ne ba wh dp qu le mo oo ii lle lmo aA aO aB aI ss from ⟨T, hsz, hcu, hne, LS, DK, hqu, hle, hmo, hlle, hlmo, K1, K2, hmo1, hss⟩), (show (i + 5) ≤ L from by omega)⟩ _ _ _ hw (lv_sub hl [0, 1, 2, 3] rfl)
      · skip
        exact absurd (E_count T) c_634
    · skip
      refine lv_tableOut (tgt := 639) hx hb dL_law_32 (Or.inr (by rw [nI_toInt (by omega)]; omega)) (by decide) ?_
      refine lv_iinc (v := nI (i + 5)) (lv' := [(3, .int (nI (i + 5))), (2, .ref mx), (1, .ref ax), (0, .ref b)]) hx hb dL_law_639 hl (k := 0) rfl (nI_add i 5) (by decide) rfl (fun ls hl => ?_)
      refine lv_goto (tgt := 18) hx hb dL_law_642 (by decide) ?_
      exact ih_18 (i + 5, n, nl, en, st, sz, cu, ne, ba, wh, dp, qu, le, mo, oo, ii, lle, lmo, aA, aO, aB, aI, ss, ww, ct) (by show L + 5 - (i + 5) < L + 5 - i; omega) ⟨(show REL n nl en st sz cu ne ba wh dp qu le mo oo ii lle lmo aA aO aB aI ss from hR), (show (i + 5) ≤ L from by omega)⟩ _ _ _ hw (lv_sub hl [0, 1, 2, 3] rfl)
