theorem REL_0 : REL 0 0 (fun _ => 0) (fun _ => 0) 0 (fun _ => 0) (fun _ => 0) (fun _ => 0) (fun _ => 0) (fun k => popc k + 1) (fun _ => 0) (fun _ => 1) (fun _ => 1) (fun _ => 0) (fun _ => 0) (fun _ => 1) (fun _ => 1) (fun _ => 0) (fun _ => false) (fun _ => 0) (fun _ => false) (fun _ => 0) := by
  refine ⟨⟨Nat.zero_le 16, fun _ => (by decide : 0 < 4096), fun _ => (by decide : 0 < 64), fun _ => (by decide : 0 < 64), fun _ => (by decide : 0 < 64), fun k hk => absurd hk (Nat.not_lt_zero k), fun k hk => ?_, fun k hk => absurd hk (Nat.not_lt_zero k)⟩, Nat.zero_le 16, fun _ => (by decide : 0 < 16), fun _ => Nat.zero_le 1000, ⟨Nat.zero_le 12, fun _ => (by decide : 0 < 12), fun _ => (by decide : 0 < 12), fun _ => (by decide : 0 < 6), fun _ => (by decide : 0 < 6), fun k hk => absurd hk (Nat.not_lt_zero k)⟩, d_ok _ _, fun _ => (by decide : 0 < 64), fun _ => (by decide : 1 < 101), fun _ => (by decide : 1 < 101), fun _ => (by decide : 1 < 101), fun _ => (by decide : 1 < 101), fun _ _ => ⟨rfl, rfl⟩, fun _ _ => ⟨rfl, rfl⟩, fun _ _ => Nat.le_refl 1, fun _ => (by decide : 0 < 64)⟩
  rw [Nat.le_zero.mp hk]
  rfl
set_option maxRecDepth 20000 in
theorem nwl_in : ∀ w ∈ nwl, w ∈ lw_tbl := mem_ps _ [45, 62, 78, 158, 177, 194, 220, 285, 312, 329, 363, 368, 369, 370, 371, 382, 396, 410] (by decide +kernel)
theorem nw_of {A : Array Value} {s : State} (h : ∀ w ∈ nwl, w.before A s = true) : NW s := fun w hw => by
  obtain ⟨a, i, x, q, rfl⟩ := nwl_mn w hw
  exact va_Nw.of rfl (h _ hw)
theorem arr_of {A : Array Value} {s : State} {ty : FieldType} (h : (Cond.arrayClass ty).before A s = true) : ∃ cA : ClassId, ArrOfT s cA ty ∧ s.vm.findClass ("[" ++ ty.toString) = some cA := by
  obtain ⟨cA, kA, comp, hf, hk, hkind⟩ := Cond.arrayClass_spec h
  exact ⟨cA, fun n z => ⟨fun k h => (by cases h), kA, hk, comp, hkind⟩, hf⟩
set_option maxHeartbeats 8000000 in
set_option maxRecDepth 100000 in
/-- THE LAW, from its entry -/
theorem whole_start {p : Program} {e : Env} {s : State} {m : MethodId} {below : List Frame} {meth : Method} {c : Code} (l : Launch) {b L : Nat} {xs : Nat → Int32} (hL : L ≤ 2560) (C0 : lw_At p s m meth c b L xs) : W p l e room_1 s m #[Value.ref b] below meth c s.heap [] 0 0 (lw_Z below #[Value.ref b] s) (entryFrame m ([Value.ref b] : List Value).toArray 4) := by
  obtain ⟨hx, hb, hr, hml, hown, hts0, hX, hbl, hlk, hgv⟩ := id C0
  have hts : ∀ w ∈ wsL_law, w.before #[Value.ref b] s = true := fun w h => hts0 w (wsL_law_in w h)
  obtain ⟨c0, iS0, hKn0⟩ := u_known (C := RX0) (T := TX0) (N := 3) (n := 3) hts inlX0 (hts (.instantiable RX0 3) (by decide +kernel))
  obtain ⟨c1, iS1, hKn1⟩ := u_known (C := RX1) (T := TX1) (N := 3) (n := 3) hts inlX1 (hts (.instantiable RX1 3) (by decide +kernel))
  obtain ⟨c2, iS2, hKn2⟩ := u_known (C := RX2) (T := TX2) (N := 2) (n := 2) hts inlX2 (hts (.instantiable RX2 2) (by decide +kernel))
  obtain ⟨c3, iS3, hKn3⟩ := u_known (C := RX3) (T := TX3) (N := 3) (n := 3) hts inlX3 (hts (.instantiable RX3 3) (by decide +kernel))
  obtain ⟨c4, iS4, hKn4⟩ := u_known (C := RX4) (T := TX4) (N := 2) (n := 2) hts inlX4 (hts (.instantiable RX4 2) (by decide +kernel))
  obtain ⟨c5, iS5, hKn5⟩ := u_known (C := RX5) (T := TX5) (N := 5) (n := 5) hts inlX5 (hts (.instantiable RX5 5) (by decide +kernel))
  obtain ⟨c6, iS6, hKn6⟩ := u_known (C := RX6) (T := TX6) (N := 13) (n := 13) hts inlX6 (hts (.instantiable RX6 13) (by decide +kernel))
  obtain ⟨dC, dI, hKc⟩ : ∃ (dC : Nat → ClassId) (dI : Nat → Nat → Nat), ∀ (k : Nat) (q : vw_C), vwCl[k]? = some q → u_Kn s q.1 q.2.1 q.2.2 (dC k) (dI k) := by
    refine ⟨fun k => if k = 0 then c0 else if k = 1 then c1 else if k = 2 then c2 else if k = 3 then c3 else if k = 4 then c4 else if k = 5 then c5 else c6, fun k => if k = 0 then iS0 else if k = 1 then iS1 else if k = 2 then iS2 else if k = 3 then iS3 else if k = 4 then iS4 else if k = 5 then iS5 else iS6, ?_⟩
    intro k q hq
    match k, hq with
    | 0, hq => cases hq; exact hKn0
    | 1, hq => cases hq; exact hKn1
    | 2, hq => cases hq; exact hKn2
    | 3, hq => cases hq; exact hKn3
    | 4, hq => cases hq; exact hKn4
    | 5, hq => cases hq; exact hKn5
    | 6, hq => cases hq; exact hKn6
    | k + 7, hq => simp [vwCl] at hq
  obtain ⟨cI, hI1, hI2⟩ := arr_of (hts (.arrayClass .int) (by decide +kernel))
  obtain ⟨cZ, hZ1, hZ2⟩ := arr_of (hts (.arrayClass .boolean) (by decide +kernel))
  obtain ⟨D, hD⟩ : ∃ D : va_G, D = (dC, dI) := ⟨_, rfl⟩
  have hK : va_K D vwCl (KT cI cZ) s := by
    rw [hD]
    refine ⟨hKc, fun k q hq => ?_⟩
    match k, hq with
    | 0, hq => cases hq; exact ⟨hI1, hI2⟩
    | 1, hq => cases hq; exact ⟨hZ1, hZ2⟩
    | k + 2, hq => simp at hq
  have X : CX p s m #[Value.ref b] meth c cL_law 4 wsL_law RL ret D cI cZ (fun q : Nat => s.heap.size ≤ q) := ⟨⟨hx, hb, hml, hown, hts⟩, hr, hlk, hK, nw_of (fun w h => hts0 w (nwl_in w h)), fun _ h => h⟩
  have hw : WD D (fun q : Nat => s.heap.size ≤ q) s.heap [] s.heap [] := ⟨fun k q h => by simp at h, ⟨fun i j p q h => by simp at h, fun k q h => by simp at h⟩, va_S.rf⟩
  have n5 := inlX5
  have n6 := inlX6
  have hl := lv_entry ([.ref b]) (n := 4) (Nat.le_of_ble_eq_true rfl)
  rw [lg_entry_eq]
  generalize (lg_sl ([.ref b]) ++ List.replicate (4 - (lg_sl ([.ref b])).length) Slot.unset).toArray = ls at hl ⊢
  have hl : lv_has ls 4 [(0, .ref b)] := hl
  refine x_new (ci := 5) (C := RX5) (T := TX5) (N := 5) (fs := [.null, .null, .null, .null, .null]) X hw rfl n5 tyX5 tyX5_ok (by decide +kernel) (by decide +kernel) (by decide +kernel) (fun j hj => by rcases (show j = 0 ∨ j = 1 ∨ j = 2 ∨ j = 3 ∨ j = 4 by omega) with rfl | rfl | rfl | rfl | rfl <;> rfl) (Nat.le_of_ble_eq_true rfl) (Nat.le_of_ble_eq_true rfl) dL_law_0 (fun q0 H hw => ?_)
  have hw : WD D (fun q : Nat => s.heap.size ≤ q) s.heap [(q0, .inr (5, [.null, .null, .null, .null, .null]))] H _ := hw
  refine lv_dup hx hb dL_law_3 rfl ?_
  refine x_init (wr := []) (rest := [.ref q0]) X hw hl.1 (c_X5_init l D cI cZ q0) (cwI 0 hts gL_law_X5_init rfl rfl rfl (hts (.initialized RX5) (by decide +kernel)) (hts (.methodLink RL 9 yX5_init) (by decide +kernel)) (hts (.instanceMethod yX5_init) (by decide +kernel)) rfl (by decide +kernel) ⟨Nat.le_of_ble_eq_true rfl, Nat.le_of_ble_eq_true rfl⟩) [0] [] rfl rfl rfl rfl (by decide) (Nat.le_of_ble_eq_true rfl) dL_law_4 ⟨Nat.le_of_ble_eq_true rfl, Nat.le_of_ble_eq_true rfl⟩ (fun w1 H locs hp hw => ?_)
  obtain ⟨t, te, ts, ga, gc, gn, la, lb, lw, wa, wv, wq, pa, pl, pm, rfl⟩ := hp
  have hw : WD D (fun q : Nat => s.heap.size ≤ q) s.heap [(q0, .inr (5, [.ref t, .ref ga, .ref la, .ref wa, .ref pa])), (t, .inr (3, [.ref te, .ref ts, .int (nI 0)])), (te, .inl (cI, 16, .inl (iA (fun _ => 0)))), (ts, .inl (cI, 17, .inl (iA (fun _ => 0)))), (ga, .inr (0, [.ref gc, .ref gn, .int (nI 0)])), (gc, .inl (cI, 16, .inl (iA (fun _ => 0)))), (gn, .inl (cI, 16, .inl (iA (fun _ => 0)))), (la, .inr (1, [.ref lb, .ref lw, .int (nI 0)])), (lb, .inl (cI, 12, .inl (iA (fun _ => 0)))), (lw, .inl (cI, 12, .inl (iA (fun _ => 0)))), (wa, .inr (4, [.ref wv, .ref wq])), (wv, .inl (cI, 64, .inl (mA (fun k => popc k + 1)))), (wq, .inl (cI, 64, .inl (iA (fun _ => 0)))), (pa, .inr (2, [.ref pl, .ref pm])), (pl, .inl (cI, 12, .inl (iA (fun _ => 1)))), (pm, .inl (cI, 12, .inl (iA (fun _ => 1))))] H locs := hw
  refine lv_astore_n (lv' := [(1, .ref q0), (0, .ref b)]) hx hb dL_law_7 rfl hl (by decide) rfl (fun ls hl => ?_)
  refine x_new (ci := 6) (C := RX6) (T := TX6) (N := 13) (fs := [.int (nI 0), .null, .null, .null, .null, .int (nI 0), .null, .null, .null, .null, .null, .int (nI 0), .null]) X hw rfl n6 tyX6 tyX6_ok (by decide +kernel) (by decide +kernel) (by decide +kernel) (fun j hj => by rcases (show j = 0 ∨ j = 1 ∨ j = 2 ∨ j = 3 ∨ j = 4 ∨ j = 5 ∨ j = 6 ∨ j = 7 ∨ j = 8 ∨ j = 9 ∨ j = 10 ∨ j = 11 ∨ j = 12 by omega) with rfl | rfl | rfl | rfl | rfl | rfl | rfl | rfl | rfl | rfl | rfl | rfl | rfl <;> rfl) (Nat.le_of_ble_eq_true rfl) (Nat.le_of_ble_eq_true rfl) dL_law_8 (fun q8 H hw => ?_)
  have hw : WD D (fun q : Nat => s.heap.size ≤ q) s.heap [(q0, .inr (5, [.ref t, .ref ga, .ref la, .ref wa, .ref pa])), (t, .inr (3, [.ref te, .ref ts, .int (nI 0)])), (te, .inl (cI, 16, .inl (iA (fun _ => 0)))), (ts, .inl (cI, 17, .inl (iA (fun _ => 0)))), (ga, .inr (0, [.ref gc, .ref gn, .int (nI 0)])), (gc, .inl (cI, 16, .inl (iA (fun _ => 0)))), (gn, .inl (cI, 16, .inl (iA (fun _ => 0)))), (la, .inr (1, [.ref lb, .ref lw, .int (nI 0)])), (lb, .inl (cI, 12, .inl (iA (fun _ => 0)))), (lw, .inl (cI, 12, .inl (iA (fun _ => 0)))), (wa, .inr (4, [.ref wv, .ref wq])), (wv, .inl (cI, 64, .inl (mA (fun k => popc k + 1)))), (wq, .inl (cI, 64, .inl (iA (fun _ => 0)))), (pa, .inr (2, [.ref pl, .ref pm])), (pl, .inl (cI, 12, .inl (iA (fun _ => 1)))), (pm, .inl (cI, 12, .inl (iA (fun _ => 1)))), (q8, .inr (6, [.int (nI 0), .null, .null, .null, .null, .int (nI 0), .null, .null, .null, .null, .null, .int (nI 0), .null]))] H _ := hw
  refine lv_dup hx hb dL_law_11 rfl ?_
  refine x_init (wr := [(q0, .inr (5, [.ref t, .ref ga, .ref la, .ref wa, .ref pa])), (t, .inr (3, [.ref te, .ref ts, .int (nI 0)])), (te, .inl (cI, 16, .inl (iA (fun _ => 0)))), (ts, .inl (cI, 17, .inl (iA (fun _ => 0)))), (ga, .inr (0, [.ref gc, .ref gn, .int (nI 0)])), (gc, .inl (cI, 16, .inl (iA (fun _ => 0)))), (gn, .inl (cI, 16, .inl (iA (fun _ => 0)))), (la, .inr (1, [.ref lb, .ref lw, .int (nI 0)])), (lb, .inl (cI, 12, .inl (iA (fun _ => 0)))), (lw, .inl (cI, 12, .inl (iA (fun _ => 0)))), (wa, .inr (4, [.ref wv, .ref wq])), (wv, .inl (cI, 64, .inl (mA (fun k => popc k + 1)))), (wq, .inl (cI, 64, .inl (iA (fun _ => 0)))), (pa, .inr (2, [.ref pl, .ref pm])), (pl, .inl (cI, 12, .inl (iA (fun _ => 1)))), (pm, .inl (cI, 12, .inl (iA (fun _ => 1))))]) (rest := [.ref q8]) X hw hl.1 (c_X6_init l D cI cZ q8) (cwI 0 hts gL_law_X6_init rfl rfl rfl (hts (.initialized RX6) (by decide +kernel)) (hts (.methodLink RL 12 yX6_init) (by decide +kernel)) (hts (.instanceMethod yX6_init) (by decide +kernel)) rfl (by decide +kernel) ⟨Nat.le_of_ble_eq_true rfl, Nat.le_of_ble_eq_true rfl⟩) [16] [0, 1, 2, 3, 4, 5, 6, 7, 8, 9, 10, 11, 12, 13, 14, 15] rfl rfl rfl rfl (by decide) (Nat.le_of_ble_eq_true rfl) dL_law_12 ⟨Nat.le_of_ble_eq_true rfl, Nat.le_of_ble_eq_true rfl⟩ (fun w1 H locs hp hw => ?_)
  obtain ⟨m1, m2, m3, m4, m5, m6, m7, m8, m9, m10, rfl⟩ := hp
  have hw : WD D (fun q : Nat => s.heap.size ≤ q) s.heap [(q0, .inr (5, [.ref t, .ref ga, .ref la, .ref wa, .ref pa])), (t, .inr (3, [.ref te, .ref ts, .int (nI 0)])), (te, .inl (cI, 16, .inl (iA (fun _ => 0)))), (ts, .inl (cI, 17, .inl (iA (fun _ => 0)))), (ga, .inr (0, [.ref gc, .ref gn, .int (nI 0)])), (gc, .inl (cI, 16, .inl (iA (fun _ => 0)))), (gn, .inl (cI, 16, .inl (iA (fun _ => 0)))), (la, .inr (1, [.ref lb, .ref lw, .int (nI 0)])), (lb, .inl (cI, 12, .inl (iA (fun _ => 0)))), (lw, .inl (cI, 12, .inl (iA (fun _ => 0)))), (wa, .inr (4, [.ref wv, .ref wq])), (wv, .inl (cI, 64, .inl (mA (fun k => popc k + 1)))), (wq, .inl (cI, 64, .inl (iA (fun _ => 0)))), (pa, .inr (2, [.ref pl, .ref pm])), (pl, .inl (cI, 12, .inl (iA (fun _ => 1)))), (pm, .inl (cI, 12, .inl (iA (fun _ => 1)))), (q8, .inr (6, [.int (nI 0), .ref m1, .ref m2, .ref m3, .ref m4, .int (nI 0), .ref m5, .ref m6, .ref m7, .ref m8, .ref m9, .int (nI 0), .ref m10])), (m1, .inl (cI, 16, .inl (iA (fun _ => 0)))), (m2, .inl (cI, 16, .inl (iA (fun _ => 0)))), (m3, .inl (cI, 12, .inl (iA (fun _ => 1)))), (m4, .inl (cI, 12, .inl (iA (fun _ => 1)))), (m5, .inl (cI, 12, .inl (iA (fun _ => 0)))), (m6, .inl (cZ, 12, .inl (bA (fun _ => false)))), (m7, .inl (cI, 12, .inl (iA (fun _ => 0)))), (m8, .inl (cZ, 12, .inl (bA (fun _ => false)))), (m9, .inl (cI, 17, .inl (iA (fun _ => 0)))), (m10, .inl (cI, 64, .inl (iA (fun _ => 0))))] H locs := hw
  refine lv_astore_n (lv' := [(2, .ref q8), (1, .ref q0), (0, .ref b)]) hx hb dL_law_15 rfl hl (by decide) rfl (fun ls hl => ?_)
  refine lv_iconst (v := nI 0) hx hb dL_law_16 (by decide) ?_
  refine lv_istore_n (lv' := [(3, .int (nI 0)), (2, .ref q8), (1, .ref q0), (0, .ref b)]) hx hb dL_law_17 rfl hl (by decide) rfl (fun ls hl => ?_)
  exact law_loop hL X hX hbl q0 t te ts ga gc gn la lb lw wa wv wq pa pl pm q8 m1 m2 m3 m4 m5 m6 m7 m8 m9 m10 0 0 0 (fun _ => 0) (fun _ => 0) 0 (fun _ => 0) (fun _ => 0) (fun _ => 0) (fun _ => 0) (fun k => popc k + 1) (fun _ => 0) (fun _ => 1) (fun _ => 1) (fun _ => 0) (fun _ => 0) (fun _ => 1) (fun _ => 1) (fun _ => 0) (fun _ => false) (fun _ => 0) (fun _ => false) (fun _ => 0) (fun _ => 0) 0 REL_0 (Nat.zero_le L) _ _ _ hw (lv_sub hl [0, 1, 2, 3] rfl)
-- ===== YOUR PART ENDS =====
set_option maxHeartbeats 4000000 in
theorem lw_walk (l : Launch) (b : Addr) (xs : List Int32) : MetFree l x (headSpec (Jvm.Cond.code x code maxLocals ret :: tables_1) room_1) (lw_P b xs) (fun _ _ _ _ _ => True) lw_Q := by
  refine MetFree.of_bodyS (code := code) (maxLocals := maxLocals) (ret := ret) (by decide) ?_ ?_
  · intro args s m h hn
    obtain ⟨meth, c, h1, h2, h3, h4, h5, h6, -, -⟩ := Cond.code_spec hn (atoms_spec (ws := Jvm.Cond.code x code maxLocals ret :: tables_1) h _ List.mem_cons_self)
    exact ⟨meth, c, h1, h2, h3, h4, h5, h6⟩
  · intro p e s m args below meth c s₁ B hml0 hP _
    obtain ⟨rfl, hx, hbd, hgv⟩ := hP
    obtain ⟨scr, harrAt, hlist, hof, hsmall⟩ := hx
    obtain ⟨hcb, hkn, -, -⟩ := State.arrayAt?_spec harrAt
    have hown : s.vm.findClass R_law = some m.cls := findClass_of_methodNamed B.named
    have hts0 : ∀ c ∈ (Jvm.Cond.code x code maxLocals ret :: tables_1), c.before #[Value.ref b] s = true := atoms_spec (ws := Jvm.Cond.code x code maxLocals ret :: tables_1) B.pre
    have hts : ∀ w ∈ lw_tbl, w.before #[Value.ref b] s = true := k2_hts_sels lw_privs (fun w hw => hts0 w (List.mem_cons_of_mem _ hw)) lw_privs_ok
    have hml : c.maxLocals = 4 := B.maxLocals_eq (hts0 _ List.mem_cons_self)
    have X₀ : Stand p l e room_1 s m #[Value.ref b] below meth c s₁ [] 0 0 := Stand.of_body B
    have hh0 : s₁.heap = s.heap := by rw [B.state]; rfl
    have hsz : scr.slots.size = xs.length := by rw [← Array.length_toList, hlist, List.length_map]
    have hval : ∀ j : Nat, j < xs.length → scr.slots[j]? = some (.int (xs.getD j 0)) := fun j hj => by
      rw [← Array.getElem?_toList, hlist]
      simp [hj]
    have hbl : b < s.heap.size := (Array.getElem?_eq_some_iff.mp hcb).1
    have hX : va_X b xs.length (fun j => xs.getD j 0) s s.heap := ⟨scr, hcb, hof, hkn, hsz, hval⟩
    have K : W p l e room_1 s m #[Value.ref b] below meth c s₁.heap [] 0 0 (lw_Z below #[Value.ref b] s) (entryFrame m ([Value.ref b] : List Value).toArray 4) := by
      rw [hh0]
      exact whole_start l hbd ⟨B.exec, B.bytes, B.returns, hml, hown, hts, hX, hbl, B.notSynchronized, hgv⟩
    obtain ⟨t, a1, o, b1, b2, b3⟩ := K s₁ rfl X₀
    exact ⟨t, o, a1, b1, b2, b3⟩
theorem lw_pre_spec {args : Array Value} {s : State} (h : (Jvm.Cond.and given_1 narrow_1).before args s = true) (hr : rest_1_c.before args s = true) : ∃ (b : Addr) (xs : List Int32), lw_P b xs args s := by
  have hs := flat_of_before _ h
  have hq := flat_of_before _ hr
  have hc : (Cond.count 1).before args s = true := hs _ (by decide +kernel)
  have harr : (Cond.arrayOf (.arg 0) .int).before args s = true := hs _ (by decide +kernel)
  have hle : (Cond.le (.length (.arg 0)) (.int 2560)).before args s = true := hs _ (by decide +kernel)
  have hlen : (Cond.isInt (.length (.arg 0))).before args s = true := hq _ (by decide +kernel)
  have hall : (Cond.all (.arg 0) (.isInt (.elem (.arg 0) (.index 0)))).before args s = true := hq _ (by decide +kernel)
  obtain ⟨b, xs, hb, hx⟩ := State.ints_of_pre rfl harr hlen hall
  have hsm : xs.length < 2 ^ 31 := hx.choose_spec.2.2.2
  have hev : (Term.length (.arg 0)).eval args s none [] s = some (.int xs.length.toInt32) := hx.length_eval hb
  have hv := Cond.le_ints hev (show (Term.int 2560).eval args s none [] s = some (.int 2560) from rfl)
  have hd : xs.length.toInt32 ≤ 2560 := by
    simpa [Cond.before, Cond.holds, hv] using hle
  have hN : xs.length ≤ 2560 := (Int32.ofNat_le_ofNat hsm (by decide)).mp (show Int32.ofNat xs.length ≤ Int32.ofNat 2560 from hd)
  exact ⟨b, xs, Cond.one_arg hc (show args[0]? = some (.ref b) from hb), hx, hN, h⟩
theorem lw_comes (l : Launch) : Comes l x (Jvm.Cond.code x code maxLocals ret :: tables_1) room_1 (fun tb e args s => Calls_1 tb e args s ∧ rest_1 tb e args s ∧ Pre_1 tb e args s)
    (fun _ _ args s o t => lw_Q args s o t) := by
  intro p e ha hc hk s m args below hf hfit hheap happ hpre
  obtain ⟨b, xs, hP⟩ := lw_pre_spec hpre.2.2 hpre.2.1
  obtain ⟨k, o, h1, h2, h3, hQ⟩ := lw_walk l b xs p e ha hc hk s m args below hf ((Spec.applies_iff_loose hf).mp happ).1 hP trivial
  exact ⟨k, o, h1, h2, h3, hQ⟩
theorem lw_frame {s t : State} {o : Outcome} {args : Array Value} (h : Framed s o t [] 27 457) :
    Framed s o t (fieldLocs frame_1_writes args s ++ arrayLocs frame_1_arrays args s ++ staticLocs frame_1_statics s) 27 457 := h
theorem lw_limb (L : Cond) (hL : ∀ (args : Array Value) (s t : State), L.after args s (.returned (some (.int 1))) t = true) :
    ArmFor flags0 classFile x code maxLocals ret World_1 tables_1 room_1 Calls_1 rest_1 Pre_1
      (fun tb e a s o t => postC L tb e a s o t ∧ Framed s o t (fieldLocs frame_1_writes a s ++ arrayLocs frame_1_arrays a s ++ staticLocs frame_1_statics s) 27 457) := by
  intro l _ _ _ p e ha hc hk s m args below hf hfit hheap happ hpre
  obtain ⟨k, o, h1, h2, h3, rfl, hF⟩ := lw_comes l p e ha hc hk s m args below hf hfit hheap happ hpre
  exact ⟨k, _, h1, h2, h3, hL args s _, lw_frame hF⟩
theorem i_vc : Claimed_1_1 ∧ Claimed_1_2 := ⟨lw_limb limb_1_1 (fun args s t => by simp [limb_1_1, Cond.after, Cond.holds, Cond.value]), lw_limb limb_1_2 (fun args s t => Cond.after_iff.mpr (by
  first | (rw [show limb_1_2 = Cond.eq .result (.int 1) from rfl, Cond.eq_ints (x := 1) (y := 1) rfl rfl]; simp; done) | (simp [limb_1_2, Cond.value, Term.eval]; done)))⟩
