/-! ===== rows for making ===== -/
section B3
variable {p : Program} {l : Launch} {e : Env} {R : Room} {s : State} {m : MethodId} {args : Array Value} {below : List Frame} {meth : Method} {c : Code} {H : Heap} {locs : List Loc} {cells slots : Nat} {Q : State → Prop}
variable {cc : ByteArray} {nL : Nat} {Ts : List Cond} {own : String} {ret : Option FieldType} {D : va_G} {cI cZ : ClassId} {A : Nat → Prop} {pc : Nat} {ls : Array Slot} {rest : List Value} {ws : va_W}
theorem x_newI (X : CX p s m args meth c cc nL Ts own ret D cI cZ A) (w : WD D A s.heap ws H locs) {n : Nat} (harr : Cond.arrayClass .int ∈ Ts) (hn : n < 1000) (hcells : cells + 1 ≤ R.cells) (hslots : slots + n ≤ R.slots) (hdg : decode cc pc = .ok (.newarray .int, 2))
    (kk : ∀ (q : Nat) (H1 : Heap), WD D A s.heap (ws ++ [(q, .inl (cI, n, .inl (iA (fun _ => 0))))]) H1 locs → W p l e R s m args below meth c H1 locs (cells + 1) (slots + n) Q (F0 m (pc + 2) ls (.ref q :: rest))) :
    W p l e R s m args below meth c H locs cells slots Q (F0 m pc ls (.int (nI n) :: rest)) := by
  obtain ⟨⟨hx, hb, hml, hown, hts⟩, -, -, hK, -, hA⟩ := X
  refine va_newa (D := D) (atype := .int) (ty := .int) (a0 := (n, .inl (iA (fun _ => 0)))) hx hb (hts _ harr) rfl hK w.1 w.2.1 w.2.2 hA (fun cA => rfl) (nI_pos (by omega)) (nI_clamp (by omega)) (show n * 4 ≤ 536870912 by omega) hcells hslots hdg (fun q cA H1 hK1 hP hD hS => ?_)
  have e1 := (hK1.2 2 (cA, .int) rfl).2
  have e2 := (hK.2 0 (cI, .int) rfl).2
  have e3 : cA = cI := by
    have h1 : s.vm.findClass ("[" ++ (FieldType.int).toString) = some cA := e1
    have h2 : s.vm.findClass ("[" ++ (FieldType.int).toString) = some cI := e2
    exact Option.some.inj (h1.symm.trans h2)
  subst e3
  exact kk q H1 ⟨hP, hD, hS⟩
theorem x_newZ (X : CX p s m args meth c cc nL Ts own ret D cI cZ A) (w : WD D A s.heap ws H locs) {n : Nat} (harr : Cond.arrayClass .boolean ∈ Ts) (hn : n < 1000) (hcells : cells + 1 ≤ R.cells) (hslots : slots + n ≤ R.slots) (hdg : decode cc pc = .ok (.newarray .boolean, 2))
    (kk : ∀ (q : Nat) (H1 : Heap), WD D A s.heap (ws ++ [(q, .inl (cZ, n, .inl (bA (fun _ => false))))]) H1 locs → W p l e R s m args below meth c H1 locs (cells + 1) (slots + n) Q (F0 m (pc + 2) ls (.ref q :: rest))) :
    W p l e R s m args below meth c H locs cells slots Q (F0 m pc ls (.int (nI n) :: rest)) := by
  obtain ⟨⟨hx, hb, hml, hown, hts⟩, -, -, hK, -, hA⟩ := X
  refine va_newa (D := D) (atype := .boolean) (ty := .boolean) (a0 := (n, .inl (bA (fun _ => false)))) hx hb (hts _ harr) rfl hK w.1 w.2.1 w.2.2 hA (fun cA => rfl) (nI_pos (by omega)) (nI_clamp (by omega)) (show n * 1 ≤ 536870912 by omega) hcells hslots hdg (fun q cA H1 hK1 hP hD hS => ?_)
  have e1 := (hK1.2 2 (cA, .boolean) rfl).2
  have e2 := (hK.2 1 (cZ, .boolean) rfl).2
  have e3 : cA = cZ := by
    have h1 : s.vm.findClass ("[" ++ (FieldType.boolean).toString) = some cA := e1
    have h2 : s.vm.findClass ("[" ++ (FieldType.boolean).toString) = some cZ := e2
    exact Option.some.inj (h1.symm.trans h2)
  subst e3
  exact kk q H1 ⟨hP, hD, hS⟩
/-- a final field of a reference, written in the constructor -/
def FPR (args : Array Value) (s : State) (own : String) (Ts : List Cond) (index ci k : Nat) (v : Value) : Prop := ∃ (q : vw_C) (ty : Nat → FieldType) (t : FieldType), vwCl[ci]? = some q ∧ k < q.2.2 ∧ (∀ w ∈ u_ws q.1 q.2.1 q.2.2, w ∈ Ts) ∧ (Cond.fieldLink own index (q.2.1 k).1 (q.2.1 k).2.1 (q.2.1 k).2.2.1).before args s = true ∧ (∀ k, k < q.2.2 → parseFieldDescriptor (q.2.1 k).2.2.1 = some (ty k)) ∧ (∀ a, a < q.2.2 → ∀ b, b < q.2.2 → a ≠ b → (q.2.1 a).2.1 ≠ (q.2.1 b).2.1) ∧ (q.2.1 k).2.2.2 = true ∧ (q.2.1 k).1 = own ∧ parseFieldDescriptor (q.2.1 k).2.2.1 = some t ∧ narrow t v = v ∧ fits t v = true
theorem x_putF (X : CX p s m args meth c cc nL Ts own ret D cI cZ A) (hin : meth.name = "<init>") (w : WD D A s.heap ws H locs) {index ci k : Nat} {v : Value} (F : FPR args s own Ts index ci k v) (q0 : Nat) {a : Nat} {fs : List Value} (he : ws[q0]? = some (a, .inr (ci, fs))) (hl : k < fs.length) (hdg : decode cc pc = .ok (.putfield index, 3))
    (kk : ∀ (H1 : Heap) (locs1 : List Loc), WD D A s.heap (ws.set q0 (a, .inr (ci, fs.set k v))) H1 locs1 → W p l e R s m args below meth c H1 locs1 cells slots Q (F0 m (pc + 3) ls rest)) : W p l e R s m args below meth c H locs cells slots Q (F0 m pc ls (v :: .ref a :: rest)) := by
  obtain ⟨⟨hx, hb, hml, hown, hts⟩, -, -, hK, -, -⟩ := X
  obtain ⟨⟨C, T, N⟩, ty, t, hc, hk, hi, hli, hty, hnm, hfin, hdec, hd, hn, hf⟩ := F
  exact va_putF (D := D) hx hb hts hi ty hty hnm hown hK w.1 w.2.1 w.2.2 q0 he hc k hk hli (fun _ h => h) hfin hin hdec hd hn hf hl hdg (fun H1 locs1 a b c => kk H1 locs1 ⟨a, b, c⟩)
/-- a new object of class ci -/
theorem x_new (X : CX p s m args meth c cc nL Ts own ret D cI cZ A) (w : WD D A s.heap ws H locs) {index ci : Nat} {C : String} {T : u_T} {N : Nat} (hc : vwCl[ci]? = some (C, T, N)) (hin : ∀ w ∈ u_ws C T N, w ∈ Ts) (ty : Nat → FieldType) (hty : ∀ k, k < N → parseFieldDescriptor (T k).2.2.1 = some (ty k)) (hcl : Cond.classLink own index C ∈ Ts) (hinst : Cond.instantiable C N ∈ Ts) (hini : Cond.initialized C ∈ Ts) {fs : List Value} (hfs : ∀ j, j < N → defaultValue (ty j) = vp_V fs j) (hcells : cells + 1 ≤ R.cells) (hslots : slots + N ≤ R.slots) (hdg : decode cc pc = .ok (.new index, 3))
    (kk : ∀ (q : Nat) (H1 : Heap), WD D A s.heap (ws ++ [(q, .inr (ci, fs))]) H1 locs → W p l e R s m args below meth c H1 locs (cells + 1) (slots + N) Q (F0 m (pc + 3) ls (.ref q :: rest))) : W p l e R s m args below meth c H locs cells slots Q (F0 m pc ls rest) := by
  obtain ⟨⟨hx, hb, hml, hown, hts⟩, -, -, hK, -, hA⟩ := X
  exact va_new (D := D) hx hb hts hin ty hty hown (hts _ hcl) (hts _ hinst) (hts _ hini) hK w.1 w.2.1 w.2.2 hA hc hfs hcells hslots hdg (fun q H1 a b c => kk q H1 ⟨a, b, c⟩)
variable {y : MethodName} {bytes : ByteArray} {maxL n index mc ms : Nat} {wsy : List Cond} {rm : Room} {wc wr : va_W} {b : Nat}
theorem x_init {post : va_W → Prop} (X : CX p s m args meth c cc nL Ts own ret D cI cZ A) (w : WD D A s.heap ws H locs) (hl : ls.size = nL) (hM : MV l D cI cZ y wsy rm [.ref b] wc mc ms post) (cw : CallB R s args own index y bytes maxL none wsy rm mc ms 0 ∧ y.name = "<init>" ∧ (Cond.instanceMethod y).before args s = true)
    (is ir : List Nat) (hn : va_nd is = true) (hC : is.map (fun i => ws[i]?) = wc.map some) (hR : ir.map (fun i => ws[i]?) = wr.map some) (hn2 : va_nd ir = true) (hdis : ∀ i ∈ ir, i ∉ is) (hroom : (rest.map fun v => v.category).sum ≤ 8) (hdg : decode cc pc = .ok (.invokespecial index, 3)) (hcs : cells + mc ≤ R.cells ∧ slots + ms ≤ R.slots)
    (kk : ∀ (w' : va_W) (H1 : Heap) (locs1 : List Loc), post w' → WD D A s.heap (wr ++ w') H1 locs1 → W p l e R s m args below meth c H1 locs1 (cells + mc) (slots + ms) Q (F0 m (pc + 3) ls rest)) :
    W p l e R s m args below meth c H locs cells slots Q (F0 m pc ls (.ref b :: rest)) := by
  obtain ⟨hF, -, -, hK, hN, hA⟩ := id X
  have hFc := va_free (wc := wc) w.2.1 w.2.2 hA is hC
  refine va_callv (va_runI (As := []) (rest := rest) hF (hM H.size) cw ⟨cPre_blind, fun U hU hW => ⟨rfl, cPre_at X w is hn hC U hU hW⟩⟩ rfl rfl hl rfl (lv_room hroom) hdg hcs) w.2.2 (fun q _ h => hFc q h) hFc (fun u t H1 locs1 ht hvm hp hB hz1 hk1 hS => ?_)
  obtain ⟨h1, h2⟩ := va_join (wr := wr) (w1 := u) w.1 w.2.1 is ir hC hR hn2 hdis hk1 hFc (by rw [← ht]; exact hB.1) hB.2
  exact kk u H1 locs1 hp ⟨h1, h2, hS⟩
theorem x_initN {post : va_W → Prop} {host : String} {wt : List Cond} (X : CX p s m args meth c cc nL Ts own ret D cI cZ A) (w : WD D A s.heap ws H locs) (hl : ls.size = nL) (hM : MV l D cI cZ y wsy rm [.ref b] wc mc ms post) (hG : GoodIn Ts wsy) (hw : wsy = Cond.code y bytes maxL none :: wt) (hrc : rm.cells = mc) (hrs : rm.slots = ms) (hnl : Cond.methodLinkNest own index y host ∈ nwl) (hini : Cond.initialized y.cls ∈ Ts) (hin : Cond.instanceMethod y ∈ Ts) (hy : y.name = "<init>")
    (hd : y.cls ≠ "java/lang/invoke/MethodHandle" ∧ y.cls ≠ "java/lang/invoke/VarHandle" ∧ (parseMethodDescriptor y.desc).map (fun d => d.parameters.length) = some 0) (hR : rm.frames + 1 ≤ R.frames ∧ 8 + (maxL + 11) + rm.locals ≤ R.locals)
    (is ir : List Nat) (hn : va_nd is = true) (hC : is.map (fun i => ws[i]?) = wc.map some) (hRr : ir.map (fun i => ws[i]?) = wr.map some) (hn2 : va_nd ir = true) (hdis : ∀ i ∈ ir, i ∉ is) (hroom : (rest.map fun v => v.category).sum ≤ 8) (hdg : decode cc pc = .ok (.invokespecial index, 3)) (hcs : cells + mc ≤ R.cells ∧ slots + ms ≤ R.slots)
    (kk : ∀ (w' : va_W) (H1 : Heap) (locs1 : List Loc), post w' → WD D A s.heap (wr ++ w') H1 locs1 → W p l e R s m args below meth c H1 locs1 (cells + mc) (slots + ms) Q (F0 m (pc + 3) ls rest)) :
    W p l e R s m args below meth c H locs cells slots Q (F0 m pc ls (.ref b :: rest)) := by
  obtain ⟨hF, -, -, hK, hN, hA⟩ := id X
  have hFc := va_free (wc := wc) w.2.1 w.2.2 hA is hC
  refine va_callv (va_runIN (As := []) (rest := rest) hF (hM H.size) ⟨va_cnB 0 hF.2.2.2.2 hG hw hrc hrs (hN _ hnl) (hF.2.2.2.2 _ hini) hd hR, hy, hF.2.2.2.2 _ hin⟩ ⟨cPre_blind, fun U hU hW => ⟨rfl, cPre_at X w is hn hC U hU hW⟩⟩ rfl rfl hl rfl (lv_room hroom) hdg hcs) w.2.2 (fun q _ h => hFc q h) hFc (fun u t H1 locs1 ht hvm hp hB hz1 hk1 hS => ?_)
  obtain ⟨h1, h2⟩ := va_join (wr := wr) (w1 := u) w.1 w.2.1 is ir hC hRr hn2 hdis hk1 hFc (by rw [← ht]; exact hB.1) hB.2
  exact kk u H1 locs1 hp ⟨h1, h2, hS⟩
end B3
