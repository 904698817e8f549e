/-! ===== base: the nest links, the world in one word, contracts, rows over them ===== -/
def nwl : List Cond := [.methodLinkNest RX5 9 yX3_init RX5, .methodLinkNest RX5 18 yX0_init RX5, .methodLinkNest RX5 25 yX1_init RX5, .methodLinkNest RX3 22 yX5_endsTo RX5, .methodLinkNest RX3 38 yX5_sensorsOn RX5, .methodLinkNest RX3 26 yX5_isBelow RX5, .methodLinkNest RX0 47 yX5_cylindersOf RX5, .methodLinkNest RX0 22 yX5_isBelow RX5, .methodLinkNest RX2 18 yX5_isBelow RX5, .methodLinkNest RX2 40 yX5_has RX5, .methodLinkNest RX1 39 yX5_endsTo RX5, .methodLinkNest RX1 26 yX5_sensorsOn RX5, .methodLinkNest RX1 30 yX5_cylindersOf RX5, .methodLinkNest RX1 33 yX5_has RX5, .methodLinkNest RX1 36 yX5_cylinderOf RX5, .methodLinkNest RX1 22 yX5_isBelow RX5, .methodLinkNest RX4 34 yX5_isState RX5, .methodLinkNest RX4 45 yX5_has RX5]
def isMN (w : Cond) : Prop := ∃ (a : String) (i : Nat) (x : MethodName) (h : String), w = .methodLinkNest a i x h
theorem nwl_mn : ∀ w ∈ nwl, isMN w := by
  unfold nwl
  repeat' (first | (refine List.forall_mem_cons.mpr ⟨⟨_, _, _, _, rfl⟩, ?_⟩) | exact fun _ h => absurd h List.not_mem_nil)
def NW (U : State) : Prop := ∀ w ∈ nwl, va_Nw w U
theorem NW.warm {s U : State} (hW : s.WarmedH U.vm) (h : NW s) : NW U := fun w hw => by
  obtain ⟨a, i, x, q, rfl⟩ := nwl_mn w hw
  exact va_Nw.warmM hW (h _ hw)
theorem NW.calling {U : State} {g : JFrame} {mk : MethodId} {a : Array Value} (h : NW U) : NW (U.calling g mk a) := fun w hw => by
  obtain ⟨b, i, x, q, rfl⟩ := nwl_mn w hw
  exact va_Nw.same (u := U) rfl rfl (h _ hw)
abbrev KT (cI cZ : ClassId) : List (ClassId × FieldType) := [(cI, .int), (cZ, .boolean)]
def WD (D : va_G) (A : Nat → Prop) (H0 : Heap) (ws : va_W) (H : Heap) (locs : List Loc) : Prop := va_P D vwCl ws H ∧ va_D A ws ∧ va_S A H0 H locs
def cPre (D : va_G) (cI cZ : ClassId) (ws : va_W) (sz : Nat) (U : State) : Prop := U.heap.size = sz ∧ va_P D vwCl ws U.heap ∧ va_K D vwCl (KT cI cZ) U ∧ va_D (fun _ => True) ws ∧ NW U
def cB (D : va_G) (A : Nat → Prop) (w : va_W) (t : State) : Prop := va_P D vwCl w t.heap ∧ va_D A w
/-- a method's contract: an int (or boolean) comes back, no cell is made -/
def MI (l : Launch) (D : va_G) (cI cZ : ClassId) (y : MethodName) (ws : List Cond) (rm : Room) (av : List Value) (w0 : va_W) (post : Int32 → va_W → Prop) : Prop :=
  ∀ sz : Nat, Met l y ws rm (va_Pc av (cPre D cI cZ w0 sz)) (va_Qi post (cB D (va_A w0 sz)) (va_A w0 sz)) 0 0 (va_A w0 sz)
/-- nothing comes back; mc cells of ms slots are made -/
def MV (l : Launch) (D : va_G) (cI cZ : ClassId) (y : MethodName) (ws : List Cond) (rm : Room) (av : List Value) (w0 : va_W) (mc ms : Nat) (post : va_W → Prop) : Prop :=
  ∀ sz : Nat, Met l y ws rm (va_Pc av (cPre D cI cZ w0 sz)) (va_Qv post (cB D (va_A w0 sz)) (va_A w0 sz)) mc ms (va_A w0 sz)
def CX (p : Program) (s : State) (m : MethodId) (args : Array Value) (meth : Method) (c : Code) (cc : ByteArray) (nL : Nat) (Ts : List Cond) (own : String) (ret : Option FieldType) (D : va_G) (cI cZ : ClassId) (A : Nat → Prop) : Prop :=
  CallFix p m c cc nL s args Ts own ∧ meth.sig.returnType = ret ∧ meth.locks = false ∧ va_K D vwCl (KT cI cZ) s ∧ NW s ∧ (∀ q, s.heap.size ≤ q → A q)
theorem cPre_blind {D : va_G} {cI cZ : ClassId} {ws : va_W} {sz : Nat} {av : List Value} : FrameBlind (va_Pc av (cPre D cI cZ ws sz)) := fun a U g mk q => by
  obtain ⟨q0, q1, qP, qK, qD, qN⟩ := q
  exact ⟨q0, q1, qP, va_K.moved (u := U) (U := U.calling g mk a) (Vm.Alike.refl U.vm) qK, qD, qN.calling⟩
section B1
variable {l : Launch} {D : va_G} {cI cZ : ClassId} {y : MethodName} {ws ws' : List Cond} {rm : Room} {av : List Value} {w0 : va_W} {cc : ByteArray} {maxL : Nat} {ret : Option FieldType} {own : String}
theorem MI.of {post : Int32 → va_W → Prop} (hy : plainName y.cls = true) (hw : ws = Cond.code y cc maxL ret :: ws') (ho : y.cls = own) (hle : (lg_sl av).length ≤ maxL)
    (body : ∀ (p : Program) (e : Env) (s : State) (m : MethodId) (args : Array Value) (below : List Frame) (meth : Method) (c : Code) (A : Nat → Prop), CX p s m args meth c cc maxL ws own ret D cI cZ A → WD D A s.heap w0 s.heap [] → ∀ ls : Array Slot, lv_has ls maxL (lv_args 0 av) →
      W p l e rm s m args below meth c s.heap [] 0 0 (MQ below (va_Qi post (cB D A) A) args s 0 0 A) (F0 m 0 ls [])) : MI l D cI cZ y ws rm av w0 post := by
  intro sz
  refine Met.ofW (cc := cc) (maxL := maxL) (ret := ret) hy hw ?_
  intro p e s m args below meth c s₁ B hml hv
  obtain ⟨rfl, hsz, hP, hK, hD0, hN⟩ := hv
  subst hsz
  have hD := hD0.self (sz := s.heap.size)
  rw [lg_entry_eq]
  exact body p e s m _ below meth c _ ⟨⟨B.exec, B.bytes, hml, by rw [← ho]; exact findClass_of_methodNamed B.named, atoms_spec (ws := ws) B.pre⟩, B.returns, B.notSynchronized, hK, hN, fun q h => Or.inr h⟩ ⟨hP, hD, va_S.rf⟩ _ (lv_entry av hle)
theorem MV.of {mc ms : Nat} {post : va_W → Prop} (hy : plainName y.cls = true) (hw : ws = Cond.code y cc maxL ret :: ws') (ho : y.cls = own) (hle : (lg_sl av).length ≤ maxL)
    (body : ∀ (p : Program) (e : Env) (s : State) (m : MethodId) (args : Array Value) (below : List Frame) (meth : Method) (c : Code) (A : Nat → Prop), CX p s m args meth c cc maxL ws own ret D cI cZ A → meth.name = y.name → WD D A s.heap w0 s.heap [] → ∀ ls : Array Slot, lv_has ls maxL (lv_args 0 av) →
      W p l e rm s m args below meth c s.heap [] 0 0 (MQ below (va_Qv post (cB D A) A) args s mc ms A) (F0 m 0 ls [])) : MV l D cI cZ y ws rm av w0 mc ms post := by
  intro sz
  refine Met.ofW (cc := cc) (maxL := maxL) (ret := ret) hy hw ?_
  intro p e s m args below meth c s₁ B hml hv
  obtain ⟨rfl, hsz, hP, hK, hD0, hN⟩ := hv
  subst hsz
  have hD := hD0.self (sz := s.heap.size)
  rw [lg_entry_eq]
  exact body p e s m _ below meth c _ ⟨⟨B.exec, B.bytes, hml, by rw [← ho]; exact findClass_of_methodNamed B.named, atoms_spec (ws := ws) B.pre⟩, B.returns, B.notSynchronized, hK, hN, fun q h => Or.inr h⟩ (name_of_methodNamed B.named B.method).1 ⟨hP, hD, va_S.rf⟩ _ (lv_entry av hle)
end B1
/-- cells is of ws are now w -/
def setL : List Nat → va_W → va_W → va_W
  | i :: is, q :: w, ws => setL is w (ws.set i q)
  | _, _, ws => ws
theorem setL_at : ∀ (is : List Nat) (w ws : va_W) (k : Nat) (q : Nat × va_E), is.length = w.length → (setL is w ws)[k]? = some q → (k ∉ is ∧ ws[k]? = some q) ∨ q ∈ w
  | [], [], ws, k, q, _, h => Or.inl ⟨List.not_mem_nil, h⟩
  | [], _ :: _, _, _, _, hl, _ => by simp at hl
  | _ :: _, [], _, _, _, hl, _ => by simp at hl
  | i :: is, x :: w, ws, k, q, hl, h => by
    rcases setL_at is w (ws.set i x) k q (by simpa using hl) h with ⟨h1, h2⟩ | h1
    · by_cases hk : k = i
      · subst hk
        rw [List.getElem?_set] at h2
        simp only [if_true] at h2
        split at h2
        · exact Or.inr (by rw [← Option.some.inj h2]; exact List.mem_cons_self)
        · cases h2
      · rw [List.getElem?_set_ne (Ne.symm hk)] at h2
        exact Or.inl ⟨fun hm => (List.mem_cons.mp hm).elim hk h1, h2⟩
    · exact Or.inr (List.mem_cons_of_mem _ h1)
theorem setL_fst : ∀ (is : List Nat) (w ws : va_W), is.map (fun i => (ws[i]?).map Prod.fst) = w.map (fun q => some q.1) → ∀ k : Nat, ((setL is w ws)[k]?).map Prod.fst = (ws[k]?).map Prod.fst
  | [], [], ws, _, k => rfl
  | [], _ :: _, ws, _, k => rfl
  | _ :: _, [], ws, _, k => rfl
  | i :: is, x :: w, ws, h, k => by
    have h0 : (ws[i]?).map Prod.fst = some x.1 := by simpa using (List.cons.inj h).1
    have hx : ∀ j : Nat, ((ws.set i x)[j]?).map Prod.fst = (ws[j]?).map Prod.fst := by
      intro j
      by_cases hj : j = i
      · subst hj
        rw [h0, List.getElem?_set]
        simp only [if_true]
        split
        · rfl
        · rename_i hlt
          rw [List.getElem?_eq_none (by omega)] at h0
          cases h0
      · rw [List.getElem?_set_ne (Ne.symm hj)]
    have h2 : is.map (fun i' => ((ws.set i x)[i']?).map Prod.fst) = w.map (fun q => some q.1) := by
      have h3 := (List.cons.inj h).2
      rw [← h3]
      exact List.map_congr_left (fun j _ => hx j)
    exact (setL_fst is w (ws.set i x) h2 k).trans (hx k)
theorem map_fst_of {is : List Nat} {ws wc w : va_W} (hC : is.map (fun i => ws[i]?) = wc.map some) (hf : w.map Prod.fst = wc.map Prod.fst) : is.map (fun i => (ws[i]?).map Prod.fst) = w.map (fun q => some q.1) := by
  have h1 : (is.map (fun i => ws[i]?)).map (fun o => o.map Prod.fst) = (wc.map some).map (fun o => o.map Prod.fst) := by rw [hC]
  rw [List.map_map, List.map_map] at h1
  have h2 : (wc.map Prod.fst).map some = (w.map Prod.fst).map some := by rw [hf]
  rw [List.map_map, List.map_map] at h2
  exact h1.trans h2
/-- behind a call: the caller's cells at their places, the callee's as they came back -/
theorem WD.back {D : va_G} {A : Nat → Prop} {H0 H H1 : Heap} {locs locs1 : List Loc} {ws wc w : va_W} (h : WD D A H0 ws H locs) (is : List Nat) (hC : is.map (fun i => ws[i]?) = wc.map some) (hf : w.map Prod.fst = wc.map Prod.fst)
    (hk : ∀ q : Nat, q < H.size → ¬ va_A wc H.size q → H1[q]? = H[q]?) (hP1 : va_P D vwCl w H1) (hS : va_S A H0 H1 locs1) : WD D A H0 (setL is w ws) H1 locs1 := by
  obtain ⟨hP, hD, -⟩ := h
  have hlen : is.length = w.length := by
    have h1 := congrArg List.length hC
    have h2 := congrArg List.length hf
    simp at h1 h2
    omega
  have hfst := setL_fst is w ws (map_fst_of hC hf)
  have at0 : ∀ (k : Nat) (q : Nat × va_E), (setL is w ws)[k]? = some q → ∃ q0, ws[k]? = some q0 ∧ q0.1 = q.1 := by
    intro k q hq
    have h1 := hfst k
    rw [hq] at h1
    cases hw : ws[k]? with
    | none => rw [hw] at h1; cases h1
    | some q0 => rw [hw] at h1; exact ⟨q0, rfl, (Option.some.inj h1).symm⟩
  refine ⟨fun k q hq => ?_, ⟨fun i j x z hx hz hxz => ?_, fun k q hq => ?_⟩, hS⟩
  · rcases setL_at is w ws k q hlen hq with ⟨h1, h2⟩ | h1
    · refine (hP k q h2).kept (hk q.1 (hP k q h2).lt (fun hA => ?_))
      rcases hA with ⟨j, e, hj⟩ | hA
      · have h3 : (is.map (fun i => ws[i]?))[j]? = some (some (q.1, e)) := by rw [hC, List.getElem?_map, hj]; rfl
        rw [List.getElem?_map] at h3
        cases hi : is[j]? with
        | none => rw [hi] at h3; cases h3
        | some i =>
          rw [hi] at h3
          have h4 : ws[i]? = some (q.1, e) := Option.some.inj h3
          have h5 := hD.1 k i q (q.1, e) h2 h4 rfl
          subst h5
          exact h1 (List.mem_of_getElem? hi)
      · exact absurd (hP k q h2).lt (by omega)
    · obtain ⟨j, hj⟩ := List.getElem?_of_mem h1
      exact hP1 j q hj
  · obtain ⟨x0, hx0, ex⟩ := at0 i x hx
    obtain ⟨z0, hz0, ez⟩ := at0 j z hz
    exact hD.1 i j x0 z0 hx0 hz0 (by rw [ex, ez]; exact hxz)
  · obtain ⟨q0, h0, e0⟩ := at0 k q hq
    rw [← e0]
    exact hD.2 k q0 h0
section B2
variable {p : Program} {l : Launch} {e : Env} {R : Room} {s : State} {m : MethodId} {args : Array Value} {below : List Frame} {meth : Method} {c : Code} {H : Heap} {locs : List Loc} {cells slots : Nat} {Q : State → Prop}
variable {cc : ByteArray} {nL : Nat} {Ts : List Cond} {own : String} {ret : Option FieldType} {D : va_G} {cI cZ : ClassId} {A : Nat → Prop} {pc : Nat} {ls : Array Slot} {rest : List Value} {ws : va_W}
theorem cv_i {x y : Int32} (e' : x = y) (k : W p l e R s m args below meth c H locs cells slots Q (F0 m pc ls (.int y :: rest))) : W p l e R s m args below meth c H locs cells slots Q (F0 m pc ls (.int x :: rest)) := e' ▸ k
/-- a field that a method reads: its link, its class's words -/
def FF (args : Array Value) (s : State) (own : String) (Ts : List Cond) (index ci k : Nat) : Prop := ∃ q : vw_C, vwCl[ci]? = some q ∧ k < q.2.2 ∧ (∀ w ∈ u_ws q.1 q.2.1 q.2.2, w ∈ Ts) ∧ (Cond.fieldLink own index (q.2.1 k).1 (q.2.1 k).2.1 (q.2.1 k).2.2.1).before args s = true
theorem x_get (X : CX p s m args meth c cc nL Ts own ret D cI cZ A) (w : WD D A s.heap ws H locs) {index ci k : Nat} (F : FF args s own Ts index ci k) (q0 : Nat) {a : Nat} {fs : List Value} (he : ws[q0]? = some (a, .inr (ci, fs))) {v : Value} (hv : fs[k]? = some v) (hdg : decode cc pc = .ok (.getfield index, 3))
    (kk : W p l e R s m args below meth c H locs cells slots Q (F0 m (pc + 3) ls (v :: rest))) : W p l e R s m args below meth c H locs cells slots Q (F0 m pc ls (.ref a :: rest)) := by
  obtain ⟨⟨hx, hb, hml, hown, hts⟩, -, -, hK, -, -⟩ := X
  obtain ⟨⟨C, T, N⟩, hc, hk, hin, hl⟩ := F
  exact va_get (D := D) hx hb hts hin hown hK w.1 q0 he hc k hk hl (fun _ h => h) hv hdg kk
/-- an int field that a method writes -/
def FP (args : Array Value) (s : State) (own : String) (Ts : List Cond) (index ci k : Nat) : Prop := ∃ (q : vw_C) (ty : Nat → FieldType), vwCl[ci]? = some q ∧ k < q.2.2 ∧ (∀ w ∈ u_ws q.1 q.2.1 q.2.2, w ∈ Ts) ∧ (Cond.fieldLink own index (q.2.1 k).1 (q.2.1 k).2.1 (q.2.1 k).2.2.1).before args s = true ∧ (∀ k, k < q.2.2 → parseFieldDescriptor (q.2.1 k).2.2.1 = some (ty k)) ∧ (∀ a, a < q.2.2 → ∀ b, b < q.2.2 → a ≠ b → (q.2.1 a).2.1 ≠ (q.2.1 b).2.1) ∧ (q.2.1 k).2.2.2 = false ∧ parseFieldDescriptor (q.2.1 k).2.2.1 = some .int
theorem x_put (X : CX p s m args meth c cc nL Ts own ret D cI cZ A) (w : WD D A s.heap ws H locs) {index ci k : Nat} (F : FP args s own Ts index ci k) (q0 : Nat) {a : Nat} {fs : List Value} (he : ws[q0]? = some (a, .inr (ci, fs))) {v : Int32} (hl : k < fs.length) (hdg : decode cc pc = .ok (.putfield index, 3))
    (kk : ∀ (H1 : Heap) (locs1 : List Loc), WD D A s.heap (ws.set q0 (a, .inr (ci, fs.set k (.int v)))) H1 locs1 → W p l e R s m args below meth c H1 locs1 cells slots Q (F0 m (pc + 3) ls rest)) : W p l e R s m args below meth c H locs cells slots Q (F0 m pc ls (.int v :: .ref a :: rest)) := by
  obtain ⟨⟨hx, hb, hml, hown, hts⟩, -, -, hK, -, -⟩ := X
  obtain ⟨⟨C, T, N⟩, ty, hc, hk, hin, hli, hty, hnm, hfin, hd⟩ := F
  exact va_put (D := D) hx hb hts hin ty hty hnm hown hK w.1 w.2.1 w.2.2 q0 he hc k hk hli (fun _ h => h) hfin hd rfl rfl hl hdg (fun H1 locs1 a b c => kk H1 locs1 ⟨a, b, c⟩)
/-- rows of small numbers, of booleans -/
def iA (o : Nat → Nat) : Nat → Int32 := fun k => nI (o k)
def bI (b : Bool) : Int32 := if b then 1 else 0
def bA (o : Nat → Bool) : Nat → Int32 := fun k => bI (o k)
theorem iA_up (o : Nat → Nat) (k v : Nat) : upd (iA o) k (nI v) = iA (va_up o k v) := by
  funext j
  unfold upd iA va_up
  split <;> rfl
/-- numbers from -1 on -/
def mI (a : Nat) : Int32 := nI a - 1
def mA (o : Nat → Nat) : Nat → Int32 := fun k => mI (o k)
theorem mA_up (o : Nat → Nat) (k v : Nat) : upd (mA o) k (mI v) = mA (va_up o k v) := by
  funext j
  unfold upd mA va_up
  split <;> rfl
theorem bA_up (o : Nat → Bool) (k : Nat) (v : Bool) : upd (bA o) k (bI v) = bA (va_up o k v) := by
  funext j
  unfold upd bA va_up
  split <;> rfl
theorem x_ald (X : CX p s m args meth c cc nL Ts own ret D cI cZ A) (w : WD D A s.heap ws H locs) (q0 : Nat) {a n : Nat} {f : Nat → Int32} (he : ws[q0]? = some (a, .inl (cI, n, .inl f))) {k : Nat} (hk : k < n) (hn : n < 2 ^ 31) (hdg : decode cc pc = .ok (.iaload, 1))
    (kk : W p l e R s m args below meth c H locs cells slots Q (F0 m (pc + 1) ls (.int (f k) :: rest))) : W p l e R s m args below meth c H locs cells slots Q (F0 m pc ls (.int (nI k) :: .ref a :: rest)) := by
  obtain ⟨⟨hx, hb, hml, hown, hts⟩, -, -, hK, -, -⟩ := X
  refine va_iald (D := D) hx hb hK w.1 q0 0 he rfl (vp_in_nI hk hn) hdg ?_
  rw [nI_clamp (by omega)]
  exact kk
theorem x_aldN (X : CX p s m args meth c cc nL Ts own ret D cI cZ A) (w : WD D A s.heap ws H locs) (q0 : Nat) {a n : Nat} {o : Nat → Nat} (he : ws[q0]? = some (a, .inl (cI, n, .inl (iA o)))) {k : Nat} (hk : k < n) (hn : n < 2 ^ 31) (hdg : decode cc pc = .ok (.iaload, 1))
    (kk : W p l e R s m args below meth c H locs cells slots Q (F0 m (pc + 1) ls (.int (nI (o k)) :: rest))) : W p l e R s m args below meth c H locs cells slots Q (F0 m pc ls (.int (nI k) :: .ref a :: rest)) := x_ald X w q0 he hk hn hdg kk
theorem x_aldM (X : CX p s m args meth c cc nL Ts own ret D cI cZ A) (w : WD D A s.heap ws H locs) (q0 : Nat) {a n : Nat} {o : Nat → Nat} (he : ws[q0]? = some (a, .inl (cI, n, .inl (mA o)))) {k : Nat} (hk : k < n) (hn : n < 2 ^ 31) (hdg : decode cc pc = .ok (.iaload, 1))
    (kk : W p l e R s m args below meth c H locs cells slots Q (F0 m (pc + 1) ls (.int (mI (o k)) :: rest))) : W p l e R s m args below meth c H locs cells slots Q (F0 m pc ls (.int (nI k) :: .ref a :: rest)) := x_ald X w q0 he hk hn hdg kk
theorem x_aldB (X : CX p s m args meth c cc nL Ts own ret D cI cZ A) (w : WD D A s.heap ws H locs) (q0 : Nat) {a n : Nat} {o : Nat → Bool} (he : ws[q0]? = some (a, .inl (cZ, n, .inl (bA o)))) {k : Nat} (hk : k < n) (hn : n < 2 ^ 31) (hdg : decode cc pc = .ok (.baload, 1))
    (kk : W p l e R s m args below meth c H locs cells slots Q (F0 m (pc + 1) ls (.int (bI (o k)) :: rest))) : W p l e R s m args below meth c H locs cells slots Q (F0 m pc ls (.int (nI k) :: .ref a :: rest)) := by
  obtain ⟨⟨hx, hb, hml, hown, hts⟩, -, -, hK, -, -⟩ := X
  refine va_zald (D := D) hx hb hK w.1 q0 1 he rfl (vp_in_nI hk hn) hdg ?_
  rw [nI_clamp (by omega)]
  exact kk
theorem x_ast (X : CX p s m args meth c cc nL Ts own ret D cI cZ A) (w : WD D A s.heap ws H locs) (q0 : Nat) {a n : Nat} {f : Nat → Int32} (he : ws[q0]? = some (a, .inl (cI, n, .inl f))) {k : Nat} {x : Int32} (hk : k < n) (hn : n < 2 ^ 31) (hdg : decode cc pc = .ok (.iastore, 1))
    (kk : ∀ (H1 : Heap) (locs1 : List Loc), WD D A s.heap (ws.set q0 (a, .inl (cI, n, .inl (upd f k x)))) H1 locs1 → W p l e R s m args below meth c H1 locs1 cells slots Q (F0 m (pc + 1) ls rest)) : W p l e R s m args below meth c H locs cells slots Q (F0 m pc ls (.int x :: .int (nI k) :: .ref a :: rest)) := by
  obtain ⟨⟨hx, hb, hml, hown, hts⟩, -, -, hK, -, -⟩ := X
  refine va_iast (D := D) hx hb hK w.1 w.2.1 w.2.2 q0 0 he rfl (vp_in_nI hk hn) hdg ?_
  rw [nI_clamp (by omega)]
  exact fun H1 locs1 a b c => kk H1 locs1 ⟨a, b, c⟩
theorem x_astN (X : CX p s m args meth c cc nL Ts own ret D cI cZ A) (w : WD D A s.heap ws H locs) (q0 : Nat) {a n : Nat} {o : Nat → Nat} (he : ws[q0]? = some (a, .inl (cI, n, .inl (iA o)))) {k x : Nat} (hk : k < n) (hn : n < 2 ^ 31) (hdg : decode cc pc = .ok (.iastore, 1))
    (kk : ∀ (H1 : Heap) (locs1 : List Loc), WD D A s.heap (ws.set q0 (a, .inl (cI, n, .inl (iA (va_up o k x))))) H1 locs1 → W p l e R s m args below meth c H1 locs1 cells slots Q (F0 m (pc + 1) ls rest)) : W p l e R s m args below meth c H locs cells slots Q (F0 m pc ls (.int (nI x) :: .int (nI k) :: .ref a :: rest)) := by
  refine x_ast X w q0 he hk hn hdg ?_
  rw [iA_up]
  exact kk
theorem x_astM (X : CX p s m args meth c cc nL Ts own ret D cI cZ A) (w : WD D A s.heap ws H locs) (q0 : Nat) {a n : Nat} {o : Nat → Nat} (he : ws[q0]? = some (a, .inl (cI, n, .inl (mA o)))) {k x : Nat} (hk : k < n) (hn : n < 2 ^ 31) (hdg : decode cc pc = .ok (.iastore, 1))
    (kk : ∀ (H1 : Heap) (locs1 : List Loc), WD D A s.heap (ws.set q0 (a, .inl (cI, n, .inl (mA (va_up o k x))))) H1 locs1 → W p l e R s m args below meth c H1 locs1 cells slots Q (F0 m (pc + 1) ls rest)) : W p l e R s m args below meth c H locs cells slots Q (F0 m pc ls (.int (mI x) :: .int (nI k) :: .ref a :: rest)) := by
  refine x_ast X w q0 he hk hn hdg ?_
  rw [mA_up]
  exact kk
theorem x_astB (X : CX p s m args meth c cc nL Ts own ret D cI cZ A) (w : WD D A s.heap ws H locs) (q0 : Nat) {a n : Nat} {o : Nat → Bool} (he : ws[q0]? = some (a, .inl (cZ, n, .inl (bA o)))) {k : Nat} {x : Bool} (hk : k < n) (hn : n < 2 ^ 31) (hdg : decode cc pc = .ok (.bastore, 1))
    (kk : ∀ (H1 : Heap) (locs1 : List Loc), WD D A s.heap (ws.set q0 (a, .inl (cZ, n, .inl (bA (va_up o k x))))) H1 locs1 → W p l e R s m args below meth c H1 locs1 cells slots Q (F0 m (pc + 1) ls rest)) : W p l e R s m args below meth c H locs cells slots Q (F0 m pc ls (.int (bI x) :: .int (nI k) :: .ref a :: rest)) := by
  obtain ⟨⟨hx, hb, hml, hown, hts⟩, -, -, hK, -, -⟩ := X
  refine va_zast (D := D) hx hb hK w.1 w.2.1 w.2.2 q0 1 he rfl (vp_in_nI hk hn) hdg ?_
  rw [nI_clamp (by omega), show vp_nar .boolean (bI x) = bI x by cases x <;> rfl, bA_up]
  exact fun H1 locs1 a b c => kk H1 locs1 ⟨a, b, c⟩
theorem x_alen (X : CX p s m args meth c cc nL Ts own ret D cI cZ A) (w : WD D A s.heap ws H locs) (q0 : Nat) {a n : Nat} {f : Nat → Int32} (he : ws[q0]? = some (a, .inl (cI, n, .inl f))) (hdg : decode cc pc = .ok (.arraylength, 1))
    (kk : W p l e R s m args below meth c H locs cells slots Q (F0 m (pc + 1) ls (.int (nI n) :: rest))) : W p l e R s m args below meth c H locs cells slots Q (F0 m pc ls (.ref a :: rest)) := by
  obtain ⟨⟨hx, hb, hml, hown, hts⟩, -, -, hK, -, -⟩ := X
  exact va_alen (D := D) hx hb hK w.1 q0 0 he rfl rfl hdg kk
theorem x_iret {post : Int32 → va_W → Prop} {v : Int32} (X : CX p s m args meth c cc nL Ts own (some .int) D cI cZ A) (w : WD D A s.heap ws H locs) (hp : post v ws) (hdg : decode cc pc = .ok (.ireturn, 1)) :
    W p l e R s m args below meth c H locs 0 0 (MQ below (va_Qi post (cB D A) A) args s 0 0 A) (F0 m pc ls [.int v]) := by
  obtain ⟨⟨hx, hb, hml, hown, hts⟩, hr, hlk, hK, -, -⟩ := X
  exact W.iret hx hb hr (fun t ht hW => ⟨⟨v, ws, rfl, hp, by rw [cB, ht]; exact ⟨w.1, w.2.1⟩⟩, w.2.2.F ht⟩) w.2.2.2.2 hdg hlk
theorem x_zret {post : Int32 → va_W → Prop} {b : Bool} (X : CX p s m args meth c cc nL Ts own (some .boolean) D cI cZ A) (w : WD D A s.heap ws H locs) (hp : post (bI b) ws) (hdg : decode cc pc = .ok (.ireturn, 1)) :
    W p l e R s m args below meth c H locs 0 0 (MQ below (va_Qi post (cB D A) A) args s 0 0 A) (F0 m pc ls [.int (bI b)]) := by
  obtain ⟨⟨hx, hb, hml, hown, hts⟩, hr, hlk, hK, -, -⟩ := X
  exact W.zret hx hb hr (by cases b <;> rfl) (fun t ht hW => ⟨⟨bI b, ws, rfl, hp, by rw [cB, ht]; exact ⟨w.1, w.2.1⟩⟩, w.2.2.F ht⟩) w.2.2.2.2 hdg hlk
theorem x_vret {post : va_W → Prop} {mc ms : Nat} (X : CX p s m args meth c cc nL Ts own none D cI cZ A) (w : WD D A s.heap ws H locs) (hp : post ws) (hdg : decode cc pc = .ok (.return_, 1)) :
    W p l e R s m args below meth c H locs mc ms (MQ below (va_Qv post (cB D A) A) args s mc ms A) (F0 m pc ls []) := by
  obtain ⟨⟨hx, hb, hml, hown, hts⟩, hr, hlk, hK, -, -⟩ := X
  exact W.vret hx hb hr (fun t ht hW => ⟨⟨ws, rfl, hp, by rw [cB, ht]; exact ⟨w.1, w.2.1⟩⟩, w.2.2.F ht⟩) w.2.2.2.2 hdg hlk
theorem WD.sub' {wc : va_W} (w : WD D A s.heap ws H locs) (is : List Nat) (hn : va_nd is = true) (hC : is.map (fun i => ws[i]?) = wc.map some) : va_P D vwCl wc H ∧ va_D (fun _ => True) wc := by
  refine ⟨fun k q hk => ?_, (w.2.1.sub is hn hC).weaken (fun _ _ _ _ => trivial)⟩
  have h1 : (is.map (fun i => ws[i]?))[k]? = some (some q) := by rw [hC, List.getElem?_map, hk]; rfl
  rw [List.getElem?_map] at h1
  cases hi : is[k]? with
  | none => rw [hi] at h1; cases h1
  | some i => rw [hi] at h1; exact w.1 i q (Option.some.inj h1)
theorem cPre_at {wc : va_W} (X : CX p s m args meth c cc nL Ts own ret D cI cZ A) (w : WD D A s.heap ws H locs) (is : List Nat) (hn : va_nd is = true) (hC : is.map (fun i => ws[i]?) = wc.map some) (U : State) (hU : U.heap = H) (hW : s.WarmedH U.vm) : cPre D cI cZ wc H.size U := by
  obtain ⟨-, -, -, hK, hN, -⟩ := X
  obtain ⟨h1, h2⟩ := w.sub' is hn hC
  exact ⟨by rw [hU], by rw [hU]; exact h1, hK.moved hW.alike, h2, hN.warm hW⟩
variable {y : MethodName} {bytes : ByteArray} {maxL n index : Nat} {rty : Option FieldType} {wsy : List Cond} {rm : Room} {wc : va_W} {b : Nat} {As : List Value}
/-- a call of a method of an object -/
theorem x_callV {post : Int32 → va_W → Prop} {C : String} {ci : Nat} {fs : List Value} {q : vw_C} (X : CX p s m args meth c cc nL Ts own ret D cI cZ A) (w : WD D A s.heap ws H locs) (hl : ls.size = nL) (hM : MI l D cI cZ y wsy rm (.ref b :: As) wc post) (cw : CallW R s args own C index y bytes maxL rty wsy rm 0 0 n)
    (is : List Nat) (hn : va_nd is = true) (hC : is.map (fun i => ws[i]?) = wc.map some) (q0 : Nat) (hq0 : wc[q0]? = some (b, .inr (ci, fs))) (hci : vwCl[ci]? = some q) (hCq : q.1 = C) (hlen : As.length = n) (hroom : (rest.map fun v => v.category).sum ≤ 8) (hdg : decode cc pc = .ok (.invokevirtual index, 3)) (hcs : cells ≤ R.cells ∧ slots ≤ R.slots)
    (kk : ∀ (r : Int32) (w' : va_W) (H1 : Heap) (locs1 : List Loc), post r w' → (w'.map Prod.fst = wc.map Prod.fst → WD D A s.heap (setL is w' ws) H1 locs1) → W p l e R s m args below meth c H1 locs1 cells slots Q (F0 m (pc + 3) ls (.int r :: rest))) :
    W p l e R s m args below meth c H locs cells slots Q (F0 m pc ls (As.reverse ++ .ref b :: rest)) := by
  obtain ⟨hF, -, -, hK, hN, hA⟩ := id X
  have hFc := va_free (wc := wc) w.2.1 w.2.2 hA is hC
  obtain ⟨hPc, hDc⟩ := w.sub' is hn hC
  subst hCq
  refine va_calli (va_runV (As := As) (rest := rest) hF (hM H.size) cw ⟨cPre_blind, va_recv hK hPc hci hq0, fun U hU hW => ⟨rfl, cPre_at X w is hn hC U hU hW⟩⟩ rfl hlen hl rfl (lv_room hroom) hdg hcs) w.2.2 (fun q _ h => hFc q h) hFc (fun r u t H1 locs1 ht hvm hp hB hz1 hk1 hS => ?_)
  exact kk r u H1 locs1 hp (fun hf => w.back is hC hf hk1 (by rw [← ht]; exact hB.1) hS)
theorem x_callVv {post : va_W → Prop} {C : String} {ci : Nat} {fs : List Value} {q : vw_C} (X : CX p s m args meth c cc nL Ts own ret D cI cZ A) (w : WD D A s.heap ws H locs) (hl : ls.size = nL) (hM : MV l D cI cZ y wsy rm (.ref b :: As) wc 0 0 post) (cw : CallW R s args own C index y bytes maxL rty wsy rm 0 0 n)
    (is : List Nat) (hn : va_nd is = true) (hC : is.map (fun i => ws[i]?) = wc.map some) (q0 : Nat) (hq0 : wc[q0]? = some (b, .inr (ci, fs))) (hci : vwCl[ci]? = some q) (hCq : q.1 = C) (hlen : As.length = n) (hroom : (rest.map fun v => v.category).sum ≤ 8) (hdg : decode cc pc = .ok (.invokevirtual index, 3)) (hcs : cells ≤ R.cells ∧ slots ≤ R.slots)
    (kk : ∀ (w' : va_W) (H1 : Heap) (locs1 : List Loc), post w' → (w'.map Prod.fst = wc.map Prod.fst → WD D A s.heap (setL is w' ws) H1 locs1) → W p l e R s m args below meth c H1 locs1 cells slots Q (F0 m (pc + 3) ls rest)) :
    W p l e R s m args below meth c H locs cells slots Q (F0 m pc ls (As.reverse ++ .ref b :: rest)) := by
  obtain ⟨hF, -, -, hK, hN, hA⟩ := id X
  have hFc := va_free (wc := wc) w.2.1 w.2.2 hA is hC
  obtain ⟨hPc, hDc⟩ := w.sub' is hn hC
  subst hCq
  refine va_callv (va_runV (As := As) (rest := rest) hF (hM H.size) cw ⟨cPre_blind, va_recv hK hPc hci hq0, fun U hU hW => ⟨rfl, cPre_at X w is hn hC U hU hW⟩⟩ rfl hlen hl rfl (lv_room hroom) hdg hcs) w.2.2 (fun q _ h => hFc q h) hFc (fun u t H1 locs1 ht hvm hp hB hz1 hk1 hS => ?_)
  exact kk u H1 locs1 hp (fun hf => w.back is hC hf hk1 (by rw [← ht]; exact hB.1) hS)
/-- a call of a static method of the own class, or of a nest mate's -/
theorem x_callS {post : Int32 → va_W → Prop} (X : CX p s m args meth c cc nL Ts own ret D cI cZ A) (w : WD D A s.heap ws H locs) (hl : ls.size = nL) (hM : MI l D cI cZ y wsy rm As wc post) (cw : CallB R s args own index y bytes maxL rty wsy rm 0 0 n ∧ (Cond.static y).before args s = true)
    (is : List Nat) (hn : va_nd is = true) (hC : is.map (fun i => ws[i]?) = wc.map some) (hlen : As.length = n) (hroom : (rest.map fun v => v.category).sum ≤ 8) (hdg : decode cc pc = .ok (.invokestatic index, 3)) (hcs : cells ≤ R.cells ∧ slots ≤ R.slots)
    (kk : ∀ (r : Int32) (w' : va_W) (H1 : Heap) (locs1 : List Loc), post r w' → (w'.map Prod.fst = wc.map Prod.fst → WD D A s.heap (setL is w' ws) H1 locs1) → W p l e R s m args below meth c H1 locs1 cells slots Q (F0 m (pc + 3) ls (.int r :: rest))) :
    W p l e R s m args below meth c H locs cells slots Q (F0 m pc ls (As.reverse ++ rest)) := by
  obtain ⟨hF, -, -, hK, hN, hA⟩ := id X
  have hFc := va_free (wc := wc) w.2.1 w.2.2 hA is hC
  refine va_calli (va_runS (As := As) (rest := rest) hF (hM H.size) cw ⟨cPre_blind, fun U hU hW => ⟨rfl, cPre_at X w is hn hC U hU hW⟩⟩ rfl hlen hl rfl (lv_room hroom) hdg hcs) w.2.2 (fun q _ h => hFc q h) hFc (fun r u t H1 locs1 ht hvm hp hB hz1 hk1 hS => ?_)
  exact kk r u H1 locs1 hp (fun hf => w.back is hC hf hk1 (by rw [← ht]; exact hB.1) hS)
theorem x_callN {post : Int32 → va_W → Prop} {host : String} {wt : List Cond} (X : CX p s m args meth c cc nL Ts own ret D cI cZ A) (w : WD D A s.heap ws H locs) (hl : ls.size = nL) (hM : MI l D cI cZ y wsy rm As wc post) (hG : GoodIn Ts wsy) (hw : wsy = Cond.code y bytes maxL rty :: wt) (hrc : rm.cells = 0) (hrs : rm.slots = 0) (hnl : Cond.methodLinkNest own index y host ∈ nwl) (hini : Cond.initialized y.cls ∈ Ts) (hst : Cond.static y ∈ Ts)
    (hd : y.cls ≠ "java/lang/invoke/MethodHandle" ∧ y.cls ≠ "java/lang/invoke/VarHandle" ∧ (parseMethodDescriptor y.desc).map (fun d => d.parameters.length) = some n) (hR : rm.frames + 1 ≤ R.frames ∧ 8 + (maxL + 11) + rm.locals ≤ R.locals)
    (is : List Nat) (hn : va_nd is = true) (hC : is.map (fun i => ws[i]?) = wc.map some) (hlen : As.length = n) (hroom : (rest.map fun v => v.category).sum ≤ 8) (hdg : decode cc pc = .ok (.invokestatic index, 3)) (hcs : cells ≤ R.cells ∧ slots ≤ R.slots)
    (kk : ∀ (r : Int32) (w' : va_W) (H1 : Heap) (locs1 : List Loc), post r w' → (w'.map Prod.fst = wc.map Prod.fst → WD D A s.heap (setL is w' ws) H1 locs1) → W p l e R s m args below meth c H1 locs1 cells slots Q (F0 m (pc + 3) ls (.int r :: rest))) :
    W p l e R s m args below meth c H locs cells slots Q (F0 m pc ls (As.reverse ++ rest)) := by
  obtain ⟨hF, -, -, hK, hN, hA⟩ := id X
  have hFc := va_free (wc := wc) w.2.1 w.2.2 hA is hC
  refine va_calli (va_runSN (As := As) (rest := rest) hF (hM H.size) ⟨va_cnB n hF.2.2.2.2 hG hw hrc hrs (hN _ hnl) (hF.2.2.2.2 _ hini) hd hR, hF.2.2.2.2 _ hst, trivial⟩ ⟨cPre_blind, fun U hU hW => ⟨rfl, cPre_at X w is hn hC U hU hW⟩⟩ rfl hlen hl rfl (lv_room hroom) hdg hcs) w.2.2 (fun q _ h => hFc q h) hFc (fun r u t H1 locs1 ht hvm hp hB hz1 hk1 hS => ?_)
  exact kk r u H1 locs1 hp (fun hf => w.back is hC hf hk1 (by rw [← ht]; exact hB.1) hS)
/-- a loop: by a measure -/
theorem wl {α : Type} (μ : α → Nat) (I : α → Prop) (wsf : α → va_W) (lvf : α → List (Nat × Value)) {H0 : Heap}
    (step : ∀ a, I a → ∀ (H : Heap) (locs : List Loc) (ls : Array Slot), WD D A H0 (wsf a) H locs → lv_has ls nL (lvf a) →
      (∀ b, μ b < μ a → I b → ∀ (H : Heap) (locs : List Loc) (ls : Array Slot), WD D A H0 (wsf b) H locs → lv_has ls nL (lvf b) → W p l e R s m args below meth c H locs cells slots Q (F0 m pc ls [])) →
      W p l e R s m args below meth c H locs cells slots Q (F0 m pc ls [])) (a : α) (ha : I a) (H : Heap) (locs : List Loc) (ls : Array Slot) (hw : WD D A H0 (wsf a) H locs) (hl : lv_has ls nL (lvf a)) : W p l e R s m args below meth c H locs cells slots Q (F0 m pc ls []) := by
  have key : ∀ (n : Nat) (a : α), μ a < n → I a → ∀ (H : Heap) (locs : List Loc) (ls : Array Slot), WD D A H0 (wsf a) H locs → lv_has ls nL (lvf a) → W p l e R s m args below meth c H locs cells slots Q (F0 m pc ls []) := by
    intro n
    induction n with
    | zero => intro a h; exact absurd h (Nat.not_lt_zero _)
    | succ n ih =>
      intro a h hI H locs ls hw hl
      exact step a hI H locs ls hw hl (fun b hb hIb H locs ls hw hl => ih b (by omega) hIb H locs ls hw hl)
  exact key (μ a + 1) a (Nat.lt_succ_self _) ha H locs ls hw hl
/-- a place where roads meet -/
theorem wj {α : Type} (pc' : Nat) (I : α → Prop) (wsf : α → va_W) (lvf : α → List (Nat × Value)) (stf : α → List Value) {H0 : Heap} {g : JFrame}
    (h1 : (∀ a, I a → ∀ (H : Heap) (locs : List Loc) (ls : Array Slot), WD D A H0 (wsf a) H locs → lv_has ls nL (lvf a) → W p l e R s m args below meth c H locs cells slots Q (F0 m pc' ls (stf a))) → W p l e R s m args below meth c H locs cells slots Q g)
    (h2 : ∀ a, I a → ∀ (H : Heap) (locs : List Loc) (ls : Array Slot), WD D A H0 (wsf a) H locs → lv_has ls nL (lvf a) → W p l e R s m args below meth c H locs cells slots Q (F0 m pc' ls (stf a))) : W p l e R s m args below meth c H locs cells slots Q g := h1 h2
end B2
