/-! ===== AirSteps.Groups ===== -/
def wrp (n q : Nat) : Nat := if q < n then q else q - n
/-- how many groups from q on: fuel, q, what has moved, the fewest so far -/
def ndF (en ne : Nat → Nat) (n : Nat) : Nat → Nat → Nat → Nat → Nat
  | 0, _, _, _ => 1
  | f + 1, q, mo, fe => if mo &&& cyl (en (wrp n q)) = 0 then ndF en ne n f (q + 1) (mo ||| cyl (en (wrp n q))) (if q + 1 < n then min fe (ne (q + 1) + 1) else fe) else fe
theorem ndF_s (en ne : Nat → Nat) (n f q mo fe : Nat) : ndF en ne n (f + 1) q mo fe = if mo &&& cyl (en (wrp n q)) = 0 then ndF en ne n f (q + 1) (mo ||| cyl (en (wrp n q))) (if q + 1 < n then min fe (ne (q + 1) + 1) else fe) else fe := rfl
theorem ndF_le (en ne : Nat → Nat) (n : Nat) : ∀ (f q mo fe : Nat), fe ≤ 1000 → ndF en ne n f q mo fe ≤ 1000
  | 0, _, _, _, _ => by show 1 ≤ 1000; omega
  | f + 1, q, mo, fe, h => by
    rw [ndF_s]
    split
    · refine ndF_le en ne n f _ _ _ ?_
      split <;> omega
    · exact h
theorem ndF_ge (en ne : Nat → Nat) (n : Nat) : ∀ (f q mo fe : Nat), 1 ≤ fe → 1 ≤ ndF en ne n f q mo fe
  | 0, _, _, _, _ => by show 1 ≤ 1; omega
  | f + 1, q, mo, fe, h => by
    rw [ndF_s]
    split
    · refine ndF_ge en ne n f _ _ _ ?_
      split <;> omega
    · exact h
theorem ndF_congr {en ne ne' : Nat → Nat} {n : Nat} : ∀ (f q mo fe : Nat), (∀ k, q < k → k < n → ne k = ne' k) → ndF en ne n f q mo fe = ndF en ne' n f q mo fe
  | 0, _, _, _, _ => rfl
  | f + 1, q, mo, fe, h => by
    rw [ndF_s, ndF_s]
    split
    · rw [ndF_congr f (q + 1) _ _ (fun k h1 h2 => h k (by omega) h2)]
      by_cases hq : q + 1 < n
      · rw [if_pos hq, if_pos hq, h (q + 1) (by omega) hq]
      · rw [if_neg hq, if_neg hq]
    · rfl
abbrev ndP (en ne : Nat → Nat) (n f0 p : Nat) : Nat := ndF en ne n (n + f0 - p) p 0 1000
def ndT (en : Nat → Nat) (n f0 : Nat) : Nat → Nat → Nat
  | 0 => fun _ => 0
  | j + 1 => va_up (ndT en n f0 j) (n - 1 - j) (ndP en (ndT en n f0 j) n f0 (n - 1 - j))
def ndI (en : Nat → Nat) (n f0 : Nat) : Nat → Nat := ndT en n f0 n
theorem ndT_fix (en : Nat → Nat) (n f0 : Nat) : ∀ j, j ≤ n → ∀ p, n - j ≤ p → p < n → ndT en n f0 j p = ndP en (ndT en n f0 j) n f0 p
  | 0, _, p, h1, h2 => by omega
  | j + 1, hj, p, h1, h2 => by
    have hcg : ∀ q, n - 1 - j ≤ q → ndP en (ndT en n f0 (j + 1)) n f0 q = ndP en (ndT en n f0 j) n f0 q := by
      intro q hq
      refine ndF_congr _ _ _ _ (fun k hk1 hk2 => ?_)
      show va_up _ _ _ k = _
      unfold va_up
      rw [if_neg (by omega)]
    rw [hcg p (by omega)]
    show va_up _ _ _ p = _
    unfold va_up
    split
    · rename_i h
      rw [← h]
    · exact ndT_fix en n f0 j (by omega) p (by omega) h2
theorem ndI_fix (en : Nat → Nat) (n f0 : Nat) {p : Nat} (h : p < n) : ndI en n f0 p = ndP en (ndI en n f0) n f0 p := ndT_fix en n f0 n (Nat.le_refl n) p (by omega) h
theorem nd_uniq {en a b : Nat → Nat} {n f0 P : Nat} (ha : ∀ p, P ≤ p → p < n → a p = ndP en a n f0 p) (hb : ∀ p, P ≤ p → p < n → b p = ndP en b n f0 p) : ∀ (d p : Nat), P ≤ p → p < n → n - p ≤ d → a p = b p
  | 0, p, h1, h2, h3 => by omega
  | d + 1, p, h1, h2, h3 => by
    rw [ha p h1 h2, hb p h1 h2]
    exact ndF_congr _ _ _ _ (fun k hk1 hk2 => nd_uniq ha hb d k (by omega) hk2 (by omega))
theorem nd_back {en nf : Nat → Nat} {n f0 P : Nat} (hP : 1 ≤ P) (h : ∀ p, P ≤ p → p < n → nf p = ndP en nf n f0 p) : ∀ p, P - 1 ≤ p → p < n → va_up nf (P - 1) (ndP en nf n f0 (P - 1)) p = ndP en (va_up nf (P - 1) (ndP en nf n f0 (P - 1))) n f0 p := by
  intro p h1 h2
  have hcg : ndP en (va_up nf (P - 1) (ndP en nf n f0 (P - 1))) n f0 p = ndP en nf n f0 p := ndF_congr _ _ _ _ (fun k hk1 hk2 => by unfold va_up; rw [if_neg (by omega)])
  rw [hcg]
  unfold va_up
  split
  · rename_i h3
    rw [h3]
  · exact h p (by omega) h2
theorem up_le {nf : Nat → Nat} {B i v : Nat} (h : ∀ k, nf k ≤ B) (hv : v ≤ B) : ∀ k, va_up nf i v k ≤ B := fun k => by
  unfold va_up
  split
  · exact hv
  · exact h k
def bsS (en : Nat → Nat) (n i : Nat) (a : Nat × Nat) : Nat × Nat := if ndI en n i i < a.2 then (i, ndI en n i i) else a
def bsF (en : Nat → Nat) (n i : Nat) : Nat × Nat := fo (bsS en n) (0, 1000) i
theorem bsF_lt (en : Nat → Nat) (n : Nat) : ∀ i, 0 < i → (bsF en n i).1 < i
  | 0, h => absurd h (Nat.lt_irrefl 0)
  | 1, _ => by
    show (bsS en n 0 (0, 1000)).1 < 1
    unfold bsS
    split <;> exact Nat.one_pos
  | i + 2, _ => by
    have h := bsF_lt en n (i + 1) (by omega)
    show (bsS en n (i + 1) (bsF en n (i + 1))).1 < i + 2
    unfold bsS
    split
    · show i + 1 < i + 2
      omega
    · omega
theorem bsF_le (en : Nat → Nat) (n : Nat) : ∀ i, (bsF en n i).2 ≤ 1000
  | 0 => Nat.le_refl 1000
  | i + 1 => by
    have h := bsF_le en n i
    show (bsS en n i (bsF en n i)).2 ≤ 1000
    unfold bsS
    split
    · show ndI en n i i ≤ 1000
      omega
    · exact h
/-- the cuts, their number, the groups that are left -/
abbrev CS : Type := (Nat → Nat) × Nat × Nat
def clS (ne : Nat → Nat) (f0 j : Nat) (a : CS) : CS := if j = 0 ∨ ne (f0 + j) = a.2.2 - 1 then (va_up a.1 a.2.1 (f0 + j), a.2.1 + 1, ne (f0 + j)) else a
def clF (ne : Nat → Nat) (f0 : Nat) (cu : Nat → Nat) (j : Nat) : CS := fo (clS ne f0) (cu, 0, 1000) j
theorem clF_bd {ne : Nat → Nat} {f0 : Nat} {cu : Nat → Nat} (h : ∀ k, cu k < 16) : ∀ j, f0 + j ≤ 16 → (∀ k, (clF ne f0 cu j).1 k < 16) ∧ (clF ne f0 cu j).2.1 ≤ j ∧ (0 < j → 1 ≤ (clF ne f0 cu j).2.1)
  | 0, _ => ⟨h, Nat.le_refl 0, fun q => absurd q (Nat.lt_irrefl 0)⟩
  | j + 1, hj => by
    obtain ⟨h1, h2, h3⟩ := clF_bd (ne := ne) (f0 := f0) h j (by omega)
    show (∀ k, (clS ne f0 j (clF ne f0 cu j)).1 k < 16) ∧ (clS ne f0 j (clF ne f0 cu j)).2.1 ≤ j + 1 ∧ (0 < j + 1 → 1 ≤ (clS ne f0 j (clF ne f0 cu j)).2.1)
    unfold clS
    split
    · refine ⟨fun k => ?_, ?_, fun _ => ?_⟩
      · show va_up _ _ _ k < 16
        unfold va_up
        split
        · omega
        · exact h1 k
      · show _ + 1 ≤ j + 1
        omega
      · show 1 ≤ _ + 1
        omega
    · rename_i hx
      refine ⟨h1, by omega, fun _ => h3 ?_⟩
      rcases Nat.eq_zero_or_pos j with q | q
      · exact absurd (Or.inl q) hx
      · exact q
/-- what find leaves: the cuts of the first best start -/
def FD (en : Nat → Nat) (n : Nat) (cu9 : Nat → Nat) (sz9 : Nat) : Prop := ∃ nf cu0 : Nat → Nat, (∀ p, (bsF en n n).1 ≤ p → p < n → nf p = ndI en n (bsF en n n).1 p) ∧ cu9 = (clF nf (bsF en n n).1 cu0 (n - (bsF en n n).1)).1 ∧ sz9 = (clF nf (bsF en n n).1 cu0 (n - (bsF en n n).1)).2.1
def gcn (cu : Nat → Nat) (k i : Nat) : Nat := fo (fun i a => if cu i ≤ k then a + 1 else a) 0 i
def grp (cu : Nat → Nat) (sz k : Nat) : Nat := if gcn cu k sz = 0 then sz - 1 else gcn cu k sz - 1
theorem gcn_le (cu : Nat → Nat) (k : Nat) : ∀ i : Nat, gcn cu k i ≤ i
  | 0 => Nat.le_refl 0
  | i + 1 => by
    have h := gcn_le cu k i
    show (if cu i ≤ k then gcn cu k i + 1 else gcn cu k i) ≤ i + 1
    split <;> omega
theorem grp_le (cu : Nat → Nat) {sz : Nat} (k : Nat) : grp cu sz k ≤ sz := by
  have h := gcn_le cu k sz
  unfold grp
  split <;> omega
def isF (cu : Nat → Nat) (sz k : Nat) : Bool := decide (fs (fun i => decide (cu i = k)) sz < sz)
set_option maxHeartbeats 4000000 in
set_option maxRecDepth 100000 in
theorem c_X0_size (l : Launch) (D : va_G) (cI cZ : ClassId) (ga : Nat) (gc : Nat) (gn : Nat) (cu : Nat → Nat) (ne : Nat → Nat) (sz : Nat)  : MI l D cI cZ yX0_size wsX0_size ({ frames := 0, cells := 0, slots := 0, locals := 0 }) [.ref ga] [(ga, .inr (0, [.ref gc, .ref gn, .int (nI sz)])), (gc, .inl (cI, 16, .inl (iA cu))), (gn, .inl (cI, 16, .inl (iA ne)))] (fun r w => r = (nI sz) ∧ w = [(ga, .inr (0, [.ref gc, .ref gn, .int (nI sz)])), (gc, .inl (cI, 16, .inl (iA cu))), (gn, .inl (cI, 16, .inl (iA ne)))]) := by
  refine MI.of (cc := cX0_size) (maxL := 1) (ret := (some .int)) (own := RX0) (by decide) rfl rfl (Nat.le_of_ble_eq_true rfl) ?_
  intro pQ eQ s mQ args below meth cQ A X hw ls hl
  obtain ⟨⟨hx, hb, hml, hown, hts⟩, hr, hlk, hK, hN, hA⟩ := id X
  have hl : lv_has ls 1 [(0, .ref ga)] := hl
  have n0 : ∀ w ∈ wsX00, w ∈ wsX0_size := by decide +kernel
  have f18 : FF args s RX0 wsX0_size 18 0 2 := ⟨_, rfl, by decide, n0, hts (.fieldLink RX0 18 "AirSteps$Groups" "size" "I") (by decide +kernel)⟩
  refine lv_aload_n hx hb dX0_size_0 rfl (lv_at hl 0 rfl) ?_
  refine x_get X hw f18 0 rfl rfl dX0_size_1 ?_
  exact x_iret X hw (⟨(by first | rfl | omega), rfl⟩) dX0_size_4
set_option maxHeartbeats 4000000 in
set_option maxRecDepth 100000 in
theorem c_X0_cutAt (l : Launch) (D : va_G) (cI cZ : ClassId) (ga : Nat) (gc : Nat) (gn : Nat) (cu : Nat → Nat) (ne : Nat → Nat) (sz : Nat) (k : Nat) (hsz : sz ≤ 16) (hk : k < sz) : MI l D cI cZ yX0_cutAt wsX0_cutAt ({ frames := 1, cells := 0, slots := 0, locals := 21 }) [.ref ga, .int (nI k)] [(ga, .inr (0, [.ref gc, .ref gn, .int (nI sz)])), (gc, .inl (cI, 16, .inl (iA cu))), (gn, .inl (cI, 16, .inl (iA ne)))] (fun r w => r = (nI (cu k)) ∧ w = [(ga, .inr (0, [.ref gc, .ref gn, .int (nI sz)])), (gc, .inl (cI, 16, .inl (iA cu))), (gn, .inl (cI, 16, .inl (iA ne)))]) := by
  refine MI.of (cc := cX0_cutAt) (maxL := 2) (ret := (some .int)) (own := RX0) (by decide) rfl rfl (Nat.le_of_ble_eq_true rfl) ?_
  intro pQ eQ s mQ args below meth cQ A X hw ls hl
  obtain ⟨⟨hx, hb, hml, hown, hts⟩, hr, hlk, hK, hN, hA⟩ := id X
  have hl : lv_has ls 2 [(0, .ref ga), (1, .int (nI k))] := hl
  have n0 : ∀ w ∈ wsX00, w ∈ wsX0_cutAt := by decide +kernel
  have f9 : FF args s RX0 wsX0_cutAt 9 0 0 := ⟨_, rfl, by decide, n0, hts (.fieldLink RX0 9 "AirSteps$Groups" "cuts" "[I") (by decide +kernel)⟩
  have f18 : FF args s RX0 wsX0_cutAt 18 0 2 := ⟨_, rfl, by decide, n0, hts (.fieldLink RX0 18 "AirSteps$Groups" "size" "I") (by decide +kernel)⟩
  refine lv_iload_n hx hb dX0_cutAt_0 rfl (lv_at hl 1 rfl) ?_
  refine lv_aload_n hx hb dX0_cutAt_1 rfl (lv_at hl 0 rfl) ?_
  refine x_get X hw f18 0 rfl rfl dX0_cutAt_2 ?_
  refine x_callN (As := [.int (nI k), .int (nI sz)]) (rest := []) (host := RX5) (n := 2) X hw hl.1 (c_X5_isBelow l D cI cZ (nI k) (nI sz) ) gX0_cutAt_X5_isBelow_n22 rfl rfl rfl (List.mem_of_getElem? (i := 7) rfl) (by decide +kernel) (by decide +kernel) (by decide +kernel) ⟨Nat.le_of_ble_eq_true rfl, Nat.le_of_ble_eq_true rfl⟩ [] rfl rfl rfl (Nat.le_of_ble_eq_true rfl) dX0_cutAt_5 (by decide) (fun r w1 H locs hp hw1 => ?_)
  obtain ⟨rfl, rfl⟩ := hp
  have hw : WD D A s.heap [(ga, .inr (0, [.ref gc, .ref gn, .int (nI sz)])), (gc, .inl (cI, 16, .inl (iA cu))), (gn, .inl (cI, 16, .inl (iA ne)))] H locs := hw1 rfl
  refine lv_if_eq (tgt := 20) hx hb dX0_cutAt_8 (by decide) (fun c_8 => ?_) (fun c_8 => ?_)
  · skip
    rw [q_b0] at c_8; try simp only [Bool.not_eq_false, Bool.not_eq_true] at c_8
    rw [bel_nI (by omega) (by omega)] at c_8; simp at c_8; omega
  · skip
    rw [q_b0] at c_8; try simp only [Bool.not_eq_false, Bool.not_eq_true] at c_8
    refine lv_aload_n hx hb dX0_cutAt_11 rfl (lv_at hl 0 rfl) ?_
    refine x_get X hw f9 0 rfl rfl dX0_cutAt_12 ?_
    refine lv_iload_n hx hb dX0_cutAt_15 rfl (lv_at hl 1 rfl) ?_
    refine x_aldN X hw 1 rfl (by omega) (by omega) dX0_cutAt_16 ?_
    refine lv_goto (tgt := 21) hx hb dX0_cutAt_17 (by decide) ?_
    exact x_iret X hw (⟨(by first | rfl | omega | (simp [c_8]; done) | (simp_all; done)), rfl⟩) dX0_cutAt_21
set_option maxHeartbeats 4000000 in
set_option maxRecDepth 100000 in
theorem c_X0_need (l : Launch) (D : va_G) (cI cZ : ClassId) (ga : Nat) (gc : Nat) (gn : Nat) (cu : Nat → Nat) (ne : Nat → Nat) (sz : Nat) (t : Nat) (te : Nat) (ts : Nat) (en : Nat → Nat) (st : Nat → Nat) (n : Nat) (f0 : Nat) (p0 : Nat) (hn : n ≤ 16) (hen : ∀ k, en k < 4096) (hst : ∀ k, st k < 64) (hne : ∀ k, ne k ≤ 1000) (hf0 : f0 < n) (hp0 : p0 < n) (hfp : f0 ≤ p0) : MI l D cI cZ yX0_need wsX0_need ({ frames := 2, cells := 0, slots := 0, locals := 42 }) [.ref ga, .ref t, .int (nI f0), .int (nI p0)] [(ga, .inr (0, [.ref gc, .ref gn, .int (nI sz)])), (gc, .inl (cI, 16, .inl (iA cu))), (gn, .inl (cI, 16, .inl (iA ne))), (t, .inr (3, [.ref te, .ref ts, .int (nI n)])), (te, .inl (cI, 16, .inl (iA en))), (ts, .inl (cI, 17, .inl (iA st)))] (fun r w => r = (nI (ndP en ne n f0 p0)) ∧ w = [(ga, .inr (0, [.ref gc, .ref gn, .int (nI sz)])), (gc, .inl (cI, 16, .inl (iA cu))), (gn, .inl (cI, 16, .inl (iA ne))), (t, .inr (3, [.ref te, .ref ts, .int (nI n)])), (te, .inl (cI, 16, .inl (iA en))), (ts, .inl (cI, 17, .inl (iA st)))]) := by
  refine MI.of (cc := cX0_need) (maxL := 9) (ret := (some .int)) (own := RX0) (by decide) rfl rfl (Nat.le_of_ble_eq_true rfl) ?_
  intro pQ eQ s mQ args below meth cQ A X hw ls hl
  obtain ⟨⟨hx, hb, hml, hown, hts⟩, hr, hlk, hK, hN, hA⟩ := id X
  have hl : lv_has ls 9 [(0, .ref ga), (1, .ref t), (2, .int (nI f0)), (3, .int (nI p0))] := hl
  have n0 : ∀ w ∈ wsX00, w ∈ wsX0_need := by decide +kernel
  have f15 : FF args s RX0 wsX0_need 15 0 1 := ⟨_, rfl, by decide, n0, hts (.fieldLink RX0 15 "AirSteps$Groups" "needs" "[I") (by decide +kernel)⟩
  refine lv_aload_n hx hb dX0_need_0 rfl (lv_at hl 1 rfl) ?_
  refine x_callV (As := []) (rest := []) X hw hl.1 (c_X3_size l D cI cZ t te ts en st n ) (cwV 0 hts gX0_need_X3_size rfl rfl rfl (by decide +kernel) ⟨Nat.le_of_ble_eq_true rfl, Nat.le_of_ble_eq_true rfl⟩) [3, 4, 5] rfl rfl 0 rfl rfl rfl rfl (Nat.le_of_ble_eq_true rfl) dX0_need_1 (by decide) (fun r w1 H locs hp hw1 => ?_)
  obtain ⟨rfl, rfl⟩ := hp
  have hw : WD D A s.heap [(ga, .inr (0, [.ref gc, .ref gn, .int (nI sz)])), (gc, .inl (cI, 16, .inl (iA cu))), (gn, .inl (cI, 16, .inl (iA ne))), (t, .inr (3, [.ref te, .ref ts, .int (nI n)])), (te, .inl (cI, 16, .inl (iA en))), (ts, .inl (cI, 17, .inl (iA st)))] H locs := hw1 rfl
  refine lv_istore (lv' := [(4, .int (nI n)), (0, .ref ga), (1, .ref t), (2, .int (nI f0)), (3, .int (nI p0))]) hx hb dX0_need_4 hl (by decide) rfl (fun ls hl => ?_)
  refine lv_sipush (v := nI 1000) hx hb dX0_need_6 (by decide) ?_
  refine lv_istore (lv' := [(5, .int (nI 1000)), (4, .int (nI n)), (0, .ref ga), (1, .ref t), (2, .int (nI f0)), (3, .int (nI p0))]) hx hb dX0_need_9 hl (by decide) rfl (fun ls hl => ?_)
  refine lv_iconst (v := nI 0) hx hb dX0_need_11 (by decide) ?_
  refine lv_istore (lv' := [(6, .int (nI 0)), (5, .int (nI 1000)), (4, .int (nI n)), (0, .ref ga), (1, .ref t), (2, .int (nI f0)), (3, .int (nI p0))]) hx hb dX0_need_12 hl (by decide) rfl (fun ls hl => ?_)
  refine lv_iload_n hx hb dX0_need_14 rfl (lv_at hl 6 rfl) ?_
  refine lv_istore (lv' := [(7, .int (nI p0)), (6, .int (nI 0)), (5, .int (nI 1000)), (4, .int (nI n)), (0, .ref ga), (1, .ref t), (2, .int (nI f0)), (3, .int (nI p0))]) hx hb dX0_need_15 hl (by decide) rfl (fun ls hl => ?_)
  refine wl (α := Nat × Nat × Nat) (nL := 9) (fun aQ => n + f0 - aQ.2.2) (fun aQ => (p0 ≤ aQ.2.2) ∧ (aQ.2.2 ≤ n + f0) ∧ (aQ.2.1 < 64) ∧ (aQ.1 ≤ 1000) ∧ (ndP en ne n f0 p0 = ndF en ne n (n + f0 - aQ.2.2) aQ.2.2 aQ.2.1 aQ.1)) (fun aQ => [(ga, .inr (0, [.ref gc, .ref gn, .int (nI sz)])), (gc, .inl (cI, 16, .inl (iA cu))), (gn, .inl (cI, 16, .inl (iA ne))), (t, .inr (3, [.ref te, .ref ts, .int (nI n)])), (te, .inl (cI, 16, .inl (iA en))), (ts, .inl (cI, 17, .inl (iA st)))]) (fun aQ => [(7, .int (nI aQ.2.2)), (6, .int (nI aQ.2.1)), (5, .int (nI aQ.1)), (4, .int (nI n)), (0, .ref ga), (1, .ref t), (2, .int (nI f0)), (3, .int (nI p0))]) ?_ (1000, 0, p0) ⟨(show p0 ≤ p0 from by omega), (show p0 ≤ n + f0 from by omega), (show 0 < 64 from by omega), (show 1000 ≤ 1000 from by omega), (show ndP en ne n f0 p0 = ndF en ne n (n + f0 - p0) p0 0 1000 from rfl)⟩ _ _ _ hw (lv_sub hl [0, 1, 2, 3, 4, 5, 6, 7] rfl)
  rintro ⟨fe, mo, q⟩ ⟨hq1, hq2, hmo, hfe, hR⟩ H locs ls hw hl ih_17
  have hq1 : p0 ≤ q := hq1
  have hq2 : q ≤ n + f0 := hq2
  have hmo : mo < 64 := hmo
  have hfe : fe ≤ 1000 := hfe
  have hR : ndP en ne n f0 p0 = ndF en ne n (n + f0 - q) q mo fe := hR
  have hw : WD D A s.heap [(ga, .inr (0, [.ref gc, .ref gn, .int (nI sz)])), (gc, .inl (cI, 16, .inl (iA cu))), (gn, .inl (cI, 16, .inl (iA ne))), (t, .inr (3, [.ref te, .ref ts, .int (nI n)])), (te, .inl (cI, 16, .inl (iA en))), (ts, .inl (cI, 17, .inl (iA st)))] H locs := hw
  have hl : lv_has ls 9 [(7, .int (nI q)), (6, .int (nI mo)), (5, .int (nI fe)), (4, .int (nI n)), (0, .ref ga), (1, .ref t), (2, .int (nI f0)), (3, .int (nI p0))] := hl
  refine lv_iload hx hb dX0_need_17 (lv_at hl 0 rfl) ?_
  refine lv_iload hx hb dX0_need_19 (lv_at hl 3 rfl) ?_
  refine lv_iload_n hx hb dX0_need_21 rfl (lv_at hl 6 rfl) ?_
  refine lv_iadd hx hb dX0_need_22 ?_
  refine cv_i (show nI n + nI f0 = nI (n + f0) from nI_add n f0) ?_
  refine lv_icmp_ge (tgt := 103) hx hb dX0_need_23 (by decide) (fun c_23 => ?_) (fun c_23 => ?_)
  · skip
    rw [nI_leI (by omega) (by omega)] at c_23
    refine lv_iconst (v := nI 1) hx hb dX0_need_103 (by decide) ?_
    exact x_iret X hw (⟨(congrArg nI (by rw [hR, show n + f0 - q = 0 by omega]; rfl)), rfl⟩) dX0_need_104
  · skip
    rw [nI_leI (by omega) (by omega)] at c_23
    refine wj (α := Nat) (nL := 9) 44 (fun aQ => (aQ = wrp n q)) (fun aQ => [(ga, .inr (0, [.ref gc, .ref gn, .int (nI sz)])), (gc, .inl (cI, 16, .inl (iA cu))), (gn, .inl (cI, 16, .inl (iA ne))), (t, .inr (3, [.ref te, .ref ts, .int (nI n)])), (te, .inl (cI, 16, .inl (iA en))), (ts, .inl (cI, 17, .inl (iA st)))]) (fun aQ => [(7, .int (nI q)), (6, .int (nI mo)), (5, .int (nI fe)), (4, .int (nI n)), (0, .ref ga), (1, .ref t), (2, .int (nI f0)), (3, .int (nI p0))]) (fun aQ => [.int (nI aQ), .ref t]) (D := D) (A := A) (H0 := s.heap) (fun J44 => ?_) ?_
    · skip
      refine lv_aload_n hx hb dX0_need_26 rfl (lv_at hl 5 rfl) ?_
      refine lv_iload hx hb dX0_need_27 (lv_at hl 0 rfl) ?_
      refine lv_iload hx hb dX0_need_29 (lv_at hl 3 rfl) ?_
      refine lv_icmp_ge (tgt := 39) hx hb dX0_need_31 (by decide) (fun c_31 => ?_) (fun c_31 => ?_)
      · skip
        rw [nI_leI (by omega) (by omega)] at c_31
        refine lv_iload hx hb dX0_need_39 (lv_at hl 0 rfl) ?_
        refine lv_iload hx hb dX0_need_41 (lv_at hl 3 rfl) ?_
        refine lv_isub hx hb dX0_need_43 ?_
        refine cv_i (show nI q - nI n = nI (q - n) from pk_sub (by first | omega | assumption)) ?_
        exact J44 (q - n) (show (q - n) = wrp n q from by unfold wrp; split <;> omega) _ _ _ hw (lv_sub hl [0, 1, 2, 3, 4, 5, 6, 7] rfl)
      · skip
        rw [nI_leI (by omega) (by omega)] at c_31
        refine lv_iload hx hb dX0_need_34 (lv_at hl 0 rfl) ?_
        refine lv_goto (tgt := 44) hx hb dX0_need_36 (by decide) ?_
        exact J44 q (show q = wrp n q from by unfold wrp; split <;> omega) _ _ _ hw (lv_sub hl [0, 1, 2, 3, 4, 5, 6, 7] rfl)
    · rintro v hv H locs ls hw hl
      have hv : v = wrp n q := hv
      have hw : WD D A s.heap [(ga, .inr (0, [.ref gc, .ref gn, .int (nI sz)])), (gc, .inl (cI, 16, .inl (iA cu))), (gn, .inl (cI, 16, .inl (iA ne))), (t, .inr (3, [.ref te, .ref ts, .int (nI n)])), (te, .inl (cI, 16, .inl (iA en))), (ts, .inl (cI, 17, .inl (iA st)))] H locs := hw
      have hl : lv_has ls 9 [(7, .int (nI q)), (6, .int (nI mo)), (5, .int (nI fe)), (4, .int (nI n)), (0, .ref ga), (1, .ref t), (2, .int (nI f0)), (3, .int (nI p0))] := hl
      have hvn : v < n := by rw [hv]; unfold wrp; split <;> omega
      have hcy := cyl_lt (hen v)
      refine x_callV (As := [.int (nI v)]) (rest := []) X hw hl.1 (c_X3_endsOf l D cI cZ t te ts en st n v (by first | assumption | omega) (by first | assumption | omega) (by first | assumption | omega) (by first | assumption | omega)) (cwV 1 hts gX0_need_X3_endsOf rfl rfl rfl (by decide +kernel) ⟨Nat.le_of_ble_eq_true rfl, Nat.le_of_ble_eq_true rfl⟩) [3, 4, 5] rfl rfl 0 rfl rfl rfl rfl (Nat.le_of_ble_eq_true rfl) dX0_need_44 (by decide) (fun r w1 H locs hp hw1 => ?_)
      obtain ⟨rfl, rfl⟩ := hp
      have hw : WD D A s.heap [(ga, .inr (0, [.ref gc, .ref gn, .int (nI sz)])), (gc, .inl (cI, 16, .inl (iA cu))), (gn, .inl (cI, 16, .inl (iA ne))), (t, .inr (3, [.ref te, .ref ts, .int (nI n)])), (te, .inl (cI, 16, .inl (iA en))), (ts, .inl (cI, 17, .inl (iA st)))] H locs := hw1 rfl
      have he9 := hen v
      refine x_callN (As := [.int (nI (en v))]) (rest := []) (host := RX5) (n := 1) X hw hl.1 (c_X5_cylindersOf l D cI cZ (en v) (by first | assumption | omega)) gX0_need_X5_cylindersOf_n47 rfl rfl rfl (List.mem_of_getElem? (i := 6) rfl) (by decide +kernel) (by decide +kernel) (by decide +kernel) ⟨Nat.le_of_ble_eq_true rfl, Nat.le_of_ble_eq_true rfl⟩ [] rfl rfl rfl (Nat.le_of_ble_eq_true rfl) dX0_need_47 (by decide) (fun r w1 H locs hp hw1 => ?_)
      obtain ⟨rfl, rfl⟩ := hp
      have hw : WD D A s.heap [(ga, .inr (0, [.ref gc, .ref gn, .int (nI sz)])), (gc, .inl (cI, 16, .inl (iA cu))), (gn, .inl (cI, 16, .inl (iA ne))), (t, .inr (3, [.ref te, .ref ts, .int (nI n)])), (te, .inl (cI, 16, .inl (iA en))), (ts, .inl (cI, 17, .inl (iA st)))] H locs := hw1 rfl
      refine lv_istore (lv' := [(8, .int (nI (cyl (en v)))), (7, .int (nI q)), (6, .int (nI mo)), (5, .int (nI fe)), (4, .int (nI n)), (0, .ref ga), (1, .ref t), (2, .int (nI f0)), (3, .int (nI p0))]) hx hb dX0_need_50 hl (by decide) rfl (fun ls hl => ?_)
      refine lv_iload hx hb dX0_need_52 (lv_at hl 2 rfl) ?_
      refine lv_iload hx hb dX0_need_54 (lv_at hl 0 rfl) ?_
      refine lv_iand hx hb dX0_need_56 ?_
      refine cv_i (show nI mo &&& nI (cyl (en v)) = nI (mo &&& (cyl (en v))) from q_and mo (cyl (en v))) ?_
      refine lv_if_eq (tgt := 63) hx hb dX0_need_57 (by decide) (fun c_57 => ?_) (fun c_57 => ?_)
      · skip
        rw [q_eq0 (Nat.lt_of_le_of_lt Nat.and_le_left (by omega))] at c_57
        refine lv_iload hx hb dX0_need_63 (lv_at hl 2 rfl) ?_
        refine lv_iload hx hb dX0_need_65 (lv_at hl 0 rfl) ?_
        refine lv_ior hx hb dX0_need_67 ?_
        refine cv_i (show nI mo ||| nI (cyl (en v)) = nI (mo ||| (cyl (en v))) from q_or mo (cyl (en v))) ?_
        refine lv_istore (lv' := [(6, .int (nI (mo ||| (cyl (en v))))), (8, .int (nI (cyl (en v)))), (7, .int (nI q)), (5, .int (nI fe)), (4, .int (nI n)), (0, .ref ga), (1, .ref t), (2, .int (nI f0)), (3, .int (nI p0))]) hx hb dX0_need_68 hl (by decide) rfl (fun ls hl => ?_)
        refine lv_iload hx hb dX0_need_70 (lv_at hl 2 rfl) ?_
        refine lv_iconst (v := nI 1) hx hb dX0_need_72 (by decide) ?_
        refine lv_iadd hx hb dX0_need_73 ?_
        refine cv_i (show nI q + nI 1 = nI (q + 1) from nI_add q 1) ?_
        refine lv_iload hx hb dX0_need_74 (lv_at hl 4 rfl) ?_
        refine lv_icmp_ge (tgt := 97) hx hb dX0_need_76 (by decide) (fun c_76 => ?_) (fun c_76 => ?_)
        · skip
          rw [nI_leI (by omega) (by omega)] at c_76
          refine lv_iinc (v := nI (q + 1)) (lv' := [(7, .int (nI (q + 1))), (6, .int (nI (mo ||| (cyl (en v))))), (8, .int (nI (cyl (en v)))), (5, .int (nI fe)), (4, .int (nI n)), (0, .ref ga), (1, .ref t), (2, .int (nI f0)), (3, .int (nI p0))]) hx hb dX0_need_97 hl (k := 2) rfl (nI_add q 1) (by decide) rfl (fun ls hl => ?_)
          refine lv_goto (tgt := 17) hx hb dX0_need_100 (by decide) ?_
          exact ih_17 (fe, mo ||| (cyl (en v)), q + 1) (by show n + f0 - (q + 1) < n + f0 - q; omega) ⟨(show p0 ≤ (q + 1) from by omega), (show (q + 1) ≤ n + f0 from by omega), (show (mo ||| (cyl (en v))) < 64 from Nat.or_lt_two_pow (n := 6) hmo hcy), (show fe ≤ 1000 from by omega), (show ndP en ne n f0 p0 = ndF en ne n (n + f0 - (q + 1)) (q + 1) (mo ||| (cyl (en v))) fe from by rw [hR, show n + f0 - q = n + f0 - (q + 1) + 1 by omega, ndF_s, ← hv, if_pos c_57]; first | (rw [if_neg (show ¬ q + 1 < n by omega)]; done) | (rw [if_pos (show q + 1 < n by omega)]; done))⟩ _ _ _ hw (lv_sub hl [0, 1, 3, 4, 5, 6, 7, 8] rfl)
        · skip
          rw [nI_leI (by omega) (by omega)] at c_76
          refine lv_iload hx hb dX0_need_79 (lv_at hl 3 rfl) ?_
          refine lv_aload_n hx hb dX0_need_81 rfl (lv_at hl 5 rfl) ?_
          refine x_get X hw f15 0 rfl rfl dX0_need_82 ?_
          refine lv_iload hx hb dX0_need_85 (lv_at hl 2 rfl) ?_
          refine lv_iconst (v := nI 1) hx hb dX0_need_87 (by decide) ?_
          refine lv_iadd hx hb dX0_need_88 ?_
          refine cv_i (show nI q + nI 1 = nI (q + 1) from nI_add q 1) ?_
          refine x_aldN X hw 2 rfl (by omega) (by omega) dX0_need_89 ?_
          have hb_89 := hne (q + 1)
          refine lv_iconst (v := nI 1) hx hb dX0_need_90 (by decide) ?_
          refine lv_iadd hx hb dX0_need_91 ?_
          refine cv_i (show nI (ne (q + 1)) + nI 1 = nI ((ne (q + 1)) + 1) from nI_add (ne (q + 1)) 1) ?_
          refine va_mmin hx hb (by rw [hml]; exact hl.1.symm) hown (hts (.methodLink RX0 50 Lib.Math.min.name) (by decide +kernel)) (hts (.static Lib.Math.min.name) (by decide +kernel)) (hts (.initialized "java/lang/Math") (by decide +kernel)) (hts (.code Lib.Math.min.name Lib.Math.min.code 2 (some .int)) (by decide +kernel)) (by decide) (by decide) (by decide) (by decide) dX0_need_92 ?_
          refine cv_i (show (if nI ((ne (q + 1)) + 1) < nI fe then nI ((ne (q + 1)) + 1) else nI fe) = nI (min fe ((ne (q + 1)) + 1)) from q_min (by omega) (by omega)) ?_
          refine lv_istore (lv' := [(5, .int (nI (min fe ((ne (q + 1)) + 1)))), (6, .int (nI (mo ||| (cyl (en v))))), (8, .int (nI (cyl (en v)))), (7, .int (nI q)), (4, .int (nI n)), (0, .ref ga), (1, .ref t), (2, .int (nI f0)), (3, .int (nI p0))]) hx hb dX0_need_95 hl (by decide) rfl (fun ls hl => ?_)
          refine lv_iinc (v := nI (q + 1)) (lv' := [(7, .int (nI (q + 1))), (5, .int (nI (min fe ((ne (q + 1)) + 1)))), (6, .int (nI (mo ||| (cyl (en v))))), (8, .int (nI (cyl (en v)))), (4, .int (nI n)), (0, .ref ga), (1, .ref t), (2, .int (nI f0)), (3, .int (nI p0))]) hx hb dX0_need_97 hl (k := 3) rfl (nI_add q 1) (by decide) rfl (fun ls hl => ?_)
          refine lv_goto (tgt := 17) hx hb dX0_need_100 (by decide) ?_
          exact ih_17 (min fe ((ne (q + 1)) + 1), mo ||| (cyl (en v)), q + 1) (by show n + f0 - (q + 1) < n + f0 - q; omega) ⟨(show p0 ≤ (q + 1) from by omega), (show (q + 1) ≤ n + f0 from by omega), (show (mo ||| (cyl (en v))) < 64 from Nat.or_lt_two_pow (n := 6) hmo hcy), (show (min fe ((ne (q + 1)) + 1)) ≤ 1000 from by omega), (show ndP en ne n f0 p0 = ndF en ne n (n + f0 - (q + 1)) (q + 1) (mo ||| (cyl (en v))) (min fe ((ne (q + 1)) + 1)) from by rw [hR, show n + f0 - q = n + f0 - (q + 1) + 1 by omega, ndF_s, ← hv, if_pos c_57]; first | (rw [if_neg (show ¬ q + 1 < n by omega)]; done) | (rw [if_pos (show q + 1 < n by omega)]; done))⟩ _ _ _ hw (lv_sub hl [0, 2, 1, 4, 5, 6, 7, 8] rfl)
      · skip
        rw [q_eq0 (Nat.lt_of_le_of_lt Nat.and_le_left (by omega))] at c_57
        refine lv_iload hx hb dX0_need_60 (lv_at hl 3 rfl) ?_
        exact x_iret X hw (⟨(congrArg nI (by rw [hR, show n + f0 - q = n + f0 - (q + 1) + 1 by omega, ndF_s, ← hv, if_neg c_57])), rfl⟩) dX0_need_62
set_option maxHeartbeats 4000000 in
set_option maxRecDepth 100000 in
theorem c_X0_needsFrom (l : Launch) (D : va_G) (cI cZ : ClassId) (ga : Nat) (gc : Nat) (gn : Nat) (cu : Nat → Nat) (ne : Nat → Nat) (sz : Nat) (t : Nat) (te : Nat) (ts : Nat) (en : Nat → Nat) (st : Nat → Nat) (n : Nat) (f0 : Nat) (hn : n ≤ 16) (hen : ∀ k, en k < 4096) (hst : ∀ k, st k < 64) (hne : ∀ k, ne k ≤ 1000) (hf0 : f0 < n) : MI l D cI cZ yX0_needsFrom wsX0_needsFrom ({ frames := 3, cells := 0, slots := 0, locals := 70 }) [.ref ga, .ref t, .int (nI f0)] [(ga, .inr (0, [.ref gc, .ref gn, .int (nI sz)])), (gc, .inl (cI, 16, .inl (iA cu))), (gn, .inl (cI, 16, .inl (iA ne))), (t, .inr (3, [.ref te, .ref ts, .int (nI n)])), (te, .inl (cI, 16, .inl (iA en))), (ts, .inl (cI, 17, .inl (iA st)))] (fun r w => ∃ nf : Nat → Nat, (∀ p, f0 ≤ p → p < n → nf p = ndI en n f0 p) ∧ (∀ k, nf k ≤ 1000) ∧ r = (nI (ndI en n f0 f0)) ∧ w = [(ga, .inr (0, [.ref gc, .ref gn, .int (nI sz)])), (gc, .inl (cI, 16, .inl (iA cu))), (gn, .inl (cI, 16, .inl (iA nf))), (t, .inr (3, [.ref te, .ref ts, .int (nI n)])), (te, .inl (cI, 16, .inl (iA en))), (ts, .inl (cI, 17, .inl (iA st)))]) := by
  refine MI.of (cc := cX0_needsFrom) (maxL := 4) (ret := (some .int)) (own := RX0) (by decide) rfl rfl (Nat.le_of_ble_eq_true rfl) ?_
  intro pQ eQ s mQ args below meth cQ A X hw ls hl
  obtain ⟨⟨hx, hb, hml, hown, hts⟩, hr, hlk, hK, hN, hA⟩ := id X
  have hl : lv_has ls 4 [(0, .ref ga), (1, .ref t), (2, .int (nI f0))] := hl
  have n0 : ∀ w ∈ wsX00, w ∈ wsX0_needsFrom := by decide +kernel
  have f15 : FF args s RX0 wsX0_needsFrom 15 0 1 := ⟨_, rfl, by decide, n0, hts (.fieldLink RX0 15 "AirSteps$Groups" "needs" "[I") (by decide +kernel)⟩
  refine lv_aload_n hx hb dX0_needsFrom_0 rfl (lv_at hl 1 rfl) ?_
  refine x_callV (As := []) (rest := []) X hw hl.1 (c_X3_size l D cI cZ t te ts en st n ) (cwV 0 hts gX0_needsFrom_X3_size rfl rfl rfl (by decide +kernel) ⟨Nat.le_of_ble_eq_true rfl, Nat.le_of_ble_eq_true rfl⟩) [3, 4, 5] rfl rfl 0 rfl rfl rfl rfl (Nat.le_of_ble_eq_true rfl) dX0_needsFrom_1 (by decide) (fun r w1 H locs hp hw1 => ?_)
  obtain ⟨rfl, rfl⟩ := hp
  have hw : WD D A s.heap [(ga, .inr (0, [.ref gc, .ref gn, .int (nI sz)])), (gc, .inl (cI, 16, .inl (iA cu))), (gn, .inl (cI, 16, .inl (iA ne))), (t, .inr (3, [.ref te, .ref ts, .int (nI n)])), (te, .inl (cI, 16, .inl (iA en))), (ts, .inl (cI, 17, .inl (iA st)))] H locs := hw1 rfl
  refine lv_iconst (v := nI 1) hx hb dX0_needsFrom_4 (by decide) ?_
  refine lv_isub hx hb dX0_needsFrom_5 ?_
  refine cv_i (show nI n - nI 1 = mI n from rfl) ?_
  refine lv_istore_n (lv' := [(3, .int (mI n)), (0, .ref ga), (1, .ref t), (2, .int (nI f0))]) hx hb dX0_needsFrom_6 rfl hl (by decide) rfl (fun ls hl => ?_)
  refine wl (α := (Nat → Nat) × Nat) (nL := 4) (fun aQ => aQ.2) (fun aQ => (f0 ≤ aQ.2) ∧ (aQ.2 ≤ n) ∧ (∀ p, aQ.2 ≤ p → p < n → aQ.1 p = ndP en aQ.1 n f0 p) ∧ (∀ k, aQ.1 k ≤ 1000)) (fun aQ => [(ga, .inr (0, [.ref gc, .ref gn, .int (nI sz)])), (gc, .inl (cI, 16, .inl (iA cu))), (gn, .inl (cI, 16, .inl (iA aQ.1))), (t, .inr (3, [.ref te, .ref ts, .int (nI n)])), (te, .inl (cI, 16, .inl (iA en))), (ts, .inl (cI, 17, .inl (iA st)))]) (fun aQ => [(3, .int (mI aQ.2)), (0, .ref ga), (1, .ref t), (2, .int (nI f0))]) ?_ (ne, n) ⟨(show f0 ≤ n from by omega), (show n ≤ n from by omega), (show ∀ p, n ≤ p → p < n → ne p = ndP en ne n f0 p from fun p h1 h2 => by omega), (show ∀ k, ne k ≤ 1000 from hne)⟩ _ _ _ hw (lv_sub hl [0, 1, 2, 3] rfl)
  rintro ⟨nf, P⟩ ⟨hP1, hP2, hnf, hnl⟩ H locs ls hw hl ih_7
  have hP1 : f0 ≤ P := hP1
  have hP2 : P ≤ n := hP2
  have hnf : ∀ p, P ≤ p → p < n → nf p = ndP en nf n f0 p := hnf
  have hnl : ∀ k, nf k ≤ 1000 := hnl
  have hw : WD D A s.heap [(ga, .inr (0, [.ref gc, .ref gn, .int (nI sz)])), (gc, .inl (cI, 16, .inl (iA cu))), (gn, .inl (cI, 16, .inl (iA nf))), (t, .inr (3, [.ref te, .ref ts, .int (nI n)])), (te, .inl (cI, 16, .inl (iA en))), (ts, .inl (cI, 17, .inl (iA st)))] H locs := hw
  have hl : lv_has ls 4 [(3, .int (mI P)), (0, .ref ga), (1, .ref t), (2, .int (nI f0))] := hl
  refine lv_iload_n hx hb dX0_needsFrom_7 rfl (lv_at hl 0 rfl) ?_
  refine lv_iload_n hx hb dX0_needsFrom_8 rfl (lv_at hl 3 rfl) ?_
  refine lv_icmp_lt (tgt := 31) hx hb dX0_needsFrom_9 (by decide) (fun c_9 => ?_) (fun c_9 => ?_)
  · skip
    rw [q_mlt2 (by omega) (by omega)] at c_9
    have hI : ∀ p, f0 ≤ p → p < n → nf p = ndI en n f0 p := fun p h1 h2 => nd_uniq (P := f0) (fun p h3 h4 => hnf p (by omega) h4) (fun p _ h4 => ndI_fix en n f0 h4) n p h1 h2 (by omega)
    refine lv_aload_n hx hb dX0_needsFrom_31 rfl (lv_at hl 2 rfl) ?_
    refine x_callV (As := []) (rest := []) X hw hl.1 (c_X3_size l D cI cZ t te ts en st n ) (cwV 0 hts gX0_needsFrom_X3_size rfl rfl rfl (by decide +kernel) ⟨Nat.le_of_ble_eq_true rfl, Nat.le_of_ble_eq_true rfl⟩) [3, 4, 5] rfl rfl 0 rfl rfl rfl rfl (Nat.le_of_ble_eq_true rfl) dX0_needsFrom_32 (by decide) (fun r w1 H locs hp hw1 => ?_)
    obtain ⟨rfl, rfl⟩ := hp
    have hw : WD D A s.heap [(ga, .inr (0, [.ref gc, .ref gn, .int (nI sz)])), (gc, .inl (cI, 16, .inl (iA cu))), (gn, .inl (cI, 16, .inl (iA nf))), (t, .inr (3, [.ref te, .ref ts, .int (nI n)])), (te, .inl (cI, 16, .inl (iA en))), (ts, .inl (cI, 17, .inl (iA st)))] H locs := hw1 rfl
    refine lv_if_ne (tgt := 44) hx hb dX0_needsFrom_35 (by decide) (fun c_35 => ?_) (fun c_35 => ?_)
    · skip
      rw [q_eq0 (by omega)] at c_35
      refine lv_aload_n hx hb dX0_needsFrom_44 rfl (lv_at hl 1 rfl) ?_
      refine x_get X hw f15 0 rfl rfl dX0_needsFrom_45 ?_
      refine lv_iload_n hx hb dX0_needsFrom_48 rfl (lv_at hl 3 rfl) ?_
      refine x_aldN X hw 2 rfl (by omega) (by omega) dX0_needsFrom_49 ?_
      have hb_49 := hnl f0
      exact x_iret X hw (⟨nf, (hI), (hnl), (congrArg nI (hI f0 (Nat.le_refl f0) hf0)), rfl⟩) dX0_needsFrom_50
    · skip
      rw [q_eq0 (by omega)] at c_35
      omega
  · skip
    rw [q_mlt2 (by omega) (by omega)] at c_9
    refine lv_aload_n hx hb dX0_needsFrom_12 rfl (lv_at hl 1 rfl) ?_
    refine x_get X hw f15 0 rfl rfl dX0_needsFrom_13 ?_
    refine lv_iload_n hx hb dX0_needsFrom_16 rfl (lv_at hl 0 rfl) ?_
    refine cv_i (show mI P = nI (P - 1) from q_m1N (by omega)) ?_
    refine lv_aload_n hx hb dX0_needsFrom_17 rfl (lv_at hl 1 rfl) ?_
    refine lv_aload_n hx hb dX0_needsFrom_18 rfl (lv_at hl 2 rfl) ?_
    refine lv_iload_n hx hb dX0_needsFrom_19 rfl (lv_at hl 3 rfl) ?_
    refine lv_iload_n hx hb dX0_needsFrom_20 rfl (lv_at hl 0 rfl) ?_
    refine cv_i (show mI P = nI (P - 1) from q_m1N (by omega)) ?_
    refine x_callV (As := [.ref t, .int (nI f0), .int (nI (P - 1))]) (rest := [.int (nI (P - 1)), .ref gn]) X hw hl.1 (c_X0_need l D cI cZ ga gc gn cu nf sz t te ts en st n f0 (P - 1) (by first | assumption | omega) (by first | assumption | omega) (by first | assumption | omega) (hnl) (by first | assumption | omega) (by first | assumption | omega) (by first | assumption | omega)) (cwV 3 hts gX0_needsFrom_X0_need rfl rfl rfl (by decide +kernel) ⟨Nat.le_of_ble_eq_true rfl, Nat.le_of_ble_eq_true rfl⟩) [0, 1, 2, 3, 4, 5] rfl rfl 0 rfl rfl rfl rfl (Nat.le_of_ble_eq_true rfl) dX0_needsFrom_21 (by decide) (fun r w1 H locs hp hw1 => ?_)
    obtain ⟨rfl, rfl⟩ := hp
    have hw : WD D A s.heap [(ga, .inr (0, [.ref gc, .ref gn, .int (nI sz)])), (gc, .inl (cI, 16, .inl (iA cu))), (gn, .inl (cI, 16, .inl (iA nf))), (t, .inr (3, [.ref te, .ref ts, .int (nI n)])), (te, .inl (cI, 16, .inl (iA en))), (ts, .inl (cI, 17, .inl (iA st)))] H locs := hw1 rfl
    refine x_astN X hw 2 rfl (by omega) (by omega) dX0_needsFrom_24 (fun H locs hw => ?_)
    have hw : WD D A s.heap [(ga, .inr (0, [.ref gc, .ref gn, .int (nI sz)])), (gc, .inl (cI, 16, .inl (iA cu))), (gn, .inl (cI, 16, .inl (iA (va_up nf (P - 1) (ndP en nf n f0 (P - 1)))))), (t, .inr (3, [.ref te, .ref ts, .int (nI n)])), (te, .inl (cI, 16, .inl (iA en))), (ts, .inl (cI, 17, .inl (iA st)))] H locs := hw
    refine lv_iinc (v := mI (P - 1)) (lv' := [(3, .int (mI (P - 1))), (0, .ref ga), (1, .ref t), (2, .int (nI f0))]) hx hb dX0_needsFrom_25 hl (k := 0) rfl (q_mdec (by first | omega | assumption)) (by decide) rfl (fun ls hl => ?_)
    refine lv_goto (tgt := 7) hx hb dX0_needsFrom_28 (by decide) ?_
    exact ih_7 (va_up nf (P - 1) (ndP en nf n f0 (P - 1)), P - 1) (by show (P - 1) < P; omega) ⟨(show f0 ≤ (P - 1) from by omega), (show (P - 1) ≤ n from by omega), (show ∀ p, (P - 1) ≤ p → p < n → (va_up nf (P - 1) (ndP en nf n f0 (P - 1))) p = ndP en (va_up nf (P - 1) (ndP en nf n f0 (P - 1))) n f0 p from nd_back (by omega) hnf), (show ∀ k, (va_up nf (P - 1) (ndP en nf n f0 (P - 1))) k ≤ 1000 from up_le hnl (ndF_le _ _ _ _ _ _ _ (Nat.le_refl 1000)))⟩ _ _ _ hw (lv_sub hl [0, 1, 2, 3] rfl)
set_option maxHeartbeats 4000000 in
set_option maxRecDepth 100000 in
theorem c_X0_collect (l : Launch) (D : va_G) (cI cZ : ClassId) (ga : Nat) (gc : Nat) (gn : Nat) (cu : Nat → Nat) (ne : Nat → Nat) (sz : Nat) (n : Nat) (f0 : Nat) (hn : n ≤ 16) (hf0 : f0 < n) (hne : ∀ k, ne k ≤ 1000) (hn1 : ∀ p, f0 ≤ p → p < n → 1 ≤ ne p) : MV l D cI cZ yX0_collect wsX0_collect ({ frames := 0, cells := 0, slots := 0, locals := 0 }) [.ref ga, .int (nI n), .int (nI f0)] [(ga, .inr (0, [.ref gc, .ref gn, .int (nI sz)])), (gc, .inl (cI, 16, .inl (iA cu))), (gn, .inl (cI, 16, .inl (iA ne)))] 0 0 (fun w => w = [(ga, .inr (0, [.ref gc, .ref gn, .int (nI ((clF ne f0 cu (n - f0)).2.1))])), (gc, .inl (cI, 16, .inl (iA ((clF ne f0 cu (n - f0)).1)))), (gn, .inl (cI, 16, .inl (iA ne)))]) := by
  refine MV.of (cc := cX0_collect) (maxL := 5) (ret := none) (own := RX0) (by decide) rfl rfl (Nat.le_of_ble_eq_true rfl) ?_
  intro pQ eQ s mQ args below meth cQ A X hnm hw ls hl
  obtain ⟨⟨hx, hb, hml, hown, hts⟩, hr, hlk, hK, hN, hA⟩ := id X
  have hl : lv_has ls 5 [(0, .ref ga), (1, .int (nI n)), (2, .int (nI f0))] := hl
  have n0 : ∀ w ∈ wsX00, w ∈ wsX0_collect := by decide +kernel
  have f9 : FF args s RX0 wsX0_collect 9 0 0 := ⟨_, rfl, by decide, n0, hts (.fieldLink RX0 9 "AirSteps$Groups" "cuts" "[I") (by decide +kernel)⟩
  have f15 : FF args s RX0 wsX0_collect 15 0 1 := ⟨_, rfl, by decide, n0, hts (.fieldLink RX0 15 "AirSteps$Groups" "needs" "[I") (by decide +kernel)⟩
  have f18 : FF args s RX0 wsX0_collect 18 0 2 := ⟨_, rfl, by decide, n0, hts (.fieldLink RX0 18 "AirSteps$Groups" "size" "I") (by decide +kernel)⟩
  have p18 : FP args s RX0 wsX0_collect 18 0 2 := ⟨_, tyX0, rfl, by decide, n0, hts (.fieldLink RX0 18 "AirSteps$Groups" "size" "I") (by decide +kernel), tyX0_ok, nmX0, rfl, by decide +kernel⟩
  refine lv_aload_n hx hb dX0_collect_0 rfl (lv_at hl 0 rfl) ?_
  refine lv_iconst (v := nI 0) hx hb dX0_collect_1 (by decide) ?_
  refine x_put X hw p18 0 rfl (Nat.le_of_ble_eq_true rfl) dX0_collect_2 (fun H locs hw => ?_)
  have hw : WD D A s.heap [(ga, .inr (0, [.ref gc, .ref gn, .int (nI 0)])), (gc, .inl (cI, 16, .inl (iA cu))), (gn, .inl (cI, 16, .inl (iA ne)))] H locs := hw
  refine lv_sipush (v := nI 1000) hx hb dX0_collect_5 (by decide) ?_
  refine lv_istore_n (lv' := [(3, .int (nI 1000)), (0, .ref ga), (1, .int (nI n)), (2, .int (nI f0))]) hx hb dX0_collect_8 rfl hl (by decide) rfl (fun ls hl => ?_)
  refine lv_iload_n hx hb dX0_collect_9 rfl (lv_at hl 3 rfl) ?_
  refine lv_istore (lv' := [(4, .int (nI f0)), (3, .int (nI 1000)), (0, .ref ga), (1, .int (nI n)), (2, .int (nI f0))]) hx hb dX0_collect_10 hl (by decide) rfl (fun ls hl => ?_)
  refine wl (α := (Nat → Nat) × Nat × Nat × Nat) (nL := 5) (fun aQ => n - aQ.2.2.2) (fun aQ => (f0 ≤ aQ.2.2.2) ∧ (aQ.2.2.2 ≤ n) ∧ ((aQ.1, aQ.2.1, aQ.2.2.1) = clF ne f0 cu (aQ.2.2.2 - f0)) ∧ (aQ.2.1 ≤ aQ.2.2.2 - f0) ∧ (aQ.2.2.1 ≤ 1000) ∧ (1 ≤ aQ.2.2.1)) (fun aQ => [(ga, .inr (0, [.ref gc, .ref gn, .int (nI aQ.2.1)])), (gc, .inl (cI, 16, .inl (iA aQ.1))), (gn, .inl (cI, 16, .inl (iA ne)))]) (fun aQ => [(4, .int (nI aQ.2.2.2)), (3, .int (nI aQ.2.2.1)), (0, .ref ga), (1, .int (nI n)), (2, .int (nI f0))]) ?_ (cu, 0, 1000, f0) ⟨(show f0 ≤ f0 from by omega), (show f0 ≤ n from by omega), (show (cu, 0, 1000) = clF ne f0 cu (f0 - f0) from by rw [Nat.sub_self]; rfl), (show 0 ≤ f0 - f0 from by omega), (show 1000 ≤ 1000 from by omega), (show 1 ≤ 1000 from by omega)⟩ _ _ _ hw (lv_sub hl [0, 1, 2, 3, 4] rfl)
  rintro ⟨c9, z, lf, q⟩ ⟨hq1, hq2, ha, hz, hlf, hlf1⟩ H locs ls hw hl ih_12
  have hq1 : f0 ≤ q := hq1
  have hq2 : q ≤ n := hq2
  have ha : (c9, z, lf) = clF ne f0 cu (q - f0) := ha
  have hz : z ≤ q - f0 := hz
  have hlf : lf ≤ 1000 := hlf
  have hlf1 : 1 ≤ lf := hlf1
  have hw : WD D A s.heap [(ga, .inr (0, [.ref gc, .ref gn, .int (nI z)])), (gc, .inl (cI, 16, .inl (iA c9))), (gn, .inl (cI, 16, .inl (iA ne)))] H locs := hw
  have hl : lv_has ls 5 [(4, .int (nI q)), (3, .int (nI lf)), (0, .ref ga), (1, .int (nI n)), (2, .int (nI f0))] := hl
  have hnq := hne q
  have hn1q := hn1 q hq1
  refine lv_iload hx hb dX0_collect_12 (lv_at hl 0 rfl) ?_
  refine lv_iload_n hx hb dX0_collect_14 rfl (lv_at hl 3 rfl) ?_
  refine lv_icmp_ge (tgt := 72) hx hb dX0_collect_15 (by decide) (fun c_15 => ?_) (fun c_15 => ?_)
  · skip
    rw [nI_leI (by omega) (by omega)] at c_15
    have hfin : clF ne f0 cu (n - f0) = (c9, z, lf) := by rw [ha, show q = n by omega]
    exact x_vret X hw ((by rw [hfin])) dX0_collect_72
  · skip
    rw [nI_leI (by omega) (by omega)] at c_15
    refine lv_iload hx hb dX0_collect_18 (lv_at hl 0 rfl) ?_
    refine lv_iload_n hx hb dX0_collect_20 rfl (lv_at hl 4 rfl) ?_
    refine lv_icmp_eq (tgt := 37) hx hb dX0_collect_21 (by decide) (fun c_21 => ?_) (fun c_21 => ?_)
    · skip
      rw [nI_eq (by omega) (by omega)] at c_21
      refine lv_aload_n hx hb dX0_collect_37 rfl (lv_at hl 2 rfl) ?_
      refine x_get X hw f9 0 rfl rfl dX0_collect_38 ?_
      refine lv_aload_n hx hb dX0_collect_41 rfl (lv_at hl 2 rfl) ?_
      refine x_get X hw f18 0 rfl rfl dX0_collect_42 ?_
      refine lv_iload hx hb dX0_collect_45 (lv_at hl 0 rfl) ?_
      refine x_astN X hw 1 rfl (by omega) (by omega) dX0_collect_47 (fun H locs hw => ?_)
      have hw : WD D A s.heap [(ga, .inr (0, [.ref gc, .ref gn, .int (nI z)])), (gc, .inl (cI, 16, .inl (iA (va_up c9 z q)))), (gn, .inl (cI, 16, .inl (iA ne)))] H locs := hw
      refine lv_aload_n hx hb dX0_collect_48 rfl (lv_at hl 2 rfl) ?_
      refine lv_dup hx hb dX0_collect_49 rfl ?_
      refine x_get X hw f18 0 rfl rfl dX0_collect_50 ?_
      refine lv_iconst (v := nI 1) hx hb dX0_collect_53 (by decide) ?_
      refine lv_iadd hx hb dX0_collect_54 ?_
      refine cv_i (show nI z + nI 1 = nI (z + 1) from nI_add z 1) ?_
      refine x_put X hw p18 0 rfl (Nat.le_of_ble_eq_true rfl) dX0_collect_55 (fun H locs hw => ?_)
      have hw : WD D A s.heap [(ga, .inr (0, [.ref gc, .ref gn, .int (nI (z + 1))])), (gc, .inl (cI, 16, .inl (iA (va_up c9 z q)))), (gn, .inl (cI, 16, .inl (iA ne)))] H locs := hw
      refine lv_aload_n hx hb dX0_collect_58 rfl (lv_at hl 2 rfl) ?_
      refine x_get X hw f15 0 rfl rfl dX0_collect_59 ?_
      refine lv_iload hx hb dX0_collect_62 (lv_at hl 0 rfl) ?_
      refine x_aldN X hw 2 rfl (by omega) (by omega) dX0_collect_64 ?_
      have hb_64 := hne q
      refine lv_istore_n (lv' := [(3, .int (nI (ne q))), (4, .int (nI q)), (0, .ref ga), (1, .int (nI n)), (2, .int (nI f0))]) hx hb dX0_collect_65 rfl hl (by decide) rfl (fun ls hl => ?_)
      refine lv_iinc (v := nI (q + 1)) (lv' := [(4, .int (nI (q + 1))), (3, .int (nI (ne q))), (0, .ref ga), (1, .int (nI n)), (2, .int (nI f0))]) hx hb dX0_collect_66 hl (k := 1) rfl (nI_add q 1) (by decide) rfl (fun ls hl => ?_)
      refine lv_goto (tgt := 12) hx hb dX0_collect_69 (by decide) ?_
      exact ih_12 (va_up c9 z q, z + 1, ne q, q + 1) (by show n - (q + 1) < n - q; omega) ⟨(show f0 ≤ (q + 1) from by omega), (show (q + 1) ≤ n from by omega), (show ((va_up c9 z q), (z + 1), (ne q)) = clF ne f0 cu ((q + 1) - f0) from by rw [show q + 1 - f0 = q - f0 + 1 by omega]; show _ = clS ne f0 (q - f0) (clF ne f0 cu (q - f0)); rw [← ha]; unfold clS; rw [show f0 + (q - f0) = q by omega, if_pos (Or.inl (by omega))]), (show (z + 1) ≤ (q + 1) - f0 from by omega), (show (ne q) ≤ 1000 from by omega), (show 1 ≤ (ne q) from by omega)⟩ _ _ _ hw (lv_sub hl [0, 1, 2, 3, 4] rfl)
    · skip
      rw [nI_eq (by omega) (by omega)] at c_21
      refine lv_aload_n hx hb dX0_collect_24 rfl (lv_at hl 2 rfl) ?_
      refine x_get X hw f15 0 rfl rfl dX0_collect_25 ?_
      refine lv_iload hx hb dX0_collect_28 (lv_at hl 0 rfl) ?_
      refine x_aldN X hw 2 rfl (by omega) (by omega) dX0_collect_30 ?_
      have hb_30 := hne q
      refine lv_iload_n hx hb dX0_collect_31 rfl (lv_at hl 1 rfl) ?_
      refine lv_iconst (v := nI 1) hx hb dX0_collect_32 (by decide) ?_
      refine lv_isub hx hb dX0_collect_33 ?_
      refine cv_i (show nI lf - nI 1 = nI (lf - 1) from pk_sub (by first | omega | assumption)) ?_
      refine lv_icmp_ne (tgt := 66) hx hb dX0_collect_34 (by decide) (fun c_34 => ?_) (fun c_34 => ?_)
      · skip
        rw [nI_eq (by omega) (by omega)] at c_34
        refine lv_iinc (v := nI (q + 1)) (lv' := [(4, .int (nI (q + 1))), (3, .int (nI lf)), (0, .ref ga), (1, .int (nI n)), (2, .int (nI f0))]) hx hb dX0_collect_66 hl (k := 0) rfl (nI_add q 1) (by decide) rfl (fun ls hl => ?_)
        refine lv_goto (tgt := 12) hx hb dX0_collect_69 (by decide) ?_
        exact ih_12 (c9, z, lf, q + 1) (by show n - (q + 1) < n - q; omega) ⟨(show f0 ≤ (q + 1) from by omega), (show (q + 1) ≤ n from by omega), (show (c9, z, lf) = clF ne f0 cu ((q + 1) - f0) from by rw [show q + 1 - f0 = q - f0 + 1 by omega]; show _ = clS ne f0 (q - f0) (clF ne f0 cu (q - f0)); rw [← ha]; unfold clS; rw [show f0 + (q - f0) = q by omega]; simp [c_34]; try omega), (show z ≤ (q + 1) - f0 from by omega), (show lf ≤ 1000 from by omega), (show 1 ≤ lf from by omega)⟩ _ _ _ hw (lv_sub hl [0, 1, 2, 3, 4] rfl)
      · skip
        rw [nI_eq (by omega) (by omega)] at c_34
        refine lv_aload_n hx hb dX0_collect_37 rfl (lv_at hl 2 rfl) ?_
        refine x_get X hw f9 0 rfl rfl dX0_collect_38 ?_
        refine lv_aload_n hx hb dX0_collect_41 rfl (lv_at hl 2 rfl) ?_
        refine x_get X hw f18 0 rfl rfl dX0_collect_42 ?_
        refine lv_iload hx hb dX0_collect_45 (lv_at hl 0 rfl) ?_
        refine x_astN X hw 1 rfl (by omega) (by omega) dX0_collect_47 (fun H locs hw => ?_)
        have hw : WD D A s.heap [(ga, .inr (0, [.ref gc, .ref gn, .int (nI z)])), (gc, .inl (cI, 16, .inl (iA (va_up c9 z q)))), (gn, .inl (cI, 16, .inl (iA ne)))] H locs := hw
        refine lv_aload_n hx hb dX0_collect_48 rfl (lv_at hl 2 rfl) ?_
        refine lv_dup hx hb dX0_collect_49 rfl ?_
        refine x_get X hw f18 0 rfl rfl dX0_collect_50 ?_
        refine lv_iconst (v := nI 1) hx hb dX0_collect_53 (by decide) ?_
        refine lv_iadd hx hb dX0_collect_54 ?_
        refine cv_i (show nI z + nI 1 = nI (z + 1) from nI_add z 1) ?_
        refine x_put X hw p18 0 rfl (Nat.le_of_ble_eq_true rfl) dX0_collect_55 (fun H locs hw => ?_)
        have hw : WD D A s.heap [(ga, .inr (0, [.ref gc, .ref gn, .int (nI (z + 1))])), (gc, .inl (cI, 16, .inl (iA (va_up c9 z q)))), (gn, .inl (cI, 16, .inl (iA ne)))] H locs := hw
        refine lv_aload_n hx hb dX0_collect_58 rfl (lv_at hl 2 rfl) ?_
        refine x_get X hw f15 0 rfl rfl dX0_collect_59 ?_
        refine lv_iload hx hb dX0_collect_62 (lv_at hl 0 rfl) ?_
        refine x_aldN X hw 2 rfl (by omega) (by omega) dX0_collect_64 ?_
        have hb_64 := hne q
        refine lv_istore_n (lv' := [(3, .int (nI (ne q))), (4, .int (nI q)), (0, .ref ga), (1, .int (nI n)), (2, .int (nI f0))]) hx hb dX0_collect_65 rfl hl (by decide) rfl (fun ls hl => ?_)
        refine lv_iinc (v := nI (q + 1)) (lv' := [(4, .int (nI (q + 1))), (3, .int (nI (ne q))), (0, .ref ga), (1, .int (nI n)), (2, .int (nI f0))]) hx hb dX0_collect_66 hl (k := 1) rfl (nI_add q 1) (by decide) rfl (fun ls hl => ?_)
        refine lv_goto (tgt := 12) hx hb dX0_collect_69 (by decide) ?_
        exact ih_12 (va_up c9 z q, z + 1, ne q, q + 1) (by show n - (q + 1) < n - q; omega) ⟨(show f0 ≤ (q + 1) from by omega), (show (q + 1) ≤ n from by omega), (show ((va_up c9 z q), (z + 1), (ne q)) = clF ne f0 cu ((q + 1) - f0) from by rw [show q + 1 - f0 = q - f0 + 1 by omega]; show _ = clS ne f0 (q - f0) (clF ne f0 cu (q - f0)); rw [← ha]; unfold clS; rw [show f0 + (q - f0) = q by omega]; simp [c_34]; try omega), (show (z + 1) ≤ (q + 1) - f0 from by omega), (show (ne q) ≤ 1000 from by omega), (show 1 ≤ (ne q) from by omega)⟩ _ _ _ hw (lv_sub hl [0, 1, 2, 3, 4] rfl)
set_option maxHeartbeats 4000000 in
set_option maxRecDepth 100000 in
theorem c_X0_find (l : Launch) (D : va_G) (cI cZ : ClassId) (ga : Nat) (gc : Nat) (gn : Nat) (cu : Nat → Nat) (ne : Nat → Nat) (sz : Nat) (t : Nat) (te : Nat) (ts : Nat) (en : Nat → Nat) (st : Nat → Nat) (n : Nat) (hn : n ≤ 16) (hen : ∀ k, en k < 4096) (hst : ∀ k, st k < 64) (hne : ∀ k, ne k ≤ 1000) (hcu : ∀ k, cu k < 16) (hn0 : 0 < n) : MV l D cI cZ yX0_find wsX0_find ({ frames := 4, cells := 0, slots := 0, locals := 93 }) [.ref ga, .ref t] [(ga, .inr (0, [.ref gc, .ref gn, .int (nI sz)])), (gc, .inl (cI, 16, .inl (iA cu))), (gn, .inl (cI, 16, .inl (iA ne))), (t, .inr (3, [.ref te, .ref ts, .int (nI n)])), (te, .inl (cI, 16, .inl (iA en))), (ts, .inl (cI, 17, .inl (iA st)))] 0 0 (fun w => ∃ nf : Nat → Nat, ∃ cu9 : Nat → Nat, ∃ sz9 : Nat, (FD en n cu9 sz9) ∧ (∀ k, nf k ≤ 1000) ∧ (∀ k, cu9 k < 16) ∧ (sz9 ≤ 16) ∧ (1 ≤ sz9) ∧ w = [(ga, .inr (0, [.ref gc, .ref gn, .int (nI sz9)])), (gc, .inl (cI, 16, .inl (iA cu9))), (gn, .inl (cI, 16, .inl (iA nf))), (t, .inr (3, [.ref te, .ref ts, .int (nI n)])), (te, .inl (cI, 16, .inl (iA en))), (ts, .inl (cI, 17, .inl (iA st)))]) := by
  refine MV.of (cc := cX0_find) (maxL := 6) (ret := none) (own := RX0) (by decide) rfl rfl (Nat.le_of_ble_eq_true rfl) ?_
  intro pQ eQ s mQ args below meth cQ A X hnm hw ls hl
  obtain ⟨⟨hx, hb, hml, hown, hts⟩, hr, hlk, hK, hN, hA⟩ := id X
  have hl : lv_has ls 6 [(0, .ref ga), (1, .ref t)] := hl
  refine lv_iconst (v := nI 0) hx hb dX0_find_0 (by decide) ?_
  refine lv_istore_n (lv' := [(2, .int (nI 0)), (0, .ref ga), (1, .ref t)]) hx hb dX0_find_1 rfl hl (by decide) rfl (fun ls hl => ?_)
  refine lv_sipush (v := nI 1000) hx hb dX0_find_2 (by decide) ?_
  refine lv_istore_n (lv' := [(3, .int (nI 1000)), (2, .int (nI 0)), (0, .ref ga), (1, .ref t)]) hx hb dX0_find_5 rfl hl (by decide) rfl (fun ls hl => ?_)
  refine lv_iconst (v := nI 0) hx hb dX0_find_6 (by decide) ?_
  refine lv_istore (lv' := [(4, .int (nI 0)), (3, .int (nI 1000)), (2, .int (nI 0)), (0, .ref ga), (1, .ref t)]) hx hb dX0_find_7 hl (by decide) rfl (fun ls hl => ?_)
  refine wl (α := (Nat → Nat) × Nat × Nat × Nat) (nL := 6) (fun aQ => n - aQ.2.2.2) (fun aQ => (aQ.2.2.2 ≤ n) ∧ ((aQ.2.1, aQ.2.2.1) = bsF en n aQ.2.2.2) ∧ (∀ k, aQ.1 k ≤ 1000)) (fun aQ => [(ga, .inr (0, [.ref gc, .ref gn, .int (nI sz)])), (gc, .inl (cI, 16, .inl (iA cu))), (gn, .inl (cI, 16, .inl (iA aQ.1))), (t, .inr (3, [.ref te, .ref ts, .int (nI n)])), (te, .inl (cI, 16, .inl (iA en))), (ts, .inl (cI, 17, .inl (iA st)))]) (fun aQ => [(4, .int (nI aQ.2.2.2)), (3, .int (nI aQ.2.2.1)), (2, .int (nI aQ.2.1)), (0, .ref ga), (1, .ref t)]) ?_ (ne, 0, 1000, 0) ⟨(show 0 ≤ n from by omega), (show (0, 1000) = bsF en n 0 from rfl), (show ∀ k, ne k ≤ 1000 from hne)⟩ _ _ _ hw (lv_sub hl [0, 1, 2, 3, 4] rfl)
  rintro ⟨nf, b, fe, i⟩ ⟨hi, ha, hnl⟩ H locs ls hw hl ih_9
  have hi : i ≤ n := hi
  have ha : (b, fe) = bsF en n i := ha
  have hnl : ∀ k, nf k ≤ 1000 := hnl
  have hw : WD D A s.heap [(ga, .inr (0, [.ref gc, .ref gn, .int (nI sz)])), (gc, .inl (cI, 16, .inl (iA cu))), (gn, .inl (cI, 16, .inl (iA nf))), (t, .inr (3, [.ref te, .ref ts, .int (nI n)])), (te, .inl (cI, 16, .inl (iA en))), (ts, .inl (cI, 17, .inl (iA st)))] H locs := hw
  have hl : lv_has ls 6 [(4, .int (nI i)), (3, .int (nI fe)), (2, .int (nI b)), (0, .ref ga), (1, .ref t)] := hl
  have hfe := bsF_le en n i
  rw [← ha] at hfe
  have hfe : fe ≤ 1000 := hfe
  refine lv_iload hx hb dX0_find_9 (lv_at hl 0 rfl) ?_
  refine lv_aload_n hx hb dX0_find_11 rfl (lv_at hl 4 rfl) ?_
  refine x_callV (As := []) (rest := [.int (nI i)]) X hw hl.1 (c_X3_size l D cI cZ t te ts en st n ) (cwV 0 hts gX0_find_X3_size rfl rfl rfl (by decide +kernel) ⟨Nat.le_of_ble_eq_true rfl, Nat.le_of_ble_eq_true rfl⟩) [3, 4, 5] rfl rfl 0 rfl rfl rfl rfl (Nat.le_of_ble_eq_true rfl) dX0_find_12 (by decide) (fun r w1 H locs hp hw1 => ?_)
  obtain ⟨rfl, rfl⟩ := hp
  have hw : WD D A s.heap [(ga, .inr (0, [.ref gc, .ref gn, .int (nI sz)])), (gc, .inl (cI, 16, .inl (iA cu))), (gn, .inl (cI, 16, .inl (iA nf))), (t, .inr (3, [.ref te, .ref ts, .int (nI n)])), (te, .inl (cI, 16, .inl (iA en))), (ts, .inl (cI, 17, .inl (iA st)))] H locs := hw1 rfl
  refine lv_icmp_ge (tgt := 45) hx hb dX0_find_15 (by decide) (fun c_15 => ?_) (fun c_15 => ?_)
  · skip
    rw [nI_leI (by omega) (by omega)] at c_15
    have hin : i = n := by omega
    rw [hin] at ha
    have hb9 : (bsF en n n).1 = b := by rw [← ha]
    have hbn : b < n := by rw [← hb9]; exact bsF_lt en n n hn0
    refine lv_aload_n hx hb dX0_find_45 rfl (lv_at hl 3 rfl) ?_
    refine lv_aload_n hx hb dX0_find_46 rfl (lv_at hl 4 rfl) ?_
    refine lv_iload_n hx hb dX0_find_47 rfl (lv_at hl 2 rfl) ?_
    refine x_callV (As := [.ref t, .int (nI b)]) (rest := []) X hw hl.1 (c_X0_needsFrom l D cI cZ ga gc gn cu nf sz t te ts en st n b (by first | assumption | omega) (by first | assumption | omega) (by first | assumption | omega) (hnl) (hbn)) (cwV 2 hts gX0_find_X0_needsFrom rfl rfl rfl (by decide +kernel) ⟨Nat.le_of_ble_eq_true rfl, Nat.le_of_ble_eq_true rfl⟩) [0, 1, 2, 3, 4, 5] rfl rfl 0 rfl rfl rfl rfl (Nat.le_of_ble_eq_true rfl) dX0_find_48 (by decide) (fun r w1 H locs hp hw1 => ?_)
    obtain ⟨nf3, hI3, hnl3, rfl, rfl⟩ := hp
    have hw : WD D A s.heap [(ga, .inr (0, [.ref gc, .ref gn, .int (nI sz)])), (gc, .inl (cI, 16, .inl (iA cu))), (gn, .inl (cI, 16, .inl (iA nf3))), (t, .inr (3, [.ref te, .ref ts, .int (nI n)])), (te, .inl (cI, 16, .inl (iA en))), (ts, .inl (cI, 17, .inl (iA st)))] H locs := hw1 rfl
    refine lv_pop hx hb dX0_find_51 rfl ?_
    refine lv_aload_n hx hb dX0_find_52 rfl (lv_at hl 3 rfl) ?_
    refine lv_aload_n hx hb dX0_find_53 rfl (lv_at hl 4 rfl) ?_
    refine x_callV (As := []) (rest := [.ref ga]) X hw hl.1 (c_X3_size l D cI cZ t te ts en st n ) (cwV 0 hts gX0_find_X3_size rfl rfl rfl (by decide +kernel) ⟨Nat.le_of_ble_eq_true rfl, Nat.le_of_ble_eq_true rfl⟩) [3, 4, 5] rfl rfl 0 rfl rfl rfl rfl (Nat.le_of_ble_eq_true rfl) dX0_find_54 (by decide) (fun r w1 H locs hp hw1 => ?_)
    obtain ⟨rfl, rfl⟩ := hp
    have hw : WD D A s.heap [(ga, .inr (0, [.ref gc, .ref gn, .int (nI sz)])), (gc, .inl (cI, 16, .inl (iA cu))), (gn, .inl (cI, 16, .inl (iA nf3))), (t, .inr (3, [.ref te, .ref ts, .int (nI n)])), (te, .inl (cI, 16, .inl (iA en))), (ts, .inl (cI, 17, .inl (iA st)))] H locs := hw1 rfl
    refine lv_iload_n hx hb dX0_find_57 rfl (lv_at hl 2 rfl) ?_
    refine x_callVv (As := [.int (nI n), .int (nI b)]) (rest := []) X hw hl.1 (c_X0_collect l D cI cZ ga gc gn cu nf3 sz n b (by first | assumption | omega) (hbn) (hnl3) (fun p h1 h2 => by rw [hI3 p h1 h2, ndI_fix en n b h2]; exact ndF_ge _ _ _ _ _ _ _ (by omega))) (cwV 2 hts gX0_find_X0_collect rfl rfl rfl (by decide +kernel) ⟨Nat.le_of_ble_eq_true rfl, Nat.le_of_ble_eq_true rfl⟩) [0, 1, 2] rfl rfl 0 rfl rfl rfl rfl (Nat.le_of_ble_eq_true rfl) dX0_find_58 (by decide) (fun w1 H locs hp hw1 => ?_)
    obtain rfl := hp
    have hw : WD D A s.heap [(ga, .inr (0, [.ref gc, .ref gn, .int (nI ((clF nf3 b cu (n - b)).2.1))])), (gc, .inl (cI, 16, .inl (iA ((clF nf3 b cu (n - b)).1)))), (gn, .inl (cI, 16, .inl (iA nf3))), (t, .inr (3, [.ref te, .ref ts, .int (nI n)])), (te, .inl (cI, 16, .inl (iA en))), (ts, .inl (cI, 17, .inl (iA st)))] H locs := hw1 rfl
    obtain ⟨hz1, hz2, hz3⟩ := clF_bd (ne := nf3) (f0 := b) hcu (n - b) (by omega)
    exact x_vret X hw (⟨nf3, _, _, (⟨nf3, cu, by rw [hb9]; exact hI3, by rw [hb9], by rw [hb9]⟩), (hnl3), (hz1), (by omega), (hz3 (by omega)), rfl⟩) dX0_find_61
  · skip
    rw [nI_leI (by omega) (by omega)] at c_15
    refine lv_aload_n hx hb dX0_find_18 rfl (lv_at hl 3 rfl) ?_
    refine lv_aload_n hx hb dX0_find_19 rfl (lv_at hl 4 rfl) ?_
    refine lv_iload hx hb dX0_find_20 (lv_at hl 0 rfl) ?_
    refine x_callV (As := [.ref t, .int (nI i)]) (rest := []) X hw hl.1 (c_X0_needsFrom l D cI cZ ga gc gn cu nf sz t te ts en st n i (by first | assumption | omega) (by first | assumption | omega) (by first | assumption | omega) (hnl) (by first | assumption | omega)) (cwV 2 hts gX0_find_X0_needsFrom rfl rfl rfl (by decide +kernel) ⟨Nat.le_of_ble_eq_true rfl, Nat.le_of_ble_eq_true rfl⟩) [0, 1, 2, 3, 4, 5] rfl rfl 0 rfl rfl rfl rfl (Nat.le_of_ble_eq_true rfl) dX0_find_22 (by decide) (fun r w1 H locs hp hw1 => ?_)
    obtain ⟨nf2, hI2, hnl2, rfl, rfl⟩ := hp
    have hw : WD D A s.heap [(ga, .inr (0, [.ref gc, .ref gn, .int (nI sz)])), (gc, .inl (cI, 16, .inl (iA cu))), (gn, .inl (cI, 16, .inl (iA nf2))), (t, .inr (3, [.ref te, .ref ts, .int (nI n)])), (te, .inl (cI, 16, .inl (iA en))), (ts, .inl (cI, 17, .inl (iA st)))] H locs := hw1 rfl
    have hnd : ndI en n i i ≤ 1000 := by rw [← hI2 i (Nat.le_refl i) (by omega)]; exact hnl2 i
    refine lv_istore (lv' := [(5, .int (nI (ndI en n i i))), (4, .int (nI i)), (3, .int (nI fe)), (2, .int (nI b)), (0, .ref ga), (1, .ref t)]) hx hb dX0_find_25 hl (by decide) rfl (fun ls hl => ?_)
    refine lv_iload hx hb dX0_find_27 (lv_at hl 0 rfl) ?_
    refine lv_iload_n hx hb dX0_find_29 rfl (lv_at hl 2 rfl) ?_
    refine lv_icmp_ge (tgt := 39) hx hb dX0_find_30 (by decide) (fun c_30 => ?_) (fun c_30 => ?_)
    · skip
      rw [nI_leI (by omega) (by omega)] at c_30
      refine lv_iinc (v := nI (i + 1)) (lv' := [(4, .int (nI (i + 1))), (5, .int (nI (ndI en n i i))), (3, .int (nI fe)), (2, .int (nI b)), (0, .ref ga), (1, .ref t)]) hx hb dX0_find_39 hl (k := 1) rfl (nI_add i 1) (by decide) rfl (fun ls hl => ?_)
      refine lv_goto (tgt := 9) hx hb dX0_find_42 (by decide) ?_
      exact ih_9 (nf2, b, fe, i + 1) (by show n - (i + 1) < n - i; omega) ⟨(show (i + 1) ≤ n from by omega), (show (b, fe) = bsF en n (i + 1) from by show _ = bsS en n i (bsF en n i); rw [← ha]; unfold bsS; simp; omega), (show ∀ k, nf2 k ≤ 1000 from hnl2)⟩ _ _ _ hw (lv_sub hl [0, 2, 3, 4, 5] rfl)
    · skip
      rw [nI_leI (by omega) (by omega)] at c_30
      refine lv_iload hx hb dX0_find_33 (lv_at hl 0 rfl) ?_
      refine lv_istore_n (lv' := [(3, .int (nI (ndI en n i i))), (5, .int (nI (ndI en n i i))), (4, .int (nI i)), (2, .int (nI b)), (0, .ref ga), (1, .ref t)]) hx hb dX0_find_35 rfl hl (by decide) rfl (fun ls hl => ?_)
      refine lv_iload hx hb dX0_find_36 (lv_at hl 2 rfl) ?_
      refine lv_istore_n (lv' := [(2, .int (nI i)), (3, .int (nI (ndI en n i i))), (5, .int (nI (ndI en n i i))), (4, .int (nI i)), (0, .ref ga), (1, .ref t)]) hx hb dX0_find_38 rfl hl (by decide) rfl (fun ls hl => ?_)
      refine lv_iinc (v := nI (i + 1)) (lv' := [(4, .int (nI (i + 1))), (2, .int (nI i)), (3, .int (nI (ndI en n i i))), (5, .int (nI (ndI en n i i))), (0, .ref ga), (1, .ref t)]) hx hb dX0_find_39 hl (k := 3) rfl (nI_add i 1) (by decide) rfl (fun ls hl => ?_)
      refine lv_goto (tgt := 9) hx hb dX0_find_42 (by decide) ?_
      exact ih_9 (nf2, i, ndI en n i i, i + 1) (by show n - (i + 1) < n - i; omega) ⟨(show (i + 1) ≤ n from by omega), (show (i, (ndI en n i i)) = bsF en n (i + 1) from by show _ = bsS en n i (bsF en n i); rw [← ha]; unfold bsS; simp; omega), (show ∀ k, nf2 k ≤ 1000 from hnl2)⟩ _ _ _ hw (lv_sub hl [0, 2, 1, 4, 5] rfl)
set_option maxHeartbeats 4000000 in
set_option maxRecDepth 100000 in
theorem c_X0_groupOf (l : Launch) (D : va_G) (cI cZ : ClassId) (ga : Nat) (gc : Nat) (gn : Nat) (cu : Nat → Nat) (ne : Nat → Nat) (sz : Nat) (k : Nat) (hsz : sz ≤ 16) (hsz1 : 1 ≤ sz) (hcu : ∀ k, cu k < 16) (hk : k < 16) : MI l D cI cZ yX0_groupOf wsX0_groupOf ({ frames := 0, cells := 0, slots := 0, locals := 0 }) [.ref ga, .int (nI k)] [(ga, .inr (0, [.ref gc, .ref gn, .int (nI sz)])), (gc, .inl (cI, 16, .inl (iA cu))), (gn, .inl (cI, 16, .inl (iA ne)))] (fun r w => r = (nI (grp cu sz k)) ∧ w = [(ga, .inr (0, [.ref gc, .ref gn, .int (nI sz)])), (gc, .inl (cI, 16, .inl (iA cu))), (gn, .inl (cI, 16, .inl (iA ne)))]) := by
  refine MI.of (cc := cX0_groupOf) (maxL := 4) (ret := (some .int)) (own := RX0) (by decide) rfl rfl (Nat.le_of_ble_eq_true rfl) ?_
  intro pQ eQ s mQ args below meth cQ A X hw ls hl
  obtain ⟨⟨hx, hb, hml, hown, hts⟩, hr, hlk, hK, hN, hA⟩ := id X
  have hl : lv_has ls 4 [(0, .ref ga), (1, .int (nI k))] := hl
  have n0 : ∀ w ∈ wsX00, w ∈ wsX0_groupOf := by decide +kernel
  have f9 : FF args s RX0 wsX0_groupOf 9 0 0 := ⟨_, rfl, by decide, n0, hts (.fieldLink RX0 9 "AirSteps$Groups" "cuts" "[I") (by decide +kernel)⟩
  have f18 : FF args s RX0 wsX0_groupOf 18 0 2 := ⟨_, rfl, by decide, n0, hts (.fieldLink RX0 18 "AirSteps$Groups" "size" "I") (by decide +kernel)⟩
  refine lv_iconst (v := nI 0) hx hb dX0_groupOf_0 (by decide) ?_
  refine lv_istore_n (lv' := [(2, .int (nI 0)), (0, .ref ga), (1, .int (nI k))]) hx hb dX0_groupOf_1 rfl hl (by decide) rfl (fun ls hl => ?_)
  refine lv_iconst (v := nI 0) hx hb dX0_groupOf_2 (by decide) ?_
  refine lv_istore_n (lv' := [(3, .int (nI 0)), (2, .int (nI 0)), (0, .ref ga), (1, .int (nI k))]) hx hb dX0_groupOf_3 rfl hl (by decide) rfl (fun ls hl => ?_)
  refine wl (α := Nat × Nat) (nL := 4) (fun aQ => sz - aQ.2) (fun aQ => (aQ.2 ≤ sz) ∧ (aQ.1 = gcn cu k aQ.2) ∧ (aQ.1 ≤ aQ.2)) (fun aQ => [(ga, .inr (0, [.ref gc, .ref gn, .int (nI sz)])), (gc, .inl (cI, 16, .inl (iA cu))), (gn, .inl (cI, 16, .inl (iA ne)))]) (fun aQ => [(3, .int (nI aQ.2)), (2, .int (nI aQ.1)), (0, .ref ga), (1, .int (nI k))]) ?_ (0, 0) ⟨(show 0 ≤ sz from by omega), (show 0 = gcn cu k 0 from rfl), (show 0 ≤ 0 from by omega)⟩ _ _ _ hw (lv_sub hl [0, 1, 2, 3] rfl)
  rintro ⟨a, i⟩ ⟨hi, ha, hai⟩ H locs ls hw hl ih_4
  have hi : i ≤ sz := hi
  have ha : a = gcn cu k i := ha
  have hai : a ≤ i := hai
  have hw : WD D A s.heap [(ga, .inr (0, [.ref gc, .ref gn, .int (nI sz)])), (gc, .inl (cI, 16, .inl (iA cu))), (gn, .inl (cI, 16, .inl (iA ne)))] H locs := hw
  have hl : lv_has ls 4 [(3, .int (nI i)), (2, .int (nI a)), (0, .ref ga), (1, .int (nI k))] := hl
  refine lv_iload_n hx hb dX0_groupOf_4 rfl (lv_at hl 0 rfl) ?_
  refine lv_aload_n hx hb dX0_groupOf_5 rfl (lv_at hl 2 rfl) ?_
  refine x_get X hw f18 0 rfl rfl dX0_groupOf_6 ?_
  refine lv_icmp_ge (tgt := 31) hx hb dX0_groupOf_9 (by decide) (fun c_9 => ?_) (fun c_9 => ?_)
  · skip
    rw [nI_leI (by omega) (by omega)] at c_9
    refine lv_iload_n hx hb dX0_groupOf_31 rfl (lv_at hl 1 rfl) ?_
    refine lv_if_ne (tgt := 44) hx hb dX0_groupOf_32 (by decide) (fun c_32 => ?_) (fun c_32 => ?_)
    · skip
      rw [q_eq0 (by omega)] at c_32
      refine lv_iload_n hx hb dX0_groupOf_44 rfl (lv_at hl 1 rfl) ?_
      refine lv_iconst (v := nI 1) hx hb dX0_groupOf_45 (by decide) ?_
      refine lv_isub hx hb dX0_groupOf_46 ?_
      refine cv_i (show nI a - nI 1 = nI (a - 1) from pk_sub (by first | omega | assumption)) ?_
      exact x_iret X hw (⟨(congrArg nI (by unfold grp; rw [show gcn cu k sz = a by rw [ha, show i = sz by omega]]; simp [c_32])), rfl⟩) dX0_groupOf_47
    · skip
      rw [q_eq0 (by omega)] at c_32
      refine lv_aload_n hx hb dX0_groupOf_35 rfl (lv_at hl 2 rfl) ?_
      refine x_get X hw f18 0 rfl rfl dX0_groupOf_36 ?_
      refine lv_iconst (v := nI 1) hx hb dX0_groupOf_39 (by decide) ?_
      refine lv_isub hx hb dX0_groupOf_40 ?_
      refine cv_i (show nI sz - nI 1 = nI (sz - 1) from pk_sub (by first | omega | assumption)) ?_
      refine lv_goto (tgt := 47) hx hb dX0_groupOf_41 (by decide) ?_
      exact x_iret X hw (⟨(congrArg nI (by unfold grp; rw [show gcn cu k sz = a by rw [ha, show i = sz by omega]]; simp [c_32])), rfl⟩) dX0_groupOf_47
  · skip
    rw [nI_leI (by omega) (by omega)] at c_9
    refine lv_aload_n hx hb dX0_groupOf_12 rfl (lv_at hl 2 rfl) ?_
    refine x_get X hw f9 0 rfl rfl dX0_groupOf_13 ?_
    refine lv_iload_n hx hb dX0_groupOf_16 rfl (lv_at hl 0 rfl) ?_
    refine x_aldN X hw 1 rfl (by omega) (by omega) dX0_groupOf_17 ?_
    have hb_17 := hcu i
    refine lv_iload_n hx hb dX0_groupOf_18 rfl (lv_at hl 3 rfl) ?_
    refine lv_icmp_gt (tgt := 25) hx hb dX0_groupOf_19 (by decide) (fun c_19 => ?_) (fun c_19 => ?_)
    · skip
      rw [nI_ltI (by omega) (by omega)] at c_19
      refine lv_iinc (v := nI (i + 1)) (lv' := [(3, .int (nI (i + 1))), (2, .int (nI a)), (0, .ref ga), (1, .int (nI k))]) hx hb dX0_groupOf_25 hl (k := 0) rfl (nI_add i 1) (by decide) rfl (fun ls hl => ?_)
      refine lv_goto (tgt := 4) hx hb dX0_groupOf_28 (by decide) ?_
      exact ih_4 (a, i + 1) (by show sz - (i + 1) < sz - i; omega) ⟨(show (i + 1) ≤ sz from by omega), (show a = gcn cu k (i + 1) from by rw [ha]; simp [gcn, fo]; omega), (show a ≤ (i + 1) from by omega)⟩ _ _ _ hw (lv_sub hl [0, 1, 2, 3] rfl)
    · skip
      rw [nI_ltI (by omega) (by omega)] at c_19
      refine lv_iinc (v := nI (a + 1)) (lv' := [(2, .int (nI (a + 1))), (3, .int (nI i)), (0, .ref ga), (1, .int (nI k))]) hx hb dX0_groupOf_22 hl (k := 1) rfl (nI_add a 1) (by decide) rfl (fun ls hl => ?_)
      refine lv_iinc (v := nI (i + 1)) (lv' := [(3, .int (nI (i + 1))), (2, .int (nI (a + 1))), (0, .ref ga), (1, .int (nI k))]) hx hb dX0_groupOf_25 hl (k := 1) rfl (nI_add i 1) (by decide) rfl (fun ls hl => ?_)
      refine lv_goto (tgt := 4) hx hb dX0_groupOf_28 (by decide) ?_
      exact ih_4 (a + 1, i + 1) (by show sz - (i + 1) < sz - i; omega) ⟨(show (i + 1) ≤ sz from by omega), (show (a + 1) = gcn cu k (i + 1) from by rw [ha]; simp [gcn, fo]; omega), (show (a + 1) ≤ (i + 1) from by omega)⟩ _ _ _ hw (lv_sub hl [0, 1, 2, 3] rfl)
set_option maxHeartbeats 4000000 in
set_option maxRecDepth 100000 in
theorem c_X0_isFirst (l : Launch) (D : va_G) (cI cZ : ClassId) (ga : Nat) (gc : Nat) (gn : Nat) (cu : Nat → Nat) (ne : Nat → Nat) (sz : Nat) (k : Nat) (hsz : sz ≤ 16) (hcu : ∀ k, cu k < 16) (hk : k < 16) : MI l D cI cZ yX0_isFirst wsX0_isFirst ({ frames := 0, cells := 0, slots := 0, locals := 0 }) [.ref ga, .int (nI k)] [(ga, .inr (0, [.ref gc, .ref gn, .int (nI sz)])), (gc, .inl (cI, 16, .inl (iA cu))), (gn, .inl (cI, 16, .inl (iA ne)))] (fun r w => r = (bI (isF cu sz k)) ∧ w = [(ga, .inr (0, [.ref gc, .ref gn, .int (nI sz)])), (gc, .inl (cI, 16, .inl (iA cu))), (gn, .inl (cI, 16, .inl (iA ne)))]) := by
  refine MI.of (cc := cX0_isFirst) (maxL := 3) (ret := (some .boolean)) (own := RX0) (by decide) rfl rfl (Nat.le_of_ble_eq_true rfl) ?_
  intro pQ eQ s mQ args below meth cQ A X hw ls hl
  obtain ⟨⟨hx, hb, hml, hown, hts⟩, hr, hlk, hK, hN, hA⟩ := id X
  have hl : lv_has ls 3 [(0, .ref ga), (1, .int (nI k))] := hl
  have n0 : ∀ w ∈ wsX00, w ∈ wsX0_isFirst := by decide +kernel
  have f9 : FF args s RX0 wsX0_isFirst 9 0 0 := ⟨_, rfl, by decide, n0, hts (.fieldLink RX0 9 "AirSteps$Groups" "cuts" "[I") (by decide +kernel)⟩
  have f18 : FF args s RX0 wsX0_isFirst 18 0 2 := ⟨_, rfl, by decide, n0, hts (.fieldLink RX0 18 "AirSteps$Groups" "size" "I") (by decide +kernel)⟩
  refine lv_iconst (v := nI 0) hx hb dX0_isFirst_0 (by decide) ?_
  refine lv_istore_n (lv' := [(2, .int (nI 0)), (0, .ref ga), (1, .int (nI k))]) hx hb dX0_isFirst_1 rfl hl (by decide) rfl (fun ls hl => ?_)
  refine wl (α := Nat) (nL := 3) (fun aQ => sz - aQ) (fun aQ => (aQ ≤ sz) ∧ (∀ j, j < aQ → decide (cu j = k) = false)) (fun aQ => [(ga, .inr (0, [.ref gc, .ref gn, .int (nI sz)])), (gc, .inl (cI, 16, .inl (iA cu))), (gn, .inl (cI, 16, .inl (iA ne)))]) (fun aQ => [(2, .int (nI aQ)), (0, .ref ga), (1, .int (nI k))]) ?_ 0 ⟨(show 0 ≤ sz from by omega), (show ∀ j, j < 0 → decide (cu j = k) = false from fun j hj => absurd hj (Nat.not_lt_zero j))⟩ _ _ _ hw (lv_sub hl [0, 1, 2] rfl)
  rintro i ⟨hi, hq⟩ H locs ls hw hl ih_2
  have hi : i ≤ sz := hi
  have hq : ∀ j, j < i → decide (cu j = k) = false := hq
  have hw : WD D A s.heap [(ga, .inr (0, [.ref gc, .ref gn, .int (nI sz)])), (gc, .inl (cI, 16, .inl (iA cu))), (gn, .inl (cI, 16, .inl (iA ne)))] H locs := hw
  have hl : lv_has ls 3 [(2, .int (nI i)), (0, .ref ga), (1, .int (nI k))] := hl
  refine lv_iload_n hx hb dX0_isFirst_2 rfl (lv_at hl 0 rfl) ?_
  refine lv_aload_n hx hb dX0_isFirst_3 rfl (lv_at hl 1 rfl) ?_
  refine x_get X hw f18 0 rfl rfl dX0_isFirst_4 ?_
  refine lv_icmp_ge (tgt := 28) hx hb dX0_isFirst_7 (by decide) (fun c_7 => ?_) (fun c_7 => ?_)
  · skip
    rw [nI_leI (by omega) (by omega)] at c_7
    refine lv_iconst (v := nI 0) hx hb dX0_isFirst_28 (by decide) ?_
    refine cv_i (show nI 0 = bI false from by decide) ?_
    exact x_zret X hw (⟨(congrArg bI (by unfold isF; rw [fs_eq (P := fun i => decide (cu i = k)) (k := sz) (by omega) (fun j hj => hq j (by omega)) (Or.inl rfl)]; simp)), rfl⟩) dX0_isFirst_29
  · skip
    rw [nI_leI (by omega) (by omega)] at c_7
    refine lv_aload_n hx hb dX0_isFirst_10 rfl (lv_at hl 1 rfl) ?_
    refine x_get X hw f9 0 rfl rfl dX0_isFirst_11 ?_
    refine lv_iload_n hx hb dX0_isFirst_14 rfl (lv_at hl 0 rfl) ?_
    refine x_aldN X hw 1 rfl (by omega) (by omega) dX0_isFirst_15 ?_
    have hb_15 := hcu i
    refine lv_iload_n hx hb dX0_isFirst_16 rfl (lv_at hl 2 rfl) ?_
    refine lv_icmp_ne (tgt := 22) hx hb dX0_isFirst_17 (by decide) (fun c_17 => ?_) (fun c_17 => ?_)
    · skip
      rw [nI_eq (by omega) (by omega)] at c_17
      refine lv_iinc (v := nI (i + 1)) (lv' := [(2, .int (nI (i + 1))), (0, .ref ga), (1, .int (nI k))]) hx hb dX0_isFirst_22 hl (k := 0) rfl (nI_add i 1) (by decide) rfl (fun ls hl => ?_)
      refine lv_goto (tgt := 2) hx hb dX0_isFirst_25 (by decide) ?_
      exact ih_2 (i + 1) (by show sz - (i + 1) < sz - i; omega) ⟨(show (i + 1) ≤ sz from by omega), (show ∀ j, j < (i + 1) → decide (cu j = k) = false from lt_snoc (P := fun i => decide (cu i = k)) hq (by simp [c_17]))⟩ _ _ _ hw (lv_sub hl [0, 1, 2] rfl)
    · skip
      rw [nI_eq (by omega) (by omega)] at c_17
      refine lv_iconst (v := nI 1) hx hb dX0_isFirst_20 (by decide) ?_
      refine cv_i (show nI 1 = bI true from by decide) ?_
      exact x_zret X hw (⟨(congrArg bI (by unfold isF; rw [fs_eq (P := fun i => decide (cu i = k)) (k := i) (by omega) hq (Or.inr (by simp [c_17]))]; simp; omega)), rfl⟩) dX0_isFirst_21
