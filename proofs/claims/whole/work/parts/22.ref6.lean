/-! ===== the reference: ways home ===== -/
def cntF (w : Nat → Nat) (i : Nat) : Nat := fo (fun s a => if w s < 1000 then a + 1 else a) 0 i
def sumF (w : Nat → Nat) (i : Nat) : Nat := fo (fun s a => a + w s) 0 i
def INVW (mm : Nat → Nat → Bool) (w : Nat → Nat) : Prop := w 0 = 0 ∧ (∀ s, s < 64 → w s ≤ 1000) ∧ (∀ s, s < 64 → s ≠ 0 → w s < 1000 → ∃ c, c < 6 ∧ mm s c = true ∧ w (s ^^^ 1 <<< c) + 1 ≤ w s) ∧ ∀ s, s < 64 → w s < 1000 → w s + 1 ≤ cntF w 64
def FIXW (mm : Nat → Nat → Bool) (w : Nat → Nat) : Prop := ∀ s, s < 64 → ∀ c, c < 6 → mm s c = true → w s ≤ w (s ^^^ 1 <<< c) + 1
theorem sumF_up (w : Nat → Nat) (s v : Nat) : ∀ i : Nat, (i ≤ s → sumF (va_up w s v) i = sumF w i) ∧ (s < i → sumF (va_up w s v) i + w s = sumF w i + v)
  | 0 => ⟨fun _ => rfl, fun h => absurd h (Nat.not_lt_zero s)⟩
  | i + 1 => by
    obtain ⟨h1, h2⟩ := sumF_up w s v i
    have e : sumF (va_up w s v) (i + 1) = sumF (va_up w s v) i + va_up w s v i := rfl
    have e2 : sumF w (i + 1) = sumF w i + w i := rfl
    rw [e, e2]
    by_cases hi : i = s
    · have h3 : va_up w s v i = v := by unfold va_up; rw [if_pos hi]
      rw [h3]
      have := h1 (by omega)
      exact ⟨fun h => by omega, fun h => by rw [← hi] at *; omega⟩
    · have h3 : va_up w s v i = w i := by unfold va_up; rw [if_neg hi]
      rw [h3]
      exact ⟨fun h => by rw [h1 (by omega)], fun h => by have := h2 (by omega); omega⟩
theorem cntF_up (w : Nat → Nat) (s v : Nat) (hv : v < 1000) : ∀ i : Nat, (i ≤ s → cntF (va_up w s v) i = cntF w i) ∧ (s < i → cntF (va_up w s v) i = cntF w i + if w s < 1000 then 0 else 1)
  | 0 => ⟨fun _ => rfl, fun h => absurd h (Nat.not_lt_zero s)⟩
  | i + 1 => by
    obtain ⟨h1, h2⟩ := cntF_up w s v hv i
    have e : cntF (va_up w s v) (i + 1) = if va_up w s v i < 1000 then cntF (va_up w s v) i + 1 else cntF (va_up w s v) i := rfl
    have e2 : cntF w (i + 1) = if w i < 1000 then cntF w i + 1 else cntF w i := rfl
    rw [e, e2]
    by_cases hi : i = s
    · have h3 : va_up w s v i = v := by unfold va_up; rw [if_pos hi]
      rw [h3, if_pos hv, h1 (by omega), hi]
      refine ⟨fun h => by omega, fun _ => ?_⟩
      split <;> omega
    · have h3 : va_up w s v i = w i := by unfold va_up; rw [if_neg hi]
      rw [h3]
      refine ⟨fun h => by rw [h1 (by omega)], fun h => ?_⟩
      rw [h2 (by omega)]
      split <;> omega
theorem xb_ne : ∀ st, st < 64 → ∀ c, c < 6 → ¬ st ^^^ 1 <<< c = st := by decide +kernel
theorem INVW_up {mm : Nat → Nat → Bool} {w : Nat → Nat} {s c : Nat} (h : INVW mm w) (hs : s < 64) (hc : c < 6) (hm : mm s c = true) (hlt : w (s ^^^ 1 <<< c) + 1 < w s) : INVW mm (va_up w s (w (s ^^^ 1 <<< c) + 1)) ∧ sumF (va_up w s (w (s ^^^ 1 <<< c) + 1)) 64 < sumF w 64 := by
  obtain ⟨h0, h1, h2, h3⟩ := h
  have hw1 := h1 s hs
  have hx := xb_lt s hs c hc
  have hne := xb_ne s hs c hc
  have hs0 : s ≠ 0 := fun e => by rw [e, h0] at hlt; omega
  have hup : ∀ t, va_up w s (w (s ^^^ 1 <<< c) + 1) t ≤ w t := fun t => by
    unfold va_up
    split
    · rename_i e
      rw [e]
      omega
    · exact Nat.le_refl _
  have hat : va_up w s (w (s ^^^ 1 <<< c) + 1) s = w (s ^^^ 1 <<< c) + 1 := by unfold va_up; rw [if_pos rfl]
  have hof : ∀ t, ¬ t = s → va_up w s (w (s ^^^ 1 <<< c) + 1) t = w t := fun t ht => by unfold va_up; rw [if_neg ht]
  have hsum := (sumF_up w s (w (s ^^^ 1 <<< c) + 1) 64).2 hs
  have hcnt := (cntF_up w s (w (s ^^^ 1 <<< c) + 1) (by omega) 64).2 hs
  refine ⟨⟨?_, ?_, ?_, ?_⟩, by omega⟩
  · rw [hof 0 (Ne.symm hs0)]
    exact h0
  · intro t ht
    exact Nat.le_trans (hup t) (h1 t ht)
  · intro t ht ht0 htl
    by_cases e : t = s
    · subst e
      exact ⟨c, hc, hm, by rw [hat, hof _ hne]; exact Nat.le_refl _⟩
    · rw [hof t e] at htl ⊢
      obtain ⟨d, hd, hmd, hle⟩ := h2 t ht ht0 htl
      exact ⟨d, hd, hmd, Nat.le_trans (Nat.succ_le_succ (hup _)) hle⟩
  · intro t ht htl
    rw [hcnt]
    by_cases e : t = s
    · subst e
      rw [hat]
      have hk := h3 _ hx (by omega)
      by_cases hw : w t < 1000
      · have := h3 t ht hw
        rw [if_pos hw]
        omega
      · rw [if_neg hw]
        omega
    · rw [hof t e] at htl ⊢
      have := h3 t ht htl
      split <;> omega
theorem INVW_init {mm : Nat → Nat → Bool} {w : Nat → Nat} (h : ∀ j, j < 64 → w j = if j = 0 then 0 else 1000) : INVW mm w := by
  have hc : cntF w 64 = 1 := by
    have key : ∀ i, i ≤ 64 → cntF w i = if i = 0 then 0 else 1 := by
      intro i
      induction i with
      | zero => intro _; rfl
      | succ i ih =>
        intro hi
        show (if w i < 1000 then cntF w i + 1 else cntF w i) = _
        rw [ih (by omega), h i (by omega)]
        by_cases h0 : i = 0
        · subst h0
          rfl
        · rw [if_neg h0, if_neg h0]
          rfl
    rw [key 64 (Nat.le_refl 64)]
    rfl
  refine ⟨by rw [h 0 (by omega)]; rfl, fun s hs => ?_, fun s hs h0 hl => ?_, fun s hs hl => ?_⟩
  · rw [h s hs]
    split <;> omega
  · rw [h s hs, if_neg h0] at hl
    omega
  · rw [hc]
    rw [h s hs] at hl ⊢
    split
    · omega
    · rename_i h0
      rw [if_neg h0] at hl
      omega
def PA (mm : Nat → Nat → Bool) (w0 w1 : Nat → Nat) (b : Bool) (s : Nat) : Prop := INVW mm w1 ∧ (b = true → sumF w1 64 < sumF w0 64) ∧ (b = false → w1 = w0 ∧ ∀ t, t < s → ∀ c, c < 6 → mm t c = true → w1 t ≤ w1 (t ^^^ 1 <<< c) + 1)
def PB (mm : Nat → Nat → Bool) (w0 w1 : Nat → Nat) (b : Bool) (s k : Nat) : Prop := INVW mm w1 ∧ (b = true → sumF w1 64 < sumF w0 64) ∧ (b = false → w1 = w0 ∧ (∀ t, t < s → ∀ c, c < 6 → mm t c = true → w1 t ≤ w1 (t ^^^ 1 <<< c) + 1) ∧ ∀ c, c < k → mm s c = true → w1 s ≤ w1 (s ^^^ 1 <<< c) + 1)
theorem PB_no {mm : Nat → Nat → Bool} {w0 w1 : Nat → Nat} {b : Bool} {s k : Nat} (h : PB mm w0 w1 b s k) (hn : mm s k = true → w1 s ≤ w1 (s ^^^ 1 <<< k) + 1) : PB mm w0 w1 b s (k + 1) := ⟨h.1, h.2.1, fun hb => ⟨(h.2.2 hb).1, (h.2.2 hb).2.1, fun c hc hm => by
  rcases Nat.lt_or_ge c k with q | q
  · exact (h.2.2 hb).2.2 c q hm
  · have e : c = k := by omega
    subst e
    exact hn hm⟩⟩
theorem PB_sum {mm : Nat → Nat → Bool} {w0 w1 : Nat → Nat} {b : Bool} {s k : Nat} (h : PB mm w0 w1 b s k) : sumF w1 64 ≤ sumF w0 64 := by
  cases b with
  | true => exact Nat.le_of_lt (h.2.1 rfl)
  | false => rw [(h.2.2 rfl).1]; exact Nat.le_refl _
theorem PB_up {mm : Nat → Nat → Bool} {w0 w1 : Nat → Nat} {b : Bool} {s k : Nat} (h : PB mm w0 w1 b s k) (hs : s < 64) (hc : k < 6) (hm : mm s k = true) (hlt : w1 (s ^^^ 1 <<< k) + 1 < w1 s) : PB mm w0 (va_up w1 s (w1 (s ^^^ 1 <<< k) + 1)) true s (k + 1) := by
  obtain ⟨h1, h2⟩ := INVW_up h.1 hs hc hm hlt
  have h3 := PB_sum h
  exact ⟨h1, fun _ => by omega, fun hb => by cases hb⟩
theorem PB_end {mm : Nat → Nat → Bool} {w0 w1 : Nat → Nat} {b : Bool} {s k : Nat} (h : PB mm w0 w1 b s k) (hk : 6 ≤ k) : PA mm w0 w1 b (s + 1) := ⟨h.1, h.2.1, fun hb => ⟨(h.2.2 hb).1, fun t ht c hc hm => by
  rcases Nat.lt_or_ge t s with q | q
  · exact (h.2.2 hb).2.1 t q c hc hm
  · have e : t = s := by omega
    subst e
    exact (h.2.2 hb).2.2 c (by omega) hm⟩⟩
theorem PA_beg {mm : Nat → Nat → Bool} {w0 w1 : Nat → Nat} {b : Bool} {s : Nat} (h : PA mm w0 w1 b s) : PB mm w0 w1 b s 0 := ⟨h.1, h.2.1, fun hb => ⟨(h.2.2 hb).1, (h.2.2 hb).2, fun c hc => absurd hc (Nat.not_lt_zero c)⟩⟩
theorem PA_fix {mm : Nat → Nat → Bool} {w0 w1 : Nat → Nat} {b : Bool} {s : Nat} (h : PA mm w0 w1 b s) (hs : 64 ≤ s) (hb : b = false) : FIXW mm w1 := fun t ht c hc hm => (h.2.2 hb).2 t (by omega) c hc hm
theorem PA_mu {mm : Nat → Nat → Bool} {w0 w1 : Nat → Nat} {b : Bool} {s : Nat} (h : PA mm w0 w1 b s) : 2 * sumF w1 64 + b.toNat < 2 * sumF w0 64 + 1 := by
  cases b with
  | true =>
    have := h.2.1 rfl
    show 2 * sumF w1 64 + 1 < _
    omega
  | false =>
    rw [(h.2.2 rfl).1]
    show 2 * sumF w0 64 + 0 < _
    omega
theorem up_g {d g : Nat → Nat} {i v : Nat} (h : ∀ j, j < i → d j = g j) (hv : v = g i) : ∀ j, j < i + 1 → va_up d i v j = g j := fun j hj => by
  unfold va_up
  split
  · rename_i e
    rw [e, hv]
  · exact h j (by omega)
theorem fs_step {P : Nat → Bool} {n k : Nat} (h : k ≤ fs P n) (hn : fs P n < n) (hk : P k = false) : k + 1 ≤ fs P n := by
  rcases Nat.lt_or_ge k (fs P n) with q | q
  · exact q
  · have e : k = fs P n := Nat.le_antisymm h q
    rw [e, fs_yes hn] at hk
    cases hk
theorem fs_at {P : Nat → Bool} {n k : Nat} (h : k ≤ fs P n) (hk : P k = true) : k = fs P n := by
  rcases Nat.lt_or_ge k (fs P n) with q | q
  · rw [fs_no q] at hk
    cases hk
  · exact Nat.le_antisymm h q
def nxQ (mm : Nat → Nat → Bool) (w : Nat → Nat) (s c : Nat) : Bool := decide (w (s ^^^ 1 <<< c) + 1 = w s) && mm s c
def nxR (mm : Nat → Nat → Bool) (w : Nat → Nat) (s : Nat) : Nat := fs (nxQ mm w s) 6
theorem nxR_lt {mm : Nat → Nat → Bool} {w : Nat → Nat} {s : Nat} (h : INVW mm w) (hf : FIXW mm w) (hs : s < 64) (h0 : ¬ w s = 0) (h1 : ¬ w s = 1000) : nxR mm w s < 6 := by
  have hb := h.2.1 s hs
  obtain ⟨c, hc, hm, hle⟩ := h.2.2.1 s hs (fun e => h0 (by rw [e]; exact h.1)) (by omega)
  have hge := hf s hs c hc hm
  have hq : nxQ mm w s c = true := by simp [nxQ, hm]; omega
  rcases Nat.lt_or_ge (nxR mm w s) 6 with q | q
  · exact q
  · have := fs_no (P := nxQ mm w s) (n := 6) (j := c) (Nat.lt_of_lt_of_le hc q)
    rw [hq] at this
    cases this
def wlR (mm : Nat → Nat → Bool) (w : Nat → Nat) (st k : Nat) : Nat := fo (fun _ a => a ^^^ 1 <<< nxR mm w a) st k
def cdR (mm : Nat → Nat → Bool) (w : Nat → Nat) (s : Nat) : Nat := nxR mm w s + if s.testBit (nxR mm w s) then 0 else 10
def wyR (mm : Nat → Nat → Bool) (w : Nat → Nat) (st i : Nat) : Int32 := if w st = 1000 ∨ w st ≤ i then -1 else nI (cdR mm w (wlR mm w st i))
set_option maxHeartbeats 4000000 in
set_option maxRecDepth 100000 in
theorem c_X6_layWays (l : Launch) (D : va_G) (cI cZ : ClassId) (mx : Nat) (m1 : Nat) (m2 : Nat) (m3 : Nat) (m4 : Nat) (m5 : Nat) (m6 : Nat) (m7 : Nat) (m8 : Nat) (m9 : Nat) (m10 : Nat) (n : Nat) (nl : Nat) (ct : Nat) (aA : Nat → Nat) (aO : Nat → Bool) (aB : Nat → Nat) (aI : Nat → Bool) (ww : Nat → Nat) (hnl : nl ≤ 12) (haA : ∀ k, aA k < 6) (haB : ∀ k, aB k < 6) : MV l D cI cZ yX6_layWays wsX6_layWays ({ frames := 2, cells := 0, slots := 0, locals := 51 }) [.ref mx] [(mx, .inr (6, [.int (nI n), .ref m1, .ref m2, .ref m3, .ref m4, .int (nI nl), .ref m5, .ref m6, .ref m7, .ref m8, .ref m9, .int (nI ct), .ref m10])), (m5, .inl (cI, 12, .inl (iA aA))), (m6, .inl (cZ, 12, .inl (bA aO))), (m7, .inl (cI, 12, .inl (iA aB))), (m8, .inl (cZ, 12, .inl (bA aI))), (m10, .inl (cI, 64, .inl (iA ww)))] 0 0 (fun w => ∃ w9 : Nat → Nat, (INVW (mvR aA aB aO aI nl) w9) ∧ (FIXW (mvR aA aB aO aI nl) w9) ∧ w = [(mx, .inr (6, [.int (nI n), .ref m1, .ref m2, .ref m3, .ref m4, .int (nI nl), .ref m5, .ref m6, .ref m7, .ref m8, .ref m9, .int (nI ct), .ref m10])), (m5, .inl (cI, 12, .inl (iA aA))), (m6, .inl (cZ, 12, .inl (bA aO))), (m7, .inl (cI, 12, .inl (iA aB))), (m8, .inl (cZ, 12, .inl (bA aI))), (m10, .inl (cI, 64, .inl (iA w9)))]) := by
  refine MV.of (cc := cX6_layWays) (maxL := 4) (ret := none) (own := RX6) (by decide) rfl rfl (Nat.le_of_ble_eq_true rfl) ?_
  intro pQ eQ s mQ args below meth cQ A X hnm hw ls hl
  obtain ⟨⟨hx, hb, hml, hown, hts⟩, hr, hlk, hK, hN, hA⟩ := id X
  have hl : lv_has ls 4 [(0, .ref mx)] := hl
  have n6 : ∀ w ∈ wsX60, w ∈ wsX6_layWays := by decide +kernel
  have f38 : FF args s RX6 wsX6_layWays 38 6 12 := ⟨_, rfl, by decide, n6, hts (.fieldLink RX6 38 "AirStepsModel" "ways" "[I") (by decide +kernel)⟩
  refine lv_iconst (v := nI 0) hx hb dX6_layWays_0 (by decide) ?_
  refine lv_istore_n (lv' := [(1, .int (nI 0)), (0, .ref mx)]) hx hb dX6_layWays_1 rfl hl (by decide) rfl (fun ls hl => ?_)
  refine wl (α := (Nat → Nat) × Nat) (nL := 4) (fun aQ => 64 - aQ.2) (fun aQ => (aQ.2 ≤ 64) ∧ (∀ j, j < aQ.2 → aQ.1 j = if j = 0 then 0 else 1000)) (fun aQ => [(mx, .inr (6, [.int (nI n), .ref m1, .ref m2, .ref m3, .ref m4, .int (nI nl), .ref m5, .ref m6, .ref m7, .ref m8, .ref m9, .int (nI ct), .ref m10])), (m5, .inl (cI, 12, .inl (iA aA))), (m6, .inl (cZ, 12, .inl (bA aO))), (m7, .inl (cI, 12, .inl (iA aB))), (m8, .inl (cZ, 12, .inl (bA aI))), (m10, .inl (cI, 64, .inl (iA aQ.1)))]) (fun aQ => [(1, .int (nI aQ.2)), (0, .ref mx)]) ?_ (ww, 0) ⟨(show 0 ≤ 64 from by omega), (show ∀ j, j < 0 → ww j = if j = 0 then 0 else 1000 from fun j hj => absurd hj (Nat.not_lt_zero j))⟩ _ _ _ hw (lv_sub hl [0, 1] rfl)
  rintro ⟨f, i⟩ ⟨hi, hf⟩ H locs ls hw hl ih_2
  have hi : i ≤ 64 := hi
  have hf : ∀ j, j < i → f j = if j = 0 then 0 else 1000 := hf
  have hw : WD D A s.heap [(mx, .inr (6, [.int (nI n), .ref m1, .ref m2, .ref m3, .ref m4, .int (nI nl), .ref m5, .ref m6, .ref m7, .ref m8, .ref m9, .int (nI ct), .ref m10])), (m5, .inl (cI, 12, .inl (iA aA))), (m6, .inl (cZ, 12, .inl (bA aO))), (m7, .inl (cI, 12, .inl (iA aB))), (m8, .inl (cZ, 12, .inl (bA aI))), (m10, .inl (cI, 64, .inl (iA f)))] H locs := hw
  have hl : lv_has ls 4 [(1, .int (nI i)), (0, .ref mx)] := hl
  refine lv_iload_n hx hb dX6_layWays_2 rfl (lv_at hl 0 rfl) ?_
  refine lv_bipush (v := nI 63) hx hb dX6_layWays_3 (by decide) ?_
  refine lv_icmp_gt (tgt := 31) hx hb dX6_layWays_5 (by decide) (fun c_5 => ?_) (fun c_5 => ?_)
  · skip
    rw [nI_ltI (by omega) (by omega)] at c_5
    refine lv_iconst (v := nI 1) hx hb dX6_layWays_31 (by decide) ?_
    refine lv_istore_n (lv' := [(1, .int (nI 1)), (0, .ref mx)]) hx hb dX6_layWays_32 rfl hl (by decide) rfl (fun ls hl => ?_)
    refine wl (α := (Nat → Nat) × Bool) (nL := 4) (fun aQ => 2 * sumF aQ.1 64 + aQ.2.toNat) (fun aQ => (INVW (mvR aA aB aO aI nl) aQ.1) ∧ (aQ.2 = false → FIXW (mvR aA aB aO aI nl) aQ.1)) (fun aQ => [(mx, .inr (6, [.int (nI n), .ref m1, .ref m2, .ref m3, .ref m4, .int (nI nl), .ref m5, .ref m6, .ref m7, .ref m8, .ref m9, .int (nI ct), .ref m10])), (m5, .inl (cI, 12, .inl (iA aA))), (m6, .inl (cZ, 12, .inl (bA aO))), (m7, .inl (cI, 12, .inl (iA aB))), (m8, .inl (cZ, 12, .inl (bA aI))), (m10, .inl (cI, 64, .inl (iA aQ.1)))]) (fun aQ => [(1, .int (bI aQ.2)), (0, .ref mx)]) ?_ (f, true) ⟨(show INVW (mvR aA aB aO aI nl) f from INVW_init (fun j hj => hf j (by omega))), (show true = false → FIXW (mvR aA aB aO aI nl) f from fun h => by cases h)⟩ _ _ _ hw (lv_sub hl [0, 1] rfl)
    rintro ⟨w0, b0⟩ ⟨hI, hF⟩ H locs ls hw hl ih_33
    have hI : INVW (mvR aA aB aO aI nl) w0 := hI
    have hF : b0 = false → FIXW (mvR aA aB aO aI nl) w0 := hF
    have hw : WD D A s.heap [(mx, .inr (6, [.int (nI n), .ref m1, .ref m2, .ref m3, .ref m4, .int (nI nl), .ref m5, .ref m6, .ref m7, .ref m8, .ref m9, .int (nI ct), .ref m10])), (m5, .inl (cI, 12, .inl (iA aA))), (m6, .inl (cZ, 12, .inl (bA aO))), (m7, .inl (cI, 12, .inl (iA aB))), (m8, .inl (cZ, 12, .inl (bA aI))), (m10, .inl (cI, 64, .inl (iA w0)))] H locs := hw
    have hl : lv_has ls 4 [(1, .int (bI b0)), (0, .ref mx)] := hl
    refine lv_iload_n hx hb dX6_layWays_33 rfl (lv_at hl 0 rfl) ?_
    refine lv_if_eq (tgt := 120) hx hb dX6_layWays_34 (by decide) (fun c_34 => ?_) (fun c_34 => ?_)
    · skip
      rw [q_b0] at c_34; try simp only [Bool.not_eq_false, Bool.not_eq_true] at c_34
      exact x_vret X hw (⟨w0, (hI), (hF c_34), rfl⟩) dX6_layWays_120
    · skip
      rw [q_b0] at c_34; try simp only [Bool.not_eq_false, Bool.not_eq_true] at c_34
      refine lv_iconst (v := nI 0) hx hb dX6_layWays_37 (by decide) ?_
      refine lv_istore_n (lv' := [(1, .int (nI 0)), (0, .ref mx)]) hx hb dX6_layWays_38 rfl hl (by decide) rfl (fun ls hl => ?_)
      refine lv_iconst (v := nI 0) hx hb dX6_layWays_39 (by decide) ?_
      refine lv_istore_n (lv' := [(2, .int (nI 0)), (1, .int (nI 0)), (0, .ref mx)]) hx hb dX6_layWays_40 rfl hl (by decide) rfl (fun ls hl => ?_)
      refine wl (α := (Nat → Nat) × Bool × Nat) (nL := 4) (fun aQ => 64 - aQ.2.2) (fun aQ => (aQ.2.2 ≤ 64) ∧ (PA (mvR aA aB aO aI nl) w0 aQ.1 aQ.2.1 aQ.2.2)) (fun aQ => [(mx, .inr (6, [.int (nI n), .ref m1, .ref m2, .ref m3, .ref m4, .int (nI nl), .ref m5, .ref m6, .ref m7, .ref m8, .ref m9, .int (nI ct), .ref m10])), (m5, .inl (cI, 12, .inl (iA aA))), (m6, .inl (cZ, 12, .inl (bA aO))), (m7, .inl (cI, 12, .inl (iA aB))), (m8, .inl (cZ, 12, .inl (bA aI))), (m10, .inl (cI, 64, .inl (iA aQ.1)))]) (fun aQ => [(2, .int (nI aQ.2.2)), (1, .int (bI aQ.2.1)), (0, .ref mx)]) ?_ (w0, false, 0) ⟨(show 0 ≤ 64 from by omega), (show PA (mvR aA aB aO aI nl) w0 w0 false 0 from ⟨hI, fun h => (by cases h), fun _ => ⟨rfl, fun t ht => absurd ht (Nat.not_lt_zero t)⟩⟩)⟩ _ _ _ hw (lv_sub hl [0, 1, 2] rfl)
      rintro ⟨w1, b1, s1⟩ ⟨hs1, hA⟩ H locs ls hw hl ih_41
      have hs1 : s1 ≤ 64 := hs1
      have hA : PA (mvR aA aB aO aI nl) w0 w1 b1 s1 := hA
      have hw : WD D A s.heap [(mx, .inr (6, [.int (nI n), .ref m1, .ref m2, .ref m3, .ref m4, .int (nI nl), .ref m5, .ref m6, .ref m7, .ref m8, .ref m9, .int (nI ct), .ref m10])), (m5, .inl (cI, 12, .inl (iA aA))), (m6, .inl (cZ, 12, .inl (bA aO))), (m7, .inl (cI, 12, .inl (iA aB))), (m8, .inl (cZ, 12, .inl (bA aI))), (m10, .inl (cI, 64, .inl (iA w1)))] H locs := hw
      have hl : lv_has ls 4 [(2, .int (nI s1)), (1, .int (bI b1)), (0, .ref mx)] := hl
      refine lv_iload_n hx hb dX6_layWays_41 rfl (lv_at hl 0 rfl) ?_
      refine lv_bipush (v := nI 63) hx hb dX6_layWays_42 (by decide) ?_
      refine lv_icmp_gt (tgt := 117) hx hb dX6_layWays_44 (by decide) (fun c_44 => ?_) (fun c_44 => ?_)
      · skip
        rw [nI_ltI (by omega) (by omega)] at c_44
        refine lv_goto (tgt := 33) hx hb dX6_layWays_117 (by decide) ?_
        exact ih_33 (w1, b1) (by show 2 * sumF w1 64 + b1.toNat < 2 * sumF w0 64 + b0.toNat; rw [c_34]; exact PA_mu hA) ⟨(show INVW (mvR aA aB aO aI nl) w1 from hA.1), (show b1 = false → FIXW (mvR aA aB aO aI nl) w1 from PA_fix hA (by omega))⟩ _ _ _ hw (lv_sub hl [1, 2] rfl)
      · skip
        rw [nI_ltI (by omega) (by omega)] at c_44
        refine lv_iconst (v := nI 0) hx hb dX6_layWays_47 (by decide) ?_
        refine lv_istore_n (lv' := [(3, .int (nI 0)), (2, .int (nI s1)), (1, .int (bI b1)), (0, .ref mx)]) hx hb dX6_layWays_48 rfl hl (by decide) rfl (fun ls hl => ?_)
        refine wl (α := (Nat → Nat) × Bool × Nat) (nL := 4) (fun aQ => 6 - aQ.2.2) (fun aQ => (aQ.2.2 ≤ 6) ∧ (PB (mvR aA aB aO aI nl) w0 aQ.1 aQ.2.1 s1 aQ.2.2)) (fun aQ => [(mx, .inr (6, [.int (nI n), .ref m1, .ref m2, .ref m3, .ref m4, .int (nI nl), .ref m5, .ref m6, .ref m7, .ref m8, .ref m9, .int (nI ct), .ref m10])), (m5, .inl (cI, 12, .inl (iA aA))), (m6, .inl (cZ, 12, .inl (bA aO))), (m7, .inl (cI, 12, .inl (iA aB))), (m8, .inl (cZ, 12, .inl (bA aI))), (m10, .inl (cI, 64, .inl (iA aQ.1)))]) (fun aQ => [(3, .int (nI aQ.2.2)), (2, .int (nI s1)), (1, .int (bI aQ.2.1)), (0, .ref mx)]) ?_ (w1, b1, 0) ⟨(show 0 ≤ 6 from by omega), (show PB (mvR aA aB aO aI nl) w0 w1 b1 s1 0 from PA_beg hA)⟩ _ _ _ hw (lv_sub hl [0, 1, 2, 3] rfl)
        rintro ⟨w2, b2, k⟩ ⟨hk, hB⟩ H locs ls hw hl ih_49
        have hk : k ≤ 6 := hk
        have hB : PB (mvR aA aB aO aI nl) w0 w2 b2 s1 k := hB
        have hw : WD D A s.heap [(mx, .inr (6, [.int (nI n), .ref m1, .ref m2, .ref m3, .ref m4, .int (nI nl), .ref m5, .ref m6, .ref m7, .ref m8, .ref m9, .int (nI ct), .ref m10])), (m5, .inl (cI, 12, .inl (iA aA))), (m6, .inl (cZ, 12, .inl (bA aO))), (m7, .inl (cI, 12, .inl (iA aB))), (m8, .inl (cZ, 12, .inl (bA aI))), (m10, .inl (cI, 64, .inl (iA w2)))] H locs := hw
        have hl : lv_has ls 4 [(3, .int (nI k)), (2, .int (nI s1)), (1, .int (bI b2)), (0, .ref mx)] := hl
        have hbw := hB.1.2.1
        refine lv_iload_n hx hb dX6_layWays_49 rfl (lv_at hl 0 rfl) ?_
        refine lv_bipush (v := nI 6) hx hb dX6_layWays_50 (by decide) ?_
        refine lv_icmp_ge (tgt := 111) hx hb dX6_layWays_52 (by decide) (fun c_52 => ?_) (fun c_52 => ?_)
        · skip
          rw [nI_leI (by omega) (by omega)] at c_52
          refine lv_iinc (v := nI (s1 + 1)) (lv' := [(2, .int (nI (s1 + 1))), (3, .int (nI k)), (1, .int (bI b2)), (0, .ref mx)]) hx hb dX6_layWays_111 hl (k := 1) rfl (nI_add s1 1) (by decide) rfl (fun ls hl => ?_)
          refine lv_goto (tgt := 41) hx hb dX6_layWays_114 (by decide) ?_
          exact ih_41 (w2, b2, s1 + 1) (by show 64 - (s1 + 1) < 64 - s1; omega) ⟨(show (s1 + 1) ≤ 64 from by omega), (show PA (mvR aA aB aO aI nl) w0 w2 b2 (s1 + 1) from PB_end hB (by omega))⟩ _ _ _ hw (lv_sub hl [0, 2, 3] rfl)
        · skip
          rw [nI_leI (by omega) (by omega)] at c_52
          have hx1 := xb_lt s1 (by omega) k (by omega)
          have hv1 := hbw _ hx1
          have hv2 := hbw s1 (by omega)
          refine lv_aload_n hx hb dX6_layWays_55 rfl (lv_at hl 3 rfl) ?_
          refine x_get X hw f38 0 rfl rfl dX6_layWays_56 ?_
          refine lv_iload_n hx hb dX6_layWays_59 rfl (lv_at hl 1 rfl) ?_
          refine lv_iconst (v := nI 1) hx hb dX6_layWays_60 (by decide) ?_
          refine lv_iload_n hx hb dX6_layWays_61 rfl (lv_at hl 0 rfl) ?_
          refine lv_ishl hx hb dX6_layWays_62 ?_
          refine cv_i (show (nI 1) <<< (nI k &&& 31) = nI (1 <<< k) from q_shl 1 k (by first | omega | assumption)) ?_
          refine lv_ixor hx hb dX6_layWays_63 ?_
          refine cv_i (show nI s1 ^^^ nI (1 <<< k) = nI (s1 ^^^ (1 <<< k)) from q_xor s1 (1 <<< k)) ?_
          refine x_aldN X hw 5 rfl (by omega) (by omega) dX6_layWays_64 ?_
          refine lv_iconst (v := nI 1) hx hb dX6_layWays_65 (by decide) ?_
          refine lv_iadd hx hb dX6_layWays_66 ?_
          refine cv_i (show nI (w2 (s1 ^^^ (1 <<< k))) + nI 1 = nI ((w2 (s1 ^^^ (1 <<< k))) + 1) from nI_add (w2 (s1 ^^^ (1 <<< k))) 1) ?_
          refine lv_aload_n hx hb dX6_layWays_67 rfl (lv_at hl 3 rfl) ?_
          refine x_get X hw f38 0 rfl rfl dX6_layWays_68 ?_
          refine lv_iload_n hx hb dX6_layWays_71 rfl (lv_at hl 1 rfl) ?_
          refine x_aldN X hw 5 rfl (by omega) (by omega) dX6_layWays_72 ?_
          refine lv_icmp_ge (tgt := 105) hx hb dX6_layWays_73 (by decide) (fun c_73 => ?_) (fun c_73 => ?_)
          · skip
            rw [nI_leI (by omega) (by omega)] at c_73
            refine lv_iinc (v := nI (k + 1)) (lv' := [(3, .int (nI (k + 1))), (2, .int (nI s1)), (1, .int (bI b2)), (0, .ref mx)]) hx hb dX6_layWays_105 hl (k := 0) rfl (nI_add k 1) (by decide) rfl (fun ls hl => ?_)
            refine lv_goto (tgt := 49) hx hb dX6_layWays_108 (by decide) ?_
            exact ih_49 (w2, b2, k + 1) (by show 6 - (k + 1) < 6 - k; omega) ⟨(show (k + 1) ≤ 6 from by omega), (show PB (mvR aA aB aO aI nl) w0 w2 b2 s1 (k + 1) from PB_no hB (fun _ => c_73))⟩ _ _ _ hw (lv_sub hl [0, 1, 2, 3] rfl)
          · skip
            rw [nI_leI (by omega) (by omega)] at c_73
            refine lv_aload_n hx hb dX6_layWays_76 rfl (lv_at hl 3 rfl) ?_
            refine lv_iload_n hx hb dX6_layWays_77 rfl (lv_at hl 1 rfl) ?_
            refine lv_iload_n hx hb dX6_layWays_78 rfl (lv_at hl 0 rfl) ?_
            refine x_callV (As := [.int (nI s1), .int (nI k)]) (rest := []) X hw hl.1 (c_X6_mayMove l D cI cZ mx m1 m2 m3 m4 m5 m6 m7 m8 m9 m10 n nl ct aA aO aB aI s1 k (by first | assumption | omega) (by first | assumption | omega) (by first | assumption | omega) (by omega) (by omega)) (cwV 2 hts gX6_layWays_X6_mayMove rfl rfl rfl (by decide +kernel) ⟨Nat.le_of_ble_eq_true rfl, Nat.le_of_ble_eq_true rfl⟩) [0, 1, 2, 3, 4] rfl rfl 0 rfl rfl rfl rfl (Nat.le_of_ble_eq_true rfl) dX6_layWays_79 (by decide) (fun r w1 H locs hp hw1 => ?_)
            obtain ⟨rfl, rfl⟩ := hp
            have hw : WD D A s.heap [(mx, .inr (6, [.int (nI n), .ref m1, .ref m2, .ref m3, .ref m4, .int (nI nl), .ref m5, .ref m6, .ref m7, .ref m8, .ref m9, .int (nI ct), .ref m10])), (m5, .inl (cI, 12, .inl (iA aA))), (m6, .inl (cZ, 12, .inl (bA aO))), (m7, .inl (cI, 12, .inl (iA aB))), (m8, .inl (cZ, 12, .inl (bA aI))), (m10, .inl (cI, 64, .inl (iA w2)))] H locs := hw1 rfl
            refine lv_if_eq (tgt := 105) hx hb dX6_layWays_82 (by decide) (fun c_82 => ?_) (fun c_82 => ?_)
            · skip
              rw [q_b0] at c_82; try simp only [Bool.not_eq_false, Bool.not_eq_true] at c_82
              refine lv_iinc (v := nI (k + 1)) (lv' := [(3, .int (nI (k + 1))), (2, .int (nI s1)), (1, .int (bI b2)), (0, .ref mx)]) hx hb dX6_layWays_105 hl (k := 0) rfl (nI_add k 1) (by decide) rfl (fun ls hl => ?_)
              refine lv_goto (tgt := 49) hx hb dX6_layWays_108 (by decide) ?_
              exact ih_49 (w2, b2, k + 1) (by show 6 - (k + 1) < 6 - k; omega) ⟨(show (k + 1) ≤ 6 from by omega), (show PB (mvR aA aB aO aI nl) w0 w2 b2 s1 (k + 1) from by first | exact PB_no hB (fun h => by rw [c_82] at h; cases h) | exact PB_up hB (by omega) (by omega) c_82 (by omega))⟩ _ _ _ hw (lv_sub hl [0, 1, 2, 3] rfl)
            · skip
              rw [q_b0] at c_82; try simp only [Bool.not_eq_false, Bool.not_eq_true] at c_82
              refine lv_aload_n hx hb dX6_layWays_85 rfl (lv_at hl 3 rfl) ?_
              refine x_get X hw f38 0 rfl rfl dX6_layWays_86 ?_
              refine lv_iload_n hx hb dX6_layWays_89 rfl (lv_at hl 1 rfl) ?_
              refine lv_aload_n hx hb dX6_layWays_90 rfl (lv_at hl 3 rfl) ?_
              refine x_get X hw f38 0 rfl rfl dX6_layWays_91 ?_
              refine lv_iload_n hx hb dX6_layWays_94 rfl (lv_at hl 1 rfl) ?_
              refine lv_iconst (v := nI 1) hx hb dX6_layWays_95 (by decide) ?_
              refine lv_iload_n hx hb dX6_layWays_96 rfl (lv_at hl 0 rfl) ?_
              refine lv_ishl hx hb dX6_layWays_97 ?_
              refine cv_i (show (nI 1) <<< (nI k &&& 31) = nI (1 <<< k) from q_shl 1 k (by first | omega | assumption)) ?_
              refine lv_ixor hx hb dX6_layWays_98 ?_
              refine cv_i (show nI s1 ^^^ nI (1 <<< k) = nI (s1 ^^^ (1 <<< k)) from q_xor s1 (1 <<< k)) ?_
              refine x_aldN X hw 5 rfl (by omega) (by omega) dX6_layWays_99 ?_
              refine lv_iconst (v := nI 1) hx hb dX6_layWays_100 (by decide) ?_
              refine lv_iadd hx hb dX6_layWays_101 ?_
              refine cv_i (show nI (w2 (s1 ^^^ (1 <<< k))) + nI 1 = nI ((w2 (s1 ^^^ (1 <<< k))) + 1) from nI_add (w2 (s1 ^^^ (1 <<< k))) 1) ?_
              refine x_astN X hw 5 rfl (by omega) (by omega) dX6_layWays_102 (fun H locs hw => ?_)
              have hw : WD D A s.heap [(mx, .inr (6, [.int (nI n), .ref m1, .ref m2, .ref m3, .ref m4, .int (nI nl), .ref m5, .ref m6, .ref m7, .ref m8, .ref m9, .int (nI ct), .ref m10])), (m5, .inl (cI, 12, .inl (iA aA))), (m6, .inl (cZ, 12, .inl (bA aO))), (m7, .inl (cI, 12, .inl (iA aB))), (m8, .inl (cZ, 12, .inl (bA aI))), (m10, .inl (cI, 64, .inl (iA (va_up w2 s1 ((w2 (s1 ^^^ (1 <<< k))) + 1)))))] H locs := hw
              refine lv_iconst (v := nI 1) hx hb dX6_layWays_103 (by decide) ?_
              refine lv_istore_n (lv' := [(1, .int (nI 1)), (3, .int (nI k)), (2, .int (nI s1)), (0, .ref mx)]) hx hb dX6_layWays_104 rfl hl (by decide) rfl (fun ls hl => ?_)
              refine lv_iinc (v := nI (k + 1)) (lv' := [(3, .int (nI (k + 1))), (1, .int (nI 1)), (2, .int (nI s1)), (0, .ref mx)]) hx hb dX6_layWays_105 hl (k := 1) rfl (nI_add k 1) (by decide) rfl (fun ls hl => ?_)
              refine lv_goto (tgt := 49) hx hb dX6_layWays_108 (by decide) ?_
              exact ih_49 (va_up w2 s1 ((w2 (s1 ^^^ (1 <<< k))) + 1), true, k + 1) (by show 6 - (k + 1) < 6 - k; omega) ⟨(show (k + 1) ≤ 6 from by omega), (show PB (mvR aA aB aO aI nl) w0 (va_up w2 s1 ((w2 (s1 ^^^ (1 <<< k))) + 1)) true s1 (k + 1) from by first | exact PB_no hB (fun h => by rw [c_82] at h; cases h) | exact PB_up hB (by omega) (by omega) c_82 (by omega))⟩ _ _ _ hw (lv_sub hl [0, 2, 1, 3] rfl)
  · skip
    rw [nI_ltI (by omega) (by omega)] at c_5
    refine lv_aload_n hx hb dX6_layWays_8 rfl (lv_at hl 1 rfl) ?_
    refine x_get X hw f38 0 rfl rfl dX6_layWays_9 ?_
    refine lv_iload_n hx hb dX6_layWays_12 rfl (lv_at hl 0 rfl) ?_
    refine lv_iload_n hx hb dX6_layWays_13 rfl (lv_at hl 0 rfl) ?_
    refine lv_if_ne (tgt := 21) hx hb dX6_layWays_14 (by decide) (fun c_14 => ?_) (fun c_14 => ?_)
    · skip
      rw [q_eq0 (by omega)] at c_14
      refine lv_sipush (v := nI 1000) hx hb dX6_layWays_21 (by decide) ?_
      refine x_astN X hw 5 rfl (by omega) (by omega) dX6_layWays_24 (fun H locs hw => ?_)
      have hw : WD D A s.heap [(mx, .inr (6, [.int (nI n), .ref m1, .ref m2, .ref m3, .ref m4, .int (nI nl), .ref m5, .ref m6, .ref m7, .ref m8, .ref m9, .int (nI ct), .ref m10])), (m5, .inl (cI, 12, .inl (iA aA))), (m6, .inl (cZ, 12, .inl (bA aO))), (m7, .inl (cI, 12, .inl (iA aB))), (m8, .inl (cZ, 12, .inl (bA aI))), (m10, .inl (cI, 64, .inl (iA (va_up f i 1000))))] H locs := hw
      refine lv_iinc (v := nI (i + 1)) (lv' := [(1, .int (nI (i + 1))), (0, .ref mx)]) hx hb dX6_layWays_25 hl (k := 0) rfl (nI_add i 1) (by decide) rfl (fun ls hl => ?_)
      refine lv_goto (tgt := 2) hx hb dX6_layWays_28 (by decide) ?_
      exact ih_2 (va_up f i 1000, i + 1) (by show 64 - (i + 1) < 64 - i; omega) ⟨(show (i + 1) ≤ 64 from by omega), (show ∀ j, j < (i + 1) → (va_up f i 1000) j = if j = 0 then 0 else 1000 from up_g (g := fun j => if j = 0 then 0 else 1000) hf (by simp [c_14]))⟩ _ _ _ hw (lv_sub hl [0, 1] rfl)
    · skip
      rw [q_eq0 (by omega)] at c_14
      refine lv_iconst (v := nI 0) hx hb dX6_layWays_17 (by decide) ?_
      refine lv_goto (tgt := 24) hx hb dX6_layWays_18 (by decide) ?_
      refine x_astN X hw 5 rfl (by omega) (by omega) dX6_layWays_24 (fun H locs hw => ?_)
      have hw : WD D A s.heap [(mx, .inr (6, [.int (nI n), .ref m1, .ref m2, .ref m3, .ref m4, .int (nI nl), .ref m5, .ref m6, .ref m7, .ref m8, .ref m9, .int (nI ct), .ref m10])), (m5, .inl (cI, 12, .inl (iA aA))), (m6, .inl (cZ, 12, .inl (bA aO))), (m7, .inl (cI, 12, .inl (iA aB))), (m8, .inl (cZ, 12, .inl (bA aI))), (m10, .inl (cI, 64, .inl (iA (va_up f i 0))))] H locs := hw
      refine lv_iinc (v := nI (i + 1)) (lv' := [(1, .int (nI (i + 1))), (0, .ref mx)]) hx hb dX6_layWays_25 hl (k := 0) rfl (nI_add i 1) (by decide) rfl (fun ls hl => ?_)
      refine lv_goto (tgt := 2) hx hb dX6_layWays_28 (by decide) ?_
      exact ih_2 (va_up f i 0, i + 1) (by show 64 - (i + 1) < 64 - i; omega) ⟨(show (i + 1) ≤ 64 from by omega), (show ∀ j, j < (i + 1) → (va_up f i 0) j = if j = 0 then 0 else 1000 from up_g (g := fun j => if j = 0 then 0 else 1000) hf (by simp [c_14]))⟩ _ _ _ hw (lv_sub hl [0, 1] rfl)
set_option maxHeartbeats 4000000 in
set_option maxRecDepth 100000 in
theorem c_X6_home (l : Launch) (D : va_G) (cI cZ : ClassId) (mx : Nat) (m1 : Nat) (m2 : Nat) (m3 : Nat) (m4 : Nat) (m5 : Nat) (m6 : Nat) (m7 : Nat) (m8 : Nat) (m9 : Nat) (m10 : Nat) (n : Nat) (nl : Nat) (ct : Nat) (aA : Nat → Nat) (aO : Nat → Bool) (aB : Nat → Nat) (aI : Nat → Bool) (ww : Nat → Nat) (x : Int32) (hnl : nl ≤ 12) (haA : ∀ k, aA k < 6) (haB : ∀ k, aB k < 6) : MI l D cI cZ yX6_home wsX6_home ({ frames := 3, cells := 0, slots := 0, locals := 74 }) [.ref mx, .int x] [(mx, .inr (6, [.int (nI n), .ref m1, .ref m2, .ref m3, .ref m4, .int (nI nl), .ref m5, .ref m6, .ref m7, .ref m8, .ref m9, .int (nI ct), .ref m10])), (m5, .inl (cI, 12, .inl (iA aA))), (m6, .inl (cZ, 12, .inl (bA aO))), (m7, .inl (cI, 12, .inl (iA aB))), (m8, .inl (cZ, 12, .inl (bA aI))), (m10, .inl (cI, 64, .inl (iA ww)))] (fun r w => ∃ w9 : Nat → Nat, (bel x (nI 64) = true → INVW (mvR aA aB aO aI nl) w9) ∧ (bel x (nI 64) = true → FIXW (mvR aA aB aO aI nl) w9) ∧ r = (if bel x (nI 64) then (if w9 x.toNatClampNeg = 1000 then -1 else nI (w9 x.toNatClampNeg)) else -2) ∧ w = [(mx, .inr (6, [.int (nI n), .ref m1, .ref m2, .ref m3, .ref m4, .int (nI nl), .ref m5, .ref m6, .ref m7, .ref m8, .ref m9, .int (nI ct), .ref m10])), (m5, .inl (cI, 12, .inl (iA aA))), (m6, .inl (cZ, 12, .inl (bA aO))), (m7, .inl (cI, 12, .inl (iA aB))), (m8, .inl (cZ, 12, .inl (bA aI))), (m10, .inl (cI, 64, .inl (iA w9)))]) := by
  refine MI.of (cc := cX6_home) (maxL := 2) (ret := (some .int)) (own := RX6) (by decide) rfl rfl (Nat.le_of_ble_eq_true rfl) ?_
  intro pQ eQ s mQ args below meth cQ A X hw ls hl
  obtain ⟨⟨hx, hb, hml, hown, hts⟩, hr, hlk, hK, hN, hA⟩ := id X
  have hl : lv_has ls 2 [(0, .ref mx), (1, .int x)] := hl
  have n6 : ∀ w ∈ wsX60, w ∈ wsX6_home := by decide +kernel
  have f38 : FF args s RX6 wsX6_home 38 6 12 := ⟨_, rfl, by decide, n6, hts (.fieldLink RX6 38 "AirStepsModel" "ways" "[I") (by decide +kernel)⟩
  refine lv_iload_n hx hb dX6_home_0 rfl (lv_at hl 1 rfl) ?_
  refine lv_iconst (v := nI 0) hx hb dX6_home_1 (by decide) ?_
  refine lv_bipush (v := nI 63) hx hb dX6_home_2 (by decide) ?_
  refine x_callS (As := [.int x, .int (nI 0), .int (nI 63)]) (rest := []) X hw hl.1 (c_X6_in l D cI cZ x (nI 0) (nI 63) ) (va_cwS 3 hts gX6_home_X6_in rfl rfl rfl (by decide +kernel) ⟨Nat.le_of_ble_eq_true rfl, Nat.le_of_ble_eq_true rfl⟩) [] rfl rfl rfl (Nat.le_of_ble_eq_true rfl) dX6_home_4 (by decide) (fun r w1 H locs hp hw1 => ?_)
  obtain ⟨rfl, rfl⟩ := hp
  have hw : WD D A s.heap [(mx, .inr (6, [.int (nI n), .ref m1, .ref m2, .ref m3, .ref m4, .int (nI nl), .ref m5, .ref m6, .ref m7, .ref m8, .ref m9, .int (nI ct), .ref m10])), (m5, .inl (cI, 12, .inl (iA aA))), (m6, .inl (cZ, 12, .inl (bA aO))), (m7, .inl (cI, 12, .inl (iA aB))), (m8, .inl (cZ, 12, .inl (bA aI))), (m10, .inl (cI, 64, .inl (iA ww)))] H locs := hw1 rfl
  refine cv_i (show bI (inn x (nI 0) (nI 63)) = bI (bel x (nI 64)) from congrArg bI (inn_bel x (by decide))) ?_
  refine lv_if_ne (tgt := 13) hx hb dX6_home_7 (by decide) (fun c_7 => ?_) (fun c_7 => ?_)
  · skip
    rw [q_b0] at c_7; try simp only [Bool.not_eq_false, Bool.not_eq_true] at c_7
    obtain ⟨k, hk, rfl⟩ := bel_t (by decide) c_7
    refine lv_aload_n hx hb dX6_home_13 rfl (lv_at hl 0 rfl) ?_
    refine x_callVv (As := []) (rest := []) X hw hl.1 (c_X6_layWays l D cI cZ mx m1 m2 m3 m4 m5 m6 m7 m8 m9 m10 n nl ct aA aO aB aI ww (by first | assumption | omega) (by first | assumption | omega) (by first | assumption | omega)) (cwV 0 hts gX6_home_X6_layWays rfl rfl rfl (by decide +kernel) ⟨Nat.le_of_ble_eq_true rfl, Nat.le_of_ble_eq_true rfl⟩) [0, 1, 2, 3, 4, 5] rfl rfl 0 rfl rfl rfl rfl (Nat.le_of_ble_eq_true rfl) dX6_home_14 (by decide) (fun w1 H locs hp hw1 => ?_)
    obtain ⟨w2, hI2, hF2, rfl⟩ := hp
    have hw : WD D A s.heap [(mx, .inr (6, [.int (nI n), .ref m1, .ref m2, .ref m3, .ref m4, .int (nI nl), .ref m5, .ref m6, .ref m7, .ref m8, .ref m9, .int (nI ct), .ref m10])), (m5, .inl (cI, 12, .inl (iA aA))), (m6, .inl (cZ, 12, .inl (bA aO))), (m7, .inl (cI, 12, .inl (iA aB))), (m8, .inl (cZ, 12, .inl (bA aI))), (m10, .inl (cI, 64, .inl (iA w2)))] H locs := hw1 rfl
    have hwk := hI2.2.1 k hk
    refine lv_aload_n hx hb dX6_home_17 rfl (lv_at hl 0 rfl) ?_
    refine x_get X hw f38 0 rfl rfl dX6_home_18 ?_
    refine lv_iload_n hx hb dX6_home_21 rfl (lv_at hl 1 rfl) ?_
    refine x_aldN X hw 5 rfl (by omega) (by omega) dX6_home_22 ?_
    refine lv_sipush (v := nI 1000) hx hb dX6_home_23 (by decide) ?_
    refine lv_icmp_ne (tgt := 33) hx hb dX6_home_26 (by decide) (fun c_26 => ?_) (fun c_26 => ?_)
    · skip
      rw [nI_eq (by omega) (by omega)] at c_26
      refine lv_aload_n hx hb dX6_home_33 rfl (lv_at hl 0 rfl) ?_
      refine x_get X hw f38 0 rfl rfl dX6_home_34 ?_
      refine lv_iload_n hx hb dX6_home_37 rfl (lv_at hl 1 rfl) ?_
      refine x_aldN X hw 5 rfl (by omega) (by omega) dX6_home_38 ?_
      exact x_iret X hw (⟨w2, (fun _ => hI2), (fun _ => hF2), (by rw [c_7, nc k (by omega)]; simp [c_26]), rfl⟩) dX6_home_39
    · skip
      rw [nI_eq (by omega) (by omega)] at c_26
      refine lv_iconst (v := (-1)) hx hb dX6_home_29 (by decide) ?_
      refine lv_goto (tgt := 39) hx hb dX6_home_30 (by decide) ?_
      exact x_iret X hw (⟨w2, (fun _ => hI2), (fun _ => hF2), (by rw [c_7, nc k (by omega)]; simp [c_26]), rfl⟩) dX6_home_39
  · skip
    rw [q_b0] at c_7; try simp only [Bool.not_eq_false, Bool.not_eq_true] at c_7
    refine lv_bipush (v := (-2)) hx hb dX6_home_10 (by decide) ?_
    exact x_iret X hw (⟨ww, (fun h => by rw [c_7] at h; cases h), (fun h => by rw [c_7] at h; cases h), (by rw [c_7]; rfl), rfl⟩) dX6_home_12
set_option maxHeartbeats 4000000 in
set_option maxRecDepth 100000 in
theorem c_X6_way (l : Launch) (D : va_G) (cI cZ : ClassId) (mx : Nat) (m1 : Nat) (m2 : Nat) (m3 : Nat) (m4 : Nat) (m5 : Nat) (m6 : Nat) (m7 : Nat) (m8 : Nat) (m9 : Nat) (m10 : Nat) (n : Nat) (nl : Nat) (ct : Nat) (aA : Nat → Nat) (aO : Nat → Bool) (aB : Nat → Nat) (aI : Nat → Bool) (ww : Nat → Nat) (x : Int32) (y : Int32) (hnl : nl ≤ 12) (haA : ∀ k, aA k < 6) (haB : ∀ k, aB k < 6) : MI l D cI cZ yX6_way wsX6_way ({ frames := 3, cells := 0, slots := 0, locals := 74 }) [.ref mx, .int x, .int y] [(mx, .inr (6, [.int (nI n), .ref m1, .ref m2, .ref m3, .ref m4, .int (nI nl), .ref m5, .ref m6, .ref m7, .ref m8, .ref m9, .int (nI ct), .ref m10])), (m5, .inl (cI, 12, .inl (iA aA))), (m6, .inl (cZ, 12, .inl (bA aO))), (m7, .inl (cI, 12, .inl (iA aB))), (m8, .inl (cZ, 12, .inl (bA aI))), (m10, .inl (cI, 64, .inl (iA ww)))] (fun r w => ∃ w9 : Nat → Nat, (bel x (nI 64) = true ∧ ¬ y < 0 → INVW (mvR aA aB aO aI nl) w9) ∧ (bel x (nI 64) = true ∧ ¬ y < 0 → FIXW (mvR aA aB aO aI nl) w9) ∧ r = (if bel x (nI 64) = true ∧ ¬ y < 0 then wyR (mvR aA aB aO aI nl) w9 x.toNatClampNeg y.toNatClampNeg else -2) ∧ w = [(mx, .inr (6, [.int (nI n), .ref m1, .ref m2, .ref m3, .ref m4, .int (nI nl), .ref m5, .ref m6, .ref m7, .ref m8, .ref m9, .int (nI ct), .ref m10])), (m5, .inl (cI, 12, .inl (iA aA))), (m6, .inl (cZ, 12, .inl (bA aO))), (m7, .inl (cI, 12, .inl (iA aB))), (m8, .inl (cZ, 12, .inl (bA aI))), (m10, .inl (cI, 64, .inl (iA w9)))]) := by
  refine MI.of (cc := cX6_way) (maxL := 7) (ret := (some .int)) (own := RX6) (by decide) rfl rfl (Nat.le_of_ble_eq_true rfl) ?_
  intro pQ eQ s mQ args below meth cQ A X hw ls hl
  obtain ⟨⟨hx, hb, hml, hown, hts⟩, hr, hlk, hK, hN, hA⟩ := id X
  have hl : lv_has ls 7 [(0, .ref mx), (1, .int x), (2, .int y)] := hl
  have n6 : ∀ w ∈ wsX60, w ∈ wsX6_way := by decide +kernel
  have f38 : FF args s RX6 wsX6_way 38 6 12 := ⟨_, rfl, by decide, n6, hts (.fieldLink RX6 38 "AirStepsModel" "ways" "[I") (by decide +kernel)⟩
  refine lv_iload_n hx hb dX6_way_0 rfl (lv_at hl 1 rfl) ?_
  refine lv_iconst (v := nI 0) hx hb dX6_way_1 (by decide) ?_
  refine lv_bipush (v := nI 63) hx hb dX6_way_2 (by decide) ?_
  refine x_callS (As := [.int x, .int (nI 0), .int (nI 63)]) (rest := []) X hw hl.1 (c_X6_in l D cI cZ x (nI 0) (nI 63) ) (va_cwS 3 hts gX6_way_X6_in rfl rfl rfl (by decide +kernel) ⟨Nat.le_of_ble_eq_true rfl, Nat.le_of_ble_eq_true rfl⟩) [] rfl rfl rfl (Nat.le_of_ble_eq_true rfl) dX6_way_4 (by decide) (fun r w1 H locs hp hw1 => ?_)
  obtain ⟨rfl, rfl⟩ := hp
  have hw : WD D A s.heap [(mx, .inr (6, [.int (nI n), .ref m1, .ref m2, .ref m3, .ref m4, .int (nI nl), .ref m5, .ref m6, .ref m7, .ref m8, .ref m9, .int (nI ct), .ref m10])), (m5, .inl (cI, 12, .inl (iA aA))), (m6, .inl (cZ, 12, .inl (bA aO))), (m7, .inl (cI, 12, .inl (iA aB))), (m8, .inl (cZ, 12, .inl (bA aI))), (m10, .inl (cI, 64, .inl (iA ww)))] H locs := hw1 rfl
  refine cv_i (show bI (inn x (nI 0) (nI 63)) = bI (bel x (nI 64)) from congrArg bI (inn_bel x (by decide))) ?_
  refine lv_if_eq (tgt := 14) hx hb dX6_way_7 (by decide) (fun c_7 => ?_) (fun c_7 => ?_)
  · skip
    rw [q_b0] at c_7; try simp only [Bool.not_eq_false, Bool.not_eq_true] at c_7
    refine lv_bipush (v := (-2)) hx hb dX6_way_14 (by decide) ?_
    exact x_iret X hw (⟨ww, (fun h => by rw [c_7] at h; exact absurd h.1 (by decide)), (fun h => by rw [c_7] at h; exact absurd h.1 (by decide)), (by rw [if_neg (fun h => by rw [c_7] at h; exact absurd h.1 (by decide))]), rfl⟩) dX6_way_16
  · skip
    rw [q_b0] at c_7; try simp only [Bool.not_eq_false, Bool.not_eq_true] at c_7
    obtain ⟨st, hst1, rfl⟩ := bel_t (by decide) c_7
    refine lv_iload_n hx hb dX6_way_10 rfl (lv_at hl 2 rfl) ?_
    refine lv_if_ge (tgt := 17) hx hb dX6_way_11 (by decide) (fun c_11 => ?_) (fun c_11 => ?_)
    · skip
      have c_11 : ¬ y < 0 := Int32.not_lt.mpr c_11
      obtain ⟨i, hi9, rfl⟩ := nI_of c_11
      refine lv_aload_n hx hb dX6_way_17 rfl (lv_at hl 0 rfl) ?_
      refine x_callVv (As := []) (rest := []) X hw hl.1 (c_X6_layWays l D cI cZ mx m1 m2 m3 m4 m5 m6 m7 m8 m9 m10 n nl ct aA aO aB aI ww (by first | assumption | omega) (by first | assumption | omega) (by first | assumption | omega)) (cwV 0 hts gX6_way_X6_layWays rfl rfl rfl (by decide +kernel) ⟨Nat.le_of_ble_eq_true rfl, Nat.le_of_ble_eq_true rfl⟩) [0, 1, 2, 3, 4, 5] rfl rfl 0 rfl rfl rfl rfl (Nat.le_of_ble_eq_true rfl) dX6_way_18 (by decide) (fun w1 H locs hp hw1 => ?_)
      obtain ⟨w2, hI2, hF2, rfl⟩ := hp
      have hw : WD D A s.heap [(mx, .inr (6, [.int (nI n), .ref m1, .ref m2, .ref m3, .ref m4, .int (nI nl), .ref m5, .ref m6, .ref m7, .ref m8, .ref m9, .int (nI ct), .ref m10])), (m5, .inl (cI, 12, .inl (iA aA))), (m6, .inl (cZ, 12, .inl (bA aO))), (m7, .inl (cI, 12, .inl (iA aB))), (m8, .inl (cZ, 12, .inl (bA aI))), (m10, .inl (cI, 64, .inl (iA w2)))] H locs := hw1 rfl
      refine lv_iload_n hx hb dX6_way_21 rfl (lv_at hl 1 rfl) ?_
      refine lv_istore_n (lv' := [(3, .int (nI st)), (0, .ref mx), (1, .int (nI st)), (2, .int (nI i))]) hx hb dX6_way_22 rfl hl (by decide) rfl (fun ls hl => ?_)
      refine lv_iconst (v := (-1)) hx hb dX6_way_23 (by decide) ?_
      refine lv_istore (lv' := [(4, .int (-1)), (3, .int (nI st)), (0, .ref mx), (1, .int (nI st)), (2, .int (nI i))]) hx hb dX6_way_24 hl (by decide) rfl (fun ls hl => ?_)
      refine lv_iconst (v := nI 0) hx hb dX6_way_26 (by decide) ?_
      refine lv_istore (lv' := [(5, .int (nI 0)), (4, .int (-1)), (3, .int (nI st)), (0, .ref mx), (1, .int (nI st)), (2, .int (nI i))]) hx hb dX6_way_27 hl (by decide) rfl (fun ls hl => ?_)
      refine wl (α := Nat × Int32 × Nat) (nL := 7) (fun aQ => w2 aQ.1) (fun aQ => (aQ.2.2 ≤ i + 1) ∧ (aQ.1 < 64) ∧ (aQ.1 = wlR (mvR aA aB aO aI nl) w2 st aQ.2.2) ∧ (w2 aQ.1 + aQ.2.2 = w2 st) ∧ (w2 st = 1000 → aQ.2.2 = 0) ∧ (aQ.2.1 = if aQ.2.2 = 0 then -1 else nI (cdR (mvR aA aB aO aI nl) w2 (wlR (mvR aA aB aO aI nl) w2 st (aQ.2.2 - 1))))) (fun aQ => [(mx, .inr (6, [.int (nI n), .ref m1, .ref m2, .ref m3, .ref m4, .int (nI nl), .ref m5, .ref m6, .ref m7, .ref m8, .ref m9, .int (nI ct), .ref m10])), (m5, .inl (cI, 12, .inl (iA aA))), (m6, .inl (cZ, 12, .inl (bA aO))), (m7, .inl (cI, 12, .inl (iA aB))), (m8, .inl (cZ, 12, .inl (bA aI))), (m10, .inl (cI, 64, .inl (iA w2)))]) (fun aQ => [(5, .int (nI aQ.2.2)), (4, .int aQ.2.1), (3, .int (nI aQ.1)), (0, .ref mx), (1, .int (nI st)), (2, .int (nI i))]) ?_ (st, (-1), 0) ⟨(show 0 ≤ i + 1 from by omega), (show st < 64 from hst1), (show st = wlR (mvR aA aB aO aI nl) w2 st 0 from rfl), (show w2 st + 0 = w2 st from by omega), (show w2 st = 1000 → 0 = 0 from fun _ => rfl), (show (-1) = if 0 = 0 then -1 else nI (cdR (mvR aA aB aO aI nl) w2 (wlR (mvR aA aB aO aI nl) w2 st (0 - 1))) from rfl)⟩ _ _ _ hw (lv_sub hl [0, 1, 2, 3, 4, 5] rfl)
      rintro ⟨s1, tl, k⟩ ⟨hk, hs64, hsw, hwk, hfar, htl⟩ H locs ls hw hl ih_29
      have hk : k ≤ i + 1 := hk
      have hs64 : s1 < 64 := hs64
      have hsw : s1 = wlR (mvR aA aB aO aI nl) w2 st k := hsw
      have hwk : w2 s1 + k = w2 st := hwk
      have hfar : w2 st = 1000 → k = 0 := hfar
      have htl : tl = if k = 0 then -1 else nI (cdR (mvR aA aB aO aI nl) w2 (wlR (mvR aA aB aO aI nl) w2 st (k - 1))) := htl
      have hw : WD D A s.heap [(mx, .inr (6, [.int (nI n), .ref m1, .ref m2, .ref m3, .ref m4, .int (nI nl), .ref m5, .ref m6, .ref m7, .ref m8, .ref m9, .int (nI ct), .ref m10])), (m5, .inl (cI, 12, .inl (iA aA))), (m6, .inl (cZ, 12, .inl (bA aO))), (m7, .inl (cI, 12, .inl (iA aB))), (m8, .inl (cZ, 12, .inl (bA aI))), (m10, .inl (cI, 64, .inl (iA w2)))] H locs := hw
      have hl : lv_has ls 7 [(5, .int (nI k)), (4, .int tl), (3, .int (nI s1)), (0, .ref mx), (1, .int (nI st)), (2, .int (nI i))] := hl
      have hws := hI2.2.1 s1 hs64
      have hwt := hI2.2.1 st hst1
      refine lv_iload hx hb dX6_way_29 (lv_at hl 0 rfl) ?_
      refine lv_iload_n hx hb dX6_way_31 rfl (lv_at hl 5 rfl) ?_
      refine lv_icmp_gt (tgt := 132) hx hb dX6_way_32 (by decide) (fun c_32 => ?_) (fun c_32 => ?_)
      · skip
        rw [nI_ltI (by omega) (by omega)] at c_32
        refine lv_iload hx hb dX6_way_132 (lv_at hl 1 rfl) ?_
        exact x_iret X hw (⟨w2, (fun _ => hI2), (fun _ => hF2), (by rw [if_pos ⟨c_7, c_11⟩, nc st (by omega), nc i hi9]; unfold wyR; rw [if_neg (by omega), htl, if_neg (by omega), show k - 1 = i by omega]), rfl⟩) dX6_way_134
      · skip
        rw [nI_ltI (by omega) (by omega)] at c_32
        refine lv_aload_n hx hb dX6_way_35 rfl (lv_at hl 3 rfl) ?_
        refine x_get X hw f38 0 rfl rfl dX6_way_36 ?_
        refine lv_iload_n hx hb dX6_way_39 rfl (lv_at hl 2 rfl) ?_
        refine x_aldN X hw 5 rfl (by omega) (by omega) dX6_way_40 ?_
        refine lv_if_eq (tgt := 56) hx hb dX6_way_41 (by decide) (fun c_41 => ?_) (fun c_41 => ?_)
        · skip
          rw [q_eq0 (by omega)] at c_41
          refine lv_iconst (v := (-1)) hx hb dX6_way_56 (by decide) ?_
          exact x_iret X hw (⟨w2, (fun _ => hI2), (fun _ => hF2), (by rw [if_pos ⟨c_7, c_11⟩, nc st (by omega), nc i hi9]; unfold wyR; rw [if_pos (by omega)]), rfl⟩) dX6_way_57
        · skip
          rw [q_eq0 (by omega)] at c_41
          refine lv_aload_n hx hb dX6_way_44 rfl (lv_at hl 3 rfl) ?_
          refine x_get X hw f38 0 rfl rfl dX6_way_45 ?_
          refine lv_iload_n hx hb dX6_way_48 rfl (lv_at hl 2 rfl) ?_
          refine x_aldN X hw 5 rfl (by omega) (by omega) dX6_way_49 ?_
          refine lv_sipush (v := nI 1000) hx hb dX6_way_50 (by decide) ?_
          refine lv_icmp_ne (tgt := 58) hx hb dX6_way_53 (by decide) (fun c_53 => ?_) (fun c_53 => ?_)
          · skip
            rw [nI_eq (by omega) (by omega)] at c_53
            have hnx := nxR_lt hI2 hF2 hs64 c_41 c_53
            refine lv_iconst (v := nI 0) hx hb dX6_way_58 (by decide) ?_
            refine lv_istore (lv' := [(6, .int (nI 0)), (5, .int (nI k)), (4, .int tl), (3, .int (nI s1)), (0, .ref mx), (1, .int (nI st)), (2, .int (nI i))]) hx hb dX6_way_59 hl (by decide) rfl (fun ls hl => ?_)
            refine wl (α := Nat) (nL := 7) (fun aQ => 6 - aQ) (fun aQ => (aQ ≤ nxR (mvR aA aB aO aI nl) w2 s1)) (fun aQ => [(mx, .inr (6, [.int (nI n), .ref m1, .ref m2, .ref m3, .ref m4, .int (nI nl), .ref m5, .ref m6, .ref m7, .ref m8, .ref m9, .int (nI ct), .ref m10])), (m5, .inl (cI, 12, .inl (iA aA))), (m6, .inl (cZ, 12, .inl (bA aO))), (m7, .inl (cI, 12, .inl (iA aB))), (m8, .inl (cZ, 12, .inl (bA aI))), (m10, .inl (cI, 64, .inl (iA w2)))]) (fun aQ => [(6, .int (nI aQ)), (5, .int (nI k)), (4, .int tl), (3, .int (nI s1)), (0, .ref mx), (1, .int (nI st)), (2, .int (nI i))]) ?_ 0 (show 0 ≤ nxR (mvR aA aB aO aI nl) w2 s1 from Nat.zero_le _) _ _ _ hw (lv_sub hl [0, 1, 2, 3, 4, 5, 6] rfl)
            rintro c9 hcl H locs ls hw hl ih_61
            have hcl : c9 ≤ nxR (mvR aA aB aO aI nl) w2 s1 := hcl
            have hw : WD D A s.heap [(mx, .inr (6, [.int (nI n), .ref m1, .ref m2, .ref m3, .ref m4, .int (nI nl), .ref m5, .ref m6, .ref m7, .ref m8, .ref m9, .int (nI ct), .ref m10])), (m5, .inl (cI, 12, .inl (iA aA))), (m6, .inl (cZ, 12, .inl (bA aO))), (m7, .inl (cI, 12, .inl (iA aB))), (m8, .inl (cZ, 12, .inl (bA aI))), (m10, .inl (cI, 64, .inl (iA w2)))] H locs := hw
            have hl : lv_has ls 7 [(6, .int (nI c9)), (5, .int (nI k)), (4, .int tl), (3, .int (nI s1)), (0, .ref mx), (1, .int (nI st)), (2, .int (nI i))] := hl
            have hx1 := xb_lt s1 hs64 c9 (by omega)
            have hv1 := hI2.2.1 _ hx1
            refine lv_aload_n hx hb dX6_way_61 rfl (lv_at hl 4 rfl) ?_
            refine x_get X hw f38 0 rfl rfl dX6_way_62 ?_
            refine lv_iload_n hx hb dX6_way_65 rfl (lv_at hl 3 rfl) ?_
            refine lv_iconst (v := nI 1) hx hb dX6_way_66 (by decide) ?_
            refine lv_iload hx hb dX6_way_67 (lv_at hl 0 rfl) ?_
            refine lv_ishl hx hb dX6_way_69 ?_
            refine cv_i (show (nI 1) <<< (nI c9 &&& 31) = nI (1 <<< c9) from q_shl 1 c9 (by first | omega | assumption)) ?_
            refine lv_ixor hx hb dX6_way_70 ?_
            refine cv_i (show nI s1 ^^^ nI (1 <<< c9) = nI (s1 ^^^ (1 <<< c9)) from q_xor s1 (1 <<< c9)) ?_
            refine x_aldN X hw 5 rfl (by omega) (by omega) dX6_way_71 ?_
            refine lv_iconst (v := nI 1) hx hb dX6_way_72 (by decide) ?_
            refine lv_iadd hx hb dX6_way_73 ?_
            refine cv_i (show nI (w2 (s1 ^^^ (1 <<< c9))) + nI 1 = nI ((w2 (s1 ^^^ (1 <<< c9))) + 1) from nI_add (w2 (s1 ^^^ (1 <<< c9))) 1) ?_
            refine lv_aload_n hx hb dX6_way_74 rfl (lv_at hl 4 rfl) ?_
            refine x_get X hw f38 0 rfl rfl dX6_way_75 ?_
            refine lv_iload_n hx hb dX6_way_78 rfl (lv_at hl 3 rfl) ?_
            refine x_aldN X hw 5 rfl (by omega) (by omega) dX6_way_79 ?_
            refine lv_icmp_ne (tgt := 93) hx hb dX6_way_80 (by decide) (fun c_80 => ?_) (fun c_80 => ?_)
            · skip
              rw [nI_eq (by omega) (by omega)] at c_80
              refine lv_iinc (v := nI (c9 + 1)) (lv' := [(6, .int (nI (c9 + 1))), (5, .int (nI k)), (4, .int tl), (3, .int (nI s1)), (0, .ref mx), (1, .int (nI st)), (2, .int (nI i))]) hx hb dX6_way_93 hl (k := 0) rfl (nI_add c9 1) (by decide) rfl (fun ls hl => ?_)
              refine lv_goto (tgt := 61) hx hb dX6_way_96 (by decide) ?_
              exact ih_61 (c9 + 1) (by show 6 - (c9 + 1) < 6 - c9; omega) (show (c9 + 1) ≤ nxR (mvR aA aB aO aI nl) w2 s1 from by refine fs_step hcl hnx ?_; first | (simp [nxQ, c_90]; done) | (simp [nxQ, c_80]; done)) _ _ _ hw (lv_sub hl [0, 1, 2, 3, 4, 5, 6] rfl)
            · skip
              rw [nI_eq (by omega) (by omega)] at c_80
              refine lv_aload_n hx hb dX6_way_83 rfl (lv_at hl 4 rfl) ?_
              refine lv_iload_n hx hb dX6_way_84 rfl (lv_at hl 3 rfl) ?_
              refine lv_iload hx hb dX6_way_85 (lv_at hl 0 rfl) ?_
              refine x_callV (As := [.int (nI s1), .int (nI c9)]) (rest := []) X hw hl.1 (c_X6_mayMove l D cI cZ mx m1 m2 m3 m4 m5 m6 m7 m8 m9 m10 n nl ct aA aO aB aI s1 c9 (by first | assumption | omega) (by first | assumption | omega) (by first | assumption | omega) (hs64) (by omega)) (cwV 2 hts gX6_way_X6_mayMove rfl rfl rfl (by decide +kernel) ⟨Nat.le_of_ble_eq_true rfl, Nat.le_of_ble_eq_true rfl⟩) [0, 1, 2, 3, 4] rfl rfl 0 rfl rfl rfl rfl (Nat.le_of_ble_eq_true rfl) dX6_way_87 (by decide) (fun r w1 H locs hp hw1 => ?_)
              obtain ⟨rfl, rfl⟩ := hp
              have hw : WD D A s.heap [(mx, .inr (6, [.int (nI n), .ref m1, .ref m2, .ref m3, .ref m4, .int (nI nl), .ref m5, .ref m6, .ref m7, .ref m8, .ref m9, .int (nI ct), .ref m10])), (m5, .inl (cI, 12, .inl (iA aA))), (m6, .inl (cZ, 12, .inl (bA aO))), (m7, .inl (cI, 12, .inl (iA aB))), (m8, .inl (cZ, 12, .inl (bA aI))), (m10, .inl (cI, 64, .inl (iA w2)))] H locs := hw1 rfl
              refine lv_if_ne (tgt := 99) hx hb dX6_way_90 (by decide) (fun c_90 => ?_) (fun c_90 => ?_)
              · skip
                rw [q_b0] at c_90; try simp only [Bool.not_eq_false, Bool.not_eq_true] at c_90
                have hqc : nxQ (mvR aA aB aO aI nl) w2 s1 c9 = true := by simp [nxQ, c_80, c_90]
                have hce : c9 = nxR (mvR aA aB aO aI nl) w2 s1 := fs_at hcl hqc
                refine lv_iload hx hb dX6_way_99 (lv_at hl 0 rfl) ?_
                refine lv_iload_n hx hb dX6_way_101 rfl (lv_at hl 3 rfl) ?_
                refine lv_iload hx hb dX6_way_102 (lv_at hl 0 rfl) ?_
                refine lv_ishr hx hb dX6_way_104 ?_
                refine cv_i (show (nI s1) >>> (nI c9 &&& 31) = nI (s1 >>> c9) from q_shr s1 c9 (by first | omega | assumption) (by first | omega | assumption)) ?_
                refine lv_iconst (v := nI 1) hx hb dX6_way_105 (by decide) ?_
                refine lv_iand hx hb dX6_way_106 ?_
                refine cv_i (show nI (s1 >>> c9) &&& nI 1 = bI (s1.testBit c9) from q_bit s1 c9) ?_
                refine lv_if_ne (tgt := 115) hx hb dX6_way_107 (by decide) (fun c_107 => ?_) (fun c_107 => ?_)
                · skip
                  rw [q_b0] at c_107; try simp only [Bool.not_eq_false, Bool.not_eq_true] at c_107
                  refine lv_iconst (v := nI 0) hx hb dX6_way_115 (by decide) ?_
                  refine lv_iadd hx hb dX6_way_116 ?_
                  refine cv_i (show nI c9 + nI 0 = nI (c9 + 0) from nI_add c9 0) ?_
                  refine lv_istore (lv' := [(4, .int (nI (c9 + 0))), (6, .int (nI c9)), (5, .int (nI k)), (3, .int (nI s1)), (0, .ref mx), (1, .int (nI st)), (2, .int (nI i))]) hx hb dX6_way_117 hl (by decide) rfl (fun ls hl => ?_)
                  refine lv_iload_n hx hb dX6_way_119 rfl (lv_at hl 3 rfl) ?_
                  refine lv_iconst (v := nI 1) hx hb dX6_way_120 (by decide) ?_
                  refine lv_iload hx hb dX6_way_121 (lv_at hl 1 rfl) ?_
                  refine lv_ishl hx hb dX6_way_123 ?_
                  refine cv_i (show (nI 1) <<< (nI c9 &&& 31) = nI (1 <<< c9) from q_shl 1 c9 (by first | omega | assumption)) ?_
                  refine lv_ixor hx hb dX6_way_124 ?_
                  refine cv_i (show nI s1 ^^^ nI (1 <<< c9) = nI (s1 ^^^ (1 <<< c9)) from q_xor s1 (1 <<< c9)) ?_
                  refine lv_istore_n (lv' := [(3, .int (nI (s1 ^^^ (1 <<< c9)))), (4, .int (nI (c9 + 0))), (6, .int (nI c9)), (5, .int (nI k)), (0, .ref mx), (1, .int (nI st)), (2, .int (nI i))]) hx hb dX6_way_125 rfl hl (by decide) rfl (fun ls hl => ?_)
                  refine lv_iinc (v := nI (k + 1)) (lv' := [(5, .int (nI (k + 1))), (3, .int (nI (s1 ^^^ (1 <<< c9)))), (4, .int (nI (c9 + 0))), (6, .int (nI c9)), (0, .ref mx), (1, .int (nI st)), (2, .int (nI i))]) hx hb dX6_way_126 hl (k := 3) rfl (nI_add k 1) (by decide) rfl (fun ls hl => ?_)
                  refine lv_goto (tgt := 29) hx hb dX6_way_129 (by decide) ?_
                  exact ih_29 (s1 ^^^ (1 <<< c9), nI (c9 + 0), k + 1) (by show w2 (s1 ^^^ (1 <<< c9)) < w2 s1; have hq9 := of_decide_eq_true (Bool.and_eq_true_iff.mp hqc).1; omega) ⟨(show (k + 1) ≤ i + 1 from by omega), (show (s1 ^^^ (1 <<< c9)) < 64 from hx1), (show (s1 ^^^ (1 <<< c9)) = wlR (mvR aA aB aO aI nl) w2 st (k + 1) from by rw [hsw] at hce; show _ = wlR (mvR aA aB aO aI nl) w2 st k ^^^ 1 <<< nxR (mvR aA aB aO aI nl) w2 (wlR (mvR aA aB aO aI nl) w2 st k); rw [← hce, ← hsw]), (show w2 (s1 ^^^ (1 <<< c9)) + (k + 1) = w2 st from by have hq9 := of_decide_eq_true (Bool.and_eq_true_iff.mp hqc).1; omega), (show w2 st = 1000 → (k + 1) = 0 from fun h => by omega), (show (nI (c9 + 0)) = if (k + 1) = 0 then -1 else nI (cdR (mvR aA aB aO aI nl) w2 (wlR (mvR aA aB aO aI nl) w2 st ((k + 1) - 1))) from by rw [if_neg (by omega), Nat.add_sub_cancel, ← hsw]; unfold cdR; rw [← hce]; first | (rw [if_neg (by rw [c_107]; decide)]; done) | (rw [if_pos c_107]; done))⟩ _ _ _ hw (lv_sub hl [0, 2, 1, 4, 5, 6] rfl)
                · skip
                  rw [q_b0] at c_107; try simp only [Bool.not_eq_false, Bool.not_eq_true] at c_107
                  refine lv_bipush (v := nI 10) hx hb dX6_way_110 (by decide) ?_
                  refine lv_goto (tgt := 116) hx hb dX6_way_112 (by decide) ?_
                  refine lv_iadd hx hb dX6_way_116 ?_
                  refine cv_i (show nI c9 + nI 10 = nI (c9 + 10) from nI_add c9 10) ?_
                  refine lv_istore (lv' := [(4, .int (nI (c9 + 10))), (6, .int (nI c9)), (5, .int (nI k)), (3, .int (nI s1)), (0, .ref mx), (1, .int (nI st)), (2, .int (nI i))]) hx hb dX6_way_117 hl (by decide) rfl (fun ls hl => ?_)
                  refine lv_iload_n hx hb dX6_way_119 rfl (lv_at hl 3 rfl) ?_
                  refine lv_iconst (v := nI 1) hx hb dX6_way_120 (by decide) ?_
                  refine lv_iload hx hb dX6_way_121 (lv_at hl 1 rfl) ?_
                  refine lv_ishl hx hb dX6_way_123 ?_
                  refine cv_i (show (nI 1) <<< (nI c9 &&& 31) = nI (1 <<< c9) from q_shl 1 c9 (by first | omega | assumption)) ?_
                  refine lv_ixor hx hb dX6_way_124 ?_
                  refine cv_i (show nI s1 ^^^ nI (1 <<< c9) = nI (s1 ^^^ (1 <<< c9)) from q_xor s1 (1 <<< c9)) ?_
                  refine lv_istore_n (lv' := [(3, .int (nI (s1 ^^^ (1 <<< c9)))), (4, .int (nI (c9 + 10))), (6, .int (nI c9)), (5, .int (nI k)), (0, .ref mx), (1, .int (nI st)), (2, .int (nI i))]) hx hb dX6_way_125 rfl hl (by decide) rfl (fun ls hl => ?_)
                  refine lv_iinc (v := nI (k + 1)) (lv' := [(5, .int (nI (k + 1))), (3, .int (nI (s1 ^^^ (1 <<< c9)))), (4, .int (nI (c9 + 10))), (6, .int (nI c9)), (0, .ref mx), (1, .int (nI st)), (2, .int (nI i))]) hx hb dX6_way_126 hl (k := 3) rfl (nI_add k 1) (by decide) rfl (fun ls hl => ?_)
                  refine lv_goto (tgt := 29) hx hb dX6_way_129 (by decide) ?_
                  exact ih_29 (s1 ^^^ (1 <<< c9), nI (c9 + 10), k + 1) (by show w2 (s1 ^^^ (1 <<< c9)) < w2 s1; have hq9 := of_decide_eq_true (Bool.and_eq_true_iff.mp hqc).1; omega) ⟨(show (k + 1) ≤ i + 1 from by omega), (show (s1 ^^^ (1 <<< c9)) < 64 from hx1), (show (s1 ^^^ (1 <<< c9)) = wlR (mvR aA aB aO aI nl) w2 st (k + 1) from by rw [hsw] at hce; show _ = wlR (mvR aA aB aO aI nl) w2 st k ^^^ 1 <<< nxR (mvR aA aB aO aI nl) w2 (wlR (mvR aA aB aO aI nl) w2 st k); rw [← hce, ← hsw]), (show w2 (s1 ^^^ (1 <<< c9)) + (k + 1) = w2 st from by have hq9 := of_decide_eq_true (Bool.and_eq_true_iff.mp hqc).1; omega), (show w2 st = 1000 → (k + 1) = 0 from fun h => by omega), (show (nI (c9 + 10)) = if (k + 1) = 0 then -1 else nI (cdR (mvR aA aB aO aI nl) w2 (wlR (mvR aA aB aO aI nl) w2 st ((k + 1) - 1))) from by rw [if_neg (by omega), Nat.add_sub_cancel, ← hsw]; unfold cdR; rw [← hce]; first | (rw [if_neg (by rw [c_107]; decide)]; done) | (rw [if_pos c_107]; done))⟩ _ _ _ hw (lv_sub hl [0, 2, 1, 4, 5, 6] rfl)
              · skip
                rw [q_b0] at c_90; try simp only [Bool.not_eq_false, Bool.not_eq_true] at c_90
                refine lv_iinc (v := nI (c9 + 1)) (lv' := [(6, .int (nI (c9 + 1))), (5, .int (nI k)), (4, .int tl), (3, .int (nI s1)), (0, .ref mx), (1, .int (nI st)), (2, .int (nI i))]) hx hb dX6_way_93 hl (k := 0) rfl (nI_add c9 1) (by decide) rfl (fun ls hl => ?_)
                refine lv_goto (tgt := 61) hx hb dX6_way_96 (by decide) ?_
                exact ih_61 (c9 + 1) (by show 6 - (c9 + 1) < 6 - c9; omega) (show (c9 + 1) ≤ nxR (mvR aA aB aO aI nl) w2 s1 from by refine fs_step hcl hnx ?_; first | (simp [nxQ, c_90]; done) | (simp [nxQ, c_80]; done)) _ _ _ hw (lv_sub hl [0, 1, 2, 3, 4, 5, 6] rfl)
          · skip
            rw [nI_eq (by omega) (by omega)] at c_53
            refine lv_iconst (v := (-1)) hx hb dX6_way_56 (by decide) ?_
            exact x_iret X hw (⟨w2, (fun _ => hI2), (fun _ => hF2), (by rw [if_pos ⟨c_7, c_11⟩, nc st (by omega), nc i hi9]; unfold wyR; rw [if_pos (by omega)]), rfl⟩) dX6_way_57
    · skip
      have c_11 : y < 0 := Int32.not_le.mp c_11
      refine lv_bipush (v := (-2)) hx hb dX6_way_14 (by decide) ?_
      exact x_iret X hw (⟨ww, (fun h => absurd c_11 h.2), (fun h => absurd c_11 h.2), (by rw [if_neg (fun h => h.2 c_11)]), rfl⟩) dX6_way_16
