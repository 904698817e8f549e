/-! ===== groups: runs, the fewest ===== -/
theorem up_at {α : Type} (f : Nat → α) (k : Nat) (v : α) : va_up f k v k = v := by unfold va_up; rw [if_pos rfl]
theorem up_ne {α : Type} (f : Nat → α) {k j : Nat} (v : α) (h : ¬ j = k) : va_up f k v j = f j := by unfold va_up; rw [if_neg h]
def rF (M : Nat → Nat) (n : Nat) : Nat → Nat → Nat → Bool
  | 0, _, _ => true
  | f + 1, q, mo => decide (mo &&& M (wrp n q) = 0) && rF M n f (q + 1) (mo ||| M (wrp n q))
theorem rF_s (M : Nat → Nat) (n f q mo : Nat) : rF M n (f + 1) q mo = (decide (mo &&& M (wrp n q) = 0) && rF M n f (q + 1) (mo ||| M (wrp n q))) := rfl
theorem rF_pre {M : Nat → Nat} {n b : Nat} : ∀ (a q mo : Nat), rF M n (a + b) q mo = true → rF M n a q mo = true
  | 0, _, _, _ => rfl
  | a + 1, q, mo, h => by
    rw [show a + 1 + b = a + b + 1 by omega, rF_s, Bool.and_eq_true] at h
    rw [rF_s, Bool.and_eq_true]
    exact ⟨h.1, rF_pre a _ _ h.2⟩
theorem rF_le {M : Nat → Nat} {n a b q mo : Nat} (hab : a ≤ b) (h : rF M n b q mo = true) : rF M n a q mo = true := by
  obtain ⟨d, rfl⟩ : ∃ d, b = a + d := ⟨b - a, by omega⟩
  exact rF_pre a q mo h
theorem rF_1 (M : Nat → Nat) (n q : Nat) : rF M n 1 q 0 = true := by
  rw [rF_s, Nat.zero_and]
  rfl
abbrev MC (en : Nat → Nat) : Nat → Nat := fun k => cyl (en k)
theorem ndF_spec (en ne : Nat → Nat) (n : Nat) : ∀ (f q mo fe : Nat), (rF (MC en) n f q mo = true → ndF en ne n f q mo fe = 1) ∧ (rF (MC en) n f q mo = false → ndF en ne n f q mo fe ≤ fe ∧ (∀ j, 1 ≤ j → j ≤ f → q + j < n → rF (MC en) n j q mo = true → ndF en ne n f q mo fe ≤ ne (q + j) + 1) ∧ (ndF en ne n f q mo fe = fe ∨ ∃ j, 1 ≤ j ∧ j ≤ f ∧ q + j < n ∧ rF (MC en) n j q mo = true ∧ ndF en ne n f q mo fe = ne (q + j) + 1))
  | 0, q, mo, fe => ⟨fun _ => rfl, fun h => by cases h⟩
  | f + 1, q, mo, fe => by
    obtain ⟨i1, i2⟩ := ndF_spec en ne n f (q + 1) (mo ||| cyl (en (wrp n q))) (if q + 1 < n then min fe (ne (q + 1) + 1) else fe)
    rw [ndF_s]
    by_cases h : mo &&& cyl (en (wrp n q)) = 0
    · have hr : ∀ j, rF (MC en) n (j + 1) q mo = rF (MC en) n j (q + 1) (mo ||| cyl (en (wrp n q))) := fun j => by
        rw [rF_s, decide_eq_true h, Bool.true_and]
      rw [if_pos h, hr f]
      refine ⟨i1, fun hf => ?_⟩
      obtain ⟨k1, k2, k3⟩ := i2 hf
      refine ⟨?_, fun j hj1 hj2 hjn hjr => ?_, ?_⟩
      · refine Nat.le_trans k1 ?_
        split
        · exact Nat.min_le_left _ _
        · exact Nat.le_refl _
      · rcases Nat.eq_or_lt_of_le hj1 with e | e
        · subst e
          refine Nat.le_trans k1 ?_
          rw [if_pos hjn]
          exact Nat.min_le_right _ _
        · obtain ⟨d, rfl⟩ : ∃ d, j = d + 1 := ⟨j - 1, by omega⟩
          rw [hr d] at hjr
          have := k2 d (by omega) (by omega) (by omega) hjr
          rwa [show q + 1 + d = q + (d + 1) by omega] at this
      · rcases k3 with e | ⟨j, hj1, hj2, hjn, hjr, e⟩
        · rw [e]
          by_cases hq : q + 1 < n
          · rw [if_pos hq]
            rcases Nat.le_total fe (ne (q + 1) + 1) with g | g
            · exact Or.inl (Nat.min_eq_left g)
            · exact Or.inr ⟨1, Nat.le_refl 1, by omega, hq, by rw [hr 0]; rfl, Nat.min_eq_right g⟩
          · rw [if_neg hq]
            exact Or.inl rfl
        · exact Or.inr ⟨j + 1, by omega, by omega, by omega, by rw [hr j]; exact hjr, by rw [e, show q + 1 + j = q + (j + 1) by omega]⟩
    · have hr : ∀ j, rF (MC en) n (j + 1) q mo = false := fun j => by
        rw [rF_s, decide_eq_false h]
        rfl
      rw [if_neg h, hr f]
      refine ⟨fun h => (by cases h), fun _ => ⟨Nat.le_refl _, fun j hj1 _ _ hjr => ?_, Or.inl rfl⟩⟩
      obtain ⟨d, rfl⟩ : ∃ d, j = d + 1 := ⟨j - 1, by omega⟩
      rw [hr d] at hjr
      cases hjr
section ND
variable {en : Nat → Nat} {n f0 p : Nat}
theorem nd_A (hp : p < n) (h : rF (MC en) n (n + f0 - p) p 0 = true) : ndI en n f0 p = 1 := by
  rw [ndI_fix en n f0 hp]
  exact (ndF_spec en _ n _ p 0 1000).1 h
theorem nd_ge (hp : p < n) : 1 ≤ ndI en n f0 p := by
  rw [ndI_fix en n f0 hp]
  exact ndF_ge _ _ _ _ _ _ _ (by decide)
theorem nd_B {x : Nat} (hp : p < x) (hx : x < n) (hr : rF (MC en) n (x - p) p 0 = true) : ndI en n f0 p ≤ ndI en n f0 x + 1 := by
  cases hf : rF (MC en) n (n + f0 - p) p 0 with
  | true =>
    rw [nd_A (by omega) hf]
    omega
  | false =>
    have h1 := ((ndF_spec en (ndI en n f0) n _ p 0 1000).2 hf).2.1 (x - p) (by omega) (by omega) (by omega) hr
    rw [show p + (x - p) = x by omega] at h1
    rw [ndI_fix en n f0 (show p < n by omega)]
    exact h1
theorem nd_C (hp : p < n) (h2 : 2 ≤ ndI en n f0 p) (h3 : ndI en n f0 p < 1000) : ∃ x, p < x ∧ x < n ∧ rF (MC en) n (x - p) p 0 = true ∧ ndI en n f0 p = ndI en n f0 x + 1 := by
  cases hf : rF (MC en) n (n + f0 - p) p 0 with
  | true =>
    rw [nd_A hp hf] at h2
    omega
  | false =>
    have e := ndI_fix en n f0 hp
    rcases ((ndF_spec en (ndI en n f0) n _ p 0 1000).2 hf).2.2 with g | ⟨j, hj1, hj2, hjn, hjr, g⟩
    · rw [e] at h3
      have : ndP en (ndI en n f0) n f0 p = 1000 := g
      omega
    · exact ⟨p + j, by omega, hjn, by rw [show p + j - p = j by omega]; exact hjr, by rw [e]; exact g⟩
theorem nd_1 (hp : p < n) (h : ndI en n f0 p = 1) : rF (MC en) n (n + f0 - p) p 0 = true := by
  cases hf : rF (MC en) n (n + f0 - p) p 0 with
  | true => rfl
  | false =>
    have e := ndI_fix en n f0 hp
    rw [h] at e
    rcases ((ndF_spec en (ndI en n f0) n _ p 0 1000).2 hf).2.2 with g | ⟨j, hj1, hj2, hjn, hjr, g⟩
    · have : ndP en (ndI en n f0) n f0 p = 1000 := g
      omega
    · have g2 : ndP en (ndI en n f0) n f0 p = ndI en n f0 (p + j) + 1 := g
      have := nd_ge (en := en) (f0 := f0) hjn
      omega
end ND
theorem nd_0 (en : Nat → Nat) (n : Nat) : ∀ d p, n - p = d → p < n → ndI en n 0 p ≤ n - p
  | 0, p, h, hp => by omega
  | d + 1, p, h, hp => by
    by_cases hl : p + 1 < n
    · have h1 := nd_0 en n d (p + 1) (by omega) hl
      have h2 := nd_B (en := en) (f0 := 0) (show p < p + 1 by omega) hl (by rw [show p + 1 - p = 1 by omega]; exact rF_1 _ _ _)
      omega
    · rw [nd_A hp (by rw [show n + 0 - p = 1 by omega]; exact rF_1 _ _ _)]
      omega
theorem bsF_spec (en : Nat → Nat) (n : Nat) : ∀ i, (∀ k, k < i → (bsF en n i).2 ≤ ndI en n k k) ∧ ((bsF en n i).2 = 1000 ∨ ((bsF en n i).2 = ndI en n (bsF en n i).1 (bsF en n i).1 ∧ ∀ k, k < (bsF en n i).1 → ndI en n (bsF en n i).1 (bsF en n i).1 < ndI en n k k))
  | 0 => ⟨fun k hk => absurd hk (Nat.not_lt_zero k), Or.inl rfl⟩
  | i + 1 => by
    obtain ⟨h1, h2⟩ := bsF_spec en n i
    have e : bsF en n (i + 1) = bsS en n i (bsF en n i) := rfl
    rw [e]
    unfold bsS
    by_cases h : ndI en n i i < (bsF en n i).2
    · rw [if_pos h]
      refine ⟨fun k hk => ?_, Or.inr ⟨rfl, fun k hk => ?_⟩⟩
      · rcases Nat.lt_or_ge k i with q | q
        · have := h1 k q
          show ndI en n i i ≤ _
          omega
        · rw [show k = i by omega]
          exact Nat.le_refl _
      · have := h1 k hk
        show ndI en n i i < _
        omega
    · rw [if_neg h]
      refine ⟨fun k hk => ?_, h2⟩
      rcases Nat.lt_or_ge k i with q | q
      · exact h1 k q
      · rw [show k = i by omega]
        omega
/-- the cuts that are collected -/
def CI (nd : Nat → Nat) (f0 e : Nat) (cu : Nat → Nat) (z lf : Nat) : Prop := 1 ≤ z ∧ cu 0 = f0 ∧ (∀ i, i + 1 < z → cu i < cu (i + 1)) ∧ cu (z - 1) < e ∧ lf = nd (cu (z - 1)) ∧ (∀ i, i + 1 < z → nd (cu (i + 1)) = nd (cu i) - 1 ∧ ∀ x, cu i < x → x < cu (i + 1) → ¬ nd x = nd (cu i) - 1) ∧ ∀ x, cu (z - 1) < x → x < e → ¬ nd x = lf - 1
theorem CI_all (nd : Nat → Nat) (f0 : Nat) (cu0 : Nat → Nat) : ∀ j, CI nd f0 (f0 + (j + 1)) (clF nd f0 cu0 (j + 1)).1 (clF nd f0 cu0 (j + 1)).2.1 (clF nd f0 cu0 (j + 1)).2.2
  | 0 => by
    have e : clF nd f0 cu0 (0 + 1) = (va_up cu0 0 (f0 + 0), 0 + 1, nd (f0 + 0)) := by
      show clS nd f0 0 (cu0, 0, 1000) = _
      unfold clS
      rw [if_pos (Or.inl rfl)]
    rw [e]
    refine ⟨Nat.le_refl 1, up_at cu0 0 (f0 + 0), fun i hi => absurd hi (by show ¬ i + 1 < 0 + 1; omega), ?_, ?_, fun i hi => absurd hi (by show ¬ i + 1 < 0 + 1; omega), fun x h1 h2 => ?_⟩
    · show va_up cu0 0 (f0 + 0) 0 < _
      rw [up_at]
      omega
    · show nd (f0 + 0) = nd (va_up cu0 0 (f0 + 0) 0)
      rw [up_at]
    · have h1 : va_up cu0 0 (f0 + 0) 0 < x := h1
      rw [up_at] at h1
      omega
  | j + 1 => by
    have ih := CI_all nd f0 cu0 j
    have e : clF nd f0 cu0 (j + 1 + 1) = clS nd f0 (j + 1) (clF nd f0 cu0 (j + 1)) := rfl
    rw [e]
    generalize clF nd f0 cu0 (j + 1) = a at ih
    obtain ⟨cu, z, lf⟩ := a
    have ih : CI nd f0 (f0 + (j + 1)) cu z lf := ih
    obtain ⟨h1, h2, h3, h4, h5, h6, h7⟩ := ih
    unfold clS
    by_cases h : j + 1 = 0 ∨ nd (f0 + (j + 1)) = lf - 1
    · rw [if_pos h]
      have hn : nd (f0 + (j + 1)) = lf - 1 := by
        rcases h with q | q
        · omega
        · exact q
      show CI nd f0 (f0 + (j + 1 + 1)) (va_up cu z (f0 + (j + 1))) (z + 1) (nd (f0 + (j + 1)))
      have hz : z + 1 - 1 = z := by omega
      have lo : ∀ i, i < z → va_up cu z (f0 + (j + 1)) i = cu i := fun i hi => up_ne _ _ (by omega)
      refine ⟨by omega, by rw [lo 0 (by omega)]; exact h2, fun i hi => ?_, ?_, ?_, fun i hi => ?_, fun x hx1 hx2 => ?_⟩
      · rw [lo i (by omega)]
        rcases Nat.lt_or_ge (i + 1) z with q | q
        · rw [lo _ q]
          exact h3 i q
        · rw [show i + 1 = z by omega, up_at, show i = z - 1 by omega]
          exact h4
      · rw [hz, up_at]
        omega
      · rw [hz, up_at]
      · rw [lo i (by omega)]
        rcases Nat.lt_or_ge (i + 1) z with q | q
        · rw [lo _ q]
          exact h6 i q
        · rw [show i + 1 = z by omega, up_at, show i = z - 1 by omega, ← h5]
          exact ⟨hn, h7⟩
      · rw [hz, up_at] at hx1
        omega
    · rw [if_neg h]
      show CI nd f0 (f0 + (j + 1 + 1)) cu z lf
      refine ⟨h1, h2, h3, by omega, h5, h6, fun x hx1 hx2 => ?_⟩
      rcases Nat.lt_or_ge x (f0 + (j + 1)) with q | q
      · exact h7 x hx1 q
      · rw [show x = f0 + (j + 1) by omega]
        exact fun q => h (Or.inr q)
/-- the cuts of the first best start: they fall by one, from K to 1 -/
def CHN (en : Nat → Nat) (n f0 K : Nat) (cu : Nat → Nat) : Prop := f0 < n ∧ 1 ≤ K ∧ cu 0 = f0 ∧ (∀ i, i + 1 < K → cu i < cu (i + 1)) ∧ (∀ i, i < K → cu i < n ∧ f0 ≤ cu i ∧ ndI en n f0 (cu i) = K - i) ∧ (∀ i, i + 1 < K → ∀ x, cu i < x → x < cu (i + 1) → ¬ ndI en n f0 x = K - i - 1) ∧ (∀ k, k < n → K ≤ ndI en n k k) ∧ ∀ k, k < f0 → K < ndI en n k k
theorem chn_of {en cu : Nat → Nat} {n sz : Nat} (hn0 : 0 < n) (hn : n ≤ 16) (F : FD en n cu sz) : CHN en n (bsF en n n).1 sz cu := by
  obtain ⟨nf, cu0, hnf, hcu, hsz⟩ := F
  have hb := bsF_lt en n n hn0
  obtain ⟨hs1, hs2⟩ := bsF_spec en n n
  have h16 := nd_0 en n n 0 (by omega) hn0
  have h0 := hs1 0 hn0
  rcases hs2 with g | ⟨g1, g2⟩
  · omega
  · generalize hfe : (bsF en n n).1 = f0 at *
    have hC := CI_all nf f0 cu0 (n - f0 - 1)
    rw [show n - f0 - 1 + 1 = n - f0 by omega, show f0 + (n - f0) = n by omega, ← hcu, ← hsz] at hC
    obtain ⟨c1, c2, c3, c4, c5, c6, c7⟩ := hC
    have hlo : ∀ i, i < sz → f0 ≤ cu i := by
      intro i
      induction i with
      | zero => intro _; omega
      | succ i ih =>
        intro hi
        have := c3 i hi
        have := ih (by omega)
        omega
    have hhi : ∀ d i, i + d + 1 = sz → cu i < n := by
      intro d
      induction d with
      | zero =>
        intro i hi
        rw [show i = sz - 1 by omega]
        exact c4
      | succ d ih =>
        intro i hi
        have := ih (i + 1) (by omega)
        have := c3 i (by omega)
        omega
    have hin : ∀ i, i < sz → cu i < n := fun i hi => hhi (sz - 1 - i) i (by omega)
    have hnd : ∀ i, i < sz → nf (cu i) = ndI en n f0 (cu i) := fun i hi => hnf _ (hlo i hi) (hin i hi)
    have hK : ∀ i, i < sz → ndI en n f0 (cu i) = ndI en n f0 f0 - i := by
      intro i
      induction i with
      | zero => intro _; rw [c2]; rfl
      | succ i ih =>
        intro hi
        rw [← hnd _ hi, (c6 i hi).1, hnd i (by omega), ih (by omega)]
        omega
    have hge : ∀ i, i < sz → 1 ≤ ndI en n f0 (cu i) := fun i hi => nd_ge (hin i hi)
    have hlast := hK (sz - 1) (by omega)
    have hl1 := hge (sz - 1) (by omega)
    have hone : ndI en n f0 (cu (sz - 1)) = 1 := by
      rcases Nat.lt_or_ge (ndI en n f0 (cu (sz - 1))) 2 with q | q
      · omega
      · obtain ⟨x, hx1, hx2, -, hx3⟩ := nd_C (hin (sz - 1) (by omega)) q (by omega)
        have := c7 x hx1 hx2
        rw [c5, hnd (sz - 1) (by omega), hnf x (by have := hlo (sz - 1) (by omega); omega) hx2] at this
        omega
    have hKz : ndI en n f0 f0 = sz := by omega
    refine ⟨hb, c1, c2, c3, fun i hi => ⟨hin i hi, hlo i hi, by rw [hK i hi, hKz]⟩, fun i hi x hx1 hx2 => ?_, fun k hk => by have := hs1 k hk; omega, fun k hk => by have := g2 k hk; omega⟩
    have h1 := (c6 i hi).2 x hx1 hx2
    have h2 := hlo i (by omega)
    have h3 := hin (i + 1) hi
    rw [hnf x (by omega) (by omega), hnd i (by omega), hK i (by omega), hKz] at h1
    exact h1
