/-! ===== the search from home is right ===== -/
def cnD (d : Nat → Nat) (i : Nat) : Nat := fo (fun s a => if d s = 0 then a else a + 1) 0 i
theorem cnD_le (d : Nat → Nat) : ∀ i : Nat, cnD d i ≤ i
  | 0 => Nat.le_refl 0
  | i + 1 => by
    have h := cnD_le d i
    show (if d i = 0 then cnD d i else cnD d i + 1) ≤ i + 1
    split <;> omega
theorem cnD_lt (d : Nat → Nat) {s : Nat} (hz : d s = 0) : ∀ i : Nat, s < i → cnD d i < i
  | 0, h => absurd h (Nat.not_lt_zero s)
  | i + 1, h => by
    have h1 := cnD_le d i
    show (if d i = 0 then cnD d i else cnD d i + 1) < i + 1
    by_cases hi : i = s
    · rw [hi, if_pos hz]
      rw [hi] at h1
      omega
    · have := cnD_lt d hz i (by omega)
      split <;> omega
theorem cnD_up (d : Nat → Nat) (s v : Nat) (hz : d s = 0) (hv : ¬ v = 0) : ∀ i : Nat, (i ≤ s → cnD (va_up d s v) i = cnD d i) ∧ (s < i → cnD (va_up d s v) i = cnD d i + 1)
  | 0 => ⟨fun _ => rfl, fun h => absurd h (Nat.not_lt_zero s)⟩
  | i + 1 => by
    obtain ⟨h1, h2⟩ := cnD_up d s v hz hv i
    have e1 : cnD (va_up d s v) (i + 1) = if va_up d s v i = 0 then cnD (va_up d s v) i else cnD (va_up d s v) i + 1 := rfl
    have e2 : cnD d (i + 1) = if d i = 0 then cnD d i else cnD d i + 1 := rfl
    rw [e1, e2]
    by_cases hi : i = s
    · have h3 : va_up d s v i = v := by unfold va_up; rw [if_pos hi]
      rw [h3, if_neg hv, hi, if_pos hz]
      rw [hi] at h1
      exact ⟨fun h => by omega, fun _ => by rw [h1 (Nat.le_refl s)]⟩
    · have h3 : va_up d s v i = d i := by unfold va_up; rw [if_neg hi]
      rw [h3]
      refine ⟨fun h => by rw [h1 (by omega)], fun h => ?_⟩
      rw [h2 (by omega)]
      split <;> omega
/-- what holds while state q i's moves below c are looked at -/
def BI3 (aw : Nat → Nat → Bool) (i c : Nat) (d q : Nat → Nat) (kn : Nat) : Prop :=
  d 0 = 1 ∧ cnD d 64 = kn ∧ (∀ j, j < kn → q j < 64 ∧ ¬ d (q j) = 0) ∧ (∀ s, s < 64 → ¬ d s = 0 → ∃ j, j < kn ∧ q j = s) ∧
  (∀ j k, j ≤ k → k < kn → d (q j) ≤ d (q k)) ∧ (i < kn → ∀ j, j < kn → d (q j) ≤ d (q i) + 1) ∧
  (∀ s, s < 64 → s ≠ 0 → ¬ d s = 0 → ∃ c, c < 6 ∧ aw s c = true ∧ ¬ d (s ^^^ 1 <<< c) = 0 ∧ d (s ^^^ 1 <<< c) + 1 = d s) ∧
  (∀ j, j < kn → j < i → ∀ c, c < 6 → aw (q j ^^^ 1 <<< c) c = true → ¬ d (q j ^^^ 1 <<< c) = 0 ∧ d (q j ^^^ 1 <<< c) ≤ d (q j) + 1) ∧
  (i < kn → ∀ b, b < c → aw (q i ^^^ 1 <<< b) b = true → ¬ d (q i ^^^ 1 <<< b) = 0 ∧ d (q i ^^^ 1 <<< b) ≤ d (q i) + 1)
def BI (aw : Nat → Nat → Bool) (i c : Nat) (a : WS) : Prop := BI3 aw i c a.1 a.2.1 a.2.2
theorem BI_next {aw : Nat → Nat → Bool} {i : Nat} {a : WS} (h : BI aw i 6 a) : BI aw (i + 1) 0 a := by
  obtain ⟨h1, h2, h3, h4, h5, h6, h7, h8, h9⟩ := h
  refine ⟨h1, h2, h3, h4, h5, fun hi j hj => ?_, h7, fun j hj hji c hc => ?_, fun _ b hb => absurd hb (Nat.not_lt_zero b)⟩
  · have := h6 (by omega) j hj
    have := h5 i (i + 1) (by omega) hi
    omega
  · rcases Nat.lt_or_ge j i with q | q
    · exact h8 j hj q c hc
    · have e : j = i := by omega
      subst e
      exact h9 hj c hc
theorem xb_xb (s c : Nat) : s ^^^ 1 <<< c ^^^ 1 <<< c = s := by rw [Nat.xor_assoc, Nat.xor_self, Nat.xor_zero]
theorem BI_step {aw : Nat → Nat → Bool} {i c : Nat} {a : WS} (hi : i < a.2.2) (hc : c < 6) (h : BI aw i c a) : BI aw i (c + 1) (rbS aw (a.2.1 i) c a) ∧ (rbS aw (a.2.1 i) c a).2.1 i = a.2.1 i ∧ i < (rbS aw (a.2.1 i) c a).2.2 := by
  obtain ⟨h1, h2, h3, h4, h5, h6, h7, h8, h9⟩ := h
  obtain ⟨d, q, kn⟩ := a
  dsimp only at *
  obtain ⟨hst, hd0⟩ := h3 i hi
  have hf := xb_lt (q i) hst c hc
  have hne := xb_ne (q i) hst c hc
  unfold rbS
  dsimp only
  by_cases hg : d (q i ^^^ 1 <<< c) = 0 ∧ aw (q i ^^^ 1 <<< c) c = true ∧ kn < 64
  · rw [if_pos hg]
    dsimp only
    obtain ⟨g1, g2, g3⟩ := hg
    generalize hfe : q i ^^^ 1 <<< c = f at *
    have hq : ∀ j, j < kn → va_up q kn f j = q j := fun j hj => by unfold va_up; rw [if_neg (by omega)]
    have hqn : va_up q kn f kn = f := by unfold va_up; rw [if_pos rfl]
    have hdf : va_up d f (d (q i) + 1) f = d (q i) + 1 := by unfold va_up; rw [if_pos rfl]
    have hdo : ∀ s, ¬ s = f → va_up d f (d (q i) + 1) s = d s := fun s hs => by unfold va_up; rw [if_neg hs]
    have hqf : ∀ j, j < kn → ¬ q j = f := fun j hj e => (h3 j hj).2 (by rw [e]; exact g1)
    have hnz : ∀ s, ¬ d s = 0 → ¬ s = f := fun s hs e => hs (by rw [e]; exact g1)
    have hcn := (cnD_up d f (d (q i) + 1) g1 (by omega) 64).2 hf
    refine ⟨(?_ : BI3 aw i (c + 1) (va_up d f (d (q i) + 1)) (va_up q kn f) (kn + 1)), hq i hi, Nat.lt_succ_of_lt hi⟩
    refine ⟨?_, ?_, ?_, ?_, ?_, ?_, ?_, ?_, ?_⟩
    · rw [hdo 0 (hnz 0 (by omega))]
      exact h1
    · rw [hcn, h2]
    · intro j hj
      rcases Nat.lt_or_ge j kn with qq | qq
      · rw [hq j qq, hdo _ (hqf j qq)]
        exact h3 j qq
      · rw [show j = kn by omega, hqn, hdf]
        exact ⟨hf, by omega⟩
    · intro s hs hsd
      by_cases e : s = f
      · exact ⟨kn, by omega, by rw [hqn, e]⟩
      · rw [hdo s e] at hsd
        obtain ⟨j, hj, hjs⟩ := h4 s hs hsd
        exact ⟨j, by omega, by rw [hq j hj]; exact hjs⟩
    · intro j k hjk hk
      rcases Nat.lt_or_ge k kn with qq | qq
      · rw [hq j (by omega), hq k qq, hdo _ (hqf j (by omega)), hdo _ (hqf k qq)]
        exact h5 j k hjk qq
      · rw [show k = kn by omega, hqn, hdf]
        rcases Nat.lt_or_ge j kn with q2 | q2
        · rw [hq j q2, hdo _ (hqf j q2)]
          exact h6 hi j q2
        · rw [show j = kn by omega, hqn, hdf]
          exact Nat.le_refl _
    · intro _ j hj
      rw [hq i hi, hdo _ (hqf i hi)]
      rcases Nat.lt_or_ge j kn with qq | qq
      · rw [hq j qq, hdo _ (hqf j qq)]
        exact h6 hi j qq
      · rw [show j = kn by omega, hqn, hdf]
        exact Nat.le_refl _
    · intro s hs hs0 hsd
      by_cases e : s = f
      · refine ⟨c, hc, by rw [e]; exact g2, ?_⟩
        rw [e, ← hfe, xb_xb, hfe, hdf, hdo _ (hqf i hi)]
        exact ⟨hd0, rfl⟩
      · rw [hdo s e] at hsd ⊢
        obtain ⟨b, hb, hab, hbd, hbe⟩ := h7 s hs hs0 hsd
        exact ⟨b, hb, hab, by rw [hdo _ (hnz _ hbd)]; exact ⟨hbd, hbe⟩⟩
    · intro j hj hji b hb hab
      have hjk : j < kn := by omega
      rw [hq j hjk] at hab ⊢
      obtain ⟨k1, k2⟩ := h8 j hjk hji b hb hab
      rw [hdo _ (hnz _ k1), hdo _ (hqf j hjk)]
      exact ⟨k1, k2⟩
    · intro _ b hb hab
      rw [hq i hi] at hab ⊢
      rw [hdo _ (hqf i hi)]
      rcases Nat.lt_or_ge b c with qq | qq
      · obtain ⟨k1, k2⟩ := h9 hi b qq hab
        rw [hdo _ (hnz _ k1)]
        exact ⟨k1, k2⟩
      · rw [show b = c by omega, hfe, hdf]
        exact ⟨by omega, Nat.le_refl _⟩
  · rw [if_neg hg]
    refine ⟨(?_ : BI3 aw i (c + 1) d q kn), rfl, hi⟩
    refine ⟨h1, h2, h3, h4, h5, h6, h7, h8, fun hii b hb hab => ?_⟩
    rcases Nat.lt_or_ge b c with qq | qq
    · exact h9 hii b qq hab
    · have e : b = c := by omega
      subst e
      have hz : ¬ d (q i ^^^ 1 <<< b) = 0 := fun hz => hg ⟨hz, hab, by
        have := cnD_lt d hz 64 hf
        rw [h2] at this
        exact this⟩
      obtain ⟨j, hj, hjs⟩ := h4 _ hf hz
      have := h6 hi j hj
      rw [hjs] at this
      exact ⟨hz, this⟩
theorem BI_row {aw : Nat → Nat → Bool} {i : Nat} {a : WS} (hi : i < a.2.2) (h : BI aw i 0 a) : ∀ c, c ≤ 6 → BI aw i c (rbF aw (a.2.1 i) a c) ∧ (rbF aw (a.2.1 i) a c).2.1 i = a.2.1 i ∧ i < (rbF aw (a.2.1 i) a c).2.2
  | 0, _ => ⟨h, rfl, hi⟩
  | c + 1, hc => by
    obtain ⟨h1, h2, h3⟩ := BI_row hi h c (by omega)
    have := BI_step h3 (by omega) h1
    rw [h2] at this
    exact this
theorem BI_ms {aw : Nat → Nat → Bool} {q : Nat → Nat} : ∀ i, BI aw i 0 (msF aw q i)
  | 0 => by
    have hd0 : va_up (fun _ => 0) 0 1 0 = (1 : Nat) := rfl
    have hdn : ∀ s, ¬ va_up (fun _ => 0) 0 1 s = (0 : Nat) → s = 0 := fun s hs => by
      by_cases e : s = 0
      · exact e
      · exact absurd (show va_up (fun _ => 0) 0 1 s = (0 : Nat) by unfold va_up; rw [if_neg e]) hs
    have hq0 : va_up q 0 0 0 = 0 := rfl
    refine ⟨hd0, ?_, fun j hj => ?_, fun s hs hsd => ⟨0, Nat.one_pos, ?_⟩, fun j k hjk hk => ?_, fun _ j hj => ?_, fun s hs hs0 hsd => absurd (hdn s hsd) hs0, fun j hj hji => absurd hji (Nat.not_lt_zero j), fun _ b hb => absurd hb (Nat.not_lt_zero b)⟩
    · show cnD (va_up (fun _ => 0) 0 1) 64 = 1
      decide +kernel
    · have e : j = 0 := Nat.lt_one_iff.mp hj
      subst e
      exact ⟨by show 0 < 64; omega, by show ¬ (1 : Nat) = 0; omega⟩
    · rw [hdn s hsd]
      rfl
    · have e : k = 0 := Nat.lt_one_iff.mp hk
      subst e
      rw [Nat.le_zero.mp hjk]
      exact Nat.le_refl _
    · have e : j = 0 := Nat.lt_one_iff.mp hj
      subst e
      exact Nat.le_succ _
  | i + 1 => by
    have ih := BI_ms (aw := aw) (q := q) i
    show BI aw (i + 1) 0 (msS aw i (msF aw q i))
    unfold msS
    by_cases hi : i < (msF aw q i).2.2
    · rw [if_pos hi]
      exact BI_next (BI_row hi ih 6 (Nat.le_refl 6)).1
    · rw [if_neg hi]
      obtain ⟨h1, h2, h3, h4, h5, h6, h7, h8, h9⟩ := ih
      exact ⟨h1, h2, h3, h4, h5, fun h => absurd h (by omega), h7, fun j hj _ => h8 j hj (by omega), fun h => absurd h (by omega)⟩
theorem ms_ok {aw : Nat → Nat → Bool} {q : Nat → Nat} (hq : ∀ k, q k < 64) : DOK aw (msF aw q 64).1 := by
  obtain ⟨h1, h2, h3, h4, h5, h6, h7, h8, h9⟩ := BI_ms (aw := aw) (q := q) 64
  refine ⟨h1, h7, fun s hs c hc ha hz => ?_, fun k => ?_⟩
  · obtain ⟨j, hj, hjs⟩ := h4 _ (xb_lt s hs c hc) hz
    have hkn : (msF aw q 64).2.2 ≤ 64 := by rw [← h2]; exact cnD_le _ 64
    have := h8 j hj (by omega) c hc
    rw [hjs, xb_xb] at this
    exact this ha
  · have := (msF_bd (aw := aw) hq 64).1 k
    omega
theorem pc_up : ∀ s, s < 64 → ∀ c, c < 6 → popc (s ^^^ 1 <<< c) ≤ popc s + 1 ∧ popc s ≤ popc (s ^^^ 1 <<< c) + 1 := by decide +kernel
theorem pc_dn : ∀ s, s < 64 → s ≠ 0 → ∃ c, c < 6 ∧ popc (s ^^^ 1 <<< c) + 1 = popc s := by
  have h : ∀ s, s < 64 → s = 0 ∨ fs (fun c => decide (popc (s ^^^ 1 <<< c) + 1 = popc s)) 6 < 6 := by decide +kernel
  intro s hs h0
  rcases h s hs with e | e
  · exact absurd e h0
  · exact ⟨_, e, of_decide_eq_true (fs_yes e)⟩
/-- without laws -/
theorem d_ok (ba wh : Nat → Nat) : DOK (alM ba wh 0) (fun k => popc k + 1) := by
  have ha : ∀ s c, alM ba wh 0 s c = true := fun s c => by
    unfold alM alw
    exact decide_eq_true (Nat.not_lt_zero _)
  refine ⟨by decide +kernel, fun s hs h0 _ => ?_, fun s hs c hc _ _ => ⟨Nat.succ_ne_zero _, ?_⟩, fun k => ?_⟩
  · obtain ⟨c, hc, he⟩ := pc_dn s hs h0
    exact ⟨c, hc, ha s c, Nat.succ_ne_zero _, by show popc _ + 1 + 1 = popc s + 1; omega⟩
  · have := (pc_up s hs c hc).2
    show popc s + 1 ≤ popc _ + 1 + 1
    omega
  · have := popc_le k
    show popc k + 1 < 1000
    omega
