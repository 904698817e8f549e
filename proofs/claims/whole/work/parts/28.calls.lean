/-! ===== call by call ===== -/
def REL (n nl : Nat) (en st : Nat → Nat) (sz : Nat) (cu ne ba wh dp qu le mo oo ii lle lmo aA : Nat → Nat) (aO : Nat → Bool) (aB : Nat → Nat) (aI : Nat → Bool) (ss : Nat → Nat) : Prop :=
  TXT n en st oo ii ∧ sz ≤ 16 ∧ (∀ k, cu k < 16) ∧ (∀ k, ne k ≤ 1000) ∧ LWS nl ba wh aA aB aO aI ∧ DOK (alM ba wh nl) dp ∧ (∀ k, qu k < 64) ∧ (∀ k, le k < 101) ∧ (∀ k, mo k < 101) ∧ (∀ k, lle k < 101) ∧ (∀ k, lmo k < 101) ∧ TIK le lle ∧ TIK mo lmo ∧ (∀ e, e < 12 → 1 ≤ mo e) ∧ ∀ k, ss k < 64
theorem sst_congr {oo ii oo' ii' : Nat → Nat} : ∀ k, (∀ j, j < k → oo j = oo' j ∧ ii j = ii' j) → sst oo ii k = sst oo' ii' k
  | 0, _ => rfl
  | k + 1, h => by
    show anN (sst oo ii k ||| oo k) (ii k) = anN (sst oo' ii' k ||| oo' k) (ii' k)
    rw [sst_congr k (fun j hj => h j (by omega)), (h k (by omega)).1, (h k (by omega)).2]
theorem E_step {x y : Int32} {n n9 m9 : Nat} {en st oo ii en9 st9 oo9 ii9 : Nat → Nat} {r r' : Int32} (T : TXT n en st oo ii) (h1 : STP x y n en st r n9 en9 st9) (h2 : STPR x y n oo ii r' m9 oo9 ii9) : r = r' ∧ n9 = m9 ∧ TXT n9 en9 st9 oo9 ii9 := by
  rcases h1 with ⟨rfl, rfl, rfl, h1⟩ | ⟨a, b, ha, hb, rfl, rfl, hg, hn, rfl, rfl, rfl, rfl⟩
  · rcases h2 with ⟨rfl, rfl, rfl, h2⟩ | ⟨a, b, ha, hb, rfl, rfl, hg, hn, rfl, rfl, rfl, rfl⟩
    · refine ⟨?_, rfl, T⟩
      rcases h1 with ⟨h1, rfl⟩ | ⟨h1, -, rfl⟩ <;> rcases h2 with ⟨h2, rfl⟩ | ⟨h2, -, rfl⟩
      · rfl
      · rw [h1] at h2; cases h2
      · rw [h1] at h2; cases h2
      · rfl
    · exfalso
      rcases h1 with ⟨h1, -⟩ | ⟨-, h1, -⟩
      · rw [h1] at hg; cases hg
      · omega
  · rcases h2 with ⟨rfl, rfl, rfl, h2⟩ | ⟨a', b', ha', hb', e1, e2, hg', hn', rfl, rfl, rfl, rfl⟩
    · exfalso
      rcases h2 with ⟨h2, -⟩ | ⟨-, h2, -⟩
      · rw [h2] at hg; cases hg
      · omega
    · have ea : a = a' := (nI_eq (by omega) (by omega)).mp e1
      have eb : b = b' := (nI_eq (by omega) (by omega)).mp e2
      subst ea
      subst eb
      refine ⟨rfl, rfl, ?_⟩
      obtain ⟨t1, t2, t3, t4, t5, t6, t7, t8⟩ := T
      have hs : ∀ k, k ≤ n → sst (va_up oo n a) (va_up ii n b) k = sst oo ii k := fun k hk => sst_congr k (fun j hj => ⟨up_ne _ _ (by omega), up_ne _ _ (by omega)⟩)
      have hbad : a &&& b = 0 ∧ ¬ a ||| b = 0 := by
        have h3 : a &&& b < 2 ^ 31 := Nat.lt_of_le_of_lt Nat.and_le_left (by omega)
        have h4 : a ||| b < 2 ^ 31 := Nat.lt_trans (Nat.or_lt_two_pow (n := 6) ha hb) (by decide)
        simp only [bad2, Bool.or_eq_false_iff, decide_eq_false_iff_not, q_or, q_and, q_eq0 h3, q_eq0 h4, Classical.not_not] at hg
        exact ⟨hg.2, hg.1.2⟩
      refine ⟨by omega, up_lt t2 (Nat.or_lt_two_pow (n := 12) (by rw [Nat.shiftLeft_eq]; omega) (by omega)), up_lt t3 (anN_lt (k := 6) (Nat.or_lt_two_pow (n := 6) (t3 n) ha)), up_lt t4 ha, up_lt t5 hb, fun k hk => ?_, fun k hk => ?_, fun k hk => ?_⟩
      · by_cases e : k = n
        · subst e
          rw [up_at, up_at, up_at]
        · rw [up_ne _ _ e, up_ne _ _ e, up_ne _ _ e]
          exact t6 k (by omega)
      · by_cases e : k = n + 1
        · subst e
          rw [up_at]
          show _ = anN (sst (va_up oo n a) (va_up ii n b) n ||| va_up oo n a n) (va_up ii n b n)
          rw [hs n (Nat.le_refl n), up_at, up_at, t7 n (Nat.le_refl n)]
        · rw [up_ne _ _ e, hs k (by omega)]
          exact t7 k (by omega)
      · by_cases e : k = n
        · subst e
          rw [up_at, up_at]
          exact hbad
        · rw [up_ne _ _ e, up_ne _ _ e]
          exact t8 k (by omega)
theorem E_drop {n : Nat} {en st oo ii : Nat → Nat} (T : TXT n en st oo ii) : TXT (n - 1) en st oo ii := by
  obtain ⟨t1, t2, t3, t4, t5, t6, t7, t8⟩ := T
  exact ⟨by omega, t2, t3, t4, t5, fun k hk => t6 k (by omega), fun k hk => t7 k (by omega), fun k hk => t8 k (by omega)⟩
theorem gd2_c {b : Bool} {f v v' : Int32} (h : b = true → f = -1 → v = v') : gd2 b f v = gd2 b f v' := by
  cases b
  · rfl
  · show gd1 f v = gd1 f v'
    unfold gd1
    split
    · rename_i h1
      exact h rfl h1
    · rfl
theorem gd1_c {f v v' : Int32} (h : f = -1 → v = v') : gd1 f v = gd1 f v' := by
  unfold gd1
  split
  · rename_i h1
    exact h h1
  · rfl
theorem E_state {n : Nat} {en st oo ii : Nat → Nat} {x : Int32} (T : TXT n en st oo ii) : gd2 (bel x (nI n)) (fwC en st n) (nI (st x.toNatClampNeg)) = gd2 (bel x (nI n)) (fwR oo ii n) (nI (sst oo ii x.toNatClampNeg)) := by
  have hn := T.1
  rw [t_fw T]
  refine gd2_c (fun hb _ => ?_)
  obtain ⟨k, hk, rfl⟩ := bel_t (by omega) hb
  rw [nc k (by omega), T.2.2.2.2.2.2.1 k (by omega)]
theorem E_psh {n : Nat} {en st oo ii cu : Nat → Nat} {sz wy : Nat} (T : TXT n en st oo ii) (hw : wy < 2) (hG : wy = 1 → GG en oo ii cu n sz) : ∀ k, k < n → ∀ j, j < n → psh en st cu n sz wy j k = psR oo ii (sst oo ii) n (fcF oo ii n (1 <<< n - 1)) wy j k := by
  intro k hk j hj
  unfold psh psR
  rw [t_trg T hj hk]
  by_cases h0 : wy = 0
  · rw [if_pos h0, if_pos h0]
  · rw [if_neg h0, if_neg h0]
    obtain ⟨-, -, g3⟩ := hG (by omega)
    rw [(g3 j hj k hk).2, decide_eq_decide.mpr (g3 j hj k hk).1]
theorem E_clash {n : Nat} {en st oo ii cu : Nat → Nat} {sz : Nat} {x : Int32} (T : TXT n en st oo ii) (hF : fwC en st n = -1 → x = nI 1 → FD en n cu sz) : gd2 (bel x (nI 2)) (fwC en st n) (fsI (clP en st cu n sz x.toNatClampNeg) n) = gd2 (bel x (nI 2)) (fwR oo ii n) (fsI (crP oo ii (sst oo ii) n (fcF oo ii n (1 <<< n - 1)) x.toNatClampNeg) n) ∧ gd2 (bel x (nI 2)) (fwC en st n) (clO en st cu n sz x.toNatClampNeg) = gd2 (bel x (nI 2)) (fwR oo ii n) (crO oo ii (sst oo ii) n (fcF oo ii n (1 <<< n - 1)) x.toNatClampNeg) := by
  rw [← t_fw T]
  have key : bel x (nI 2) = true → fwC en st n = -1 → fsI (clP en st cu n sz x.toNatClampNeg) n = fsI (crP oo ii (sst oo ii) n (fcF oo ii n (1 <<< n - 1)) x.toNatClampNeg) n ∧ clO en st cu n sz x.toNatClampNeg = crO oo ii (sst oo ii) n (fcF oo ii n (1 <<< n - 1)) x.toNatClampNeg := by
    intro hb hs
    obtain ⟨w, hw, rfl⟩ := bel_t (by decide) hb
    rw [nc w (by omega)]
    exact t_clash T (E_psh T hw (fun e => g_main T (fwC_pos hs) (hF hs (by rw [e]))))
  exact ⟨gd2_c (fun hb hs => (key hb hs).1), gd2_c (fun hb hs => (key hb hs).2)⟩
theorem E_groups {n : Nat} {en st oo ii cu : Nat → Nat} {sz : Nat} (T : TXT n en st oo ii) (hF : fwC en st n = -1 → FD en n cu sz) : gd1 (fwC en st n) (nI sz) = gd1 (fwR oo ii n) (nI (popc (fcF oo ii n (1 <<< n - 1)))) := by
  rw [← t_fw T]
  exact gd1_c (fun hs => by rw [← (g_main T (fwC_pos hs) (hF hs)).1])
theorem E_cut {n : Nat} {en st oo ii cu : Nat → Nat} {sz : Nat} {x : Int32} (T : TXT n en st oo ii) (hsz : sz ≤ 16) (hF : ¬ x < 0 → fwC en st n = -1 → FD en n cu sz) : (if x < 0 then -2 else gd1 (fwC en st n) (if nI sz ≤ x then -2 else nI (cu x.toNatClampNeg))) = (if x < 0 then -2 else gd1 (fwR oo ii n) (cutL (fcF oo ii n (1 <<< n - 1)) n n 0 x.toNatClampNeg)) := by
  rw [← t_fw T]
  by_cases hx : x < 0
  · rw [if_pos hx, if_pos hx]
  · rw [if_neg hx, if_neg hx]
    obtain ⟨k, hk, rfl⟩ := nI_of hx
    refine gd1_c (fun hs => ?_)
    rw [nc k hk, (g_main T (fwC_pos hs) (hF hx hs)).2.1 k]
    by_cases h : sz ≤ k
    · rw [if_pos ((nI_leI (by omega) hk).mpr h), if_neg (by omega)]
    · rw [if_neg (fun q => h ((nI_leI (by omega) hk).mp q)), if_pos (by omega)]
theorem E_mem {n : Nat} {en st oo ii : Nat → Nat} (T : TXT n en st oo ii) : gd1 (fwC en st n) (nI (memN (mal st n n))) = gd1 (fwR oo ii n) (nI (memN (mal (sst oo ii) n n))) := by
  rw [t_fw T, t_mem T]
theorem TIK_up {tk tb : Nat → Nat} {k a : Nat} {o : Bool} (h : TIK tk tb) (hk : k < 6) : TIK (va_up tk (enE k o) a) (va_up tb (2 * k + o.toNat) a) := by
  intro c hc
  obtain ⟨h1, h2⟩ := h c hc
  cases o
  · show va_up tk k a c = va_up tb (2 * k + 0) a (2 * c) ∧ va_up tk k a (c + 6) = va_up tb (2 * k + 0) a (2 * c + 1)
    refine ⟨?_, by rw [up_ne _ _ (by omega), up_ne _ _ (by omega)]; exact h2⟩
    by_cases e : c = k
    · subst e
      rw [up_at, Nat.add_zero, up_at]
    · rw [up_ne _ _ e, up_ne _ _ (by omega)]
      exact h1
  · show va_up tk (k + 6) a c = va_up tb (2 * k + 1) a (2 * c) ∧ va_up tk (k + 6) a (c + 6) = va_up tb (2 * k + 1) a (2 * c + 1)
    refine ⟨by rw [up_ne _ _ (by omega), up_ne _ _ (by omega)]; exact h1, ?_⟩
    by_cases e : c = k
    · subst e
      rw [up_at, up_at]
    · rw [up_ne _ _ (by omega), up_ne _ _ (by omega)]
      exact h2
theorem E_pace {x lo hi : Int32} {o : Bool} {le mo lle lmo le9 mo9 lle9 lmo9 : Nat → Nat} {r r' : Int32} (h1 : PAC x o lo hi le mo r le9 mo9) (h2 : PACR x o lo hi lle lmo r' lle9 lmo9) (hle : ∀ k, le k < 101) (hmo : ∀ k, mo k < 101) (hlle : ∀ k, lle k < 101) (hlmo : ∀ k, lmo k < 101) (K1 : TIK le lle) (K2 : TIK mo lmo) (h0 : ∀ e, e < 12 → 1 ≤ mo e) : r = r' ∧ (∀ k, le9 k < 101) ∧ (∀ k, mo9 k < 101) ∧ (∀ k, lle9 k < 101) ∧ (∀ k, lmo9 k < 101) ∧ TIK le9 lle9 ∧ TIK mo9 lmo9 ∧ ∀ e, e < 12 → 1 ≤ mo9 e := by
  rcases h1 with ⟨g, rfl, rfl, rfl⟩ | ⟨k, a, b, hk, rfl, rfl, rfl, ha, hb, g, rfl, rfl, rfl⟩
  · rcases h2 with ⟨g', rfl, rfl, rfl⟩ | ⟨k, a, b, hk, rfl, rfl, rfl, ha, hb, g', rfl, rfl, rfl⟩
    · exact ⟨rfl, hle, hmo, hlle, hlmo, K1, K2, h0⟩
    · rw [g] at g'; cases g'
  · rcases h2 with ⟨g', rfl, rfl, rfl⟩ | ⟨k', a', b', hk', e1, e2, e3, ha', hb', g', rfl, rfl, rfl⟩
    · rw [g] at g'; cases g'
    · have f1 : k = k' := (nI_eq (by omega) (by omega)).mp e1
      have f2 : a = a' := (nI_eq (by omega) (by omega)).mp e2
      have f3 : b = b' := (nI_eq (by omega) (by omega)).mp e3
      subst f1
      subst f2
      subst f3
      have hb1 : 1 ≤ b := by
        rcases Nat.eq_zero_or_pos b with q | q
        · exfalso
          subst q
          simp only [okP, Bool.and_eq_true, decide_eq_true_eq] at g
          have h3 : ¬ a < 1 := fun h => g.1.1.2 ((nI_ltI (a := a) (b := 1) (by omega) (by decide)).mpr h)
          have h4 := (nI_leI (a := a) (b := 0) (by omega) (by decide)).mp g.2
          omega
        · exact q
      refine ⟨rfl, up_lt hle ha, up_lt hmo hb, up_lt hlle ha, up_lt hlmo hb, TIK_up K1 hk, TIK_up K2 hk, fun e he => ?_⟩
      by_cases q : e = enE k o
      · rw [q, up_at]
        exact hb1
      · rw [up_ne _ _ q]
        exact h0 e he
theorem E_span {n : Nat} {en st oo ii le mo lle lmo : Nat → Nat} {x : Int32} (T : TXT n en st oo ii) (K1 : TIK le lle) (K2 : TIK mo lmo) (h0 : ∀ e, e < 12 → 1 ≤ mo e) : gd2 (bel x (nI 3)) (fwC en st n) (if x = nI 0 then nI (sumP le en n) else if x = nI 1 then nI (sumP mo en n) else (slo mo en n).1) = gd2 (bel x (nI 3)) (fwR oo ii n) (if x = nI 0 then nI (sumR oo ii lle n) else if x = nI 1 then nI (sumR oo ii lmo n) else nI (sloR oo ii lmo n)) := by
  rw [← t_fw T]
  refine gd2_c (fun _ hs => ?_)
  rw [t_sum T K1, t_sum T K2, t_slo T K2 h0 (fwC_pos hs)]
theorem E_law {x y : Int32} {o q : Bool} {nl nl9 ml9 : Nat} {ba wh dp ba9 wh9 dp9 aA aB aA9 aB9 : Nat → Nat} {aO aI aO9 aI9 : Nat → Bool} {r r' : Int32} (L : LWS nl ba wh aA aB aO aI) (D : DOK (alM ba wh nl) dp) (h1 : LAWR x o y q nl ba wh dp r nl9 ba9 wh9 dp9) (h2 : LAWRR x o y q nl aA aB aO aI r' ml9 aA9 aB9 aO9 aI9) : r = r' ∧ nl9 = ml9 ∧ LWS nl9 ba9 wh9 aA9 aB9 aO9 aI9 ∧ DOK (alM ba9 wh9 nl9) dp9 := by
  rcases h1 with ⟨rfl, rfl, rfl, rfl, h1⟩ | ⟨a, b, qu, hq9, ha, hb, rfl, rfl, g, hn, rfl, rfl, rfl, rfl, e9⟩
  · rcases h2 with ⟨rfl, rfl, rfl, rfl, rfl, h2⟩ | ⟨a, b, ha, hb, rfl, rfl, g, hn, rfl, rfl, rfl, rfl, rfl, rfl⟩
    · refine ⟨?_, rfl, L, D⟩
      rcases h1 with ⟨h1, rfl⟩ | ⟨h1, -, rfl⟩ <;> rcases h2 with ⟨h2, rfl⟩ | ⟨h2, -, rfl⟩
      · rfl
      · rw [h1] at h2; cases h2
      · rw [h1] at h2; cases h2
      · rfl
    · exfalso
      rcases h1 with ⟨h1, -⟩ | ⟨-, h1, -⟩
      · rw [h1] at g; cases g
      · omega
  · rcases h2 with ⟨rfl, rfl, rfl, rfl, rfl, h2⟩ | ⟨a', b', ha', hb', e1, e2, g', hn', rfl, rfl, rfl, rfl, rfl, rfl⟩
    · exfalso
      rcases h2 with ⟨h2, -⟩ | ⟨-, h2, -⟩
      · rw [h2] at g; cases g
      · omega
    · have f1 : a = a' := (nI_eq (by omega) (by omega)).mp e1
      have f2 : b = b' := (nI_eq (by omega) (by omega)).mp e2
      subst f1
      subst f2
      obtain ⟨l0, l1, l2, l3, l4, l5⟩ := L
      refine ⟨rfl, rfl, ⟨by omega, up_lt l1 (enE_lt ha), up_lt l2 (enE_lt hb), up_lt l3 ha, up_lt l4 hb, fun k hk => ?_⟩, ?_⟩
      · by_cases e : k = nl
        · subst e
          rw [up_at, up_at, up_at, up_at, up_at, up_at]
          exact ⟨rfl, rfl⟩
        · rw [up_ne _ _ e, up_ne _ _ e, up_ne _ _ e, up_ne _ _ e, up_ne _ _ e, up_ne _ _ e]
          exact l5 k (by omega)
      · rw [e9]
        exact ms_ok hq9
theorem E_repeal {x : Int32} {nl nl9 ml9 : Nat} {ba wh dp ba9 wh9 dp9 aA aB aA9 aB9 : Nat → Nat} {aO aI aO9 aI9 : Nat → Bool} {r r' : Int32} (L : LWS nl ba wh aA aB aO aI) (D : DOK (alM ba wh nl) dp) (h1 : REPR x nl ba wh dp r nl9 ba9 wh9 dp9) (h2 : REPRR x nl aA aB aO aI r' ml9 aA9 aB9 aO9 aI9) : r = r' ∧ nl9 = ml9 ∧ LWS nl9 ba9 wh9 aA9 aB9 aO9 aI9 ∧ DOK (alM ba9 wh9 nl9) dp9 := by
  have hl := L.1
  rcases h1 with ⟨rfl, rfl, rfl, rfl, g, rfl⟩ | ⟨k, qu, hq9, hk, rfl, rfl, rfl, f1, f2, e9⟩
  · rcases h2 with ⟨rfl, rfl, rfl, rfl, rfl, -, rfl⟩ | ⟨k, hk, rfl, rfl, rfl, -⟩
    · exact ⟨rfl, rfl, L, D⟩
    · rw [bel_nI (by omega) (by omega), decide_eq_true hk] at g
      cases g
  · rcases h2 with ⟨rfl, rfl, rfl, rfl, rfl, g, rfl⟩ | ⟨k', hk', e1, rfl, rfl, f3, f4, f5, f6⟩
    · rw [bel_nI (by omega) (by omega), decide_eq_true hk] at g
      cases g
    · have e : k = k' := (nI_eq (by omega) (by omega)).mp e1
      subst e
      obtain ⟨l0, l1, l2, l3, l4, l5⟩ := L
      refine ⟨rfl, rfl, ⟨by omega, shf_lt f1 l1, shf_lt f2 l2, shf_lt f3 l3, shf_lt f4 l4, fun j hj => ?_⟩, by rw [e9]; exact ms_ok hq9⟩
      rw [f1 j, f2 j, f3 j, f4 j, f5 j, f6 j]
      split
      · exact l5 (j + 1) (by omega)
      · exact l5 j (by omega)
theorem E_breach {n nl : Nat} {en st oo ii ba wh aA aB : Nat → Nat} {aO aI : Nat → Bool} (T : TXT n en st oo ii) (L : LWS nl ba wh aA aB aO aI) : gd1 (fwC en st n) (fsI (fun k => !alw ba wh nl (en k) (st k)) n) = gd1 (fwR oo ii n) (fsI (fun k => bkR aA aB aO aI (oo k) (ii k) (sst oo ii k) nl) n) := by
  rw [t_fw T]
  congr 1
  obtain ⟨t1, t2, t3, t4, t5, t6, t7, t8⟩ := T
  refine fsI_congr (fun j hj => ?_)
  show (!alw ba wh nl (en j) (st j)) = bkR aA aB aO aI (oo j) (ii j) (sst oo ii j) nl
  rw [t6 j hj, t7 j (by omega), t_alw L (t5 j)]
theorem E_home {nl : Nat} {ba wh dp aA aB w : Nat → Nat} {aO aI : Nat → Bool} {x : Int32} (L : LWS nl ba wh aA aB aO aI) (D : DOK (alM ba wh nl) dp) (h1 : bel x (nI 64) = true → INVW (mvR aA aB aO aI nl) w) (h2 : bel x (nI 64) = true → FIXW (mvR aA aB aO aI nl) w) : (if bel x (nI 64) then mI (dp x.toNatClampNeg) else -2) = (if bel x (nI 64) then (if w x.toNatClampNeg = 1000 then -1 else nI (w x.toNatClampNeg)) else -2) := by
  by_cases hb : bel x (nI 64) = true
  · rw [if_pos hb, if_pos hb]
    obtain ⟨k, hk, e⟩ := bel_t (by decide) hb
    rw [e, nc k (by omega)]
    exact t_home D (h1 hb) (h2 hb) (fun s hs c hc => t_mv L hs hc) hk
  · rw [if_neg hb, if_neg hb]
theorem E_way {nl : Nat} {ba wh dp aA aB w : Nat → Nat} {aO aI : Nat → Bool} {x y : Int32} (L : LWS nl ba wh aA aB aO aI) (D : DOK (alM ba wh nl) dp) (h1 : bel x (nI 64) = true ∧ ¬ y < 0 → INVW (mvR aA aB aO aI nl) w) (h2 : bel x (nI 64) = true ∧ ¬ y < 0 → FIXW (mvR aA aB aO aI nl) w) : (if bel x (nI 64) = true ∧ ¬ y < 0 then mvC (alM ba wh nl) dp x.toNatClampNeg y.toNatClampNeg else -2) = (if bel x (nI 64) = true ∧ ¬ y < 0 then wyR (mvR aA aB aO aI nl) w x.toNatClampNeg y.toNatClampNeg else -2) := by
  by_cases hb : bel x (nI 64) = true ∧ ¬ y < 0
  · rw [if_pos hb, if_pos hb]
    obtain ⟨k, hk, e⟩ := bel_t (by decide) hb.1
    rw [e, nc k (by omega)]
    exact t_way D (h1 hb) (h2 hb) (fun s hs c hc => t_mv L hs hc) hk
  · rw [if_neg hb, if_neg hb]
theorem E_stops {n : Nat} {en st oo ii : Nat → Nat} {x : Int32} (T : TXT n en st oo ii) : gd2 (bel x (nI 12)) (fwC en st n) (fsI (fun k => (en (pr n k)).testBit x.toNatClampNeg) n) = gd2 (bel x (nI 12)) (fwR oo ii n) (spR oo ii n x.toNatClampNeg) := by
  rw [← t_fw T]
  refine gd2_c (fun hb _ => ?_)
  obtain ⟨q, hq, rfl⟩ := bel_t (by decide) hb
  rw [nc q (by omega)]
  exact fsI_congr (fun j hj => t_has T hj hq)
theorem E_ex {n : Nat} {en st oo ii : Nat → Nat} {x : Int32} (T : TXT n en st oo ii) : gd2 (bel x (nI n)) (fwC en st n) (nI (anN (en (pr n x.toNatClampNeg)) (exC en n x.toNatClampNeg))) = gd2 (bel x (nI n)) (fwR oo ii n) (nI (exR oo ii n x.toNatClampNeg 12)) := by
  have hn := T.1
  rw [← t_fw T]
  refine gd2_c (fun hb _ => ?_)
  obtain ⟨k, hk, rfl⟩ := bel_t (by omega) hb
  rw [nc k (by omega), t_ex T hk]
theorem E_count {n nl : Nat} {en st oo ii : Nat → Nat} {x : Int32} (T : TXT n en st oo ii) : (if x = 0 then nI n else if x = nI 1 then nI nl else if x = nI 2 then nI (mvs en n) else -2) = (if x = 0 then nI n else if x = nI 1 then nI nl else if x = nI 2 then nI (mvsR oo ii n) else -2) := by rw [t_mvs T]
