/-! ===== Integer.bitCount, moves ===== -/
def b1 (e : Nat) : Nat := e - ((e >>> 1) &&& 1431655765)
def b2 (x : Nat) : Nat := (x &&& 858993459) + ((x >>> 2) &&& 858993459)
def b3 (x : Nat) : Nat := (x + (x >>> 4)) &&& 252645135
def b4 (x : Nat) : Nat := x + (x >>> 8)
def b5 (x : Nat) : Nat := x + (x >>> 16)
theorem b1_le (e : Nat) : b1 e ≤ e := Nat.sub_le _ _
theorem b2_le (x : Nat) : b2 x ≤ 2 * x := by
  have h1 : x &&& 858993459 ≤ x := Nat.and_le_left
  have h2 : (x >>> 2) &&& 858993459 ≤ x >>> 2 := Nat.and_le_left
  have h3 := shr_le x 2
  unfold b2
  omega
theorem b3_le (x : Nat) : b3 x ≤ 2 * x := by
  have h1 : (x + (x >>> 4)) &&& 252645135 ≤ x + (x >>> 4) := Nat.and_le_left
  have h3 := shr_le x 4
  unfold b3
  omega
theorem b4_le (x : Nat) : b4 x ≤ 2 * x := by
  have h3 := shr_le x 8
  unfold b4
  omega
theorem bc_ok2 : ∀ a, a < 64 → ∀ b, b < 64 → b5 (b4 (b3 (b2 (b1 (64 * a + b))))) &&& 63 = popc (64 * a + b) := by decide +kernel
theorem bc_ok (e : Nat) (h : e < 4096) : b5 (b4 (b3 (b2 (b1 e)))) &&& 63 = popc e := by
  have h1 := bc_ok2 (e / 64) (by omega) (e % 64) (by omega)
  rwa [Nat.div_add_mod] at h1
set_option maxHeartbeats 4000000 in
set_option maxRecDepth 100000 in
theorem c_J6_bitCount_0f7a4 (l : Launch) (D : va_G) (cI cZ : ClassId) (e1 : Nat) (he1 : e1 < 4096) : MI l D cI cZ yJ6_bitCount_0f7a4 wsJ6_bitCount_0f7a4 ({ frames := 0, cells := 0, slots := 0, locals := 0 }) [.int (nI e1)] [] (fun r w => r = (nI (popc e1)) ∧ w = []) := by
  refine MI.of (cc := cJ6_bitCount_0f7a4) (maxL := 1) (ret := (some .int)) (own := RJ6) (by decide) rfl rfl (Nat.le_of_ble_eq_true rfl) ?_
  intro pQ eQ s mQ args below meth cQ A X hw ls hl
  obtain ⟨⟨hx, hb, hml, hown, hts⟩, hr, hlk, hK, hN, hA⟩ := id X
  have hl : lv_has ls 1 [(0, .int (nI e1))] := hl
  have g1 := b1_le e1
  have g2 := b2_le (b1 e1)
  have g3 := b3_le (b2 (b1 e1))
  have g4 := b4_le (b3 (b2 (b1 e1)))
  refine lv_iload_n hx hb dJ6_bitCount_0f7a4_0 rfl (lv_at hl 0 rfl) ?_
  refine lv_iload_n hx hb dJ6_bitCount_0f7a4_1 rfl (lv_at hl 0 rfl) ?_
  refine lv_iconst (v := nI 1) hx hb dJ6_bitCount_0f7a4_2 (by decide) ?_
  refine lv_iushr (v := nI (e1 >>> 1)) hx hb dJ6_bitCount_0f7a4_3 (q_ushr (by omega) (by omega)) ?_
  refine lv_ldcw (v := nI 1431655765) hx hb hown (hts (.constant RJ6 265 (1431655765)) (by decide +kernel)) dJ6_bitCount_0f7a4_4 ?_
  refine lv_iand hx hb dJ6_bitCount_0f7a4_7 ?_
  refine cv_i (show nI (e1 >>> 1) &&& nI 1431655765 = nI ((e1 >>> 1) &&& 1431655765) from q_and (e1 >>> 1) 1431655765) ?_
  refine lv_isub hx hb dJ6_bitCount_0f7a4_8 ?_
  refine cv_i (show nI e1 - nI ((e1 >>> 1) &&& 1431655765) = nI (b1 e1) from pk_sub (Nat.le_trans Nat.and_le_left (shr_le e1 1))) ?_
  refine lv_istore_n (lv' := [(0, .int (nI (b1 e1)))]) hx hb dJ6_bitCount_0f7a4_9 rfl hl (by decide) rfl (fun ls hl => ?_)
  refine lv_iload_n hx hb dJ6_bitCount_0f7a4_10 rfl (lv_at hl 0 rfl) ?_
  refine lv_ldcw (v := nI 858993459) hx hb hown (hts (.constant RJ6 266 (858993459)) (by decide +kernel)) dJ6_bitCount_0f7a4_11 ?_
  refine lv_iand hx hb dJ6_bitCount_0f7a4_14 ?_
  refine cv_i (show nI (b1 e1) &&& nI 858993459 = nI ((b1 e1) &&& 858993459) from q_and (b1 e1) 858993459) ?_
  refine lv_iload_n hx hb dJ6_bitCount_0f7a4_15 rfl (lv_at hl 0 rfl) ?_
  refine lv_iconst (v := nI 2) hx hb dJ6_bitCount_0f7a4_16 (by decide) ?_
  refine lv_iushr (v := nI ((b1 e1) >>> 2)) hx hb dJ6_bitCount_0f7a4_17 (q_ushr (by omega) (by omega)) ?_
  refine lv_ldcw (v := nI 858993459) hx hb hown (hts (.constant RJ6 266 (858993459)) (by decide +kernel)) dJ6_bitCount_0f7a4_18 ?_
  refine lv_iand hx hb dJ6_bitCount_0f7a4_21 ?_
  refine cv_i (show nI ((b1 e1) >>> 2) &&& nI 858993459 = nI (((b1 e1) >>> 2) &&& 858993459) from q_and ((b1 e1) >>> 2) 858993459) ?_
  refine lv_iadd hx hb dJ6_bitCount_0f7a4_22 ?_
  refine cv_i (show nI ((b1 e1) &&& 858993459) + nI (((b1 e1) >>> 2) &&& 858993459) = nI (b2 (b1 e1)) from nI_add _ _) ?_
  refine lv_istore_n (lv' := [(0, .int (nI (b2 (b1 e1))))]) hx hb dJ6_bitCount_0f7a4_23 rfl hl (by decide) rfl (fun ls hl => ?_)
  refine lv_iload_n hx hb dJ6_bitCount_0f7a4_24 rfl (lv_at hl 0 rfl) ?_
  refine lv_iload_n hx hb dJ6_bitCount_0f7a4_25 rfl (lv_at hl 0 rfl) ?_
  refine lv_iconst (v := nI 4) hx hb dJ6_bitCount_0f7a4_26 (by decide) ?_
  refine lv_iushr (v := nI ((b2 (b1 e1)) >>> 4)) hx hb dJ6_bitCount_0f7a4_27 (q_ushr (by omega) (by omega)) ?_
  refine lv_iadd hx hb dJ6_bitCount_0f7a4_28 ?_
  refine cv_i (show nI (b2 (b1 e1)) + nI ((b2 (b1 e1)) >>> 4) = nI ((b2 (b1 e1)) + ((b2 (b1 e1)) >>> 4)) from nI_add (b2 (b1 e1)) ((b2 (b1 e1)) >>> 4)) ?_
  refine lv_ldcw (v := nI 252645135) hx hb hown (hts (.constant RJ6 267 (252645135)) (by decide +kernel)) dJ6_bitCount_0f7a4_29 ?_
  refine lv_iand hx hb dJ6_bitCount_0f7a4_32 ?_
  refine cv_i (show nI ((b2 (b1 e1)) + ((b2 (b1 e1)) >>> 4)) &&& nI 252645135 = nI (b3 (b2 (b1 e1))) from q_and _ _) ?_
  refine lv_istore_n (lv' := [(0, .int (nI (b3 (b2 (b1 e1)))))]) hx hb dJ6_bitCount_0f7a4_33 rfl hl (by decide) rfl (fun ls hl => ?_)
  refine lv_iload_n hx hb dJ6_bitCount_0f7a4_34 rfl (lv_at hl 0 rfl) ?_
  refine lv_iload_n hx hb dJ6_bitCount_0f7a4_35 rfl (lv_at hl 0 rfl) ?_
  refine lv_bipush (v := nI 8) hx hb dJ6_bitCount_0f7a4_36 (by decide) ?_
  refine lv_iushr (v := nI ((b3 (b2 (b1 e1))) >>> 8)) hx hb dJ6_bitCount_0f7a4_38 (q_ushr (by omega) (by omega)) ?_
  refine lv_iadd hx hb dJ6_bitCount_0f7a4_39 ?_
  refine cv_i (show nI (b3 (b2 (b1 e1))) + nI ((b3 (b2 (b1 e1))) >>> 8) = nI (b4 (b3 (b2 (b1 e1)))) from nI_add _ _) ?_
  refine lv_istore_n (lv' := [(0, .int (nI (b4 (b3 (b2 (b1 e1))))))]) hx hb dJ6_bitCount_0f7a4_40 rfl hl (by decide) rfl (fun ls hl => ?_)
  refine lv_iload_n hx hb dJ6_bitCount_0f7a4_41 rfl (lv_at hl 0 rfl) ?_
  refine lv_iload_n hx hb dJ6_bitCount_0f7a4_42 rfl (lv_at hl 0 rfl) ?_
  refine lv_bipush (v := nI 16) hx hb dJ6_bitCount_0f7a4_43 (by decide) ?_
  refine lv_iushr (v := nI ((b4 (b3 (b2 (b1 e1)))) >>> 16)) hx hb dJ6_bitCount_0f7a4_45 (q_ushr (by omega) (by omega)) ?_
  refine lv_iadd hx hb dJ6_bitCount_0f7a4_46 ?_
  refine cv_i (show nI (b4 (b3 (b2 (b1 e1)))) + nI ((b4 (b3 (b2 (b1 e1)))) >>> 16) = nI (b5 (b4 (b3 (b2 (b1 e1))))) from nI_add _ _) ?_
  refine lv_istore_n (lv' := [(0, .int (nI (b5 (b4 (b3 (b2 (b1 e1)))))))]) hx hb dJ6_bitCount_0f7a4_47 rfl hl (by decide) rfl (fun ls hl => ?_)
  refine lv_iload_n hx hb dJ6_bitCount_0f7a4_48 rfl (lv_at hl 0 rfl) ?_
  refine lv_bipush (v := nI 63) hx hb dJ6_bitCount_0f7a4_49 (by decide) ?_
  refine lv_iand hx hb dJ6_bitCount_0f7a4_51 ?_
  refine cv_i (show nI (b5 (b4 (b3 (b2 (b1 e1))))) &&& nI 63 = nI ((b5 (b4 (b3 (b2 (b1 e1))))) &&& 63) from q_and (b5 (b4 (b3 (b2 (b1 e1))))) 63) ?_
  exact x_iret X hw (⟨(congrArg nI (bc_ok e1 he1)), rfl⟩) dJ6_bitCount_0f7a4_52
set_option maxHeartbeats 4000000 in
set_option maxRecDepth 100000 in
theorem c_X3_moves (l : Launch) (D : va_G) (cI cZ : ClassId) (t : Nat) (te : Nat) (ts : Nat) (en : Nat → Nat) (st : Nat → Nat) (n : Nat) (hn : n ≤ 16) (hen : ∀ k, en k < 4096) (hst : ∀ k, st k < 64) : MI l D cI cZ yX3_moves wsX3_moves ({ frames := 1, cells := 0, slots := 0, locals := 20 }) [.ref t] [(t, .inr (3, [.ref te, .ref ts, .int (nI n)])), (te, .inl (cI, 16, .inl (iA en))), (ts, .inl (cI, 17, .inl (iA st)))] (fun r w => r = (nI (mvs en n)) ∧ w = [(t, .inr (3, [.ref te, .ref ts, .int (nI n)])), (te, .inl (cI, 16, .inl (iA en))), (ts, .inl (cI, 17, .inl (iA st)))]) := by
  refine MI.of (cc := cX3_moves) (maxL := 3) (ret := (some .int)) (own := RX3) (by decide) rfl rfl (Nat.le_of_ble_eq_true rfl) ?_
  intro pQ eQ s mQ args below meth cQ A X hw ls hl
  obtain ⟨⟨hx, hb, hml, hown, hts⟩, hr, hlk, hK, hN, hA⟩ := id X
  have hl : lv_has ls 3 [(0, .ref t)] := hl
  have n3 : ∀ w ∈ wsX30, w ∈ wsX3_moves := by decide +kernel
  have f9 : FF args s RX3 wsX3_moves 9 3 0 := ⟨_, rfl, by decide, n3, hts (.fieldLink RX3 9 "AirSteps$Text" "ends" "[I") (by decide +kernel)⟩
  have f18 : FF args s RX3 wsX3_moves 18 3 2 := ⟨_, rfl, by decide, n3, hts (.fieldLink RX3 18 "AirSteps$Text" "size" "I") (by decide +kernel)⟩
  refine lv_iconst (v := nI 0) hx hb dX3_moves_0 (by decide) ?_
  refine lv_istore_n (lv' := [(1, .int (nI 0)), (0, .ref t)]) hx hb dX3_moves_1 rfl hl (by decide) rfl (fun ls hl => ?_)
  refine lv_iconst (v := nI 0) hx hb dX3_moves_2 (by decide) ?_
  refine lv_istore_n (lv' := [(2, .int (nI 0)), (1, .int (nI 0)), (0, .ref t)]) hx hb dX3_moves_3 rfl hl (by decide) rfl (fun ls hl => ?_)
  refine wl (α := Nat × Nat) (nL := 3) (fun aQ => n - aQ.2) (fun aQ => (aQ.2 ≤ n) ∧ (aQ.1 = mvs en aQ.2)) (fun aQ => [(t, .inr (3, [.ref te, .ref ts, .int (nI n)])), (te, .inl (cI, 16, .inl (iA en))), (ts, .inl (cI, 17, .inl (iA st)))]) (fun aQ => [(2, .int (nI aQ.2)), (1, .int (nI aQ.1)), (0, .ref t)]) ?_ (0, 0) ⟨(show 0 ≤ n from by omega), (show 0 = mvs en 0 from rfl)⟩ _ _ _ hw (lv_sub hl [0, 1, 2] rfl)
  rintro ⟨a, i⟩ ⟨hi, ha⟩ H locs ls hw hl ih_4
  have hi : i ≤ n := hi
  have ha : a = mvs en i := ha
  have hw : WD D A s.heap [(t, .inr (3, [.ref te, .ref ts, .int (nI n)])), (te, .inl (cI, 16, .inl (iA en))), (ts, .inl (cI, 17, .inl (iA st)))] H locs := hw
  have hl : lv_has ls 3 [(2, .int (nI i)), (1, .int (nI a)), (0, .ref t)] := hl
  refine lv_iload_n hx hb dX3_moves_4 rfl (lv_at hl 0 rfl) ?_
  refine lv_aload_n hx hb dX3_moves_5 rfl (lv_at hl 2 rfl) ?_
  refine x_get X hw f18 0 rfl rfl dX3_moves_6 ?_
  refine lv_icmp_ge (tgt := 30) hx hb dX3_moves_9 (by decide) (fun c_9 => ?_) (fun c_9 => ?_)
  · skip
    rw [nI_leI (by omega) (by omega)] at c_9
    refine lv_iload_n hx hb dX3_moves_30 rfl (lv_at hl 1 rfl) ?_
    exact x_iret X hw (⟨(by rw [ha, show i = n by omega]), rfl⟩) dX3_moves_31
  · skip
    rw [nI_leI (by omega) (by omega)] at c_9
    refine lv_iload_n hx hb dX3_moves_12 rfl (lv_at hl 1 rfl) ?_
    refine lv_aload_n hx hb dX3_moves_13 rfl (lv_at hl 2 rfl) ?_
    refine x_get X hw f9 0 rfl rfl dX3_moves_14 ?_
    refine lv_iload_n hx hb dX3_moves_17 rfl (lv_at hl 0 rfl) ?_
    refine x_aldN X hw 1 rfl (by omega) (by omega) dX3_moves_18 ?_
    have hb_18 := hen i
    refine x_callS (As := [.int (nI (en i))]) (rest := [.int (nI a)]) X hw hl.1 (c_J6_bitCount_0f7a4 l D cI cZ (en i) (by first | assumption | omega)) (va_cwS 1 hts gX3_moves_J6_bitCount_0f7a4 rfl rfl rfl (by decide +kernel) ⟨Nat.le_of_ble_eq_true rfl, Nat.le_of_ble_eq_true rfl⟩) [] rfl rfl rfl (Nat.le_of_ble_eq_true rfl) dX3_moves_19 (by decide) (fun r w1 H locs hp hw1 => ?_)
    obtain ⟨rfl, rfl⟩ := hp
    have hw : WD D A s.heap [(t, .inr (3, [.ref te, .ref ts, .int (nI n)])), (te, .inl (cI, 16, .inl (iA en))), (ts, .inl (cI, 17, .inl (iA st)))] H locs := hw1 rfl
    refine lv_iadd hx hb dX3_moves_22 ?_
    refine cv_i (show nI a + nI (popc (en i)) = nI (a + (popc (en i))) from nI_add a (popc (en i))) ?_
    refine lv_istore_n (lv' := [(1, .int (nI (a + (popc (en i))))), (2, .int (nI i)), (0, .ref t)]) hx hb dX3_moves_23 rfl hl (by decide) rfl (fun ls hl => ?_)
    refine lv_iinc (v := nI (i + 1)) (lv' := [(2, .int (nI (i + 1))), (1, .int (nI (a + (popc (en i))))), (0, .ref t)]) hx hb dX3_moves_24 hl (k := 1) rfl (nI_add i 1) (by decide) rfl (fun ls hl => ?_)
    refine lv_goto (tgt := 4) hx hb dX3_moves_27 (by decide) ?_
    exact ih_4 (a + (popc (en i)), i + 1) (by show n - (i + 1) < n - i; omega) ⟨(show (i + 1) ≤ n from by omega), (show (a + (popc (en i))) = mvs en (i + 1) from by rw [ha]; rfl)⟩ _ _ _ hw (lv_sub hl [0, 1, 2] rfl)
