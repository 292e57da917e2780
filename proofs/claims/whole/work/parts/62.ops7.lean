/-! keep, back -/
theorem copy_sp (S U : ZS) (Q : ZS → Prop) (hQ : ∀ S', (∀ k, k < 4 → ∀ j, j < 24 → S' k j = U k j) → (∀ j, j < 16 → S' 4 j = U 4 j) → Q S') : g_X2_copy S U Q := by
  unfold g_X2_copy
  simp only [forall_eq]
  refine hQ _ (fun k hk j hj => ?_) (fun j hj => ?_)
  · rw [zr_ne _ _ (by omega)]
    rcases (show k = 0 ∨ k = 1 ∨ k = 2 ∨ k = 3 by omega) with rfl | rfl | rfl | rfl
    · rw [zr_ne _ _ (by decide), zr_ne _ _ (by decide), zr_ne _ _ (by decide), zr_kk, pk_cpy_in (by omega) (by omega), Nat.zero_add, Nat.sub_zero]
    · rw [zr_ne _ _ (by decide), zr_ne _ _ (by decide), zr_kk, pk_cpy_in (by omega) (by omega), Nat.zero_add, Nat.sub_zero]
    · rw [zr_ne _ _ (by decide), zr_kk, pk_cpy_in (by omega) (by omega), Nat.zero_add, Nat.sub_zero]
    · rw [zr_kk, pk_cpy_in (by omega) (by omega), Nat.zero_add, Nat.sub_zero]
  · rw [zr_kk, pk_cpy_in (by omega) (by omega), Nat.zero_add, Nat.sub_zero]
theorem NE_copy {U U' : ZS} {f : ZR} {o nN nB : Nat} (hN : nN ≤ 24) (hB : nB ≤ 8) (h1 : ∀ k, k < 4 → ∀ j, j < 24 → U' k j = U k j) (h2 : ∀ j, j < 16 → U' 4 j = U 4 j) (r : NE U f o nN nB) : NE U' f o nN nB := by
  refine ⟨fun n hn => ?_, fun e he => ?_, r.2.2⟩
  · rw [h1 0 (by omega) n (by omega), h1 1 (by omega) n (by omega), h1 2 (by omega) n (by omega), h1 3 (by omega) n (by omega)]
    exact r.1 n hn
  · rw [h2 e (by omega)]
    exact r.2.1 e he
theorem m_keep (M : ZS) (x : Int32) (Q : Int32 → ZS → Prop) (h0 : (¬ ∃ n, n < 2 ∧ x = nI n) → Q (-1) M) (h1 : ∀ k, k < 2 → x = nI k → Q (M 2 0) (zst (zrp M 19 (brF (M 16) (M 19) 0 (112 * k) 112)) 20 k 1)) : g_X9_keep x M Q := by
  unfold g_X9_keep
  refine in_sp x (N := 2) (by omega) (by decide) _ (fun k hk e => ⟨fun z => absurd z (by decide), fun _ => ?_⟩) (fun hx => ⟨fun _ => h0 hx, fun z => (z rfl).elim⟩)
  have h2 := h1 k hk e
  subst e
  rw [show (112 : Int32) * nI k = nI (112 * k) from pk_mul (a := 112) (b := k)]
  refine bring_sp (a := 0) (d := 112 * k) (c := 112) (by omega) (by omega) (by omega) (by omega) _ _ _ ?_
  rw [forall_eq, nI_clamp (by omega), zs_ne _ _ _ (by decide), zr_ne _ _ (by decide)]
  exact ⟨vp_in_nI hk (by omega), h2⟩
theorem m_back (M : ZS) (x : Int32) (Q : Int32 → ZS → Prop) (h0 : (¬ ∃ n, n < 2 ∧ x = nI n) → Q (-1) M) (h1 : ∀ k, k < 2 → x = nI k → (M 20 k = 0 → Q (-2) M) ∧ (¬ M 20 k = 0 → Q (M 2 0) (zst (zrp M 16 (brF (M 19) (M 16) (112 * k) 0 112)) 18 0 0))) : g_X9_back x M Q := by
  unfold g_X9_back
  refine in_sp x (N := 2) (by omega) (by decide) _ (fun k hk e => ⟨fun z => absurd z (by decide), fun _ => ?_⟩) (fun hx => ⟨fun _ => h0 hx, fun z => (z rfl).elim⟩)
  obtain ⟨ha, hb⟩ := h1 k hk e
  subst e
  rw [show (112 : Int32) * nI k = nI (112 * k) from pk_mul (a := 112) (b := k), nI_clamp (by omega)]
  refine ⟨vp_in_nI hk (by omega), ha, fun z => ?_⟩
  refine bring_sp (a := 112 * k) (d := 0) (c := 112) (by omega) (by omega) (by omega) (by omega) _ _ _ ?_
  rw [forall_eq, zs_ne _ _ _ (by decide), zr_ne _ _ (by decide)]
  exact hb z
theorem lk_keep : LK_keep RR := by
  intro S0 S1 S2 S3 S4 S5 S6 S7 S8 S9 S10 S11 M x r
  have rr := r
  obtain ⟨nN, nB, len, h, r⟩ := RR_to r
  obtain ⟨⟨ws, ww⟩, tx, ⟨se, ne⟩, ⟨f5, f6, wk⟩, hh, im, tl⟩ := id r
  have hN24 := ws.1.2.2.1
  have hB8 := ws.1.2.2.2
  unfold g_X8_keep
  have bad : (¬ ∃ n, n < 2 ∧ x = nI n) → g_X9_keep x M (fun r2 TM => -1 = r2 ∧ RR S0 S1 S2 S3 S4 S5 S6 S7 S8 S9 S10 S11 TM) := fun hx => m_keep M x _ (fun _ => ⟨rfl, rr⟩) (fun k hk e => absurd ⟨k, hk, e⟩ hx)
  rcases inR_cases x (N := 2) (by omega) with ⟨a, b⟩ | ⟨j, hj, e, a, b⟩ | ⟨k, hk, e⟩
  · exact ⟨fun _ => bad b, fun z => absurd a z⟩
  · refine ⟨fun _ => bad b, fun _ => ⟨fun z => ?_, fun _ => bad b⟩⟩
    rw [e] at z
    have := (nI_ltI (a := j) (b := 2) hj (by omega)).mp z
    omega
  have c1 : ¬ x < 0 := by rw [e]; exact nI_pos (by omega)
  have c2 : x < 2 := by rw [e]; exact (nI_ltI (a := k) (b := 2) (by omega) (by omega)).mpr hk
  -- what comes out
  have fin : ∀ T10 T11 : ZS, (k = 0 → (∀ k, k < 4 → ∀ j, j < 24 → T10 k j = S4 k j) ∧ (∀ j, j < 16 → T10 4 j = S4 4 j) ∧ T11 = S11) → (k = 1 → (∀ k, k < 4 → ∀ j, j < 24 → T11 k j = S4 k j) ∧ (∀ j, j < 16 → T11 4 j = S4 4 j) ∧ T10 = S10) → g_X9_keep x M (fun r2 TM => S2 1 0 = r2 ∧ RR (zst S0 10 x.toNatClampNeg 1) S1 S2 S3 S4 S5 S6 S7 S8 S9 T10 T11 TM) := by
    intro T10 T11 t0 t1
    refine m_keep M x _ (fun hx => absurd ⟨k, hk, e⟩ hx) (fun k' hk' e' => ?_)
    have ek : k = k' := (nI_eq (by omega) (by omega)).mp (e.symm.trans e')
    subst ek
    rw [e, nI_clamp (by omega)]
    refine ⟨se.1.2.trans ws.1.1.symm, RR_of (nN := nN) (nB := nB) (len := len) (h := h) S3 S7 ?_⟩
    have ep : pr (zst (zrp M 19 (brF (M 16) (M 19) 0 (112 * k) 112)) 20 k 1) = pr M := pr_eq (fun j h1 h2 => by rw [zs_ne _ _ _ (by omega), zr_ne _ _ (by omega)])
    have ei : ∀ j, j ≠ 19 → j ≠ 20 → zst (zrp M 19 (brF (M 16) (M 19) 0 (112 * k) 112)) 20 k 1 j = M j := fun j h1 h2 => by rw [zs_ne _ _ _ h2, zr_ne _ _ h1]
    have e19 : zst (zrp M 19 (brF (M 16) (M 19) 0 (112 * k) 112)) 20 k 1 19 = brF (M 16) (M 19) 0 (112 * k) 112 := by rw [zs_ne _ _ _ (by decide), zr_kk]
    have e20 : zst (zrp M 19 (brF (M 16) (M 19) 0 (112 * k) 112)) 20 k 1 20 = upd (M 20) k 1 := by rw [zs_kk, zr_ne _ _ (by decide)]
    unfold RC
    rw [ep, ei 0 (by decide) (by decide), ei 1 (by decide) (by decide), ei 16 (by decide) (by decide), ei 17 (by decide) (by decide), ei 18 (by decide) (by decide), ei 21 (by decide) (by decide), e19, e20, zs_kk, zs_ne (k' := 11) _ _ _ (by decide)]
    refine ⟨⟨ws, ww⟩, tx, ⟨se, ne⟩, ⟨f5, f6, wk⟩, hh, ⟨fun i hi => ?_, fun q => ?_, fun q => ?_⟩, tl⟩
    · by_cases y : i = k
      · subst y
        rw [pk_us, pk_us]
        exact ⟨isB_1, rfl⟩
      · rw [pk_un y, pk_un y]
        exact im.1 i hi
    · rcases (show k = 0 ∨ k = 1 by omega) with rfl | rfl
      · obtain ⟨a, b, -⟩ := t0 rfl
        refine ⟨NE_copy hN24 hB8 a b (NE_cong hN24 hB8 (fun j hj => ?_) ne), WW_cong (fun _ _ => rfl) (fun j hj => ?_) ww⟩
        · simp only [brF]
          rw [if_pos (by omega)]
          exact congrArg (M 16) (by omega)
        · simp only [brF]
          rw [if_pos (by omega)]
          exact congrArg (M 16) (by omega)
      · obtain ⟨-, -, b⟩ := t1 rfl
        rw [pk_un (by decide)] at q
        obtain ⟨i1, i2⟩ := im.2.1 q
        rw [b]
        refine ⟨NE_cong hN24 hB8 (fun j hj => ?_) i1, WW_cong (fun _ _ => rfl) (fun j hj => ?_) i2⟩
        · simp only [brF]
          rw [if_neg (by omega)]
        · simp only [brF]
          rw [if_neg (by omega)]
    · rcases (show k = 0 ∨ k = 1 by omega) with rfl | rfl
      · obtain ⟨-, -, b⟩ := t0 rfl
        rw [pk_un (by decide)] at q
        obtain ⟨i1, i2⟩ := im.2.2 q
        rw [b]
        refine ⟨NE_cong hN24 hB8 (fun j hj => ?_) i1, WW_cong (fun _ _ => rfl) (fun j hj => ?_) i2⟩
        · simp only [brF]
          rw [if_neg (by omega)]
        · simp only [brF]
          rw [if_neg (by omega)]
      · obtain ⟨a, b, -⟩ := t1 rfl
        refine ⟨NE_copy hN24 hB8 a b (NE_cong hN24 hB8 (fun j hj => ?_) ne), WW_cong (fun _ _ => rfl) (fun j hj => ?_) ww⟩
        · simp only [brF]
          rw [if_pos (by omega)]
          exact congrArg (M 16) (by omega)
        · simp only [brF]
          rw [if_pos (by omega)]
          exact congrArg (M 16) (by omega)
  have hv : vp_in x 2 := by rw [e]; exact vp_in_nI hk (by omega)
  refine ⟨fun z => absurd z c1, fun _ => ⟨fun _ => ⟨fun q => ?_, fun q => ?_, ?_⟩, fun z => absurd c2 z⟩⟩
  · have k0 : k = 0 := (nI_eq (b := 0) (by omega) (by omega)).mp (e.symm.trans q)
    refine copy_sp _ _ _ (fun T10 a b => ⟨hv, ?_⟩)
    rw [forall_eq]
    exact fin T10 S11 (fun _ => ⟨a, b, rfl⟩) (fun y => by omega)
  · have k1 : k = 1 := (nI_eq (b := 1) (by omega) (by omega)).mp (e.symm.trans q)
    refine copy_sp _ _ _ (fun T11 a b => ⟨hv, ?_⟩)
    rw [forall_eq]
    exact fin S10 T11 (fun y => by omega) (fun _ => ⟨a, b, rfl⟩)
  · rcases (show k = 0 ∨ k = 1 by omega) with rfl | rfl
    · exact Or.inl e
    · exact Or.inr e
theorem lk_back : LK_back RR := by
  intro S0 S1 S2 S3 S4 S5 S6 S7 S8 S9 S10 S11 M x r
  have rr := r
  obtain ⟨nN, nB, len, h, r⟩ := RR_to r
  obtain ⟨⟨ws, ww⟩, tx, ⟨se, ne⟩, ⟨f5, f6, wk⟩, hh, im, tl⟩ := id r
  have hN24 := ws.1.2.2.1
  have hB8 := ws.1.2.2.2
  unfold g_X8_back
  have bad : (¬ ∃ n, n < 2 ∧ x = nI n) → g_X9_back x M (fun r2 TM => -1 = r2 ∧ RR S0 S1 S2 S3 S4 S5 S6 S7 S8 S9 S10 S11 TM) := fun hx => m_back M x _ (fun _ => ⟨rfl, rr⟩) (fun k hk e => absurd ⟨k, hk, e⟩ hx)
  rcases inR_cases x (N := 2) (by omega) with ⟨a, b⟩ | ⟨j, hj, e, a, b⟩ | ⟨k, hk, e⟩
  · exact ⟨fun _ => bad b, fun z => absurd a z⟩
  · refine ⟨fun _ => bad b, fun _ => ⟨fun z => ?_, fun _ => bad b⟩⟩
    rw [e] at z
    have := (nI_ltI (a := j) (b := 2) hj (by omega)).mp z
    omega
  have c1 : ¬ x < 0 := by rw [e]; exact nI_pos (by omega)
  have c2 : x < 2 := by rw [e]; exact (nI_ltI (a := k) (b := 2) (by omega) (by omega)).mpr hk
  have hv : vp_in x 2 := by rw [e]; exact vp_in_nI hk (by omega)
  have ex : x.toNatClampNeg = k := by rw [e, nI_clamp (by omega)]
  have same : ∀ k', k' < 2 → x = nI k' → k' = k := fun k' hk' e' => (nI_eq (by omega) (by omega)).mp (e'.symm.trans e)
  have fin : ∀ (I U' : ZS), ¬ S0 10 k = 0 → NE I (M 19) (112 * k) nN nB → WW (pr M) (fun e => M 19 (112 * k + (96 + e))) nN nB → (∀ k, k < 4 → ∀ j, j < 24 → U' k j = I k j) → (∀ j, j < 16 → U' 4 j = I 4 j) → ∀ z0 z1 z3 z5 z6 z7 z8 z10 z11 : ZS, g_X8_settle z0 z1 S2 z3 U' z5 z6 z7 z8 (zst S9 0 0 0) z10 z11 (fun T5 T6 T8 => g_X9_back x M (fun r2 TM => S2 1 0 = r2 ∧ RR S0 S1 S2 S3 U' T5 T6 S7 T8 (zst S9 0 0 0) S10 S11 TM)) := by
    intro I U' hk0 ni wi a b z0 z1 z3 z5 z6 z7 z8 z10 z11
    refine change_sp r (brF (M 19) (M 16) (112 * k) 0 112) (WW_cong (fun _ _ => rfl) (fun e he => ?_) wi) (NE_copy hN24 hB8 a b (NE_cong hN24 hB8 (fun j hj => ?_) ni)) _ (fun T5 T6 T8 fin => ?_)
    · simp only [brF]
      rw [if_pos (by omega)]
      exact congrArg (M 19) (by omega)
    · simp only [brF]
      rw [if_pos (by omega)]
      exact congrArg (M 19) (by omega)
    refine m_back M x _ (fun hx => absurd ⟨k, hk, e⟩ hx) (fun k' hk' e' => ?_)
    rw [same k' hk' e']
    refine ⟨fun y => absurd ((im.1 k hk).2.symm.trans y) hk0, fun _ => ⟨se.1.2.trans ws.1.1.symm, ?_⟩⟩
    obtain ⟨F, W2, X2, rc⟩ := fin (zst (zrp M 16 (brF (M 19) (M 16) (112 * k) 0 112)) 18 0 0) (zst S9 0 0 0) 0 (fun j k1 k2 k3 => by rw [zs_ne _ _ _ k3, zr_ne _ _ k1]) (by rw [zs_ne _ _ _ (by decide), zr_kk]) ⟨by omega, zs_at _ _ _ _, zs_at _ _ _ _, trivial⟩
    exact RR_of S3 S7 rc
  rw [ex]
  refine ⟨fun z => absurd z c1, fun _ => ⟨fun _ => ⟨hv, fun q => ?_, fun q => ⟨fun q0 => ?_, fun q1 => ?_, ?_⟩⟩, fun z => absurd c2 z⟩⟩
  · refine m_back M x _ (fun hx => absurd ⟨k, hk, e⟩ hx) (fun k' hk' e' => ?_)
    rw [same k' hk' e']
    exact ⟨fun _ => ⟨rfl, rr⟩, fun y => absurd ((im.1 k hk).2.trans q) y⟩
  · have k0 : k = 0 := (nI_eq (b := 0) (by omega) (by omega)).mp (e.symm.trans q0)
    subst k0
    obtain ⟨i1, i2⟩ := im.2.1 ((im.1 0 hk).1.resolve_left q)
    refine copy_sp _ _ _ (fun U' a b => ?_)
    rw [forall_eq]
    exact fin S10 U' q i1 i2 a b _ _ _ _ _ _ _ _ _
  · have k1 : k = 1 := (nI_eq (b := 1) (by omega) (by omega)).mp (e.symm.trans q1)
    subst k1
    obtain ⟨i1, i2⟩ := im.2.2 ((im.1 1 hk).1.resolve_left q)
    refine copy_sp _ _ _ (fun U' a b => ?_)
    rw [forall_eq]
    exact fin S11 U' q i1 i2 a b _ _ _ _ _ _ _ _ _
  · rcases (show k = 0 ∨ k = 1 by omega) with rfl | rfl
    · exact Or.inl e
    · exact Or.inr e
