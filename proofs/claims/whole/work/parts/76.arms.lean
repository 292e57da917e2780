/-! joins -/
section ARMS
variable {f : ZR} {len lo : Nat} {S T M : ZS} {F : Nat → Nat} {nN nB c n a : Nat}
theorem hasArm_sp (hn : n < 24) (ha : a ≤ 3) (t8 : T 8 n = nI a) (x : Int32) (Q : Int32 → Prop) (h1 : (∃ k, k < a ∧ T 9 (3 * n + k) = x) → Q 1) (h0 : ¬ (∃ k, k < a ∧ T 9 (3 * n + k) = x) → Q 0) : g_X4_hasArm (nI n) x T Q := by
  unfold g_X4_hasArm g_X4_armFrom
  simp only [forall_eq]
  rw [n3]
  have nc := nI_clamp (n := n) (by omega)
  refine fx_all (fun p => ∃ j, j ≤ a ∧ p = nI (3 * n + j) ∧ ∀ k, k < j → ¬ T 9 (3 * n + k) = x) (fun p => 3 * n + a - p.toNatClampNeg) ?_ _ ⟨0, Nat.zero_le _, rfl, fun k hk => absurd hk (by omega)⟩
  rintro X p ⟨j, hj, rfl, hno⟩ hX
  have jc := nI_clamp (n := 3 * n + j) (by omega)
  unfold F_X4_armFrom_4
  simp only [n3, nc, t8, nI_add, jc, forall_eq, nI_1]
  refine ⟨vp_in_nI hn (by omega), fun y => ⟨fun _ => h0 (fun ⟨k, hk, e⟩ => ?_), fun w => (w (by trivial)).elim⟩, fun y => ⟨?_, fun w => ?_, fun w => ?_⟩⟩
  · have := (nI_leI (by omega) (by omega)).mp y
    exact hno k (by omega) e
  · have hlt : ¬ 3 * n + a ≤ 3 * n + j := fun k => y ((nI_leI (by omega) (by omega)).mpr k)
    exact vp_in_nI (by omega) (by omega)
  · have hlt : ¬ 3 * n + a ≤ 3 * n + j := fun k => y ((nI_leI (by omega) (by omega)).mpr k)
    exact ⟨fun k => absurd k (nI_m9 (by omega)), fun _ => h1 ⟨j, by omega, w⟩⟩
  · have hlt : ¬ 3 * n + a ≤ 3 * n + j := fun k => y ((nI_leI (by omega) (by omega)).mpr k)
    refine hX _ ⟨j + 1, by omega, rfl, fun k hk => ?_⟩ ?_
    · by_cases e : k = j
      · rw [e]; exact w
      · exact hno k (by omega)
    · show 3 * n + a - (nI (3 * n + j + 1)).toNatClampNeg < 3 * n + a - (nI (3 * n + j)).toNatClampNeg
      rw [jc, nI_clamp (by omega)]
      omega
theorem addArm_sp (hn : n < 24) (ha : a < 3) (t8 : T 8 n = nI a) (v w : Int32) (Q : ZS → Prop) (hQ : Q (zst (zst (zst T 9 (3 * n + a) v) 10 (3 * n + a) w) 8 n (nI (a + 1)))) : g_X4_addArm (nI n) v w T Q := by
  unfold g_X4_addArm
  have nc := nI_clamp (n := n) (by omega)
  have jc := nI_clamp (n := 3 * n + a) (by omega)
  simp only [forall_eq, nc, n3, t8, nI_add, jc]
  rw [zs_ne _ _ _ (show 8 ≠ 10 by decide), zs_ne _ _ _ (show 8 ≠ 9 by decide), t8, nI_1]
  have hv : vp_in (nI n) 24 := vp_in_nI hn (by omega)
  have hw : vp_in (nI (3 * n + a)) 72 := vp_in_nI (by omega) (by omega)
  exact ⟨hv, hw, hw, hv, hv, hQ⟩
/-- the reference looks for an arm of the same block -/
theorem dup_rn (hn : n < 24) (ha : a ≤ 3) (m32 : M 32 n = nI a) (x3 x4 w : Int32) {Q : ZS → Prop} {X12 : Int32 × Int32 × ZS → Prop} (hd : M 23 0 = 0 → (∃ k, k < a ∧ M 33 (3 * n + k) = w) → G_X9_readsJoin_128 Q X12 (nI n) x3 w (zst (zst M 23 0 1) 22 0 x4)) (hno : (M 23 0 = 0 → ¬ ∃ k, k < a ∧ M 33 (3 * n + k) = w) → G_X9_readsJoin_128 Q X12 (nI n) x3 w M) : ∃ k, fx (F_X9_readsJoin_59 Q X12) k (nI n, x3, x4, w, 0, M) := by
  have nc := nI_clamp (n := n) (by omega)
  have hv : vp_in (nI n) 24 := vp_in_nI hn (by omega)
  refine fx_all (fun p => ∃ j, j ≤ a ∧ ((p = (nI n, x3, x4, w, nI j, M) ∧ (M 23 0 = 0 → ∀ k, k < j → ¬ M 33 (3 * n + k) = w)) ∨ (p = (nI n, x3, x4, w, nI j, zst (zst M 23 0 1) 22 0 x4) ∧ M 23 0 = 0 ∧ ∃ k, k < a ∧ M 33 (3 * n + k) = w))) (fun p => a - p.2.2.2.2.1.toNatClampNeg) ?_ _ ⟨0, Nat.zero_le _, Or.inl ⟨rfl, fun _ k hk => absurd hk (by omega)⟩⟩
  rintro X p ⟨j, hj, ⟨rfl, hno'⟩ | ⟨rfl, h23, hk⟩⟩ hX
  · have jc := nI_clamp (n := j) (by omega)
    have jc3 := nI_clamp (n := 3 * n + j) (by omega)
    unfold F_X9_readsJoin_59
    simp only [nc, m32, n3, nI_add, jc3]
    refine ⟨hv, fun y => hno (fun z => fun ⟨k, hk, e⟩ => hno' z k ?_ e), fun y => ⟨fun z => ⟨?_, fun e => ?_, fun e => ?_⟩, fun z => hno (fun k => absurd k z)⟩⟩
    · have := (nI_leI (by omega) (by omega)).mp y
      omega
    · have hlt : ¬ a ≤ j := fun k => y ((nI_leI (by omega) (by omega)).mpr k)
      exact vp_in_nI (by omega) (by omega)
    · have hlt : ¬ a ≤ j := fun k => y ((nI_leI (by omega) (by omega)).mpr k)
      unfold G_X9_readsJoin_99
      simp only [forall_eq, zs_at, nI_1]
      refine ⟨isB_1, fun k => absurd k (by decide), fun _ => hX _ ⟨j + 1, by omega, Or.inr ⟨rfl, z, j, by omega, e⟩⟩ ?_⟩
      show a - (nI (j + 1)).toNatClampNeg < a - (nI j).toNatClampNeg
      rw [jc, nI_clamp (by omega)]
      omega
    · have hlt : ¬ a ≤ j := fun k => y ((nI_leI (by omega) (by omega)).mpr k)
      unfold G_X9_readsJoin_99
      simp only [forall_eq, zs_at, nI_1]
      refine ⟨isB_0, fun _ => ?_, fun k => (k (by trivial)).elim⟩
      rw [zs_self z, zs_self (v := M 22 0) rfl]
      refine hX _ ⟨j + 1, by omega, Or.inl ⟨rfl, fun z k hk => ?_⟩⟩ ?_
      · by_cases q : k = j
        · rw [q]; exact e
        · exact hno' z k (by omega)
      · show a - (nI (j + 1)).toNatClampNeg < a - (nI j).toNatClampNeg
        rw [jc, nI_clamp (by omega)]
        omega
  · unfold F_X9_readsJoin_59
    have e23 : zst (zst M 23 0 1) 22 0 x4 23 0 = 1 := by rw [zs_ne _ _ _ (by decide), zs_at]
    simp only []
    refine ⟨by rw [show (nI n).toNatClampNeg = n from nc] at *; exact hv, fun y => hd h23 hk, fun y => ⟨fun z => absurd (e23.symm.trans z) (by decide), fun _ => hd h23 hk⟩⟩
/-- what both hold of a join while it is read -/
def AR (T0 T M0 M : ZS) (n c a : Nat) : Prop := FQ M0 M n ∧ (M 27 n = 3 ∧ M 28 n = nI c ∧ M 32 n = nI a ∧ M 38 (72 + n) = 0) ∧ (∀ k, k < a → (T 9 (3 * n + k) = M 33 (3 * n + k) ∧ T 10 (3 * n + k) = M 34 (3 * n + k)) ∧ vp_in (M 33 (3 * n + k)) 8 ∧ vp_in (M 34 (3 * n + k)) 24) ∧ ∀ i j, i < a → j < a → M 33 (3 * n + i) = M 33 (3 * n + j) → i = j
def AC (T0 T : ZS) (n c a : Nat) : Prop := FT T0 T n c ∧ T 2 n = nI c ∧ T 3 n = 3 ∧ T 4 n = 0 ∧ T 6 n = -9 ∧ T 7 n = -9 ∧ T 8 n = nI a
theorem AC_put {T0 : ZS} {v w : Int32} (h : AC T0 T n c a) : AC T0 (zst (zst (zst T 9 (3 * n + a) v) 10 (3 * n + a) w) 8 n (nI (a + 1))) n c (a + 1) := by
  obtain ⟨h1, h2, h3, h4, h5, h6, h7⟩ := h
  refine ⟨FT_put (FT_put (FT_put h1 (Or.inr ⟨Or.inl rfl, by omega⟩)) (Or.inr ⟨Or.inr rfl, by omega⟩)) (Or.inl ⟨by decide, by decide, rfl⟩), ?_, ?_, ?_, ?_, ?_, zs_at _ _ _ _⟩
  all_goals
    rw [zs_ne _ _ _ (by decide), zs_ne _ _ _ (by decide), zs_ne _ _ _ (by decide)]
    assumption
theorem AR_M {T0 M0 M' : ZS} (h : ∀ k, k ≠ 22 → k ≠ 23 → M' k = M k) (r : AR T0 T M0 M n c a) : AR T0 T M0 M' n c a := by
  refine ⟨FQ_tx r.1 h, ?_⟩
  rw [h 27 (by decide) (by decide), h 28 (by decide) (by decide), h 32 (by decide) (by decide), h 33 (by decide) (by decide), h 34 (by decide) (by decide), h 38 (by decide) (by decide)]
  exact r.2
theorem AR_put {T0 M0 M2 M4 : ZS} {w v2 w2 : Int32} {k1 k2 : Nat} (r : AR T0 T M0 M n c a) (ha : a < 3) (f2 : ∀ k, k ≠ 22 → k ≠ 23 → M2 k = M k) (f4 : ∀ k, k ≠ 22 → k ≠ 23 → M4 k = zst M2 33 (3 * n + a) w k) (hw : w = nI k1) (hk1 : k1 < 8) (hw2 : w2 = nI k2) (hk2 : k2 < 24) (ev2 : v2 = w2) (hD : ¬ ∃ k, k < a ∧ M 33 (3 * n + k) = w) : AR T0 (zst (zst (zst T 9 (3 * n + a) w) 10 (3 * n + a) v2) 8 n (nI (a + 1))) M0 (zst (zst M4 34 (3 * n + a) w2) 32 n (nI (a + 1))) n c (a + 1) := by
  obtain ⟨r1, ⟨r2, r3, r4, r5⟩, r6, r7⟩ := r
  have g33 : ∀ k, k < a → zst (zst M4 34 (3 * n + a) w2) 32 n (nI (a + 1)) 33 (3 * n + k) = M 33 (3 * n + k) := fun k hk => by
    rw [zs_ne _ _ _ (by decide), zs_ne _ _ _ (by decide), f4 33 (by decide) (by decide), zs_ni _ _ _ (by omega), f2 33 (by decide) (by decide)]
  have g33a : zst (zst M4 34 (3 * n + a) w2) 32 n (nI (a + 1)) 33 (3 * n + a) = w := by
    rw [zs_ne _ _ _ (by decide), zs_ne _ _ _ (by decide), f4 33 (by decide) (by decide), zs_at]
  have g34 : ∀ k, k < a → zst (zst M4 34 (3 * n + a) w2) 32 n (nI (a + 1)) 34 (3 * n + k) = M 34 (3 * n + k) := fun k hk => by
    rw [zs_ne _ _ _ (by decide), zs_ni _ _ _ (by omega), f4 34 (by decide) (by decide), zs_ne _ _ _ (by decide), f2 34 (by decide) (by decide)]
  have g34a : zst (zst M4 34 (3 * n + a) w2) 32 n (nI (a + 1)) 34 (3 * n + a) = w2 := by
    rw [zs_ne _ _ _ (by decide), zs_at]
  refine ⟨FQ_put (FQ_put (FQ_tx (FQ_put (FQ_tx r1 f2) (Or.inr (Or.inl ⟨Or.inl rfl, by omega⟩))) f4) (Or.inr (Or.inl ⟨Or.inr rfl, by omega⟩))) (Or.inl ⟨by decide, by decide, rfl⟩), ⟨?_, ?_, zs_at _ _ _ _, ?_⟩, fun k hk => ?_, fun i j hi hj e => ?_⟩
  · rw [zs_ne _ _ _ (by decide), zs_ne _ _ _ (by decide), f4 27 (by decide) (by decide), zs_ne _ _ _ (by decide), f2 27 (by decide) (by decide)]; exact r2
  · rw [zs_ne _ _ _ (by decide), zs_ne _ _ _ (by decide), f4 28 (by decide) (by decide), zs_ne _ _ _ (by decide), f2 28 (by decide) (by decide)]; exact r3
  · rw [zs_ne _ _ _ (by decide), zs_ne _ _ _ (by decide), f4 38 (by decide) (by decide), zs_ne _ _ _ (by decide), f2 38 (by decide) (by decide)]; exact r5
  · by_cases q : k = a
    · subst q
      rw [g33a, g34a, zs_ne _ _ _ (show 9 ≠ 8 by decide), zs_ne _ _ _ (show 9 ≠ 10 by decide), zs_at, zs_ne _ _ _ (show 10 ≠ 8 by decide), zs_at, hw, ev2, hw2]
      exact ⟨⟨rfl, rfl⟩, vp_in_nI hk1 (by omega), vp_in_nI hk2 (by omega)⟩
    · rw [g33 k (by omega), g34 k (by omega), zs_ne _ _ _ (show 9 ≠ 8 by decide), zs_ne _ _ _ (show 9 ≠ 10 by decide), zs_ni _ _ _ (by omega), zs_ne _ _ _ (show 10 ≠ 8 by decide), zs_ni _ _ _ (by omega), zs_ne _ _ _ (show 10 ≠ 9 by decide)]
      exact r6 k (by omega)
  · by_cases qi : i = a
    · by_cases qj : j = a
      · rw [qi, qj]
      · rw [qi, g33a, g33 j (by omega)] at e
        exact absurd ⟨j, by omega, e.symm⟩ hD
    · by_cases qj : j = a
      · rw [qj, g33a, g33 i (by omega)] at e
        exact absurd ⟨i, by omega, e⟩ hD
      · rw [g33 i (by omega), g33 j (by omega)] at e
        exact r7 i j (by omega) (by omega) e
/-- open: the reference stands before an arm (more = 1), or before the end (more = 0) -/
def AO (f : ZR) (len lo : Nat) (T0 T M0 S : ZS) (n c a : Nat) (run : (ZS → Prop) → Prop) : Prop := ∃ M' more, (∀ R : ZS → Prop, (∃ k, fx (F_X9_readsJoin_12 R) k (nI n, more, M')) → run R) ∧ JT f len lo S M' ∧ S 6 0 = 0 ∧ AR T0 T M0 M' n c a ∧ ((more = 1 ∧ a < 3 ∧ (a = 0 ∨ ¬ S 2 0 = 4)) ∨ (more = 0 ∧ ¬ a = 0 ∧ (a = 3 ∨ ¬ S 2 0 = 2)))
def AX (f : ZR) (len lo : Nat) (M0 S : ZS) (run : (ZS → Prop) → Prop) : Prop := ∃ M', (∀ R : ZS → Prop, R M' → run R) ∧ JT f len lo S M' ∧ S 6 0 = 1 ∧ ∀ k, k ≤ 21 → M' k = M0 k
theorem closes_wrong {R : ZS → Prop} (h : M 23 0 = 1) (hR : R M) : g_X9_closes M R := by
  unfold g_X9_closes
  exact ⟨fun y => absurd (h.symm.trans y) (by decide), fun _ => hR⟩
theorem join12 {R : ZS → Prop} (h : g_X9_closes M R) : ∃ k, fx (F_X9_readsJoin_12 R) k (nI n, 0, M) := by
  refine ⟨1, ?_⟩
  show F_X9_readsJoin_12 R (fx (F_X9_readsJoin_12 R) 0) (nI n, 0, M)
  unfold F_X9_readsJoin_12
  exact ⟨fun _ => h, fun y => (y rfl).elim⟩
/-- one arm -/
theorem j_arm {T0 M0 : ZS} {run : (ZS → Prop) → Prop} (hn : n < 24) (ha : a < 3) (ac : AC T0 T n c a) (hso : (AO f len lo T0 T M0 S n c a run ∧ (a = 0 ∨ ¬ S 2 0 = 4)) ∨ AX f len lo M0 S run) (Q : ZS → ZS → Prop) (X8 : Int32 × Int32 × ZS × ZS → Prop) (hX : ∀ S' T', AC T0 T' n c (a + 1) → (AO f len lo T0 T' M0 S' n c (a + 1) run ∨ AX f len lo M0 S' run) → X8 (nI n, nI (a + 1), S', T')) : G_X3_readArms_25 Q X8 (nI n) (nI a) S T := by
  have nc := nI_clamp (n := n) (by omega)
  have hv : vp_in (nI n) 24 := vp_in_nI hn (by omega)
  have hw : vp_in (nI (3 * n + a)) 72 := vp_in_nI (by omega) (by omega)
  have jc := nI_clamp (n := 3 * n + a) (by omega)
  have t8 := ac.2.2.2.2.2.2
  have stuck : ∀ M', (∀ R : ZS → Prop, R M' → run R) → ∀ S', JT f len lo S' M' → S' 6 0 = 1 → (∀ k, k ≤ 21 → M' k = M0 k) → G_X3_readArms_50 Q X8 (nI n) (nI a) S' T := by
    intro M' hr S' jt h6 fr
    unfold G_X3_readArms_50
    refine below_stuck _ _ (fun y => absurd (h6.symm.trans y) (by decide)) _ ?_
    rw [zs_self h6]
    refine below_stuck _ _ (fun y => absurd (h6.symm.trans y) (by decide)) _ ?_
    rw [zs_self h6]
    refine addArm_sp hn ha t8 _ _ _ ?_
    simp only [forall_eq, nI_1]
    exact hX _ _ (AC_put ac) (Or.inr ⟨M', hr, jt, h6, fr⟩)
  unfold G_X3_readArms_25
  simp only [forall_eq]
  rcases hso with ⟨⟨M', more, hr, jt, h6, ar, alt⟩, hgo⟩ | ⟨M', hr, jt, h6, fr⟩
  · rcases alt with ⟨rfl, -, -⟩ | ⟨rfl, hne, h2⟩
    · -- an arm
      obtain ⟨ar1, ⟨ar2, ar3, ar4, ar5⟩, ar6, ar7⟩ := id ar
      have po := JT_po jt h6
      have ju := j_uniq (fun x => ∃ k, k < a ∧ T 9 (3 * n + k) = x) jt h6 (fun r_2 S0_1 => g_X6_take 2 24 S0_1 (fun r_4 S0_3 => g_X4_addArm (nI n) r_2 r_4 T (fun S1_5 => ∀ x3_6, x3_6 = nI a + 1 → X8 (nI n, x3_6, S0_3, S1_5)))) (fun v S1 w cch M1 M2 hh hnum fr2 fr1 alt => ?_)
      · have g50 : ∀ S', g_X6_take 2 8 S' (fun r_2 S0_1 => g_X6_take 2 24 S0_1 (fun r_4 S0_3 => g_X4_addArm (nI n) r_2 r_4 T (fun S1_5 => ∀ x3_6, x3_6 = nI a + 1 → X8 (nI n, x3_6, S0_3, S1_5)))) → G_X3_readArms_50 Q X8 (nI n) (nI a) S' T := fun S' h => h
        refine ⟨fun y2 => hasArm_sp hn (by omega) t8 _ _ (fun y => ⟨fun k => absurd k (by decide), fun _ => g50 _ (ju.1 y2 y)⟩) (fun y => ⟨fun _ => g50 _ (ju.2 (fun _ => y)), fun k => (k rfl).elim⟩), fun y2 => g50 _ (ju.2 (fun k => absurd k y2))⟩
      · have m23 := po.2.1
        have dT : (∃ k, k < a ∧ T 9 (3 * n + k) = w) ↔ (∃ k, k < a ∧ M' 33 (3 * n + k) = w) := ⟨fun ⟨k, hk, e⟩ => ⟨k, hk, by rw [← (ar6 k hk).1.1]; exact e⟩, fun ⟨k, hk, e⟩ => ⟨k, hk, by rw [(ar6 k hk).1.1]; exact e⟩⟩
        have m2d : (∃ k, k < a ∧ M2 33 (3 * n + k) = w) ↔ (∃ k, k < a ∧ M' 33 (3 * n + k) = w) := by rw [fr2 33 (by decide) (by decide)]
        have m232 : M2 32 n = nI a := by rw [fr2 32 (by decide) (by decide)]; exact ar4
        -- the state before the arm's name
        have head : ∃ M3, (∀ R : ZS → Prop, ∀ K, G_X9_readsJoin_128 R (fx (F_X9_readsJoin_12 R) K) (nI n) (nI (3 * n + a)) w M3 → run R) ∧ JT f len lo S1 M3 ∧ (∀ k, k ≠ 22 → k ≠ 23 → M3 k = M' k) ∧ (S1 6 0 = 0 → v = w ∧ (¬ ∃ k, k < a ∧ M' 33 (3 * n + k) = w) ∧ ∃ k, k < 8 ∧ w = nI k) := by
          have pre0 : ∀ (R : ZS → Prop) (X : Int32 × Int32 × ZS → Prop), (∃ k, fx (F_X9_readsJoin_59 R X) k (nI n, nI (3 * n + a), M1 22 0, w, 0, M2)) → F_X9_readsJoin_12 R X (nI n, 1, M') := by
            intro R X h
            unfold F_X9_readsJoin_12
            simp only [forall_eq]
            refine ⟨fun y => absurd y (by decide), fun _ => ?_⟩
            rw [n3, nc, ar4, nI_add]
            refine ⟨hv, fun _ => hh _ ?_, fun y => absurd m23 y⟩
            unfold G_X9_readsJoin_48
            exact hnum _ h
          have pre : ∀ R : ZS → Prop, ∀ K, (∃ k, fx (F_X9_readsJoin_59 R (fx (F_X9_readsJoin_12 R) K)) k (nI n, nI (3 * n + a), M1 22 0, w, 0, M2)) → run R := fun R K h => hr R ⟨K + 1, pre0 R (fx (F_X9_readsJoin_12 R) K) h⟩
          rcases alt with ⟨a23, aD, ajt, a6⟩ | ⟨aD, ajt, aopen⟩
          · refine ⟨zst (zst M2 23 0 1) 22 0 (M1 22 0), fun R K h => pre R K (dup_rn hn (by omega) m232 _ _ _ (fun _ _ => h) (fun y => absurd (m2d.mpr (dT.mp aD)) (y a23))), ajt, fun k h1 h2 => by rw [zs_ne _ _ _ h1, zs_ne _ _ _ h2]; exact fr2 k h1 h2, fun y => absurd (a6.symm.trans y) (by decide)⟩
          · refine ⟨M2, fun R K h => pre R K (dup_rn hn (by omega) m232 _ _ _ (fun y1 y2 => absurd (dT.mpr (m2d.mp y2)) (aD y1)) (fun _ => h)), ajt, fr2, fun y => ?_⟩
            obtain ⟨-, e, nD, k, hk, ek⟩ := aopen y
            exact ⟨e, fun z => nD (dT.mpr z), k, hk, ek⟩
        obtain ⟨M3, hr3, jt3, fr3, st3⟩ := head
        refine j_below (B := 24) (by omega) (by omega) (JT_put (k := 33) (3 * n + a) w (by decide) jt3) _ (fun v2 S2 w2 M4 nr4 jt4 fr4 st4 => ?_)
        refine addArm_sp hn ha t8 _ _ _ ?_
        simp only [forall_eq, nI_1]
        have m4n : M4 32 n = nI a := by rw [fr4 32 (by decide) (by decide), zs_ne _ _ _ (by decide), fr3 32 (by decide) (by decide)]; exact ar4
        have m23e : zst (zst M4 34 (3 * n + a) w2) 32 n (nI (a + 1)) 23 0 = M4 23 0 := by rw [zs_ne _ _ _ (by decide), zs_ne _ _ _ (by decide)]
        have m32e : zst (zst M4 34 (3 * n + a) w2) 32 n (nI (a + 1)) 32 n = nI (a + 1) := zs_at _ _ _ _
        have jt6 : JT f len lo S2 (zst (zst M4 34 (3 * n + a) w2) 32 n (nI (a + 1))) := JT_put _ _ (by decide) (JT_put _ _ (by decide) (JT_mono (by omega) jt4))
        -- what the reference does behind the arm
        have tailR : ∀ R : ZS → Prop, ∀ K, (∀ M6, M6 = zst (zst M4 34 (3 * n + a) w2) 32 n (nI (a + 1)) → (M6 23 0 = 0 → (3 ≤ a + 1 → fx (F_X9_readsJoin_12 R) K (nI n, 0, M6)) ∧ (¬ 3 ≤ a + 1 → g_X9_here M6 (fun r_9 S0_8 => g_X9_in r_9 48 57 (fun r_10 => (((r_10 = 0) → fx (F_X9_readsJoin_12 R) K (nI n, 0, S0_8)) ∧ (¬ r_10 = 0 → fx (F_X9_readsJoin_12 R) K (nI n, 1, S0_8))))))) ∧ (¬ M6 23 0 = 0 → fx (F_X9_readsJoin_12 R) K (nI n, 0, M6))) → run R := by
          intro R K h
          refine hr3 R K ?_
          obtain ⟨q1, q2⟩ := h _ rfl
          unfold G_X9_readsJoin_128
          simp only [forall_eq]
          rw [jc]
          refine ⟨hw, nr4 _ ?_⟩
          rw [nc, zs_ne _ _ _ (show 32 ≠ 34 by decide), m4n, nI_1, m32e]
          refine ⟨hw, hv, hv, fun y => ⟨hv, fun z => (q1 y).1 ?_, fun z => (q1 y).2 ?_⟩, q2⟩
          · exact (nI_leI (a := 3) (b := a + 1) (by omega) (by omega)).mp z
          · exact fun k => z ((nI_leI (a := 3) (b := a + 1) (by omega) (by omega)).mpr k)
        rcases JT_st jt6 with ⟨z2, po6⟩ | ⟨z2, px6⟩
        · obtain ⟨z1, ev2, -, k2, hk2, ek2⟩ := st4 z2
          obtain ⟨ev, nD, k1, hk1, ek1⟩ := st3 z1
          have ar' : AR T0 (zst (zst (zst T 9 (3 * n + a) v) 10 (3 * n + a) v2) 8 n (nI (a + 1))) M0 (zst (zst M4 34 (3 * n + a) w2) 32 n (nI (a + 1))) n c (a + 1) := by
            rw [ev]
            exact AR_put ar ha fr3 fr4 ek1 hk1 ek2 hk2 ev2 nD
          by_cases h3 : 3 ≤ a + 1
          · exact hX _ _ (AC_put ac) (Or.inl ⟨_, 0, fun R ⟨K, hK⟩ => tailR R K (fun M6 e => by subst e; exact ⟨fun _ => ⟨fun _ => hK, fun y => absurd h3 y⟩, fun _ => hK⟩), jt6, z2, ar', Or.inr ⟨rfl, by omega, Or.inl (by omega)⟩⟩)
          · obtain ⟨-, h23, p, q, h22, hlo, hpq, hq, hb, hn', tk⟩ := po6
            have hl := jt6.1.1.1
            have jt7 : JT f len lo S2 (zst (zst (zst M4 34 (3 * n + a) w2) 32 n (nI (a + 1))) 22 0 (nI q)) := ⟨TX_M (zs_ne _ _ _ (by decide)) (zs_ne _ _ _ (by decide)) jt6.1, Or.inl ⟨z2, by rw [zs_ne _ _ _ (by decide)]; exact h23, q, q, zs_at _ _ _ _, by omega, Nat.le_refl _, hq, fun i a b => absurd a (by omega), hn', tk⟩⟩
            have ar7 := AR_M (M' := zst (zst (zst M4 34 (3 * n + a) w2) 32 n (nI (a + 1))) 22 0 (nI q)) (fun k h1 h2 => zs_ne _ _ _ h1) ar'
            have run7 : ∀ R : ZS → Prop, ∀ K, (q < len → isD (f q) → fx (F_X9_readsJoin_12 R) K (nI n, 1, zst (zst (zst M4 34 (3 * n + a) w2) 32 n (nI (a + 1))) 22 0 (nI q))) → (¬ (q < len ∧ isD (f q)) → fx (F_X9_readsJoin_12 R) K (nI n, 0, zst (zst (zst M4 34 (3 * n + a) w2) 32 n (nI (a + 1))) 22 0 (nI q))) → run R := by
              intro R K q1 q0
              refine tailR R K (fun M6 e => ?_)
              subst e
              refine ⟨fun _ => ⟨fun y => absurd y h3, fun _ => here_rn hl hpq hq hb hn' jt6.1.2.2.2.1 jt6.1.2.2.2.2 h22 _ (fun w => inD_sp _ _ (fun y => ⟨fun k => absurd k (by decide), fun _ => q1 w y⟩) (fun y => ⟨fun _ => q0 (fun z => y z.2), fun k => (k rfl).elim⟩)) (fun w => inD_sp _ _ (fun y => absurd y (by unfold isD; decide)) (fun y => ⟨fun _ => q0 (fun z => w z.1), fun k => (k rfl).elim⟩))⟩, fun y => absurd h23 y⟩
            by_cases hd : q < len ∧ isD (f q)
            · refine hX _ _ (AC_put ac) (Or.inl ⟨_, 1, fun R ⟨K, hK⟩ => run7 R K (fun _ _ => hK) (fun y => absurd hd y), jt7, z2, ar7, Or.inl ⟨rfl, by omega, Or.inr (fun y => ?_)⟩⟩)
              have := ((tk_stop hq tk).1.mp y).2
              exact n59.2.1 (by rw [← this]; exact hd.2)
            · refine hX _ _ (AC_put ac) (Or.inl ⟨_, 0, fun R ⟨K, hK⟩ => run7 R K (fun y1 y2 => absurd ⟨y1, y2⟩ hd) (fun _ => hK), jt7, z2, ar7, Or.inr ⟨rfl, by omega, Or.inr (fun y => ?_)⟩⟩)
              obtain ⟨m, m1, m2, m3, m4, m5, -⟩ := tk_num hq tk
              obtain ⟨b1, b2⟩ := m4.mp y
              exact hd ⟨by omega, m2 0 (by omega)⟩
        · refine hX _ _ (AC_put ac) (Or.inr ⟨_, fun R hR => ?_, jt6, z2, fun k hk => ?_⟩)
          · obtain ⟨K, hK⟩ := join12 (n := n) (closes_wrong px6.2.1 hR)
            exact tailR R K (fun M6 e => by subst e; exact ⟨fun y => absurd (px6.2.1.symm.trans y) (by decide), fun _ => hK⟩)
          · rw [zs_ne _ _ _ (by omega), zs_ne _ _ _ (by omega), fr4 k (by omega) (by omega), zs_ne _ _ _ (by omega), fr3 k (by omega) (by omega)]
            exact ar1.1 k (Or.inl hk)
    · -- no arm can stand here
      have n4 : ¬ S 2 0 = 4 := hgo.resolve_left hne
      have n2 : ¬ S 2 0 = 2 := h2.resolve_left (by omega)
      have jc' := j_close jt (fun v S' => ∃ M1, (∀ R : ZS → Prop, R M1 → g_X9_closes M' R) ∧ JT f len (lo + 1) S' M1 ∧ (∀ k, k ≠ 22 → k ≠ 23 → M1 k = M' k)) (fun v S' M1 b1 b2 b3 b4 => ⟨M1, b1, b2, b3⟩)
      unfold g_X6_take at jc'
      obtain ⟨M1, b1, b2, b3⟩ := (jc'.1 h6).2 n4 _ rfl
      have run1 : ∀ R : ZS → Prop, R M1 → run R := fun R hR => hr R (join12 (b1 R hR))
      refine ⟨fun y => absurd y n2, fun _ => ?_⟩
      unfold G_X3_readArms_50
      have low : ∀ (S' : ZS) (Q' : Int32 → ZS → Prop), ¬ S' 2 0 = 2 → S' 6 0 = 0 → Q' 0 (zst S' 6 0 1) → g_X6_take 2 8 S' Q' := by
        intro S' Q' e2 e6 hq'
        unfold g_X6_take
        simp only [forall_eq]
        exact ⟨fun _ => ⟨fun y => absurd y e2, fun _ => hq'⟩, fun y => absurd e6 y⟩
      refine low _ _ n2 h6 ?_
      have s6 : zst S 6 0 1 6 0 = 1 := zs_at _ _ _ _
      refine below_stuck _ _ (by rw [zs_at]; decide) _ ?_
      rw [zs_zs]
      refine addArm_sp hn ha t8 _ _ _ ?_
      simp only [forall_eq, nI_1]
      exact hX _ _ (AC_put ac) (Or.inr ⟨M1, run1, JT_mono (by omega) b2, s6, fun k hk => by rw [b3 k (by omega) (by omega)]; exact ar.1.1 k (Or.inl hk)⟩)
  · have g := stuck M' hr S jt h6 fr
    exact ⟨fun _ => hasArm_sp hn (by omega) t8 _ _ (fun _ => ⟨fun _ => g, fun _ => by rw [zs_self h6]; exact g⟩) (fun _ => ⟨fun _ => g, fun _ => by rw [zs_self h6]; exact g⟩), fun _ => g⟩
end ARMS
