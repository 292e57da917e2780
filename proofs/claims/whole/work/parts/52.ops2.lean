theorem no_True : ¬ False := fun h => h
section OPS
variable {S0 S1 S2 S3 S4 S5 S6 S7 S8 S9 S10 S11 M : ZS}
theorem m_found {nN nB : Nat} (x : Int32) (W : WF M nN nB) (X : WX M nN) (Q : Int32 → ZS → Prop) (hb : (¬ ∃ n, n < nN ∧ x = nI n) → Q (-1) M) (hg : ∀ n, n < nN → x = nI n → ∀ M', FM M nN nB False M' → ((M' 40 n = 1 → Q 1 (zst M' 21 0 (M' 41 n))) ∧ (¬ M' 40 n = 1 → Q (-2) M'))) : g_X9_found x M Q := by
  have hN24 := W.1.2.2.1
  unfold g_X9_found
  refine isName_sp _ hN24 W.1.1 _ (fun n hn e => ⟨fun z => absurd z (by decide), fun _ => ?_⟩) (fun hx => ⟨fun _ => hb hx, fun z => (z rfl).elim⟩)
  have hg2 := hg n hn e
  subst e
  have hv : vp_in (nI n) 24 := vp_in_nI (by omega) (by omega)
  rw [nI_clamp (by omega)]
  refine finds_sp W X (pl := False) ⟨fun z => z rfl, fun z => z.elim⟩ _ (fun M' hM => ⟨hv, fun z => ⟨hv, ?_⟩, (hg2 M' hM).2⟩)
  unfold g_X9_tells
  rw [forall_eq]
  exact (hg2 M' hM).1 z
theorem lk_found : LK_found RR := by
  intro S0 S1 S2 S3 S4 S5 S6 S7 S8 S9 S10 S11 M x r
  have rr := r
  obtain ⟨nN, nB, len, h, ⟨ws, ww⟩, -, ⟨se, ne⟩, ⟨f5, f6, wk⟩, -, -, -⟩ := r
  have W : WF M nN nB := wf_of ws ww
  have WXv : WX M nN := ws.2.2.2.2.1
  have hN24 := W.1.2.2.1
  unfold g_X8_found
  refine hasName_sp x hN24 se.1.2 _ (fun n hn e => ⟨fun z => absurd z (by decide), fun _ => ?_⟩) (fun hx => ⟨fun _ => m_found x W WXv _ (fun _ => ⟨rfl, rr⟩) (fun n hn e => absurd ⟨n, hn, e⟩ hx), fun z => (z rfl).elim⟩)
  subst e
  have hv : vp_in (nI n) 24 := vp_in_nI (by omega) (by omega)
  rw [nI_clamp (by omega)]
  have inj : ∀ m, m < nN → nI n = nI m → m = n := fun m hm e => ((nI_eq (by omega) (by omega)).mp e).symm
  refine ⟨hv, fun a => ⟨hv, ?_⟩, fun a => ?_⟩
  · rw [forall_eq]
    refine m_found _ W WXv _ (fun hx => absurd ⟨n, hn, rfl⟩ hx) (fun m hm e M' hM => ?_)
    rw [inj m hm e]
    obtain ⟨g1, -, -⟩ := flow_one W (show FF M nN nB False S5 from f5) hM
    obtain ⟨q1, q2⟩ := g1 n hn
    exact ⟨fun _ => ⟨rfl, RR_told (RR_fr4 hM.1 rr) (q2 a)⟩, fun z => absurd (q1.symm.trans a) z⟩
  · refine m_found _ W WXv _ (fun hx => absurd ⟨n, hn, rfl⟩ hx) (fun m hm e M' hM => ?_)
    rw [inj m hm e]
    obtain ⟨g1, -, -⟩ := flow_one W (show FF M nN nB False S5 from f5) hM
    obtain ⟨q1, q2⟩ := g1 n hn
    exact ⟨fun z => absurd (q1.trans z) a, fun _ => ⟨rfl, RR_fr4 hM.1 rr⟩⟩
/-- a number below 8, one by one -/
theorem m_name {nN nB : Nat} (x x2 : Int32) (W : WF M nN nB) (X : WX M nN) (Q : Int32 → ZS → Prop) (hb : ((¬ ∃ n, n < nN ∧ x = nI n) ∨ ¬ ∃ k, k < 8 ∧ x2 = nI k) → Q (-1) M) (hg : ∀ n, n < nN → x = nI n → (x2 = 0 → Q (M 5 n) M) ∧ (x2 = 1 → Q (M 4 n) M) ∧ (x2 = 2 → (M 4 n = 2 → Q (M 6 n) M) ∧ (¬ M 4 n = 2 → Q (M 9 n) M)) ∧ (x2 = 3 → (M 4 n = 2 → Q (M 7 n) M) ∧ (¬ M 4 n = 2 → Q (-9) M)) ∧ (x2 = 4 → (M 4 n = 2 → Q (M 8 n) M) ∧ (¬ M 4 n = 2 → Q (-9) M)) ∧ (x2 = 5 → Q (M 16 n) M) ∧ (x2 = 6 → ∀ M', FM M nN nB False M' → Q (M' 40 n) M') ∧ (x2 = 7 → ∀ M', FM M nN nB True M' → Q (M' 40 n) M')) : g_X9_name x x2 M Q := by
  have hN24 := W.1.2.2.1
  unfold g_X9_name
  refine isName_sp _ hN24 W.1.1 _ (fun n hn e => ⟨fun z => absurd z (by decide), fun _ => ?_⟩) (fun hx => ⟨fun _ => hb (Or.inl hx), fun z => (z rfl).elim⟩)
  obtain ⟨g0, g1, g2, g3, g4, g5, g6, g7⟩ := hg n hn e
  subst e
  have en := nI_clamp (n := n) (by omega)
  have hv : vp_in (nI n) 24 := vp_in_nI (by omega) (by omega)
  have a0 : (0 : Int32) + nI n = nI n := by rw [show (0 : Int32) = nI 0 from rfl, nI_add, Nat.zero_add]
  have v0 : vp_in (nI n) 112 := vp_in_nI (by omega) (by omega)
  refine in_sp x2 (N := 8) (by omega) (by decide) _ (fun k hk e => ⟨fun z => absurd z (by decide), fun _ => ⟨hv, ?_⟩⟩) (fun hx => ⟨fun _ => hb (Or.inr hx), fun z => (z rfl).elim⟩)
  have fl : ∀ (pl : Prop) (t : Int32), (¬ t = 0 ↔ pl) → (∀ M', FM M nN nB pl M' → Q (M' 40 n) M') → G_X9_name_163 (nI n) x2 Q t M := by
    intro pl t ht hq
    unfold G_X9_name_163
    refine finds_sp W X ht _ (fun M' hM => ⟨hv, ?_⟩)
    rw [en]
    exact hq M' hM
  have l67 : ¬ x2 = 0 → ¬ x2 = 1 → ¬ x2 = 2 → ¬ x2 = 3 → ¬ x2 = 4 → ¬ x2 = 5 → ((x2 = 7 → G_X9_name_163 (nI n) x2 Q 1 M) ∧ (¬ x2 = 7 → G_X9_name_163 (nI n) x2 Q 0 M)) := by
    intro n0 n1 n2 n3 n4 n5
    refine ⟨fun q => fl True 1 ⟨fun _ => trivial, fun _ => by decide⟩ (g7 q), fun q => fl False 0 ⟨fun z => z rfl, fun z => z.elim⟩ (g6 ?_)⟩
    rcases (show k = 0 ∨ k = 1 ∨ k = 2 ∨ k = 3 ∨ k = 4 ∨ k = 5 ∨ k = 6 ∨ k = 7 by omega) with rfl | rfl | rfl | rfl | rfl | rfl | rfl | rfl
    · exact absurd e n0
    · exact absurd e n1
    · exact absurd e n2
    · exact absurd e n3
    · exact absurd e n4
    · exact absurd e n5
    · exact e
    · exact absurd e q
  unfold G_X9_name_35
  simp only [en, hv, true_and, a0, v0]
  refine ⟨fun c => ⟨g0, g1, fun q => ⟨fun z => absurd z (by decide), fun _ => (g2 q).1 c⟩, fun q => ⟨fun z => absurd z (by decide), fun _ => (g3 q).1 c⟩, fun q => ⟨fun z => absurd z (by decide), fun _ => (g4 q).1 c⟩, g5, l67⟩, fun c => ⟨g0, g1, fun q => ⟨fun _ => (g2 q).2 c, fun z => (z (by trivial)).elim⟩, fun q => ⟨fun _ => (g3 q).2 c, fun z => (z (by trivial)).elim⟩, fun q => ⟨fun _ => (g4 q).2 c, fun z => (z (by trivial)).elim⟩, g5, l67⟩⟩
theorem lk_name : LK_name RR := by
  intro S0 S1 S2 S3 S4 S5 S6 S7 S8 S9 S10 S11 M x x2 r
  have rr := r
  obtain ⟨nN, nB, len, h, ⟨ws, ww⟩, -, ⟨se, ne⟩, ⟨f5, f6, wk⟩, -, -, -⟩ := r
  have W : WF M nN nB := wf_of ws ww
  have WXv : WX M nN := ws.2.2.2.2.1
  have hN24 := W.1.2.2.1
  unfold g_X8_name
  refine hasName_sp x hN24 se.1.2 _ (fun n hn e => ⟨fun z => absurd z (by decide), fun _ => ?_⟩) (fun hx => ⟨fun _ => m_name x x2 W WXv _ (fun _ => ⟨rfl, rr⟩) (fun n hn e => absurd ⟨n, hn, e⟩ hx), fun z => (z rfl).elim⟩)
  subst e
  have hv : vp_in (nI n) 24 := vp_in_nI (by omega) (by omega)
  rw [nI_clamp (by omega)]
  have inj : ∀ m, m < nN → nI n = nI m → m = n := fun m hm e => ((nI_eq (by omega) (by omega)).mp e).symm
  have bad : (¬ ∃ k, k < 8 ∧ x2 = nI k) → g_X9_name (nI n) x2 M (fun r2 TM => -1 = r2 ∧ RR S0 S1 S2 S3 S4 S5 S6 S7 S8 S9 S10 S11 TM) := by
    intro hx
    refine m_name _ x2 W WXv _ (fun _ => ⟨rfl, rr⟩) (fun m hm e => ?_)
    have no : ∀ j, j < 8 → ¬ x2 = nI j := fun j hj q => hx ⟨j, hj, q⟩
    exact ⟨fun q => absurd q (no 0 (by omega)), fun q => absurd q (no 1 (by omega)), fun q => absurd q (no 2 (by omega)), fun q => absurd q (no 3 (by omega)), fun q => absurd q (no 4 (by omega)), fun q => absurd q (no 5 (by omega)), fun q => absurd q (no 6 (by omega)), fun q => absurd q (no 7 (by omega))⟩
  obtain ⟨s5, s4, sop, snop, s9, -⟩ := se.2.1 n hn
  obtain ⟨u0, -, -, -⟩ := ne.1 n hn
  rw [Nat.zero_add] at u0
  rcases inR_cases x2 (N := 8) (by omega) with ⟨a, b⟩ | ⟨j, hj, e, a, b⟩ | ⟨k, hk, e⟩
  · exact ⟨fun _ => bad b, fun z => absurd a z⟩
  · refine ⟨fun _ => bad b, fun _ => ⟨fun z => ?_, fun _ => bad b⟩⟩
    rw [e] at z
    have := (nI_leI (a := j) (b := 7) hj (by omega)).mp z
    omega
  · have c1 : ¬ x2 < 0 := by rw [e]; exact nI_pos (by omega)
    have c2 : x2 ≤ 7 := by rw [e]; exact (nI_leI (a := k) (b := 7) (by omega) (by omega)).mpr (by omega)
    refine ⟨fun z => absurd z c1, fun _ => ⟨fun _ => ?_, fun z => absurd c2 z⟩⟩
    -- one answer
    have one : ∀ (j : Nat) (v : Int32), x2 = nI j → j < 8 → ((j = 0 → v = M 5 n) ∧ (j = 1 → v = M 4 n) ∧ (j = 2 → (M 4 n = 2 → v = M 6 n) ∧ (¬ M 4 n = 2 → v = M 9 n)) ∧ (j = 3 → (M 4 n = 2 → v = M 7 n) ∧ (¬ M 4 n = 2 → v = -9)) ∧ (j = 4 → (M 4 n = 2 → v = M 8 n) ∧ (¬ M 4 n = 2 → v = -9)) ∧ (j = 5 → v = M 16 n) ∧ (j = 6 → v = S5 0 n) ∧ (j = 7 → v = S6 0 n)) → g_X9_name (nI n) x2 M (fun r2 TM => v = r2 ∧ RR S0 S1 S2 S3 S4 S5 S6 S7 S8 S9 S10 S11 TM) := by
      rintro j v ej hj ⟨h0, h1, h2, h3, h4, h5, h6, h7⟩
      have ij : ∀ i, i < 8 → x2 = nI i → j = i := fun i hi q => (nI_eq (by omega) (by omega)).mp (ej.symm.trans q)
      refine m_name _ x2 W WXv _ (fun q => ?_) (fun m hm e => ?_)
      · rcases q with q | q
        · exact absurd ⟨n, hn, rfl⟩ q
        · exact absurd ⟨j, hj, ej⟩ q
      · rw [inj m hm e]
        refine ⟨fun q => ⟨h0 (ij 0 (by omega) q), rr⟩, fun q => ⟨h1 (ij 1 (by omega) q), rr⟩, fun q => ⟨fun c => ⟨(h2 (ij 2 (by omega) q)).1 c, rr⟩, fun c => ⟨(h2 (ij 2 (by omega) q)).2 c, rr⟩⟩, fun q => ⟨fun c => ⟨(h3 (ij 3 (by omega) q)).1 c, rr⟩, fun c => ⟨(h3 (ij 3 (by omega) q)).2 c, rr⟩⟩, fun q => ⟨fun c => ⟨(h4 (ij 4 (by omega) q)).1 c, rr⟩, fun c => ⟨(h4 (ij 4 (by omega) q)).2 c, rr⟩⟩, fun q => ⟨h5 (ij 5 (by omega) q), rr⟩, fun q M' hM => ?_, fun q M' hM => ?_⟩
        · obtain ⟨g1, -, -⟩ := flow_one W (show FF M nN nB False S5 from f5) hM
          exact ⟨(h6 (ij 6 (by omega) q)).trans (g1 n hn).1, RR_fr4 hM.1 rr⟩
        · obtain ⟨g1, -, -⟩ := flow_one W (show FF M nN nB True S6 from f6) hM
          exact ⟨(h7 (ij 7 (by omega) q)).trans (g1 n hn).1, RR_fr4 hM.1 rr⟩
    simp only [hv, true_and]
    refine ⟨fun q => one 0 _ q (by omega) ?_, fun q => one 1 _ q (by omega) ?_, fun q => ⟨fun c => one 2 _ q (by omega) ?_, fun c => one 2 _ q (by omega) ?_⟩, fun q => one 3 _ q (by omega) ?_, fun q => one 4 _ q (by omega) ?_, fun q => one 5 _ q (by omega) ?_, fun q => one 6 _ q (by omega) ?_, fun n0 n1 n2 n3 n4 n5 n6 => one 7 _ ?_ (by omega) ?_⟩
    · exact ⟨fun _ => s5, fun z => by omega, fun z => by omega, fun z => by omega, fun z => by omega, fun z => by omega, fun z => by omega, fun z => by omega⟩
    · exact ⟨fun z => by omega, fun _ => s4, fun z => by omega, fun z => by omega, fun z => by omega, fun z => by omega, fun z => by omega, fun z => by omega⟩
    · rw [s4] at c
      exact ⟨fun z => by omega, fun z => by omega, fun _ => ⟨fun _ => (sop c).1, fun y => absurd c y⟩, fun z => by omega, fun z => by omega, fun z => by omega, fun z => by omega, fun z => by omega⟩
    · rw [s4] at c
      exact ⟨fun z => by omega, fun z => by omega, fun _ => ⟨fun y => absurd y c, fun _ => s9⟩, fun z => by omega, fun z => by omega, fun z => by omega, fun z => by omega, fun z => by omega⟩
    · exact ⟨fun z => by omega, fun z => by omega, fun z => by omega, fun _ => ⟨fun y => (sop y).2.1, fun y => (snop y).1⟩, fun z => by omega, fun z => by omega, fun z => by omega, fun z => by omega⟩
    · exact ⟨fun z => by omega, fun z => by omega, fun z => by omega, fun z => by omega, fun _ => ⟨fun y => (sop y).2.2, fun y => (snop y).2⟩, fun z => by omega, fun z => by omega, fun z => by omega⟩
    · exact ⟨fun z => by omega, fun z => by omega, fun z => by omega, fun z => by omega, fun z => by omega, fun _ => u0, fun z => by omega, fun z => by omega⟩
    · exact ⟨fun z => by omega, fun z => by omega, fun z => by omega, fun z => by omega, fun z => by omega, fun z => by omega, fun _ => rfl, fun z => by omega⟩
    · rcases (show k = 0 ∨ k = 1 ∨ k = 2 ∨ k = 3 ∨ k = 4 ∨ k = 5 ∨ k = 6 ∨ k = 7 by omega) with rfl | rfl | rfl | rfl | rfl | rfl | rfl | rfl
      · exact absurd e n0
      · exact absurd e n1
      · exact absurd e n2
      · exact absurd e n3
      · exact absurd e n4
      · exact absurd e n5
      · exact absurd e n6
      · exact e
    · exact ⟨fun z => by omega, fun z => by omega, fun z => by omega, fun z => by omega, fun z => by omega, fun z => by omega, fun z => by omega, fun _ => rfl⟩
theorem wk_of {E S : ZS} {nB : Nat} (h : WK (pr E) nB S) (hp : 0 < nB) : S 0 0 = (ruF E 60 (-9) 0 (fun _ => 0) (fun _ => 0)).1 ∧ S 1 0 = (ruF E 60 (-9) 0 (fun _ => 0) (fun _ => 0)).2.1 ∧ HV S (ruF E 60 (-9) 0 (fun _ => 0) (fun _ => 0)).2.2.1 (ruF E 60 (-9) 0 (fun _ => 0) (fun _ => 0)).2.2.2 := by
  have h := h.resolve_left (by omega)
  rw [ruF_pr] at h
  exact h
theorem lk_run : LK_run RR := by
  intro S0 S1 S2 S3 S4 S5 S6 S7 S8 S9 S10 S11 M r
  have rr := r
  obtain ⟨nN, nB, len, h, ⟨ws, ww⟩, -, ⟨se, ne⟩, ⟨f5, f6, wk⟩, -, -, -⟩ := r
  have W : WF M nN nB := wf_of ws ww
  have hB8 := W.1.2.2.2
  unfold g_X8_run g_X9_run
  rw [se.1.1, W.1.2.1]
  have k0 : nI nB = 0 ↔ nB = 0 := nI_eq (a := nB) (b := 0) (by omega) (by omega)
  refine ⟨fun z => ⟨fun _ => ⟨rfl, rr⟩, fun y => absurd z y⟩, fun z => ?_⟩
  rw [forall_eq]
  have hp : 0 < nB := by
    have := mt k0.mpr z
    omega
  obtain ⟨w1, w2, w3⟩ := wk_of wk hp
  refine ⟨fun y => absurd y z, fun _ => runs_sp W ws.2.2.2.1 (we_of ww) (wj_of ws ww) hp _ (fun M' hM => ?_)⟩
  unfold g_X9_tells
  rw [forall_eq]
  exact ⟨w1, RR_told (RR_fr5 hM.1 rr) (w2.trans hM.2.1.symm)⟩
theorem lk_visits : LK_visits RR := by
  intro S0 S1 S2 S3 S4 S5 S6 S7 S8 S9 S10 S11 M x r
  have rr := r
  obtain ⟨nN, nB, len, h, ⟨ws, ww⟩, -, ⟨se, ne⟩, ⟨f5, f6, wk⟩, -, -, -⟩ := r
  have W : WF M nN nB := wf_of ws ww
  have hB8 := W.1.2.2.2
  unfold g_X8_visits g_X9_visits
  refine hasBlock_sp x hB8 se.1.1 _ (fun b hb e => ⟨fun z => absurd z (by decide), fun _ => ?_⟩) (fun hx => ⟨fun _ => isBlock_sp x hB8 W.1.2.1 _ (fun n hn e => absurd ⟨n, hn, e⟩ hx) (fun _ => ⟨fun _ => ⟨rfl, rr⟩, fun z => (z rfl).elim⟩), fun z => (z rfl).elim⟩)
  subst e
  have hp : 0 < nB := by omega
  obtain ⟨w1, w2, w3⟩ := wk_of wk hp
  have hv : vp_in (nI b) 8 := vp_in_nI (by omega) (by omega)
  rw [nI_clamp (by omega)]
  refine ⟨hv, isBlock_sp _ hB8 W.1.2.1 _ (fun _ _ _ => ⟨fun z => absurd z (by decide), fun _ => runs_sp W ws.2.2.2.1 (we_of ww) (wj_of ws ww) hp _ (fun M' hM => ⟨hv, ?_, RR_fr5 hM.1 rr⟩)⟩) (fun hx => absurd ⟨b, hb, rfl⟩ hx)⟩
  rw [hM.2.2.2 b (by omega), w3.2 b (by omega)]
theorem lk_last : LK_last RR := by
  intro S0 S1 S2 S3 S4 S5 S6 S7 S8 S9 S10 S11 M x r
  have rr := r
  obtain ⟨nN, nB, len, h, ⟨ws, ww⟩, -, ⟨se, ne⟩, ⟨f5, f6, wk⟩, -, -, -⟩ := r
  have W : WF M nN nB := wf_of ws ww
  have hN24 := W.1.2.2.1
  have hB8 := W.1.2.2.2
  unfold g_X8_last g_X9_last
  refine hasName_sp x hN24 se.1.2 _ (fun n hn e => ⟨fun z => absurd z (by decide), fun _ => ?_⟩) (fun hx => ⟨fun _ => isName_sp x hN24 W.1.1 _ (fun n hn e => absurd ⟨n, hn, e⟩ hx) (fun _ => ⟨fun _ => ⟨rfl, rr⟩, fun z => (z rfl).elim⟩), fun z => (z rfl).elim⟩)
  subst e
  have hp : 0 < nB := by have := vi_cl (W.2.1 n hn).1; omega
  obtain ⟨w1, w2, w3⟩ := wk_of wk hp
  have hv : vp_in (nI n) 24 := vp_in_nI (by omega) (by omega)
  rw [nI_clamp (by omega), forall_eq]
  refine ⟨hv, isName_sp _ hN24 W.1.1 _ (fun _ _ _ => ⟨fun z => absurd z (by decide), fun _ => runs_sp W ws.2.2.2.1 (we_of ww) (wj_of ws ww) hp _ (fun M' hM => ⟨hv, ?_⟩)⟩) (fun hx => absurd ⟨n, hn, rfl⟩ hx)⟩
  unfold g_X9_tells
  rw [forall_eq]
  exact ⟨rfl, RR_told (RR_fr5 hM.1 rr) (by rw [hM.2.2.1 n (by omega), w3.1 n (by omega)])⟩
end OPS
