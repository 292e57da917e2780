theorem lk_block : LK_block RR := by
  intro S0 S1 S2 S3 S4 S5 S6 S7 S8 S9 S10 S11 M x x2 r
  have rr := r
  obtain ⟨nN, nB, len, h, ⟨ws, ww⟩, -, ⟨se, ne⟩, ⟨f5, f6, wk⟩, -, -, -⟩ := r
  have W : WF M nN nB := wf_of ws ww
  have X : WX M nN := ws.2.2.2.2.1
  have B : WB M nN nB := ws.2.2.2.1
  have se : SEq S2 M nN nB := se
  have f5 : FF M nN nB False S5 := f5
  have hB8 := W.1.2.2.2
  unfold g_X8_block
  refine hasBlock_sp x hB8 se.1.1 _ (fun b hb e => ⟨fun z => absurd z (by decide), fun _ => ?_⟩) (fun hx => ⟨fun _ => m_block x x2 W X B _ (fun _ => ⟨rfl, rr⟩) (fun n hn e => absurd ⟨n, hn, e⟩ hx), fun z => (z rfl).elim⟩)
  subst e
  have hv : vp_in (nI b) 8 := vp_in_nI (by omega) (by omega)
  have e0 : 2 * nI b = nI (2 * b + 0) := two_nI b
  have e1 : 2 * nI b + 1 = nI (2 * b + 1) := by rw [two_nI, nI_1]
  have hv0 : vp_in (2 * nI b) 16 := by rw [e0]; exact vp_in_nI (by omega) (by omega)
  have hv1 : vp_in (2 * nI b + 1) 16 := by rw [e1]; exact vp_in_nI (by omega) (by omega)
  have inj : ∀ m, m < nB → nI b = nI m → m = b := fun m hm e => ((nI_eq (by omega) (by omega)).mp e).symm
  have bad : (¬ ∃ k, k < 9 ∧ x2 = nI k) → g_X9_block (nI b) x2 M (fun r2 TM => -1 = r2 ∧ RR S0 S1 S2 S3 S4 S5 S6 S7 S8 S9 S10 S11 TM) := by
    intro hx
    refine m_block _ x2 W X B _ (fun _ => ⟨rfl, rr⟩) (fun m hm e M' hM => ?_)
    have no : ∀ j, j < 9 → ¬ x2 = nI j := fun j hj q => hx ⟨j, hj, q⟩
    exact ⟨fun q => absurd q (no 0 (by omega)), fun q => absurd q (no 1 (by omega)), fun q => absurd q (no 2 (by omega)), fun q => absurd q (no 3 (by omega)), fun q => absurd q (no 4 (by omega)), fun q => absurd q (no 5 (by omega)), fun q => absurd q (no 6 (by omega)), fun q => absurd q (no 7 (by omega)), fun q => absurd q (no 8 (by omega))⟩
  obtain ⟨s13, s14, s11, s12, s16, -, -⟩ := se.2.2 b hb
  have u0 := ne.2.1 (2 * b + 0) (by omega)
  have u1 := ne.2.1 (2 * b + 1) (by omega)
  rw [Nat.zero_add] at u0 u1
  rcases inR_cases x2 (N := 9) (by omega) with ⟨a, c⟩ | ⟨j, hj, e, a, c⟩ | ⟨k, hk, e⟩
  · exact ⟨fun _ => bad c, fun z => absurd a z⟩
  · refine ⟨fun _ => bad c, fun _ => ⟨fun z => ?_, fun _ => bad c⟩⟩
    rw [e] at z
    have := (nI_leI (a := j) (b := 8) hj (by omega)).mp z
    omega
  · have c1 : ¬ x2 < 0 := by rw [e]; exact nI_pos (by omega)
    have c2 : x2 ≤ 8 := by rw [e]; exact (nI_leI (a := k) (b := 8) (by omega) (by omega)).mpr (by omega)
    refine ⟨fun z => absurd z c1, fun _ => ⟨fun _ => ?_, fun z => absurd c2 z⟩⟩
    have one : ∀ (j : Nat) (v : Int32), x2 = nI j → j < 9 → ((j = 0 → v = S5 2 b) ∧ (j = 1 → v = nI ((M 12 (b + 1)).toNatClampNeg - (M 12 b).toNatClampNeg)) ∧ (j = 2 → v = M 13 b) ∧ (j = 3 → v = M 14 b) ∧ (j = 4 → v = M 16 (96 + (2 * b + 0))) ∧ (j = 5 → v = M 16 (96 + (2 * b + 1))) ∧ (j = 6 → v = S5 3 (2 * b + 0)) ∧ (j = 7 → v = S5 3 (2 * b + 1)) ∧ (j = 8 → v = M 15 b)) → g_X9_block (nI b) x2 M (fun r2 TM => v = r2 ∧ RR S0 S1 S2 S3 S4 S5 S6 S7 S8 S9 S10 S11 TM) := by
      rintro j v ej hj ⟨h0, h1, h2, h3, h4, h5, h6, h7, h8⟩
      have ij : ∀ i, i < 9 → x2 = nI i → j = i := fun i hi q => (nI_eq (by omega) (by omega)).mp (ej.symm.trans q)
      refine m_block _ x2 W X B _ (fun q => ?_) (fun m hm e M' hM => ?_)
      · rcases q with q | q
        · exact absurd ⟨b, hb, rfl⟩ q
        · exact absurd ⟨j, hj, ej⟩ q
      · rw [inj m hm e]
        have R2 := RR_fr4 hM.1 rr
        obtain ⟨-, g2, g3⟩ := flow_one W f5 hM
        have g2 := g2 b hb
        have edge : ∀ k, k < 2 → v = S5 3 (2 * b + k) → (fEdge M False (M' 40) (M' 41) (mlv M') b k → v = 1 ∧ RR S0 S1 S2 S3 S4 S5 S6 S7 S8 S9 S10 S11 M') ∧ (¬ fEdge M False (M' 40) (M' 41) (mlv M') b k → v = 0 ∧ RR S0 S1 S2 S3 S4 S5 S6 S7 S8 S9 S10 S11 M') := fun k hk hv => ⟨fun c => ⟨hv.trans ((g3 b k hb hk).mpr c), R2⟩, fun c => ⟨hv.trans ((f5.1.2.1 (2 * b + k) (by omega)).resolve_right (fun z => c ((g3 b k hb hk).mp z))), R2⟩⟩
        refine ⟨fun q => ⟨fun c => ⟨((h0 (ij 0 (by omega) q)).trans g2).trans c, R2⟩, fun c => ⟨((h0 (ij 0 (by omega) q)).trans g2).trans ((hM.2.1.2 b (by omega)).resolve_left c), R2⟩⟩, fun q => ⟨h1 (ij 1 (by omega) q), R2⟩, fun q => ⟨h2 (ij 2 (by omega) q), R2⟩, fun q => ⟨h3 (ij 3 (by omega) q), R2⟩, fun q => ⟨h4 (ij 4 (by omega) q), R2⟩, fun q => ⟨h5 (ij 5 (by omega) q), R2⟩, fun q => edge 0 (by omega) (h6 (ij 6 (by omega) q)), fun q => edge 1 (by omega) (h7 (ij 7 (by omega) q)), fun q => ⟨h8 (ij 8 (by omega) q), R2⟩⟩
    rw [e0, e1] at *
    rw [nI_clamp (show b < 2 ^ 31 by omega), nI_clamp (show 2 * b + 0 < 2 ^ 31 by omega), nI_clamp (show 2 * b + 1 < 2 ^ 31 by omega)]
    refine ⟨fun q => ⟨hv, one 0 _ q (by omega) ?_⟩, fun q => ⟨hv, one 1 _ q (by omega) ?_⟩, fun q => ⟨hv, one 2 _ q (by omega) ?_⟩, fun q => ⟨hv, one 3 _ q (by omega) ?_⟩, fun q => ⟨hv0, one 4 _ q (by omega) ?_⟩, fun q => ⟨hv1, one 5 _ q (by omega) ?_⟩, fun q => ⟨hv0, one 6 _ q (by omega) ?_⟩, fun q => ⟨hv1, one 7 _ q (by omega) ?_⟩, fun n0 n1 n2 n3 n4 n5 n6 n7 => ⟨hv, one 8 _ ?_ (by omega) ?_⟩⟩
    · exact ⟨fun _ => rfl, fun z => by omega, fun z => by omega, fun z => by omega, fun z => by omega, fun z => by omega, fun z => by omega, fun z => by omega, fun z => by omega⟩
    · exact ⟨fun z => by omega, fun _ => s12, fun z => by omega, fun z => by omega, fun z => by omega, fun z => by omega, fun z => by omega, fun z => by omega, fun z => by omega⟩
    · exact ⟨fun z => by omega, fun z => by omega, fun _ => s13, fun z => by omega, fun z => by omega, fun z => by omega, fun z => by omega, fun z => by omega, fun z => by omega⟩
    · exact ⟨fun z => by omega, fun z => by omega, fun z => by omega, fun _ => s14, fun z => by omega, fun z => by omega, fun z => by omega, fun z => by omega, fun z => by omega⟩
    · exact ⟨fun z => by omega, fun z => by omega, fun z => by omega, fun z => by omega, fun _ => u0, fun z => by omega, fun z => by omega, fun z => by omega, fun z => by omega⟩
    · exact ⟨fun z => by omega, fun z => by omega, fun z => by omega, fun z => by omega, fun z => by omega, fun _ => u1, fun z => by omega, fun z => by omega, fun z => by omega⟩
    · exact ⟨fun z => by omega, fun z => by omega, fun z => by omega, fun z => by omega, fun z => by omega, fun z => by omega, fun _ => rfl, fun z => by omega, fun z => by omega⟩
    · exact ⟨fun z => by omega, fun z => by omega, fun z => by omega, fun z => by omega, fun z => by omega, fun z => by omega, fun z => by omega, fun _ => rfl, fun z => by omega⟩
    · rcases (show k = 0 ∨ k = 1 ∨ k = 2 ∨ k = 3 ∨ k = 4 ∨ k = 5 ∨ k = 6 ∨ k = 7 ∨ k = 8 by omega) with rfl | rfl | rfl | rfl | rfl | rfl | rfl | rfl | rfl
      · exact absurd e n0
      · exact absurd e n1
      · exact absurd e n2
      · exact absurd e n3
      · exact absurd e n4
      · exact absurd e n5
      · exact absurd e n6
      · exact absurd e n7
      · exact e
    · exact ⟨fun z => by omega, fun z => by omega, fun z => by omega, fun z => by omega, fun z => by omega, fun z => by omega, fun z => by omega, fun z => by omega, fun _ => s16⟩
