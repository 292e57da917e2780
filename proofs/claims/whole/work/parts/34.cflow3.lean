section FLOWC
variable {E T U : ZS} {nN nB : Nat} {pl : Prop} {S : ZS} {x4 : Int32}
def okName (E S : ZS) (n : Nat) : Prop := (E 4 n = 0 → fle 1 (E 16 (72 + n)) (S 0 n) (S 1 n)) ∧ (E 4 n = 1 → (E 16 n = 1 → fle 1 (E 16 (24 + n)) (S 0 n) (S 1 n)) ∧ (E 16 n ≠ 1 → S 0 n = 2)) ∧ (E 4 n = 2 → okOp E S n) ∧ (E 4 n = 3 → okJoin E S n)
theorem kind4 {x : Int32} (h : vp_in x 4) : x = 0 ∨ x = 1 ∨ x = 2 ∨ x = 3 := by
  obtain ⟨j, hj, rfl⟩ := vp_in_of h (by omega)
  rcases (show j = 0 ∨ j = 1 ∨ j = 2 ∨ j = 3 by omega) with rfl | rfl | rfl | rfl
  · exact Or.inl rfl
  · exact Or.inr (Or.inl rfl)
  · exact Or.inr (Or.inr (Or.inl rfl))
  · exact Or.inr (Or.inr (Or.inr rfl))
theorem liftNames_st (W : WF E nN nB) (B : WB E nN nB) (C : CE T U E nN nB x4) (hI : II E nN nB pl S) {b : Nat} (hb : b < nB) (hl : S 2 b = 1) (Q : Int32 → ZS → Prop) (hQ : ∀ r S', ST E nN nB pl S r S' → (r = 0 → ∀ n, n < nN → E 5 n = nI b → okName E S n) → Q r S') : g_X0_liftNames (nI b) x4 S T U Q := by
  have hN24 := W.1.2.2.1
  have hB8 := W.1.2.2.2
  have eb := nI_clamp (n := b) (by omega)
  have hvb : vp_in (nI b) 8 := vp_in_nI (by omega) (by omega)
  obtain ⟨-, -, c11, c12⟩ := C.2.2.1 b hb
  obtain ⟨b1, -, -, b4, b5, b6⟩ := B
  have h1 := b4 b hb
  have h2 := b5 (b + 1) hb
  have e12 : E 12 b = nI (E 12 b).toNatClampNeg := vi_eq (b1 b (by omega)) (by omega)
  generalize hf : (E 12 b).toNatClampNeg = f at *
  generalize hg : (E 12 (b + 1)).toNatClampNeg = g at *
  unfold g_X0_liftNames
  refine ⟨hvb, ?_⟩
  intro x6 hx6
  rw [eb, c11, e12] at hx6
  refine fx_all (fun p => ∃ n S1 r, f ≤ n ∧ n ≤ g ∧ p = (r, nI n, S1) ∧ ST E nN nB pl S r S1 ∧ (r = 0 → ∀ n', f ≤ n' → n' < n → okName E S n')) (fun p => g - p.2.1.toNatClampNeg) ?_ _ ⟨f, S, 0, Nat.le_refl _, h1, by rw [hx6], ST.rf hI, fun _ n' q1 q2 => by omega⟩
  rintro X p ⟨n, S1, r, hn1, hn2, rfl, hST, hok⟩ hX
  unfold F_X0_liftNames_11 G_X0_liftNames_109 G_X0_liftNames_114
  have en := nI_clamp (n := n) (by omega)
  have cg : nI f + nI (g - f) = nI g := by rw [nI_add]; congr 1; omega
  simp only [eb, en, hvb, true_and, c11, c12, e12, cg]
  refine ⟨fun h => ?_, fun h => ?_⟩
  · have : g ≤ n := (nI_leI (by omega) (by omega)).mp h
    refine ⟨hST.1, hQ r S1 hST (fun z n' hn' h5 => ?_)⟩
    have := (b6 n' b hn' hb).mp h5
    exact hok z n' (by omega) (by omega)
  · have hlt : n < g := by
      have := mt (nI_leI (a := g) (b := n) (by omega) (by omega)).mpr h
      omega
    have hnN : n < nN := by omega
    have hvn : vp_in (nI n) 24 := vp_in_nI (by omega) (by omega)
    have h5 : E 5 n = nI b := (b6 n b hnN hb).mpr (by omega)
    have hm : g - (nI (n + 1)).toNatClampNeg < g - (nI n).toNatClampNeg := by rw [nI_clamp (by omega), en]; omega
    have hI1 := hST.2.1
    have hl1 : S1 2 (E 5 n).toNatClampNeg = 1 := by rw [h5, eb]; exact hST.2.2.1 _ hl
    obtain ⟨-, c3, -, -, -, cn, ci⟩ := C.2.1 n hnN
    have w4 := (W.2.1 n hnN).2.1
    -- going on
    have go : ∀ r' S2, ST E nN nB pl S1 r' S2 → (r' = 0 → okName E S1 n) → ∀ x5, x5 = r ||| r' → ∀ x6, x6 = nI n + 1 → X (x5, x6, S2) := by
      intro r' S2 hST2 h0 y hy z hz
      rw [hy, hz, nI_1]
      refine hX _ ⟨n + 1, S2, r ||| r', by omega, hlt, rfl, hST.tr hST2, fun q n' q1 q2 => ?_⟩ hm
      obtain ⟨z1, z2⟩ := (or_B hST.1 hST2.1).2.mp q
      by_cases hnn : n' = n
      · subst hnn
        have := h0 z2
        rw [hST.2.2.2.1 z1] at this
        exact this
      · exact hok z1 n' q1 (by omega)
    refine ⟨hvn, ?_, ?_, ?_, ?_⟩
    · intro k0
      rw [c3] at k0
      refine ⟨hvn, ?_⟩
      rw [cn k0]
      refine lift_st W hI1 hnN (Or.inr (Or.inl rfl)) (fun s' v' lv' hc => (home_lv W hI1 hnN hl1 hc).1 k0) _ (fun r' S2 hST2 h0 => go r' S2 hST2 (fun z => ⟨fun _ => h0 z, fun q => ?_, fun q => ?_, fun q => ?_⟩)) <;> (rw [k0] at q; exact absurd q (by decide))
    · intro k1
      rw [c3] at k1
      obtain ⟨ci1, ci2⟩ := ci k1
      have known : (U 0 n = 1 ∨ nI n = x4) → g_X2_inputOf (nI n) U (fun r_1 => g_X0_lift (nI n) 1 r_1 S1 (fun r_3 S0_2 => ∀ x5_4, x5_4 = r ||| r_3 → ∀ x6_5, x6_5 = nI n + 1 → X (x5_4, x6_5, S0_2))) := by
        intro hk
        have h16 := ci1.mpr hk
        refine inputOf_sp (by omega) U _ ?_
        rw [← ci2 h16]
        refine lift_st W hI1 hnN (Or.inr (Or.inl rfl)) (fun s' v' lv' hc => ((home_lv W hI1 hnN hl1 hc).2.1 k1).1 h16) _ (fun r' S2 hST2 h0 => go r' S2 hST2 (fun z => ⟨fun q => ?_, fun _ => ⟨fun _ => h0 z, fun q => absurd h16 q⟩, fun q => ?_, fun q => ?_⟩)) <;> (rw [k1] at q; exact absurd q (by decide))
      refine ⟨hvn, fun a => known (Or.inl a), fun a => ⟨fun d => known (Or.inr d), fun d => ?_⟩⟩
      have h16 : E 16 n ≠ 1 := fun q => (ci1.mp q).elim a d
      refine inputOf_sp (by omega) U _ ?_
      refine lift_st W hI1 hnN (Or.inr (Or.inr rfl)) (fun s' v' lv' hc => Or.inr (Or.inl (((home_lv W hI1 hnN hl1 hc).2.1 k1).2 h16))) _ (fun r' S2 hST2 h0 => go r' S2 hST2 (fun z => ⟨fun q => ?_, fun _ => ⟨fun q => absurd q h16, fun _ => fle2 (h0 z)⟩, fun q => ?_, fun q => ?_⟩)) <;> (rw [k1] at q; exact absurd q (by decide))
    · intro k2
      rw [c3] at k2
      refine liftOperation_st W C hI1 hnN k2 hl1 _ (fun r' S2 hST2 h0 => go r' S2 hST2 (fun z => ⟨fun q => ?_, fun q => ?_, fun _ => h0 z, fun q => ?_⟩)) <;> (rw [k2] at q; exact absurd q (by decide))
    · intro k0 k1 k2
      rw [c3] at k0 k1 k2
      have k3 : E 4 n = 3 := ((kind4 w4).resolve_left k0).resolve_left k1 |>.resolve_left k2
      refine liftJoin_st W C hI1 hnN k3 hl1 _ (fun r' S2 hST2 h0 => go r' S2 hST2 (fun z => ⟨fun q => absurd q k0, fun q => absurd q k1, fun q => absurd q k2, fun _ => h0 z⟩))
def goP (E S : ZS) (b k : Nat) : Prop := E 13 b ≠ 1 ∨ S 0 (E 14 b).toNatClampNeg = 2 ∨ (S 0 (E 14 b).toNatClampNeg = 1 ∧ (S 1 (E 14 b).toNatClampNeg ≠ 0 ↔ k = 0))
theorem goes_sp (W : WF E nN nB) (C : CE T U E nN nB x4) {b k : Nat} (hb : b < nB) (hk : k < 2) (S : ZS) (Q : Int32 → Prop) (h1 : goP E S b k → Q 1) (h0 : ¬ goP E S b k → Q 0) : g_X0_goes (nI b) (nI k) S T Q := by
  have hB8 := W.1.2.2.2
  have eb := nI_clamp (n := b) (by omega)
  have hvb : vp_in (nI b) 8 := vp_in_nI (by omega) (by omega)
  obtain ⟨c13, c14, -, -⟩ := C.2.2.1 b hb
  unfold g_X0_goes
  simp only [eb, hvb, true_and, forall_eq, c13]
  refine ⟨fun a => ?_, fun a => h1 (Or.inl a)⟩
  have hne : E 13 b ≠ 0 := by rw [a]; decide
  rw [c14 hne]
  have v : vp_in (E 14 b) 24 := vi_mono ((W.2.2.1 b hb).2 hne) W.1.2.2.1
  refine ⟨v, fun d => h1 (Or.inr (Or.inl d)), fun d => ⟨v, fun f => ⟨v, ?_⟩, fun f => h0 ?_⟩⟩
  · unfold g_X5_side
    have k01 : (nI k = 0 ↔ k = 0) ∧ (nI k = 1 ↔ k = 1) := by
      rcases (show k = 0 ∨ k = 1 by omega) with rfl | rfl <;> decide
    refine ⟨fun z => ⟨fun q => h1 ?_, fun q => h0 ?_⟩, fun z => ⟨fun q => h1 ?_, fun q => h0 ?_⟩⟩
    · have hk1 : k = 1 := k01.2.mp q.symm
      exact Or.inr (Or.inr ⟨f, fun g => absurd z g, fun g => by omega⟩)
    · rintro (g | g | ⟨-, g⟩)
      · exact g a
      · exact d g
      · have : ¬ k = 1 := fun g => q (k01.2.mpr g).symm
        exact g.mpr (by omega) z
    · have hk0 : k = 0 := k01.1.mp q.symm
      exact Or.inr (Or.inr ⟨f, fun _ => hk0, fun _ => z⟩)
    · rintro (g | g | ⟨-, g⟩)
      · exact g a
      · exact d g
      · exact q (k01.1.mpr (g.mp z)).symm
  · rintro (g | g | ⟨g, -⟩)
    · exact g a
    · exact d g
    · exact f g
/-- a block that returns goes nowhere -/
def WR (E : ZS) (nB : Nat) : Prop := ∀ b, b < nB → E 13 b = 2 → E 16 (96 + (2 * b + 0)) = -9 ∧ E 16 (96 + (2 * b + 1)) = -9
theorem kind3 {x : Int32} (h : vp_in x 3) : x = 0 ∨ x = 1 ∨ x = 2 := by
  obtain ⟨j, hj, rfl⟩ := vp_in_of h (by omega)
  rcases (show j = 0 ∨ j = 1 ∨ j = 2 by omega) with rfl | rfl | rfl
  · exact Or.inl rfl
  · exact Or.inr (Or.inl rfl)
  · exact Or.inr (Or.inr rfl)
theorem edge_of_go (W : WF E nN nB) (R : WR E nB) {b k : Nat} (hb : b < nB) (hk : k < 2) (hl : S 2 b = 1) (hw : E 16 (96 + (2 * b + k)) ≠ -9) (h : pl ∨ goP E S b k) : fEdge E pl (S 0) (S 1) (fun b => S 2 b = 1) b k := by
  refine ⟨hl, hw, ?_⟩
  rcases h with h | h | h | h
  · exact Or.inr (Or.inl h)
  · rcases kind3 (W.2.2.1 b hb).1 with q | q | q
    · exact Or.inl q
    · exact absurd q h
    · have := R b hb q
      rcases (show k = 0 ∨ k = 1 by omega) with rfl | rfl
      · exact absurd this.1 hw
      · exact absurd this.2 hw
  · exact Or.inr (Or.inr (Or.inl h))
  · exact Or.inr (Or.inr (Or.inr h))
end FLOWC
