section FLOWM
variable {E S : ZS} {nN nB : Nat} {pl : Prop} {xp : Int32}
theorem r3_inj {x y : Int32} (h : r3 x) (h' : r3 y) (e : x.toNatClampNeg = y.toNatClampNeg) : x = y := by
  rcases h with rfl | rfl | rfl <;> rcases h' with rfl | rfl | rfl <;> first | rfl | exact absurd e (by decide)
theorem climbsJoin_sp (W : WF E nN nB) (hM : MI E nN nB pl S) (hpl : ¬ xp = 0 ↔ pl) {n : Nat} (hn : n < nN) (hjo : E 4 n = 3) (hl : S 42 (E 5 n).toNatClampNeg = 1) (hs : S 40 n ≠ 2) (Q : ZS → Prop) (hQ : ∀ S', CT E nN nB pl S n S' → Q S') : g_X9_climbsJoin (nI n) xp S Q := by
  have hn24 : n < 24 := by have := W.1.2.2.1; omega
  have hN24 := W.1.2.2.1
  have hB8 := W.1.2.2.2
  have en := nI_clamp (n := n) (by omega)
  have hv : vp_in (nI n) 24 := vp_in_nI hn24 (by omega)
  obtain ⟨w0, -, -, w9, wA⟩ := W.2.1 n hn
  generalize ha : (E 9 n).toNatClampNeg = a at *
  have e9 : E 9 n = nI a := by rw [← ha]; exact vi_eq w9 (by omega)
  have ha3 : a ≤ 3 := by have := vi_cl w9; omega
  unfold g_X9_climbsJoin
  refine fx_all (fun p => ∃ k S1, k ≤ a ∧ p = (nI k, S1) ∧ MI E nN nB pl S1 ∧ fr4 S S1 ∧ (S 40 n).toNatClampNeg ≤ (S1 40 n).toNatClampNeg ∧ (∀ m, m ≠ n → S1 40 m = S 40 m) ∧ S1 42 = S 42 ∧ (S1 40 n = S 40 n → XEq S S1 ∧ ∀ k', k' < k → fWay E pl (S 40) (S 41) (mlv S) (E 10 (3 * n + k')).toNatClampNeg (E 5 n) → fle (S 40 (E 11 (3 * n + k')).toNatClampNeg) (S 41 (E 11 (3 * n + k')).toNatClampNeg) (S 40 n) (S 41 n))) (fun p => 4 - p.1.toNatClampNeg) ?_ _ ⟨0, S, Nat.zero_le _, rfl, hM, fun _ _ _ _ _ => rfl, Nat.le_refl _, fun _ _ => rfl, rfl, fun _ => ⟨⟨rfl, rfl, rfl⟩, fun k' hk' => absurd hk' (Nat.not_lt_zero _)⟩⟩
  rintro X p ⟨k, S1, hk, rfl, hM1, hf1, hc1, ho1, hl1, hu1⟩ hX
  have f := hM1.1
  have ek := nI_clamp (n := k) (by omega)
  have ee : 3 * nI n + nI k = nI (3 * n + k) := by rw [three_nI, nI_add]
  have e1 := nI_clamp (n := 3 * n + k) (by omega)
  unfold F_X9_climbsJoin_2 G_X9_climbsJoin_104 G_X9_climbsJoin_108 G_X9_climbsJoin_109 G_X9_climbsJoin_126
  simp only [en, hv, true_and, f 9 (by decide) (by decide) (by decide) (by decide), f 10 (by decide) (by decide) (by decide) (by decide), f 11 (by decide) (by decide) (by decide) (by decide), f 5 (by decide) (by decide) (by decide) (by decide), e9, ee, e1, forall_eq, nI_1]
  refine ⟨fun h => ?_, fun h => ?_⟩
  · have : a ≤ k := (nI_leI (by omega) (by omega)).mp h
    refine hQ S1 ⟨hM1, hf1, hc1, ho1, hl1, fun q => ⟨(hu1 q).1, fun z => by rw [hjo] at z; exact absurd z (by decide), fun z => by rw [hjo] at z; exact absurd z (by decide), fun z => by rw [hjo] at z; exact absurd z (by decide), fun _ k' hk' => (hu1 q).2 k' (by rw [ha] at hk'; omega)⟩⟩
  · have hlt : k < a := by
      have := mt (nI_leI (a := a) (b := k) (by omega) (by omega)).mpr h
      omega
    obtain ⟨w1, w2⟩ := wA k hlt
    have hv2 : vp_in (nI (3 * n + k)) 72 := vp_in_nI (by omega) (by omega)
    have hm : 4 - (nI (k + 1)).toNatClampNeg < 4 - (nI k).toNatClampNeg := by rw [nI_clamp (by omega), ek]; omega
    have v2 : vp_in (E 11 (3 * n + k)) 24 := vi_mono w2 hN24
    have eb : E 10 (3 * n + k) = nI (E 10 (3 * n + k)).toNatClampNeg := vi_eq w1 (by omega)
    have hl' : S1 42 (E 5 n).toNatClampNeg = 1 := by rw [hl1]; exact hl
    generalize hx : (E 11 (3 * n + k)).toNatClampNeg = x at *
    have hxN : x < nN := by rw [← hx]; exact vi_cl w2
    -- nothing is done
    have skip : (¬ fWay E pl (S1 40) (S1 41) (mlv S1) (E 10 (3 * n + k)).toNatClampNeg (E 5 n) ∨ S1 40 x = 0) → X (nI (k + 1), S1) := by
      intro hno
      refine hX _ ⟨k + 1, S1, hlt, rfl, hM1, hf1, hc1, ho1, hl1, fun q => ⟨(hu1 q).1, fun k' hk' hw => ?_⟩⟩ hm
      by_cases hkk : k' = k
      · subst hkk
        obtain ⟨q0, q1, q2⟩ := (hu1 q).1
        rcases hno with z | z
        · rw [q0, q1] at z
          unfold mlv at z
          rw [q2] at z
          exact absurd hw z
        · rw [hx]
          rw [q0] at z
          exact Or.inl z
      · exact (hu1 q).2 k' (by omega) hw
    -- a step
    have step : ∀ z : Int32, fWay E pl (S1 40) (S1 41) (mlv S1) (E 10 (3 * n + k)).toNatClampNeg (E 5 n) → S1 40 x ≠ 0 → (z = 1 ∧ S1 40 x = 1 ∧ (S1 40 n = 0 ∨ (S1 40 n = 1 ∧ S1 41 n = S1 41 x)) ∨ z = 2 ∧ ¬ (S1 40 x = 1 ∧ (S1 40 n = 0 ∨ (S1 40 n = 1 ∧ S1 41 n = S1 41 x)))) → X (nI (k + 1), zst (zst S1 40 n z) 41 n ((zst S1 40 n z) 41 x)) := by
      intro z hw hx0 hz
      have hvx : (zst S1 40 n z) 41 x = S1 41 x := by rw [zs_ne _ _ _ (by decide)]
      rw [hvx]
      generalize hS' : zst (zst S1 40 n z) 41 n (S1 41 x) = S'
      have s0 : S' 40 = upd (S1 40) n z := by rw [← hS', zs_ne _ _ _ (by decide), zs_kk]
      have s1 : S' 41 = upd (S1 41) n (S1 41 x) := by rw [← hS', zs_kk, zs_ne _ _ _ (by decide)]
      have s2 : S' 42 = S1 42 := by rw [← hS', zs_ne _ _ _ (by decide), zs_ne _ _ _ (by decide)]
      have sf : fr4 S1 S' := fun k h1 h2 _ _ => by rw [← hS', zs_ne _ _ _ h2, zs_ne _ _ _ h1]
      have rz : r3 z := by
        rcases hz with q | q
        · exact Or.inr (Or.inl q.1)
        · exact Or.inr (Or.inr q.1)
      have rx := hM1.2.1.1 x (by omega)
      have rn := hM1.2.1.1 n hn24
      have h3 : fle (S1 40 n) (S1 41 n) z (S1 41 x) := by
        rcases hz with ⟨q, -, q2 | q2⟩ | q
        · exact Or.inl q2
        · exact Or.inr (Or.inr ⟨q2.1, q, q2.2⟩)
        · exact Or.inr (Or.inl q.1)
      have h2 : ∀ us uv, fBd E pl (S1 40) (S1 41) (mlv S1) n us uv → fle z (S1 41 x) us uv := by
        intro us uv hB
        have b1 := hM1.2.2.2.1 n us uv hn hB
        have b2 := hB.2.2.2 hjo k (by rw [ha]; exact hlt) hw
        rw [hx] at b2
        rcases hz with ⟨q, q1, -⟩ | ⟨q, q1⟩
        · rw [q]; rw [q1] at b2; exact b2
        · refine Or.inr (Or.inl ?_)
          rcases rx with r | r | r
          · exact absurd r hx0
          · rcases rn with r' | r' | r'
            · exact absurd ⟨r, Or.inl r'⟩ q1
            · rw [r] at b2
              rw [r'] at b1
              rcases b1 with y | y | ⟨-, y1, y2⟩
              · exact absurd y (by decide)
              · exact y
              · rcases b2 with y' | y' | ⟨-, -, y3⟩
                · exact absurd y' (by decide)
                · exact y'
                · exact absurd ⟨r, Or.inr ⟨r', y2.trans y3.symm⟩⟩ q1
            · rw [r'] at b1; exact fle2 b1
          · rw [r] at b2; exact fle2 b2
      have hcl : (S1 40 n).toNatClampNeg ≤ z.toNatClampNeg := by
        rcases rn with r' | r' | r'
        · rw [r']; exact Nat.zero_le _
        · rcases hz with q | q
          · rw [r', q.1]; exact Nat.le_refl _
          · rw [r', q.1]; decide
        · rcases hz with q | q
          · rcases q.2.2 with y | y
            · rw [r'] at y; exact absurd y (by decide)
            · rw [r'] at y; exact absurd y.1 (by decide)
          · rw [r', q.1]; exact Nat.le_refl _
      have hM2 := MI_up W hM1 hn hl' rz h2 h3 s0 s1 s2 sf
      refine hX _ ⟨k + 1, S', hlt, rfl, hM2, hf1.tr sf, by rw [s0, pk_us]; omega, fun m hm => by rw [s0, pk_un hm]; exact ho1 m hm, s2.trans hl1, fun q => ?_⟩ hm
      rw [s0, pk_us] at q
      have e40 : S1 40 n = S 40 n := by
        refine r3_inj rn (hM.2.1.1 n hn24) ?_
        rw [q] at hcl
        omega
      obtain ⟨⟨q0, q1, q2⟩, qk⟩ := hu1 e40
      have hz1 : z = 1 ∧ S1 40 x = 1 ∧ (S1 40 n = 0 ∨ (S1 40 n = 1 ∧ S1 41 n = S1 41 x)) := by
        rcases hz with y | y
        · exact y
        · rw [y.1] at q; exact absurd q.symm hs
      have hv1 : S1 41 n = S1 41 x := by
        rcases hz1.2.2 with y | y
        · rw [e40, ← q, hz1.1] at y; exact absurd y (by decide)
        · exact y.2
      refine ⟨⟨by rw [s0, upd_same (e40.trans q.symm), q0], by rw [s1, upd_same hv1, q1], s2.trans q2⟩, fun k' hk' hw' => ?_⟩
      by_cases hkk : k' = k
      · subst hkk
        rw [hx, ← q0, ← q1]
        exact Or.inr (Or.inr ⟨hz1.2.1, by rw [e40, ← q]; exact hz1.1, hv1.symm⟩)
      · exact qk k' (by omega) hw'
    refine ⟨hv2, hv2, ?_⟩
    conv => arg 1; rw [eb]
    refine isWay_sp W hM1 hpl (vi_cl w1) (E 5 n) _ (fun hw => ⟨fun z => absurd z (by decide), fun _ => ⟨v2, fun z => skip (Or.inr z), fun z => ⟨v2, fun y => ⟨fun u => ⟨fun j => absurd j (by decide), fun _ => ⟨v2, step 1 hw z (Or.inl ⟨rfl, y, Or.inl u⟩)⟩⟩, fun u => ⟨fun t => ⟨v2, fun j => ⟨fun i => absurd i (by decide), fun _ => ⟨v2, step 1 hw z (Or.inl ⟨rfl, y, Or.inr ⟨t, j⟩⟩)⟩⟩, fun j => ⟨fun _ => ⟨v2, step 2 hw z (Or.inr ⟨rfl, fun i => i.2.elim u (fun o => j o.2)⟩)⟩, fun i => (i (by trivial)).elim⟩⟩, fun t => ⟨fun _ => ⟨v2, step 2 hw z (Or.inr ⟨rfl, fun i => i.2.elim u (fun o => t o.1)⟩)⟩, fun i => (i (by trivial)).elim⟩⟩⟩, fun y => ⟨fun _ => ⟨v2, step 2 hw z (Or.inr ⟨rfl, fun i => y i.1⟩)⟩, fun i => (i (by trivial)).elim⟩⟩⟩⟩) (fun hw => ⟨fun _ => skip (Or.inl hw), fun z => (z (by trivial)).elim⟩)
end FLOWM
