section FLOWM
variable {E S : ZS} {nN nB : Nat} {pl : Prop} {xp : Int32}
theorem finds_names (W : WF E nN nB) (X : WX E nN) (hpl : ¬ xp = 0 ↔ pl) (Q : ZS → Prop) (X59 : Int32 × ZS → Prop) (hM : MI E nN nB pl S) (hX : ∀ r S', PT E nN nB pl S r S' → (r = 0 → fCl E nN nB pl (S' 40) (S' 41) (mlv S')) → X59 (r, S')) : ∃ n, fx (F_X9_finds_67 xp Q X59) n (0, 0, S) := by
  have hN24 := W.1.2.2.1
  have hB8 := W.1.2.2.2
  refine fx_all (fun p => ∃ n r S1, n ≤ nN ∧ p = (r, nI n, S1) ∧ PT E nN nB pl S r S1 ∧ (r = 0 → ∀ n', n' < n → mlv S (E 5 n').toNatClampNeg → fBd E pl (S 40) (S 41) (mlv S) n' (S 40 n') (S 41 n'))) (fun p => 24 - p.2.1.toNatClampNeg) ?_ _ ⟨0, 0, S, Nat.zero_le _, rfl, PT.rf hM, fun _ n' hn' => absurd hn' (Nat.not_lt_zero _)⟩
  rintro Y p ⟨n, r, S1, hn, rfl, hP, hk⟩ hY
  have f := hP.2.1.1
  have en := nI_clamp (n := n) (by omega)
  unfold F_X9_finds_67 G_X9_finds_109
  simp only [f 2 (by decide) (by decide) (by decide) (by decide), f 5 (by decide) (by decide) (by decide) (by decide), W.1.1, en, nI_1, forall_eq]
  refine ⟨fun h => ?_, fun h => ?_⟩
  · have : nN ≤ n := (nI_leI (by omega) (by omega)).mp h
    refine finds_blocks W hpl Q X59 hP (fun r' S' hP' hk' => hX r' S' hP' (fun q => ?_))
    obtain ⟨q1, q2⟩ := hk' q
    have hx := hP'.2.2.2.1 q
    have el : mlv S' = mlv S := by unfold mlv; rw [hx.2.2]
    rw [hx.1, hx.2.1, el]
    exact ⟨fun hp => hM.2.2.2.2 hp, q2, fun n' hn' hl => hk q1 n' (by omega) hl⟩
  · have hlt : n < nN := by
      have := mt (nI_leI (a := nN) (b := n) (by omega) (by omega)).mpr h
      omega
    have hm : 24 - (nI (n + 1)).toNatClampNeg < 24 - (nI n).toNatClampNeg := by rw [nI_clamp (by omega), en]; omega
    have hvn : vp_in (nI n) 24 := vp_in_nI (by omega) (by omega)
    have w5 := (W.2.1 n hlt).1
    have v5 : vp_in (E 5 n) 8 := vi_mono w5 hB8
    -- behind the name
    have go : ∀ S2, (XEq S1 S2 ∧ PT E nN nB pl S r S2 ∧ (r = 0 → mlv S (E 5 n).toNatClampNeg → fBd E pl (S 40) (S 41) (mlv S) n (S 40 n) (S 41 n)) ∨ ¬ S2 40 n = S1 40 n ∧ PT E nN nB pl S 1 S2) → (r = 0 → vp_in (nI n) 24 ∧ (S2 40 n = S1 40 n → Y (0, nI (n + 1), S2)) ∧ (¬ S2 40 n = S1 40 n → Y (1, nI (n + 1), S2))) ∧ (¬ r = 0 → Y (1, nI (n + 1), S2)) := by
      intro S2 hd
      have same : r = 0 → S2 40 n = S1 40 n → Y (0, nI (n + 1), S2) := by
        intro hr h2
        rcases hd with ⟨-, hp, hb⟩ | ⟨h2', -⟩
        · rw [hr] at hp
          refine hY _ ⟨n + 1, 0, S2, hlt, rfl, hp, fun q n' hn' hl => ?_⟩ hm
          by_cases hnn : n' = n
          · subst hnn; exact hb hr hl
          · exact hk hr n' (by omega) hl
        · exact absurd h2 h2'
      have diff : (¬ S2 40 n = S1 40 n ∨ ¬ r = 0) → Y (1, nI (n + 1), S2) := by
        intro hz
        refine hY _ ⟨n + 1, 1, S2, hlt, rfl, ?_, fun q => absurd q (by decide)⟩ hm
        rcases hd with ⟨hx, hp, -⟩ | ⟨-, hp⟩
        · rcases hz with z | z
          · exact absurd (by rw [hx.1]) z
          · have := hp.1.resolve_left z
            rw [this] at hp
            exact hp
        · exact hp
      exact ⟨fun hr => ⟨hvn, same hr, fun z => diff (Or.inl z)⟩, fun hr => diff (Or.inr hr)⟩
    have stay : (r = 0 → mlv S (E 5 n).toNatClampNeg → fBd E pl (S 40) (S 41) (mlv S) n (S 40 n) (S 41 n)) → (r = 0 → vp_in (nI n) 24 ∧ (True → Y (0, nI (n + 1), S1)) ∧ (¬ True → Y (1, nI (n + 1), S1))) ∧ (¬ r = 0 → Y (1, nI (n + 1), S1)) := by
      intro hb
      obtain ⟨g1, g2⟩ := go S1 (Or.inl ⟨⟨rfl, rfl, rfl⟩, hP, hb⟩)
      exact ⟨fun hr => ⟨hvn, fun _ => (g1 hr).2.1 rfl, fun z => (z trivial).elim⟩, g2⟩
    refine ⟨hvn, hvn, v5, fun a => ?_, fun a => ⟨fun d => ?_, fun d => ?_⟩⟩
    · refine stay (fun q hl => ?_)
      have hl : S 42 (E 5 n).toNatClampNeg = 1 := hl
      rw [← (hP.2.2.2.1 q).2.2, a] at hl
      exact absurd hl (by decide)
    · refine stay (fun q hl => ?_)
      have d2 : S 40 n = 2 := by rw [← (hP.2.2.2.1 q).1]; exact d
      rw [d2]
      exact ⟨fun _ => Or.inr (Or.inl rfl), fun _ => ⟨fun _ => Or.inr (Or.inl rfl), fun _ => rfl⟩, fun _ _ _ => ⟨fun _ => Or.inr (Or.inl rfl), fun _ => rfl⟩, fun _ _ _ _ => Or.inr (Or.inl rfl)⟩
    · have hl1 : S1 42 (E 5 n).toNatClampNeg = 1 := (hP.2.1.2.1.2 _ (vi_cl v5)).resolve_left a
      refine climbs_sp W X hP.2.1 hpl hlt hl1 d _ (fun S2 hC => go S2 ?_)
      obtain ⟨k1, k2⟩ := hC.rk (by omega)
      by_cases he : S2 40 n = S1 40 n
      · obtain ⟨hx, hb⟩ := hC.2.2.2.2.2 he
        refine Or.inl ⟨hx, ⟨hP.1, hC.1, hP.2.2.1.tr hC.2.1, fun q => (hP.2.2.2.1 q).tr hx, fun q => ?_, ?_⟩, fun q _ => ?_⟩
        · rw [hx.rk]; exact hP.2.2.2.2.1 q
        · rw [hx.rk]; exact hP.2.2.2.2.2
        · have hx1 := hP.2.2.2.1 q
          have := (fBd_XEq hx1).mp hb
          rw [hx1.1, hx1.2.1] at this
          exact this
      · have hlt2 : (S1 40 n).toNatClampNeg < (S2 40 n).toNatClampNeg := by
          rcases Nat.lt_or_ge (S1 40 n).toNatClampNeg (S2 40 n).toNatClampNeg with q | q
          · exact q
          · exact absurd (r3_inj (hC.1.2.1.1 n (by omega)) (hP.2.1.2.1.1 n (by omega)) (by have := hC.2.2.1; omega)) he
        have := k2 hlt2
        have := hP.2.2.2.2.2
        exact Or.inr ⟨he, isB_1, hC.1, hP.2.2.1.tr hC.2.1, fun q => absurd q (by decide), fun _ => by omega, by omega⟩
/-- what the reference's finds leaves -/
def FM (E : ZS) (nN nB : Nat) (pl : Prop) (S : ZS) : Prop := fr4 E S ∧ ((∀ n, n < 24 → r3 (S 40 n)) ∧ ∀ b, b < 8 → isB (S 42 b)) ∧ fFd E nN nB pl (S 40) (S 41) (mlv S)
theorem finds_while (W : WF E nN nB) (X : WX E nN) (hpl : ¬ xp = 0 ↔ pl) (Q : ZS → Prop) (hQ : ∀ S', FM E nN nB pl S' → Q S') (hM : MI E nN nB pl S) : ∃ n, fx (F_X9_finds_59 xp Q) n (1, S) := by
  refine fx_all (fun p => ∃ r S, p = (r, S) ∧ isB r ∧ MI E nN nB pl S ∧ (r = 0 → fCl E nN nB pl (S 40) (S 41) (mlv S))) (fun p => if p.1 = 0 then 0 else 60 - rkM p.2) ?_ _ ⟨1, S, rfl, isB_1, hM, fun q => absurd q (by decide)⟩
  rintro Y p ⟨r, S, rfl, hr, hM, hc⟩ hY
  unfold F_X9_finds_59
  simp only []
  refine ⟨fun h => hQ S ⟨hM.1, hM.2.1, hc h, hM.2.2.1⟩, fun h => finds_names W X hpl Q Y hM (fun r' S' hP' hc' => hY _ ⟨r', S', rfl, hP'.1, hP'.2.1, hc'⟩ ?_)⟩
  simp only [if_neg h]
  have b1 := rkM_le hM.2.1
  have b2 := rkM_le hP'.2.1.2.1
  by_cases q : r' = 0
  · rw [if_pos q]; omega
  · rw [if_neg q]
    have := hP'.2.2.2.2.1 (hP'.1.resolve_left q)
    omega
theorem finds_sp (W : WF E nN nB) (X : WX E nN) (hpl : ¬ xp = 0 ↔ pl) (Q : ZS → Prop) (hQ : ∀ S', FM E nN nB pl S' → Q S') : g_X9_finds xp E Q := by
  have hN24 := W.1.2.2.1
  have hB8 := W.1.2.2.2
  unfold g_X9_finds
  refine fx_all (fun p => ∃ i S1, i ≤ 24 ∧ p = (nI i, S1) ∧ fr4 E S1 ∧ ∀ n, n < i → S1 40 n = 0) (fun p => 24 - p.1.toNatClampNeg) ?_ _ ⟨0, E, Nat.zero_le _, rfl, fun _ _ _ _ _ => rfl, fun n hn => absurd hn (Nat.not_lt_zero _)⟩
  rintro Y p ⟨i, S1, hi, rfl, hf, hz⟩ hY
  have ei := nI_clamp (n := i) (by omega)
  unfold F_X9_finds_2
  simp only [ei, nI_1, forall_eq]
  refine ⟨fun h => ?_, fun h => ?_⟩
  · have : 24 ≤ i := (nI_leI (a := 24) (b := i) (by omega) (by omega)).mp h
    refine fx_all (fun p => ∃ j S2, j ≤ 8 ∧ p = (nI j, S2) ∧ fr4 E S2 ∧ (∀ n, n < 24 → S2 40 n = 0) ∧ ∀ b, b < j → S2 42 b = if b = 0 ∧ 0 < nB then 1 else 0) (fun p => 8 - p.1.toNatClampNeg) ?_ _ ⟨0, S1, Nat.zero_le _, rfl, hf, fun n hn => hz n (by omega), fun n hn => absurd hn (Nat.not_lt_zero _)⟩
    rintro Z p ⟨j, S2, hj, rfl, hf2, hz2, hb2⟩ hZ
    have ej := nI_clamp (n := j) (by omega)
    unfold F_X9_finds_23
    simp only [ej, nI_1, forall_eq, hf2 3 (by decide) (by decide) (by decide) (by decide), W.1.2.1]
    refine ⟨fun h => ?_, fun h => ?_⟩
    · have : 8 ≤ j := (nI_leI (a := 8) (b := j) (by omega) (by omega)).mp h
      refine finds_while W X hpl Q hQ ⟨hf2, ⟨fun n hn => Or.inl (hz2 n hn), fun b hb => ?_⟩, fun s' v' lv' hc => ⟨fun n hn => Or.inl (hz2 n (by omega)), fun b hb hl => ?_⟩, fun n us uv hn _ => Or.inl (hz2 n (by omega)), fun hp => ?_⟩
      · rw [hb2 b (by omega)]
        by_cases q : b = 0 ∧ 0 < nB
        · rw [if_pos q]; exact isB_1
        · rw [if_neg q]; exact isB_0
      · have hl : S2 42 b = 1 := hl
        rw [hb2 b (by omega)] at hl
        by_cases q : b = 0 ∧ 0 < nB
        · rw [q.1]; exact hc.1 q.2
        · rw [if_neg q] at hl; exact absurd hl (by decide)
      · rw [hb2 0 (by omega), if_pos ⟨rfl, hp⟩]
    · have hlt : j < 8 := by
        have := mt (nI_leI (a := 8) (b := j) (by omega) (by omega)).mpr h
        omega
      have hv : vp_in (nI j) 8 := vp_in_nI (by omega) (by omega)
      have hm : 8 - (nI (j + 1)).toNatClampNeg < 8 - (nI j).toNatClampNeg := by rw [nI_clamp (by omega), ej]; omega
      have n0 : vp_nar .boolean 0 = 0 := rfl
      have n1 : vp_nar .boolean 1 = 1 := rfl
      have put : ∀ v : Int32, v = (if j = 0 ∧ 0 < nB then 1 else 0) → Z (nI (j + 1), zst S2 42 j v) := by
        intro v hv'
        refine hZ _ ⟨j + 1, _, hlt, rfl, fun k h1 h2 h3 h4 => by rw [zs_ne _ _ _ h3]; exact hf2 k h1 h2 h3 h4, fun n hn => by rw [zs_ne _ _ _ (by decide)]; exact hz2 n hn, fun b hb => ?_⟩ hm
        by_cases q : b = j
        · subst q; rw [zs_at]; exact hv'
        · rw [zs_ni _ _ _ q]; exact hb2 b (by omega)
      have k0 : nI j = 0 ↔ j = 0 := nI_eq (a := j) (b := 0) (by omega) (by omega)
      rw [n0, n1]
      refine ⟨fun a => ⟨fun d => ⟨hv, put 0 ?_⟩, fun d => ⟨hv, put 1 ?_⟩⟩, fun a => ⟨hv, put 0 ?_⟩⟩
      · have : nB ≤ 0 := (nI_leI (a := nB) (b := 0) (by omega) (by omega)).mp d
        rw [if_neg (by omega)]
      · have : ¬ nB ≤ 0 := mt (nI_leI (a := nB) (b := 0) (by omega) (by omega)).mpr d
        rw [if_pos ⟨k0.mp a, by omega⟩]
      · rw [if_neg (fun q => a (k0.mpr q.1))]
  · have hlt : i < 24 := by
      have := mt (nI_leI (a := 24) (b := i) (by omega) (by omega)).mpr h
      omega
    refine ⟨vp_in_nI (by omega) (by omega), hY _ ⟨i + 1, _, hlt, rfl, fun k h1 h2 h3 h4 => by rw [zs_ne _ _ _ h1]; exact hf k h1 h2 h3 h4, fun n hn => ?_⟩ ?_⟩
    · by_cases q : n = i
      · subst q; rw [zs_at]
      · rw [zs_ni _ _ _ q]; exact hz n (by omega)
    · show 24 - (nI (i + 1)).toNatClampNeg < 24 - (nI i).toNatClampNeg
      rw [nI_clamp (by omega), ei]; omega
end FLOWM
