section STEP
variable {f : ZR} {len : Nat}
theorem cSign_sp (c : Int32) (Q : Int32 → Prop) (h1 : isS c → Q 1) (h0 : ¬ isS c → Q 0) : g_X5_isSign c Q := by
  unfold g_X5_isSign
  unfold isS at h1 h0
  refine ⟨fun q => h1 (by simp [q]), fun q => h1 (by simp [q]), fun q => h1 (by simp [q]), fun q => h1 (by simp [q]), fun q => h1 (by simp [q]), fun q => h1 (by simp [q]), fun q => h1 (by simp [q]), fun q => h1 (by simp [q]), fun q => h1 (by simp [q]), fun a1 a2 a3 a4 a5 a6 a7 a8 a9 => h0 (by simp [a1, a2, a3, a4, a5, a6, a7, a8, a9])⟩
theorem mSign_sp (c : Int32) (Q : Int32 → Prop) (h1 : isS c → Q 1) (h0 : ¬ isS c → Q 0) : g_X9_isSign c Q := by
  unfold g_X9_isSign
  unfold isS at h1 h0
  refine ⟨fun q => h1 (by simp [q]), fun q => h1 (by simp [q]), fun q => h1 (by simp [q]), fun q => h1 (by simp [q]), fun q => h1 (by simp [q]), fun q => h1 (by simp [q]), fun q => h1 (by simp [q]), fun q => h1 (by simp [q]), fun q => h1 (by simp [q]), fun a1 a2 a3 a4 a5 a6 a7 a8 a9 => h0 (by simp [a1, a2, a3, a4, a5, a6, a7, a8, a9])⟩
theorem n59 : ¬ isL 59 ∧ ¬ isD 59 ∧ ¬ isS 59 := by
  unfold isL isD isS
  decide
/-- one token on -/
theorem step_sp (hl : len ≤ 150) {S : ZS} {e : Nat} (he : e ≤ len) (t1 : S 1 0 = nI len) (tx : ∀ i, i < len → S 0 i = f i) (h4 : S 4 0 = nI e) (Q : ZS → Prop) (hQ : ∀ S' q, e ≤ q → q ≤ len → bl f e q → (q < len → ¬ f q = 32) → S' 0 = S 0 → S' 1 = S 1 → S' 6 = S 6 → TK f len q S' → Q S') : g_X6_step S Q := by
  unfold g_X6_step
  refine fx_all (fun p => ∃ q, e ≤ q ∧ q ≤ len ∧ bl f e q ∧ (∀ k, k ≠ 4 → p k = S k) ∧ p 4 0 = nI q) (fun p => len - (p 4 0).toNatClampNeg) ?_ _ ⟨e, Nat.le_refl _, he, fun i a b => absurd a (by omega), fun _ _ => rfl, h4⟩
  rintro X p ⟨q, hq1, hq2, hb, fr, e4⟩ hX
  have el := nI_clamp (n := q) (by omega)
  have fin : (q < len → ¬ f q = 32) → G_X6_step_38 Q p := by
    intro hnb
    have p1 : p 1 0 = nI len := by rw [fr 1 (by decide)]; exact t1
    unfold G_X6_step_38
    simp only [forall_eq]
    have a3 : zst (zst p 3 0 (p 4 0)) 5 0 0 3 0 = nI q := by rw [zs_ne _ _ _ (by decide), zs_at, e4]
    have a1 : zst (zst p 3 0 (p 4 0)) 5 0 0 1 0 = nI len := by rw [zs_ne _ _ _ (by decide), zs_ne _ _ _ (by decide), p1]
    have a4 : zst (zst p 3 0 (p 4 0)) 5 0 0 4 0 = nI q := by rw [zs_ne _ _ _ (by decide), zs_ne _ _ _ (by decide), e4]
    have out : ∀ k, k ≠ 3 → k ≠ 4 → k ≠ 5 → zst (zst p 3 0 (p 4 0)) 5 0 0 k = S k := fun k h3 h4 h5 => by rw [zs_ne _ _ _ h5, zs_ne _ _ _ h3, fr k h4]
    refine ⟨fun z => ?_, fun z => ?_⟩
    · rw [a3, a1] at z
      have hlt : q < len := (nI_ltI (by omega) (by omega)).mp z
      have fq : p 0 q = f q := by rw [fr 0 (by decide)]; exact tx q hlt
      have hv : vp_in (nI q) 150 := vp_in_nI (by omega) (by omega)
      have b3 : zst (zst (zst p 3 0 (p 4 0)) 5 0 0) 4 0 (zst (zst p 3 0 (p 4 0)) 5 0 0 4 0 + 1) 3 0 = nI q := by rw [zs_ne _ _ _ (by decide), a3]
      have b4 : zst (zst (zst p 3 0 (p 4 0)) 5 0 0) 4 0 (zst (zst p 3 0 (p 4 0)) 5 0 0 4 0 + 1) 4 0 = nI (q + 1) := by rw [zs_at, a4, nI_1]
      have bo : ∀ k, k ≠ 3 → k ≠ 4 → k ≠ 5 → zst (zst (zst p 3 0 (p 4 0)) 5 0 0) 4 0 (zst (zst p 3 0 (p 4 0)) 5 0 0 4 0 + 1) k = S k := fun k h3 h4 h5 => by rw [zs_ne _ _ _ h4]; exact out k h3 h4 h5
      have b1 : zst (zst (zst p 3 0 (p 4 0)) 5 0 0) 4 0 (zst (zst p 3 0 (p 4 0)) 5 0 0 4 0 + 1) 1 0 = nI len := by rw [bo 1 (by decide) (by decide) (by decide), t1]
      have b0 : ∀ i, i < len → zst (zst (zst p 3 0 (p 4 0)) 5 0 0) 4 0 (zst (zst p 3 0 (p 4 0)) 5 0 0 4 0 + 1) 0 i = f i := fun i hi => by rw [bo 0 (by decide) (by decide) (by decide)]; exact tx i hi
      have b5 : zst (zst (zst p 3 0 (p 4 0)) 5 0 0) 4 0 (zst (zst p 3 0 (p 4 0)) 5 0 0 4 0 + 1) 5 0 = 0 := by rw [zs_ne _ _ _ (by decide), zs_at]
      generalize zst (zst (zst p 3 0 (p 4 0)) 5 0 0) 4 0 (zst (zst p 3 0 (p 4 0)) 5 0 0 4 0 + 1) = R at b3 b4 b5 bo b1 b0 ⊢
      rw [b3, el, b0 q hlt]
      refine ⟨hv, ?_⟩
      have end0 : ∀ S', (∀ k, k ≠ 2 → k ≠ 4 → k ≠ 5 → S' k = R k) → TK f len q S' → Q S' := fun S' fr' tk => hQ S' q hq1 hq2 hb hnb (by rw [fr' 0 (by decide) (by decide) (by decide), bo 0 (by decide) (by decide) (by decide)]) (by rw [fr' 1 (by decide) (by decide) (by decide), bo 1 (by decide) (by decide) (by decide)]) (by rw [fr' 6 (by decide) (by decide) (by decide), bo 6 (by decide) (by decide) (by decide)]) tk
      have nD : isL (f q) → ¬ isD (f q) := by
        intro hL hD
        obtain ⟨d, hd, e⟩ := isD_of hD
        exact hL.1 (by rw [e]; exact (nI_ltI (a := 48 + d) (b := 97) (by omega) (by omega)).mpr (by omega))
      have n59L : isL (f q) → ¬ f q = 59 := fun hL w => n59.1 (by rw [← w]; exact hL)
      have n59D : isD (f q) → ¬ f q = 59 := fun hL w => n59.2.1 (by rw [← w]; exact hL)
      have n59S : isS (f q) → ¬ f q = 59 := fun hL w => n59.2.2 (by rw [← w]; exact hL)
      have other : ¬ isL (f q) → ¬ isD (f q) → G_X6_step_131 Q (f q) R := by
        intro hL hD
        unfold G_X6_step_131
        simp only [forall_eq]
        refine cSign_sp _ _ (fun hs => ⟨fun y => absurd y (by decide), fun _ => ?_⟩) (fun hs => ⟨fun _ => ⟨fun y => ?_, fun y => ?_⟩, fun y => (y rfl).elim⟩)
        · refine end0 _ (fun k a b c => by rw [zs_ne _ _ _ c, zs_ne _ _ _ a]) ⟨by rw [zs_ne _ _ _ (by decide), zs_ne _ _ _ (by decide)]; exact b3, fun w => absurd w (by omega), fun _ => ⟨fun w => absurd w hL, fun w => absurd w hD, fun _ _ _ => ⟨by rw [zs_ne _ _ _ (by decide), zs_at], zs_at _ _ _ _, by rw [zs_ne _ _ _ (by decide), zs_ne _ _ _ (by decide)]; exact b4⟩, fun w => absurd w (n59S hs), fun _ _ w => absurd hs w⟩⟩
        · refine end0 _ (fun k a b c => by rw [zs_ne _ _ _ a]) ⟨by rw [zs_ne _ _ _ (by decide)]; exact b3, fun w => absurd w (by omega), fun _ => ⟨fun w => absurd w hL, fun w => absurd w hD, fun _ _ w => absurd w hs, fun _ => ⟨zs_at _ _ _ _, by rw [zs_ne _ _ _ (by decide)]; exact b4, by rw [zs_ne _ _ _ (by decide)]; exact b5⟩, fun _ _ _ w => absurd y w⟩⟩
        · refine end0 _ (fun k a b c => by rw [zs_ne _ _ _ a]) ⟨by rw [zs_ne _ _ _ (by decide)]; exact b3, fun w => absurd w (by omega), fun _ => ⟨fun w => absurd w hL, fun w => absurd w hD, fun _ _ w => absurd w hs, fun w => absurd w y, fun _ _ _ _ => zs_at _ _ _ _⟩⟩
      have notL : ¬ isL (f q) → G_X6_step_108 Q (f q) R := by
        intro hL
        unfold G_X6_step_108
        refine ⟨fun y => other hL (fun k => k.1 y), fun y => ⟨fun y2 => other hL (fun k => k.2 y2), fun y2 => ?_⟩⟩
        refine numeral_cl hl hlt ⟨y, y2⟩ b1 b0 b4 _ (fun S' fr' hm => end0 S' fr' ⟨by rw [fr' 3 (by decide) (by decide) (by decide)]; exact b3, fun w => absurd w (by omega), fun _ => ⟨fun w => absurd w hL, fun _ => hm, fun _ w => absurd ⟨y, y2⟩ w, fun w => absurd w (n59D ⟨y, y2⟩), fun _ w => absurd ⟨y, y2⟩ w⟩⟩)
      refine ⟨fun y => notL (fun k => k.1 y), fun y => ⟨fun y2 => notL (fun k => k.2 y2), fun y2 => ?_⟩⟩
      have hL : isL (f q) := ⟨y, y2⟩
      refine letters_sp hl hlt b1 b0 b4 _ (fun S' fr' k2 k5 k50 => end0 S' fr' ⟨by rw [fr' 3 (by decide) (by decide) (by decide)]; exact b3, fun w => absurd w (by omega), fun _ => ⟨fun _ => ⟨k2, k5, k50⟩, fun w => absurd w (nD hL), fun w => absurd hL w, fun w => absurd w (n59L hL), fun w => absurd hL w⟩⟩)
    · rw [a3, a1] at z
      have hge : q = len := by
        have : ¬ q < len := fun y => z ((nI_ltI (by omega) (by omega)).mpr y)
        omega
      refine hQ _ q hq1 hq2 hb hnb ?_ ?_ ?_ ⟨by rw [zs_ne _ _ _ (by decide)]; exact a3, fun _ => zs_at _ _ _ _, fun w => absurd w (by omega)⟩
      · rw [zs_ne _ _ _ (by decide)]; exact out 0 (by decide) (by decide) (by decide)
      · rw [zs_ne _ _ _ (by decide)]; exact out 1 (by decide) (by decide) (by decide)
      · rw [zs_ne _ _ _ (by decide)]; exact out 6 (by decide) (by decide) (by decide)
  unfold F_X6_step_0
  simp only [fr 1 (by decide), fr 0 (by decide), t1, e4, el, forall_eq, nI_1]
  refine ⟨fun z => fin (fun w => absurd z (leI_not w (by omega))), fun z => ?_⟩
  have hlt : q < len := Nat.not_le.mp (fun y => z ((nI_leI (by omega) (by omega)).mpr y))
  rw [tx q hlt]
  refine ⟨vp_in_nI (by omega) (by omega), fun w => hX _ ⟨q + 1, by omega, hlt, fun i a b => ?_, fun k hk => by rw [zs_ne _ _ _ hk]; exact fr k hk, zs_at _ _ _ _⟩ ?_, fun w => fin (fun _ => w)⟩
  · by_cases y : i = q
    · rw [y]; exact w
    · exact hb i a (by omega)
  · show len - (zst p 4 0 (nI (q + 1)) 4 0).toNatClampNeg < len - (p 4 0).toNatClampNeg
    rw [zs_at, e4, el, nI_clamp (by omega)]
    omega
/-! the reference's -/
theorem here_rn (hl : len ≤ 150) {M : ZS} {p q : Nat} (hpq : p ≤ q) (hq : q ≤ len) (hb : bl f p q) (hn : q < len → ¬ f q = 32) (t0 : M 0 = f) (t1 : M 1 0 = nI len) (h22 : M 22 0 = nI p) (Q : Int32 → ZS → Prop) (h1 : q < len → Q (f q) (zst M 22 0 (nI q))) (h0 : ¬ q < len → Q (-1) (zst M 22 0 (nI q))) : g_X9_here M Q := by
  unfold g_X9_here
  refine fx_all (fun s => ∃ j, p ≤ j ∧ j ≤ q ∧ s = zst M 22 0 (nI j)) (fun s => q - (s 22 0).toNatClampNeg) ?_ _ ⟨p, Nat.le_refl _, hpq, (zs_self h22).symm⟩
  rintro X s ⟨j, hj1, hj2, rfl⟩ hX
  have el := nI_clamp (n := j) (by omega)
  have s0 : zst M 22 0 (nI j) 0 = f := by rw [zs_ne _ _ _ (by decide)]; exact t0
  have s1 : zst M 22 0 (nI j) 1 0 = nI len := by rw [zs_ne _ _ _ (by decide)]; exact t1
  have fin : j = q → G_X9_here_38 Q (zst M 22 0 (nI j)) := by
    intro e
    subst e
    unfold G_X9_here_38
    rw [zs_at, s1, s0, el]
    refine ⟨fun z => h0 (fun w => absurd z (leI_not w (by omega))), fun z => ?_⟩
    have hlt : j < len := Nat.not_le.mp (fun y => z ((nI_leI (by omega) (by omega)).mpr y))
    exact ⟨vp_in_nI (by omega) (by omega), h1 hlt⟩
  unfold F_X9_here_0
  simp only [zs_at, s1, s0, el, forall_eq, nI_1, zs_zs]
  refine ⟨fun z => ?_, fun z => ?_⟩
  · have := (nI_leI (by omega) (by omega)).mp z
    exact fin (by omega)
  · have hlt : j < len := Nat.not_le.mp (fun y => z ((nI_leI (by omega) (by omega)).mpr y))
    refine ⟨vp_in_nI (by omega) (by omega), fun w => ?_, fun w => fin ?_⟩
    · have hjq : j < q := by
        rcases Nat.lt_or_ge j q with y | y
        · exact y
        · have : j = q := by omega
          subst this
          exact absurd w (hn hlt)
      refine hX _ ⟨j + 1, by omega, hjq, rfl⟩ ?_
      show q - (zst M 22 0 (nI (j + 1)) 22 0).toNatClampNeg < q - (zst M 22 0 (nI j) 22 0).toNatClampNeg
      rw [zs_at, zs_at, el, nI_clamp (by omega)]
      omega
    · rcases Nat.lt_or_ge j q with y | y
      · exact absurd (hb j hj1 y) w
      · omega
theorem inD_sp (c : Int32) (Q : Int32 → Prop) (h1 : isD c → Q 1) (h0 : ¬ isD c → Q 0) : g_X9_in c 48 57 Q := ⟨fun z => h0 (fun w => w.1 z), fun z => ⟨fun y => h0 (fun w => w.2 y), fun y => h1 ⟨z, y⟩⟩⟩
theorem inL_sp (c : Int32) (Q : Int32 → Prop) (h1 : isL c → Q 1) (h0 : ¬ isL c → Q 0) : g_X9_in c 97 122 Q := ⟨fun z => h0 (fun w => w.1 z), fun z => ⟨fun y => h0 (fun w => w.2 y), fun y => h1 ⟨z, y⟩⟩⟩
/-- a numeral, from a place where m digits stand -/
theorem num_rn (hl : len ≤ 150) {M : ZS} {p q m B : Nat} (hpq : p ≤ q) (hq : q ≤ len) (hb : bl f p q) (hn : q < len → ¬ f q = 32) (t0 : M 0 = f) (t1 : M 1 0 = nI len) (h22 : M 22 0 = nI p) (h23 : M 23 0 = 0) (hm : q + m ≤ len) (hdig : ∀ i, i < m → isD (f (q + i))) (hend : q + m < len → ¬ isD (f (q + m))) (hB : B < 2 ^ 30) : ∃ v M', (∀ R : Int32 → ZS → Prop, R v M' → g_X9_numeral (nI B) M R) ∧ ((1 ≤ m ∧ ng f q m ∧ dv f q m ≤ nI B ∧ v = dv f q m ∧ M' = zst M 22 0 (nI (q + m))) ∨ (¬ (1 ≤ m ∧ ng f q m ∧ dv f q m ≤ nI B) ∧ M' = zst (zst M 22 0 (nI q)) 23 0 1)) := by
  -- the digits read
  have key : ∀ R : Int32 → ZS → Prop, G_X9_numeral_87 (nI B) R (nI m) (dv f q (min m 4)) (zst M 22 0 (nI q)) → g_X9_numeral (nI B) M R := by
    intro R h87
    unfold g_X9_numeral
    refine ⟨fun _ => ?_, fun w => absurd h23 w⟩
    have go : ∃ n, fx (F_X9_numeral_18 (nI B) R) n (0, 0, zst M 22 0 (nI q)) := by
      refine fx_all (fun s => ∃ j, j ≤ m ∧ s = (nI j, dv f q (min j 4), zst M 22 0 (nI q))) (fun s => m - s.1.toNatClampNeg) ?_ _ ⟨0, Nat.zero_le _, rfl⟩
      rintro X s ⟨j, hj, rfl⟩ hX
      have ej := nI_clamp (n := j) (by omega)
      have eqj := nI_clamp (n := q + j) (by omega)
      have s0 : zst M 22 0 (nI q) 0 = f := by rw [zs_ne _ _ _ (by decide)]; exact t0
      have s1 : zst M 22 0 (nI q) 1 0 = nI len := by rw [zs_ne _ _ _ (by decide)]; exact t1
      unfold F_X9_numeral_18
      simp only [zs_at, s1, s0, nI_add, eqj, forall_eq, nI_1]
      refine ⟨fun z => ?_, fun z => ?_⟩
      · have := (nI_leI (by omega) (by omega)).mp z
        have e : j = m := by omega
        subst e
        exact h87
      · have hlt : q + j < len := Nat.not_le.mp (fun y => z ((nI_leI (by omega) (by omega)).mpr y))
        have hv : vp_in (nI (q + j)) 150 := vp_in_nI (by omega) (by omega)
        have dec : m - (nI (j + 1)).toNatClampNeg < m - (nI j).toNatClampNeg ∨ ¬ j < m := by
          rcases Nat.lt_or_ge j m with y | y
          · left
            rw [ej, nI_clamp (by omega)]
            omega
          · right
            omega
        refine ⟨hv, inD_sp _ _ (fun w => ⟨fun y => absurd y (by decide), fun _ => ?_⟩) (fun w => ⟨fun _ => ?_, fun y => (y rfl).elim⟩)⟩
        · have hjm : j < m := by
            rcases Nat.lt_or_ge j m with y | y
            · exact y
            · have : j = m := by omega
              subst this
              exact absurd w (hend hlt)
          have dec' := dec.resolve_right (fun y => y hjm)
          refine ⟨fun y => ?_, fun y => ⟨hv, ?_⟩⟩
          · have h4 : 4 ≤ j := (nI_leI (a := 4) (b := j) (by omega) (by omega)).mp y
            refine hX _ ⟨j + 1, hjm, ?_⟩ dec'
            rw [show min (j + 1) 4 = min j 4 by omega]
          · have h4 : ¬ 4 ≤ j := fun k => y ((nI_leI (a := 4) (b := j) (by omega) (by omega)).mpr k)
            refine hX _ ⟨j + 1, hjm, ?_⟩ dec'
            rw [show min (j + 1) 4 = j + 1 by omega, show min j 4 = j by omega]
            rfl
        · have e : j = m := by
            rcases Nat.lt_or_ge j m with y | y
            · exact absurd (hdig j y) w
            · omega
          subst e
          exact h87
    exact here_rn hl hpq hq hb hn t0 t1 h22 _ (fun _ => go) (fun _ => go)
  have em := nI_clamp (n := m) (by omega)
  have s0 : zst M 22 0 (nI q) 0 = f := by rw [zs_ne _ _ _ (by decide)]; exact t0
  have no : ¬ (1 ≤ m ∧ ng f q m ∧ dv f q m ≤ nI B) → ∀ R : Int32 → ZS → Prop, R (dv f q (min m 4)) (zst (zst M 22 0 (nI q)) 23 0 1) → G_X9_numeral_87 (nI B) R (nI m) (dv f q (min m 4)) (zst M 22 0 (nI q)) := by
    intro hn' R hR
    have bad : G_X9_numeral_126 (nI B) R (nI m) (dv f q (min m 4)) 1 (zst M 22 0 (nI q)) := by
      unfold G_X9_numeral_126
      simp only [forall_eq, zs_at]
      refine ⟨isB_1, fun y => absurd y (by decide), fun _ => ?_⟩
      rw [zs_self (v := zst (zst M 22 0 (nI q)) 23 0 1 22 0 + 0) (by rw [Int32.add_zero])]
      exact hR
    have le : ∀ hm' : 1 ≤ m, m ≤ 3 → (m = 1 ∨ ¬ f q = 48) → G_X9_numeral_116 (nI B) R (nI m) (dv f q (min m 4)) (zst M 22 0 (nI q)) := by
      intro hm' h3 h48
      unfold G_X9_numeral_116 G_X9_numeral_121
      rw [show min m 4 = m by omega] at bad ⊢
      exact ⟨fun y => absurd ⟨hm', ⟨h3, h48⟩, y⟩ hn', fun _ => bad⟩
    unfold G_X9_numeral_87 G_X9_numeral_121 g_X9_in
    refine ⟨fun z => ⟨fun _ => bad, fun y => (y rfl).elim⟩, fun z => ⟨fun y => ⟨fun _ => bad, fun y => (y rfl).elim⟩, fun y => ⟨fun y => absurd y (by decide), fun _ => ?_⟩⟩⟩
    have h1 : 1 ≤ m := Nat.not_lt.mp (fun k => z ((nI_ltI (a := m) (b := 1) (by omega) (by omega)).mpr k))
    have h3 : m ≤ 3 := Nat.not_lt.mp (fun k => y ((nI_ltI (a := 3) (b := m) (by omega) (by omega)).mpr k))
    refine ⟨fun k => le h1 h3 (Or.inl ?_), fun k => ?_⟩
    · have := (nI_leI (a := m) (b := 1) (by omega) (by omega)).mp k
      omega
    · rw [zs_at, s0, nI_clamp (show q < 2 ^ 31 by omega)]
      refine ⟨vp_in_nI (by omega) (by omega), fun _ => bad, fun w => le h1 h3 (Or.inr w)⟩
  by_cases c : 1 ≤ m ∧ ng f q m ∧ dv f q m ≤ nI B
  · obtain ⟨c1, c2, c3⟩ := c
    refine ⟨dv f q m, zst M 22 0 (nI (q + m)), fun R hR => key R ?_, Or.inl ⟨c1, c2, c3, rfl, rfl⟩⟩
    rw [show min m 4 = m by have := c2.1; omega]
    have good : G_X9_numeral_116 (nI B) R (nI m) (dv f q m) (zst M 22 0 (nI q)) := by
      unfold G_X9_numeral_116 G_X9_numeral_126
      refine ⟨fun _ => ?_, fun y => absurd c3 y⟩
      simp only [forall_eq, zs_at]
      refine ⟨isB_0, fun _ => ?_, fun y => (y (by trivial)).elim⟩
      have e23 : zst (zst M 22 0 (nI q)) 23 0 0 = zst M 22 0 (nI q) := zs_self (by rw [zs_ne _ _ _ (by decide)]; exact h23)
      rw [e23, zs_at, nI_add, zs_zs]
      exact hR
    unfold G_X9_numeral_87 g_X9_in
    refine ⟨fun z => absurd ((nI_ltI (a := m) (b := 1) (by omega) (by omega)).mp z) (by omega), fun z => ⟨fun y => absurd ((nI_ltI (a := 3) (b := m) (by omega) (by omega)).mp y) (by have := c2.1; omega), fun y => ⟨fun y => absurd y (by decide), fun _ => ⟨fun _ => good, fun k => ?_⟩⟩⟩⟩
    rw [zs_at, s0, nI_clamp (show q < 2 ^ 31 by omega)]
    refine ⟨vp_in_nI (by omega) (by omega), fun w => ?_, fun _ => good⟩
    rcases c2.2 with u | u
    · exact absurd ((nI_leI (a := m) (b := 1) (by omega) (by omega)).mpr (by omega)) k
    · exact absurd w u
  · exact ⟨dv f q (min m 4), zst (zst M 22 0 (nI q)) 23 0 1, fun R hR => key R (no c R hR), Or.inr ⟨c, rfl⟩⟩
end STEP
