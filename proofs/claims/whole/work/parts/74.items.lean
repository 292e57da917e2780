/-! the items -/
section ITEMS
variable {f : ZR} {len lo : Nat} {S T M : ZS} {F : Nat → Nat} {nN nB c : Nat}
/-- what is owed behind an item: run is the reference's way -/
def IT (f : ZR) (len lo : Nat) (M : ZS) (run : (ZS → Prop) → Prop) (Q : ZS → ZS → Prop) : Prop := ∀ S' T' M', (∀ R : ZS → Prop, R M' → run R) → JT f len lo S' M' → (∀ k, k ≤ 21 → M' k = M k) → (S' 6 0 = 0 → ∃ F' nN' nB' c', DR T' M' F' nN' nB' c') → Q S' T'
theorem it_close {M1 : ZS} {run : (ZS → Prop) → Prop} {Q : ZS → ZS → Prop} (t : JT f len lo S M1) (fr : ∀ k, k ≤ 21 → M1 k = M k) (hr : ∀ R, g_X9_closes M1 R → run R) (dr : S 6 0 = 0 → ∃ F' nN' nB' c', DR T M1 F' nN' nB' c') (hQ : IT f len lo M run Q) : G_X3_readItem_177 Q S T := by
  unfold G_X3_readItem_177
  refine j_close t _ (fun v S' M' rn jt fr' st => hQ S' T M' (fun R hR => hr R (rn R hR)) (JT_mono (by omega) jt) (fun k hk => by rw [fr' k (by omega) (by omega)]; exact fr k hk) (fun z => ?_))
  obtain ⟨F', a, b, d, e⟩ := dr (st z)
  exact ⟨F', a, b, d, DR_M fr' e⟩
theorem NR_plain {T' M' : ZS} {n : Nat} {x : Int32} (hx : x = 0 ∨ x = 1) (hc : c < 8) (a1 : T' 2 n = nI c) (a2 : M' 28 n = nI c) (a3 : T' 3 n = x) (a4 : M' 27 n = x) (a5 : T' 4 n = M' 38 (72 + n)) (a6 : T' 6 n = -9) (a7 : T' 7 n = -9) (a8 : T' 8 n = 0) (a9 : M' 32 n = 0) : NR T' M' n := by
  have x2 : ¬ x = 2 := by rcases hx with h | h <;> subst h <;> decide
  have x3 : ¬ x = 3 := by rcases hx with h | h <;> subst h <;> decide
  have x4 : vp_in x 4 := by
    rcases hx with h | h
    · subst h; exact vp_in_nI (n := 0) (by omega) (by omega)
    · subst h; exact vp_in_nI (n := 1) (by omega) (by omega)
  refine ⟨⟨⟨a1.trans a2.symm, by rw [a2]; exact vp_in_nI hc (by omega)⟩, ⟨a3.trans a4.symm, by rw [a4]; exact x4⟩, a5⟩, ⟨fun h => absurd (a4.symm.trans h) x2, fun _ => ⟨a6, a7⟩⟩, ⟨0, a8, a9, by omega, fun _ => rfl, fun k hk => absurd hk (by omega), fun i j hi => absurd hi (by omega)⟩, fun h => absurd (a4.symm.trans h) x3⟩
theorem begin_sp (t0 : T 0 0 = nI nB) (t1 : T 1 0 = nI nN) (h8 : nB < 8) (Q : ZS → Prop) (hQ : ∀ T', (∀ k, k ≠ 0 → k ≠ 11 → k ≠ 12 → k ≠ 13 → k ≠ 14 → k ≠ 15 → T' k = T k) → (∀ k j, 11 ≤ k → k ≤ 14 → j ≠ nB → T' k j = T k j) → (∀ j, j ≠ 2 * nB → j ≠ 2 * nB + 1 → T' 15 j = T 15 j) → T' 0 0 = nI (nB + 1) → T' 11 nB = nI nN → T' 12 nB = 0 → OB T' nB → Q T') : g_X4_beginBlock T Q := by
  unfold g_X4_beginBlock
  have nc := nI_clamp (n := nB) (by omega)
  have n2 : (2 : Int32) * nI nB = nI (2 * nB) := by rw [show (2 : Int32) = nI 2 from rfl, pk_mul]
  have c2 := nI_clamp (n := 2 * nB) (by omega)
  have c21 := nI_clamp (n := 2 * nB + 1) (by omega)
  simp only [forall_eq, t0, t1, nc, n2, nI_1, c2, c21]
  have v8 : vp_in (nI nB) 8 := vp_in_nI h8 (by omega)
  refine ⟨v8, v8, v8, v8, vp_in_nI (by omega) (by omega), vp_in_nI (by omega) (by omega), ?_⟩
  have e0 : zst (zst (zst (zst (zst (zst T 11 nB (nI nN)) 12 nB 0) 13 nB (-1)) 14 nB (-9)) 15 (2 * nB) (-9)) 15 (2 * nB + 1) (-9) 0 0 = nI nB := by
    rw [zs_ne _ _ _ (by decide), zs_ne _ _ _ (by decide), zs_ne _ _ _ (by decide), zs_ne _ _ _ (by decide), zs_ne _ _ _ (by decide), zs_ne _ _ _ (by decide)]
    exact t0
  rw [e0, nI_1]
  refine hQ _ (fun k h0 h1 h2 h3 h4 h5 => ?_) (fun k j h1 h2 h3 => ?_) (fun j h1 h2 => ?_) (zs_at _ _ _ _) ?_ ?_ ⟨?_, ?_, ?_, ?_⟩
  · rw [zs_ne _ _ _ h0, zs_ne _ _ _ h5, zs_ne _ _ _ h5, zs_ne _ _ _ h4, zs_ne _ _ _ h3, zs_ne _ _ _ h2, zs_ne _ _ _ h1]
  · have st : ∀ (S : ZS) (k' : Nat) (v : Int32), zst S k' nB v k j = S k j := fun S k' v => by
      by_cases q : k = k'
      · subst q; rw [zs_ni _ _ _ h3]
      · rw [zs_ne _ _ _ q]
    rw [zs_ne _ _ _ (by omega), zs_ne _ _ _ (by omega), zs_ne _ _ _ (by omega), st, st, st, st]
  · rw [zs_ne _ _ _ (by decide), zs_ni _ _ _ h2, zs_ni _ _ _ h1, zs_ne _ _ _ (by decide), zs_ne _ _ _ (by decide), zs_ne _ _ _ (by decide), zs_ne _ _ _ (by decide)]
  · rw [zs_ne _ _ _ (by decide), zs_ne _ _ _ (by decide), zs_ne _ _ _ (by decide), zs_ne _ _ _ (by decide), zs_ne _ _ _ (by decide), zs_ne _ _ _ (by decide), zs_at]
  · rw [zs_ne _ _ _ (by decide), zs_ne _ _ _ (by decide), zs_ne _ _ _ (by decide), zs_ne _ _ _ (by decide), zs_ne _ _ _ (by decide), zs_at]
  · rw [zs_ne _ _ _ (by decide), zs_ne _ _ _ (by decide), zs_ne _ _ _ (by decide), zs_ne _ _ _ (by decide), zs_at]
  · rw [zs_ne _ _ _ (by decide), zs_ne _ _ _ (by decide), zs_ne _ _ _ (by decide), zs_at]
  · rw [zs_ne _ _ _ (by decide), zs_ni _ _ _ (by omega), Nat.add_zero, zs_at]
  · rw [zs_ne _ _ _ (by decide), zs_at]
def RB (M : ZS) (R : ZS → Prop) : Prop := vp_in (M 25 0) 9 ∧ (∀ S0_4, S0_4 = zst M 35 (M 25 0).toNatClampNeg (M 24 0) → ∀ S0_5, S0_5 = zst S0_4 25 0 ((S0_4 25 0) + 1) → ∀ S0_6, S0_6 = zst S0_5 26 0 1 → g_X9_closes S0_6 (fun S0_7 => R S0_7))
theorem j_b (t : JT f len lo S M) (d : DR T M F nN nB c) (hc : c = nB) (h8 : nB < 8) (Q : ZS → ZS → Prop) (hQ : IT f len lo M (RB M) Q) : g_X4_beginBlock T (fun T' => G_X3_readItem_177 Q S T') := by
  obtain ⟨d1, d2, d3, d4, -⟩ := d.1
  refine begin_sp d1 d2 h8 _ (fun T' a1 a2 a3 a4 a5 a6 a7 => ?_)
  have nc := nI_clamp (n := nB) (by omega)
  refine it_close (M1 := zst (zst (zst M 35 nB (nI nN)) 25 0 (nI (nB + 1))) 26 0 1) (JT_put _ _ (by decide) (JT_put _ _ (by decide) (JT_put _ _ (by decide) t))) (fun k hk => ?_) (fun R hR => ?_) (fun _ => ⟨_, _, _, _, DR_begin d hc h8 a1 a2 a3 a4 a5 a6 a7 (fun k h1 h2 h3 h4 => ?_) (fun j hj => ?_) ?_ (zs_at _ _ _ _) ?_⟩) hQ
  · rw [zs_ne _ _ _ (by omega), zs_ne _ _ _ (by omega), zs_ne _ _ _ (by omega)]
  · unfold RB
    simp only [forall_eq]
    rw [d3, nc, d4, zs_ne _ _ _ (show 25 ≠ 35 by decide), d3, nI_1]
    exact ⟨vp_in_nI (by omega) (by omega), hR⟩
  · rw [zs_ne _ _ _ h3, zs_ne _ _ _ h2, zs_ne _ _ _ h4]
  · rw [zs_ne _ _ _ (by decide), zs_ne _ _ _ (by decide), zs_ni _ _ _ hj]
  · rw [zs_ne _ _ _ (by decide), zs_at]
  · rw [zs_ne _ _ _ (by decide), zs_ne _ _ _ (by decide), zs_at]
def RI (M : ZS) (R : ZS → Prop) : Prop := g_X9_startsName 1 M (fun S0_8 => g_X9_closes S0_8 (fun S0_9 => R S0_9))
theorem j_i (t : JT f len lo S M) (d : DR T M F nN nB c) (hc : c + 1 = nB) (hN : nN < 24) (Q : ZS → ZS → Prop) (hQ : IT f len lo M (RI M) Q) : g_X4_addName 1 T (fun _ T' => G_X3_readItem_177 Q S T') := by
  obtain ⟨d1, d2, d3, d4, d5, d6⟩ := d.1
  refine addName_sp 1 d1 d2 hc d5 hN _ (fun T' ft a2 a3 a4 a5 a6 a7 a8 => ?_)
  obtain ⟨M1, sr, fm, lowk, m27, m28, m29, m32, m38, mo⟩ := starts_rn (M := M) 1 d3 d4 hc d5 hN
  refine it_close (M1 := M1) (JT_M lowk t) (fun k hk => lowk k (by omega)) (fun R hR => sr _ hR) (fun _ => ⟨_, _, _, _, DR_name d hc hN ft fm (NR_plain (Or.inr rfl) (by omega) a2 m28 a3 m27 ?_ a6 a7 a8 m32) m28 (fun _ h => ?_)⟩) hQ
  · rw [a4, m38, d.2.2.2.2.2.2.2 nN (Nat.le_refl _) hN]
  · rw [m27] at h
    exact absurd h (by decide)
def RK (M : ZS) (R : ZS → Prop) : Prop := g_X9_startsName 0 M (fun S0_11 => g_X9_numeral 999 S0_11 (fun r_13 S0_12 => vp_in ((72 + (S0_11 24 0)) - 1) 112 ∧ (∀ S0_14, S0_14 = zst S0_12 38 ((72 + (S0_11 24 0)) - 1).toNatClampNeg r_13 → g_X9_closes S0_14 (fun S0_15 => R S0_15))))
theorem j_k (t : JT f len lo S M) (d : DR T M F nN nB c) (hc : c + 1 = nB) (hN : nN < 24) (Q : ZS → ZS → Prop) (hQ : IT f len lo M (RK M) Q) : g_X3_readNumber S T (fun S' T' => G_X3_readItem_177 Q S' T') := by
  obtain ⟨d1, d2, d3, d4, d5, d6⟩ := d.1
  unfold g_X3_readNumber
  refine addName_sp 0 d1 d2 hc d5 hN _ (fun T' ft a2 a3 a4 a5 a6 a7 a8 => ?_)
  obtain ⟨M1, sr, fm, lowk, m27, m28, m29, m32, m38, mo⟩ := starts_rn (M := M) 0 d3 d4 hc d5 hN
  refine j_numb (JT_M lowk t) _ (fun v S' w M2 nr jt fr st => ?_)
  have nc := nI_clamp (n := nN) (by omega)
  have ix : (72 + nI (nN + 1) : Int32) - 1 = nI (72 + nN) := by
    rw [show (72 : Int32) = nI 72 from rfl, nI_add, show (1 : Int32) = nI 1 from rfl, pk_sub (by omega)]
    congr 1
  have ic := nI_clamp (n := 72 + nN) (by omega)
  simp only [forall_eq, nc]
  refine ⟨vp_in_nI hN (by omega), ?_⟩
  have fm3 : FQ M (zst M2 38 (72 + nN) w) nN := FQ_put (FQ_tx fm fr) (Or.inr (Or.inr ⟨rfl, rfl⟩))
  refine it_close (M1 := zst M2 38 (72 + nN) w) (JT_put _ _ (by decide) (JT_mono (by omega) jt)) (fun k hk => fm3.1 k (Or.inl hk)) (fun R hR => ?_) (fun z => ⟨_, _, _, _, DR_name d hc hN (FT_put ft (Or.inl ⟨by decide, by decide, rfl⟩)) fm3 (NR_plain (Or.inl rfl) (c := c) (by omega) ?_ ?_ ?_ ?_ ?_ ?_ ?_ ?_ ?_) ?_ (fun _ h => ?_)⟩) hQ
  · refine sr _ (nr _ ?_)
    simp only [forall_eq]
    rw [fm.2.2.2.2, ix, ic]
    exact ⟨vp_in_nI (by omega) (by omega), hR⟩
  · rw [zs_ne _ _ _ (by decide)]; exact a2
  · rw [zs_ne _ _ _ (by decide), fr 28 (by decide) (by decide)]; exact m28
  · rw [zs_ne _ _ _ (by decide)]; exact a3
  · rw [zs_ne _ _ _ (by decide), fr 27 (by decide) (by decide)]; exact m27
  · rw [zs_at, zs_at, (st z).2]
  · rw [zs_ne _ _ _ (by decide)]; exact a6
  · rw [zs_ne _ _ _ (by decide)]; exact a7
  · rw [zs_ne _ _ _ (by decide)]; exact a8
  · rw [zs_ne _ _ _ (by decide), fr 32 (by decide) (by decide)]; exact m32
  · rw [zs_ne _ _ _ (by decide), fr 28 (by decide) (by decide)]; exact m28
  · rw [zs_ne _ _ _ (by decide), fr 27 (by decide) (by decide), m27] at h
    exact absurd h (by decide)
theorem j_o (t : JT f len lo S M) (d : DR T M F nN nB c) (hc : c + 1 = nB) (hN : nN < 24) (Q : ZS → ZS → Prop) (hQ : IT f len lo M (fun R => g_X9_readsOperation M R) Q) : g_X3_readOperation S T (fun S' T' => G_X3_readItem_177 Q S' T') := by
  obtain ⟨d1, d2, d3, d4, d5, d6⟩ := d.1
  unfold g_X3_readOperation
  refine addName_sp 2 d1 d2 hc d5 hN _ (fun T1 ft a2 a3 a4 a5 a6 a7 a8 => ?_)
  obtain ⟨M1, sr, fm, lowk, m27, m28, m29, m32, m38, mo⟩ := starts_rn (M := M) 2 d3 d4 hc d5 hN
  have nc := nI_clamp (n := nN) (by omega)
  have hv : vp_in (nI nN) 24 := vp_in_nI hN (by omega)
  refine j_below (B := 24) (by omega) (by omega) (JT_M lowk t) _ (fun v1 S1 w1 M2 nr1 jt1 fr1 st1 => ?_)
  simp only [forall_eq, nc]
  refine ⟨hv, ?_⟩
  have fm3 : FQ M (zst M2 30 nN w1) nN := FQ_put (FQ_tx fm fr1) (Or.inl ⟨by decide, by decide, rfl⟩)
  refine j_sign hN (JT_put (k := 30) nN w1 (by decide) jt1) _ (fun v2 S2 M4 nr2 jt2 fr2 fr2' st2 => ?_)
  refine ⟨hv, ?_⟩
  refine j_below (B := 24) (by omega) (by omega) jt2 _ (fun v3 S3 w3 M5 nr3 jt3 fr3 st3 => ?_)
  refine ⟨hv, ?_⟩
  have fm4 : FQ M M4 nN := by
    obtain ⟨g1, g2, g3, g4, g5⟩ := fm3
    refine ⟨fun k hk => ?_, fun k j h1 h2 h3 => ?_, fun k j h1 h2 => ?_, fun j hj => ?_, ?_⟩
    · rw [fr2 k (by omega) (by omega) (by omega)]; exact g1 k hk
    · by_cases q : k = 29
      · subst q; rw [fr2' j h3]; exact g2 29 j h1 h2 h3
      · rw [fr2 k (by omega) (by omega) q]; exact g2 k j h1 h2 h3
    · rw [fr2 k (by omega) (by omega) (by omega)]; exact g3 k j h1 h2
    · rw [fr2 38 (by omega) (by omega) (by omega)]; exact g4 j hj
    · rw [fr2 24 (by omega) (by omega) (by omega)]; exact g5
  have fm6 : FQ M (zst M5 31 nN w3) nN := FQ_put (FQ_tx fm4 fr3) (Or.inl ⟨by decide, by decide, rfl⟩)
  have keep : ∀ k, k ≠ 22 → k ≠ 23 → k ≠ 29 → k ≠ 30 → k ≠ 31 → zst M5 31 nN w3 k = M1 k := fun k h1 h2 h3 h4 h5 => by
    rw [zs_ne _ _ _ h5, fr3 k h1 h2, fr2 k h1 h2 h3, zs_ne _ _ _ h4, fr1 k h1 h2]
  have k30 : zst M5 31 nN w3 30 nN = w1 := by rw [zs_ne _ _ _ (by decide), fr3 30 (by decide) (by decide), fr2 30 (by decide) (by decide) (by decide), zs_at]
  have k29 : zst M5 31 nN w3 29 nN = M4 29 nN := by rw [zs_ne _ _ _ (by decide), fr3 29 (by decide) (by decide)]
  refine it_close (M1 := zst M5 31 nN w3) (JT_put (k := 31) nN w3 (by decide) (JT_mono (by omega) jt3)) (fun k hk => fm6.1 k (Or.inl hk)) (fun R hR => ?_) (fun z => ?_) hQ
  · unfold g_X9_readsOperation
    refine sr _ (nr1 _ ?_)
    simp only [forall_eq, d4, nc]
    refine ⟨hv, nr2 R ?_⟩
    unfold G_X9_readsOperation_79
    refine nr3 _ ?_
    simp only [forall_eq, nc]
    exact ⟨hv, hR⟩
  · obtain ⟨z2, e3, -, k3, hk3, ek3⟩ := st3 z
    obtain ⟨z1, e2⟩ := st2 z2
    obtain ⟨z0, e1, -, k1, hk1, ek1⟩ := st1 z1
    refine ⟨_, _, _, _, DR_name d hc hN (FT_put (FT_put (FT_put ft (Or.inl ⟨by decide, by decide, rfl⟩)) (Or.inl ⟨by decide, by decide, rfl⟩)) (Or.inl ⟨by decide, by decide, rfl⟩)) fm6 ?_ (by rw [keep 28 (by decide) (by decide) (by decide) (by decide) (by decide)]; exact m28) (fun _ h => ?_)⟩
    · unfold NR
      rw [k30, k29, zs_at M5, keep 28 (by decide) (by decide) (by decide) (by decide) (by decide), keep 27 (by decide) (by decide) (by decide) (by decide) (by decide), keep 32 (by decide) (by decide) (by decide) (by decide) (by decide), keep 38 (by decide) (by decide) (by decide) (by decide) (by decide), m28, m27, m32, m38]
      have u2 : zst (zst (zst T1 6 nN v1) 5 nN v2) 7 nN v3 2 nN = nI c := by rw [zs_ne _ _ _ (by decide), zs_ne _ _ _ (by decide), zs_ne _ _ _ (by decide)]; exact a2
      have u3 : zst (zst (zst T1 6 nN v1) 5 nN v2) 7 nN v3 3 nN = 2 := by rw [zs_ne _ _ _ (by decide), zs_ne _ _ _ (by decide), zs_ne _ _ _ (by decide)]; exact a3
      have u4 : zst (zst (zst T1 6 nN v1) 5 nN v2) 7 nN v3 4 nN = 0 := by rw [zs_ne _ _ _ (by decide), zs_ne _ _ _ (by decide), zs_ne _ _ _ (by decide)]; exact a4
      have u5 : zst (zst (zst T1 6 nN v1) 5 nN v2) 7 nN v3 5 nN = v2 := by rw [zs_ne _ _ _ (by decide), zs_at]
      have u6 : zst (zst (zst T1 6 nN v1) 5 nN v2) 7 nN v3 6 nN = v1 := by rw [zs_ne _ _ _ (by decide), zs_ne _ _ _ (by decide), zs_at]
      have u7 : zst (zst (zst T1 6 nN v1) 5 nN v2) 7 nN v3 7 nN = v3 := zs_at _ _ _ _
      have u8 : zst (zst (zst T1 6 nN v1) 5 nN v2) 7 nN v3 8 nN = 0 := by rw [zs_ne _ _ _ (by decide), zs_ne _ _ _ (by decide), zs_ne _ _ _ (by decide)]; exact a8
      rw [u2, u3, u4, u5, u6, u7, u8]
      refine ⟨⟨⟨rfl, vp_in_nI (by omega) (by omega)⟩, ⟨rfl, vp_in_nI (n := 2) (by omega) (by omega)⟩, (d.2.2.2.2.2.2.2 nN (Nat.le_refl _) hN).symm⟩, ⟨fun _ => ⟨⟨e2.symm, e1, e3⟩, by rw [ek1]; exact vp_in_nI hk1 (by omega), by rw [ek3]; exact vp_in_nI hk3 (by omega)⟩, fun h => (h (by trivial)).elim⟩, ⟨0, rfl, rfl, by omega, fun _ => rfl, fun k hk => absurd hk (by omega), fun i j hi => absurd hi (by omega)⟩, fun h => absurd h (by decide)⟩
    · rw [keep 27 (by decide) (by decide) (by decide) (by decide) (by decide), m27] at h
      exact absurd h (by decide)
end ITEMS
