/-! the ends of blocks -/
section ENDS
variable {f : ZR} {len lo : Nat} {S T M : ZS} {F : Nat → Nat} {nN nB c : Nat}
theorem endBlock_sp (x : Int32) (t0 : T 0 0 = nI nB) (hc : c + 1 = nB) (h8 : nB ≤ 8) (Q : Int32 → ZS → Prop) (hQ : Q (nI c) (zst T 13 c x)) : g_X4_endBlock x T Q := by
  unfold g_X4_endBlock
  have e1 : nI nB - 1 = nI c := by rw [show (1 : Int32) = nI 1 from rfl, pk_sub (by omega)]; congr 1; omega
  have cc := nI_clamp (n := c) (by omega)
  simp only [forall_eq, t0, e1, cc]
  rw [zs_ne _ _ _ (show 0 ≠ 13 by decide), t0, e1]
  exact ⟨vp_in_nI (by omega) (by omega), hQ⟩
theorem x96 : (96 : Int32) + 2 * nI c = nI (96 + 2 * c) := by rw [show (2 : Int32) = nI 2 from rfl, pk_mul, show (96 : Int32) = nI 96 from rfl, nI_add]
theorem end84 {x : Int32} (hx : ¬ x = 113) (h8 : c < 8) (w : Int32) (M : ZS) (R : ZS → Prop) (h : g_X9_closes (zst (zst (zst M 38 (96 + 2 * c) w) 38 (96 + (2 * c + 1)) (-9)) 26 0 0) R) : G_X9_readsEnd_84 x R (nI c) (96 + 2 * nI c) w M := by
  unfold G_X9_readsEnd_84 G_X9_readsEnd_179
  rw [x96, nI_1, nI_clamp (show 96 + 2 * c < 2 ^ 31 by omega), nI_clamp (show 96 + 2 * c + 1 < 2 ^ 31 by omega)]
  simp only [forall_eq]
  exact ⟨vp_in_nI (by omega) (by omega), vp_in_nI (by omega) (by omega), fun y => absurd y hx, fun _ => h⟩
theorem j_g (t : JT f len lo S M) (d : DR T M F nN nB c) (hc : c + 1 = nB) (Q : ZS → ZS → Prop) (hQ : IT f len lo M (fun R => g_X9_readsEnd 103 M R) Q) : g_X3_readGoing S T (fun S' T' => G_X3_readItem_177 Q S' T') := by
  obtain ⟨d1, d2, d3, d4, d5, d6⟩ := d.1
  unfold g_X3_readGoing
  refine endBlock_sp 0 d1 hc d5 _ ?_
  have cc := nI_clamp (n := c) (by omega)
  have c2 := nI_clamp (n := 2 * c) (by omega)
  have e1 : nI nB - 1 = nI c := by rw [show (1 : Int32) = nI 1 from rfl, pk_sub (by omega)]; congr 1; omega
  have n2 : (2 : Int32) * nI c = nI (2 * c) := by rw [show (2 : Int32) = nI 2 from rfl, pk_mul]
  refine j_below (B := 8) (by omega) (by omega) (JT_put (k := 37) c (-9) (by decide) (JT_put (k := 36) c 0 (by decide) t)) _ (fun v S1 w M3 nr jt fr st => ?_)
  simp only [forall_eq, n2, c2]
  refine ⟨vp_in_nI (by omega) (by omega), ?_⟩
  have hob : OB T c := by
    rcases d.2.2.2.2.2.1 with o | o
    · omega
    · exact o.2.2.1
  have lowk : ∀ k, k ≠ 22 → k ≠ 23 → k ≠ 26 → k ≠ 36 → k ≠ 37 → k ≠ 38 → zst (zst (zst M3 38 (96 + 2 * c) w) 38 (96 + (2 * c + 1)) (-9)) 26 0 0 k = M k := fun k h1 h2 h3 h4 h5 h6 => by
    rw [zs_ne _ _ _ h3, zs_ne _ _ _ h6, zs_ne _ _ _ h6, fr k h1 h2, zs_ne _ _ _ h5, zs_ne _ _ _ h4]
  refine it_close (M1 := zst (zst (zst M3 38 (96 + 2 * c) w) 38 (96 + (2 * c + 1)) (-9)) 26 0 0) (JT_put _ _ (by decide) (JT_put _ _ (by decide) (JT_put _ _ (by decide) (JT_mono (by omega) jt)))) (fun k hk => lowk k (by omega) (by omega) (by omega) (by omega) (by omega) (by omega)) (fun R hR => ?_) (fun z => ?_) hQ
  · unfold g_X9_readsEnd G_X9_readsEnd_33 G_X9_readsEnd_56
    simp only [forall_eq, d3, e1, cc]
    have hv : vp_in (nI c) 8 := vp_in_nI (by omega) (by omega)
    refine ⟨fun _ => ⟨hv, fun _ => ⟨hv, fun y => absurd y (by decide), fun _ => nr _ (end84 (by decide) (by omega) _ _ _ hR)⟩, fun y => (y (by trivial)).elim⟩, fun y => (y (by trivial)).elim⟩
  · obtain ⟨-, e, -, k, hk, ek⟩ := st z
    refine ⟨_, _, _, _, DR_end d hc (fun k h1 h2 h3 => by rw [zs_ne _ _ _ h3, zs_ne _ _ _ h1]) (fun k j h1 h2 => ?_) (fun j h1 h2 => by rw [zs_ni _ _ _ h1, zs_ne _ _ _ (by decide)]) (fun k h0 h1 h2 h3 h4 => lowk k (by omega) (by omega) h1 h2 h3 h4) (fun k j h1 h2 => ?_) (fun j h1 h2 => ?_) (zs_at _ _ _ _) ⟨⟨?_, ?_, ?_, ?_⟩, Or.inl ⟨?_, ?_, ?_, ?_⟩⟩⟩
    · rw [zs_ne _ _ _ (by omega)]
      by_cases q : k = 13
      · subst q; rw [zs_ni _ _ _ h2]
      · rw [zs_ne _ _ _ q]
    · rw [zs_ne _ _ _ (by omega), zs_ne _ _ _ (by omega), zs_ne _ _ _ (by omega), fr k (by omega) (by omega)]
      by_cases q : k = 37
      · subst q; rw [zs_ni _ _ _ h2, zs_ne _ _ _ (by decide)]
      · rw [zs_ne _ _ _ q, show k = 36 by omega, zs_ni _ _ _ h2]
    · rw [zs_ne _ _ _ (by decide), zs_ni _ _ _ h2, zs_ni _ _ _ h1, fr 38 (by decide) (by decide), zs_ne _ _ _ (by decide), zs_ne _ _ _ (by decide)]
    · rw [zs_ne _ _ _ (by decide), zs_at, zs_ne _ _ _ (by decide), zs_ne _ _ _ (by decide), zs_ne _ _ _ (by decide), fr 36 (by decide) (by decide), zs_ne _ _ _ (by decide), zs_at]
    · rw [zs_ne _ _ _ (by decide), zs_ne _ _ _ (by decide), hob.2.1, zs_ne _ _ _ (by decide), zs_ne _ _ _ (by decide), zs_ne _ _ _ (by decide), fr 37 (by decide) (by decide), zs_at]
    · rw [Nat.add_zero (2 * c), zs_at, zs_ne _ _ _ (by decide), zs_ni _ _ _ (by omega), zs_at]; exact e
    · rw [zs_ni _ _ _ (by omega), zs_ne _ _ _ (by decide), hob.2.2.2, zs_ne _ _ _ (by decide), zs_at]
    · rw [zs_ne _ _ _ (by decide), zs_ne _ _ _ (by decide), zs_ne _ _ _ (by decide), fr 36 (by decide) (by decide), zs_ne _ _ _ (by decide), zs_at]
    · rw [zs_ne _ _ _ (by decide), zs_ne _ _ _ (by decide), zs_ne _ _ _ (by decide), fr 37 (by decide) (by decide), zs_at]
    · rw [Nat.add_zero (2 * c), zs_ne _ _ _ (by decide), zs_ni _ _ _ (by omega), zs_at, ek]; exact vp_in_nI hk (by omega)
    · rw [zs_ne _ _ _ (by decide), zs_at]
theorem j_z (t : JT f len lo S M) (d : DR T M F nN nB c) (hc : c + 1 = nB) (Q : ZS → ZS → Prop) (hQ : IT f len lo M (fun R => g_X9_readsEnd 122 M R) Q) : g_X3_readReturn S T (fun S' T' => G_X3_readItem_177 Q S' T') := by
  obtain ⟨d1, d2, d3, d4, d5, d6⟩ := d.1
  unfold g_X3_readReturn
  refine endBlock_sp 2 d1 hc d5 _ ?_
  have cc := nI_clamp (n := c) (by omega)
  have e1 : nI nB - 1 = nI c := by rw [show (1 : Int32) = nI 1 from rfl, pk_sub (by omega)]; congr 1; omega
  have hv : vp_in (nI c) 8 := vp_in_nI (by omega) (by omega)
  refine j_below (B := 24) (by omega) (by omega) (JT_put (k := 36) c 2 (by decide) t) _ (fun v S1 w M3 nr jt fr st => ?_)
  simp only [forall_eq, cc]
  refine ⟨hv, ?_⟩
  have hob : OB T c := by
    rcases d.2.2.2.2.2.1 with o | o
    · omega
    · exact o.2.2.1
  have lowk : ∀ k, k ≠ 22 → k ≠ 23 → k ≠ 26 → k ≠ 36 → k ≠ 37 → k ≠ 38 → zst (zst (zst (zst M3 37 c w) 38 (96 + 2 * c) (-9)) 38 (96 + (2 * c + 1)) (-9)) 26 0 0 k = M k := fun k h1 h2 h3 h4 h5 h6 => by
    rw [zs_ne _ _ _ h3, zs_ne _ _ _ h6, zs_ne _ _ _ h6, zs_ne _ _ _ h5, fr k h1 h2, zs_ne _ _ _ h4]
  refine it_close (M1 := zst (zst (zst (zst M3 37 c w) 38 (96 + 2 * c) (-9)) 38 (96 + (2 * c + 1)) (-9)) 26 0 0) (JT_put _ _ (by decide) (JT_put _ _ (by decide) (JT_put _ _ (by decide) (JT_put _ _ (by decide) (JT_mono (by omega) jt))))) (fun k hk => lowk k (by omega) (by omega) (by omega) (by omega) (by omega) (by omega)) (fun R hR => ?_) (fun z => ?_) hQ
  · unfold g_X9_readsEnd G_X9_readsEnd_33 G_X9_readsEnd_56
    simp only [forall_eq, d3, e1, cc]
    refine ⟨fun y => absurd y (by decide), fun _ => ⟨fun y => absurd y (by decide), fun _ => ⟨hv, fun y => absurd y (by decide), fun _ => nr _ ⟨hv, fun _ => end84 (by decide) (by omega) _ _ _ hR, fun y => (y (by trivial)).elim⟩⟩⟩⟩
  · obtain ⟨-, e, -, k, hk, ek⟩ := st z
    refine ⟨_, _, _, _, DR_end d hc (fun k h1 h2 h3 => by rw [zs_ne _ _ _ h2, zs_ne _ _ _ h1]) (fun k j h1 h2 => ?_) (fun j h1 h2 => by rw [zs_ne _ _ _ (by decide), zs_ne _ _ _ (by decide)]) (fun k h0 h1 h2 h3 h4 => lowk k (by omega) (by omega) h1 h2 h3 h4) (fun k j h1 h2 => ?_) (fun j h1 h2 => ?_) (zs_at _ _ _ _) ⟨⟨?_, ?_, ?_, ?_⟩, Or.inr (Or.inr ⟨?_, ?_, ?_, ?_⟩)⟩⟩
    · by_cases q : k = 14
      · subst q; rw [zs_ni _ _ _ h2, zs_ne _ _ _ (by decide)]
      · rw [zs_ne _ _ _ q, show k = 13 by omega, zs_ni _ _ _ h2]
    · rw [zs_ne _ _ _ (by omega), zs_ne _ _ _ (by omega), zs_ne _ _ _ (by omega)]
      by_cases q : k = 37
      · subst q; rw [zs_ni _ _ _ h2, fr 37 (by decide) (by decide), zs_ne _ _ _ (by decide)]
      · rw [zs_ne _ _ _ q, show k = 36 by omega, fr 36 (by decide) (by decide), zs_ni _ _ _ h2]
    · rw [zs_ne _ _ _ (by decide), zs_ni _ _ _ h2, zs_ni _ _ _ h1, zs_ne _ _ _ (by decide), fr 38 (by decide) (by decide), zs_ne _ _ _ (by decide)]
    · rw [zs_ne _ _ _ (by decide), zs_at, zs_ne _ _ _ (by decide), zs_ne _ _ _ (by decide), zs_ne _ _ _ (by decide), zs_ne _ _ _ (by decide), fr 36 (by decide) (by decide), zs_at]
    · rw [zs_at, zs_ne _ _ _ (by decide), zs_ne _ _ _ (by decide), zs_ne _ _ _ (by decide), zs_at]; exact e
    · rw [zs_ne _ _ _ (by decide), zs_ne _ _ _ (by decide), hob.2.2.1, Nat.add_zero (2 * c), zs_ne _ _ _ (by decide), zs_ni _ _ _ (by omega), zs_at]
    · rw [zs_ne _ _ _ (by decide), zs_ne _ _ _ (by decide), hob.2.2.2, zs_ne _ _ _ (by decide), zs_at]
    · rw [zs_ne _ _ _ (by decide), zs_ne _ _ _ (by decide), zs_ne _ _ _ (by decide), zs_ne _ _ _ (by decide), fr 36 (by decide) (by decide), zs_at]
    · rw [zs_ne _ _ _ (by decide), zs_ne _ _ _ (by decide), zs_ne _ _ _ (by decide), zs_at, ek]; exact vp_in_nI hk (by omega)
    · rw [Nat.add_zero (2 * c), zs_ne _ _ _ (by decide), zs_ni _ _ _ (by omega), zs_at]
    · rw [zs_ne _ _ _ (by decide), zs_at]
/-- a block's number that must not be one of those before -/
theorem j_uniq (D : Int32 → Prop) (t : JT f len lo S M) (h6 : S 6 0 = 0) (Q : Int32 → ZS → Prop) (hQ : ∀ v S' w c M1 M2, (∀ R : Int32 → ZS → Prop, R c M1 → g_X9_here M R) → (∀ R : Int32 → ZS → Prop, R w M2 → g_X9_numeral (nI 7) M1 R) → (∀ k, k ≠ 22 → k ≠ 23 → M2 k = M k) → (∀ k, k ≠ 22 → M1 k = M k) → ((M2 23 0 = 0 ∧ D w ∧ JT f len lo S' (zst (zst M2 23 0 1) 22 0 (M1 22 0)) ∧ S' 6 0 = 1) ∨ ((M2 23 0 = 0 → ¬ D w) ∧ JT f len lo S' M2 ∧ (S' 6 0 = 0 → M2 23 0 = 0 ∧ v = w ∧ ¬ D w ∧ ∃ k, k < 8 ∧ w = nI k))) → Q v S') : (S 2 0 = 2 → D (S 5 0) → g_X6_take 2 8 (zst S 6 0 1) Q) ∧ ((S 2 0 = 2 → ¬ D (S 5 0)) → g_X6_take 2 8 S Q) := by
  obtain ⟨-, h23, p, q, h22, hlo, hpq, hq, hb, hn, tk⟩ := JT_po t h6
  have hl := t.1.1.1
  have hh : ∃ c, ∀ R : Int32 → ZS → Prop, R c (zst M 22 0 (nI q)) → g_X9_here M R := by
    by_cases w : q < len
    · exact ⟨f q, fun R hR => here_rn hl hpq hq hb hn t.1.2.2.2.1 t.1.2.2.2.2 h22 _ (fun _ => hR) (fun z => absurd w z)⟩
    · exact ⟨-1, fun R hR => here_rn hl hpq hq hb hn t.1.2.2.2.1 t.1.2.2.2.2 h22 _ (fun z => absurd z w) (fun _ => hR)⟩
  obtain ⟨c, hc⟩ := hh
  have t1 : JT f len lo S (zst M 22 0 (nI q)) := ⟨TX_M (zs_ne _ _ _ (by decide)) (zs_ne _ _ _ (by decide)) t.1, Or.inl ⟨h6, by rw [zs_ne _ _ _ (by decide)]; exact h23, q, q, zs_at _ _ _ _, by omega, Nat.le_refl _, hq, fun i a b => absurd a (by omega), hn, tk⟩⟩
  have fr1 : ∀ k, k ≠ 22 → zst M 22 0 (nI q) k = M k := fun k hk => zs_ne _ _ _ hk
  refine ⟨fun h2 hD => ?_, fun hD => ?_⟩
  · obtain ⟨w, M2, run, fr, alt⟩ := j_numx (B := 8) (by omega) (by omega) t1
    have fr2 : ∀ k, k ≠ 22 → k ≠ 23 → M2 k = M k := fun k a b => (fr k a b).trans (fr1 k a)
    rcases alt with ⟨-, -, h5, k, e, hk, ew, he, hlo', h4, m22, m23⟩ | ⟨-, hno, m23, q', hq31, h3, m22⟩ | ⟨hx, -⟩
    · refine below_stuck _ _ (by rw [zs_at]; decide) _ (hQ _ _ w c _ M2 hc run fr2 fr1 (Or.inl ⟨m23, by rw [← h5]; exact hD, ?_, by rw [zs_at]⟩))
      rw [zs_zs]
      refine j_stuck (q := q) (by omega) t.1 tk.1 ?_ ?_ ?_ ?_
      · rw [zs_ne _ _ _ (by decide), zs_ne _ _ _ (by decide)]; exact fr2 0 (by decide) (by decide)
      · rw [zs_ne _ _ _ (by decide), zs_ne _ _ _ (by decide)]; exact fr2 1 (by decide) (by decide)
      · rw [zs_at, zs_at]
      · rw [zs_ne _ _ _ (by decide), zs_at]
    · refine below_stuck _ _ (by rw [zs_at]; decide) _ (hQ _ _ w c _ M2 hc run fr2 fr1 (Or.inr ⟨fun y => absurd (m23.symm.trans y) (by decide), ?_, fun y => ?_⟩))
      · rw [zs_zs]
        exact j_stuck hq31 t.1 h3 (fr2 0 (by decide) (by decide)) (fr2 1 (by decide) (by decide)) m22 m23
      · rw [zs_at] at y
        exact absurd y (by decide)
    · exact absurd (hx.1.symm.trans h6) (by decide)
  · refine j_below (B := 8) (by omega) (by omega) t1 _ (fun v S' w M2 run jt fr st => ?_)
    have fr2 : ∀ k, k ≠ 22 → k ≠ 23 → M2 k = M k := fun k a b => (fr k a b).trans (fr1 k a)
    rcases JT_st jt with ⟨z, po⟩ | ⟨z, px⟩
    · obtain ⟨-, e, ⟨k2, k5⟩, k, hk, ek⟩ := st z
      have nD : ¬ D w := by rw [← k5]; exact hD k2
      exact hQ _ _ w c _ M2 hc run fr2 fr1 (Or.inr ⟨fun _ => nD, JT_mono (by omega) jt, fun _ => ⟨po.2.1, e, nD, k, hk, ek⟩⟩)
    · exact hQ _ _ w c _ M2 hc run fr2 fr1 (Or.inr ⟨fun y => absurd (px.2.1.symm.trans y) (by decide), JT_mono (by omega) jt, fun y => absurd (z.symm.trans y) (by decide)⟩)
theorem j_q (t : JT f len lo S M) (d : DR T M F nN nB c) (hc : c + 1 = nB) (Q : ZS → ZS → Prop) (hQ : IT f len lo M (fun R => g_X9_readsEnd 113 M R) Q) : g_X3_readChoice S T (fun S' T' => G_X3_readItem_177 Q S' T') := by
  obtain ⟨d1, d2, d3, d4, d5, d6⟩ := d.1
  unfold g_X3_readChoice
  refine endBlock_sp 1 d1 hc d5 _ ?_
  have cc := nI_clamp (n := c) (by omega)
  have c2 := nI_clamp (n := 2 * c) (by omega)
  have c21 := nI_clamp (n := 2 * c + 1) (by omega)
  have n2 : (2 : Int32) * nI c = nI (2 * c) := by rw [show (2 : Int32) = nI 2 from rfl, pk_mul]
  have e1 : nI nB - 1 = nI c := by rw [show (1 : Int32) = nI 1 from rfl, pk_sub (by omega)]; congr 1; omega
  have hv : vp_in (nI c) 8 := vp_in_nI (by omega) (by omega)
  have w0 : vp_in (nI (2 * c)) 16 := vp_in_nI (by omega) (by omega)
  have w01 : vp_in (nI (2 * c + 1)) 16 := vp_in_nI (by omega) (by omega)
  have y0 : vp_in (nI (96 + 2 * c)) 112 := vp_in_nI (by omega) (by omega)
  have y1 : vp_in (nI (96 + 2 * c + 1)) 112 := vp_in_nI (by omega) (by omega)
  have k0 := nI_clamp (n := 96 + 2 * c) (by omega)
  have k1 := nI_clamp (n := 96 + 2 * c + 1) (by omega)
  refine j_below (B := 24) (by omega) (by omega) (JT_put (k := 36) c 1 (by decide) t) _ (fun v1 S1 w1 M2 nr1 jt1 fr1 st1 => ?_)
  simp only [forall_eq, cc]
  refine ⟨hv, ?_⟩
  refine j_below (B := 8) (by omega) (by omega) (JT_put (k := 37) c w1 (by decide) jt1) _ (fun v2 S2 w2 M4 nr2 jt2 fr2 st2 => ?_)
  -- the reference up to here
  have upto : ∀ R : ZS → Prop, (∀ M5, M5 = zst (zst M4 38 (96 + 2 * c) w2) 38 (96 + (2 * c + 1)) (-9) → ((((M5 23 0) = 0) → g_X9_here M5 (fun r_6 S0_5 => g_X9_numeral 7 S0_5 (fun r_8 S0_7 => ((((S0_7 23 0) = 0) → vp_in (96 + (2 * nI c)) 112 ∧ ((((r_8 = (S0_7 38 (96 + (2 * nI c)).toNatClampNeg)) → ∀ S0_11, S0_11 = zst S0_7 23 0 1 → ∀ S0_12, S0_12 = zst S0_11 22 0 (S0_5 22 0) → G_X9_readsEnd_164 113 R (nI c) r_8 S0_12) ∧ (¬ r_8 = (S0_7 38 (96 + (2 * nI c)).toNatClampNeg) → G_X9_readsEnd_164 113 R (nI c) r_8 S0_7)))) ∧ (¬ (S0_7 23 0) = 0 → G_X9_readsEnd_164 113 R (nI c) r_8 S0_7))))) ∧ (¬ (M5 23 0) = 0 → G_X9_readsEnd_179 113 R M5))) → g_X9_readsEnd 113 M R := by
    intro R hR
    unfold g_X9_readsEnd G_X9_readsEnd_33 G_X9_readsEnd_56
    simp only [forall_eq, d3, e1, cc]
    refine ⟨fun y => absurd y (by decide), fun _ => ⟨fun _ => ⟨hv, fun y => absurd y (by decide), fun _ => nr1 _ ⟨hv, fun y => absurd y (by decide), fun _ => nr2 _ ?_⟩⟩, fun y => (y (by trivial)).elim⟩⟩
    unfold G_X9_readsEnd_84
    simp only [forall_eq]
    have := hR _ rfl
    refine ⟨by rw [x96]; exact y0, by rw [x96, nI_1]; exact y1, fun _ => ?_, fun y => (y (by trivial)).elim⟩
    rw [x96, nI_1, k0, k1]
    rw [x96, k0] at this
    simp only [forall_eq] at this
    exact this
  have f5 : ∀ k, k ≠ 22 → k ≠ 23 → k ≠ 36 → k ≠ 37 → k ≠ 38 → zst (zst M4 38 (96 + 2 * c) w2) 38 (96 + (2 * c + 1)) (-9) k = M k := fun k h1 h2 h3 h4 h5 => by
    rw [zs_ne _ _ _ h5, zs_ne _ _ _ h5, fr2 k h1 h2, zs_ne _ _ _ h4, fr1 k h1 h2, zs_ne _ _ _ h3]
  have f5a : ∀ k j, (k = 36 ∨ k = 37) → j ≠ c → zst (zst M4 38 (96 + 2 * c) w2) 38 (96 + (2 * c + 1)) (-9) k j = M k j := fun k j h1 h2 => by
    rw [zs_ne _ _ _ (by omega), zs_ne _ _ _ (by omega), fr2 k (by omega) (by omega)]
    by_cases q : k = 37
    · subst q; rw [zs_ni _ _ _ h2, fr1 37 (by decide) (by decide), zs_ne _ _ _ (by decide)]
    · rw [zs_ne _ _ _ q, show k = 36 by omega, fr1 36 (by decide) (by decide), zs_ni _ _ _ h2]
  have f5b : ∀ j, j ≠ 96 + 2 * c → j ≠ 96 + (2 * c + 1) → zst (zst M4 38 (96 + 2 * c) w2) 38 (96 + (2 * c + 1)) (-9) 38 j = M 38 j := fun j h1 h2 => by
    rw [zs_ni _ _ _ h2, zs_ni _ _ _ h1, fr2 38 (by decide) (by decide), zs_ne _ _ _ (by decide), fr1 38 (by decide) (by decide), zs_ne _ _ _ (by decide)]
  have g36 : zst (zst M4 38 (96 + 2 * c) w2) 38 (96 + (2 * c + 1)) (-9) 36 c = 1 := by
    rw [zs_ne _ _ _ (by decide), zs_ne _ _ _ (by decide), fr2 36 (by decide) (by decide), zs_ne _ _ _ (by decide), fr1 36 (by decide) (by decide), zs_at]
  have g37 : zst (zst M4 38 (96 + 2 * c) w2) 38 (96 + (2 * c + 1)) (-9) 37 c = w1 := by
    rw [zs_ne _ _ _ (by decide), zs_ne _ _ _ (by decide), fr2 37 (by decide) (by decide), zs_at]
  have g38 : zst (zst M4 38 (96 + 2 * c) w2) 38 (96 + (2 * c + 1)) (-9) 38 (96 + 2 * c) = w2 := by
    rw [zs_ni _ _ _ (by omega), zs_at]
  have jt5 : JT f len lo S2 (zst (zst M4 38 (96 + 2 * c) w2) 38 (96 + (2 * c + 1)) (-9)) := JT_put _ _ (by decide) (JT_put _ _ (by decide) (JT_mono (by omega) jt2))
  have up2 := fun R h => upto R (fun M5 e => by subst e; exact h)
  clear upto
  generalize zst (zst M4 38 (96 + 2 * c) w2) 38 (96 + (2 * c + 1)) (-9) = M5 at f5 f5a f5b g36 g37 g38 jt5 up2
  rcases JT_st jt5 with ⟨z, po⟩ | ⟨z, px⟩
  · obtain ⟨z1, e2, -, kk2, hk2, ek2⟩ := st2 z
    obtain ⟨z0, e1', -, kk1, hk1, ek1⟩ := st1 z1
    have ju := j_uniq (fun x => x = v2) jt5 z (fun r_3 S0_2 => vp_in ((2 * nI c) + 1) 16 ∧ (∀ S1_4, S1_4 = zst (zst (zst (zst T 13 c 1) 14 c v1) 15 (2 * c) v2) 15 ((2 * nI c) + 1).toNatClampNeg r_3 → G_X3_readItem_177 Q S0_2 S1_4)) (fun v3 S3 w3 cc' M6 M7 hh hnum fr7 fr6 alt => ?_)
    · unfold G_X3_readChoice_48
      simp only [forall_eq, n2, c2]
      rw [n2] at ju
      simp only [forall_eq] at ju
      refine ⟨fun y2 => ⟨fun y5 => ⟨w0, ju.1 y2 y5⟩, fun y5 => ⟨w0, ju.2 (fun _ => y5)⟩⟩, fun y2 => ⟨w0, ju.2 (fun y => absurd y y2)⟩⟩
    · have m5z := po.2.1
      rw [n2, nI_1, c21]
      simp only [forall_eq]
      refine ⟨w01, ?_⟩
      have r164 : ∀ (M8 : ZS) (R : ZS → Prop), g_X9_closes (zst (zst M8 38 (96 + (2 * c + 1)) w3) 26 0 0) R → G_X9_readsEnd_164 113 R (nI c) w3 M8 := by
        intro M8 R hR
        unfold G_X9_readsEnd_164 G_X9_readsEnd_179
        rw [x96, nI_1, k1]
        simp only [forall_eq]
        exact ⟨y1, hR⟩
      have m7c : M7 38 (96 + 2 * c) = v2 := by rw [fr7 38 (by decide) (by decide), g38, e2]
      rcases alt with ⟨a23, aD, ajt, a6⟩ | ⟨aD, ajt, aopen⟩
      · refine it_close (M1 := zst (zst (zst (zst M7 23 0 1) 22 0 (M6 22 0)) 38 (96 + (2 * c + 1)) w3) 26 0 0) (JT_put _ _ (by decide) (JT_put _ _ (by decide) ajt)) (fun k hk => ?_) (fun R hR => ?_) (fun y => absurd (a6.symm.trans y) (by decide)) hQ
        · rw [zs_ne _ _ _ (by omega), zs_ne _ _ _ (by omega), zs_ne _ _ _ (by omega), zs_ne _ _ _ (by omega), fr7 k (by omega) (by omega)]
          exact f5 k (by omega) (by omega) (by omega) (by omega) (by omega)
        · refine up2 R ⟨fun _ => hh _ (hnum _ ⟨fun _ => ?_, fun y => absurd a23 y⟩), fun y => absurd m5z y⟩
          rw [x96, k0, m7c]
          refine ⟨y0, fun _ => ?_, fun y => absurd aD y⟩
          simp only [forall_eq]
          exact r164 _ R hR
      · refine it_close (M1 := zst (zst M7 38 (96 + (2 * c + 1)) w3) 26 0 0) (JT_put _ _ (by decide) (JT_put _ _ (by decide) ajt)) (fun k hk => ?_) (fun R hR => ?_) (fun y => ?_) hQ
        · rw [zs_ne _ _ _ (by omega), zs_ne _ _ _ (by omega), fr7 k (by omega) (by omega)]
          exact f5 k (by omega) (by omega) (by omega) (by omega) (by omega)
        · refine up2 R ⟨fun _ => hh _ (hnum _ ⟨fun y => ?_, fun _ => r164 _ R hR⟩), fun y => absurd m5z y⟩
          rw [x96, k0, m7c]
          exact ⟨y0, fun k => absurd k (aD y), fun _ => r164 _ R hR⟩
        · obtain ⟨-, e3, nD, kk3, hk3, ek3⟩ := aopen y
          refine ⟨_, _, _, _, DR_end d hc (fun k h1 h2 h3 => ?_) (fun k j h1 h2 => ?_) (fun j h1 h2 => ?_) (fun k h0 h1 h2 h3 h4 => ?_) (fun k j h1 h2 => ?_) (fun j h1 h2 => ?_) (zs_at _ _ _ _) ⟨⟨?_, ?_, ?_, ?_⟩, Or.inr (Or.inl ⟨?_, ?_, ?_, ?_⟩)⟩⟩
          · rw [zs_ne _ _ _ h3, zs_ne _ _ _ h3, zs_ne _ _ _ h2, zs_ne _ _ _ h1]
          · rw [zs_ne _ _ _ (by omega), zs_ne _ _ _ (by omega)]
            by_cases q : k = 14
            · subst q; rw [zs_ni _ _ _ h2, zs_ne _ _ _ (by decide)]
            · rw [zs_ne _ _ _ q, show k = 13 by omega, zs_ni _ _ _ h2]
          · rw [zs_ni _ _ _ h2, zs_ni _ _ _ h1, zs_ne _ _ _ (by decide), zs_ne _ _ _ (by decide)]
          · rw [zs_ne _ _ _ h1, zs_ne _ _ _ h4, fr7 k (by omega) (by omega)]
            exact f5 k (by omega) (by omega) h2 h3 h4
          · rw [zs_ne _ _ _ (by omega), zs_ne _ _ _ (by omega), fr7 k (by omega) (by omega)]
            exact f5a k j h1 h2
          · rw [zs_ne _ _ _ (by decide), zs_ni _ _ _ h2, fr7 38 (by decide) (by decide)]
            exact f5b j h1 h2
          · rw [zs_ne _ _ _ (by decide), zs_ne _ _ _ (by decide), zs_ne _ _ _ (by decide), zs_at, zs_ne _ _ _ (by decide), zs_ne _ _ _ (by decide), fr7 36 (by decide) (by decide), g36]
          · rw [zs_ne _ _ _ (by decide), zs_ne _ _ _ (by decide), zs_at, zs_ne _ _ _ (by decide), zs_ne _ _ _ (by decide), fr7 37 (by decide) (by decide), g37]; exact e1'
          · rw [Nat.add_zero (2 * c), zs_ni _ _ _ (by omega), zs_at, zs_ne _ _ _ (by decide), zs_ni _ _ _ (by omega), m7c]
          · rw [zs_at, zs_ne _ _ _ (by decide), zs_at]; exact e3
          · rw [zs_ne _ _ _ (by decide), zs_ne _ _ _ (by decide), fr7 36 (by decide) (by decide), g36]
          · rw [zs_ne _ _ _ (by decide), zs_ne _ _ _ (by decide), fr7 37 (by decide) (by decide), g37, ek1]; exact vp_in_nI hk1 (by omega)
          · rw [Nat.add_zero (2 * c), zs_ne _ _ _ (by decide), zs_ni _ _ _ (by omega), m7c, e2, ek2]; exact vp_in_nI hk2 (by omega)
          · rw [zs_ne _ _ _ (by decide), zs_at, ek3]; exact vp_in_nI hk3 (by omega)
  · have fin : ∀ S3, S3 = S2 → G_X3_readChoice_48 (fun S' T' => G_X3_readItem_177 Q S' T') (nI c) v2 S3 (zst (zst T 13 c 1) 14 c v1) := by
      intro S3 e
      subst e
      unfold G_X3_readChoice_48
      simp only [forall_eq, n2, nI_1, c2, c21]
      refine ⟨w0, below_stuck _ _ (fun y => absurd (z.symm.trans y) (by decide)) _ ⟨w01, ?_⟩⟩
      rw [zs_self z]
      refine it_close (M1 := zst M5 26 0 0) (JT_put _ _ (by decide) jt5) (fun k hk => ?_) (fun R hR => ?_) (fun y => absurd (z.symm.trans y) (by decide)) hQ
      · rw [zs_ne _ _ _ (by omega)]
        exact f5 k (by omega) (by omega) (by omega) (by omega) (by omega)
      · refine up2 R ⟨fun y => absurd (px.2.1.symm.trans y) (by decide), fun _ => ?_⟩
        unfold G_X9_readsEnd_179
        simp only [forall_eq]
        exact hR
    exact ⟨fun _ => ⟨fun _ => fin _ (zs_self z), fun _ => fin _ rfl⟩, fun _ => fin _ rfl⟩
end ENDS
