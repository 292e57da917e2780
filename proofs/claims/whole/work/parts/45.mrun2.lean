section RUNM
variable {E : ZS} {nN nB : Nat}
theorem HM.up {S : ZS} {v w : ZR} (h : HM S v w) (n : Nat) (x : Int32) : HM (zst S 45 n x) (upd v n x) w := by
  refine ⟨fun m hm => ?_, fun b hb => by rw [zs_ne _ _ _ (by decide)]; exact h.2 b hb⟩
  rw [zs_kk]
  unfold upd
  by_cases q : m = n
  · rw [if_pos q, if_pos q]
  · rw [if_neg q, if_neg q]; exact h.1 m hm
theorem makes_sp (W : WF E nN nB) (B : WB E nN nB) {b : Nat} (hb : b < nB) {S : ZS} {v w : ZR} (hf5 : fr5 E S) (hV : HM S v w) (Q : Int32 → ZS → Prop) (hQ : ∀ S', fr5 E S' → HM S' (mkF E ((E 12 (b + 1)).toNatClampNeg - (E 12 b).toNatClampNeg) (E 12 b).toNatClampNeg v).2 w → S' 48 = S 48 → Q (mkF E ((E 12 (b + 1)).toNatClampNeg - (E 12 b).toNatClampNeg) (E 12 b).toNatClampNeg v).1 S') : g_X9_makes (nI b) S Q := by
  have hN24 := W.1.2.2.1
  have hB8 := W.1.2.2.2
  have eb := nI_clamp (n := b) (by omega)
  have eb1 := nI_clamp (n := b + 1) (by omega)
  have hvb : vp_in (nI b) 9 := vp_in_nI (by omega) (by omega)
  have hvb1 : vp_in (nI (b + 1)) 9 := vp_in_nI (by omega) (by omega)
  obtain ⟨b1, -, -, b4, b5, b6⟩ := B
  have h1 := b4 b hb
  have h2 := b5 (b + 1) hb
  have e12 : E 12 b = nI (E 12 b).toNatClampNeg := vi_eq (b1 b (by omega)) (by omega)
  have e13 : E 12 (b + 1) = nI (E 12 (b + 1)).toNatClampNeg := vi_eq (b1 (b + 1) hb) (by omega)
  generalize hf : (E 12 b).toNatClampNeg = f at *
  generalize hg : (E 12 (b + 1)).toNatClampNeg = g at *
  generalize hR : mkF E (g - f) f v = R at *
  unfold g_X9_makes
  refine ⟨hvb, ?_⟩
  rw [forall_eq, eb, hf5 12 (by decide) (by decide) (by decide) (by decide) (by decide), e12]
  refine fx_all (fun p => ∃ n S1 v1, f ≤ n ∧ n ≤ g ∧ p = (nI n, S1) ∧ fr5 E S1 ∧ HM S1 v1 w ∧ S1 48 = S 48 ∧ mkF E (g - n) n v1 = R) (fun p => 24 - p.1.toNatClampNeg) ?_ _ ⟨f, S, v, Nat.le_refl _, h1, rfl, hf5, hV, rfl, hR⟩
  rintro X p ⟨n, S1, v1, hn1, hn2, rfl, hf1, hV1, f8, hR1⟩ hX
  have en := nI_clamp (n := n) (by omega)
  unfold F_X9_makes_7
  simp only [eb1, hvb1, en, true_and, forall_eq, nI_1, hf1 12 (by decide) (by decide) (by decide) (by decide) (by decide), e13, hf1 4 (by decide) (by decide) (by decide) (by decide) (by decide), hf1 6 (by decide) (by decide) (by decide) (by decide) (by decide), hf1 7 (by decide) (by decide) (by decide) (by decide) (by decide), hf1 8 (by decide) (by decide) (by decide) (by decide) (by decide), hf1 16 (by decide) (by decide) (by decide) (by decide) (by decide)]
  refine ⟨fun h => ?_, fun h => ?_⟩
  · have : g ≤ n := (nI_leI (by omega) (by omega)).mp h
    rw [show g - n = 0 by omega] at hR1
    have e1 : R.1 = -9 := by rw [← hR1]; rfl
    have e2 : R.2 = v1 := by rw [← hR1]; rfl
    have := hQ S1 hf1 (by rw [e2]; exact hV1) f8
    rw [e1] at this
    exact this
  · have hlt : n < g := by
      have := mt (nI_leI (a := g) (b := n) (by omega) (by omega)).mpr h
      omega
    have hnN : n < nN := by omega
    have hvn : vp_in (nI n) 24 := vp_in_nI (by omega) (by omega)
    have hm : 24 - (nI (n + 1)).toNatClampNeg < 24 - (nI n).toNatClampNeg := by rw [nI_clamp (by omega), en]; omega
    have a72 : (72 : Int32) + nI n = nI (72 + n) := by rw [show (72 : Int32) = nI 72 from rfl, nI_add]
    have a24 : (24 : Int32) + nI n = nI (24 + n) := by rw [show (24 : Int32) = nI 24 from rfl, nI_add]
    have a48 : (48 : Int32) + nI n = nI (48 + n) := by rw [show (48 : Int32) = nI 48 from rfl, nI_add]
    have a0 : (0 : Int32) + nI n = nI n := by rw [show (0 : Int32) = nI 0 from rfl, nI_add, Nat.zero_add]
    rw [a72, a24, a48, a0, nI_clamp (n := 72 + n) (by omega), nI_clamp (n := 24 + n) (by omega), nI_clamp (n := 48 + n) (by omega), en]
    have v72 : vp_in (nI (72 + n)) 112 := vp_in_nI (by omega) (by omega)
    have v24 : vp_in (nI (24 + n)) 112 := vp_in_nI (by omega) (by omega)
    have v48 : vp_in (nI (48 + n)) 112 := vp_in_nI (by omega) (by omega)
    have v0 : vp_in (nI n) 112 := vp_in_nI (by omega) (by omega)
    rw [show g - n = (g - (n + 1)) + 1 by omega] at hR1
    unfold mkF at hR1
    have put : ∀ (S2 : ZS) (x : Int32), fr5 E S2 → HM S2 v1 w → S2 48 = S 48 → mkF E (g - (n + 1)) (n + 1) (upd v1 n x) = R → X (nI (n + 1), zst S2 45 n x) := fun S2 x hf2 hV2 g8 hx => hX _ ⟨n + 1, _, upd v1 n x, by omega, hlt, rfl, fun k a1 a2 a3 a4 a5 => by rw [zs_ne _ _ _ a2]; exact hf2 k a1 a2 a3 a4 a5, hV2.up n x, by rw [zs_ne _ _ _ (by decide)]; exact g8, hx⟩ hm
    refine ⟨hvn, fun k2 => ?_, fun k2 => ⟨hvn, fun k0 => ⟨v72, hvn, put S1 _ hf1 hV1 f8 ?_⟩, fun k0 => ⟨hvn, fun k1 => ⟨v0, fun q => ⟨v24, hvn, put S1 _ hf1 hV1 f8 ?_⟩, fun q => ⟨v48, hvn, put S1 _ hf1 hV1 f8 ?_⟩⟩, fun k1 => ?_⟩⟩⟩
    · obtain ⟨w1, w2⟩ := (W.2.1 n hnN).2.2.1 k2
      have u1 := hV1.1 _ (show (E 7 n).toNatClampNeg < 24 by have := vi_cl w1; omega)
      have u2 := hV1.1 _ (show (E 8 n).toNatClampNeg < 24 by have := vi_cl w2; omega)
      rw [u1, u2]
      rw [if_pos k2] at hR1
      have fS : ∀ t : Int32, fr5 E (zst S1 44 0 t) := fun t k a1 a2 a3 a4 a5 => by rw [zs_ne _ _ _ a1]; exact hf1 k a1 a2 a3 a4 a5
      have hS : ∀ t : Int32, HM (zst S1 44 0 t) v1 w := fun t => ⟨fun m hm => by rw [zs_ne _ _ _ (by decide)]; exact hV1.1 m hm, fun b hb => by rw [zs_ne _ _ _ (by decide)]; exact hV1.2 b hb⟩
      have h8 : ∀ t : Int32, (zst S1 44 0 t) 48 = S 48 := fun t => by rw [zs_ne _ _ _ (by decide)]; exact f8
      refine ⟨hvn, hvn, vi_mono w1 hN24, hvn, vi_mono w2 hN24, doneBy_sp _ _ _ _ _ (fun t => ⟨fun z => ?_, fun _ => ?_⟩) (fun t => ⟨fun _ => ⟨hvn, put _ _ (fS 0) (hS 0) (h8 0) ?_⟩, fun z => ?_⟩)⟩
      · rw [zs_at] at z; exact absurd z (by decide)
      · unfold opt at t
        rw [if_pos t] at hR1
        have e1 : R.1 = nI n := by rw [← hR1]
        have e2 : R.2 = v1 := by rw [← hR1]
        have := hQ _ (fS 1) (by rw [e2]; exact hS 1) (h8 1)
        rw [e1] at this
        exact this
      · unfold opt at t
        rw [if_neg t] at hR1
        exact hR1
      · rw [zs_at] at z; exact (z rfl).elim
    · rw [if_neg k2, if_pos k0] at hR1; exact hR1
    · rw [if_neg k2, if_neg k0, if_pos k1, if_pos q] at hR1; exact hR1
    · rw [if_neg k2, if_neg k0, if_pos k1, if_neg q] at hR1; exact hR1
    · rw [if_neg k2, if_neg k0, if_neg k1] at hR1
      exact hX _ ⟨n + 1, S1, v1, by omega, hlt, rfl, hf1, hV1, f8, hR1⟩ hm
/-- what the reference's runs leaves -/
def RM (E S : ZS) : Prop := fr5 E S ∧ S 48 0 = (ruF E 60 (-9) 0 (fun _ => 0) (fun _ => 0)).2.1 ∧ HM S (ruF E 60 (-9) 0 (fun _ => 0) (fun _ => 0)).2.2.1 (ruF E 60 (-9) 0 (fun _ => 0) (fun _ => 0)).2.2.2
theorem runs_loop (W : WF E nN nB) (B : WB E nN nB) (V : WE E nB) (J : WJ E nN nB) (hp : 0 < nB) (S : ZS) (hf5 : fr5 E S) (h48 : S 48 0 = 0) (hV : HM S (fun _ => 0) (fun _ => 0)) (Q : Int32 → ZS → Prop) (hQ : ∀ S', RM E S' → Q (ruF E 60 (-9) 0 (fun _ => 0) (fun _ => 0)).1 S') : ∃ n, fx (F_X9_runs_54 Q) n ((-9), 0, 0, S) := by
  have hN24 := W.1.2.2.1
  have hB8 := W.1.2.2.2
  unfold RM at hQ
  generalize hR : ruF E 60 (-9) 0 (fun _ => 0) (fun _ => 0) = R at *
  refine fx_all (fun p => ∃ fr b i S1 v w, i ≤ 60 ∧ p = (fr, nI b, nI i, S1) ∧ b < nB ∧ fr5 E S1 ∧ S1 48 0 = 0 ∧ HM S1 v w ∧ AJ E nN b fr ∧ ruF E (60 - i) fr b v w = R) (fun p => 60 - p.2.2.1.toNatClampNeg) ?_ _ ⟨-9, 0, 0, S, fun _ => 0, fun _ => 0, Nat.zero_le _, rfl, hp, hf5, h48, hV, AJ_first J _, hR⟩
  rintro X p ⟨fr, b, i, S1, v, w, hi, rfl, hb, hf1, h8, hV1, hA, hR1⟩ hX
  have eb := nI_clamp (n := b) (by omega)
  have ei := nI_clamp (n := i) (by omega)
  have hv8 : vp_in (nI b) 8 := vp_in_nI (by omega) (by omega)
  unfold F_X9_runs_54
  simp only [eb, hv8, true_and, forall_eq, nI_1]
  refine ⟨fun h => ?_, fun h => ?_⟩
  · have : 60 ≤ i := (nI_leI (a := 60) (b := i) (by omega) (by omega)).mp h
    rw [show 60 - i = 0 by omega] at hR1
    unfold ruF at hR1
    have e1 : R.1 = 2 := by rw [← hR1]
    have := hQ S1 ⟨hf1, by rw [← hR1]; exact h8, by rw [← hR1]; exact hV1⟩
    rw [e1] at this
    exact this
  · have hlt : i < 60 := by
      have := mt (nI_leI (a := 60) (b := i) (by omega) (by omega)).mpr h
      omega
    have hm : 60 - (nI (i + 1)).toNatClampNeg < 60 - (nI i).toNatClampNeg := by rw [nI_clamp (by omega), ei]; omega
    rw [show 60 - i = (60 - (i + 1)) + 1 by omega] at hR1
    unfold ruF at hR1
    rw [hV1.2 b (by omega)]
    have hf2 : fr5 E (zst S1 47 b (w b + 1)) := fun k a1 a2 a3 a4 a5 => by rw [zs_ne _ _ _ a4]; exact hf1 k a1 a2 a3 a4 a5
    have hV2 : HM (zst S1 47 b (w b + 1)) v (upd w b (w b + 1)) := by
      refine ⟨fun n hn => by rw [zs_ne _ _ _ (by decide)]; exact hV1.1 n hn, fun b' hb' => ?_⟩
      rw [zs_kk]
      unfold upd
      by_cases q : b' = b
      · rw [if_pos q, if_pos q]
      · rw [if_neg q, if_neg q]; exact hV1.2 b' hb'
    refine takes_sp W B J hb hA hf2 hV2 _ (fun S3 hf3 hV3 g8 => ?_)
    refine makes_sp W B hb hf3 hV3 _ (fun S4 hf4 hV4 k8 => ?_)
    have t8 : S4 48 0 = 0 := by rw [k8, g8, zs_ne _ _ _ (by decide)]; exact h8
    generalize hmk : mkF E ((E 12 (b + 1)).toNatClampNeg - (E 12 b).toNatClampNeg) (E 12 b).toNatClampNeg (tkF E b fr v) = mk at *
    rw [hf4 13 (by decide) (by decide) (by decide) (by decide) (by decide), hf4 14 (by decide) (by decide) (by decide) (by decide) (by decide), hf4 16 (by decide) (by decide) (by decide) (by decide) (by decide)]
    have fin : ∀ x : Int32, fr5 E (zst S4 48 0 x) ∧ HM (zst S4 48 0 x) mk.2 (upd w b (w b + 1)) := fun x => ⟨fun k a1 a2 a3 a4 a5 => by rw [zs_ne _ _ _ a5]; exact hf4 k a1 a2 a3 a4 a5, fun n hn => by rw [zs_ne _ _ _ (by decide)]; exact hV4.1 n hn, fun b' hb' => by rw [zs_ne _ _ _ (by decide)]; exact hV4.2 b' hb'⟩
    refine ⟨fun y => ⟨fun h2 => ?_, fun h2 => ?_⟩, fun y => ?_⟩
    · rw [if_pos y, if_pos h2] at hR1
      have hne : E 13 b ≠ 0 := by rw [h2]; decide
      have wn := (W.2.2.1 b hb).2 hne
      have e1 : R.1 = 0 := by rw [← hR1]
      have := hQ (zst S4 48 0 (S4 45 (E 14 b).toNatClampNeg)) ⟨(fin _).1, by rw [← hR1, zs_at]; exact hV4.1 _ (by have := vi_cl wn; omega), by rw [← hR1]; exact (fin _).2⟩
      rw [e1] at this
      exact ⟨vi_mono wn hN24, this⟩
    · rw [if_pos y, if_neg h2] at hR1
      obtain ⟨hnx, k, hk, hkd, hkw⟩ := nxF_ok W V hb h2 mk.2
      have hgo : X (nI b, nI (nxF E b mk.2), nI (i + 1), S4) := hX _ ⟨nI b, nxF E b mk.2, i + 1, S4, mk.2, upd w b (w b + 1), by omega, rfl, hnx, hf4, t8, hV4, AJ_next J hb hk hkw, hR1⟩ hm
      have go : ∀ x : Int32, x = nI k → vp_in (96 + 2 * nI b + x) 112 ∧ X (nI b, E 16 (96 + 2 * nI b + x).toNatClampNeg, nI (i + 1), S4) := by
        intro x hx
        have e1 : 96 + 2 * nI b + x = nI (96 + (2 * b + k)) := by rw [hx, n96, nI_add, Nat.add_assoc]
        rw [e1, nI_clamp (by omega), hkw]
        exact ⟨vp_in_nI (by omega) (by omega), hgo⟩
      refine ⟨fun h1 => ?_, fun h1 => go 0 ?_⟩
      · have hne : E 13 b ≠ 0 := by rw [h1]; decide
        have wn := (W.2.2.1 b hb).2 hne
        rw [hV4.1 _ (show (E 14 b).toNatClampNeg < 24 by have := vi_cl wn; omega)]
        refine ⟨vi_mono wn hN24, fun q => go 1 ?_, fun q => go 0 ?_⟩
        · rw [hkd, if_pos ⟨h1, q⟩]; rfl
        · rw [hkd, if_neg (fun z => q z.2)]; rfl
      · rw [hkd, if_neg (fun q => h1 q.1)]; rfl
    · rw [if_neg y] at hR1
      have e1 : R.1 = 1 := by rw [← hR1]
      have := hQ (zst S4 48 0 mk.1) ⟨(fin _).1, by rw [← hR1, zs_at], by rw [← hR1]; exact (fin _).2⟩
      rw [e1] at this
      exact this
theorem runs_sp (W : WF E nN nB) (B : WB E nN nB) (V : WE E nB) (J : WJ E nN nB) (hp : 0 < nB) (Q : Int32 → ZS → Prop) (hQ : ∀ S', RM E S' → Q (ruF E 60 (-9) 0 (fun _ => 0) (fun _ => 0)).1 S') : g_X9_runs E Q := by
  unfold g_X9_runs
  refine fx_all (fun p => ∃ i S1, i ≤ 24 ∧ p = (nI i, S1) ∧ fr5 E S1 ∧ ∀ n, n < i → S1 45 n = 0) (fun p => 24 - p.1.toNatClampNeg) ?_ _ ⟨0, E, Nat.zero_le _, rfl, fun _ _ _ _ _ _ => rfl, fun n hn => absurd hn (Nat.not_lt_zero _)⟩
  rintro Y p ⟨i, S1, hi, rfl, hf, hz⟩ hY
  have ei := nI_clamp (n := i) (by omega)
  unfold F_X9_runs_2
  simp only [ei, nI_1, forall_eq]
  refine ⟨fun h => ?_, fun h => ?_⟩
  · have : 24 ≤ i := (nI_leI (a := 24) (b := i) (by omega) (by omega)).mp h
    refine fx_all (fun p => ∃ j S2, j ≤ 8 ∧ p = (nI j, S2) ∧ fr5 E S2 ∧ (∀ n, n < 24 → S2 45 n = 0) ∧ ∀ b, b < j → S2 47 b = 0) (fun p => 8 - p.1.toNatClampNeg) ?_ _ ⟨0, S1, Nat.zero_le _, rfl, hf, fun n hn => hz n (by omega), fun n hn => absurd hn (Nat.not_lt_zero _)⟩
    rintro Z p ⟨j, S2, hj, rfl, hf2, hz2, hb2⟩ hZ
    have ej := nI_clamp (n := j) (by omega)
    unfold F_X9_runs_23
    simp only [ej, nI_1, forall_eq]
    refine ⟨fun h => ?_, fun h => ?_⟩
    · have : 8 ≤ j := (nI_leI (a := 8) (b := j) (by omega) (by omega)).mp h
      exact runs_loop W B V J hp _ (fun k a1 a2 a3 a4 a5 => by rw [zs_ne _ _ _ a5]; exact hf2 k a1 a2 a3 a4 a5) (zs_at _ _ _ _) ⟨fun n hn => by rw [zs_ne _ _ _ (by decide)]; exact hz2 n hn, fun b hb => by rw [zs_ne _ _ _ (by decide)]; exact hb2 b (by omega)⟩ Q hQ
    · have hlt : j < 8 := by
        have := mt (nI_leI (a := 8) (b := j) (by omega) (by omega)).mpr h
        omega
      refine ⟨vp_in_nI (by omega) (by omega), hZ _ ⟨j + 1, _, hlt, rfl, fun k a1 a2 a3 a4 a5 => by rw [zs_ne _ _ _ a4]; exact hf2 k a1 a2 a3 a4 a5, fun n hn => by rw [zs_ne _ _ _ (by decide)]; exact hz2 n hn, fun b hb => ?_⟩ ?_⟩
      · by_cases q : b = j
        · subst q; rw [zs_at]
        · rw [zs_ni _ _ _ q]; exact hb2 b (by omega)
      · show 8 - (nI (j + 1)).toNatClampNeg < 8 - (nI j).toNatClampNeg
        rw [nI_clamp (by omega), ej]; omega
  · have hlt : i < 24 := by
      have := mt (nI_leI (a := 24) (b := i) (by omega) (by omega)).mpr h
      omega
    refine ⟨vp_in_nI (by omega) (by omega), hY _ ⟨i + 1, _, hlt, rfl, fun k a1 a2 a3 a4 a5 => by rw [zs_ne _ _ _ a2]; exact hf k a1 a2 a3 a4 a5, fun n hn => ?_⟩ ?_⟩
    · by_cases q : n = i
      · subst q; rw [zs_at]
      · rw [zs_ni _ _ _ q]; exact hz n (by omega)
    · show 24 - (nI (i + 1)).toNatClampNeg < 24 - (nI i).toNatClampNeg
      rw [nI_clamp (by omega), ei]; omega
end RUNM
