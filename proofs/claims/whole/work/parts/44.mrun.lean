/-! the reference's runs: the same numbers -/
def fr5 (E S : ZS) : Prop := ∀ k, k ≠ 44 → k ≠ 45 → k ≠ 46 → k ≠ 47 → k ≠ 48 → S k = E k
theorem fr5.tr {E S S' : ZS} (h : fr5 E S) (h' : fr5 S S') : fr5 E S' := fun k a b c d e => (h' k a b c d e).trans (h k a b c d e)
def HM (S : ZS) (v w : ZR) : Prop := (∀ n, n < 24 → S 45 n = v n) ∧ ∀ b, b < 8 → S 47 b = w b
section RUNM
variable {E : ZS} {nN nB : Nat}
theorem takes_sp (W : WF E nN nB) (B : WB E nN nB) (J : WJ E nN nB) {b : Nat} (hb : b < nB) {fr : Int32} (hA : AJ E nN b fr) {S : ZS} {v w : ZR} (hf5 : fr5 E S) (hV : HM S v w) (Q : ZS → Prop) (hQ : ∀ S', fr5 E S' → HM S' (tkF E b fr v) w → S' 48 = S 48 → Q S') : g_X9_takes (nI b) fr S Q := by
  have hN24 := W.1.2.2.1
  have hB8 := W.1.2.2.2
  have eb := nI_clamp (n := b) (by omega)
  have eb1 := nI_clamp (n := b + 1) (by omega)
  have hvb : vp_in (nI b) 9 := vp_in_nI (by omega) (by omega)
  have hvb1 : vp_in (nI (b + 1)) 9 := vp_in_nI (by omega) (by omega)
  obtain ⟨b1, -, -, b4, b5, b6⟩ := B
  have h1 := b4 b hb
  have h2 := b5 (b + 1) hb
  have e12 : E 12 b = nI (E 12 b).toNatClampNeg := vi_eq (b1 b (by omega)) (by omega)
  have e13 : E 12 (b + 1) = nI (E 12 (b + 1)).toNatClampNeg := vi_eq (b1 (b + 1) hb) (by omega)
  have ht : tkF E b fr v = fun n => if (E 12 b).toNatClampNeg ≤ n ∧ n < (E 12 (b + 1)).toNatClampNeg ∧ E 4 n = 3 then v (E 11 (3 * n + arF E n fr)).toNatClampNeg else v n := rfl
  generalize tkF E b fr v = tk at *
  generalize hf : (E 12 b).toNatClampNeg = f at *
  generalize hg : (E 12 (b + 1)).toNatClampNeg = g at *
  unfold g_X9_takes
  refine ⟨hvb, ?_⟩
  rw [forall_eq, eb, hf5 12 (by decide) (by decide) (by decide) (by decide) (by decide), e12]
  refine fx_all (fun p => ∃ n S1, f ≤ n ∧ n ≤ g ∧ p = (nI n, S1) ∧ fr5 E S1 ∧ (S1 45 = S 45 ∧ S1 47 = S 47 ∧ S1 48 = S 48) ∧ ∀ n', f ≤ n' → n' < n → E 4 n' = 3 → S1 46 n' = v (E 11 (3 * n' + arF E n' fr)).toNatClampNeg) (fun p => 24 - p.1.toNatClampNeg) ?_ _ ⟨f, S, Nat.le_refl _, h1, rfl, hf5, ⟨rfl, rfl, rfl⟩, fun n' q1 q2 => by omega⟩
  rintro X p ⟨n, S1, hn1, hn2, rfl, hf1, ⟨f5, f7, f8⟩, hbr⟩ hX
  have en := nI_clamp (n := n) (by omega)
  unfold F_X9_takes_7
  simp only [eb, eb1, hvb, hvb1, true_and, forall_eq, nI_1, hf1 12 (by decide) (by decide) (by decide) (by decide) (by decide), e12, e13]
  refine ⟨fun h => ?_, fun h => ?_⟩
  · have : g ≤ n := (nI_leI (by omega) (by omega)).mp h
    refine fx_all (fun p => ∃ m S2, f ≤ m ∧ m ≤ g ∧ p = (nI m, S2) ∧ fr5 E S2 ∧ (S2 46 = S1 46 ∧ S2 47 = S 47 ∧ S2 48 = S 48) ∧ ∀ n', n' < 24 → S2 45 n' = if f ≤ n' ∧ n' < m ∧ E 4 n' = 3 then v (E 11 (3 * n' + arF E n' fr)).toNatClampNeg else v n') (fun p => 24 - p.1.toNatClampNeg) ?_ _ ⟨f, S1, Nat.le_refl _, h1, rfl, hf1, ⟨rfl, f7, f8⟩, fun n' hn' => by rw [if_neg (by omega), f5]; exact hV.1 n' hn'⟩
    rintro Y p ⟨m, S2, hm1, hm2, rfl, hf2, ⟨g6, g7, g8⟩, hv2⟩ hY
    have em := nI_clamp (n := m) (by omega)
    unfold F_X9_takes_89
    simp only [eb1, hvb1, em, true_and, forall_eq, nI_1, hf2 12 (by decide) (by decide) (by decide) (by decide) (by decide), hf2 4 (by decide) (by decide) (by decide) (by decide) (by decide), e13]
    refine ⟨fun h => ?_, fun h => ?_⟩
    · have : g ≤ m := (nI_leI (by omega) (by omega)).mp h
      have hmg : m = g := by omega
      rw [hmg] at hv2
      refine hQ S2 hf2 ⟨fun n' hn' => ?_, fun b' hb' => by rw [g7]; exact hV.2 b' hb'⟩ g8
      rw [hv2 n' hn', ht]
    · have hlt : m < g := by
        have := mt (nI_leI (a := g) (b := m) (by omega) (by omega)).mpr h
        omega
      have hvm : vp_in (nI m) 24 := vp_in_nI (by omega) (by omega)
      have hmm : 24 - (nI (m + 1)).toNatClampNeg < 24 - (nI m).toNatClampNeg := by rw [nI_clamp (by omega), em]; omega
      have put : ∀ x : Int32, (x = if E 4 m = 3 then v (E 11 (3 * m + arF E m fr)).toNatClampNeg else v m) → Y (nI (m + 1), zst S2 45 m x) := by
        intro x hx
        refine hY _ ⟨m + 1, _, by omega, hlt, rfl, fun k a1 a2 a3 a4 a5 => by rw [zs_ne _ _ _ a2]; exact hf2 k a1 a2 a3 a4 a5, ⟨by rw [zs_ne _ _ _ (by decide)]; exact g6, by rw [zs_ne _ _ _ (by decide)]; exact g7, by rw [zs_ne _ _ _ (by decide)]; exact g8⟩, fun n' hn' => ?_⟩ hmm
        by_cases q : n' = m
        · subst q
          rw [zs_at, hx]
          by_cases k3 : E 4 n' = 3
          · rw [if_pos k3, if_pos ⟨hm1, by omega, k3⟩]
          · rw [if_neg k3, if_neg (fun z => k3 z.2.2)]
        · rw [zs_ni _ _ _ q, hv2 n' hn']
          have : (f ≤ n' ∧ n' < m ∧ E 4 n' = 3) = (f ≤ n' ∧ n' < m + 1 ∧ E 4 n' = 3) := by
            apply propext
            constructor
            · rintro ⟨a, b, c⟩; exact ⟨a, by omega, c⟩
            · rintro ⟨a, b, c⟩; exact ⟨a, by omega, c⟩
          simp only [this]
      refine ⟨hvm, fun k3 => ⟨hvm, hvm, put _ ?_⟩, fun k3 => ⟨hvm, hvm, put _ ?_⟩⟩
      · rw [if_pos k3, g6]; exact hbr m hm1 (by omega) k3
      · rw [if_neg k3, hv2 m (by omega), if_neg (fun z => absurd z.2.1 (by omega))]
  · have hlt : n < g := by
      have := mt (nI_leI (a := g) (b := n) (by omega) (by omega)).mpr h
      omega
    have hnN : n < nN := by omega
    have hvn : vp_in (nI n) 24 := vp_in_nI (by omega) (by omega)
    have hm : 24 - (nI (n + 1)).toNatClampNeg < 24 - (nI n).toNatClampNeg := by rw [nI_clamp (by omega), en]; omega
    have h5 : E 5 n = nI b := (b6 n b hnN hb).mpr (by omega)
    have w9 := (W.2.1 n hnN).2.2.2.1
    have wA := (W.2.1 n hnN).2.2.2.2
    have J3 := J.2.2 n
    generalize ha : (E 9 n).toNatClampNeg = a at *
    have e9 : E 9 n = nI a := by rw [← ha]; exact vi_eq w9 (by omega)
    have ha3 : a ≤ 3 := by have := vi_cl w9; omega
    refine fx_all (fun p => ∃ k S2, k ≤ a ∧ p = (nI n, nI k, S2) ∧ fr5 E S2 ∧ (S2 45 = S 45 ∧ S2 47 = S 47 ∧ S2 48 = S 48) ∧ (∀ n', n' ≠ n → S2 46 n' = S1 46 n') ∧ ∀ j, j < k → E 10 (3 * n + j) = fr → S2 46 n = v (E 11 (3 * n + j)).toNatClampNeg) (fun p => 4 - p.2.1.toNatClampNeg) ?_ _ ⟨0, S1, Nat.zero_le _, rfl, hf1, ⟨f5, f7, f8⟩, fun _ _ => rfl, fun j hj => absurd hj (Nat.not_lt_zero _)⟩
    rintro Y p ⟨k, S2, hk, rfl, hf2, ⟨g5, g7, g8⟩, ho, hj2⟩ hY
    have ek := nI_clamp (n := k) (by omega)
    have ee : 3 * nI n + nI k = nI (3 * n + k) := by rw [three_nI, nI_add]
    have e1 := nI_clamp (n := 3 * n + k) (by omega)
    unfold F_X9_takes_22
    simp only [en, hvn, true_and, forall_eq, nI_1, hf2 9 (by decide) (by decide) (by decide) (by decide) (by decide), hf2 10 (by decide) (by decide) (by decide) (by decide) (by decide), hf2 11 (by decide) (by decide) (by decide) (by decide) (by decide), e9, ee, e1]
    refine ⟨fun h => ?_, fun h => ?_⟩
    · have : a ≤ k := (nI_leI (by omega) (by omega)).mp h
      refine hX _ ⟨n + 1, S2, by omega, hlt, rfl, hf2, ⟨g5, g7, g8⟩, fun n' q1 q2 k3 => ?_⟩ hm
      by_cases q : n' = n
      · subst q
        obtain ⟨j, j1, j2⟩ := hA n' hnN k3 h5
        rw [ha] at j1
        have hj := hj2 j (by omega) j2
        rw [hj]
        have : arF E n' fr = j := arF_eq W hnN (by rw [ha]; exact j1) j2 (fun i hi z => absurd (J3 i j hnN (by omega) j1 (z.trans j2.symm)) (by omega))
        rw [this]
      · rw [ho n' q]; exact hbr n' q1 (by omega) k3
    · have hlt2 : k < a := by
        have := mt (nI_leI (a := a) (b := k) (by omega) (by omega)).mpr h
        omega
      have hv2 : vp_in (nI (3 * n + k)) 72 := vp_in_nI (by omega) (by omega)
      have hm2 : 4 - (nI (k + 1)).toNatClampNeg < 4 - (nI k).toNatClampNeg := by rw [nI_clamp (by omega), ek]; omega
      obtain ⟨w1, w2⟩ := wA k hlt2
      refine ⟨hv2, fun q => ⟨hv2, vi_mono w2 hN24, hY _ ⟨k + 1, _, hlt2, rfl, fun k a1 a2 a3 a4 a5 => by rw [zs_ne _ _ _ a3]; exact hf2 k a1 a2 a3 a4 a5, ⟨by rw [zs_ne _ _ _ (by decide)]; exact g5, by rw [zs_ne _ _ _ (by decide)]; exact g7, by rw [zs_ne _ _ _ (by decide)]; exact g8⟩, fun n' hn' => by rw [zs_ni _ _ _ hn']; exact ho n' hn', fun j hj hjf => ?_⟩ hm2⟩, fun q => hY _ ⟨k + 1, S2, hlt2, rfl, hf2, ⟨g5, g7, g8⟩, ho, fun j hj hjf => ?_⟩ hm2⟩
      · have : j = k := J3 j k hnN (by omega) hlt2 (hjf.trans q.symm)
        subst this
        rw [zs_at, g5]
        exact hV.1 _ (by have := vi_cl w2; omega)
      · by_cases z : j = k
        · subst z; exact absurd hjf q
        · exact hj2 j (by omega) hjf
end RUNM
