/-! a run, as numbers; the class's Walk does it -/
def arF (E : ZS) (n : Nat) (fr : Int32) : Nat := if E 10 (3 * n + 0) = fr then 0 else if E 10 (3 * n + 1) = fr then 1 else 2
def tkF (E : ZS) (b : Nat) (fr : Int32) (v : ZR) : ZR := fun n => if (E 12 b).toNatClampNeg ≤ n ∧ n < (E 12 (b + 1)).toNatClampNeg ∧ E 4 n = 3 then v (E 11 (3 * n + arF E n fr)).toNatClampNeg else v n
def mkF (E : ZS) : Nat → Nat → ZR → Int32 × ZR
  | 0, _, v => (-9, v)
  | c + 1, n, v => if E 4 n = 2 then (if (E 6 n = 47 ∨ E 6 n = 37) ∧ v (E 8 n).toNatClampNeg = 0 then (nI n, v) else mkF E c (n + 1) (upd v n (opv (E 6 n) (v (E 7 n).toNatClampNeg) (v (E 8 n).toNatClampNeg)))) else if E 4 n = 0 then mkF E c (n + 1) (upd v n (E 16 (72 + n))) else if E 4 n = 1 then mkF E c (n + 1) (upd v n (if E 16 n = 1 then E 16 (24 + n) else E 16 (48 + n))) else mkF E c (n + 1) v
def nxF (E : ZS) (b : Nat) (v : ZR) : Nat := (E 16 (96 + (2 * b + (if E 13 b = 1 ∧ v (E 14 b).toNatClampNeg = 0 then 1 else 0)))).toNatClampNeg
def ruF (E : ZS) : Nat → Int32 → Nat → ZR → ZR → Int32 × Int32 × ZR × ZR
  | 0, _, _, v, w => (2, 0, v, w)
  | c + 1, fr, b, v, w =>
    if (mkF E ((E 12 (b + 1)).toNatClampNeg - (E 12 b).toNatClampNeg) (E 12 b).toNatClampNeg (tkF E b fr v)).1 = -9 then
      (if E 13 b = 2 then (0, (mkF E ((E 12 (b + 1)).toNatClampNeg - (E 12 b).toNatClampNeg) (E 12 b).toNatClampNeg (tkF E b fr v)).2 (E 14 b).toNatClampNeg, (mkF E ((E 12 (b + 1)).toNatClampNeg - (E 12 b).toNatClampNeg) (E 12 b).toNatClampNeg (tkF E b fr v)).2, upd w b (w b + 1))
      else ruF E c (nI b) (nxF E b (mkF E ((E 12 (b + 1)).toNatClampNeg - (E 12 b).toNatClampNeg) (E 12 b).toNatClampNeg (tkF E b fr v)).2) (mkF E ((E 12 (b + 1)).toNatClampNeg - (E 12 b).toNatClampNeg) (E 12 b).toNatClampNeg (tkF E b fr v)).2 (upd w b (w b + 1)))
    else (1, (mkF E ((E 12 (b + 1)).toNatClampNeg - (E 12 b).toNatClampNeg) (E 12 b).toNatClampNeg (tkF E b fr v)).1, (mkF E ((E 12 (b + 1)).toNatClampNeg - (E 12 b).toNatClampNeg) (E 12 b).toNatClampNeg (tkF E b fr v)).2, upd w b (w b + 1))
/-- joins have an arm for each block that goes to theirs, one; none in block 0 -/
def WJ (E : ZS) (nN nB : Nat) : Prop := (∀ n, n < nN → E 4 n = 3 → E 5 n ≠ 0) ∧ (∀ n f k, n < nN → f < nB → k < 2 → E 4 n = 3 → E 16 (96 + (2 * f + k)) = E 5 n → ∃ j, j < (E 9 n).toNatClampNeg ∧ E 10 (3 * n + j) = nI f) ∧ ∀ n i j, n < nN → i < (E 9 n).toNatClampNeg → j < (E 9 n).toNatClampNeg → E 10 (3 * n + i) = E 10 (3 * n + j) → i = j
def WE (E : ZS) (nB : Nat) : Prop := ∀ b, b < nB → (E 13 b = 0 → E 16 (96 + (2 * b + 0)) ≠ -9) ∧ (E 13 b = 1 → E 16 (96 + (2 * b + 0)) ≠ -9 ∧ E 16 (96 + (2 * b + 1)) ≠ -9)
def AJ (E : ZS) (nN b : Nat) (fr : Int32) : Prop := ∀ n, n < nN → E 4 n = 3 → E 5 n = nI b → ∃ j, j < (E 9 n).toNatClampNeg ∧ E 10 (3 * n + j) = fr
section RUNC
variable {E T U : ZS} {nN nB : Nat} {x4 : Int32}
theorem arF_eq (W : WF E nN nB) {n j : Nat} {fr : Int32} (hn : n < nN) (hj : j < (E 9 n).toNatClampNeg) (h : E 10 (3 * n + j) = fr) (hu : ∀ i, i < j → E 10 (3 * n + i) ≠ fr) : arF E n fr = j := by
  have := vi_cl (W.2.1 n hn).2.2.2.1
  unfold arF
  rcases (show j = 0 ∨ j = 1 ∨ j = 2 by omega) with rfl | rfl | rfl
  · rw [if_pos h]
  · rw [if_neg (hu 0 (by omega)), if_pos h]
  · rw [if_neg (hu 0 (by omega)), if_neg (hu 1 (by omega))]
theorem armFrom_sp (W : WF E nN nB) (C : CE T U E nN nB x4) {n : Nat} (hn : n < nN) (fr : Int32) (Q : Int32 → Prop) (h1 : ∀ k, k < (E 9 n).toNatClampNeg → E 10 (3 * n + k) = fr → (∀ i, i < k → E 10 (3 * n + i) ≠ fr) → Q (nI (3 * n + k))) (h0 : (∀ k, k < (E 9 n).toNatClampNeg → E 10 (3 * n + k) ≠ fr) → Q (-9)) : g_X4_armFrom (nI n) fr T Q := by
  have hN24 := W.1.2.2.1
  have en := nI_clamp (n := n) (by omega)
  have hv : vp_in (nI n) 24 := vp_in_nI (by omega) (by omega)
  obtain ⟨-, -, -, c8, c9, -⟩ := C.2.1 n hn
  have w9 := (W.2.1 n hn).2.2.2.1
  generalize ha : (E 9 n).toNatClampNeg = a at *
  have e9 : E 9 n = nI a := by rw [← ha]; exact vi_eq w9 (by omega)
  have ha3 : a ≤ 3 := by have := vi_cl w9; omega
  unfold g_X4_armFrom
  intro x3 hx3
  rw [three_nI] at hx3
  refine fx_all (fun p => ∃ k, k ≤ a ∧ p = nI (3 * n + k) ∧ ∀ i, i < k → E 10 (3 * n + i) ≠ fr) (fun p => 3 * n + 4 - p.toNatClampNeg) ?_ _ ⟨0, Nat.zero_le _, hx3, fun i hi => absurd hi (Nat.not_lt_zero _)⟩
  rintro X p ⟨k, hk, rfl, hno⟩ hX
  have e1 := nI_clamp (n := 3 * n + k) (by omega)
  have c2 : 3 * nI n + E 9 n = nI (3 * n + a) := by rw [three_nI, e9, nI_add]
  unfold F_X4_armFrom_4
  simp only [en, hv, true_and, c8, c2, e1, forall_eq, nI_1]
  refine ⟨fun h => ?_, fun h => ?_⟩
  · have : 3 * n + a ≤ 3 * n + k := (nI_leI (by omega) (by omega)).mp h
    exact h0 (fun i hi => hno i (by omega))
  · have hlt : k < a := by
      have := mt (nI_leI (a := 3 * n + a) (b := 3 * n + k) (by omega) (by omega)).mpr h
      omega
    rw [(c9 k hlt).1]
    refine ⟨vp_in_nI (by omega) (by omega), fun q => h1 k hlt q hno, fun q => hX _ ⟨k + 1, hlt, rfl, fun i hi => ?_⟩ ?_⟩
    · by_cases z : i = k
      · subst z; exact q
      · exact hno i (by omega)
    · show 3 * n + 4 - (nI (3 * n + (k + 1))).toNatClampNeg < _
      rw [nI_clamp (by omega), e1]; omega
/-- the walk's rows hold the numbers v, w; others are as in S -/
def HV (S : ZS) (v w : ZR) : Prop := (∀ n, n < 24 → S 2 n = v n) ∧ ∀ b, b < 8 → S 4 b = w b
theorem takeJoins_sp (W : WF E nN nB) (B : WB E nN nB) (C : CE T U E nN nB x4) {b : Nat} (hb : b < nB) {fr : Int32} (hA : AJ E nN b fr) {S : ZS} {v w : ZR} (hV : HV S v w) (Q : ZS → Prop) (hQ : ∀ S', HV S' (tkF E b fr v) w → S' 0 = S 0 → S' 1 = S 1 → Q S') : g_X7_takeJoins (nI b) fr S T Q := by
  have hN24 := W.1.2.2.1
  have hB8 := W.1.2.2.2
  have eb := nI_clamp (n := b) (by omega)
  have hvb : vp_in (nI b) 8 := vp_in_nI (by omega) (by omega)
  obtain ⟨-, -, c11, c12⟩ := C.2.2.1 b hb
  obtain ⟨b1, -, -, b4, b5, b6⟩ := B
  have h1 := b4 b hb
  have h2 := b5 (b + 1) hb
  have e12 : E 12 b = nI (E 12 b).toNatClampNeg := vi_eq (b1 b (by omega)) (by omega)
  unfold g_X7_takeJoins
  simp only [eb, hvb, true_and, forall_eq, c11, c12]
  have ht : tkF E b fr v = fun n => if (E 12 b).toNatClampNeg ≤ n ∧ n < (E 12 (b + 1)).toNatClampNeg ∧ E 4 n = 3 then v (E 11 (3 * n + arF E n fr)).toNatClampNeg else v n := rfl
  generalize tkF E b fr v = tk at *
  generalize hf : (E 12 b).toNatClampNeg = f at *
  generalize hg : (E 12 (b + 1)).toNatClampNeg = g at *
  have cg : nI f + nI (g - f) = nI g := by rw [nI_add]; congr 1; omega
  rw [e12, cg]
  -- what is brought
  refine fx_all (fun p => ∃ n S1, f ≤ n ∧ n ≤ g ∧ p = (nI g, nI n, S1) ∧ (S1 0 = S 0 ∧ S1 1 = S 1 ∧ S1 2 = S 2 ∧ S1 4 = S 4) ∧ ∀ n', f ≤ n' → n' < n → E 4 n' = 3 → S1 3 n' = v (E 11 (3 * n' + arF E n' fr)).toNatClampNeg) (fun p => 24 - p.2.1.toNatClampNeg) ?_ _ ⟨f, S, Nat.le_refl _, h1, rfl, ⟨rfl, rfl, rfl, rfl⟩, fun n' q1 q2 => by omega⟩
  rintro X p ⟨n, S1, hn1, hn2, rfl, ⟨f0, f1, f2, f4⟩, hbr⟩ hX
  have en := nI_clamp (n := n) (by omega)
  unfold F_X7_takeJoins_23
  simp only [eb, hvb, true_and, forall_eq, c11, e12, en, nI_1]
  refine ⟨fun h => ?_, fun h => ?_⟩
  · have : g ≤ n := (nI_leI (by omega) (by omega)).mp h
    refine fx_all (fun p => ∃ m S2, f ≤ m ∧ m ≤ g ∧ p = (nI g, nI m, S2) ∧ (S2 0 = S 0 ∧ S2 1 = S 1 ∧ S2 3 = S1 3 ∧ S2 4 = S 4) ∧ ∀ n', n' < 24 → S2 2 n' = if f ≤ n' ∧ n' < m ∧ E 4 n' = 3 then v (E 11 (3 * n' + arF E n' fr)).toNatClampNeg else v n') (fun p => 24 - p.2.1.toNatClampNeg) ?_ _ ⟨f, S1, Nat.le_refl _, h1, rfl, ⟨f0, f1, rfl, f4⟩, fun n' hn' => by rw [if_neg (by omega), f2]; exact hV.1 n' hn'⟩
    rintro Y p ⟨m, S2, hm1, hm2, rfl, ⟨g0, g1, g3, g4⟩, hv2⟩ hY
    have em := nI_clamp (n := m) (by omega)
    unfold F_X7_takeJoins_83
    simp only [em, forall_eq, nI_1]
    refine ⟨fun h => ?_, fun h => ?_⟩
    · have : g ≤ m := (nI_leI (by omega) (by omega)).mp h
      have hmg : m = g := by omega
      rw [hmg] at hv2
      refine hQ S2 ⟨fun n' hn' => ?_, fun b' hb' => by rw [g4]; exact hV.2 b' hb'⟩ g0 g1
      rw [hv2 n' hn', ht]
    · have hlt : m < g := by
        have := mt (nI_leI (a := g) (b := m) (by omega) (by omega)).mpr h
        omega
      have hvm : vp_in (nI m) 24 := vp_in_nI (by omega) (by omega)
      have hmm : 24 - (nI (m + 1)).toNatClampNeg < 24 - (nI m).toNatClampNeg := by rw [nI_clamp (by omega), em]; omega
      rw [(C.2.1 m (by omega)).2.1]
      refine ⟨hvm, fun k3 => ⟨hvm, hvm, hY _ ⟨m + 1, _, by omega, hlt, rfl, ⟨by rw [zs_ne _ _ _ (by decide)]; exact g0, by rw [zs_ne _ _ _ (by decide)]; exact g1, by rw [zs_ne _ _ _ (by decide)]; exact g3, by rw [zs_ne _ _ _ (by decide)]; exact g4⟩, fun n' hn' => ?_⟩ hmm⟩, fun k3 => hY _ ⟨m + 1, S2, by omega, hlt, rfl, ⟨g0, g1, g3, g4⟩, fun n' hn' => ?_⟩ hmm⟩
      · by_cases q : n' = m
        · subst q
          rw [zs_at, if_pos ⟨hm1, by omega, k3⟩, g3]
          exact hbr n' hm1 (by omega) k3
        · rw [zs_ni _ _ _ q, hv2 n' hn']
          have : (f ≤ n' ∧ n' < m ∧ E 4 n' = 3) = (f ≤ n' ∧ n' < m + 1 ∧ E 4 n' = 3) := by
            apply propext
            constructor
            · rintro ⟨a, b, c⟩; exact ⟨a, by omega, c⟩
            · rintro ⟨a, b, c⟩; exact ⟨a, by omega, c⟩
          simp only [this]
      · rw [hv2 n' hn']
        by_cases q : n' = m
        · subst q
          rw [if_neg (fun z => absurd z.2.1 (by omega)), if_neg (fun z => k3 z.2.2)]
        · have : (f ≤ n' ∧ n' < m ∧ E 4 n' = 3) = (f ≤ n' ∧ n' < m + 1 ∧ E 4 n' = 3) := by
            apply propext
            constructor
            · rintro ⟨a, b, c⟩; exact ⟨a, by omega, c⟩
            · rintro ⟨a, b, c⟩; exact ⟨a, by omega, c⟩
          simp only [this]
  · have hlt : n < g := by
      have := mt (nI_leI (a := g) (b := n) (by omega) (by omega)).mpr h
      omega
    have hnN : n < nN := by omega
    have hvn : vp_in (nI n) 24 := vp_in_nI (by omega) (by omega)
    have hm : 24 - (nI (n + 1)).toNatClampNeg < 24 - (nI n).toNatClampNeg := by rw [nI_clamp (by omega), en]; omega
    have h5 : E 5 n = nI b := (b6 n b hnN hb).mpr (by omega)
    refine armFrom_sp W C hnN fr _ (fun k hk hkf hku => ?_) (fun hno => ?_)
    · have a3 := vi_cl (W.2.1 n hnN).2.2.2.1
      obtain ⟨-, -, -, -, c9, -⟩ := C.2.1 n hnN
      have w2 := ((W.2.1 n hnN).2.2.2.2 k hk).2
      have e1 := nI_clamp (n := 3 * n + k) (by omega)
      rw [e1, (c9 k hk).2]
      refine ⟨fun z => ?_, fun _ => ⟨vp_in_nI (by omega) (by omega), vi_mono w2 hN24, hvn, hX _ ⟨n + 1, _, by omega, hlt, rfl, ⟨by rw [zs_ne _ _ _ (by decide)]; exact f0, by rw [zs_ne _ _ _ (by decide)]; exact f1, by rw [zs_ne _ _ _ (by decide)]; exact f2, by rw [zs_ne _ _ _ (by decide)]; exact f4⟩, fun n' q1 q2 k3 => ?_⟩ hm⟩⟩
      · have : ¬ nI (3 * n + k) < 0 := nI_pos (by omega)
        rw [z] at this
        exact absurd (by decide) this
      · by_cases q : n' = n
        · subst q
          rw [zs_at, f2, arF_eq W hnN hk hkf hku]
          exact hV.1 _ (by have := vi_cl w2; omega)
        · rw [zs_ni _ _ _ q]; exact hbr n' q1 (by omega) k3
    · refine ⟨fun _ => ⟨hvn, hX _ ⟨n + 1, _, by omega, hlt, rfl, ⟨by rw [zs_ne _ _ _ (by decide)]; exact f0, by rw [zs_ne _ _ _ (by decide)]; exact f1, by rw [zs_ne _ _ _ (by decide)]; exact f2, by rw [zs_ne _ _ _ (by decide)]; exact f4⟩, fun n' q1 q2 k3 => ?_⟩ hm⟩, fun z => (z (by trivial)).elim⟩
      by_cases q : n' = n
      · subst q
        obtain ⟨j, j1, j2⟩ := hA n' hnN k3 h5
        exact absurd j2 (hno j j1)
      · rw [zs_ni _ _ _ q]; exact hbr n' q1 (by omega) k3
end RUNC
