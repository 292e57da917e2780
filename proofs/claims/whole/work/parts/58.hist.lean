/-! history, on both sides -/
theorem und_cong {H H' : ZS} {i i' : Nat} (h : ∀ k, 1 ≤ k → k ≤ 4 → H' k i' = H k i) (U : ZS) : und H' i' U = und H i U := by
  unfold und
  rw [h 1 (by omega) (by omega), h 2 (by omega) (by omega), h 3 (by omega) (by omega), h 4 (by omega) (by omega)]
theorem WW_cong {E E' : ZS} {g g' : ZR} {nN nB : Nat} (h : ∀ k, k ≠ 16 → E' k = E k) (hg : ∀ e, e < 2 * nB → g' e = g e) (w : WW E g nN nB) : WW E' g' nN nB := by
  refine ⟨fun e he => by rw [hg e he]; exact w.1 e he, fun b hb => by rw [h 13 (by decide), hg (2 * b + 0) (by omega), hg (2 * b + 1) (by omega)]; exact w.2.1 b hb, fun n f k hn hf hk => by rw [h 4 (by decide), h 5 (by decide), h 9 (by decide), h 10 (by decide), hg (2 * f + k) (by omega)]; exact w.2.2 n f k hn hf hk⟩
theorem NE_cong {U : ZS} {f f' : ZR} {o o' nN nB : Nat} (hN : nN ≤ 24) (hB : nB ≤ 8) (h : ∀ j, j < 112 → f' (o' + j) = f (o + j)) (r : NE U f o nN nB) : NE U f' o' nN nB := by
  refine ⟨fun n hn => ?_, fun e he => ?_, fun n hn => ?_⟩
  · rw [h n (by omega), h (24 + n) (by omega), h (48 + n) (by omega), h (72 + n) (by omega)]
    exact r.1 n hn
  · rw [h (96 + e) (by omega)]
    exact r.2.1 e he
  · rw [h n (by omega)]
    exact r.2.2 n hn
theorem HR_cong {H H' E E' : ZS} {bk bk' : ZR} {nN nB : Nat} (hN : nN ≤ 24) (hB : nB ≤ 8) (hE : ∀ k, k ≠ 16 → E' k = E k) : ∀ (h : Nat) (U : ZS), (∀ i, i < h → ∀ k, 1 ≤ k → k ≤ 4 → H' k i = H k i) → (∀ j, j < 112 * h → bk' j = bk j) → HR H E bk nN nB h U → HR H' E' bk' nN nB h U
  | 0, _, _, _, _ => trivial
  | h + 1, U, h1, h2, r => by
    obtain ⟨a, b, c, d⟩ := r
    have hh := h1 h (by omega)
    have e := und_cong hh U
    refine ⟨?_, ?_, ?_, ?_⟩
    · rw [e]
      exact NE_cong hN hB (fun j hj => h2 _ (by omega)) a
    · exact WW_cong hE (fun e he => h2 _ (by omega)) b
    · rw [hh 1 (by omega) (by omega), hh 2 (by omega) (by omega)]
      exact c
    · rw [e]
      exact HR_cong hN hB hE h _ (fun i hi => h1 i (by omega)) (fun j hj => h2 j (by omega)) d
theorem HR_shift {H H' E E' : ZS} {bk bk' : ZR} {nN nB : Nat} (hN : nN ≤ 24) (hB : nB ≤ 8) (hE : ∀ k, k ≠ 16 → E' k = E k) : ∀ (h : Nat) (U : ZS), (∀ i, i < h → ∀ k, 1 ≤ k → k ≤ 4 → H' k i = H k (i + 1)) → (∀ j, j < 112 * h → bk' j = bk (112 + j)) → HR H E bk nN nB (h + 1) U → HR H' E' bk' nN nB h U
  | 0, _, _, _, _ => trivial
  | h + 1, U, h1, h2, r => by
    obtain ⟨a, b, c, d⟩ := r
    have hh := h1 h (by omega)
    have e := und_cong hh U
    refine ⟨?_, ?_, ?_, ?_⟩
    · rw [e]
      exact NE_cong hN hB (fun j hj => (h2 _ (by omega)).trans (congrArg bk (by omega))) a
    · exact WW_cong hE (fun e he => (h2 _ (by omega)).trans (congrArg bk (by omega))) b
    · rw [hh 1 (by omega) (by omega), hh 2 (by omega) (by omega)]
      exact c
    · rw [e]
      exact HR_shift hN hB hE h _ (fun i hi => h1 i (by omega)) (fun j hj => h2 j (by omega)) d
/-- what the class's note leaves -/
def NT (H H' U : ZS) (h k n : Nat) : Prop := H' 0 0 = nI (min h 9 + 1) ∧ (H' 1 (min h 9) = nI k ∧ H' 2 (min h 9) = nI n ∧ H' 3 (min h 9) = U 0 n ∧ (k = 0 → H' 4 (min h 9) = U 1 n) ∧ (k = 1 → H' 4 (min h 9) = U 2 n) ∧ (k = 2 → H' 4 (min h 9) = U 3 n)) ∧ (h < 10 → ∀ i, i < h → ∀ k, 1 ≤ k → k ≤ 4 → H' k i = H k i) ∧ (h = 10 → ∀ i, i < 9 → ∀ k, 1 ≤ k → k ≤ 4 → H' k i = H k (i + 1))
/-- what the reference's notes leaves -/
def NM (M M' : ZS) (h : Nat) : Prop := M' 18 0 = nI (min h 9 + 1) ∧ (∀ k, k ≠ 17 → k ≠ 18 → M' k = M k) ∧ (∀ j, j < 112 → M' 17 (112 * min h 9 + j) = M 16 j) ∧ (h < 10 → ∀ j, j < 112 * h → M' 17 j = M 17 j) ∧ (h = 10 → ∀ j, j < 1008 → M' 17 j = M 17 (112 + j))
theorem four_st (S : ZS) (a b : Nat) (k j : Nat) (h1 : 1 ≤ k) (h4 : k ≤ 4) : zst (zst (zst (zst S 1 a (S 1 b)) 2 a (S 2 b)) 3 a (S 3 b)) 4 a (S 4 b) k j = if j = a then S k b else S k j := by
  rcases (show k = 1 ∨ k = 2 ∨ k = 3 ∨ k = 4 by omega) with rfl | rfl | rfl | rfl
  · rw [zs_ne _ _ _ (by decide), zs_ne _ _ _ (by decide), zs_ne _ _ _ (by decide), zs_kk]
    unfold upd
    rfl
  · rw [zs_ne _ _ _ (by decide), zs_ne _ _ _ (by decide), zs_kk, zs_ne _ _ _ (by decide)]
    unfold upd
    rfl
  · rw [zs_ne _ _ _ (by decide), zs_kk, zs_ne _ _ _ (by decide), zs_ne _ _ _ (by decide)]
    unfold upd
    rfl
  · rw [zs_kk, zs_ne _ _ _ (by decide), zs_ne _ _ _ (by decide), zs_ne _ _ _ (by decide)]
    unfold upd
    rfl
theorem drop_sp (H : ZS) (Q : ZS → Prop) (hQ : ∀ H', H' 0 0 = nI 9 → (∀ i, i < 9 → ∀ k, 1 ≤ k → k ≤ 4 → H' k i = H k (i + 1)) → Q H') : g_X1_dropOldest H Q := by
  unfold g_X1_dropOldest
  refine fx_all (fun p => ∃ i S, 1 ≤ i ∧ i ≤ 10 ∧ p = (nI i, S) ∧ (∀ j, j + 1 < i → ∀ k, 1 ≤ k → k ≤ 4 → S k j = H k (j + 1)) ∧ ∀ j, i ≤ j → ∀ k, 1 ≤ k → k ≤ 4 → S k j = H k j) (fun p => 10 - p.1.toNatClampNeg) ?_ _ ⟨1, H, by omega, by omega, rfl, fun j hj => by omega, fun j _ k _ _ => rfl⟩
  rintro X p ⟨i, S, hi, hi2, rfl, ha, hb⟩ hX
  unfold F_X1_dropOldest_2
  simp only []
  have e := nI_clamp (n := i) (by omega)
  refine ⟨fun z => ?_, fun z => ?_⟩
  · have := (nI_leI (a := 10) (b := i) (by omega) (by omega)).mp z
    rw [forall_eq]
    refine hQ _ (zs_at _ _ _ _) (fun j hj k h1 h4 => ?_)
    rw [zs_ne _ _ _ (by omega)]
    exact ha j (by omega) k h1 h4
  · have hlt : i < 10 := by
      refine Nat.not_le.mp (fun y => z ?_)
      exact (nI_leI (a := 10) (b := i) (by omega) (by omega)).mpr y
    have em : nI i - 1 = nI (i - 1) := pk_sub (a := i) (b := 1) hi
    have e2 := nI_clamp (n := i - 1) (by omega)
    have v1 : vp_in (nI i) 10 := vp_in_nI (by omega) (by omega)
    have v2 : vp_in (nI (i - 1)) 10 := vp_in_nI (by omega) (by omega)
    simp only [em, e, e2, forall_eq, nI_1]
    refine ⟨v1, v2, v1, v2, v1, v2, v1, v2, ?_⟩
    refine hX _ ⟨i + 1, _, by omega, by omega, rfl, fun j hj k h1 h4 => ?_, fun j hj k h1 h4 => ?_⟩ (by simp only [e, nI_clamp (show i + 1 < 2 ^ 31 by omega)]; omega)
    · refine (four_st S (i - 1) i k j h1 h4).trans ?_
      by_cases q : j = i - 1
      · rw [if_pos q, hb i (Nat.le_refl _) k h1 h4, q, Nat.sub_add_cancel hi]
      · rw [if_neg q]
        exact ha j (by omega) k h1 h4
    · refine (four_st S (i - 1) i k j h1 h4).trans ?_
      rw [if_neg (by omega)]
      exact hb j (by omega) k h1 h4
theorem note13_sp (H U : ZS) {h k n : Nat} (hh : h ≤ 9) (hk : k < 4) (hn : n < 24) (hH : H 0 0 = nI h) (Q : ZS → Prop) (hQ : ∀ H', H' 0 0 = nI (h + 1) → (H' 1 h = nI k ∧ H' 2 h = nI n ∧ H' 3 h = U 0 n ∧ (k = 0 → H' 4 h = U 1 n) ∧ (k = 1 → H' 4 h = U 2 n) ∧ (k = 2 → H' 4 h = U 3 n)) → (∀ i, i < h → ∀ k, 1 ≤ k → k ≤ 4 → H' k i = H k i) → Q H') : G_X1_note_13 (nI k) (nI n) U Q H := by
  unfold G_X1_note_13 G_X1_note_140
  have e := nI_clamp (n := h) (by omega)
  have en := nI_clamp (n := n) (by omega)
  have v1 : vp_in (nI h) 10 := vp_in_nI (by omega) (by omega)
  have v2 : vp_in (nI n) 24 := vp_in_nI (by omega) (by omega)
  simp only [forall_eq, zs_ne (k := 1) (k' := 0) _ _ _ (by decide), zs_ne (k := 2) (k' := 0) _ _ _ (by decide), zs_ne (k := 3) (k' := 0) _ _ _ (by decide), zs_ne (k := 4) (k' := 0) _ _ _ (by decide), hH, e, en, nI_1]
  have fin : ∀ v : Int32, ((k = 0 → v = U 1 n) ∧ (k = 1 → v = U 2 n) ∧ (k = 2 → v = U 3 n)) → Q (zst (zst (zst (zst (zst H 1 h (nI k)) 2 h (nI n)) 3 h (U 0 n)) 4 h v) 0 0 (nI (h + 1))) := by
    intro v hv
    refine hQ _ (zs_at _ _ _ _) ⟨?_, ?_, ?_, ?_, ?_, ?_⟩ (fun i hi k h1 h4 => ?_)
    · rw [zs_ne _ _ _ (by decide), zs_ne _ _ _ (by decide), zs_ne _ _ _ (by decide), zs_ne _ _ _ (by decide), zs_at]
    · rw [zs_ne _ _ _ (by decide), zs_ne _ _ _ (by decide), zs_ne _ _ _ (by decide), zs_at]
    · rw [zs_ne _ _ _ (by decide), zs_ne _ _ _ (by decide), zs_at]
    · rw [zs_ne _ _ _ (by decide), zs_at]; exact hv.1
    · rw [zs_ne _ _ _ (by decide), zs_at]; exact hv.2.1
    · rw [zs_ne _ _ _ (by decide), zs_at]; exact hv.2.2
    · have ni : i ≠ h := by omega
      rw [zs_ne _ _ _ (by omega)]
      rcases (show k = 1 ∨ k = 2 ∨ k = 3 ∨ k = 4 by omega) with rfl | rfl | rfl | rfl
      · rw [zs_ne _ _ _ (by decide), zs_ne _ _ _ (by decide), zs_ne _ _ _ (by decide), zs_ni _ _ _ ni]
      · rw [zs_ne _ _ _ (by decide), zs_ne _ _ _ (by decide), zs_ni _ _ _ ni, zs_ne _ _ _ (by decide)]
      · rw [zs_ne _ _ _ (by decide), zs_ni _ _ _ ni, zs_ne _ _ _ (by decide), zs_ne _ _ _ (by decide)]
      · rw [zs_ni _ _ _ ni, zs_ne _ _ _ (by decide), zs_ne _ _ _ (by decide), zs_ne _ _ _ (by decide)]
  refine ⟨v1, v1, v2, v1, fun q => ⟨v2, v1, fin _ ?_⟩, fun q => ⟨v2, v1, fin _ ?_⟩, fun q => ⟨v2, v1, fin _ ?_⟩, fun q0 q1 q2 => ⟨v1, fin _ ?_⟩⟩
  · have : k = 0 := (nI_eq (by omega) (by omega)).mp q
    exact ⟨fun _ => rfl, fun z => by omega, fun z => by omega⟩
  · have : k = 1 := (nI_eq (by omega) (by omega)).mp q
    exact ⟨fun z => by omega, fun _ => rfl, fun z => by omega⟩
  · have : k = 2 := (nI_eq (by omega) (by omega)).mp q
    exact ⟨fun z => by omega, fun z => by omega, fun _ => rfl⟩
  · exact ⟨fun z => absurd (by rw [z]; rfl) q0, fun z => absurd (by rw [z]; rfl) q1, fun z => absurd (by rw [z]; rfl) q2⟩
theorem note_sp (H U : ZS) {h k n : Nat} (hh : h ≤ 10) (hk : k < 4) (hn : n < 24) (hH : H 0 0 = nI h) (Q : ZS → Prop) (hQ : ∀ H', NT H H' U h k n → Q H') : g_X1_note (nI k) (nI n) H U Q := by
  unfold g_X1_note
  refine ⟨fun z => ?_, fun z => ?_⟩
  · rw [hH] at z
    have hl : h < 10 := (nI_ltI (a := h) (b := 10) (by omega) (by omega)).mp z
    have em : min h 9 = h := by omega
    refine note13_sp H U (by omega) hk hn hH Q (fun H' a b c => hQ H' ?_)
    unfold NT
    rw [em]
    exact ⟨a, b, fun _ => c, fun y => by omega⟩
  · rw [hH] at z
    have hl : h = 10 := by
      have : ¬ h < 10 := fun y => z ((nI_ltI (a := h) (b := 10) (by omega) (by omega)).mpr y)
      omega
    subst hl
    refine drop_sp H _ (fun H1 a1 b1 => note13_sp H1 U (h := 9) (by omega) hk hn a1 Q (fun H' a b c => hQ H' ⟨a, b, fun y => by omega, fun _ i hi k h1 h4 => ?_⟩))
    rw [c i hi k h1 h4]
    exact b1 i hi k h1 h4
theorem notes36_sp (M : ZS) {h : Nat} (hh : h ≤ 9) (hM : M 18 0 = nI h) (Q : ZS → Prop) (hQ : ∀ M', M' 18 0 = nI (h + 1) → (∀ k, k ≠ 17 → k ≠ 18 → M' k = M k) → M' 17 = brF (M 16) (M 17) 0 (112 * h) 112 → Q M') : G_X9_notes_36 Q M := by
  unfold G_X9_notes_36
  rw [hM, show (112 : Int32) * nI h = nI (112 * h) from pk_mul (a := 112) (b := h)]
  refine bring_sp (a := 0) (d := 112 * h) (c := 112) (by omega) (by omega) (by omega) (by omega) _ _ _ ?_
  rw [forall_eq]
  refine hQ _ ?_ (fun k h1 h2 => ?_) ?_
  · rw [zs_at, zr_ne _ _ (by decide), hM, nI_1]
  · rw [zs_ne _ _ _ h2, zr_ne _ _ h1]
  · rw [zs_ne _ _ _ (by decide), zr_kk]
theorem notes_sp (M : ZS) {h : Nat} (hh : h ≤ 10) (hM : M 18 0 = nI h) (Q : ZS → Prop) (hQ : ∀ M', NM M M' h → Q M') : g_X9_notes M Q := by
  unfold g_X9_notes
  refine ⟨fun z => ?_, fun z => ?_⟩
  · rw [hM] at z
    have hl : h = 10 := (nI_eq (b := 10) (by omega) (by omega)).mp z
    subst hl
    refine bringA_sp (a := 112) (d := 0) (c := 1008) (by omega) (by omega) (by omega) _ _ ?_
    rw [forall_eq]
    refine notes36_sp _ (h := 9) (by omega) ?_ Q (fun M' a b c => hQ M' ⟨a, fun k h1 h2 => ?_, fun j hj => ?_, fun y => by omega, fun _ j hj => ?_⟩)
    · rw [zs_at, zr_ne _ _ (by decide), hM]
      rfl
    · rw [b k h1 h2, zs_ne _ _ _ h2, zr_ne _ _ h1]
    · rw [c]
      unfold brF
      rw [if_pos (by omega), zs_ne _ _ _ (by decide), zr_ne _ _ (by decide)]
      exact congrArg (M 16) (by omega)
    · rw [c]
      unfold brF
      rw [if_neg (by omega), zs_ne _ _ _ (by decide), zr_kk, if_pos (by omega)]
      rfl
  · rw [hM] at z
    have hl : h < 10 := by
      have : ¬ h = 10 := fun y => z (by rw [y]; rfl)
      omega
    have em : min h 9 = h := by omega
    refine notes36_sp M (by omega) hM Q (fun M' a b c => hQ M' ?_)
    unfold NM
    rw [em]
    refine ⟨a, b, fun j hj => ?_, fun _ j hj => ?_, fun y => by omega⟩
    · rw [c]
      unfold brF
      rw [if_pos (by omega)]
      congr 1
      omega
    · rw [c]
      unfold brF
      rw [if_neg (by omega)]
/-- one more is noted on both sides -/
theorem HR_push {H H' E E' U U' M M' : ZS} {nN nB h k n : Nat} (hN : nN ≤ 24) (hB : nB ≤ 8) (hh : h ≤ 10) (hE : ∀ k, k ≠ 16 → E' k = E k) (r : HR H E (M 17) nN nB h U) (ne : NE U (M 16) 0 nN nB) (ww : WW E (fun e => M 16 (96 + e)) nN nB) (nt : NT H H' U h k n) (nm : NM M M' h) (hk : k < 4) (hkn : (k = 3 ∧ n < nB) ∨ (¬ k = 3 ∧ n < nN)) (hu : und H' (min h 9) U' = U) : HR H' E' (M' 17) nN nB (min h 9 + 1) U' := by
  obtain ⟨-, ⟨n1, n2, -⟩, n3, n4⟩ := nt
  obtain ⟨-, -, m1, m2, m3⟩ := nm
  refine ⟨?_, ?_, ⟨?_, ?_⟩, ?_⟩
  · rw [hu]
    refine NE_cong hN hB (fun j hj => ?_) ne
    rw [m1 j hj, Nat.zero_add]
  · exact WW_cong hE (fun e he => m1 _ (by omega)) ww
  · rw [n1]
    exact vp_in_nI hk (by omega)
  · rw [n1, n2]
    rcases hkn with ⟨a, b⟩ | ⟨a, b⟩
    · exact Or.inl ⟨by rw [a]; rfl, vp_in_nI b (by omega)⟩
    · exact Or.inr ⟨fun z => a ((nI_eq (b := 3) (by omega) (by omega)).mp z), vp_in_nI b (by omega)⟩
  · rw [hu]
    rcases Nat.lt_or_ge h 10 with q | q
    · have em : min h 9 = h := by omega
      rw [em]
      exact HR_cong hN hB hE h U (n3 q) (m2 q) r
    · have e10 : h = 10 := by omega
      subst e10
      exact HR_shift hN hB hE 9 U (n4 rfl) (m3 rfl) r
