/-! the two drafts -/
def NR (T M : ZS) (n : Nat) : Prop :=
  ((T 2 n = M 28 n ∧ vp_in (M 28 n) 8) ∧ (T 3 n = M 27 n ∧ vp_in (M 27 n) 4) ∧ T 4 n = M 38 (72 + n)) ∧
  ((M 27 n = 2 → (T 5 n = M 29 n ∧ T 6 n = M 30 n ∧ T 7 n = M 31 n) ∧ vp_in (M 30 n) 24 ∧ vp_in (M 31 n) 24) ∧ (¬ M 27 n = 2 → T 6 n = -9 ∧ T 7 n = -9)) ∧
  (∃ a, T 8 n = nI a ∧ M 32 n = nI a ∧ a ≤ 3 ∧ (¬ M 27 n = 3 → a = 0) ∧ (∀ k, k < a → (T 9 (3 * n + k) = M 33 (3 * n + k) ∧ T 10 (3 * n + k) = M 34 (3 * n + k)) ∧ vp_in (M 33 (3 * n + k)) 8 ∧ vp_in (M 34 (3 * n + k)) 24) ∧
  ∀ i j, i < a → j < a → M 33 (3 * n + i) = M 33 (3 * n + j) → i = j) ∧ (M 27 n = 3 → ¬ M 28 n = 0)
def BR (T M : ZS) (F : Nat → Nat) (b : Nat) : Prop := T 11 b = nI (F b) ∧ M 35 b = nI (F b) ∧ F b ≤ F (b + 1) ∧ T 12 b = nI (F (b + 1) - F b)
def CR (T M : ZS) (b : Nat) : Prop := (T 13 b = M 36 b ∧ T 14 b = M 37 b ∧ T 15 (2 * b + 0) = M 38 (96 + (2 * b + 0)) ∧ T 15 (2 * b + 1) = M 38 (96 + (2 * b + 1))) ∧ ((M 36 b = 0 ∧ M 37 b = -9 ∧ vp_in (M 38 (96 + (2 * b + 0))) 8 ∧ M 38 (96 + (2 * b + 1)) = -9) ∨ (M 36 b = 1 ∧ vp_in (M 37 b) 24 ∧ vp_in (M 38 (96 + (2 * b + 0))) 8 ∧ vp_in (M 38 (96 + (2 * b + 1))) 8) ∨ (M 36 b = 2 ∧ vp_in (M 37 b) 24 ∧ M 38 (96 + (2 * b + 0)) = -9 ∧ M 38 (96 + (2 * b + 1)) = -9))
def OB (T : ZS) (b : Nat) : Prop := T 13 b = -1 ∧ T 14 b = -9 ∧ T 15 (2 * b + 0) = -9 ∧ T 15 (2 * b + 1) = -9
/-- what both have read: nN names, nB blocks, c of them closed -/
def DR (T M : ZS) (F : Nat → Nat) (nN nB c : Nat) : Prop :=
  (T 0 0 = nI nB ∧ T 1 0 = nI nN ∧ M 25 0 = nI nB ∧ M 24 0 = nI nN ∧ nB ≤ 8 ∧ nN ≤ 24) ∧
  (F 0 = 0 ∧ F nB = nN) ∧
  (∀ n, n < nN → NR T M n ∧ ∃ b, b < nB ∧ M 28 n = nI b ∧ F b ≤ n ∧ n < F (b + 1)) ∧
  (∀ b, b < nB → BR T M F b) ∧ (∀ b, b < c → CR T M b) ∧
  ((c = nB ∧ M 26 0 = 0) ∨ (c + 1 = nB ∧ M 26 0 = 1 ∧ OB T c ∧ ∀ n, F c ≤ n → n + 1 < nN → M 27 (n + 1) = 3 → M 27 n = 3)) ∧
  ((∀ i, i < 72 → M 38 i = 0) ∧ ∀ n, nN ≤ n → n < 24 → M 38 (72 + n) = 0)
theorem NR_cong {T T' M M' : ZS} {n : Nat} (ht : ∀ k, 2 ≤ k → k ≤ 8 → T' k n = T k n) (ht2 : ∀ k j, (k = 9 ∨ k = 10) → j < 3 → T' k (3 * n + j) = T k (3 * n + j)) (hm : ∀ k, 27 ≤ k → k ≤ 32 → M' k n = M k n) (hm2 : ∀ k j, (k = 33 ∨ k = 34) → j < 3 → M' k (3 * n + j) = M k (3 * n + j)) (h38 : M' 38 (72 + n) = M 38 (72 + n)) (r : NR T M n) : NR T' M' n := by
  unfold NR
  rw [ht 2 (by decide) (by decide), ht 3 (by decide) (by decide), ht 4 (by decide) (by decide), ht 5 (by decide) (by decide), ht 6 (by decide) (by decide), ht 7 (by decide) (by decide), ht 8 (by decide) (by decide), hm 27 (by decide) (by decide), hm 28 (by decide) (by decide), hm 29 (by decide) (by decide), hm 30 (by decide) (by decide), hm 31 (by decide) (by decide), hm 32 (by decide) (by decide), h38]
  obtain ⟨r1, r2, ⟨a, a1, a2, a3, a4, a5, a6⟩, r4⟩ := r
  refine ⟨r1, r2, ⟨a, a1, a2, a3, a4, fun k hk => ?_, fun i j hi hj => ?_⟩, r4⟩
  · rw [ht2 9 k (Or.inl rfl) (by omega), ht2 10 k (Or.inr rfl) (by omega), hm2 33 k (Or.inl rfl) (by omega), hm2 34 k (Or.inr rfl) (by omega)]
    exact a5 k hk
  · rw [hm2 33 i (Or.inl rfl) (by omega), hm2 33 j (Or.inl rfl) (by omega)]
    exact a6 i j hi hj
theorem DR_M {T M M' : ZS} {F : Nat → Nat} {nN nB c : Nat} (h : ∀ k, k ≠ 22 → k ≠ 23 → M' k = M k) (r : DR T M F nN nB c) : DR T M' F nN nB c := by
  unfold DR NR BR CR
  rw [h 24 (by decide) (by decide), h 25 (by decide) (by decide), h 26 (by decide) (by decide), h 27 (by decide) (by decide), h 28 (by decide) (by decide), h 29 (by decide) (by decide), h 30 (by decide) (by decide), h 31 (by decide) (by decide), h 32 (by decide) (by decide), h 33 (by decide) (by decide), h 34 (by decide) (by decide), h 35 (by decide) (by decide), h 36 (by decide) (by decide), h 37 (by decide) (by decide), h 38 (by decide) (by decide)]
  exact r
/-- a name more: what stays -/
def FT (T T' : ZS) (n c : Nat) : Prop := (∀ k, (k = 0 ∨ k = 11 ∨ k = 13 ∨ k = 14 ∨ k = 15) → T' k = T k) ∧ (∀ k j, 2 ≤ k → k ≤ 8 → j ≠ n → T' k j = T k j) ∧ (∀ k j, (k = 9 ∨ k = 10) → j < 3 * n → T' k j = T k j) ∧ T' 1 0 = nI (n + 1) ∧ T' 12 c = T 12 c + 1 ∧ ∀ j, j ≠ c → T' 12 j = T 12 j
def FQ (M M' : ZS) (n : Nat) : Prop := (∀ k, (k ≤ 21 ∨ k = 25 ∨ k = 26 ∨ k = 35 ∨ k = 36 ∨ k = 37) → M' k = M k) ∧ (∀ k j, 27 ≤ k → k ≤ 32 → j ≠ n → M' k j = M k j) ∧ (∀ k j, (k = 33 ∨ k = 34) → j < 3 * n → M' k j = M k j) ∧ (∀ j, j ≠ 72 + n → M' 38 j = M 38 j) ∧ M' 24 0 = nI (n + 1)
theorem FT_put {T T' : ZS} {n c k i : Nat} {v : Int32} (h : FT T T' n c) (hk : (2 ≤ k ∧ k ≤ 8 ∧ i = n) ∨ ((k = 9 ∨ k = 10) ∧ 3 * n ≤ i)) : FT T (zst T' k i v) n c := by
  obtain ⟨a, b, d, e, g, l⟩ := h
  refine ⟨fun k' h' => ?_, fun k' j h1 h2 h3 => ?_, fun k' j h1 h2 => ?_, ?_, ?_, fun j hj => ?_⟩
  · rw [zs_ne _ _ _ (by omega)]; exact a k' h'
  · by_cases q : k' = k
    · subst q
      rw [zs_ni _ _ _ (by omega)]; exact b k' j h1 h2 h3
    · rw [zs_ne _ _ _ q]; exact b k' j h1 h2 h3
  · by_cases q : k' = k
    · subst q
      rw [zs_ni _ _ _ (by omega)]; exact d k' j h1 h2
    · rw [zs_ne _ _ _ q]; exact d k' j h1 h2
  · rw [zs_ne _ _ _ (by omega)]; exact e
  · rw [zs_ne _ _ _ (by omega)]; exact g
  · rw [zs_ne _ _ _ (by omega)]; exact l j hj
theorem FQ_put {M M' : ZS} {n k i : Nat} {v : Int32} (h : FQ M M' n) (hk : (27 ≤ k ∧ k ≤ 32 ∧ i = n) ∨ ((k = 33 ∨ k = 34) ∧ 3 * n ≤ i) ∨ (k = 38 ∧ i = 72 + n)) : FQ M (zst M' k i v) n := by
  obtain ⟨a, b, d, e, g⟩ := h
  refine ⟨fun k' h' => ?_, fun k' j h1 h2 h3 => ?_, fun k' j h1 h2 => ?_, fun j hj => ?_, ?_⟩
  · rw [zs_ne _ _ _ (by omega)]; exact a k' h'
  · by_cases q : k' = k
    · subst q
      rw [zs_ni _ _ _ (by omega)]; exact b k' j h1 h2 h3
    · rw [zs_ne _ _ _ q]; exact b k' j h1 h2 h3
  · by_cases q : k' = k
    · subst q
      rw [zs_ni _ _ _ (by omega)]; exact d k' j h1 h2
    · rw [zs_ne _ _ _ q]; exact d k' j h1 h2
  · by_cases q : 38 = k
    · subst q
      rw [zs_ni _ _ _ (by omega)]; exact e j hj
    · rw [zs_ne _ _ _ q]; exact e j hj
  · rw [zs_ne _ _ _ (by omega)]; exact g
theorem FQ_tx {M M' M'' : ZS} {n : Nat} (h : FQ M M' n) (hk : ∀ k, k ≠ 22 → k ≠ 23 → M'' k = M' k) : FQ M M'' n := by
  obtain ⟨a, b, d, e, g⟩ := h
  refine ⟨fun k' h' => ?_, fun k' j h1 h2 h3 => ?_, fun k' j h1 h2 => ?_, fun j hj => ?_, ?_⟩
  · rw [hk _ (by omega) (by omega)]; exact a k' h'
  · rw [hk _ (by omega) (by omega)]; exact b k' j h1 h2 h3
  · rw [hk _ (by omega) (by omega)]; exact d k' j h1 h2
  · rw [hk _ (by omega) (by omega)]; exact e j hj
  · rw [hk _ (by omega) (by omega)]; exact g
section DRF
variable {T M T' M' : ZS} {F : Nat → Nat} {nN nB c : Nat}
theorem DR_name (r : DR T M F nN nB c) (hc : c + 1 = nB) (hN : nN < 24) (ft : FT T T' nN c) (fm : FQ M M' nN) (nr : NR T' M' nN) (h28 : M' 28 nN = nI c) (hj : F c < nN → M' 27 nN = 3 → M 27 (nN - 1) = 3) : DR T' M' (fun i => if i = nB then nN + 1 else F i) (nN + 1) nB c := by
  obtain ⟨⟨r1, r2, r3, r4, r5, r6⟩, ⟨f0, fN⟩, rn, rb, rc, ro, rz⟩ := r
  obtain ⟨t1, t2, t3, t4, t5, t6⟩ := ft
  obtain ⟨m1, m2, m3, m4, m5⟩ := fm
  have oldF : ∀ i, i ≠ nB → (if i = nB then nN + 1 else F i) = F i := fun i hi => if_neg hi
  have newF : (if nB = nB then nN + 1 else F nB) = nN + 1 := if_pos rfl
  refine ⟨⟨by rw [t1 0 (by omega)]; exact r1, t4, by rw [m1 25 (by omega)]; exact r3, m5, r5, hN⟩, ⟨(oldF 0 (by omega)).trans f0, newF⟩, fun n hn => ?_, fun b hb => ?_, fun b hb => ?_, Or.inr ⟨hc, ?_, ?_, fun n h1 h2 h3 => ?_⟩, fun i hi => ?_, fun n h1 h2 => ?_⟩
  · by_cases q : n = nN
    · subst q
      refine ⟨nr, c, by omega, h28, ?_, ?_⟩
      · show (if c = nB then n + 1 else F c) ≤ n
        rw [oldF c (by omega)]
        have := (rb c (by omega)).2.2.1
        rw [hc, fN] at this
        exact this
      · show n < (if c + 1 = nB then n + 1 else F (c + 1))
        rw [hc, if_pos rfl]
        omega
    · obtain ⟨o, b, b1, b2, b3, b4⟩ := rn n (by omega)
      refine ⟨NR_cong (fun k h1 h2 => t2 k n h1 h2 q) (fun k j h1 h2 => t3 k _ h1 (by omega)) (fun k h1 h2 => m2 k n h1 h2 q) (fun k j h1 h2 => m3 k _ h1 (by omega)) (m4 _ (by omega)) o, b, b1, by rw [m2 28 n (by decide) (by decide) q]; exact b2, ?_, ?_⟩
      · show (if b = nB then nN + 1 else F b) ≤ n
        rw [oldF b (by omega)]
        exact b3
      · show n < (if b + 1 = nB then nN + 1 else F (b + 1))
        by_cases z : b + 1 = nB
        · rw [if_pos z]; omega
        · rw [if_neg z]; exact b4
  · obtain ⟨b1, b2, b3, b4⟩ := rb b hb
    unfold BR
    show T' 11 b = nI (if b = nB then nN + 1 else F b) ∧ M' 35 b = nI (if b = nB then nN + 1 else F b) ∧ (if b = nB then nN + 1 else F b) ≤ (if b + 1 = nB then nN + 1 else F (b + 1)) ∧ T' 12 b = nI ((if b + 1 = nB then nN + 1 else F (b + 1)) - (if b = nB then nN + 1 else F b))
    rw [oldF b (by omega), t1 11 (by omega), m1 35 (by omega)]
    by_cases z : b + 1 = nB
    · rw [if_pos z]
      have e : b = c := by omega
      subst e
      rw [hc, fN] at b3 b4
      refine ⟨b1, b2, by omega, ?_⟩
      rw [t5, b4, nI_1]
      congr 1
      omega
    · rw [if_neg z, t6 b (by omega)]
      exact ⟨b1, b2, b3, b4⟩
  · unfold CR
    rw [t1 13 (by omega), t1 14 (by omega), t1 15 (by omega), m1 36 (by omega), m1 37 (by omega), m4 _ (by omega), m4 _ (by omega)]
    exact rc b hb
  · rcases ro with ro | ro
    · omega
    · rw [m1 26 (by omega)]
      exact ro.2.1
  · rcases ro with ro | ro
    · omega
    · unfold OB
      rw [t1 13 (by omega), t1 14 (by omega), t1 15 (by omega)]
      exact ro.2.2.1
  · rcases ro with ro | ro
    · omega
    · have h1' : (if c = nB then nN + 1 else F c) ≤ n := h1
      rw [oldF c (by omega)] at h1'
      by_cases q : n + 1 = nN
      · rw [m2 27 n (by decide) (by decide) (by omega)]
        rw [q] at h3
        have := hj (by omega) h3
        rw [show nN - 1 = n by omega] at this
        exact this
      · rw [m2 27 n (by decide) (by decide) (by omega)]
        rw [m2 27 (n + 1) (by decide) (by decide) q] at h3
        exact ro.2.2.2 n h1' (by omega) h3
  · rw [m4 _ (by omega)]
    exact rz.1 i hi
  · rw [m4 _ (by omega)]
    exact rz.2 n (by omega) h2
theorem DR_end (r : DR T M F nN nB c) (hc : c + 1 = nB) (ht : ∀ k, k ≠ 13 → k ≠ 14 → k ≠ 15 → T' k = T k) (ht1 : ∀ k j, (k = 13 ∨ k = 14) → j ≠ c → T' k j = T k j) (ht2 : ∀ j, j ≠ 2 * c → j ≠ 2 * c + 1 → T' 15 j = T 15 j) (hm : ∀ k, 24 ≤ k → k ≠ 26 → k ≠ 36 → k ≠ 37 → k ≠ 38 → M' k = M k) (hm1 : ∀ k j, (k = 36 ∨ k = 37) → j ≠ c → M' k j = M k j) (hm2 : ∀ j, j ≠ 96 + 2 * c → j ≠ 96 + (2 * c + 1) → M' 38 j = M 38 j) (h26 : M' 26 0 = 0) (cr : CR T' M' c) : DR T' M' F nN nB nB := by
  obtain ⟨⟨r1, r2, r3, r4, r5, r6⟩, ⟨f0, fN⟩, rn, rb, rc, ro, rz⟩ := r
  refine ⟨⟨by rw [ht 0 (by decide) (by decide) (by decide)]; exact r1, by rw [ht 1 (by decide) (by decide) (by decide)]; exact r2, by rw [hm 25 (by decide) (by decide) (by decide) (by decide) (by decide)]; exact r3, by rw [hm 24 (by decide) (by decide) (by decide) (by decide) (by decide)]; exact r4, r5, r6⟩, ⟨f0, fN⟩, fun n hn => ?_, fun b hb => ?_, fun b hb => ?_, Or.inl ⟨rfl, h26⟩, fun i hi => ?_, fun n h1 h2 => ?_⟩
  · obtain ⟨o, ob⟩ := rn n hn
    refine ⟨NR_cong (fun k h1 h2 => by rw [ht k (by omega) (by omega) (by omega)]) (fun k j h1 h2 => by rw [ht k (by omega) (by omega) (by omega)]) (fun k h1 h2 => by rw [hm k (by omega) (by omega) (by omega) (by omega) (by omega)]) (fun k j h1 h2 => by rw [hm k (by omega) (by omega) (by omega) (by omega) (by omega)]) (hm2 _ (by omega) (by omega)) o, ?_⟩
    rw [hm 28 (by decide) (by decide) (by decide) (by decide) (by decide)]
    exact ob
  · unfold BR
    rw [ht 11 (by decide) (by decide) (by decide), ht 12 (by decide) (by decide) (by decide), hm 35 (by decide) (by decide) (by decide) (by decide) (by decide)]
    exact rb b hb
  · by_cases q : b = c
    · subst q; exact cr
    · unfold CR
      rw [ht1 13 b (Or.inl rfl) q, ht1 14 b (Or.inr rfl) q, ht2 _ (by omega) (by omega), ht2 _ (by omega) (by omega), hm1 36 b (Or.inl rfl) q, hm1 37 b (Or.inr rfl) q, hm2 _ (by omega) (by omega), hm2 _ (by omega) (by omega)]
      exact rc b (by omega)
  · rw [hm2 _ (by omega) (by omega)]; exact rz.1 i hi
  · rw [hm2 _ (by omega) (by omega)]; exact rz.2 n h1 h2
theorem DR_begin (r : DR T M F nN nB c) (hc : c = nB) (h8 : nB < 8) (ht : ∀ k, k ≠ 0 → k ≠ 11 → k ≠ 12 → k ≠ 13 → k ≠ 14 → k ≠ 15 → T' k = T k) (ht1 : ∀ k j, 11 ≤ k → k ≤ 14 → j ≠ nB → T' k j = T k j) (ht2 : ∀ j, j ≠ 2 * nB → j ≠ 2 * nB + 1 → T' 15 j = T 15 j) (t0 : T' 0 0 = nI (nB + 1)) (t11 : T' 11 nB = nI nN) (t12 : T' 12 nB = 0) (ob : OB T' nB) (hm : ∀ k, 24 ≤ k → k ≠ 25 → k ≠ 26 → k ≠ 35 → M' k = M k) (hm1 : ∀ j, j ≠ nB → M' 35 j = M 35 j) (m25 : M' 25 0 = nI (nB + 1)) (m26 : M' 26 0 = 1) (m35 : M' 35 nB = nI nN) : DR T' M' (fun i => if i = nB + 1 then nN else F i) nN (nB + 1) nB := by
  obtain ⟨⟨r1, r2, r3, r4, r5, r6⟩, ⟨f0, fN⟩, rn, rb, rc, ro, rz⟩ := r
  have oldF : ∀ i, i ≤ nB → (if i = nB + 1 then nN else F i) = F i := fun i hi => if_neg (by omega)
  refine ⟨⟨t0, by rw [ht 1 (by decide) (by decide) (by decide) (by decide) (by decide) (by decide)]; exact r2, m25, by rw [hm 24 (by decide) (by decide) (by decide) (by decide)]; exact r4, h8, r6⟩, ⟨(oldF 0 (by omega)).trans f0, if_pos rfl⟩, fun n hn => ?_, fun b hb => ?_, fun b hb => ?_, Or.inr ⟨rfl, m26, ob, fun n h1 h2 h3 => ?_⟩, fun i hi => ?_, fun n h1 h2 => ?_⟩
  · obtain ⟨o, b, b1, b2, b3, b4⟩ := rn n hn
    refine ⟨NR_cong (fun k h1 h2 => by rw [ht k (by omega) (by omega) (by omega) (by omega) (by omega) (by omega)]) (fun k j h1 h2 => by rw [ht k (by omega) (by omega) (by omega) (by omega) (by omega) (by omega)]) (fun k h1 h2 => by rw [hm k (by omega) (by omega) (by omega) (by omega)]) (fun k j h1 h2 => by rw [hm k (by omega) (by omega) (by omega) (by omega)]) (by rw [hm 38 (by omega) (by omega) (by omega) (by omega)]) o, b, by omega, by rw [hm 28 (by omega) (by omega) (by omega) (by omega)]; exact b2, ?_, ?_⟩
    · show (if b = nB + 1 then nN else F b) ≤ n
      rw [oldF b (by omega)]; exact b3
    · show n < (if b + 1 = nB + 1 then nN else F (b + 1))
      rw [oldF (b + 1) (by omega)]; exact b4
  · unfold BR
    show T' 11 b = nI (if b = nB + 1 then nN else F b) ∧ M' 35 b = nI (if b = nB + 1 then nN else F b) ∧ (if b = nB + 1 then nN else F b) ≤ (if b + 1 = nB + 1 then nN else F (b + 1)) ∧ T' 12 b = nI ((if b + 1 = nB + 1 then nN else F (b + 1)) - (if b = nB + 1 then nN else F b))
    rw [oldF b (by omega)]
    by_cases q : b = nB
    · subst q
      rw [if_pos rfl, fN]
      refine ⟨t11, m35, Nat.le_refl _, ?_⟩
      rw [t12, Nat.sub_self]
      rfl
    · rw [oldF (b + 1) (by omega), ht1 11 b (by decide) (by decide) q, ht1 12 b (by decide) (by decide) q, hm1 b q]
      exact rb b (by omega)
  · unfold CR
    rw [ht1 13 b (by decide) (by decide) (by omega), ht1 14 b (by decide) (by decide) (by omega), ht2 _ (by omega) (by omega), ht2 _ (by omega) (by omega), hm 36 (by decide) (by decide) (by decide) (by decide), hm 37 (by decide) (by decide) (by decide) (by decide), hm 38 (by decide) (by decide) (by decide) (by decide)]
    exact rc b (by omega)
  · have h1' : (if nB = nB + 1 then nN else F nB) ≤ n := h1
    rw [oldF nB (by omega), fN] at h1'
    omega
  · rw [hm 38 (by decide) (by decide) (by decide) (by decide)]; exact rz.1 i hi
  · rw [hm 38 (by decide) (by decide) (by decide) (by decide)]; exact rz.2 n h1 h2
/-! the class's changes -/
theorem addName_sp (x : Int32) (t0 : T 0 0 = nI nB) (t1 : T 1 0 = nI nN) (hc : c + 1 = nB) (h8 : nB ≤ 8) (hN : nN < 24) (Q : Int32 → ZS → Prop) (hQ : ∀ T', FT T T' nN c → T' 2 nN = nI c → T' 3 nN = x → T' 4 nN = 0 → T' 5 nN = 0 → T' 6 nN = -9 → T' 7 nN = -9 → T' 8 nN = 0 → Q (nI nN) T') : g_X4_addName x T Q := by
  unfold g_X4_addName
  have nc := nI_clamp (n := nN) (by omega)
  have cc := nI_clamp (n := c) (by omega)
  have e1 : nI nB - 1 = nI c := by rw [show (1 : Int32) = nI 1 from rfl, pk_sub (by omega)]; congr 1; omega
  have hv : vp_in (nI nN) 24 := vp_in_nI hN (by omega)
  have hv8 : vp_in (nI c) 8 := vp_in_nI (by omega) (by omega)
  simp only [forall_eq, t1, t0, nc, e1]
  refine ⟨hv, hv, hv, hv, hv, hv, hv, ?_⟩
  have z0 : ∀ {k i : Nat} {v : Int32} {S : ZS}, 0 ≠ k → zst S k i v 0 0 = S 0 0 := fun h => by rw [zs_ne _ _ _ h]
  have z1 : ∀ {k i : Nat} {v : Int32} {S : ZS}, 1 ≠ k → zst S k i v 1 0 = S 1 0 := fun h => by rw [zs_ne _ _ _ h]
  have z12 : ∀ {k i : Nat} {v : Int32} {S : ZS}, 12 ≠ k → zst S k i v 12 = S 12 := fun h => zs_ne _ _ _ h
  rw [z1 (by decide), z1 (by decide), z1 (by decide), z1 (by decide), z1 (by decide), z1 (by decide), z1 (by decide), t1, z0 (by decide), z0 (by decide), z0 (by decide), z0 (by decide), z0 (by decide), z0 (by decide), z0 (by decide), z0 (by decide), t0, e1, cc, nI_1, z12 (by decide), z12 (by decide), z12 (by decide), z12 (by decide), z12 (by decide), z12 (by decide), z12 (by decide), z12 (by decide)]
  refine ⟨hv8, hv8, hQ _ ⟨fun k hk => ?_, fun k j h1 h2 h3 => ?_, fun k j h1 h2 => ?_, ?_, zs_at _ _ _ _, fun j hj => ?_⟩ ?_ ?_ ?_ ?_ ?_ ?_ ?_⟩
  · rw [zs_ne _ _ _ (by omega), zs_ne _ _ _ (by omega), zs_ne _ _ _ (by omega), zs_ne _ _ _ (by omega), zs_ne _ _ _ (by omega), zs_ne _ _ _ (by omega), zs_ne _ _ _ (by omega), zs_ne _ _ _ (by omega), zs_ne _ _ _ (by omega)]
  · rw [zs_ne _ _ _ (by omega), zs_ne _ _ _ (by omega)]
    have st : ∀ (S : ZS) (k' : Nat) (v : Int32), zst S k' nN v k j = S k j := fun S k' v => by
      by_cases q : k = k'
      · subst q; rw [zs_ni _ _ _ h3]
      · rw [zs_ne _ _ _ q]
    rw [st, st, st, st, st, st, st]
  · rw [zs_ne _ _ _ (by omega), zs_ne _ _ _ (by omega), zs_ne _ _ _ (by omega), zs_ne _ _ _ (by omega), zs_ne _ _ _ (by omega), zs_ne _ _ _ (by omega), zs_ne _ _ _ (by omega), zs_ne _ _ _ (by omega), zs_ne _ _ _ (by omega)]
  · rw [zs_ne _ _ _ (by decide), zs_at]
  · rw [zs_ni _ _ _ hj, zs_ne _ _ _ (by decide), zs_ne _ _ _ (by decide), zs_ne _ _ _ (by decide), zs_ne _ _ _ (by decide), zs_ne _ _ _ (by decide), zs_ne _ _ _ (by decide), zs_ne _ _ _ (by decide), zs_ne _ _ _ (by decide)]
  · rw [zs_ne _ _ _ (by decide), zs_ne _ _ _ (by decide), zs_ne _ _ _ (by decide), zs_ne _ _ _ (by decide), zs_ne _ _ _ (by decide), zs_ne _ _ _ (by decide), zs_ne _ _ _ (by decide), zs_ne _ _ _ (by decide), zs_at]
  · rw [zs_ne _ _ _ (by decide), zs_ne _ _ _ (by decide), zs_ne _ _ _ (by decide), zs_ne _ _ _ (by decide), zs_ne _ _ _ (by decide), zs_ne _ _ _ (by decide), zs_ne _ _ _ (by decide), zs_at]
  · rw [zs_ne _ _ _ (by decide), zs_ne _ _ _ (by decide), zs_ne _ _ _ (by decide), zs_ne _ _ _ (by decide), zs_ne _ _ _ (by decide), zs_ne _ _ _ (by decide), zs_at]
  · rw [zs_ne _ _ _ (by decide), zs_ne _ _ _ (by decide), zs_ne _ _ _ (by decide), zs_ne _ _ _ (by decide), zs_ne _ _ _ (by decide), zs_at]
  · rw [zs_ne _ _ _ (by decide), zs_ne _ _ _ (by decide), zs_ne _ _ _ (by decide), zs_ne _ _ _ (by decide), zs_at]
  · rw [zs_ne _ _ _ (by decide), zs_ne _ _ _ (by decide), zs_ne _ _ _ (by decide), zs_at]
  · rw [zs_ne _ _ _ (by decide), zs_ne _ _ _ (by decide), zs_at]
/-- the reference's new name -/
theorem starts_rn (x : Int32) (m25 : M 25 0 = nI nB) (m24 : M 24 0 = nI nN) (hc : c + 1 = nB) (h8 : nB ≤ 8) (hN : nN < 24) : ∃ M', (∀ R : ZS → Prop, R M' → g_X9_startsName x M R) ∧ FQ M M' nN ∧ (∀ k, k ≤ 23 → M' k = M k) ∧ M' 27 nN = x ∧ M' 28 nN = nI c ∧ M' 29 nN = 0 ∧ M' 32 nN = 0 ∧ M' 38 = M 38 ∧ (∀ k, (k = 30 ∨ k = 31 ∨ k = 33 ∨ k = 34) → M' k = M k) := by
  have nc := nI_clamp (n := nN) (by omega)
  have e1 : nI nB - 1 = nI c := by rw [show (1 : Int32) = nI 1 from rfl, pk_sub (by omega)]; congr 1; omega
  have hv : vp_in (nI nN) 24 := vp_in_nI hN (by omega)
  refine ⟨zst (zst (zst (zst (zst M 27 nN x) 28 nN (nI c)) 29 nN 0) 32 nN 0) 24 0 (nI (nN + 1)), fun R hR => ?_, ⟨fun k hk => ?_, fun k j h1 h2 h3 => ?_, fun k j h1 h2 => ?_, fun j hj => ?_, zs_at _ _ _ _⟩, fun k hk => ?_, ?_, ?_, ?_, ?_, ?_, fun k hk => ?_⟩
  · unfold g_X9_startsName
    simp only [forall_eq]
    have z24 : ∀ {k i : Nat} {v : Int32} {S : ZS}, 24 ≠ k → zst S k i v 24 0 = S 24 0 := fun h => by rw [zs_ne _ _ _ h]
    have z25 : ∀ {k i : Nat} {v : Int32} {S : ZS}, 25 ≠ k → zst S k i v 25 0 = S 25 0 := fun h => by rw [zs_ne _ _ _ h]
    simp only [z24 (show 24 ≠ 27 by decide), z24 (show 24 ≠ 28 by decide), z24 (show 24 ≠ 29 by decide), z24 (show 24 ≠ 32 by decide), z25 (show 25 ≠ 27 by decide), m24, m25, nc, e1, nI_1]
    exact ⟨hv, hv, hv, hv, hR⟩
  · rw [zs_ne _ _ _ (by omega), zs_ne _ _ _ (by omega), zs_ne _ _ _ (by omega), zs_ne _ _ _ (by omega), zs_ne _ _ _ (by omega)]
  · rw [zs_ne _ _ _ (by omega)]
    have st : ∀ (S : ZS) (k' : Nat) (v : Int32), zst S k' nN v k j = S k j := fun S k' v => by
      by_cases q : k = k'
      · subst q; rw [zs_ni _ _ _ h3]
      · rw [zs_ne _ _ _ q]
    rw [st, st, st, st]
  · rw [zs_ne _ _ _ (by omega), zs_ne _ _ _ (by omega), zs_ne _ _ _ (by omega), zs_ne _ _ _ (by omega), zs_ne _ _ _ (by omega)]
  · rw [zs_ne _ _ _ (by decide), zs_ne _ _ _ (by decide), zs_ne _ _ _ (by decide), zs_ne _ _ _ (by decide), zs_ne _ _ _ (by decide)]
  · rw [zs_ne _ _ _ (by omega), zs_ne _ _ _ (by omega), zs_ne _ _ _ (by omega), zs_ne _ _ _ (by omega), zs_ne _ _ _ (by omega)]
  · rw [zs_ne _ _ _ (by decide), zs_ne _ _ _ (by decide), zs_ne _ _ _ (by decide), zs_ne _ _ _ (by decide), zs_at]
  · rw [zs_ne _ _ _ (by decide), zs_ne _ _ _ (by decide), zs_ne _ _ _ (by decide), zs_at]
  · rw [zs_ne _ _ _ (by decide), zs_ne _ _ _ (by decide), zs_at]
  · rw [zs_ne _ _ _ (by decide), zs_at]
  · rw [zs_ne _ _ _ (by decide), zs_ne _ _ _ (by decide), zs_ne _ _ _ (by decide), zs_ne _ _ _ (by decide), zs_ne _ _ _ (by decide)]
  · rw [zs_ne _ _ _ (by omega), zs_ne _ _ _ (by omega), zs_ne _ _ _ (by omega), zs_ne _ _ _ (by omega), zs_ne _ _ _ (by omega)]
end DRF
