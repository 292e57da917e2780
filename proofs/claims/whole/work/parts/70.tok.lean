/-! tokens, the class's side -/
theorem zs_if (S : ZS) (k i : Nat) (v : Int32) (k' j : Nat) : zst S k i v k' j = if k' = k then (if j = i then v else S k j) else S k' j := by
  by_cases q : k' = k
  · subst q
    rw [if_pos rfl, zs_kk]
    unfold upd
    rfl
  · rw [if_neg q, zs_ne _ _ _ q]
theorem zs_self {S : ZS} {k i : Nat} {v : Int32} (h : S k i = v) : zst S k i v = S := by
  subst h
  funext k' j
  rw [zs_if]
  by_cases q : k' = k
  · subst q
    rw [if_pos rfl]
    by_cases w : j = i
    · rw [if_pos w, w]
    · rw [if_neg w]
  · rw [if_neg q]
theorem zs_zs (S : ZS) (k i : Nat) (v w : Int32) : zst (zst S k i v) k i w = zst S k i w := by
  funext k' j
  rw [zs_if, zs_if, zs_if, zs_if]
  by_cases q : k' = k
  · rw [if_pos q, if_pos q]
    by_cases z : j = i
    · rw [if_pos z, if_pos z]
    · rw [if_neg z, if_neg z, if_pos rfl, if_neg z]
  · rw [if_neg q, if_neg q, if_neg q]
def isL (c : Int32) : Prop := ¬ c < 97 ∧ ¬ 122 < c
def isD (c : Int32) : Prop := ¬ c < 48 ∧ ¬ 57 < c
def isS (c : Int32) : Prop := c = 37 ∨ c = 38 ∨ c = 42 ∨ c = 43 ∨ c = 45 ∨ c = 47 ∨ c = 60 ∨ c = 61 ∨ c = 94
def sg (f : ZR) (len q : Nat) : Prop := q + 1 < len → ¬ isL (f (q + 1))
def ng (f : ZR) (q m : Nat) : Prop := m ≤ 3 ∧ (m = 1 ∨ ¬ f q = 48)
def dv (f : ZR) (q : Nat) : Nat → Int32
  | 0 => 0
  | m + 1 => 10 * dv f q m + f (q + m) - 48
theorem isD_of {c : Int32} (h : isD c) : ∃ d, d < 10 ∧ c = nI (48 + d) := by
  have h0 : ¬ c < 0 := by
    intro w
    refine h.1 ?_
    have := Int32.lt_iff_toInt_lt.mp w
    refine Int32.lt_iff_toInt_lt.mpr ?_
    have a : (0 : Int32).toInt = 0 := by decide
    have b : (48 : Int32).toInt = 48 := by decide
    omega
  obtain ⟨j, hj, rfl⟩ := nI_of h0
  have a : ¬ j < 48 := fun w => h.1 ((nI_ltI (a := j) (b := 48) hj (by omega)).mpr w)
  have b : ¬ 57 < j := fun w => h.2 ((nI_ltI (a := 57) (b := j) (by omega) hj).mpr w)
  exact ⟨j - 48, by omega, by rw [show 48 + (j - 48) = j by omega]⟩
theorem dv_of {f : ZR} {q : Nat} : ∀ {m : Nat}, m ≤ 4 → (∀ i, i < m → isD (f (q + i))) → ∃ k, dv f q m = nI k ∧ k < 10 ^ m ∧ (1 ≤ m → ¬ f q = 48 → 10 ^ (m - 1) ≤ k)
  | 0, _, _ => ⟨0, rfl, by omega, fun h => absurd h (by omega)⟩
  | m + 1, hm, h => by
    obtain ⟨k, e, hk, hl⟩ := dv_of (m := m) (by omega) (fun i hi => h i (by omega))
    obtain ⟨d, hd, ed⟩ := isD_of (h m (by omega))
    have p4 : 10 ^ m ≤ 10 ^ 3 := Nat.pow_le_pow_right (by omega) (by omega)
    refine ⟨10 * k + d, ?_, ?_, fun _ h48 => ?_⟩
    · show 10 * dv f q m + f (q + m) - 48 = _
      rw [e, ed, show (10 : Int32) = nI 10 from rfl, pk_mul, nI_add, show (48 : Int32) = nI 48 from rfl, pk_sub (by omega)]
      congr 1
      omega
    · rw [Nat.pow_succ]
      omega
    · show 10 ^ m ≤ _
      cases m with
      | zero =>
        have : d ≠ 0 := by
          intro w
          rw [w] at ed
          exact h48 ed
        have e0 : (10 : Nat) ^ 0 = 1 := rfl
        omega
      | succ m' =>
        have := hl (by omega) h48
        rw [Nat.add_sub_cancel] at this
        rw [Nat.pow_succ]
        omega
/-- the token at q -/
def TK (f : ZR) (len q : Nat) (S : ZS) : Prop := S 3 0 = nI q ∧ (q = len → S 2 0 = 0) ∧ (q < len →
  (isL (f q) → S 2 0 = 1 ∧ (sg f len q → S 5 0 = f q ∧ S 4 0 = nI (q + 1)) ∧ (¬ sg f len q → S 5 0 = 0)) ∧
  (isD (f q) → ∃ m, 1 ≤ m ∧ q + m ≤ len ∧ (∀ i, i < m → isD (f (q + i))) ∧ (q + m < len → ¬ isD (f (q + m))) ∧ (ng f q m → S 2 0 = 2 ∧ S 5 0 = dv f q m ∧ S 4 0 = nI (q + m)) ∧ (¬ ng f q m → S 2 0 = 5)) ∧
  (¬ isL (f q) → ¬ isD (f q) → isS (f q) → S 2 0 = 3 ∧ S 5 0 = f q ∧ S 4 0 = nI (q + 1)) ∧
  (f q = 59 → S 2 0 = 4 ∧ S 4 0 = nI (q + 1) ∧ S 5 0 = 0) ∧
  (¬ isL (f q) → ¬ isD (f q) → ¬ isS (f q) → ¬ f q = 59 → S 2 0 = 5))
def bl (f : ZR) (p q : Nat) : Prop := ∀ i, p ≤ i → i < q → f i = 32
theorem le999 {k : Nat} (h : k < 2 ^ 30) : nI k ≤ 999 ↔ k ≤ 999 := nI_leI (a := k) (b := 999) (by omega) (by omega)
section CTOK
variable {f : ZR} {len : Nat}
theorem letters_sp (hl : len ≤ 150) {S : ZS} {q : Nat} (hq : q < len) (t1 : S 1 0 = nI len) (tx : ∀ i, i < len → S 0 i = f i) (h4 : S 4 0 = nI (q + 1)) (Q : ZS → Prop) (hQ : ∀ S', (∀ k, k ≠ 2 → k ≠ 4 → k ≠ 5 → S' k = S k) → S' 2 0 = 1 → (sg f len q → S' 5 0 = f q ∧ S' 4 0 = nI (q + 1)) → (¬ sg f len q → S' 5 0 = 0) → Q S') : g_X6_readLetters (f q) S Q := by
  unfold g_X6_readLetters
  simp only [forall_eq]
  refine fx_all (fun p => ∃ j S', 1 ≤ j ∧ q + j ≤ len ∧ p = S' ∧ (∀ k, k ≠ 2 → k ≠ 4 → k ≠ 5 → S' k = S k) ∧ S' 2 0 = 1 ∧ S' 4 0 = nI (q + j) ∧ (j = 1 → S' 5 0 = f q) ∧ (¬ j = 1 → S' 5 0 = 0 ∧ ¬ sg f len q)) (fun p => len - (p 4 0).toNatClampNeg) ?_ _ ⟨1, _, Nat.le_refl _, by omega, rfl, fun k a b c => by rw [zs_ne _ _ _ c, zs_ne _ _ _ a], by rw [zs_ne _ _ _ (by decide), zs_at], by rw [zs_ne _ _ _ (by decide), zs_ne _ _ _ (by decide)]; exact h4, fun _ => zs_at _ _ _ _, fun w => absurd rfl w⟩
  rintro X p ⟨j, S', hj, hj2, rfl, fr, e2, e4, e51, e50⟩ hX
  have el := nI_clamp (n := q + j) (by omega)
  unfold F_X6_readLetters_10
  simp only [fr 1 (by decide) (by decide) (by decide), fr 0 (by decide) (by decide) (by decide), t1, e4, el, forall_eq]
  have fin : (q + j < len → ¬ isL (f (q + j))) → Q p := by
    intro hno
    refine hQ p fr e2 (fun s => ?_) (fun s => ?_)
    · by_cases w : j = 1
      · subst w
        exact ⟨e51 rfl, e4⟩
      · exact absurd s (e50 w).2
    · by_cases w : j = 1
      · subst w
        exact absurd hno s
      · exact (e50 w).1
  refine ⟨fun z => fin (fun w => absurd z (leI_not w (by omega))), fun z => ?_⟩
  have hlt : q + j < len := Nat.not_le.mp (fun y => z ((nI_leI (by omega) (by omega)).mpr y))
  have hv : vp_in (nI (q + j)) 150 := vp_in_nI (by omega) (by omega)
  rw [tx _ hlt]
  refine ⟨hv, fun w => fin (fun _ y => y.1 w), fun w => ⟨hv, fun w2 => fin (fun _ y => y.2 w2), fun w2 => ?_⟩⟩
  rw [zs_ne _ _ _ (by decide), e4, nI_1]
  refine hX _ ⟨j + 1, _, by omega, by omega, rfl, fun k a b c => by rw [zs_ne _ _ _ b, zs_ne _ _ _ c]; exact fr k a b c, by rw [zs_ne _ _ _ (by decide), zs_ne _ _ _ (by decide)]; exact e2, by rw [zs_at]; rfl, fun y => absurd y (by omega), fun _ => ⟨by rw [zs_ne _ _ _ (by decide), zs_at], ?_⟩⟩ ?_
  · by_cases y : j = 1
    · subst y
      exact fun s => s hlt ⟨w, w2⟩
    · exact (e50 y).2
  · show len - (zst (zst p 5 0 0) 4 0 (nI (q + j + 1)) 4 0).toNatClampNeg < len - (p 4 0).toNatClampNeg
    rw [zs_at, e4, el, nI_clamp (by omega)]
    omega
theorem numeral_cl (hl : len ≤ 150) {S : ZS} {q : Nat} (hq : q < len) (hd : isD (f q)) (t1 : S 1 0 = nI len) (tx : ∀ i, i < len → S 0 i = f i) (h4 : S 4 0 = nI (q + 1)) (Q : ZS → Prop) (hQ : ∀ S', (∀ k, k ≠ 2 → k ≠ 4 → k ≠ 5 → S' k = S k) → (∃ m, 1 ≤ m ∧ q + m ≤ len ∧ (∀ i, i < m → isD (f (q + i))) ∧ (q + m < len → ¬ isD (f (q + m))) ∧ (ng f q m → S' 2 0 = 2 ∧ S' 5 0 = dv f q m ∧ S' 4 0 = nI (q + m)) ∧ (¬ ng f q m → S' 2 0 = 5)) → Q S') : g_X6_readNumeral (f q - 48) S Q := by
  unfold g_X6_readNumeral
  simp only [forall_eq]
  have d1 : dv f q 1 = f q - 48 := by
    obtain ⟨d, hd', ed⟩ := isD_of hd
    show 10 * (0 : Int32) + f (q + 0) - 48 = f q - 48
    rw [Nat.add_zero, Int32.mul_zero, Int32.zero_add]
  refine fx_all (fun p => ∃ j S', 1 ≤ j ∧ q + j ≤ len ∧ p = S' ∧ (∀ k, k ≠ 2 → k ≠ 4 → k ≠ 5 → S' k = S k) ∧ S' 4 0 = nI (q + j) ∧ (∀ i, i < j → isD (f (q + i))) ∧ (ng f q j → S' 2 0 = 2 ∧ S' 5 0 = dv f q j) ∧ (2 ≤ j → f q = 48 → S' 2 0 = 5) ∧ (¬ f q = 48 → 4 ≤ j → ¬ S' 5 0 ≤ 999)) (fun p => len - (p 4 0).toNatClampNeg) ?_ _ ⟨1, _, Nat.le_refl _, by omega, rfl, fun k a b c => by rw [zs_ne _ _ _ c, zs_ne _ _ _ a], by rw [zs_ne _ _ _ (by decide), zs_ne _ _ _ (by decide)]; exact h4, fun i hi => by rw [show i = 0 by omega]; exact hd, fun _ => ⟨by rw [zs_ne _ _ _ (by decide), zs_at], by rw [zs_at, d1]⟩, fun w => absurd w (by omega), fun _ w => absurd w (by omega)⟩
  rintro X p ⟨j, S', hj, hj2, rfl, fr, e4, hdig, e1, e2, e3⟩ hX
  have el := nI_clamp (n := q + j) (by omega)
  have nn : ¬ ng f q j → (2 ≤ j ∧ f q = 48) ∨ (¬ f q = 48 ∧ 4 ≤ j) := by
    intro w
    by_cases y : f q = 48
    · refine Or.inl ⟨?_, y⟩
      have : j ≠ 1 := fun k => w ⟨by omega, Or.inl k⟩
      omega
    · refine Or.inr ⟨y, ?_⟩
      have : ¬ j ≤ 3 := fun k => w ⟨k, Or.inr y⟩
      omega
  have fin : (q + j < len → ¬ isD (f (q + j))) → G_X6_readNumeral_108 (f q - 48) Q p := by
    intro hno
    unfold G_X6_readNumeral_108
    rw [forall_eq]
    by_cases w : ng f q j
    · obtain ⟨a1, a2⟩ := e1 w
      obtain ⟨k, ek, hk, -⟩ := dv_of (by have := w.1; omega) hdig
      have hk3 : k < 10 ^ 3 := Nat.lt_of_lt_of_le hk (Nat.pow_le_pow_right (by omega) w.1)
      have le : p 5 0 ≤ 999 := by rw [a2, ek]; exact (le999 (by omega)).mpr (by omega)
      exact ⟨fun _ => hQ p fr ⟨j, hj, hj2, hdig, hno, fun _ => ⟨a1, a2, e4⟩, fun y => absurd w y⟩, fun y => absurd le y⟩
    · refine ⟨fun y => hQ p fr ⟨j, hj, hj2, hdig, hno, fun y => absurd y w, fun _ => ?_⟩, fun y => hQ _ (fun k a b c => by rw [zs_ne _ _ _ a]; exact fr k a b c) ⟨j, hj, hj2, hdig, hno, fun y => absurd y w, fun _ => zs_at _ _ _ _⟩⟩
      rcases nn w with k | k
      · exact e2 k.1 k.2
      · exact absurd y (e3 k.1 k.2)
  unfold F_X6_readNumeral_10
  simp only [fr 1 (by decide) (by decide) (by decide), fr 0 (by decide) (by decide) (by decide), t1, e4, el, forall_eq]
  refine ⟨fun z => fin (fun w => absurd z (leI_not w (by omega))), fun z => ?_⟩
  have hlt : q + j < len := Nat.not_le.mp (fun y => z ((nI_leI (by omega) (by omega)).mpr y))
  have hv : vp_in (nI (q + j)) 150 := vp_in_nI (by omega) (by omega)
  rw [tx _ hlt]
  refine ⟨hv, fun w => fin (fun _ y => y.1 w), fun w => ⟨hv, fun w2 => fin (fun _ y => y.2 w2), fun w2 => ?_⟩⟩
  have dig : ∀ i, i < j + 1 → isD (f (q + i)) := by
    intro i hi
    by_cases y : i = j
    · rw [y]; exact ⟨w, w2⟩
    · exact hdig i (by omega)
  -- one more digit
  have more : ∀ R : ZS, (∀ k, k ≠ 2 → R k = p k) → (ng f q (j + 1) → R 2 0 = 2) → (2 ≤ j + 1 → f q = 48 → R 2 0 = 5) → G_X6_readNumeral_61 (f q - 48) Q X R := by
    intro R fR r2 r5
    unfold G_X6_readNumeral_61 G_X6_readNumeral_95
    have r5e : R 5 = p 5 := fR 5 (by decide)
    have r4 : R 4 0 = nI (q + j) := by rw [fR 4 (by decide)]; exact e4
    have r0 : R 0 = S 0 := by rw [fR 0 (by decide)]; exact fr 0 (by decide) (by decide) (by decide)
    have go : ∀ v : Int32, (ng f q (j + 1) → v = dv f q (j + 1)) → (¬ f q = 48 → 4 ≤ j + 1 → ¬ v ≤ 999) → X (zst (zst R 5 0 v) 4 0 (nI (q + j + 1))) := by
      intro v v1 v2
      refine hX _ ⟨j + 1, _, by omega, by omega, rfl, fun k a b c => by rw [zs_ne _ _ _ b, zs_ne _ _ _ c, fR k a]; exact fr k a b c, by rw [zs_at]; rfl, dig, fun y => ⟨by rw [zs_ne _ _ _ (by decide), zs_ne _ _ _ (by decide)]; exact r2 y, by rw [zs_ne _ _ _ (by decide), zs_at]; exact v1 y⟩, fun y1 y2 => by rw [zs_ne _ _ _ (by decide), zs_ne _ _ _ (by decide)]; exact r5 y1 y2, fun y1 y2 => by rw [zs_ne _ _ _ (by decide), zs_at]; exact v2 y1 y2⟩ ?_
      show len - (zst (zst R 5 0 v) 4 0 (nI (q + j + 1)) 4 0).toNatClampNeg < len - (p 4 0).toNatClampNeg
      rw [zs_at, e4, el, nI_clamp (by omega)]
      omega
    simp only [forall_eq, r5e, r4, nI_1]
    refine ⟨fun y => ?_, fun y => ⟨hv, ?_⟩⟩
    · have := go (p 5 0) (fun g => ?_) (fun _ _ k => ?_)
      · rw [zs_self (show R 5 0 = p 5 0 by rw [r5e])] at this
        exact this
      · obtain ⟨g1, g2⟩ := g
        have gj : ng f q j := ⟨by omega, Or.inr (g2.resolve_left (by omega))⟩
        obtain ⟨k, ek, hk, -⟩ := dv_of (by omega) hdig
        rw [(e1 gj).2, ek] at y
        have hk3 : k < 10 ^ 3 := Nat.lt_of_lt_of_le hk (Nat.pow_le_pow_right (by omega) (by omega))
        have := (nI_ltI (a := 999) (b := k) (by omega) (by omega)).mp y
        omega
      · have a := Int32.lt_iff_toInt_lt.mp y
        have b := Int32.le_iff_toInt_le.mp k
        omega
    · rw [zs_ne _ _ _ (by decide), r4, nI_1, r0, nI_clamp (by omega), tx _ hlt]
      refine go _ (fun g => ?_) (fun h48 h4' => ?_)
      · obtain ⟨g1, g2⟩ := g
        have gj : ng f q j := ⟨by omega, Or.inr (g2.resolve_left (by omega))⟩
        rw [(e1 gj).2]
        rfl
      · have j3 : j ≤ 3 := Nat.not_lt.mp (fun k => e3 h48 k (by
          have a : ¬ 999 < p 5 0 := y
          refine Int32.le_iff_toInt_le.mpr ?_
          have b : ¬ (999 : Int32).toInt < (p 5 0).toInt := fun k => a (Int32.lt_iff_toInt_lt.mpr k)
          omega))
        have gj : ng f q j := ⟨j3, Or.inr h48⟩
        rw [(e1 gj).2]
        obtain ⟨k, ek, hk, hlow⟩ := dv_of (m := j + 1) (by omega) dig
        have : 10 * dv f q j + f (q + j) - 48 = nI k := ek
        rw [this, le999 (by have := Nat.pow_le_pow_right (show 0 < 10 by omega) (show j + 1 ≤ 4 by omega); omega)]
        have h3 := hlow (by omega) h48
        have e3' : j + 1 - 1 = 3 := by omega
        rw [e3'] at h3
        omega
  refine ⟨fun y => more _ (fun k hk => zs_ne _ _ _ hk) (fun g => ?_) (fun _ _ => zs_at _ _ _ _), fun y => more p (fun _ _ => rfl) (fun g => ?_) (fun _ h48 => ?_)⟩
  · obtain ⟨g1, g2⟩ := g
    have h48 := g2.resolve_left (by omega)
    have gj : ng f q j := ⟨by omega, Or.inr h48⟩
    obtain ⟨k, ek, hk, hlow⟩ := dv_of (by omega) hdig
    rw [(e1 gj).2, ek] at y
    have := hlow hj h48
    have k0 : k = 0 := (nI_eq (b := 0) (by have := Nat.pow_le_pow_right (show 0 < 10 by omega) (show j ≤ 4 by omega); omega) (by omega)).mp y
    have := Nat.pow_pos (n := j - 1) (show 0 < 10 by omega)
    omega
  · obtain ⟨g1, g2⟩ := g
    exact (e1 ⟨by omega, Or.inr (g2.resolve_left (by omega))⟩).1
  · by_cases k : j = 1
    · subst k
      refine absurd ?_ y
      rw [(e1 ⟨by omega, Or.inl rfl⟩).2, d1, h48]
      decide
    · exact e2 (by omega) h48
end CTOK
