/-! strict: the reference's side -/
/-- a loop with a flag -/
theorem flag_loop {α : Type} {F : (α → Prop) → α → Prop} (mk : Int32 → Int32 → α) (pj : α → Int32) (hpj : ∀ x y, pj (mk x y) = y) {N : Nat} (hN : N < 2 ^ 30) (A : Prop) (OK : Nat → Prop) (x0 : Int32) (hx0 : isB x0) (hA : x0 = 1 ↔ A) (he : ∀ x, isB x → (x = 1 ↔ (A ∧ ∀ i, i < N → OK i)) → ∀ X, F X (mk x (nI N))) (hs : ∀ X i x, i < N → (nI i).toNatClampNeg = i → isB x → (x = 1 ↔ (A ∧ ∀ j, j < i → OK j)) → (x = 0 → X (mk 0 (nI (i + 1)))) → (x = 1 → OK i → X (mk 1 (nI (i + 1)))) → (x = 1 → ¬ OK i → X (mk 0 (nI (i + 1)))) → F X (mk x (nI i))) : ∃ n, fx F n (mk x0 0) := by
  refine fx_all (fun p => ∃ i x, i ≤ N ∧ p = mk x (nI i) ∧ isB x ∧ (x = 1 ↔ (A ∧ ∀ j, j < i → OK j))) (fun p => N - (pj p).toNatClampNeg) ?_ _ ⟨0, x0, Nat.zero_le _, rfl, hx0, hA.trans ⟨fun w => ⟨w, fun j hj => absurd hj (Nat.not_lt_zero j)⟩, fun w => w.1⟩⟩
  rintro X p ⟨i, x, h2, rfl, hx, hj⟩ hX
  have el := nI_clamp (n := i) (by omega)
  by_cases q : i = N
  · subst q
    exact he x hx hj X
  · have dec : ∀ y, N - (pj (mk y (nI (i + 1)))).toNatClampNeg < N - (pj (mk x (nI i))).toNatClampNeg := by
      intro y
      rw [hpj, hpj, el, nI_clamp (by omega)]
      omega
    refine hs X i x (by omega) el hx hj (fun x0 => hX _ ⟨i + 1, 0, by omega, rfl, isB_0, ?_⟩ (dec 0)) (fun x1 ok => hX _ ⟨i + 1, 1, by omega, rfl, isB_1, ?_⟩ (dec 1)) (fun x1 no => hX _ ⟨i + 1, 0, by omega, rfl, isB_0, ?_⟩ (dec 0))
    · refine ⟨fun w => absurd w (by decide), fun w => ?_⟩
      have := hj.mpr ⟨w.1, fun j h => w.2 j (by omega)⟩
      rw [x0] at this
      exact absurd this (by decide)
    · refine ⟨fun _ => ⟨(hj.mp x1).1, fun j h => ?_⟩, fun _ => rfl⟩
      by_cases y : j = i
      · rw [y]; exact ok
      · exact (hj.mp x1).2 j (by omega)
    · exact ⟨fun w => absurd w (by decide), fun w => absurd (w.2 i (by omega)) no⟩
section MSTR
variable {M : ZS} {nN nB : Nat} {hm a : Nat → Nat}
def MW (M : ZS) (nN nB : Nat) (hm a : Nat → Nat) : Prop := (M 25 0 = nI nB ∧ M 24 0 = nI nN ∧ nB ≤ 8 ∧ nN ≤ 24) ∧ (∀ n, n < nN → (M 28 n = nI (hm n) ∧ hm n < nB) ∧ (M 32 n = nI (a n) ∧ a n ≤ 3) ∧ (M 27 n = 2 → vp_in (M 30 n) 24 ∧ vp_in (M 31 n) 24) ∧ ∀ k, k < a n → vp_in (M 33 (3 * n + k)) 8 ∧ vp_in (M 34 (3 * n + k)) 24) ∧ (∀ b, b < nB → (M 36 b = 0 ∧ M 37 b = -9) ∨ (¬ M 36 b = 0 ∧ vp_in (M 37 b) 24)) ∧ ∀ e, e < 2 * nB → M 38 (96 + e) = -9 ∨ vp_in (M 38 (96 + e)) 8
theorem MW_cong {M' : ZS} (f : ∀ k, k ≠ 39 → M' k = M k) (h : MW M nN nB hm a) : MW M' nN nB hm a := by
  unfold MW
  rw [f 25 (by decide), f 24 (by decide), f 28 (by decide), f 32 (by decide), f 27 (by decide), f 30 (by decide), f 31 (by decide), f 33 (by decide), f 34 (by decide), f 36 (by decide), f 37 (by decide), f 38 (by decide)]
  exact h
theorem isBefore_sp (W : MW M nN nB hm a) {b y : Nat} {x : Int32} (hb : b < nB) (hy : y ≤ 24) (hx : vp_in x 24) (Q : Int32 → Prop) (h1 : (∃ m, m < nN ∧ x = nI m ∧ bt (M 39 b) (hm m) = true ∧ (hm m ≠ b ∨ m < y)) → Q 1) (h0 : (¬ ∃ m, m < nN ∧ x = nI m ∧ bt (M 39 b) (hm m) = true ∧ (hm m ≠ b ∨ m < y)) → Q 0) : g_X9_isBefore x (nI b) (nI y) M Q := by
  obtain ⟨⟨t0, t1, hB, hN⟩, W2, -⟩ := W
  obtain ⟨m, hm', e⟩ := vp_in_of hx (by omega)
  unfold g_X9_isBefore
  rw [e, t1, nI_clamp (show m < 2 ^ 31 by omega), nI_clamp (show b < 2 ^ 31 by omega)]
  have uq : ∀ m', x = nI m' → m' < nN → m' = m := fun m' a b => (nI_eq (by omega) (by omega)).mp (a.symm.trans e)
  have vm : vp_in (nI m) 24 := vp_in_nI (by omega) (by omega)
  refine ⟨fun z => h0 ?_, fun z => ⟨vp_in_nI (by omega) (by omega), vm, ?_⟩⟩
  · rintro ⟨m', b1, b2, -⟩
    have := uq m' b2 b1
    have := (nI_leI (by omega) (by omega)).mp z
    omega
  have hlt : m < nN := Nat.not_le.mp (fun y => z ((nI_leI (by omega) (by omega)).mpr y))
  obtain ⟨⟨eh, hh⟩, -⟩ := W2 m hlt
  rw [eh]
  refine has_bt _ (by omega) _ (fun w => ⟨fun y => absurd y (by decide), fun _ => ⟨vm, fun q => ⟨fun z2 => h0 ?_, fun z2 => h1 ⟨m, hlt, e, w, Or.inr ?_⟩⟩, fun q => h1 ⟨m, hlt, e, w, Or.inl (fun y => q (by rw [y]))⟩⟩⟩) (fun w => ⟨fun _ => h0 ?_, fun w => (w rfl).elim⟩)
  · rintro ⟨m', b1, b2, b3, b4⟩
    have := uq m' b2 b1
    subst this
    rcases b4 with b4 | b4
    · exact b4 ((nI_eq (by omega) (by omega)).mp q)
    · exact absurd z2 (leI_not b4 (by omega))
  · exact Nat.not_le.mp (fun y => z2 ((nI_leI (by omega) (by omega)).mpr y))
  · rintro ⟨m', b1, b2, b3, b4⟩
    have := uq m' b2 b1
    subst this
    exact w b3
theorem isJoined_sp (W : MW M nN nB hm a) (D : DM (fun e => M 38 (96 + e)) nB (M 39)) {n : Nat} (hn : n < nN) (Q : Int32 → Prop) (h1 : AFv hm a (M 33) (M 34) (fun e => M 38 (96 + e)) nN nB n → Q 1) (h0 : ¬ AFv hm a (M 33) (M 34) (fun e => M 38 (96 + e)) nN nB n → Q 0) : g_X9_isJoined (nI n) M Q := by
  have W' := W
  obtain ⟨⟨t0, t1, hB, hN⟩, W2, -⟩ := W
  obtain ⟨⟨en, n1⟩, ⟨ea, ha⟩, -, harm⟩ := W2 n hn
  have el := nI_clamp (n := n) (by omega)
  have hv : vp_in (nI n) 24 := vp_in_nI (by omega) (by omega)
  unfold g_X9_isJoined
  rw [forall_eq, el, en]
  refine ⟨hv, ?_⟩
  refine fx_all (fun p => ∃ k x w, k ≤ a n ∧ p = (nI (hm n), x, w, nI k) ∧ (∀ i, i < 32 → (bt x i = true ↔ ∃ j, j < k ∧ M 33 (3 * n + j) = nI i)) ∧ isB w ∧ (w = 1 ↔ ∀ j, j < k → ∃ c m, c < nB ∧ m < nN ∧ M 33 (3 * n + j) = nI c ∧ M 34 (3 * n + j) = nI m ∧ gt (fun e => M 38 (96 + e)) c (hm n) ∧ ¬ RW (fun e => M 38 (96 + e)) nB (hm m) c)) (fun p => a n - p.2.2.2.toNatClampNeg) ?_ _ ⟨0, 0, 1, Nat.zero_le _, rfl, fun i hi => by rw [bt_0]; exact ⟨fun w => absurd w (by decide), fun ⟨_, w, _⟩ => absurd w (Nat.not_lt_zero _)⟩, isB_1, fun _ j hj => absurd hj (Nat.not_lt_zero j), fun _ => rfl⟩
  rintro X p ⟨k, x, w, hk, rfl, hx, hw, hj⟩ hX
  have ek := nI_clamp (n := k) (by omega)
  unfold F_X9_isJoined_15 G_X9_isJoined_89 G_X9_isJoined_90
  simp only [el, ea, n3, nI_add, forall_eq, nI_1]
  refine ⟨hv, fun z => ?_, fun z => ?_⟩
  · have h2 := (nI_leI (by omega) (by omega)).mp z
    have h3 : k = a n := by omega
    subst h3
    refine flag_loop (F := F_X9_isJoined_108 (nI n) M Q) (fun f y => (nI (hm n), x, f, y)) (fun p => p.2.2.2) (fun _ _ => rfl) (N := nB) (by omega) (∀ j, j < a n → ∃ c m, c < nB ∧ m < nN ∧ M 33 (3 * n + j) = nI c ∧ M 34 (3 * n + j) = nI m ∧ gt (fun e => M 38 (96 + e)) c (hm n) ∧ ¬ RW (fun e => M 38 (96 + e)) nB (hm m) c) (fun c => gt (fun e => M 38 (96 + e)) c (hm n) → bt x c = true) w hw hj (fun f hf e X => ?_) (fun X c f hc ec hf e x0 x1 x2 => ?_)
    · unfold F_X9_isJoined_108
      simp only [t0]
      refine ⟨fun _ => ⟨hf, ?_⟩, fun z => absurd (Int32.le_refl _) z⟩
      have eqv : f = 1 ↔ AFv hm a (M 33) (M 34) (fun e => M 38 (96 + e)) nN nB n := by
        refine e.trans ⟨fun y => ⟨y.1, fun c hc g => ?_⟩, fun y => ⟨y.1, fun c hc g => ?_⟩⟩
        · exact (hx c (by omega)).mp (y.2 c hc g)
        · exact (hx c (by omega)).mpr (y.2 c hc g)
      rcases hf with y | y
      · rw [y]
        exact h0 (fun s => by have := eqv.mpr s; rw [y] at this; exact absurd this (by decide))
      · rw [y]
        exact h1 (eqv.mp y)
    · unfold F_X9_isJoined_108
      simp only [t0, forall_eq, nI_1]
      refine ⟨fun z => absurd z (leI_not hc (by omega)), fun _ => ⟨fun q => x0 q, fun q => ?_⟩⟩
      have f1 := hf.resolve_left q
      exact goesTo_sp (by omega) _ (fun g => ⟨fun y => absurd y (by decide), fun _ => has_bt x (by omega) _ (fun y => ⟨fun y => absurd y (by decide), fun _ => x1 f1 (fun _ => y)⟩) (fun y => ⟨fun _ => x2 f1 (fun s => y (s g)), fun y => (y rfl).elim⟩)⟩) (fun g => ⟨fun _ => x1 f1 (fun s => absurd s g), fun y => (y rfl).elim⟩)
  · have hlt : k < a n := Nat.not_le.mp (fun y => z ((nI_leI (by omega) (by omega)).mpr (by omega)))
    obtain ⟨v8, v24⟩ := harm k hlt
    obtain ⟨c, hc, ec⟩ := vp_in_of v8 (by omega)
    have vk : vp_in (nI (3 * n + k)) 72 := vp_in_nI (by omega) (by omega)
    rw [nI_clamp (show 3 * n + k < 2 ^ 31 by omega), ec]
    have bits : ∀ i, i < 32 → (bt (x ||| (1 <<< (nI c &&& 31))) i = true ↔ ∃ j, j < k + 1 ∧ M 33 (3 * n + j) = nI i) := by
      intro i hi
      rw [bt_or, bt_pw (by omega) hi, Bool.or_eq_true, decide_eq_true_eq, hx i hi]
      constructor
      · rintro (⟨j, b1, b2⟩ | w)
        · exact ⟨j, by omega, b2⟩
        · exact ⟨k, by omega, by rw [ec, w]⟩
      · rintro ⟨j, b1, b2⟩
        by_cases w : j = k
        · subst w
          exact Or.inr ((nI_eq (by omega) (by omega)).mp (b2.symm.trans ec))
        · exact Or.inl ⟨j, by omega, b2⟩
    have dec : a n - (nI (k + 1)).toNatClampNeg < a n - (nI k).toNatClampNeg := by rw [ek, nI_clamp (by omega)]; omega
    have no : (¬ ((∀ j, j < k → ∃ c m, c < nB ∧ m < nN ∧ M 33 (3 * n + j) = nI c ∧ M 34 (3 * n + j) = nI m ∧ gt (fun e => M 38 (96 + e)) c (hm n) ∧ ¬ RW (fun e => M 38 (96 + e)) nB (hm m) c) ∧ (∃ m, c < nB ∧ m < nN ∧ M 34 (3 * n + k) = nI m ∧ gt (fun e => M 38 (96 + e)) c (hm n) ∧ ¬ RW (fun e => M 38 (96 + e)) nB (hm m) c))) → X (nI (hm n), x ||| (1 <<< (nI c &&& 31)), 0, nI (k + 1)) := by
      intro hno
      refine hX _ ⟨k + 1, _, 0, hlt, rfl, bits, isB_0, fun y => absurd y (by decide), fun y => absurd ⟨fun j hj' => y j (by omega), ?_⟩ hno⟩ dec
      obtain ⟨c', m, c1, c2, c3, c4, c5, c6⟩ := y k (by omega)
      have : c' = c := (nI_eq (by omega) (by omega)).mp (c3.symm.trans ec)
      subst this
      exact ⟨m, c1, c2, c4, c5, c6⟩
    refine ⟨vk, fun q => no (fun y => ?_), fun q => ?_⟩
    · have := hj.mpr y.1
      rw [q] at this
      exact absurd this (by decide)
    have w1 := hw.resolve_left q
    rw [t0]
    refine ⟨fun y => no (fun s => ?_), fun y => ?_⟩
    · obtain ⟨m, s1, -⟩ := s.2
      exact absurd y (leI_not s1 (by omega))
    have hcB : c < nB := Nat.not_le.mp (fun s => y ((nI_leI (by omega) (by omega)).mpr s))
    refine goesTo_sp (by omega) _ (fun g => ⟨fun y => absurd y (by decide), fun _ => ⟨vk, ?_⟩⟩) (fun g => ⟨fun _ => no (fun s => ?_), fun y => (y rfl).elim⟩)
    · refine isBefore_sp W' (y := 24) hcB (by omega) v24 _ (fun s => ⟨fun y => absurd y (by decide), fun _ => ?_⟩) (fun s => ⟨fun _ => no (fun t => s ?_), fun y => (y rfl).elim⟩)
      · obtain ⟨m, m1, m2, m3, -⟩ := s
        refine hX _ ⟨k + 1, _, 1, hlt, rfl, bits, isB_1, fun _ j hj' => ?_, fun _ => rfl⟩ dec
        by_cases q : j = k
        · subst q
          exact ⟨c, m, hcB, m1, ec, m2, g, ((D c hcB _ (by have := (W2 m m1).1.2; omega)).mp m3).2⟩
        · exact hj.mp w1 j (by omega)
      · obtain ⟨m, m1, m2, m3, m4, m5⟩ := t.2
        have := (W2 m m2).1.2
        exact ⟨m, m2, m3, (D c hcB _ (by omega)).mpr ⟨this, m5⟩, Or.inr (by omega)⟩
    · obtain ⟨m, m1, m2, m3, m4, m5⟩ := s.2
      exact g m4
theorem mStrict_sp (W : MW M nN nB hm a) (Q : Int32 → ZS → Prop) (h1 : STR (M 27) hm (M 30) (M 31) a (M 33) (M 34) (M 37) (fun e => M 38 (96 + e)) nN nB → ∀ M', (∀ k, k ≠ 39 → M' k = M k) → DM (fun e => M 38 (96 + e)) nB (M' 39) → Q 1 M') (h0 : ¬ STR (M 27) hm (M 30) (M 31) a (M 33) (M 34) (M 37) (fun e => M 38 (96 + e)) nN nB → ∀ M', (∀ k, k ≠ 39 → M' k = M k) → Q 0 M') : g_X9_isStrict M Q := by
  have W' := W
  obtain ⟨⟨t0, t1, hB, hN⟩, W2, W3, W4⟩ := W
  refine all_loop (F := F_X9_isStrict_2 Q) (fun x => (x, M)) (fun p => p.1) (fun _ => rfl) (i0 := 0) (N := nB) (by omega) (by omega) (fun b => ∀ k, k < 2 → M 38 (96 + (2 * b + k)) = -9 ∨ ∃ t, 0 < t ∧ t < nB ∧ M 38 (96 + (2 * b + k)) = nI t) (fun hall X => ?_) (fun X b _ hb el hX => ?_)
  rotate_left
  · unfold F_X9_isStrict_2
    simp only [t0]
    refine ⟨fun z => absurd z (leI_not hb (by omega)), fun _ => ?_⟩
    refine all_loop (F := F_X9_isStrict_12 Q X) (fun x => (nI b, x, M)) (fun p => p.2.1) (fun _ => rfl) (i0 := 0) (N := 2) (by omega) (by omega) (fun k => M 38 (96 + (2 * b + k)) = -9 ∨ ∃ t, 0 < t ∧ t < nB ∧ M 38 (96 + (2 * b + k)) = nI t) (fun hall Y => ?_) (fun Y k _ hk ek hY => ?_)
    · unfold F_X9_isStrict_12
      simp only [forall_eq, nI_1]
      exact ⟨fun _ => hX (fun k hk => hall k (Nat.zero_le _) hk), fun z => absurd (Int32.le_refl _) z⟩
    · unfold F_X9_isStrict_12
      have e1 : (96 : Int32) + 2 * nI b + nI k = nI (96 + (2 * b + k)) := by rw [n96, nI_add, Nat.add_assoc]
      simp only [e1, forall_eq, nI_1, t0]
      rw [nI_clamp (show 96 + (2 * b + k) < 2 ^ 31 by omega)]
      have bad : ¬ (M 38 (96 + (2 * b + k)) = -9 ∨ ∃ t, 0 < t ∧ t < nB ∧ M 38 (96 + (2 * b + k)) = nI t) → Q 0 M := fun w => h0 (fun s => w (s.1 (2 * b + k) (by omega))) M (fun _ _ => rfl)
      refine ⟨fun z => absurd z (leI_not (N := 2) hk (by omega)), fun _ => ⟨vp_in_nI (by omega) (by omega), fun q => bad ?_, fun q => ⟨fun z => hY ?_, fun z => bad ?_⟩⟩⟩
      · rintro (w | ⟨t, w1, w2, w3⟩)
        · rw [q] at w
          exact absurd w (by decide)
        · have : t = 0 := (nI_eq (b := 0) (by omega) (by omega)).mp (w3.symm.trans q)
          omega
      · rcases W4 (2 * b + k) (by omega) with w | w
        · exact Or.inl w
        · obtain ⟨t, ht, et⟩ := vp_in_of w (by omega)
          refine Or.inr ⟨t, Nat.pos_of_ne_zero (fun y => q (by rw [et, y]; rfl)), ?_, et⟩
          rw [et] at z
          exact (nI_ltI (by omega) (by omega)).mp z
      · rintro (w | ⟨t, w1, w2, w3⟩)
        · rw [w] at z
          exact z (Int32.lt_iff_toInt_lt.mpr (by rw [nI_toInt (by omega), show (-9 : Int32).toInt = -9 from by decide]; omega))
        · rw [w3] at z
          exact z ((nI_ltI (by omega) (by omega)).mpr w2)
  · have hg : WG (fun e => M 38 (96 + e)) nB := by
      intro e he
      have := hall (e / 2) (Nat.zero_le _) (by omega) (e % 2) (by omega)
      rw [show 2 * (e / 2) + e % 2 = e by omega] at this
      exact this
    unfold F_X9_isStrict_2
    simp only [t0]
    refine ⟨fun _ => lays_sp hB t0 hg _ (fun M' f D => ?_), fun z => absurd (Int32.le_refl _) z⟩
    have Wp := MW_cong f W'
    have D' : DM (fun e => M' 38 (96 + e)) nB (M' 39) := by rw [f 38 (by decide)]; exact D
    have OKb : Nat → Prop := fun b => M 37 b = -9 ∨ ∃ m, m < nN ∧ M 37 b = nI m ∧ ¬ RW (fun e => M 38 (96 + e)) nB (hm m) b
    refine flag_loop (F := F_X9_isStrict_65 Q) (fun x y => (x, y, M')) (fun p => p.2.1) (fun _ _ => rfl) (N := nB) (by omega) True (fun b => M 37 b = -9 ∨ ∃ m, m < nN ∧ M 37 b = nI m ∧ ¬ RW (fun e => M 38 (96 + e)) nB (hm m) b) 1 isB_1 ⟨fun _ => trivial, fun _ => rfl⟩ (fun x hx ex X => ?_) (fun X b x hb el hx ex x0 x1 x2 => ?_)
    · unfold F_X9_isStrict_65
      simp only [f 25 (by decide), t0]
      refine ⟨fun _ => ?_, fun z => absurd (Int32.le_refl _) z⟩
      refine flag_loop (F := F_X9_isStrict_116 Q) (fun x y => (x, y, M')) (fun p => p.2.1) (fun _ _ => rfl) (N := nN) (by omega) (∀ b, b < nB → M 37 b = -9 ∨ ∃ m, m < nN ∧ M 37 b = nI m ∧ ¬ RW (fun e => M 38 (96 + e)) nB (hm m) b) (fun n => (M 27 n = 2 → BFv hm (fun e => M 38 (96 + e)) nN nB (M 30 n) n ∧ BFv hm (fun e => M 38 (96 + e)) nN nB (M 31 n) n) ∧ (M 27 n = 3 → AFv hm a (M 33) (M 34) (fun e => M 38 (96 + e)) nN nB n)) x hx (ex.trans ⟨fun w => w.2, fun w => ⟨trivial, w⟩⟩) (fun y hy ey Y => ?_) (fun Y n y hn el hy ey y0 y1 y2 => ?_)
      · unfold F_X9_isStrict_116
        simp only [f 24 (by decide), t1]
        refine ⟨fun _ => ⟨hy, ?_⟩, fun z => absurd (Int32.le_refl _) z⟩
        rcases hy with w | w
        · rw [w]
          refine h0 (fun s => ?_) M' f
          have := ey.mpr ⟨s.2.1, s.2.2⟩
          rw [w] at this
          exact absurd this (by decide)
        · rw [w]
          exact h1 ⟨hg, (ey.mp w).1, (ey.mp w).2⟩ M' f D
      · unfold F_X9_isStrict_116
        obtain ⟨⟨eh, hh⟩, -, ops, -⟩ := W2 n hn
        have hv : vp_in (nI n) 24 := vp_in_nI (by omega) (by omega)
        simp only [f 24 (by decide), f 27 (by decide), f 28 (by decide), f 30 (by decide), f 31 (by decide), t1, el, forall_eq, nI_1, eh]
        refine ⟨fun z => absurd z (leI_not hn (by omega)), fun _ => ⟨fun q => ⟨hy, ?_⟩, fun q => ⟨hv, hv, fun q3 => ?_, fun q3 => ⟨hv, fun q2 => ⟨hv, ?_⟩, fun q2 => y1 (hy.resolve_left q) ⟨fun w => absurd w q2, fun w => absurd w q3⟩⟩⟩⟩⟩
        · rw [q]
          refine h0 (fun s => ?_) M' f
          have := ey.mpr ⟨s.2.1, fun j hj => s.2.2 j (by omega)⟩
          rw [q] at this
          exact absurd this (by decide)
        · have yy := hy.resolve_left q
          refine isJoined_sp Wp D' hn _ (fun w => y1 yy ⟨fun k => ?_, fun _ => ?_⟩) (fun w => y2 yy (fun s => w ?_))
          · rw [q3] at k
            exact absurd k (by decide)
          · rw [f 33 (by decide), f 34 (by decide), f 38 (by decide)] at w
            exact w
          · rw [f 33 (by decide), f 34 (by decide), f 38 (by decide)]
            exact s.2 q3
        · have yy := hy.resolve_left q
          obtain ⟨o1, o2⟩ := ops q2
          have conv : ∀ v : Int32, (∃ m, m < nN ∧ v = nI m ∧ bt (M' 39 (hm n)) (hm m) = true ∧ (hm m ≠ hm n ∨ m < n)) ↔ BFv hm (fun e => M 38 (96 + e)) nN nB v n := by
            intro v
            constructor
            · rintro ⟨m, m1, m2, m3, m4⟩
              have := (W2 m m1).1.2
              refine ⟨m, m1, m2, ?_⟩
              by_cases w : hm m = hm n
              · exact Or.inl ⟨w, m4.resolve_left (fun k => k w)⟩
              · exact Or.inr ⟨w, ((D (hm n) hh _ (by omega)).mp m3).2⟩
            · rintro ⟨m, m1, m2, m3⟩
              have := (W2 m m1).1.2
              refine ⟨m, m1, m2, ?_⟩
              rcases m3 with ⟨m3, m4⟩ | ⟨m3, m4⟩
              · refine ⟨(D (hm n) hh _ (by omega)).mpr ⟨this, ?_⟩, Or.inr m4⟩
                rw [m3]
                exact RW_n
              · exact ⟨(D (hm n) hh _ (by omega)).mpr ⟨this, m4⟩, Or.inl m3⟩
          refine isBefore_sp Wp hh (by omega) o1 _ (fun w => ⟨fun y => absurd y (by decide), fun _ => ⟨hv, isBefore_sp Wp hh (by omega) o2 _ (fun w' => ⟨fun y => absurd y (by decide), fun _ => y1 yy ⟨fun _ => ⟨(conv _).mp w, (conv _).mp w'⟩, fun k => absurd k q3⟩⟩) (fun w' => ⟨fun _ => y2 yy (fun s => w' ((conv _).mpr (s.1 q2).2)), fun y => (y rfl).elim⟩)⟩⟩) (fun w => ⟨fun _ => y2 yy (fun s => w ((conv _).mpr (s.1 q2).1)), fun y => (y rfl).elim⟩)
    · unfold F_X9_isStrict_65
      have hv : vp_in (nI b) 8 := vp_in_nI (by omega) (by omega)
      simp only [f 25 (by decide), f 36 (by decide), f 37 (by decide), t0, el, forall_eq, nI_1]
      refine ⟨fun z => absurd z (leI_not hb (by omega)), fun _ => ⟨fun q => x0 q, fun q => ⟨hv, fun q36 => x1 (hx.resolve_left q) (Or.inl ?_), fun q36 => ⟨hv, ?_⟩⟩⟩⟩
      · rcases W3 b hb with w | w
        · exact w.2
        · exact absurd q36 w.1
      · have xx := hx.resolve_left q
        have v24 : vp_in (M 37 b) 24 := by
          rcases W3 b hb with w | w
          · exact absurd w.1 q36
          · exact w.2
        refine isBefore_sp Wp (y := 24) hb (by omega) v24 _ (fun w => ⟨fun y => absurd y (by decide), fun _ => x1 xx (Or.inr ?_)⟩) (fun w => ⟨fun _ => x2 xx (fun s => w ?_), fun y => (y rfl).elim⟩)
        · obtain ⟨m, m1, m2, m3, -⟩ := w
          have := (W2 m m1).1.2
          exact ⟨m, m1, m2, ((D b hb _ (by omega)).mp m3).2⟩
        · rcases s with s | ⟨m, m1, m2, m3⟩
          · rw [s] at v24
            exact absurd (Or.inl (by decide)) v24
          · have := (W2 m m1).1.2
            exact ⟨m, m1, m2, (D b hb _ (by omega)).mpr ⟨this, m3⟩, Or.inr (by omega)⟩
end MSTR
