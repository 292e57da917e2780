/-! strict: what it is; the class's side -/
def BFv (hm : Nat → Nat) (g : ZR) (nN nB : Nat) (x : Int32) (n : Nat) : Prop := ∃ m, m < nN ∧ x = nI m ∧ ((hm m = hm n ∧ m < n) ∨ (hm m ≠ hm n ∧ ¬ RW g nB (hm m) (hm n)))
def AFv (hm a : Nat → Nat) (ab an g : ZR) (nN nB n : Nat) : Prop := (∀ k, k < a n → ∃ c m, c < nB ∧ m < nN ∧ ab (3 * n + k) = nI c ∧ an (3 * n + k) = nI m ∧ gt g c (hm n) ∧ ¬ RW g nB (hm m) c) ∧ ∀ c, c < nB → gt g c (hm n) → ∃ k, k < a n ∧ ab (3 * n + k) = nI c
def STR (mk : ZR) (hm : Nat → Nat) (l r : ZR) (a : Nat → Nat) (ab an en g : ZR) (nN nB : Nat) : Prop := WG g nB ∧ (∀ b, b < nB → en b = -9 ∨ ∃ m, m < nN ∧ en b = nI m ∧ ¬ RW g nB (hm m) b) ∧ ∀ n, n < nN → (mk n = 2 → BFv hm g nN nB (l n) n ∧ BFv hm g nN nB (r n) n) ∧ (mk n = 3 → AFv hm a ab an g nN nB n)
theorem RW_cong {g g' : ZR} {nB d b : Nat} (h : ∀ e, e < 2 * nB → g' e = g e) (r : RW g nB d b) : RW g' nB d b := fun P a s => r P a (fun e t he hp hg => s e t he hp ((h e he).trans hg))
theorem gt_cong {g g' : ZR} {nB p b : Nat} (h : ∀ e, e < 2 * nB → g' e = g e) (hp : p < nB) (r : gt g p b) : gt g' p b := by
  unfold gt
  rw [h (2 * p + 0) (by omega), h (2 * p + 1) (by omega)]
  exact r
theorem STR_cong {mk mk' : ZR} {hm : Nat → Nat} {l l' r r' : ZR} {a : Nat → Nat} {ab ab' an an' en en' g g' : ZR} {nN nB : Nat} (h1 : ∀ n, n < nN → mk' n = mk n) (h2 : ∀ n, n < nN → mk n = 2 → l' n = l n ∧ r' n = r n) (h3 : ∀ n k, n < nN → k < a n → ab' (3 * n + k) = ab (3 * n + k) ∧ an' (3 * n + k) = an (3 * n + k)) (h4 : ∀ b, b < nB → en' b = en b) (h5 : ∀ e, e < 2 * nB → g' e = g e) (hm1 : ∀ n, n < nN → hm n < nB) (s : STR mk hm l r a ab an en g nN nB) : STR mk' hm l' r' a ab' an' en' g' nN nB := by
  have h5' : ∀ e, e < 2 * nB → g e = g' e := fun e he => (h5 e he).symm
  have nr : ∀ {d b}, ¬ RW g nB d b → ¬ RW g' nB d b := fun h w => h (RW_cong h5' w)
  have bf : ∀ {x n}, BFv hm g nN nB x n → BFv hm g' nN nB x n := by
    rintro x n ⟨m, a1, a2, a3⟩
    refine ⟨m, a1, a2, ?_⟩
    rcases a3 with w | ⟨w1, w2⟩
    · exact Or.inl w
    · exact Or.inr ⟨w1, nr w2⟩
  obtain ⟨s1, s2, s3⟩ := s
  refine ⟨fun e he => ?_, fun b hb => ?_, fun n hn => ⟨fun q => ?_, fun q => ?_⟩⟩
  · rw [h5 e he]
    exact s1 e he
  · rw [h4 b hb]
    rcases s2 b hb with w | ⟨m, w1, w2, w3⟩
    · exact Or.inl w
    · exact Or.inr ⟨m, w1, w2, nr w3⟩
  · rw [h1 n hn] at q
    rw [(h2 n hn q).1, (h2 n hn q).2]
    exact ⟨bf ((s3 n hn).1 q).1, bf ((s3 n hn).1 q).2⟩
  · rw [h1 n hn] at q
    obtain ⟨a1, a2⟩ := (s3 n hn).2 q
    refine ⟨fun k hk => ?_, fun c hc w => ?_⟩
    · rw [(h3 n k hn hk).1, (h3 n k hn hk).2]
      obtain ⟨c, m, b1, b2, b3, b4, b5, b6⟩ := a1 k hk
      exact ⟨c, m, b1, b2, b3, b4, gt_cong h5 b1 b5, nr b6⟩
    · obtain ⟨k, hk, e⟩ := a2 c hc (gt_cong h5' hc w)
      exact ⟨k, hk, by rw [(h3 n k hn hk).1]; exact e⟩
/-- a loop that stops at the first that isn't so -/
theorem all_loop {α : Type} {F : (α → Prop) → α → Prop} (mk : Int32 → α) (pj : α → Int32) (hpj : ∀ x, pj (mk x) = x) {i0 N : Nat} (h0 : i0 ≤ N) (hN : N < 2 ^ 30) (OK : Nat → Prop) (he : (∀ i, i0 ≤ i → i < N → OK i) → ∀ X, F X (mk (nI N))) (hs : ∀ X i, i0 ≤ i → i < N → (nI i).toNatClampNeg = i → (OK i → X (mk (nI (i + 1)))) → F X (mk (nI i))) : ∃ n, fx F n (mk (nI i0)) := by
  refine fx_all (fun p => ∃ i, i0 ≤ i ∧ i ≤ N ∧ p = mk (nI i) ∧ ∀ j, i0 ≤ j → j < i → OK j) (fun p => N - (pj p).toNatClampNeg) ?_ _ ⟨i0, Nat.le_refl _, h0, rfl, fun j h1 h2 => absurd h1 (by omega)⟩
  rintro X p ⟨i, h1, h2, rfl, hj⟩ hX
  have el := nI_clamp (n := i) (by omega)
  by_cases q : i = N
  · subst q
    exact he hj X
  · refine hs X i h1 (by omega) el (fun ok => hX _ ⟨i + 1, by omega, by omega, rfl, fun j a b => ?_⟩ ?_)
    · by_cases w : j = i
      · rw [w]; exact ok
      · exact hj j a (by omega)
    · show N - (pj (mk (nI (i + 1)))).toNatClampNeg < N - (pj (mk (nI i))).toNatClampNeg
      rw [hpj, hpj, el, nI_clamp (by omega)]
      omega
section CSTR
variable {T : ZS} {nN nB : Nat} {hm a : Nat → Nat}
def TW (T : ZS) (nN nB : Nat) (hm a : Nat → Nat) : Prop := (T 0 0 = nI nB ∧ T 1 0 = nI nN ∧ nB ≤ 8 ∧ nN ≤ 24) ∧ ∀ n, n < nN → (T 2 n = nI (hm n) ∧ hm n < nB) ∧ (T 8 n = nI (a n) ∧ a n ≤ 3)
theorem leI_not {i N : Nat} (h : i < N) (hN : N < 2 ^ 30) : ¬ nI N ≤ nI i := fun y => by
  have := (nI_leI (by omega) (by omega)).mp y
  omega
theorem endsTell_sp (W : TW T nN nB hm a) (Q : Int32 → Prop) (h1 : ((∀ b, b < nB → T 14 b = -9 ∨ ∃ n, n < nN ∧ T 14 b = nI n) ∧ WG (T 15) nB) → Q 1) (h0 : ¬ ((∀ b, b < nB → T 14 b = -9 ∨ ∃ n, n < nN ∧ T 14 b = nI n) ∧ WG (T 15) nB) → Q 0) : g_X4_endsTellOfWhatIsThere T Q := by
  obtain ⟨⟨t0, t1, hB, hN⟩, -⟩ := W
  have e2 : (2 : Int32) * nI nB = nI (2 * nB) := two_nI nB
  refine all_loop (F := F_X4_endsTellOfWhatIsThere_2 T Q) (fun x => x) (fun x => x) (fun _ => rfl) (i0 := 0) (N := nB) (by omega) (by omega) (fun b => T 14 b = -9 ∨ ∃ n, n < nN ∧ T 14 b = nI n) (fun hall X => ?_) (fun X b _ hb el hX => ?_)
  · unfold F_X4_endsTellOfWhatIsThere_2
    simp only [t0]
    refine ⟨fun _ => ?_, fun z => absurd (Int32.le_refl _) z⟩
    refine all_loop (F := F_X4_endsTellOfWhatIsThere_44 T Q) (fun x => x) (fun x => x) (fun _ => rfl) (i0 := 0) (N := 2 * nB) (by omega) (by omega) (fun e => T 15 e = -9 ∨ ∃ t, 0 < t ∧ t < nB ∧ T 15 e = nI t) (fun hall2 X => ?_) (fun X e _ he el hX => ?_)
    · unfold F_X4_endsTellOfWhatIsThere_44
      simp only [t0, e2]
      exact ⟨fun _ => h1 ⟨fun b hb => hall b (Nat.zero_le _) hb, fun e he => hall2 e (Nat.zero_le _) he⟩, fun z => absurd (Int32.le_refl _) z⟩
    · unfold F_X4_endsTellOfWhatIsThere_44
      have hv : vp_in (nI e) 16 := vp_in_nI (by omega) (by omega)
      simp only [t0, e2, el, forall_eq, nI_1]
      have bad : ¬ (T 15 e = -9 ∨ ∃ t, 0 < t ∧ t < nB ∧ T 15 e = nI t) → Q 0 := fun w => h0 (fun y => w (y.2 e he))
      refine ⟨fun z => absurd z (leI_not he (by omega)), fun _ => ⟨hv, fun q => hX (Or.inl q), fun q => ⟨hv, fun q0 => bad ?_, fun q0 => ⟨hv, hasBlock_sp _ hB t0 _ (fun t ht et => ⟨fun w => absurd w (by decide), fun _ => hX (Or.inr ⟨t, ?_, ht, et⟩)⟩) (fun no => ⟨fun _ => bad ?_, fun w => (w rfl).elim⟩)⟩⟩⟩⟩
      · rintro (w | ⟨t, w1, w2, w3⟩)
        · exact q w
        · have : t = 0 := (nI_eq (b := 0) (by omega) (by omega)).mp (w3.symm.trans q0)
          omega
      · refine Nat.pos_of_ne_zero (fun w => q0 ?_)
        rw [et, w]
        rfl
      · rintro (w | ⟨t, w1, w2, w3⟩)
        · exact q w
        · exact no ⟨t, w2, w3⟩
  · unfold F_X4_endsTellOfWhatIsThere_2
    have hv : vp_in (nI b) 8 := vp_in_nI (by omega) (by omega)
    simp only [t0, el, forall_eq, nI_1]
    refine ⟨fun z => absurd z (leI_not hb (by omega)), fun _ => ⟨hv, fun q => hX (Or.inl q), fun q => ⟨hv, hasName_sp _ hN t1 _ (fun n hn en => ⟨fun w => absurd w (by decide), fun _ => hX (Or.inr ⟨n, hn, en⟩)⟩) (fun no => ⟨fun _ => h0 (fun y => ?_), fun w => (w rfl).elim⟩)⟩⟩⟩
    rcases y.1 b hb with w | w
    · exact q w
    · exact no w
def C2 (T : ZS) (nN nB : Nat) (a : Nat → Nat) (n : Nat) : Prop := (T 3 n = 2 → (∃ m, m < nN ∧ T 6 n = nI m) ∧ ∃ m, m < nN ∧ T 7 n = nI m) ∧ ∀ k, k < a n → (∃ b, b < nB ∧ T 9 (3 * n + k) = nI b) ∧ ∃ m, m < nN ∧ T 10 (3 * n + k) = nI m
theorem n3 (n : Nat) : (3 : Int32) * nI n = nI (3 * n) := by rw [show (3 : Int32) = nI 3 from rfl, pk_mul]
theorem namesTell_sp (W : TW T nN nB hm a) (Q : Int32 → Prop) (h1 : (∀ n, n < nN → C2 T nN nB a n) → Q 1) (h0 : ¬ (∀ n, n < nN → C2 T nN nB a n) → Q 0) : g_X4_namesTellOfWhatIsThere T Q := by
  obtain ⟨⟨t0, t1, hB, hN⟩, W2⟩ := W
  refine all_loop (F := F_X4_namesTellOfWhatIsThere_2 T Q) (fun x => x) (fun x => x) (fun _ => rfl) (i0 := 0) (N := nN) (by omega) (by omega) (fun n => C2 T nN nB a n) (fun hall X => ?_) (fun X n _ hn el hX => ?_)
  · unfold F_X4_namesTellOfWhatIsThere_2
    simp only [t1]
    exact ⟨fun _ => h1 (fun n hn => hall n (Nat.zero_le _) hn), fun z => absurd (Int32.le_refl _) z⟩
  · obtain ⟨-, ea, ha⟩ := W2 n hn
    have hv : vp_in (nI n) 24 := vp_in_nI (by omega) (by omega)
    have bad : ¬ C2 T nN nB a n → Q 0 := fun w => h0 (fun y => w (y n hn))
    have arms : (T 3 n = 2 → (∃ m, m < nN ∧ T 6 n = nI m) ∧ ∃ m, m < nN ∧ T 7 n = nI m) → G_X4_namesTellOfWhatIsThere_48 T Q X (nI n) := by
      intro hp
      unfold G_X4_namesTellOfWhatIsThere_48
      rw [forall_eq, n3]
      refine all_loop (F := F_X4_namesTellOfWhatIsThere_52 T Q X) (fun x => (nI n, x)) (fun p => p.2) (fun _ => rfl) (i0 := 3 * n) (N := 3 * n + a n) (by omega) (by omega) (fun i => (∃ b, b < nB ∧ T 9 i = nI b) ∧ ∃ m, m < nN ∧ T 10 i = nI m) (fun hall Y => ?_) (fun Y i hi1 hi2 ei hY => ?_)
      · unfold F_X4_namesTellOfWhatIsThere_52
        simp only [el, ea, n3, nI_add, forall_eq, nI_1]
        exact ⟨hv, fun _ => hX ⟨hp, fun k hk => hall (3 * n + k) (by omega) (by omega)⟩, fun z => absurd (Int32.le_refl _) z⟩
      · unfold F_X4_namesTellOfWhatIsThere_52
        have hvi : vp_in (nI i) 72 := vp_in_nI (by omega) (by omega)
        simp only [el, ea, n3, nI_add, forall_eq, nI_1, ei]
        have no : ¬ ((∃ b, b < nB ∧ T 9 i = nI b) ∧ ∃ m, m < nN ∧ T 10 i = nI m) → Q 0 := fun w => bad (fun y => w (by
          have := y.2 (i - 3 * n) (by omega)
          rw [show 3 * n + (i - 3 * n) = i by omega] at this
          exact this))
        refine ⟨hv, fun z => absurd z (leI_not hi2 (by omega)), fun _ => ⟨hvi, hasBlock_sp _ hB t0 _ (fun b hb eb => ⟨fun w => absurd w (by decide), fun _ => ⟨hvi, hasName_sp _ hN t1 _ (fun m hm' em => ⟨fun w => absurd w (by decide), fun _ => hY ⟨⟨b, hb, eb⟩, m, hm', em⟩⟩) (fun w => ⟨fun _ => no (fun y => w y.2), fun w => (w rfl).elim⟩)⟩⟩) (fun w => ⟨fun _ => no (fun y => w y.1), fun w => (w rfl).elim⟩)⟩⟩
    unfold F_X4_namesTellOfWhatIsThere_2
    simp only [t1, el]
    refine ⟨fun z => absurd z (leI_not hn (by omega)), fun _ => ⟨hv, fun q => ⟨hv, hasName_sp _ hN t1 _ (fun m hm' em => ⟨fun w => absurd w (by decide), fun _ => ⟨hv, hasName_sp _ hN t1 _ (fun m2 hm2 em2 => ⟨fun w => absurd w (by decide), fun _ => arms (fun _ => ⟨⟨m, hm', em⟩, m2, hm2, em2⟩)⟩) (fun w => ⟨fun _ => bad (fun y => w (y.1 q).2), fun w => (w rfl).elim⟩)⟩⟩) (fun w => ⟨fun _ => bad (fun y => w (y.1 q).1), fun w => (w rfl).elim⟩)⟩, fun q => arms (fun w => absurd w q)⟩⟩
theorem domi_sp {d b : Nat} (hd : d < 8) (hb : b < 8) (Q : Int32 → Prop) (h1 : bt (T 16 b) d = true → Q 1) (h0 : ¬ bt (T 16 b) d = true → Q 0) : g_X4_dominates (nI d) (nI b) T Q := by
  unfold g_X4_dominates
  rw [nI_clamp (by omega)]
  exact ⟨vp_in_nI hb (by omega), isIn_sp _ hd _ (fun w => ⟨isB_1, h1 w⟩) (fun w => ⟨isB_0, h0 w⟩)⟩
theorem isAhead_sp (W : TW T nN nB hm a) (D : DM (T 15) nB (T 16)) {n : Nat} {x : Int32} (hn : n < nN) (hx : ∃ m, m < nN ∧ x = nI m) (Q : Int32 → Prop) (h1 : BFv hm (T 15) nN nB x n → Q 1) (h0 : ¬ BFv hm (T 15) nN nB x n → Q 0) : g_X4_isAhead x (nI n) T Q := by
  obtain ⟨⟨t0, t1, hB, hN⟩, W2⟩ := W
  obtain ⟨m, hm', e⟩ := hx
  obtain ⟨⟨em, m1⟩, -⟩ := W2 m hm'
  obtain ⟨⟨en, n1⟩, -⟩ := W2 n hn
  unfold g_X4_isAhead
  rw [e, nI_clamp (show m < 2 ^ 31 by omega), nI_clamp (show n < 2 ^ 31 by omega), em, en]
  have vm : vp_in (nI m) 24 := vp_in_nI (by omega) (by omega)
  have vn : vp_in (nI n) 24 := vp_in_nI (by omega) (by omega)
  have uq : ∀ m', x = nI m' → m' < nN → m' = m := fun m' a b => (nI_eq (by omega) (by omega)).mp (a.symm.trans e)
  refine ⟨vm, vn, fun q => ⟨fun z => h0 ?_, fun z => h1 ⟨m, hm', e, Or.inl ⟨(nI_eq (by omega) (by omega)).mp q, ?_⟩⟩⟩, fun q => ⟨vm, vn, domi_sp (by omega) (by omega) _ (fun w => ⟨isB_1, h1 ⟨m, hm', e, Or.inr ⟨fun y => q (by rw [y]), ((D _ n1 _ (by omega)).mp w).2⟩⟩⟩) (fun w => ⟨isB_0, h0 ?_⟩)⟩⟩
  · rintro ⟨m', b1, b2, b3⟩
    have := uq m' b2 b1
    subst this
    have eq : hm m' = hm n := (nI_eq (by omega) (by omega)).mp q
    rcases b3 with ⟨-, b3⟩ | ⟨b3, -⟩
    · exact absurd z (leI_not b3 (by omega))
    · exact b3 eq
  · refine Nat.not_le.mp (fun y => z ((nI_leI (by omega) (by omega)).mpr y))
  · rintro ⟨m', b1, b2, b3⟩
    have := uq m' b2 b1
    subst this
    rcases b3 with ⟨b3, -⟩ | ⟨-, b3⟩
    · exact q (by rw [b3])
    · exact w ((D _ n1 _ (by omega)).mpr ⟨m1, b3⟩)
theorem coming_sp (W : TW T nN nB hm a) {b : Nat} (Q : Int32 → Prop) (h : ∀ x, (∀ i, i < 32 → (bt x i = true ↔ (i < nB ∧ gt (T 15) i b))) → Q x) : g_X4_comingTo (nI b) T Q := by
  obtain ⟨⟨t0, t1, hB, hN⟩, -⟩ := W
  have e2 : (2 : Int32) * nI nB = nI (2 * nB) := two_nI nB
  unfold g_X4_comingTo
  refine fx_all (fun p => ∃ e x, e ≤ 2 * nB ∧ p = (x, nI e) ∧ ∀ i, i < 32 → (bt x i = true ↔ ∃ e', e' < e ∧ e' / 2 = i ∧ T 15 e' = nI b)) (fun p => 2 * nB - p.2.toNatClampNeg) ?_ _ ⟨0, 0, Nat.zero_le _, rfl, fun i hi => by rw [bt_0]; exact ⟨fun w => absurd w (by decide), fun ⟨_, w, _⟩ => absurd w (Nat.not_lt_zero _)⟩⟩
  rintro X p ⟨e, x, he, rfl, hx⟩ hX
  have el := nI_clamp (n := e) (by omega)
  unfold F_X4_comingTo_4
  have ed : nI e / 2 = nI (e / 2) := pk_div (a := e) (d := 2) (by omega) (by omega) (by omega)
  simp only [t0, e2, el, forall_eq, nI_1, ed]
  refine ⟨fun z => ?_, fun z => ?_⟩
  · have h2 := (nI_leI (by omega) (by omega)).mp z
    refine h x (fun i hi => (hx i hi).trans ⟨fun ⟨e', a1, a2, a3⟩ => ⟨by omega, by rw [← a2]; exact gt_of a3⟩, fun ⟨w1, w2⟩ => ?_⟩)
    obtain ⟨e', a1, a2, a3⟩ := gt_e w2
    exact ⟨e', by omega, a1, a3⟩
  have hlt : e < 2 * nB := Nat.not_le.mp (fun y => z ((nI_leI (by omega) (by omega)).mpr y))
  have dec : 2 * nB - (nI (e + 1)).toNatClampNeg < 2 * nB - (nI e).toNatClampNeg := by rw [el, nI_clamp (by omega)]; omega
  refine ⟨vp_in_nI (by omega) (by omega), fun q => hX _ ⟨e + 1, _, hlt, rfl, fun i hi => ?_⟩ dec, fun q => hX _ ⟨e + 1, x, hlt, rfl, fun i hi => (hx i hi).trans ⟨fun ⟨e', a1, a2⟩ => ⟨e', by omega, a2⟩, fun ⟨e', a1, a2, a3⟩ => ⟨e', ?_, a2, a3⟩⟩⟩ dec⟩
  · rw [bt_or, bt_pw (by omega) hi, Bool.or_eq_true, decide_eq_true_eq, hx i hi]
    constructor
    · rintro (⟨e', a1, a2⟩ | w)
      · exact ⟨e', by omega, a2⟩
      · exact ⟨e, by omega, w.symm, q⟩
    · rintro ⟨e', a1, a2, a3⟩
      by_cases w : e' = e
      · subst w
        exact Or.inr a2.symm
      · exact Or.inl ⟨e', by omega, a2, a3⟩
  · have : e' ≠ e := fun w => by rw [w] at a3; exact q a3
    omega
theorem armsFit_sp (W : TW T nN nB hm a) (D : DM (T 15) nB (T 16)) {n : Nat} (hn : n < nN) (hc : C2 T nN nB a n) (Q : Int32 → Prop) (h1 : AFv hm a (T 9) (T 10) (T 15) nN nB n → Q 1) (h0 : ¬ AFv hm a (T 9) (T 10) (T 15) nN nB n → Q 0) : g_X4_armsFit (nI n) T Q := by
  have W' := W
  obtain ⟨⟨t0, t1, hB, hN⟩, W2⟩ := W
  obtain ⟨⟨en, n1⟩, ea, ha⟩ := W2 n hn
  have el := nI_clamp (n := n) (by omega)
  have hv : vp_in (nI n) 24 := vp_in_nI (by omega) (by omega)
  unfold g_X4_armsFit
  rw [forall_eq, n3]
  refine fx_all (fun p => ∃ k x, k ≤ a n ∧ p = (x, nI (3 * n + k)) ∧ (∀ i, i < 32 → (bt x i = true ↔ ∃ j, j < k ∧ T 9 (3 * n + j) = nI i)) ∧ ∀ j, j < k → ∃ c m, c < nB ∧ m < nN ∧ T 9 (3 * n + j) = nI c ∧ T 10 (3 * n + j) = nI m ∧ ¬ RW (T 15) nB (hm m) c) (fun p => 3 * n + a n - p.2.toNatClampNeg) ?_ _ ⟨0, 0, Nat.zero_le _, rfl, fun i hi => by rw [bt_0]; exact ⟨fun w => absurd w (by decide), fun ⟨_, w, _⟩ => absurd w (Nat.not_lt_zero _)⟩, fun j hj => absurd hj (Nat.not_lt_zero j)⟩
  rintro X p ⟨k, x, hk, rfl, hx, hj⟩ hX
  have ek := nI_clamp (n := 3 * n + k) (by omega)
  unfold F_X4_armsFit_6
  simp only [el, ea, n3, nI_add, forall_eq, nI_1, ek, en]
  refine ⟨hv, fun z => ⟨hv, ?_⟩, fun z => ?_⟩
  · have h2 := (nI_leI (by omega) (by omega)).mp z
    have h3 : k = a n := by omega
    subst h3
    refine coming_sp W' _ (fun y hy => ⟨fun q => h1 ⟨fun k hk => ?_, fun c hc' w => ?_⟩, fun q => h0 (fun w => q (bt_ext (fun i hi => Bool.eq_iff_iff.mpr ?_)))⟩)
    · obtain ⟨c, m, b1, b2, b3, b4, b5⟩ := hj k hk
      refine ⟨c, m, b1, b2, b3, b4, ?_, b5⟩
      have := (hx c (by omega)).mpr ⟨k, hk, b3⟩
      rw [q] at this
      exact ((hy c (by omega)).mp this).2
    · have := (hy c (by omega)).mpr ⟨hc', w⟩
      rw [← q] at this
      exact (hx c (by omega)).mp this
    · refine (hx i hi).trans (Iff.trans ⟨fun ⟨j, b1, b2⟩ => ?_, fun ⟨b1, b2⟩ => ?_⟩ (hy i hi).symm)
      · obtain ⟨c, m, c1, c2, c3, c4, c5, c6⟩ := w.1 j b1
        have : c = i := (nI_eq (by omega) (by omega)).mp (c3.symm.trans b2)
        subst this
        exact ⟨c1, c5⟩
      · obtain ⟨k, c1, c2⟩ := w.2 i b1 b2
        exact ⟨k, c1, c2⟩
  · have hlt : k < a n := by
      refine Nat.not_le.mp (fun y => z ((nI_leI (by omega) (by omega)).mpr (by omega)))
    obtain ⟨⟨c, hc', ec⟩, m, hm', em⟩ := hc.2 k hlt
    have vk : vp_in (nI (3 * n + k)) 72 := vp_in_nI (by omega) (by omega)
    obtain ⟨⟨eh, hh⟩, -⟩ := W2 m hm'
    rw [em, ec, nI_clamp (show m < 2 ^ 31 by omega), eh]
    refine ⟨vk, vp_in_nI (by omega) (by omega), vk, domi_sp (by omega) (by omega) _ (fun w => ⟨fun y => absurd y (by decide), fun _ => ⟨vk, hX _ ⟨k + 1, _, hlt, rfl, fun i hi => ?_, fun j hj' => ?_⟩ ?_⟩⟩) (fun w => ⟨fun _ => h0 (fun y => ?_), fun w => (w rfl).elim⟩)⟩
    · rw [bt_or, bt_pw (by omega) hi, Bool.or_eq_true, decide_eq_true_eq, hx i hi]
      constructor
      · rintro (⟨j, b1, b2⟩ | w)
        · exact ⟨j, by omega, b2⟩
        · exact ⟨k, by omega, by rw [ec, w]⟩
      · rintro ⟨j, b1, b2⟩
        by_cases w : j = k
        · subst w
          exact Or.inr ((nI_eq (by omega) (by omega)).mp (b2.symm.trans ec))
        · exact Or.inl ⟨j, by omega, b2⟩
    · by_cases y : j = k
      · subst y
        exact ⟨c, m, hc', hm', ec, em, ((D c hc' _ (by omega)).mp w).2⟩
      · exact hj j (by omega)
    · show 3 * n + a n - (nI (3 * n + k + 1)).toNatClampNeg < 3 * n + a n - (nI (3 * n + k)).toNatClampNeg
      rw [ek, nI_clamp (by omega)]
      omega
    · obtain ⟨c', m', c1, c2, c3, c4, c5, c6⟩ := y.1 k hlt
      have e1 : c' = c := (nI_eq (by omega) (by omega)).mp (c3.symm.trans ec)
      have e2 : m' = m := (nI_eq (by omega) (by omega)).mp (c4.symm.trans em)
      subst e1 e2
      exact w ((D c' hc' _ (by omega)).mpr ⟨hh, c6⟩)
theorem cStrict_sp (W : TW T nN nB hm a) (h3 : ∀ n, n < nN → ¬ T 3 n = 3 → a n = 0) (Q : Int32 → ZS → Prop) (h1 : STR (T 3) hm (T 6) (T 7) a (T 9) (T 10) (T 14) (T 15) nN nB → ∀ T', (∀ k, k ≠ 16 → T' k = T k) → DM (T 15) nB (T' 16) → Q 1 T') (h0 : ¬ STR (T 3) hm (T 6) (T 7) a (T 9) (T 10) (T 14) (T 15) nN nB → ∀ T', Q 0 T') : g_X4_isStrict T Q := by
  have W' := W
  obtain ⟨⟨t0, t1, hB, hN⟩, W2⟩ := W
  unfold g_X4_isStrict
  refine endsTell_sp W' _ (fun c1 => ⟨fun w => absurd w (by decide), fun _ => ?_⟩) (fun c1 => ⟨fun _ => h0 (fun s => c1 ⟨fun b hb => ?_, s.1⟩) _, fun w => (w rfl).elim⟩)
  rotate_left
  · rcases s.2.1 b hb with w | ⟨m, w1, w2, -⟩
    · exact Or.inl w
    · exact Or.inr ⟨m, w1, w2⟩
  refine namesTell_sp W' _ (fun c2 => ⟨fun w => absurd w (by decide), fun _ => ?_⟩) (fun c2 => ⟨fun _ => h0 (fun s => c2 (fun n hn => ⟨fun q => ?_, fun k hk => ?_⟩)) _, fun w => (w rfl).elim⟩)
  rotate_left
  · obtain ⟨⟨m, a1, a2, -⟩, m', b1, b2, -⟩ := (s.2.2 n hn).1 q
    exact ⟨⟨m, a1, a2⟩, m', b1, b2⟩
  · by_cases q : T 3 n = 3
    · obtain ⟨c, m, d1, d2, d3, d4, -⟩ := ((s.2.2 n hn).2 q).1 k hk
      exact ⟨⟨c, d1, d3⟩, m, d2, d4⟩
    · rw [h3 n hn q] at hk
      exact absurd hk (Nat.not_lt_zero k)
  refine findDom_sp hB t0 c1.2 _ (fun T' f D => ?_)
  have g : ∀ k, k ≠ 16 → T' k = T k := f
  have W3 : TW T' nN nB hm a := by
    unfold TW
    rw [g 0 (by decide), g 1 (by decide), g 2 (by decide), g 8 (by decide)]
    exact W'
  have D' : DM (T' 15) nB (T' 16) := by rw [g 15 (by decide)]; exact D
  refine all_loop (F := F_X4_isStrict_22 Q) (fun x => (x, T')) (fun p => p.1) (fun _ => rfl) (i0 := 0) (N := nB) (by omega) (by omega) (fun b => T 14 b = -9 ∨ ∃ m, m < nN ∧ T 14 b = nI m ∧ ¬ RW (T 15) nB (hm m) b) (fun hall X => ?_) (fun X b _ hb el hX => ?_)
  · unfold F_X4_isStrict_22
    simp only [g 0 (by decide), t0]
    refine ⟨fun _ => ?_, fun z => absurd (Int32.le_refl _) z⟩
    refine all_loop (F := F_X4_isStrict_70 Q) (fun x => (x, T')) (fun p => p.1) (fun _ => rfl) (i0 := 0) (N := nN) (by omega) (by omega) (fun n => (T 3 n = 2 → BFv hm (T 15) nN nB (T 6 n) n ∧ BFv hm (T 15) nN nB (T 7 n) n) ∧ (T 3 n = 3 → AFv hm a (T 9) (T 10) (T 15) nN nB n)) (fun hall2 X => ?_) (fun X n _ hn el hX => ?_)
    · unfold F_X4_isStrict_70
      simp only [g 1 (by decide), t1]
      exact ⟨fun _ => h1 ⟨c1.2, fun b hb => hall b (Nat.zero_le _) hb, fun n hn => hall2 n (Nat.zero_le _) hn⟩ T' f D, fun z => absurd (Int32.le_refl _) z⟩
    · have hv : vp_in (nI n) 24 := vp_in_nI (by omega) (by omega)
      have bad : ¬ ((T 3 n = 2 → BFv hm (T 15) nN nB (T 6 n) n ∧ BFv hm (T 15) nN nB (T 7 n) n) ∧ (T 3 n = 3 → AFv hm a (T 9) (T 10) (T 15) nN nB n)) → Q 0 T' := fun w => h0 (fun s => w (s.2.2 n hn)) T'
      have arms : (T 3 n = 2 → BFv hm (T 15) nN nB (T 6 n) n ∧ BFv hm (T 15) nN nB (T 7 n) n) → G_X4_isStrict_118 Q X (nI n) T' := by
        intro hp
        unfold G_X4_isStrict_118
        rw [el, g 3 (by decide)]
        simp only [forall_eq, nI_1]
        refine ⟨hv, fun q => ?_, fun q => hX ⟨hp, fun w => absurd w q⟩⟩
        have c2' : C2 T' nN nB a n := by
          unfold C2
          rw [g 3 (by decide), g 6 (by decide), g 7 (by decide), g 9 (by decide), g 10 (by decide)]
          exact c2 n hn
        refine armsFit_sp W3 D' hn c2' _ (fun w => ⟨fun y => absurd y (by decide), fun _ => hX ⟨hp, fun _ => ?_⟩⟩) (fun w => ⟨fun _ => bad (fun y => w ?_), fun w => (w rfl).elim⟩)
        · rw [g 9 (by decide), g 10 (by decide), g 15 (by decide)] at w
          exact w
        · rw [g 9 (by decide), g 10 (by decide), g 15 (by decide)]
          exact y.2 q
      unfold F_X4_isStrict_70
      simp only [g 1 (by decide), g 3 (by decide), g 6 (by decide), g 7 (by decide), t1, el]
      refine ⟨fun z => absurd z (leI_not hn (by omega)), fun _ => ⟨hv, fun q => ⟨hv, ?_⟩, fun q => arms (fun w => absurd w q)⟩⟩
      obtain ⟨x6, x7⟩ := (c2 n hn).1 q
      refine isAhead_sp W3 D' hn x6 _ (fun w6 => ⟨fun y => absurd y (by decide), fun _ => ⟨hv, isAhead_sp W3 D' hn x7 _ (fun w7 => ⟨fun y => absurd y (by decide), fun _ => arms (fun _ => ?_)⟩) (fun w7 => ⟨fun _ => bad (fun y => w7 ?_), fun w => (w rfl).elim⟩)⟩⟩) (fun w6 => ⟨fun _ => bad (fun y => w6 ?_), fun w => (w rfl).elim⟩)
      · rw [g 15 (by decide)] at w6 w7
        exact ⟨w6, w7⟩
      · rw [g 15 (by decide)]
        exact (y.1 q).2
      · rw [g 15 (by decide)]
        exact (y.1 q).1
  · have hv : vp_in (nI b) 8 := vp_in_nI (by omega) (by omega)
    have bad : ¬ (T 14 b = -9 ∨ ∃ m, m < nN ∧ T 14 b = nI m ∧ ¬ RW (T 15) nB (hm m) b) → Q 0 T' := fun w => h0 (fun s => w (s.2.1 b hb)) T'
    unfold F_X4_isStrict_22
    simp only [g 0 (by decide), g 14 (by decide), g 2 (by decide), t0, el, forall_eq, nI_1]
    refine ⟨fun z => absurd z (leI_not hb (by omega)), fun _ => ⟨hv, fun q => hX (Or.inl q), fun q => ⟨hv, ?_⟩⟩⟩
    obtain ⟨m, hm', em⟩ := (c1.1 b hb).resolve_left q
    obtain ⟨⟨eh, hh⟩, -⟩ := W2 m hm'
    rw [em, nI_clamp (show m < 2 ^ 31 by omega), eh]
    refine ⟨vp_in_nI (by omega) (by omega), domi_sp (by omega) (by omega) _ (fun w => ⟨fun y => absurd y (by decide), fun _ => hX (Or.inr ⟨m, hm', em, ((D b hb _ (by omega)).mp w).2⟩)⟩) (fun w => ⟨fun _ => bad (fun y => ?_), fun w => (w rfl).elim⟩)⟩
    rcases y with y | ⟨m', y1, y2, y3⟩
    · exact q y
    · have : m' = m := (nI_eq (by omega) (by omega)).mp (y2.symm.trans em)
      subst this
      exact w ((D b hb _ (by omega)).mpr ⟨hh, y3⟩)
end CSTR
