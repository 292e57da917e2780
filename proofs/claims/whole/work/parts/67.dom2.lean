/-- the dominators -/
def DM (g : ZR) (nB : Nat) (f : ZR) : Prop := ∀ b, b < nB → ∀ i, i < 32 → (bt (f b) i = true ↔ (i < nB ∧ ¬ RW g nB i b))
theorem DM_one {g : ZR} {nB : Nat} {f f' : ZR} (h : DM g nB f) (h' : DM g nB f') {b : Nat} (hb : b < nB) : f b = f' b :=
  bt_ext fun i hi => Bool.eq_iff_iff.mpr ((h b hb i hi).trans (h' b hb i hi).symm)
section FDOM
variable {T : ZS} {nB : Nat}
theorem findDom_sp (hB : nB ≤ 8) (hT : T 0 0 = nI nB) (hg : WG (T 15) nB) (Q : ZS → Prop) (hQ : ∀ T', (∀ k, k ≠ 16 → T' k = T k) → DM (T 15) nB (T' 16) → Q T') : g_X4_findDominators T Q := by
  unfold g_X4_findDominators
  refine fx_all (fun p => ∃ b S, b ≤ nB ∧ p = (nI b, S) ∧ (∀ k, k ≠ 16 → S k = T k) ∧ ∀ j, j < b → S 16 j = 0) (fun p => nB - p.1.toNatClampNeg) ?_ _ ⟨0, T, Nat.zero_le _, rfl, fun _ _ => rfl, fun j hj => absurd hj (Nat.not_lt_zero j)⟩
  rintro X p ⟨b, S, hb, rfl, f, h0⟩ hX
  have el := nI_clamp (n := b) (by omega)
  have f0 : S 0 = T 0 := f 0 (by decide)
  unfold F_X4_findDominators_2
  simp only [f0, hT, el, forall_eq, nI_1]
  refine ⟨fun z => ?_, fun z => ?_⟩
  rotate_left
  · have hlt : b < nB := Nat.not_le.mp (fun y => z ((nI_leI (by omega) (by omega)).mpr y))
    refine ⟨vp_in_nI (by omega) (by omega), hX _ ⟨b + 1, _, hlt, rfl, fun k hk => ?_, fun j hj => ?_⟩ (by show nB - (nI (b + 1)).toNatClampNeg < nB - (nI b).toNatClampNeg; rw [el, nI_clamp (by omega)]; omega)⟩
    · rw [zs_ne _ _ _ hk, f k hk]
    · by_cases q : j = b
      · subst q
        rw [zs_at]
      · rw [zs_ni _ _ _ q]
        exact h0 j (by omega)
  · have h2 := (nI_leI (by omega) (by omega)).mp z
    have h3 : b = nB := by omega
    subst h3
    clear hX
    refine fx_all (fun p => ∃ d S, d ≤ b ∧ p = (nI d, S) ∧ (∀ k, k ≠ 16 → S k = T k) ∧ ∀ c, c < b → ∀ i, i < 32 → (bt (S 16 c) i = true ↔ (i < d ∧ ¬ RW (T 15) b i c))) (fun p => b - p.1.toNatClampNeg) ?_ _ ⟨0, S, Nat.zero_le _, rfl, f, fun c hc i hi => by rw [h0 c hc, bt_0]; exact ⟨fun w => absurd w (by decide), fun w => absurd w.1 (Nat.not_lt_zero i)⟩⟩
    clear f f0 h0 S
    rintro X p ⟨d, S, hd, rfl, f, hs⟩ hX
    have ed := nI_clamp (n := d) (by omega)
    have f0 : S 0 = T 0 := f 0 (by decide)
    have f15 : S 15 = T 15 := f 15 (by decide)
    unfold F_X4_findDominators_25
    simp only [f0, hT]
    refine ⟨fun z => ?_, fun z => ?_⟩
    · have h2 := (nI_leI (by omega) (by omega)).mp z
      have h3 : d = b := by omega
      subst h3
      exact hQ S f hs
    have hlt : d < b := Nat.not_le.mp (fun y => z ((nI_leI (by omega) (by omega)).mpr y))
    refine reached_sp hB (by rw [f0]; exact hT) (by rw [f15]; exact hg) hlt _ (fun x hx => ?_)
    rw [f15] at hx
    refine fx_all (fun p => ∃ c S, c ≤ b ∧ p = (nI d, x, nI c, S) ∧ (∀ k, k ≠ 16 → S k = T k) ∧ ∀ c', c' < b → ∀ i, i < 32 → (bt (S 16 c') i = true ↔ ((i < d ∧ ¬ RW (T 15) b i c') ∨ (i = d ∧ c' < c ∧ ¬ RW (T 15) b d c')))) (fun p => b - p.2.2.1.toNatClampNeg) ?_ _ ⟨0, S, Nat.zero_le _, rfl, f, fun c' hc' i hi => (hs c' hc' i hi).trans ⟨Or.inl, fun w => w.resolve_right (fun y => absurd y.2.1 (Nat.not_lt_zero c'))⟩⟩
    clear f f0 f15 hs
    rintro Y p ⟨c, S, hc, rfl, f, hs⟩ hY
    have ec := nI_clamp (n := c) (by omega)
    have f0 : S 0 = T 0 := f 0 (by decide)
    unfold F_X4_findDominators_41
    simp only [f0, hT, forall_eq, ec, nI_1]
    refine ⟨fun z => ?_, fun z => ?_⟩
    · have h2 := (nI_leI (by omega) (by omega)).mp z
      have h3 : c = b := by omega
      subst h3
      refine hX _ ⟨d + 1, S, hlt, rfl, f, fun c' hc' i hi => (hs c' hc' i hi).trans ⟨fun w => ?_, fun w => ?_⟩⟩ (by show c - (nI (d + 1)).toNatClampNeg < c - (nI d).toNatClampNeg; rw [ed, nI_clamp (by omega)]; omega)
      · rcases w with w | ⟨w1, -, w3⟩
        · exact ⟨by omega, w.2⟩
        · subst w1
          exact ⟨by omega, w3⟩
      · by_cases q : i = d
        · subst q
          exact Or.inr ⟨rfl, hc', w.2⟩
        · exact Or.inl ⟨by omega, w.2⟩
    have hlc : c < b := Nat.not_le.mp (fun y => z ((nI_leI (by omega) (by omega)).mpr y))
    have hv : vp_in (nI c) 8 := vp_in_nI (by omega) (by omega)
    have dec : b - (nI (c + 1)).toNatClampNeg < b - (nI c).toNatClampNeg := by rw [ec, nI_clamp (by omega)]; omega
    refine isIn_sp x (by omega) _ (fun y => ⟨fun w => absurd w (by decide), fun _ => hY _ ⟨c + 1, S, hlc, rfl, f, fun c' hc' i hi => (hs c' hc' i hi).trans ⟨fun w => ?_, fun w => ?_⟩⟩ dec⟩) (fun y => ⟨fun _ => ⟨hv, hv, hY _ ⟨c + 1, _, hlc, rfl, fun k hk => ?_, fun c' hc' i hi => ?_⟩ dec⟩, fun w => (w rfl).elim⟩)
    · rcases w with w | ⟨w1, w2, w3⟩
      · exact Or.inl w
      · exact Or.inr ⟨w1, by omega, w3⟩
    · rcases w with w | ⟨w1, w2, w3⟩
      · exact Or.inl w
      · by_cases q : c' = c
        · subst q
          exact absurd ((hx c' hc').mp y) w3
        · exact Or.inr ⟨w1, by omega, w3⟩
    · rw [zs_ne _ _ _ hk, f k hk]
    · by_cases q : c' = c
      · subst q
        rw [zs_at, bt_or, bt_pw (by omega) hi, Bool.or_eq_true, decide_eq_true_eq, hs c' hc' i hi]
        have nr : ¬ RW (T 15) b d c' := fun w => y ((hx c' hc').mpr w)
        constructor
        · rintro ((w | w) | w)
          · exact Or.inl w
          · exact absurd w.2.1 (Nat.lt_irrefl _)
          · exact Or.inr ⟨w, by omega, nr⟩
        · rintro (w | w)
          · exact Or.inl (Or.inl w)
          · exact Or.inr w.1
      · rw [zs_ni _ _ _ q, hs c' hc' i hi]
        constructor
        · rintro (w | ⟨w1, w2, w3⟩)
          · exact Or.inl w
          · exact Or.inr ⟨w1, by omega, w3⟩
        · rintro (w | ⟨w1, w2, w3⟩)
          · exact Or.inl w
          · exact Or.inr ⟨w1, by omega, w3⟩
end FDOM
/-! the reference's -/
def gt (g : ZR) (p b : Nat) : Prop := g (2 * p + 0) = nI b ∨ g (2 * p + 1) = nI b
def Fs (g : ZR) (nB : Nat) (f : ZR) (b i : Nat) : Prop := i = b ∨ ∀ p, p < nB → gt g p b → bt (f p) i = true
def LB (g : ZR) (nB : Nat) (f : ZR) : Prop := (∀ b, b < nB → ∀ i, i < 32 → bt (f b) i = true → i < nB) ∧ (∀ i, i < 32 → (bt (f 0) i = true ↔ i = 0)) ∧ (∀ b d, b < nB → d < nB → ¬ RW g nB d b → bt (f b) d = true) ∧ (∀ b, 0 < b → b < nB → ∀ i, i < nB → Fs g nB f b i → bt (f b) i = true)
theorem gt_e {g : ZR} {p b : Nat} (h : gt g p b) : ∃ e, e / 2 = p ∧ e < 2 * p + 2 ∧ g e = nI b := by
  rcases h with h | h
  · exact ⟨2 * p + 0, by omega, by omega, h⟩
  · exact ⟨2 * p + 1, by omega, by omega, h⟩
theorem gt_of {g : ZR} {e b : Nat} (h : g e = nI b) : gt g (e / 2) b := by
  rcases (show e % 2 = 0 ∨ e % 2 = 1 by omega) with q | q
  · refine Or.inl ?_
    rw [show 2 * (e / 2) + 0 = e by omega]
    exact h
  · refine Or.inr ?_
    rw [show 2 * (e / 2) + 1 = e by omega]
    exact h
theorem LB_upd {g f : ZR} {nB b : Nat} {x : Int32} (hB : nB ≤ 8) (h0 : 0 < b) (hb : b < nB) (h : LB g nB f) (hx : ∀ i, i < 32 → (bt x i = true ↔ (i < nB ∧ Fs g nB f b i))) : LB g nB (upd f b x) := by
  obtain ⟨l1, l2, l3, l4⟩ := h
  have le : ∀ c, c < nB → ∀ i, i < 32 → bt (upd f b x c) i = true → bt (f c) i = true := by
    intro c hc i hi w
    by_cases q : c = b
    · subst q
      rw [pk_us] at w
      obtain ⟨w1, w2⟩ := (hx i hi).mp w
      exact l4 c h0 hb i w1 w2
    · rw [pk_un q] at w
      exact w
  refine ⟨fun c hc i hi w => l1 c hc i hi (le c hc i hi w), fun i hi => ?_, fun c d hc hd w => ?_, fun c hc0 hc i hi w => ?_⟩
  · rw [pk_un (by omega)]
    exact l2 i hi
  · by_cases q : c = b
    · subst q
      rw [pk_us]
      refine (hx d (by omega)).mpr ⟨hd, ?_⟩
      by_cases q2 : d = c
      · exact Or.inl q2
      · refine Or.inr (fun p hp k => l3 p d hp hd (fun r => w ?_))
        obtain ⟨e, e1, e2, e3⟩ := gt_e k
        refine RW_s (e := e) (by omega) (by rw [e1]; exact r) e3 hc (fun y => q2 y.symm)
    · rw [pk_un q]
      exact l3 c d hc hd w
  · have w' : Fs g nB f c i := by
      rcases w with w | w
      · exact Or.inl w
      · exact Or.inr (fun p hp k => le p hp i (by omega) (w p hp k))
    by_cases q : c = b
    · subst q
      rw [pk_us]
      exact (hx i (by omega)).mpr ⟨hi, w'⟩
    · rw [pk_un q]
      exact l4 c hc0 hc i hi w'
def rkB (f : ZR) (nB : Nat) : Nat := fb_sm (fun b => cn (f b) nB) nB
theorem rkB_upd {g f : ZR} {nB b : Nat} {x : Int32} (hB : nB ≤ 8) (h0 : 0 < b) (hb : b < nB) (h : LB g nB f) (hx : ∀ i, i < 32 → (bt x i = true ↔ (i < nB ∧ Fs g nB f b i))) : rkB (upd f b x) nB ≤ rkB f nB ∧ (¬ x = f b → rkB (upd f b x) nB + 1 ≤ rkB f nB) := by
  have le : ∀ i, i < nB → bt x i = true → bt (f b) i = true := fun i hi w => h.2.2.2 b h0 hb i hi ((hx i (by omega)).mp w).2
  have e : rkB (upd f b x) nB = fb_sm (fun c => if c = b then cn x nB else cn (f c) nB) nB := by
    refine fb_sm_cong (fun c _ => ?_)
    by_cases q : c = b
    · subst q
      rw [pk_us, if_pos rfl]
    · rw [pk_un q, if_neg q]
  have u := fb_sm_upd (fun c => cn (f c) nB) (cn x nB) hb
  have m := cn_mono le
  have u' : rkB (upd f b x) nB + cn (f b) nB = rkB f nB + cn x nB := by rw [e]; exact u
  refine ⟨by omega, fun ne => ?_⟩
  have : ∃ i, i < nB ∧ ¬ bt x i = true ∧ bt (f b) i = true := Classical.byContradiction (fun no => ne (bt_ext (fun i hi => Bool.eq_iff_iff.mpr ⟨fun w => le i ((hx i hi).mp w).1 w, fun w => Classical.byContradiction (fun y => no ⟨i, h.1 b hb i hi w, y, w⟩)⟩)))
  obtain ⟨i, hi, i1, i2⟩ := this
  have := cn_lt le hi i1 i2
  omega
section LAYS
variable {M : ZS} {nB : Nat}
theorem goesTo_sp {S : ZS} {p b : Nat} (hp : p < 8) (Q : Int32 → Prop) (h1 : gt (fun e => S 38 (96 + e)) p b → Q 1) (h0 : ¬ gt (fun e => S 38 (96 + e)) p b → Q 0) : g_X9_goesTo (nI p) (nI b) S Q := by
  have e0 : (96 : Int32) + 2 * nI p = nI (96 + (2 * p + 0)) := n96 p
  have e1 : (96 : Int32) + 2 * nI p + 1 = nI (96 + (2 * p + 1)) := by rw [n96, nI_1, Nat.add_assoc]
  unfold g_X9_goesTo
  rw [e1, e0, nI_clamp (show 96 + (2 * p + 0) < 2 ^ 31 by omega), nI_clamp (show 96 + (2 * p + 1) < 2 ^ 31 by omega)]
  refine ⟨vp_in_nI (by omega) (by omega), fun z => h1 (Or.inl z), fun z => ⟨vp_in_nI (by omega) (by omega), fun y => h1 (Or.inr y), fun y => h0 (fun w => ?_)⟩⟩
  rcases w with w | w
  · exact z w
  · exact y w
theorem lays_in (hB : nB ≤ 8) {S : ZS} (hS : S 25 0 = nI nB) {g : ZR} (hg : ∀ e, g e = S 38 (96 + e)) {b : Nat} (h0 : 0 < b) (hb : b < nB) (ch : Int32) (hch : isB ch) (Q : ZS → Prop) (X42 : Int32 × Int32 × ZS → Prop) (X50 : Int32 × Int32 × Int32 × ZS → Prop) (hX : ∀ x, (∀ i, i < 32 → (bt x i = true ↔ (i < nB ∧ Fs g nB (S 39) b i))) → ((ch = 0 ∧ x = S 39 b) → X50 (((1 : Int32) <<< (nI nB &&& 31)) - 1, 0, nI (b + 1), zst S 39 b x)) ∧ (¬ (ch = 0 ∧ x = S 39 b) → X50 (((1 : Int32) <<< (nI nB &&& 31)) - 1, 1, nI (b + 1), zst S 39 b x))) : ∃ n, fx (F_X9_laysBefore_64 Q X42 X50) n (((1 : Int32) <<< (nI nB &&& 31)) - 1, ch, nI b, ((1 : Int32) <<< (nI nB &&& 31)) - 1, 0, S) := by
  have eg : g = fun e => S 38 (96 + e) := funext hg
  subst eg
  refine fx_all (fun p => ∃ j x, j ≤ nB ∧ p = (((1 : Int32) <<< (nI nB &&& 31)) - 1, ch, nI b, x, nI j, S) ∧ ∀ i, i < 32 → (bt x i = true ↔ (i < nB ∧ ∀ p, p < j → gt (fun e => S 38 (96 + e)) p b → bt (S 39 p) i = true))) (fun p => nB - p.2.2.2.2.1.toNatClampNeg) ?_ _ ⟨0, _, Nat.zero_le _, rfl, fun i hi => ?_⟩
  rotate_left
  · rw [bt_all hB hi, decide_eq_true_eq]
    exact ⟨fun w => ⟨w, fun p hp => absurd hp (Nat.not_lt_zero p)⟩, fun w => w.1⟩
  rintro Y p ⟨j, x, hj, rfl, hx⟩ hY
  have ej := nI_clamp (n := j) (by omega)
  have eb := nI_clamp (n := b) (by omega)
  unfold F_X9_laysBefore_64 G_X9_laysBefore_128 G_X9_laysBefore_133
  simp only [hS, forall_eq, ej, eb, nI_1]
  refine ⟨fun z => ?_, fun z => ?_⟩
  · have h2 := (nI_leI (by omega) (by omega)).mp z
    have h3 : j = nB := by omega
    subst h3
    have hv : vp_in (nI b) 8 := vp_in_nI (by omega) (by omega)
    obtain ⟨x1, x2⟩ := hX (x ||| (1 <<< (nI b &&& 31))) (fun i hi => by
      rw [bt_or, bt_pw (by omega) hi, Bool.or_eq_true, decide_eq_true_eq, hx i hi]
      constructor
      · rintro (w | w)
        · exact ⟨w.1, Or.inr w.2⟩
        · exact ⟨by omega, Or.inl w⟩
      · rintro ⟨w1, w2 | w2⟩
        · exact Or.inr w2
        · exact Or.inl ⟨w1, w2⟩)
    exact ⟨fun q => ⟨hv, fun y => ⟨hv, x1 ⟨q, y⟩⟩, fun y => ⟨hv, x2 (fun w => y w.2)⟩⟩, fun q => ⟨hv, x2 (fun w => q w.1)⟩⟩
  have hlt : j < nB := Nat.not_le.mp (fun y => z ((nI_leI (by omega) (by omega)).mpr y))
  have hv : vp_in (nI j) 8 := vp_in_nI (by omega) (by omega)
  have dec : nB - (nI (j + 1)).toNatClampNeg < nB - (nI j).toNatClampNeg := by rw [ej, nI_clamp (by omega)]; omega
  refine goesTo_sp (by omega) _ (fun y => ⟨fun w => absurd w (by decide), fun _ => ⟨hv, hY _ ⟨j + 1, _, hlt, rfl, fun i hi => ?_⟩ dec⟩⟩) (fun y => ⟨fun _ => hY _ ⟨j + 1, _, hlt, rfl, fun i hi => ?_⟩ dec, fun w => (w rfl).elim⟩)
  · rw [bt_and, Bool.and_eq_true, hx i hi]
    constructor
    · rintro ⟨⟨w1, w2⟩, w3⟩
      refine ⟨w1, fun p hp k => ?_⟩
      by_cases q : p = j
      · rw [q]; exact w3
      · exact w2 p (by omega) k
    · rintro ⟨w1, w2⟩
      exact ⟨⟨w1, fun p hp => w2 p (by omega)⟩, w2 j (by omega) y⟩
  · rw [bt_and, Bool.and_eq_true, hx i hi, bt_all hB hi, decide_eq_true_eq]
    constructor
    · rintro ⟨⟨w1, w2⟩, w3⟩
      refine ⟨w1, fun p hp k => ?_⟩
      by_cases q : p = j
      · rw [q] at k; exact absurd k y
      · exact w2 p (by omega) k
    · rintro ⟨w1, w2⟩
      exact ⟨⟨w1, fun p hp => w2 p (by omega)⟩, w1⟩
theorem lays_round (hB : nB ≤ 8) {S0 : ZS} (hS : S0 25 0 = nI nB) {g : ZR} (hg : ∀ e, g e = S0 38 (96 + e)) (hL : LB g nB (S0 39)) (Q : ZS → Prop) (X : Int32 × Int32 × ZS → Prop) (h0 : (∀ b, 0 < b → b < nB → ∀ i, i < nB → bt (S0 39 b) i = true → Fs g nB (S0 39) b i) → X (((1 : Int32) <<< (nI nB &&& 31)) - 1, 0, S0)) (h1 : ∀ S, (∀ k, k ≠ 39 → S k = S0 k) → LB g nB (S 39) → rkB (S 39) nB + 1 ≤ rkB (S0 39) nB → X (((1 : Int32) <<< (nI nB &&& 31)) - 1, 1, S)) : ∃ n, fx (F_X9_laysBefore_50 Q X) n (((1 : Int32) <<< (nI nB &&& 31)) - 1, 0, 1, S0) := by
  refine fx_all (fun p => ∃ b ch S, 1 ≤ b ∧ p = (((1 : Int32) <<< (nI nB &&& 31)) - 1, ch, nI b, S) ∧ b ≤ nB + 1 ∧ (∀ k, k ≠ 39 → S k = S0 k) ∧ LB g nB (S 39) ∧ ((ch = 0 ∧ S = S0 ∧ ∀ c, 0 < c → c < b → c < nB → ∀ i, i < nB → bt (S0 39 c) i = true → Fs g nB (S0 39) c i) ∨ (ch = 1 ∧ rkB (S 39) nB + 1 ≤ rkB (S0 39) nB))) (fun p => nB + 1 - p.2.2.1.toNatClampNeg) ?_ _ ⟨1, 0, S0, Nat.le_refl _, rfl, by omega, fun _ _ => rfl, hL, Or.inl ⟨rfl, rfl, fun c h1 h2 => absurd h1 (by omega)⟩⟩
  rintro Y p ⟨b, ch, S, hb1, rfl, hb, f, hl, hc⟩ hY
  have eb := nI_clamp (n := b) (by omega)
  have hS' : S 25 0 = nI nB := by rw [f 25 (by decide)]; exact hS
  unfold F_X9_laysBefore_50
  simp only [hS']
  refine ⟨fun z => ?_, fun z => ?_⟩
  · have h2 := (nI_leI (by omega) (by omega)).mp z
    rcases hc with ⟨c1, c2, c3⟩ | ⟨c1, c2⟩
    · rw [c1, c2]
      exact h0 (fun c a1 a2 => c3 c a1 (by omega) a2)
    · rw [c1]
      exact h1 S f hl c2
  have hlt : b < nB := Nat.not_le.mp (fun y => z ((nI_leI (by omega) (by omega)).mpr y))
  have dec : nB + 1 - (nI (b + 1)).toNatClampNeg < nB + 1 - (nI b).toNatClampNeg := by rw [eb, nI_clamp (by omega)]; omega
  have hch : isB ch := by
    rcases hc with ⟨c, -⟩ | ⟨c, -⟩
    · rw [c]; exact isB_0
    · rw [c]; exact isB_1
  refine lays_in hB hS' (fun e => (hg e).trans (by rw [f 38 (by decide)])) hb1 hlt ch hch Q X Y (fun x hx => ⟨fun q => ?_, fun q => ?_⟩)
  · obtain ⟨q1, q2⟩ := q
    rcases hc with ⟨c1, c2, c3⟩ | ⟨c1, c2⟩
    · subst c2
      have same : zst S 39 b x = S := by
        funext k
        by_cases y : k = 39
        · subst y
          rw [zs_kk]
          funext j
          by_cases w : j = b
          · subst w
            rw [pk_us, q2]
          · rw [pk_un w]
        · rw [zs_ne _ _ _ y]
      rw [same]
      refine hY _ ⟨b + 1, 0, S, by omega, rfl, by omega, f, hl, Or.inl ⟨rfl, rfl, fun c a1 a2 a3 i hi w => ?_⟩⟩ dec
      by_cases y : c = b
      · subst y
        rw [← q2] at w
        exact ((hx i (by omega)).mp w).2
      · exact c3 c a1 (by omega) a3 i hi w
    · rw [c1] at q1
      exact absurd q1 (by decide)
  · have hl' : LB g nB (zst S 39 b x 39) := by
      rw [zs_kk]
      exact LB_upd hB hb1 hlt hl hx
    obtain ⟨r1, r2⟩ := rkB_upd hB hb1 hlt hl hx
    refine hY _ ⟨b + 1, 1, _, by omega, rfl, by omega, fun k hk => by rw [zs_ne _ _ _ hk, f k hk], hl', Or.inr ⟨rfl, ?_⟩⟩ dec
    rw [zs_kk]
    rcases hc with ⟨c1, c2, c3⟩ | ⟨c1, c2⟩
    · have := r2 (fun w => q ⟨c1, w⟩)
      rw [c2] at this ⊢
      exact this
    · omega
theorem lays_sp (hB : nB ≤ 8) (hM : M 25 0 = nI nB) (hg : WG (fun e => M 38 (96 + e)) nB) (Q : ZS → Prop) (hQ : ∀ M', (∀ k, k ≠ 39 → M' k = M k) → DM (fun e => M 38 (96 + e)) nB (M' 39) → Q M') : g_X9_laysBefore M Q := by
  unfold g_X9_laysBefore
  simp only [forall_eq, hM]
  refine fx_all (fun p => ∃ b S, b ≤ nB ∧ p = (((1 : Int32) <<< (nI nB &&& 31)) - 1, nI b, S) ∧ (∀ k, k ≠ 39 → S k = M k) ∧ ∀ c, c < b → (c = 0 → S 39 c = 1) ∧ (¬ c = 0 → S 39 c = ((1 : Int32) <<< (nI nB &&& 31)) - 1)) (fun p => nB - p.2.1.toNatClampNeg) ?_ _ ⟨0, M, Nat.zero_le _, rfl, fun _ _ => rfl, fun c hc => absurd hc (Nat.not_lt_zero c)⟩
  rintro X p ⟨b, S, hb, rfl, f, hs⟩ hX
  have eb := nI_clamp (n := b) (by omega)
  have f25 : S 25 = M 25 := f 25 (by decide)
  have f38 : S 38 = M 38 := f 38 (by decide)
  unfold F_X9_laysBefore_11
  simp only [f25, hM, eb, forall_eq, nI_1]
  refine ⟨fun z => ?_, fun z => ?_⟩
  rotate_left
  · have hlt : b < nB := Nat.not_le.mp (fun y => z ((nI_leI (by omega) (by omega)).mpr y))
    have hv : vp_in (nI b) 8 := vp_in_nI (by omega) (by omega)
    have dec : nB - (nI (b + 1)).toNatClampNeg < nB - (nI b).toNatClampNeg := by rw [eb, nI_clamp (by omega)]; omega
    have go : ∀ v : Int32, ((b = 0 → v = 1) ∧ (¬ b = 0 → v = ((1 : Int32) <<< (nI nB &&& 31)) - 1)) → X (((1 : Int32) <<< (nI nB &&& 31)) - 1, nI (b + 1), zst S 39 b v) := by
      intro v hv'
      refine hX _ ⟨b + 1, _, hlt, rfl, fun k hk => by rw [zs_ne _ _ _ hk, f k hk], fun c hc => ?_⟩ dec
      by_cases q : c = b
      · subst q
        rw [zs_at]
        exact hv'
      · rw [zs_ni _ _ _ q]
        exact hs c (by omega)
    refine ⟨fun q => ⟨hv, go 1 ⟨fun _ => rfl, fun w => absurd ((nI_eq (b := 0) (by omega) (by omega)).mp q) w⟩⟩, fun q => ⟨hv, go _ ⟨fun w => absurd (by rw [w]; rfl) q, fun _ => rfl⟩⟩⟩
  · have h2 := (nI_leI (by omega) (by omega)).mp z
    have h3 : b = nB := by omega
    subst h3
    clear hX
    have hL : ∀ (h0 : 0 < b), LB (fun e => M 38 (96 + e)) b (S 39) := by
      intro h0
      refine ⟨fun c hc i hi w => ?_, fun i hi => ?_, fun c d hc hd w => ?_, fun c hc0 hc i hi _ => ?_⟩
      · by_cases q : c = 0
        · rw [(hs c hc).1 q, bt_1 ⟨i, hi⟩, decide_eq_true_eq] at w
          have w : i = 0 := w
          omega
        · rw [(hs c hc).2 q, bt_all hB hi, decide_eq_true_eq] at w
          exact w
      · rw [(hs 0 h0).1 rfl, bt_1 ⟨i, hi⟩, decide_eq_true_eq]
      · by_cases q : c = 0
        · subst q
          have d0 : d = 0 := Classical.byContradiction (fun y => w (RW_0 y))
          rw [(hs 0 hc).1 rfl, d0]
          decide
        · rw [(hs c hc).2 q, bt_all hB (by omega), decide_eq_true_eq]
          exact hd
      · rw [(hs c hc).2 (by omega), bt_all hB (by omega), decide_eq_true_eq]
        exact hi
    rcases Nat.eq_zero_or_pos b with q0 | hpos
    · subst q0
      refine fx_all (fun p => ∃ ch, p = (((1 : Int32) <<< (nI 0 &&& 31)) - 1, ch, S) ∧ isB ch) (fun p => if p.2.1 = 0 then 0 else 1) ?_ _ ⟨1, rfl, isB_1⟩
      rintro Y p ⟨ch, rfl, hch⟩ hY
      unfold F_X9_laysBefore_42
      refine ⟨fun _ => hQ S f (fun c hc => absurd hc (Nat.not_lt_zero c)), fun w => ?_⟩
      refine ⟨1, ?_⟩
      show F_X9_laysBefore_50 Q Y (fx _ 0) _
      unfold F_X9_laysBefore_50
      simp only [f25, hM]
      refine ⟨fun _ => hY _ ⟨0, rfl, isB_0⟩ ?_, fun y => absurd ((nI_leI (a := 0) (b := 1) (by omega) (by omega)).mpr (by omega)) y⟩
      show (if (0 : Int32) = 0 then 0 else 1) < (if ch = 0 then 0 else 1)
      rw [if_pos rfl, if_neg w]
      omega
    · refine fx_all (fun p => ∃ ch S, p = (((1 : Int32) <<< (nI b &&& 31)) - 1, ch, S) ∧ isB ch ∧ (∀ k, k ≠ 39 → S k = M k) ∧ LB (fun e => M 38 (96 + e)) b (S 39) ∧ (ch = 0 → ∀ c, 0 < c → c < b → ∀ i, i < b → bt (S 39 c) i = true → Fs (fun e => M 38 (96 + e)) b (S 39) c i)) (fun p : Int32 × Int32 × ZS => if p.2.1 = 0 then 0 else rkB (p.2.2 39) b + 1) ?_ _ ⟨1, S, rfl, isB_1, f, hL hpos, fun w => absurd w (by decide)⟩
      clear f f25 f38 hs hL S
      rintro Y p ⟨ch, S, rfl, hch, f, hl, hfix⟩ hY
      unfold F_X9_laysBefore_42
      refine ⟨fun w => hQ S f (fun c hc i hi => ⟨fun y => ⟨hl.1 c hc i hi y, fun r => ?_⟩, fun y => hl.2.2.1 c i hc y.1 y.2⟩), fun w => ?_⟩
      · have := r (fun c => c < b → ¬ bt (S 39 c) i = true) (fun hi0 _ y => hi0 ((hl.2.1 i hi).mp y)) (fun e t he hp hg' ht hti _ y => ?_) hc
        · exact this y
        · obtain ⟨t', ht0, ht1, ht2⟩ := (hg e he).resolve_left (fun w => by
            have hg2 : M 38 (96 + e) = nI t := hg'
            have w2 : M 38 (96 + e) = -9 := w
            rw [hg2] at w2
            exact nI_m9 (by omega) w2)
          have ett : t' = t := (nI_eq (by omega) (by omega)).mp (ht2.symm.trans hg')
          subst ett
          rcases hfix w t' ht0 ht i (hl.1 t' ht i hi y) y with k | k
          · exact hti k.symm
          · exact hp (by omega) (k (e / 2) (by omega) (gt_of hg'))
      · have w1 : ch = 1 := hch.resolve_left w
        refine lays_round hB (by rw [f 25 (by decide)]; exact hM) (fun e => by rw [f 38 (by decide)]) hl Q Y (fun hx => hY _ ⟨0, S, rfl, isB_0, f, hl, fun _ => hx⟩ ?_) (fun S' f' hl' hr => hY _ ⟨1, S', rfl, isB_1, fun k hk => by rw [f' k hk, f k hk], hl', fun y => absurd y (by decide)⟩ ?_)
        · show (if (0 : Int32) = 0 then 0 else rkB (S 39) b + 1) < (if ch = 0 then 0 else rkB (S 39) b + 1)
          rw [if_pos rfl, if_neg w]
          omega
        · show (if (1 : Int32) = 0 then 0 else rkB (S' 39) b + 1) < (if ch = 0 then 0 else rkB (S 39) b + 1)
          rw [if_neg (by decide), if_neg w]
          omega
end LAYS
