/-! the class's Flow climbs to the least closed state -/
def r3 (x : Int32) : Prop := x = 0 ∨ x = 1 ∨ x = 2
/-- blocks' names lie side by side -/
def WB (E : ZS) (nN nB : Nat) : Prop := (∀ b, b ≤ nB → vp_in (E 12 b) 25) ∧ (E 12 0 = 0) ∧ (E 12 nB = nI nN) ∧ (∀ b, b < nB → (E 12 b).toNatClampNeg ≤ (E 12 (b + 1)).toNatClampNeg) ∧ (∀ b, b ≤ nB → (E 12 b).toNatClampNeg ≤ nN) ∧ ∀ n b, n < nN → b < nB → (E 5 n = nI b ↔ ((E 12 b).toNatClampNeg ≤ n ∧ n < (E 12 (b + 1)).toNatClampNeg))
/-- the class's shape T and now U hold the program E (x4: an input that is assumed) -/
def CE (T U E : ZS) (nN nB : Nat) (x4 : Int32) : Prop := (T 0 0 = nI nB ∧ T 1 0 = nI nN) ∧
  (∀ n, n < nN → T 2 n = E 5 n ∧ T 3 n = E 4 n ∧ (E 4 n = 2 → T 5 n = E 6 n ∧ T 6 n = E 7 n ∧ T 7 n = E 8 n) ∧ T 8 n = E 9 n ∧ (∀ k, k < (E 9 n).toNatClampNeg → T 9 (3 * n + k) = E 10 (3 * n + k) ∧ T 10 (3 * n + k) = E 11 (3 * n + k)) ∧ (E 4 n = 0 → U 3 n = E 16 (72 + n)) ∧ (E 4 n = 1 → (E 16 n = 1 ↔ (U 0 n = 1 ∨ nI n = x4)) ∧ (E 16 n = 1 → E 16 (24 + n) = if U 0 n = 1 then U 1 n else U 2 n))) ∧
  (∀ b, b < nB → T 13 b = E 13 b ∧ (E 13 b ≠ 0 → T 14 b = E 14 b) ∧ T 11 b = E 12 b ∧ T 12 b = nI ((E 12 (b + 1)).toNatClampNeg - (E 12 b).toNatClampNeg)) ∧
  (∀ e, e < 2 * nB → U 4 e = E 16 (96 + e))
def rk (S : ZS) : Nat := fb_sm (fun n => (S 0 n).toNatClampNeg) 24 + fb_sm (fun e => (S 3 e).toNatClampNeg) 16
def CI (S : ZS) : Prop := (∀ n, n < 24 → r3 (S 0 n)) ∧ (∀ e, e < 16 → isB (S 3 e)) ∧ (∀ b, b < 8 → isB (S 2 b))
def LI (E : ZS) (nN nB : Nat) (pl : Prop) (S : ZS) : Prop := ∀ (s' v' : ZR) (lv' : Nat → Prop), fCl E nN nB pl s' v' lv' → fLe nN nB (S 0) (S 1) (fun b => S 2 b = 1) s' v' lv' ∧ ∀ b k, b < nB → k < 2 → S 3 (2 * b + k) = 1 → fEdge E pl s' v' lv' b k
def VI (E : ZS) (nB : Nat) (S : ZS) : Prop := (0 < nB → S 2 0 = 1) ∧ (∀ b k, b < nB → k < 2 → S 3 (2 * b + k) = 1 → E 16 (96 + (2 * b + k)) ≠ -9 ∧ S 2 (E 16 (96 + (2 * b + k))).toNatClampNeg = 1) ∧ ∀ e, 2 * nB ≤ e → e < 16 → S 3 e = 0
def II (E : ZS) (nN nB : Nat) (pl : Prop) (S : ZS) : Prop := CI S ∧ LI E nN nB pl S ∧ VI E nB S
def ST (E : ZS) (nN nB : Nat) (pl : Prop) (S : ZS) (r : Int32) (S' : ZS) : Prop := isB r ∧ II E nN nB pl S' ∧ (∀ b, S 2 b = 1 → S' 2 b = 1) ∧ (r = 0 → S' = S) ∧ (r = 1 → rk S < rk S')
theorem r3_cl {x : Int32} (h : r3 x) : x.toNatClampNeg ≤ 2 := by rcases h with rfl | rfl | rfl <;> decide
theorem isB_cl {x : Int32} (h : isB x) : x.toNatClampNeg ≤ 1 := by rcases h with rfl | rfl <;> decide
theorem or_B {x y : Int32} (h : isB x) (h' : isB y) : isB (x ||| y) ∧ (x ||| y = 0 ↔ x = 0 ∧ y = 0) := by
  rcases h with rfl | rfl <;> rcases h' with rfl | rfl <;> refine ⟨?_, ?_⟩ <;> first | exact Or.inl (by decide) | exact Or.inr (by decide) | decide
theorem isB_ne {x : Int32} (h : isB x) (h0 : ¬ x = 0) : x = 1 := h.resolve_left h0
theorem rk_le {S : ZS} (h : CI S) : rk S ≤ 64 := by
  have a := fb_sm_bound (f := fun n => (S 0 n).toNatClampNeg) (c := 2) (n := 24) (fun k hk => r3_cl (h.1 k hk))
  have b := fb_sm_bound (f := fun n => (S 3 n).toNatClampNeg) (c := 1) (n := 16) (fun k hk => isB_cl (h.2.1 k hk))
  unfold rk
  omega
theorem ST.rf {E : ZS} {nN nB : Nat} {pl : Prop} {S : ZS} (h : II E nN nB pl S) : ST E nN nB pl S 0 S := ⟨isB_0, h, fun _ h => h, fun _ => rfl, fun h => absurd h (by decide)⟩
theorem ST.le {E : ZS} {nN nB : Nat} {pl : Prop} {S S' : ZS} {r : Int32} (h : ST E nN nB pl S r S') : rk S ≤ rk S' := by
  rcases h.1 with q | q
  · rw [h.2.2.2.1 q]; exact Nat.le_refl _
  · exact Nat.le_of_lt (h.2.2.2.2 q)
theorem ST.tr {E : ZS} {nN nB : Nat} {pl : Prop} {S S1 S2 : ZS} {r r' : Int32} (h : ST E nN nB pl S r S1) (h' : ST E nN nB pl S1 r' S2) : ST E nN nB pl S (r ||| r') S2 := by
  obtain ⟨hb, hz⟩ := or_B h.1 h'.1
  refine ⟨hb, h'.2.1, fun b q => h'.2.2.1 b (h.2.2.1 b q), fun q => ?_, fun q => ?_⟩
  · rw [h'.2.2.2.1 (hz.mp q).2, h.2.2.2.1 (hz.mp q).1]
  · rcases h.1 with e | e
    · rcases h'.1 with e' | e'
      · rw [e, e'] at q; exact absurd q (by decide)
      · have := h'.2.2.2.2 e'
        rw [h.2.2.2.1 e] at this
        exact this
    · exact Nat.lt_of_lt_of_le (h.2.2.2.2 e) h'.le
theorem lift_sp {n : Nat} (hn : n < 24) (x2 x3 : Int32) (S : ZS) (Q : Int32 → ZS → Prop) (h0 : ¬ S 0 n < x2 → ¬ (S 0 n = 1 ∧ x2 = 1 ∧ ¬ S 1 n = x3) → Q 0 S) (h1 : (S 0 n < x2 ∨ (S 0 n = 1 ∧ x2 = 1 ∧ ¬ S 1 n = x3)) → Q 1 (zst (zst S 0 n (if S 0 n = 1 ∧ x2 = 1 ∧ ¬ S 1 n = x3 then 2 else x2)) 1 n x3)) : g_X0_lift (nI n) x2 x3 S Q := by
  have e := nI_clamp (n := n) (by omega)
  have hv : vp_in (nI n) 24 := vp_in_nI hn (by omega)
  unfold g_X0_lift G_X0_lift_29 G_X0_lift_30 G_X0_lift_49 G_X0_lift_64
  simp only [e, hv, true_and, forall_eq]
  by_cases a : S 0 n = 1
  · by_cases b : x2 = 1
    · by_cases c : S 1 n = x3
      · by_cases d : S 0 n < x2
        · have := h1 (Or.inl d)
          simp only [a, b, c] at d this ⊢
          simp_all
        · have := h0 d (fun q => q.2.2 c)
          simp_all
      · have := h1 (Or.inr ⟨a, b, c⟩)
        simp_all
    · by_cases d : S 0 n < x2
      · have := h1 (Or.inl d)
        simp_all
      · have := h0 d (fun q => b q.2.1)
        simp_all
  · by_cases d : S 0 n < x2
    · have := h1 (Or.inl d)
      simp_all
    · have := h0 d (fun q => a q.1)
      simp_all
      intro q
      exact absurd q (Int32.not_lt.mpr d)
theorem r3_lt {x y : Int32} (h : r3 x) (h' : r3 y) (hl : x < y) : x.toNatClampNeg < y.toNatClampNeg := by
  rcases h with rfl | rfl | rfl <;> rcases h' with rfl | rfl | rfl <;> first | decide | exact absurd hl (by decide)
theorem rk_up {S : ZS} {n : Nat} {a : Int32} (hn : n < 24) (h : (S 0 n).toNatClampNeg < a.toNatClampNeg) (x3 : Int32) : rk S < rk (zst (zst S 0 n a) 1 n x3) := by
  have e : rk (zst (zst S 0 n a) 1 n x3) = fb_sm (fun k => if k = n then a.toNatClampNeg else (S 0 k).toNatClampNeg) 24 + fb_sm (fun e => (S 3 e).toNatClampNeg) 16 := by
    unfold rk
    rw [zs_ne _ _ _ (by decide), zs_kk, zs_ne (k' := 3) _ _ _ (by decide), zs_ne (k' := 3) _ _ _ (by decide)]
    congr 1
    apply fb_sm_cong
    intro k _
    unfold upd
    by_cases q : k = n <;> simp [q]
  have := fb_sm_upd (fun k => (S 0 k).toNatClampNeg) a.toNatClampNeg (i := n) (n := 24) hn
  rw [e]
  unfold rk
  omega
theorem lift_st {E : ZS} {nN nB : Nat} {pl : Prop} {S : ZS} (W : WF E nN nB) (hI : II E nN nB pl S) {n : Nat} (hn : n < nN) {x2 x3 : Int32} (h3 : r3 x2) (hY : ∀ (s' v' : ZR) (lv' : Nat → Prop), fCl E nN nB pl s' v' lv' → fle x2 x3 (s' n) (v' n)) (Q : Int32 → ZS → Prop) (hQ : ∀ r S', ST E nN nB pl S r S' → (r = 0 → fle x2 x3 (S 0 n) (S 1 n)) → Q r S') : g_X0_lift (nI n) x2 x3 S Q := by
  have hn24 : n < 24 := by have := W.1.2.2.1; omega
  obtain ⟨hC, hL, hV⟩ := hI
  have hs := hC.1 n hn24
  refine lift_sp hn24 x2 x3 S Q (fun d c => ?_) (fun d => ?_)
  · refine hQ 0 S (ST.rf ⟨hC, hL, hV⟩) (fun _ => ?_)
    rcases h3 with rfl | rfl | rfl
    · exact Or.inl rfl
    · rcases hs with q | q | q
      · rw [q] at d; exact absurd (by decide) d
      · exact Or.inr (Or.inr ⟨rfl, q, (Classical.not_not.mp (fun z => c ⟨q, rfl, z⟩)).symm⟩)
      · exact Or.inr (Or.inl q)
    · rcases hs with q | q | q
      · rw [q] at d; exact absurd (by decide) d
      · rw [q] at d; exact absurd (by decide) d
      · exact Or.inr (Or.inl q)
  · generalize ha : (if S 0 n = 1 ∧ x2 = 1 ∧ ¬ S 1 n = x3 then (2 : Int32) else x2) = a
    have hra : r3 a := by
      rw [← ha]
      by_cases c : S 0 n = 1 ∧ x2 = 1 ∧ ¬ S 1 n = x3
      · rw [if_pos c]; exact Or.inr (Or.inr rfl)
      · rw [if_neg c]; exact h3
    have hlt : (S 0 n).toNatClampNeg < a.toNatClampNeg := by
      rw [← ha]
      by_cases c : S 0 n = 1 ∧ x2 = 1 ∧ ¬ S 1 n = x3
      · rw [if_pos c, c.1]; decide
      · rw [if_neg c]; exact r3_lt hs h3 (d.resolve_right c)
    have e0 : (zst (zst S 0 n a) 1 n x3) 0 = upd (S 0) n a := by rw [zs_ne _ _ _ (by decide), zs_kk]
    have e1 : (zst (zst S 0 n a) 1 n x3) 1 = upd (S 1) n x3 := by rw [zs_kk, zs_ne _ _ _ (by decide)]
    have e2 : (zst (zst S 0 n a) 1 n x3) 2 = S 2 := by rw [zs_ne _ _ _ (by decide), zs_ne _ _ _ (by decide)]
    have e3 : (zst (zst S 0 n a) 1 n x3) 3 = S 3 := by rw [zs_ne _ _ _ (by decide), zs_ne _ _ _ (by decide)]
    refine hQ 1 _ ⟨isB_1, ⟨⟨fun m hm => ?_, ?_, ?_⟩, fun s' v' lv' hc => ?_, ?_⟩, ?_, fun h => absurd h (by decide), fun _ => rk_up hn24 hlt x3⟩ (fun h => absurd h (by decide))
    · rw [e0]
      unfold upd
      by_cases q : m = n
      · rw [if_pos q]; exact hra
      · rw [if_neg q]; exact hC.1 m hm
    · rw [e3]; exact hC.2.1
    · rw [e2]; exact hC.2.2
    · obtain ⟨g1, g2⟩ := hL s' v' lv' hc
      rw [e0, e1, e2, e3]
      refine ⟨⟨fun m hm => ?_, g1.2⟩, g2⟩
      by_cases q : m = n
      · subst q
        rw [pk_us, pk_us]
        by_cases c : S 0 m = 1 ∧ x2 = 1 ∧ ¬ S 1 m = x3
        · rw [if_pos c] at ha
          have k1 := g1.1 m hm
          have k2 := hY s' v' lv' hc
          rw [c.1] at k1
          rw [c.2.1] at k2
          rw [← ha]
          rcases k1 with z | z | ⟨-, z1, z2⟩
          · exact absurd z (by decide)
          · exact Or.inr (Or.inl z)
          · rcases k2 with y | y | ⟨-, y1, y2⟩
            · exact absurd y (by decide)
            · exact Or.inr (Or.inl y)
            · exact absurd (z2.trans y2.symm) c.2.2
        · rw [if_neg c] at ha
          rw [← ha]
          exact hY s' v' lv' hc
      · rw [pk_un q, pk_un q]
        exact g1.1 m hm
    · unfold VI
      rw [e2, e3]
      exact hV
    · rw [e2]; exact fun _ h => h
