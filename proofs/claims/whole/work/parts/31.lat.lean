/-! the lattice of what is found; closed states; the least of them -/
def fle (s v s' v' : Int32) : Prop := s = 0 ∨ s' = 2 ∨ (s = 1 ∧ s' = 1 ∧ v = v')
theorem fle_rf (s v : Int32) (h : s = 0 ∨ s = 1 ∨ s = 2) : fle s v s v := by
  rcases h with h | h | h
  · exact Or.inl h
  · exact Or.inr (Or.inr ⟨h, h, rfl⟩)
  · exact Or.inr (Or.inl h)
theorem fle_tr {a v b w c x : Int32} (h1 : fle a v b w) (h2 : fle b w c x) : fle a v c x := by
  rcases h1 with h | h | ⟨h, h', h''⟩
  · exact Or.inl h
  · rcases h2 with q | q | ⟨q, -, -⟩
    · rw [h] at q; exact absurd q (by decide)
    · exact Or.inr (Or.inl q)
    · rw [h] at q; exact absurd q (by decide)
  · rcases h2 with q | q | ⟨q, q', q''⟩
    · rw [h'] at q; exact absurd q (by decide)
    · exact Or.inr (Or.inl q)
    · exact Or.inr (Or.inr ⟨h, q', h''.trans q''⟩)
/-- what a sign does; whether it traps -/
def opv (c x y : Int32) : Int32 := if c = 37 then (if y = 0 then 0 else x - x / y * y) else if c = 38 then x &&& y else if c = 42 then x * y else if c = 43 then x + y else if c = 45 then x - y else if c = 47 then (if y = 0 then 0 else x / y) else if c = 60 then (if y ≤ x then 0 else 1) else if c = 94 then x ^^^ y else if x = y then 1 else 0
def opt (c y : Int32) : Prop := (c = 47 ∨ c = 37) ∧ y = 0
/-- the program and its numbers, as the reference's rows hold them (E), well formed -/
def WF (E : ZS) (nN nB : Nat) : Prop := (E 2 0 = nI nN ∧ E 3 0 = nI nB ∧ nN ≤ 24 ∧ nB ≤ 8) ∧
  (∀ n, n < nN → vp_in (E 5 n) nB ∧ vp_in (E 4 n) 4 ∧ (E 4 n = 2 → vp_in (E 7 n) nN ∧ vp_in (E 8 n) nN) ∧ vp_in (E 9 n) 4 ∧ (∀ k, k < (E 9 n).toNatClampNeg → vp_in (E 10 (3 * n + k)) nB ∧ vp_in (E 11 (3 * n + k)) nN)) ∧
  (∀ b, b < nB → vp_in (E 13 b) 3 ∧ (E 13 b ≠ 0 → vp_in (E 14 b) nN)) ∧
  (∀ e, e < 2 * nB → E 16 (96 + e) = -9 ∨ vp_in (E 16 (96 + e)) nB)
def fEdge (E : ZS) (pl : Prop) (s v : ZR) (lv : Nat → Prop) (b k : Nat) : Prop := lv b ∧ E 16 (96 + (2 * b + k)) ≠ -9 ∧ (E 13 b = 0 ∨ pl ∨ s (E 14 b).toNatClampNeg = 2 ∨ (s (E 14 b).toNatClampNeg = 1 ∧ (v (E 14 b).toNatClampNeg ≠ 0 ↔ k = 0)))
def fWay (E : ZS) (pl : Prop) (s v : ZR) (lv : Nat → Prop) (b : Nat) (t : Int32) : Prop := ∃ k, k < 2 ∧ E 16 (96 + (2 * b + k)) = t ∧ fEdge E pl s v lv b k
def fBd (E : ZS) (pl : Prop) (s v : ZR) (lv : Nat → Prop) (n : Nat) (us uv : Int32) : Prop :=
  (E 4 n = 0 → fle 1 (E 16 (72 + n)) us uv) ∧
  (E 4 n = 1 → (E 16 n = 1 → fle 1 (E 16 (24 + n)) us uv) ∧ (E 16 n ≠ 1 → us = 2)) ∧
  (E 4 n = 2 → s (E 7 n).toNatClampNeg ≠ 0 → s (E 8 n).toNatClampNeg ≠ 0 → ((s (E 7 n).toNatClampNeg = 1 ∧ s (E 8 n).toNatClampNeg = 1 ∧ ¬ opt (E 6 n) (v (E 8 n).toNatClampNeg)) → fle 1 (opv (E 6 n) (v (E 7 n).toNatClampNeg) (v (E 8 n).toNatClampNeg)) us uv) ∧ (¬ (s (E 7 n).toNatClampNeg = 1 ∧ s (E 8 n).toNatClampNeg = 1 ∧ ¬ opt (E 6 n) (v (E 8 n).toNatClampNeg)) → us = 2)) ∧
  (E 4 n = 3 → ∀ k, k < (E 9 n).toNatClampNeg → fWay E pl s v lv (E 10 (3 * n + k)).toNatClampNeg (E 5 n) → fle (s (E 11 (3 * n + k)).toNatClampNeg) (v (E 11 (3 * n + k)).toNatClampNeg) us uv)
def fLe (nN nB : Nat) (s v : ZR) (lv : Nat → Prop) (s' v' : ZR) (lv' : Nat → Prop) : Prop := (∀ n, n < nN → fle (s n) (v n) (s' n) (v' n)) ∧ ∀ b, b < nB → lv b → lv' b
def fCl (E : ZS) (nN nB : Nat) (pl : Prop) (s v : ZR) (lv : Nat → Prop) : Prop := (0 < nB → lv 0) ∧ (∀ b t, b < nB → t < nB → fWay E pl s v lv b (nI t) → lv t) ∧ ∀ n, n < nN → lv (E 5 n).toNatClampNeg → fBd E pl s v lv n (s n) (v n)
/-- closed, and below every closed one -/
def fFd (E : ZS) (nN nB : Nat) (pl : Prop) (s v : ZR) (lv : Nat → Prop) : Prop := fCl E nN nB pl s v lv ∧ ∀ (s' v' : ZR) (lv' : Nat → Prop), fCl E nN nB pl s' v' lv' → fLe nN nB s v lv s' v' lv'
theorem fle_nz {s v s' v' : Int32} (h : fle s v s' v') (hs : s ≠ 0) : s' = 2 ∨ (s = 1 ∧ s' = 1 ∧ v = v') := h.resolve_left hs
theorem fEdge_mono {E : ZS} {nN nB : Nat} {pl : Prop} {s v s' v' : ZR} {lv lv' : Nat → Prop} (W : WF E nN nB) (h : fLe nN nB s v lv s' v' lv') {b k : Nat} (hb : b < nB) (hE : fEdge E pl s v lv b k) : fEdge E pl s' v' lv' b k := by
  obtain ⟨h1, h2, h3⟩ := hE
  refine ⟨h.2 b hb h1, h2, ?_⟩
  by_cases h0 : E 13 b = 0
  · exact Or.inl h0
  have hx := vi_cl ((W.2.2.1 b hb).2 h0)
  have hl := h.1 _ hx
  rcases h3 with h3 | h3 | h3 | ⟨h3, h4⟩
  · exact Or.inl h3
  · exact Or.inr (Or.inl h3)
  · rcases fle_nz hl (by rw [h3]; decide) with q | ⟨q, -, -⟩
    · exact Or.inr (Or.inr (Or.inl q))
    · rw [h3] at q; exact absurd q (by decide)
  · rcases fle_nz hl (by rw [h3]; decide) with q | ⟨-, q, q2⟩
    · exact Or.inr (Or.inr (Or.inl q))
    · exact Or.inr (Or.inr (Or.inr ⟨q, by rw [← q2]; exact h4⟩))
theorem fWay_mono {E : ZS} {nN nB : Nat} {pl : Prop} {s v s' v' : ZR} {lv lv' : Nat → Prop} (W : WF E nN nB) (h : fLe nN nB s v lv s' v' lv') {b : Nat} {t : Int32} (hb : b < nB) (hE : fWay E pl s v lv b t) : fWay E pl s' v' lv' b t := by
  obtain ⟨k, h1, h2, h3⟩ := hE
  exact ⟨k, h1, h2, fEdge_mono W h hb h3⟩
theorem fBd_anti {E : ZS} {nN nB : Nat} {pl : Prop} {s v s' v' : ZR} {lv lv' : Nat → Prop} (W : WF E nN nB) (h : fLe nN nB s v lv s' v' lv') {n : Nat} {us uv : Int32} (hn : n < nN) (hB : fBd E pl s' v' lv' n us uv) : fBd E pl s v lv n us uv := by
  obtain ⟨h0, h1, h2, h3⟩ := hB
  obtain ⟨-, -, w2, -, w3⟩ := W.2.1 n hn
  refine ⟨h0, h1, fun e z1 z2 => ?_, fun e k hk hw => ?_⟩
  · have l1 := h.1 _ (vi_cl (w2 e).1)
    have l2 := h.1 _ (vi_cl (w2 e).2)
    have p1 : s' (E 7 n).toNatClampNeg ≠ 0 := by
      rcases fle_nz l1 z1 with q | ⟨-, q, -⟩ <;> rw [q] <;> decide
    have p2 : s' (E 8 n).toNatClampNeg ≠ 0 := by
      rcases fle_nz l2 z2 with q | ⟨-, q, -⟩ <;> rw [q] <;> decide
    obtain ⟨g1, g2⟩ := h2 e p1 p2
    by_cases c : s' (E 7 n).toNatClampNeg = 1 ∧ s' (E 8 n).toNatClampNeg = 1 ∧ ¬ opt (E 6 n) (v' (E 8 n).toNatClampNeg)
    · have q1 := (fle_nz l1 z1).resolve_left (by rw [c.1]; decide)
      have q2 := (fle_nz l2 z2).resolve_left (by rw [c.2.1]; decide)
      rw [q1.2.2, q2.2.2]
      exact ⟨fun _ => g1 c, fun z => absurd ⟨q1.1, q2.1, c.2.2⟩ z⟩
    · exact ⟨fun _ => Or.inr (Or.inl (g2 c)), fun _ => g2 c⟩
  · exact fle_tr (h.1 _ (vi_cl (w3 k hk).2)) (h3 e k hk (fWay_mono W h (vi_cl (w3 k hk).1) hw))
/-- two least closed states say the same -/
theorem fFd_one {E : ZS} {nN nB : Nat} {pl : Prop} {s v s' v' : ZR} {lv lv' : Nat → Prop} (W : WF E nN nB) (h : fFd E nN nB pl s v lv) (h' : fFd E nN nB pl s' v' lv') : (∀ n, n < nN → s n = s' n ∧ (s n = 1 → v n = v' n)) ∧ (∀ b, b < nB → (lv b ↔ lv' b)) ∧ ∀ b k, b < nB → (fEdge E pl s v lv b k ↔ fEdge E pl s' v' lv' b k) := by
  have a := h.2 _ _ _ h'.1
  have b := h'.2 _ _ _ h.1
  refine ⟨fun n hn => ?_, fun b' hb => ⟨a.2 b' hb, b.2 b' hb⟩, fun b' k hb => ⟨fEdge_mono W a hb, fEdge_mono W b hb⟩⟩
  have a1 := a.1 n hn
  have b1 := b.1 n hn
  rcases a1 with q | q | ⟨q1, q2, q3⟩
  · rcases b1 with z | z | ⟨z1, z2, -⟩
    · exact ⟨q.trans z.symm, fun e => by rw [q] at e; exact absurd e (by decide)⟩
    · rw [q] at z; exact absurd z (by decide)
    · rw [q] at z2; exact absurd z2 (by decide)
  · rcases b1 with z | z | ⟨z1, z2, -⟩
    · rw [q] at z; exact absurd z (by decide)
    · exact ⟨z.trans q.symm, fun e => by rw [z] at e; exact absurd e (by decide)⟩
    · rw [q] at z1; exact absurd z1 (by decide)
  · exact ⟨q1.trans q2.symm, fun _ => q3⟩
