/-! the reference's finds: the same least closed state -/
def fr4 (E S : ZS) : Prop := ∀ k, k ≠ 40 → k ≠ 41 → k ≠ 42 → k ≠ 44 → S k = E k
def XEq (S S' : ZS) : Prop := S' 40 = S 40 ∧ S' 41 = S 41 ∧ S' 42 = S 42
abbrev mlv (S : ZS) : Nat → Prop := fun b => S 42 b = 1
def rkM (S : ZS) : Nat := fb_sm (fun n => (S 40 n).toNatClampNeg) 24 + fb_sm (fun b => (S 42 b).toNatClampNeg) 8
def MI (E : ZS) (nN nB : Nat) (pl : Prop) (S : ZS) : Prop := fr4 E S ∧ ((∀ n, n < 24 → r3 (S 40 n)) ∧ ∀ b, b < 8 → isB (S 42 b)) ∧ (∀ (s' v' : ZR) (lv' : Nat → Prop), fCl E nN nB pl s' v' lv' → fLe nN nB (S 40) (S 41) (mlv S) s' v' lv') ∧ (∀ n us uv, n < nN → fBd E pl (S 40) (S 41) (mlv S) n us uv → fle (S 40 n) (S 41 n) us uv) ∧ (0 < nB → S 42 0 = 1)
theorem fr4.tr {E S S' : ZS} (h : fr4 E S) (h' : fr4 S S') : fr4 E S' := fun k a b c d => (h' k a b c d).trans (h k a b c d)
theorem doneBy_sp (c x y : Int32) (S : ZS) (Q : Int32 → ZS → Prop) (h1 : opt c y → Q (opv c x y) (zst S 44 0 1)) (h0 : ¬ opt c y → Q (opv c x y) (zst S 44 0 0)) : g_X9_doneBy c x y S Q := by
  have key : ∀ t : Int32, isB t → (Q (opv c x y) (zst S 44 0 t)) → G_X9_doneBy_22 c x y Q t S := by
    intro t ht h
    unfold G_X9_doneBy_22
    refine ⟨ht, ?_⟩
    rw [forall_eq]
    exact result_sp c x y (fun r => Q r (zst S 44 0 t)) h
  unfold g_X9_doneBy G_X9_doneBy_13 G_X9_doneBy_21
  refine ⟨fun a => ⟨fun b => key 1 isB_1 (h1 ⟨Or.inl a, b⟩), fun b => key 0 isB_0 (h0 (fun q => b q.2))⟩, fun a => ⟨fun d => ⟨fun b => key 1 isB_1 (h1 ⟨Or.inr d, b⟩), fun b => key 0 isB_0 (h0 (fun q => b q.2))⟩, fun d => key 0 isB_0 (h0 (fun q => q.1.elim a d))⟩⟩
theorem n96 (b : Nat) : (96 : Int32) + 2 * nI b = nI (96 + 2 * b) := by rw [two_nI, show (96 : Int32) = nI 96 from rfl, nI_add]
section FLOWM
variable {E S : ZS} {nN nB : Nat} {pl : Prop} {x3 : Int32}
theorem isEdge_sp (W : WF E nN nB) (f : fr4 E S) (hB : ∀ b, b < 8 → isB (S 42 b)) (hpl : ¬ x3 = 0 ↔ pl) {b k : Nat} (hb : b < nB) (hk : k < 2) {xk : Int32} (hxk : xk = nI k) (Q : Int32 → Prop) (h1 : fEdge E pl (S 40) (S 41) (mlv S) b k → Q 1) (h0 : ¬ fEdge E pl (S 40) (S 41) (mlv S) b k → Q 0) : g_X9_isEdge (nI b) xk x3 S Q := by
  have hB8 := W.1.2.2.2
  subst hxk
  have eb := nI_clamp (n := b) (by omega)
  have e1 : (96 : Int32) + 2 * nI b + nI k = nI (96 + (2 * b + k)) := by rw [n96, nI_add]; congr 1; omega
  have e2 := nI_clamp (n := 96 + (2 * b + k)) (by omega)
  have hv : vp_in (nI (96 + (2 * b + k))) 112 := vp_in_nI (by omega) (by omega)
  have hvb : vp_in (nI b) 8 := vp_in_nI (by omega) (by omega)
  unfold g_X9_isEdge G_X9_isEdge_89 G_X9_isEdge_98
  simp only [eb, e1, e2, hv, hvb, true_and, forall_eq, f 16 (by decide) (by decide) (by decide) (by decide), f 13 (by decide) (by decide) (by decide) (by decide), f 14 (by decide) (by decide) (by decide) (by decide)]
  refine ⟨fun a => h0 (fun q => q.2.1 a), fun a => ⟨fun d => h0 (fun q => by have := q.1; rw [show S 42 b = 1 from this] at d; exact absurd d (by decide)), fun d => ?_⟩⟩
  have hl : S 42 b = 1 := (hB b (by omega)).resolve_left d
  refine ⟨fun g => h1 ⟨hl, a, Or.inl g⟩, fun g => ⟨fun p => ?_, fun p => h1 ⟨hl, a, Or.inr (Or.inl (hpl.mp p))⟩⟩⟩
  have hnp : ¬ pl := fun q => hpl.mpr q p
  have v : vp_in (E 14 b) 24 := vi_mono ((W.2.2.1 b hb).2 g) W.1.2.2.1
  have k01 : nI k = 0 ↔ k = 0 := by rcases (show k = 0 ∨ k = 1 by omega) with rfl | rfl <;> decide
  refine ⟨v, fun q => h1 ⟨hl, a, Or.inr (Or.inr (Or.inl q))⟩, fun q => ⟨v, fun z => ⟨v, fun y => ⟨fun c => ⟨fun j => absurd j (by decide), fun _ => h0 ?_⟩, fun c => ⟨fun _ => h1 ?_, fun j => (j (by trivial)).elim⟩⟩, fun y => ⟨fun c => ⟨fun _ => h1 ?_, fun j => (j (by trivial)).elim⟩, fun c => ⟨fun j => absurd j (by decide), fun _ => h0 ?_⟩⟩⟩, fun z => h0 ?_⟩⟩
  · rintro ⟨-, -, r | r | r | ⟨-, r⟩⟩
    · exact g r
    · exact hnp r
    · exact q r
    · exact (r.mpr (k01.mp c)) y
  · exact ⟨hl, a, Or.inr (Or.inr (Or.inr ⟨z, fun r => absurd y r, fun r => absurd (k01.mpr r) c⟩))⟩
  · exact ⟨hl, a, Or.inr (Or.inr (Or.inr ⟨z, fun _ => k01.mp c, fun _ => y⟩))⟩
  · rintro ⟨-, -, r | r | r | ⟨-, r⟩⟩
    · exact g r
    · exact hnp r
    · exact q r
    · exact c (k01.mpr (r.mp y))
  · rintro ⟨-, -, r | r | r | ⟨r, -⟩⟩
    · exact g r
    · exact hnp r
    · exact q r
    · exact z r
theorem isWay_sp (W : WF E nN nB) (hM : MI E nN nB pl S) (hpl : ¬ x3 = 0 ↔ pl) {b : Nat} (hb : b < nB) (t : Int32) (Q : Int32 → Prop) (h1 : fWay E pl (S 40) (S 41) (mlv S) b t → Q 1) (h0 : ¬ fWay E pl (S 40) (S 41) (mlv S) b t → Q 0) : g_X9_isWay (nI b) t x3 S Q := by
  have hB8 := W.1.2.2.2
  have f := hM.1
  have e0 : (96 : Int32) + 2 * nI b = nI (96 + (2 * b + 0)) := n96 b
  have e1 : (96 : Int32) + 2 * nI b + 1 = nI (96 + (2 * b + 1)) := by rw [n96, nI_1, Nat.add_assoc]
  have c0 := nI_clamp (n := 96 + (2 * b + 0)) (by omega)
  have c1 := nI_clamp (n := 96 + (2 * b + 1)) (by omega)
  have v0 : vp_in (nI (96 + (2 * b + 0))) 112 := vp_in_nI (by omega) (by omega)
  have v1 : vp_in (nI (96 + (2 * b + 1))) 112 := vp_in_nI (by omega) (by omega)
  have second : (¬ ∃ k, k < 1 ∧ E 16 (96 + (2 * b + k)) = t ∧ fEdge E pl (S 40) (S 41) (mlv S) b k) → G_X9_isWay_25 (nI b) t x3 S Q := by
    intro hno
    unfold G_X9_isWay_25
    rw [e1, c1, f 16 (by decide) (by decide) (by decide) (by decide)]
    have no : (¬ (E 16 (96 + (2 * b + 1)) = t ∧ fEdge E pl (S 40) (S 41) (mlv S) b 1)) → ¬ fWay E pl (S 40) (S 41) (mlv S) b t := by
      rintro hn ⟨k, hk, z⟩
      rcases (show k = 0 ∨ k = 1 by omega) with rfl | rfl
      · exact hno ⟨0, by omega, z⟩
      · exact hn z
    refine ⟨v1, fun a => isEdge_sp (k := 1) W hM.1 hM.2.1.2 hpl hb (by omega) rfl _ (fun q => ⟨fun z => absurd z (by decide), fun _ => h1 ⟨1, by omega, a, q⟩⟩) (fun q => ⟨fun _ => h0 (no (fun z => q z.2)), fun z => absurd rfl z⟩), fun a => h0 (no (fun z => a z.1))⟩
  unfold g_X9_isWay
  rw [e0, c0, f 16 (by decide) (by decide) (by decide) (by decide)]
  have no : (¬ (E 16 (96 + (2 * b + 0)) = t ∧ fEdge E pl (S 40) (S 41) (mlv S) b 0)) → ¬ ∃ k, k < 1 ∧ E 16 (96 + (2 * b + k)) = t ∧ fEdge E pl (S 40) (S 41) (mlv S) b k := by
    rintro hn ⟨k, hk, z⟩
    rw [show k = 0 by omega] at z
    exact hn z
  exact ⟨v0, fun a => isEdge_sp (k := 0) W hM.1 hM.2.1.2 hpl hb (by omega) rfl _ (fun q => ⟨fun z => absurd z (by decide), fun _ => h1 ⟨0, by omega, a, q⟩⟩) (fun q => ⟨fun _ => second (no (fun z => q z.2)), fun z => absurd rfl z⟩), fun a => second (no (fun z => a z.1))⟩
/-- a name climbs: to what is below every bound, and above what it was -/
theorem MI_up (W : WF E nN nB) (hM : MI E nN nB pl S) {n : Nat} (hn : n < nN) {a w : Int32} (hl : S 42 (E 5 n).toNatClampNeg = 1) (hr : r3 a) (h2 : ∀ us uv, fBd E pl (S 40) (S 41) (mlv S) n us uv → fle a w us uv) (h3 : fle (S 40 n) (S 41 n) a w) {S' : ZS} (e0 : S' 40 = upd (S 40) n a) (e1 : S' 41 = upd (S 41) n w) (e2 : S' 42 = S 42) (hf : fr4 S S') : MI E nN nB pl S' := by
  obtain ⟨f, ⟨m1, m2⟩, m3, m4, m5⟩ := hM
  have hN24 := W.1.2.2.1
  have hle : fLe nN nB (S 40) (S 41) (mlv S) (upd (S 40) n a) (upd (S 41) n w) (mlv S) := by
    refine ⟨fun m hm => ?_, fun _ _ h => h⟩
    by_cases q : m = n
    · subst q; rw [pk_us, pk_us]; exact h3
    · rw [pk_un q, pk_un q]; exact fle_rf _ _ (m1 m (by omega))
  have el : mlv S' = mlv S := by unfold mlv; rw [e2]
  refine ⟨f.tr hf, ⟨fun m hm => ?_, by rw [e2]; exact m2⟩, fun s' v' lv' hc => ?_, fun m us uv hm hB => ?_, by rw [e2]; exact m5⟩
  · rw [e0]
    by_cases q : m = n
    · subst q; rw [pk_us]; exact hr
    · rw [pk_un q]; exact m1 m hm
  · have g := m3 s' v' lv' hc
    rw [e0, e1, el]
    refine ⟨fun m hm => ?_, g.2⟩
    by_cases q : m = n
    · subst q
      rw [pk_us, pk_us]
      exact h2 _ _ (fBd_anti W g hm (hc.2.2 m hm (g.2 _ (vi_cl (W.2.1 m hm).1) hl)))
    · rw [pk_un q, pk_un q]; exact g.1 m hm
  · rw [e0, e1, el] at hB
    rw [e0, e1]
    have hB' := fBd_anti W hle hm hB
    by_cases q : m = n
    · subst q; rw [pk_us, pk_us]; exact h2 us uv hB'
    · rw [pk_un q, pk_un q]; exact m4 m us uv hm hB'
end FLOWM
