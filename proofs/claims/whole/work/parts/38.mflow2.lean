section FLOWM
variable {E S : ZS} {nN nB : Nat} {pl : Prop} {x3 : Int32}
def CT (E : ZS) (nN nB : Nat) (pl : Prop) (S : ZS) (n : Nat) (S' : ZS) : Prop := MI E nN nB pl S' ∧ fr4 S S' ∧ (S 40 n).toNatClampNeg ≤ (S' 40 n).toNatClampNeg ∧ (∀ m, m ≠ n → S' 40 m = S 40 m) ∧ S' 42 = S 42 ∧ (S' 40 n = S 40 n → XEq S S' ∧ fBd E pl (S 40) (S 41) (mlv S) n (S 40 n) (S 41 n))
/-- an operation is made of other names -/
def WX (E : ZS) (nN : Nat) : Prop := ∀ n, n < nN → E 4 n = 2 → (E 7 n).toNatClampNeg ≠ n ∧ (E 8 n).toNatClampNeg ≠ n
theorem upd_same {f : ZR} {i : Nat} {x : Int32} (h : f i = x) : upd f i x = f := by
  funext j
  unfold upd
  by_cases q : j = i
  · rw [if_pos q, q, h]
  · rw [if_neg q]
theorem upd_twice (f : ZR) (i : Nat) (x y : Int32) : upd (upd f i x) i y = upd f i y := by
  funext j
  unfold upd
  by_cases q : j = i
  · rw [if_pos q, if_pos q]
  · rw [if_neg q, if_neg q, if_neg q]
theorem CT_exact (W : WF E nN nB) (hM : MI E nN nB pl S) {n : Nat} (hn : n < nN) {a w : Int32} (hl : S 42 (E 5 n).toNatClampNeg = 1) (hs : S 40 n ≠ 2) (hr : r3 a) (ha : a ≠ 0) (h2 : ∀ us uv, fBd E pl (S 40) (S 41) (mlv S) n us uv → fle a w us uv) (h4 : fBd E pl (S 40) (S 41) (mlv S) n a w) {S' : ZS} (e0 : S' 40 = upd (S 40) n a) (e1 : S' 41 = upd (S 41) n w) (e2 : S' 42 = S 42) (hf : fr4 S S') : CT E nN nB pl S n S' := by
  have h3 := hM.2.2.2.1 n a w hn h4
  have hn24 : n < 24 := by have := W.1.2.2.1; omega
  have rs := hM.2.1.1 n hn24
  refine ⟨MI_up W hM hn hl hr h2 h3 e0 e1 e2 hf, hf, ?_, fun m hm => by rw [e0, pk_un hm], e2, fun h => ?_⟩
  · rw [e0, pk_us]
    rcases rs with q | q | q
    · rw [q]; exact Nat.zero_le _
    · rw [q]
      rcases hr with z | z | z
      · exact absurd z ha
      · rw [z]; decide
      · rw [z]; decide
    · exact absurd q hs
  · rw [e0, pk_us] at h
    have hw : S 41 n = w := by
      rcases h3 with q | q | q
      · rw [← h] at q; exact absurd q ha
      · rw [h] at q; exact absurd q hs
      · exact q.2.2
    refine ⟨⟨by rw [e0, upd_same h.symm], by rw [e1, upd_same hw], e2⟩, ?_⟩
    rw [← h, hw]
    exact h4
theorem CT_stay (hM : MI E nN nB pl S) {n : Nat} (hB : fBd E pl (S 40) (S 41) (mlv S) n (S 40 n) (S 41 n)) : CT E nN nB pl S n S := ⟨hM, fun _ _ _ _ _ => rfl, Nat.le_refl _, fun _ _ => rfl, rfl, fun _ => ⟨⟨rfl, rfl, rfl⟩, hB⟩⟩
theorem climbsOperation_sp (W : WF E nN nB) (X : WX E nN) (hM : MI E nN nB pl S) {n : Nat} (hn : n < nN) (hop : E 4 n = 2) (hl : S 42 (E 5 n).toNatClampNeg = 1) (hs : S 40 n ≠ 2) (Q : ZS → Prop) (hQ : ∀ S', CT E nN nB pl S n S' → Q S') : g_X9_climbsOperation (nI n) S Q := by
  have hn24 : n < 24 := by have := W.1.2.2.1; omega
  have en := nI_clamp (n := n) (by omega)
  have hv : vp_in (nI n) 24 := vp_in_nI hn24 (by omega)
  have f := hM.1
  obtain ⟨w1, w2⟩ := (W.2.1 n hn).2.2.1 hop
  obtain ⟨x1, x2⟩ := X n hn hop
  have v1 : vp_in (E 7 n) 24 := vi_mono w1 W.1.2.2.1
  have v2 : vp_in (E 8 n) 24 := vi_mono w2 W.1.2.2.1
  unfold g_X9_climbsOperation
  simp only [en, hv, true_and, forall_eq, f 7 (by decide) (by decide) (by decide) (by decide), f 8 (by decide) (by decide) (by decide) (by decide), v1, v2]
  have oth : ∀ {z : Int32}, z = 2 → (E 4 n = 0 → False) ∧ (E 4 n = 1 → False) ∧ (E 4 n = 3 → False) := fun _ => ⟨fun q => by rw [hop] at q; exact absurd q (by decide), fun q => by rw [hop] at q; exact absurd q (by decide), fun q => by rw [hop] at q; exact absurd q (by decide)⟩
  obtain ⟨o0, o1, o3⟩ := oth (z := 2) rfl
  have stay : (S 40 (E 7 n).toNatClampNeg = 0 ∨ S 40 (E 8 n).toNatClampNeg = 0) → Q S := by
    intro h
    refine hQ S (CT_stay hM ⟨fun q => (o0 q).elim, fun q => (o1 q).elim, fun _ a b => ?_, fun q => (o3 q).elim⟩)
    rcases h with h | h
    · exact absurd h a
    · exact absurd h b
  have g40 : ∀ m, m ≠ n → (zst S 40 n 2) 40 m = S 40 m := fun m hm => zs_ni S 40 2 hm
  have g41 : (zst S 40 n 2) 41 = S 41 := zs_ne S n 2 (by decide)
  have g6 : (zst S 40 n 2) 6 = E 6 := (zs_ne S n 2 (by decide)).trans (f 6 (by decide) (by decide) (by decide) (by decide))
  refine ⟨fun a => stay (Or.inl a), fun a => ⟨fun b => stay (Or.inr b), fun b => ?_⟩⟩
  rw [g40 _ x1, g40 _ x2, g41, g6]
  have any : ¬ (S 40 (E 7 n).toNatClampNeg = 1 ∧ S 40 (E 8 n).toNatClampNeg = 1 ∧ ¬ opt (E 6 n) (S 41 (E 8 n).toNatClampNeg)) → ∀ w S', S' 40 = upd (S 40) n 2 → S' 41 = upd (S 41) n w → S' 42 = S 42 → fr4 S S' → Q S' := by
    intro d w S' e0 e1 e2 hf
    refine hQ S' (CT_exact W hM hn hl hs (Or.inr (Or.inr rfl)) (by decide) (fun us uv hB => ?_) ⟨fun q => (o0 q).elim, fun q => (o1 q).elim, fun _ _ _ => ⟨fun q => absurd q d, fun _ => rfl⟩, fun q => (o3 q).elim⟩ e0 e1 e2 hf)
    exact Or.inr (Or.inl ((hB.2.2.1 hop a b).2 d))
  have plain2 : ¬ (S 40 (E 7 n).toNatClampNeg = 1 ∧ S 40 (E 8 n).toNatClampNeg = 1 ∧ ¬ opt (E 6 n) (S 41 (E 8 n).toNatClampNeg)) → Q (zst S 40 n 2) := fun d => any d (S 41 n) _ (zs_kk S 40 n 2) (by rw [g41, upd_same rfl]) (zs_ne S n 2 (by decide)) (fun k h1 _ _ _ => zs_ne S n 2 h1)
  refine ⟨fun c1 => ⟨fun c2 => ?_, fun c2 => plain2 (fun q => c2 q.2.1)⟩, fun c1 => plain2 (fun q => c1 q.1)⟩
  have slots : ∀ (t r z : Int32), (zst (zst (zst (zst S 40 n 2) 44 0 t) 41 n r) 40 n z) 40 = upd (S 40) n z ∧ (zst (zst (zst (zst S 40 n 2) 44 0 t) 41 n r) 40 n z) 41 = upd (S 41) n r ∧ (zst (zst (zst (zst S 40 n 2) 44 0 t) 41 n r) 40 n z) 42 = S 42 ∧ fr4 S (zst (zst (zst (zst S 40 n 2) 44 0 t) 41 n r) 40 n z) := by
    intro t r z
    refine ⟨?_, ?_, ?_, fun k h1 h2 h3 h4 => ?_⟩
    · rw [zs_kk, zs_ne _ _ _ (by decide), zs_ne _ _ _ (by decide), zs_kk, upd_twice]
    · rw [zs_ne _ _ _ (by decide), zs_kk, zs_ne _ _ _ (by decide), zs_ne _ _ _ (by decide)]
    · rw [zs_ne _ _ _ (by decide), zs_ne _ _ _ (by decide), zs_ne _ _ _ (by decide), zs_ne _ _ _ (by decide)]
    · rw [zs_ne _ _ _ h1, zs_ne _ _ _ h2, zs_ne _ _ _ h4, zs_ne _ _ _ h1]
  have t44 : ∀ (t r : Int32), (zst (zst (zst S 40 n 2) 44 0 t) 41 n r) 44 0 = t := fun t r => by rw [zs_ne _ _ _ (by decide), zs_at]
  refine doneBy_sp _ _ _ _ _ (fun t => ?_) (fun t => ?_)
  · simp only [t44]
    refine ⟨fun z => absurd z (by decide), fun _ => ?_⟩
    obtain ⟨s0, s1, s2, s3⟩ := slots 1 (opv (E 6 n) (S 41 (E 7 n).toNatClampNeg) (S 41 (E 8 n).toNatClampNeg)) 2
    exact any (fun q => q.2.2 t) _ _ s0 s1 s2 s3
  · simp only [t44]
    refine ⟨fun _ => ?_, fun z => (z (by trivial)).elim⟩
    obtain ⟨s0, s1, s2, s3⟩ := slots 0 (opv (E 6 n) (S 41 (E 7 n).toNatClampNeg) (S 41 (E 8 n).toNatClampNeg)) 1
    refine hQ _ (CT_exact W hM hn hl hs (Or.inr (Or.inl rfl)) (by decide) (fun us uv hB => (hB.2.2.1 hop a b).1 ⟨c1, c2, t⟩) ⟨fun q => (o0 q).elim, fun q => (o1 q).elim, fun _ _ _ => ⟨fun _ => fle_rf _ _ (Or.inr (Or.inl rfl)), fun q => absurd ⟨c1, c2, t⟩ q⟩, fun q => (o3 q).elim⟩ s0 s1 s2 s3)
end FLOWM
