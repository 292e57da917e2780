theorem traps_sp (c y : Int32) (Q : Int32 → Prop) (h1 : opt c y → Q 1) (h0 : ¬ opt c y → Q 0) : g_X5_traps c y Q := by
  unfold g_X5_traps
  refine ⟨fun a => ⟨fun b => h1 ⟨Or.inl b, a⟩, fun b => ⟨fun d => h1 ⟨Or.inr d, a⟩, fun d => h0 (fun q => q.1.elim b d)⟩⟩, fun a => h0 (fun q => a q.2)⟩
theorem result_sp (c x y : Int32) (Q : Int32 → Prop) (h : Q (opv c x y)) : g_X5_result c x y Q := by
  unfold g_X5_result
  unfold opv at h
  refine ⟨?_, ?_, ?_, ?_, ?_, ?_, ?_, ?_, ?_⟩
  · rintro rfl
    refine ⟨fun a => ?_, fun a => ⟨a, ?_⟩⟩
    · simpa [a] using h
    · simpa [a] using h
  · rintro rfl; simpa using h
  · rintro rfl; simpa using h
  · rintro rfl; simpa using h
  · rintro rfl; simpa using h
  · rintro rfl
    refine ⟨fun a => ?_, fun a => ⟨a, ?_⟩⟩
    · simpa [a] using h
    · simpa [a] using h
  · rintro rfl
    refine ⟨fun a => ?_, fun a => ?_⟩
    · rw [if_neg (by decide), if_neg (by decide), if_neg (by decide), if_neg (by decide), if_neg (by decide), if_neg (by decide), if_pos rfl, if_pos a] at h; exact h
    · rw [if_neg (by decide), if_neg (by decide), if_neg (by decide), if_neg (by decide), if_neg (by decide), if_neg (by decide), if_pos rfl, if_neg a] at h; exact h
  · rintro rfl; simpa using h
  · intro a1 a2 a3 a4 a5 a6 a7 a8
    rw [if_neg a1, if_neg a2, if_neg a3, if_neg a4, if_neg a5, if_neg a6, if_neg a7, if_neg a8] at h
    refine ⟨fun a => ?_, fun a => ?_⟩
    · rw [if_pos a] at h; exact h
    · rw [if_neg a] at h; exact h
theorem inputOf_sp {n : Nat} (hn : n < 24) (U : ZS) (Q : Int32 → Prop) (h : Q (if U 0 n = 1 then U 1 n else U 2 n)) : g_X2_inputOf (nI n) U Q := by
  have e := nI_clamp (n := n) (by omega)
  have hv : vp_in (nI n) 24 := vp_in_nI hn (by omega)
  unfold g_X2_inputOf
  simp only [e, hv, true_and]
  refine ⟨fun a => ?_, fun a => ?_⟩
  · rw [if_pos a] at h; exact h
  · rw [if_neg a] at h; exact h
theorem two_nI (b : Nat) : 2 * nI b = nI (2 * b) := by rw [show (2 : Int32) = nI 2 from rfl, pk_mul]
theorem three_nI (b : Nat) : 3 * nI b = nI (3 * b) := by rw [show (3 : Int32) = nI 3 from rfl, pk_mul]
theorem isOpen_sp {b : Nat} (hb : b < 8) (t : Int32) (S U : ZS) (Q : Int32 → Prop) (h1 : (∃ k, k < 2 ∧ S 3 (2 * b + k) = 1 ∧ U 4 (2 * b + k) = t) → Q 1) (h0 : ¬ (∃ k, k < 2 ∧ S 3 (2 * b + k) = 1 ∧ U 4 (2 * b + k) = t) → Q 0) : g_X0_isOpen (nI b) t S U Q := by
  unfold g_X0_isOpen
  intro x4 hx4
  rw [two_nI] at hx4
  have key : ∀ k, k ≤ 2 → (∀ j, j < k → ¬ (S 3 (2 * b + j) = 1 ∧ U 4 (2 * b + j) = t)) → ∃ n, fx (F_X0_isOpen_5 (nI b) t S U Q) n (nI (2 * b + k)) := by
    intro k hk hno
    refine fx_all (fun a => ∃ k, k ≤ 2 ∧ a = nI (2 * b + k) ∧ ∀ j, j < k → ¬ (S 3 (2 * b + j) = 1 ∧ U 4 (2 * b + j) = t)) (fun a => 2 * b + 2 - a.toNatClampNeg) ?_ _ ⟨k, hk, rfl, hno⟩
    rintro X a ⟨k, hk, rfl, hno⟩ hX
    unfold F_X0_isOpen_5
    have e := nI_clamp (n := 2 * b + k) (by omega)
    have c2 : 2 * nI b + 2 = nI (2 * b + 2) := by rw [two_nI, show (2 : Int32) = nI 2 from rfl, nI_add]
    simp only [e, c2]
    refine ⟨fun h => ?_, fun h => ?_⟩
    · have : 2 * b + 2 ≤ 2 * b + k := (nI_leI (by omega) (by omega)).mp h
      refine h0 ?_
      rintro ⟨j, hj, q⟩
      exact hno j (by omega) q
    · have hlt : k < 2 := by
        have := mt (nI_leI (a := 2 * b + 2) (b := 2 * b + k) (by omega) (by omega)).mpr h
        omega
      have hv : vp_in (nI (2 * b + k)) 16 := vp_in_nI (by omega) (by omega)
      have hm : 2 * b + 2 - (nI (2 * b + (k + 1))).toNatClampNeg < 2 * b + 2 - (nI (2 * b + k)).toNatClampNeg := by
        rw [nI_clamp (by omega), e]; omega
      refine ⟨hv, fun a => ⟨hv, fun c => h1 ⟨k, hlt, a, c⟩, fun c y hy => ?_⟩, fun a y hy => ?_⟩
      · rw [hy, nI_1]
        refine hX _ ⟨k + 1, hlt, rfl, fun j hj => ?_⟩ hm
        by_cases q : j = k
        · subst q; exact fun z => c z.2
        · exact hno j (by omega)
      · rw [hy, nI_1]
        refine hX _ ⟨k + 1, hlt, rfl, fun j hj => ?_⟩ hm
        by_cases q : j = k
        · subst q; exact fun z => a z.1
        · exact hno j (by omega)
  rw [hx4]
  exact key 0 (by omega) (fun j hj => absurd hj (Nat.not_lt_zero _))
section FLOWC
variable {E T U : ZS} {nN nB : Nat} {pl : Prop} {S : ZS} {x4 : Int32}
/-- the operation's bound -/
def okOp (E S : ZS) (n : Nat) : Prop := S 0 (E 7 n).toNatClampNeg ≠ 0 → S 0 (E 8 n).toNatClampNeg ≠ 0 → ((S 0 (E 7 n).toNatClampNeg = 1 ∧ S 0 (E 8 n).toNatClampNeg = 1 ∧ ¬ opt (E 6 n) (S 1 (E 8 n).toNatClampNeg)) → fle 1 (opv (E 6 n) (S 1 (E 7 n).toNatClampNeg) (S 1 (E 8 n).toNatClampNeg)) (S 0 n) (S 1 n)) ∧ (¬ (S 0 (E 7 n).toNatClampNeg = 1 ∧ S 0 (E 8 n).toNatClampNeg = 1 ∧ ¬ opt (E 6 n) (S 1 (E 8 n).toNatClampNeg)) → S 0 n = 2)
theorem home_lv {s' v' : ZR} {lv' : Nat → Prop} (W : WF E nN nB) (hI : II E nN nB pl S) {n : Nat} (hn : n < nN) (hl : S 2 (E 5 n).toNatClampNeg = 1) (hc : fCl E nN nB pl s' v' lv') : fBd E pl (S 0) (S 1) (fun b => S 2 b = 1) n (s' n) (v' n) :=
  fBd_anti W (hI.2.1 s' v' lv' hc).1 hn (hc.2.2 n hn ((hI.2.1 s' v' lv' hc).1.2 _ (vi_cl (W.2.1 n hn).1) hl))
theorem fle2 {v s' v' : Int32} (h : fle 2 v s' v') : s' = 2 := by
  rcases h with h | h | ⟨h, -, -⟩
  · exact absurd h (by decide)
  · exact h
  · exact absurd h (by decide)
theorem liftOperation_st (W : WF E nN nB) (C : CE T U E nN nB x4) (hI : II E nN nB pl S) {n : Nat} (hn : n < nN) (hop : E 4 n = 2) (hl : S 2 (E 5 n).toNatClampNeg = 1) (Q : Int32 → ZS → Prop) (hQ : ∀ r S', ST E nN nB pl S r S' → (r = 0 → okOp E S n) → Q r S') : g_X0_liftOperation (nI n) S T Q := by
  have hn24 : n < 24 := by have := W.1.2.2.1; omega
  have e := nI_clamp (n := n) (by omega)
  have hv : vp_in (nI n) 24 := vp_in_nI hn24 (by omega)
  obtain ⟨-, c1, c2, -⟩ := C.2.1 n hn
  obtain ⟨c3, c4, c5⟩ := c2 hop
  obtain ⟨w1, w2⟩ := (W.2.1 n hn).2.2.1 hop
  have v1 : vp_in (E 7 n) 24 := vi_mono w1 W.1.2.2.1
  have v2 : vp_in (E 8 n) 24 := vi_mono w2 W.1.2.2.1
  have s1 := hI.1.1 _ (vi_cl v1)
  have s2 := hI.1.1 _ (vi_cl v2)
  unfold g_X0_liftOperation G_X0_liftOperation_76
  simp only [e, hv, true_and, forall_eq, c3, c4, c5, v1, v2]
  have any : ∀ (Q : Int32 → ZS → Prop), S 0 (E 7 n).toNatClampNeg ≠ 0 → S 0 (E 8 n).toNatClampNeg ≠ 0 → ¬ (S 0 (E 7 n).toNatClampNeg = 1 ∧ S 0 (E 8 n).toNatClampNeg = 1 ∧ ¬ opt (E 6 n) (S 1 (E 8 n).toNatClampNeg)) → (∀ r S', ST E nN nB pl S r S' → (r = 0 → okOp E S n) → Q r S') → g_X0_lift (nI n) 2 0 S (fun r S' => isB r ∧ Q r S') := by
    intro Q a b d hQ
    refine lift_st W hI hn (Or.inr (Or.inr rfl)) (fun s' v' lv' hc => ?_) _ (fun r S' hST h0 => ⟨hST.1, hQ r S' hST (fun z _ _ => ⟨fun q => absurd q d, fun _ => fle2 (h0 z)⟩)⟩)
    exact Or.inr (Or.inl (((home_lv W hI hn hl hc).2.2.1 hop a b).2 d))
  refine ⟨fun a => hQ 0 S (ST.rf hI) (fun _ q => absurd a q), fun a => ⟨fun b => hQ 0 S (ST.rf hI) (fun _ _ q => absurd b q), fun b => ⟨fun d => ?_, fun d => ⟨fun f => ?_, fun f => ?_⟩⟩⟩⟩
  · exact any Q a b (fun q => by rw [d] at q; exact absurd q.1 (by decide)) hQ
  · exact any Q a b (fun q => by rw [f] at q; exact absurd q.2.1 (by decide)) hQ
  · have o1 : S 0 (E 7 n).toNatClampNeg = 1 := (s1.resolve_left a).resolve_right d
    have o2 : S 0 (E 8 n).toNatClampNeg = 1 := (s2.resolve_left b).resolve_right f
    refine traps_sp _ _ _ (fun t => ⟨fun z => absurd z (by decide), fun _ => any Q a b (fun q => q.2.2 t) hQ⟩) (fun t => ⟨fun _ => ?_, fun z => absurd rfl z⟩)
    refine result_sp _ _ _ _ ?_
    refine lift_st W hI hn (Or.inr (Or.inl rfl)) (fun s' v' lv' hc => ?_) _ (fun r S' hST h0 => ⟨hST.1, hQ r S' hST (fun z _ _ => ⟨fun _ => h0 z, fun q => absurd ⟨o1, o2, t⟩ q⟩)⟩)
    exact ((home_lv W hI hn hl hc).2.2.1 hop a b).1 ⟨o1, o2, t⟩
/-- the join's bound, by the edges that are open -/
def okJoin (E S : ZS) (n : Nat) : Prop := ∀ k, k < (E 9 n).toNatClampNeg → (∃ j, j < 2 ∧ S 3 (2 * (E 10 (3 * n + k)).toNatClampNeg + j) = 1 ∧ E 16 (96 + (2 * (E 10 (3 * n + k)).toNatClampNeg + j)) = E 5 n) → fle (S 0 (E 11 (3 * n + k)).toNatClampNeg) (S 1 (E 11 (3 * n + k)).toNatClampNeg) (S 0 n) (S 1 n)
theorem liftJoin_st (W : WF E nN nB) (C : CE T U E nN nB x4) (hI : II E nN nB pl S) {n : Nat} (hn : n < nN) (hjo : E 4 n = 3) (hl : S 2 (E 5 n).toNatClampNeg = 1) (Q : Int32 → ZS → Prop) (hQ : ∀ r S', ST E nN nB pl S r S' → (r = 0 → okJoin E S n) → Q r S') : g_X0_liftJoin (nI n) S T U Q := by
  have hn24 : n < 24 := by have := W.1.2.2.1; omega
  have hB8 := W.1.2.2.2
  have e := nI_clamp (n := n) (by omega)
  have hv : vp_in (nI n) 24 := vp_in_nI hn24 (by omega)
  obtain ⟨c0, c1, -, c8, c9, -⟩ := C.2.1 n hn
  obtain ⟨w0, -, -, w9, wA⟩ := W.2.1 n hn
  unfold g_X0_liftJoin
  intro x5 hx5
  rw [three_nI] at hx5
  generalize ha : (E 9 n).toNatClampNeg = a at *
  have e9 : E 9 n = nI a := by rw [← ha]; exact vi_eq w9 (by omega)
  have ha3 : a ≤ 3 := by have := vi_cl w9; omega
  refine fx_all (fun p => ∃ k S1 r, k ≤ a ∧ p = (r, nI (3 * n + k), S1) ∧ ST E nN nB pl S r S1 ∧ (r = 0 → ∀ k', k' < k → (∃ j, j < 2 ∧ S 3 (2 * (E 10 (3 * n + k')).toNatClampNeg + j) = 1 ∧ E 16 (96 + (2 * (E 10 (3 * n + k')).toNatClampNeg + j)) = E 5 n) → fle (S 0 (E 11 (3 * n + k')).toNatClampNeg) (S 1 (E 11 (3 * n + k')).toNatClampNeg) (S 0 n) (S 1 n))) (fun p => 3 * n + 3 - p.2.1.toNatClampNeg) ?_ _ ⟨0, S, 0, Nat.zero_le _, by rw [hx5]; rfl, ST.rf hI, fun _ k' hk' => absurd hk' (Nat.not_lt_zero _)⟩
  rintro X p ⟨k, S1, r, hk, rfl, hST, hok⟩ hX
  unfold F_X0_liftJoin_8
  have e1 := nI_clamp (n := 3 * n + k) (by omega)
  have c2 : 3 * nI n + E 9 n = nI (3 * n + a) := by rw [three_nI, e9, nI_add]
  simp only [e, hv, true_and, c8, c2, e1]
  refine ⟨fun h => ?_, fun h => ?_⟩
  · have : 3 * n + a ≤ 3 * n + k := (nI_leI (by omega) (by omega)).mp h
    have : k = a := by omega
    subst this
    exact ⟨hST.1, hQ r S1 hST (fun z k' hk' => hok z k' (by rw [ha] at hk'; exact hk'))⟩
  · have hlt : k < a := by
      have := mt (nI_leI (a := 3 * n + a) (b := 3 * n + k) (by omega) (by omega)).mpr h
      omega
    obtain ⟨d1, d2⟩ := c9 k hlt
    obtain ⟨w1, w2⟩ := wA k hlt
    have hv2 : vp_in (nI (3 * n + k)) 72 := vp_in_nI (by omega) (by omega)
    have hm : 3 * n + 3 - (nI (3 * n + (k + 1))).toNatClampNeg < 3 * n + 3 - (nI (3 * n + k)).toNatClampNeg := by
      rw [nI_clamp (by omega), e1]; omega
    have v2 : vp_in (E 11 (3 * n + k)) 24 := vi_mono w2 W.1.2.2.1
    have eb : E 10 (3 * n + k) = nI (E 10 (3 * n + k)).toNatClampNeg := vi_eq w1 (by omega)
    have hb8 : (E 10 (3 * n + k)).toNatClampNeg < 8 := by have := vi_cl w1; omega
    have hbB := vi_cl w1
    have hU : ∀ j, j < 2 → U 4 (2 * (E 10 (3 * n + k)).toNatClampNeg + j) = E 16 (96 + (2 * (E 10 (3 * n + k)).toNatClampNeg + j)) := fun j hj => C.2.2.2 _ (by omega)
    refine ⟨hv2, ?_⟩
    rw [forall_eq, d1, d2, c0]
    refine ⟨hv2, ?_⟩
    rw [eb]
    rw [← eb]
    conv => arg 1; rw [eb]
    refine isOpen_sp hb8 _ S1 U _ (fun ho => ⟨fun z => absurd z (by decide), fun _ => ⟨v2, v2, ?_⟩⟩) (fun ho => ⟨fun _ y hy => ?_, fun z => absurd rfl z⟩)
    · have hI1 := hST.2.1
      have hl1 : S1 2 (E 5 n).toNatClampNeg = 1 := hST.2.2.1 _ hl
      refine lift_st W hI1 hn (hI1.1.1 _ (vi_cl v2)) (fun s' v' lv' hc => ?_) _ (fun r' S2 hST2 h0 => ?_)
      · have hLI := hI1.2.1 s' v' lv' hc
        obtain ⟨j, hj, o1, o2⟩ := ho
        rw [hU j hj] at o2
        have hY := hc.2.2 n hn (hLI.1.2 _ (vi_cl w0) hl1)
        exact fle_tr (hLI.1.1 _ (vi_cl w2)) (hY.2.2.2 hjo k (by rw [ha]; exact hlt) ⟨j, hj, o2, hLI.2 _ j hbB hj o1⟩)
      · intro y hy z hz
        rw [hy, hz, nI_1]
        refine hX _ ⟨k + 1, S2, r ||| r', hlt, rfl, hST.tr hST2, fun q k' hk' => ?_⟩ hm
        obtain ⟨q1, q2⟩ := (or_B hST.1 hST2.1).2.mp q
        by_cases hkk : k' = k
        · subst hkk
          intro _
          have := h0 q2
          rw [hST.2.2.2.1 q1] at this
          exact this
        · exact hok q1 k' (by omega)
    · rw [hy, nI_1]
      refine hX _ ⟨k + 1, S1, r, hlt, rfl, hST, fun q k' hk' => ?_⟩ hm
      by_cases hkk : k' = k
      · subst hkk
        rintro ⟨j, hj, o1, o2⟩
        refine absurd ⟨j, hj, ?_, ?_⟩ ho
        · rw [hST.2.2.2.1 q]; exact o1
        · rw [hU j hj]; exact o2
      · exact hok q k' (by omega)
end FLOWC
