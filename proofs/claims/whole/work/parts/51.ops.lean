theorem inR_cases (x : Int32) {N : Nat} (hN : N < 2 ^ 30) : (x < 0 ∧ ¬ ∃ n, n < N ∧ x = nI n) ∨ (∃ j, j < 2 ^ 31 ∧ x = nI j ∧ N ≤ j ∧ ¬ ∃ n, n < N ∧ x = nI n) ∨ ∃ n, n < N ∧ x = nI n := by
  by_cases h : x < 0
  · refine Or.inl ⟨h, ?_⟩
    rintro ⟨n, hn, rfl⟩
    exact nI_pos (by omega) h
  · obtain ⟨j, hj, rfl⟩ := nI_of h
    rcases Nat.lt_or_ge j N with q | q
    · exact Or.inr (Or.inr ⟨j, q, rfl⟩)
    · refine Or.inr (Or.inl ⟨j, hj, rfl, q, ?_⟩)
      rintro ⟨n, hn, e⟩
      have := (nI_eq hj (by omega)).mp e
      omega
theorem has_sp {x y : Int32} {N : Nat} (hN : N < 2 ^ 30) (hy : y = nI N) (Q : Int32 → Prop) (h1 : ∀ n, n < N → x = nI n → Q 1) (h0 : (¬ ∃ n, n < N ∧ x = nI n) → Q 0) : ((x < 0 → Q 0) ∧ (¬ x < 0 → ((y ≤ x → Q 0) ∧ (¬ y ≤ x → Q 1)))) := by
  subst hy
  rcases inR_cases x hN with ⟨a, b⟩ | ⟨j, hj, rfl, a, b⟩ | ⟨n, hn, rfl⟩
  · exact ⟨fun _ => h0 b, fun z => absurd a z⟩
  · exact ⟨fun _ => h0 b, fun _ => ⟨fun _ => h0 b, fun z => absurd ((nI_leI (by omega) hj).mpr a) z⟩⟩
  · exact ⟨fun z => absurd z (nI_pos (by omega)), fun _ => ⟨fun z => absurd ((nI_leI (by omega) (by omega)).mp z) (by omega), fun _ => h1 n hn rfl⟩⟩
theorem in_sp (x : Int32) {y : Int32} {N : Nat} (hN : N < 2 ^ 30) (hy : y.toInt = (N : Int) - 1) (Q : Int32 → Prop) (h1 : ∀ n, n < N → x = nI n → Q 1) (h0 : (¬ ∃ n, n < N ∧ x = nI n) → Q 0) : g_X9_in x 0 y Q := by
  unfold g_X9_in
  rcases inR_cases x hN with ⟨a, b⟩ | ⟨j, hj, rfl, a, b⟩ | ⟨n, hn, rfl⟩
  · exact ⟨fun _ => h0 b, fun z => absurd a z⟩
  · refine ⟨fun _ => h0 b, fun _ => ⟨fun _ => h0 b, fun z => absurd (Int32.lt_iff_toInt_lt.mpr ?_) z⟩⟩
    rw [hy, nI_toInt hj]
    omega
  · refine ⟨fun z => absurd z (nI_pos (by omega)), fun _ => ⟨fun z => ?_, fun _ => h1 n hn rfl⟩⟩
    have := Int32.lt_iff_toInt_lt.mp z
    rw [hy, nI_toInt (by omega)] at this
    omega
theorem sub1_toInt {N : Nat} (hN : N < 2 ^ 30) : (nI N - 1).toInt = (N : Int) - 1 := pk_sub_toInt (a := N) (b := 1) hN (by omega)
theorem isName_sp {E : ZS} {nN : Nat} (x : Int32) (hN : nN ≤ 24) (hE : E 2 0 = nI nN) (Q : Int32 → Prop) (h1 : ∀ n, n < nN → x = nI n → Q 1) (h0 : (¬ ∃ n, n < nN ∧ x = nI n) → Q 0) : g_X9_isName x E Q := by
  unfold g_X9_isName
  rw [hE]
  exact in_sp x (by omega) (sub1_toInt (by omega)) _ (fun n hn e => ⟨isB_1, h1 n hn e⟩) (fun h => ⟨isB_0, h0 h⟩)
theorem isBlock_sp {E : ZS} {nB : Nat} (x : Int32) (hN : nB ≤ 8) (hE : E 3 0 = nI nB) (Q : Int32 → Prop) (h1 : ∀ n, n < nB → x = nI n → Q 1) (h0 : (¬ ∃ n, n < nB ∧ x = nI n) → Q 0) : g_X9_isBlock x E Q := by
  unfold g_X9_isBlock
  rw [hE]
  exact in_sp x (by omega) (sub1_toInt (by omega)) _ (fun n hn e => ⟨isB_1, h1 n hn e⟩) (fun h => ⟨isB_0, h0 h⟩)
theorem hasName_sp {T : ZS} {nN : Nat} (x : Int32) (hN : nN ≤ 24) (hT : T 1 0 = nI nN) (Q : Int32 → Prop) (h1 : ∀ n, n < nN → x = nI n → Q 1) (h0 : (¬ ∃ n, n < nN ∧ x = nI n) → Q 0) : g_X4_hasName x T Q := has_sp (by omega) hT Q h1 h0
theorem hasBlock_sp {T : ZS} {nB : Nat} (x : Int32) (hN : nB ≤ 8) (hT : T 0 0 = nI nB) (Q : Int32 → Prop) (h1 : ∀ n, n < nB → x = nI n → Q 1) (h0 : (¬ ∃ n, n < nB ∧ x = nI n) → Q 0) : g_X4_hasBlock x T Q := has_sp (by omega) hT Q h1 h0
section OPS
variable {S0 S1 S2 S3 S4 S5 S6 S7 S8 S9 S10 S11 M : ZS}
/-- the reference's own rows beside the state are free -/
theorem RR_M {M' : ZS} (h : ∀ k, k ≤ 21 → M' k = M k) (r : RR S0 S1 S2 S3 S4 S5 S6 S7 S8 S9 S10 S11 M) : RR S0 S1 S2 S3 S4 S5 S6 S7 S8 S9 S10 S11 M' := by
  have e : pr M' = pr M := pr_eq (fun k _ hk => h k (by omega))
  unfold RR at *
  rw [e, h 1 (by omega), h 0 (by omega), h 16 (by omega), h 18 (by omega), h 17 (by omega), h 20 (by omega), h 19 (by omega), h 21 (by omega)]
  exact r
theorem RR_fr4 {M' : ZS} (h : fr4 M M') (r : RR S0 S1 S2 S3 S4 S5 S6 S7 S8 S9 S10 S11 M) : RR S0 S1 S2 S3 S4 S5 S6 S7 S8 S9 S10 S11 M' := RR_M (fun k hk => h k (by omega) (by omega) (by omega) (by omega)) r
theorem RR_fr5 {M' : ZS} (h : fr5 M M') (r : RR S0 S1 S2 S3 S4 S5 S6 S7 S8 S9 S10 S11 M) : RR S0 S1 S2 S3 S4 S5 S6 S7 S8 S9 S10 S11 M' := RR_M (fun k hk => h k (by omega) (by omega) (by omega) (by omega) (by omega)) r
/-- what is told -/
theorem RR_told (r : RR S0 S1 S2 S3 S4 S5 S6 S7 S8 S9 S10 S11 M) {x y : Int32} (e : x = y) : RR (zst S0 11 0 x) S1 S2 S3 S4 S5 S6 S7 S8 S9 S10 S11 (zst M 21 0 y) := by
  subst e
  have e1 : pr (zst M 21 0 x) = pr M := pr_eq (fun k _ hk => zs_ne _ _ _ (by omega))
  unfold RR at *
  rw [e1, zs_ne (k' := 1) _ _ _ (by decide), zs_ne (k' := 0) _ _ _ (by decide), zs_ne (k' := 16) _ _ _ (by decide), zs_ne (k' := 18) _ _ _ (by decide), zs_ne (k' := 17) _ _ _ (by decide), zs_ne (k' := 20) _ _ _ (by decide), zs_ne (k' := 19) _ _ _ (by decide), zs_ne (k' := 10) _ _ _ (by decide), zs_at, zs_at]
  obtain ⟨nN, nB, len, h, r1, r2, r3, r4, r5, r6, -⟩ := r
  exact ⟨nN, nB, len, h, r1, r2, r3, r4, r5, r6, rfl⟩
/-- what both sides find agrees -/
theorem flow_one {E M' S : ZS} {nN nB : Nat} {pl : Prop} (W : WF E nN nB) (hF : FF E nN nB pl S) (hM : FM E nN nB pl M') : (∀ n, n < nN → S 0 n = M' 40 n ∧ (S 0 n = 1 → S 1 n = M' 41 n)) ∧ (∀ b, b < nB → S 2 b = M' 42 b) ∧ ∀ b k, b < nB → k < 2 → (S 3 (2 * b + k) = 1 ↔ fEdge E pl (M' 40) (M' 41) (mlv M') b k) := by
  obtain ⟨a, b, c⟩ := fFd_one W hF.2.1 hM.2.2
  have hB8 := W.1.2.2.2
  refine ⟨a, fun x hx => ?_, fun x k hx hk => (hF.2.2.1 x k hx hk).trans (c x k hx)⟩
  have h := b x hx
  rcases hF.1.2.2 x (by omega) with q | q
  · rcases hM.2.1.2 x (by omega) with z | z
    · rw [q, z]
    · have : S 2 x = 1 := h.mpr z
      rw [q] at this
      exact absurd this (by decide)
  · have : M' 42 x = 1 := h.mp q
    rw [q, this]
theorem lk_asked : LK_asked RR := by
  intro S0 S1 S2 S3 S4 S5 S6 S7 S8 S9 S10 S11 M r
  have r' := r
  obtain ⟨nN, nB, len, h, -, -, -, -, -, -, e⟩ := r'
  exact ⟨e, r⟩
theorem lk_clear : LK_clear RR := by
  intro S0 S1 S2 S3 S4 S5 S6 S7 S8 S9 S10 S11 M r
  unfold g_X8_clear g_X9_clear
  simp only [forall_eq]
  obtain ⟨nN, nB, len, h, r1, ⟨l1, l2, l3, l4⟩, r3, r4, r5, r6, r7⟩ := r
  refine ⟨l2.trans l3.symm, nN, nB, 0, h, ?_⟩
  have e1 : pr (zst M 1 0 0) = pr M := pr_eq (fun k hk _ => zs_ne _ _ _ (by omega))
  rw [e1, zs_ne (k' := 16) _ _ _ (by decide), zs_ne (k' := 18) _ _ _ (by decide), zs_ne (k' := 17) _ _ _ (by decide), zs_ne (k' := 20) _ _ _ (by decide), zs_ne (k' := 19) _ _ _ (by decide), zs_ne (k' := 21) _ _ _ (by decide)]
  exact ⟨r1, ⟨by omega, by rw [zs_at]; rfl, by rw [zs_at]; rfl, fun i hi => absurd hi (Nat.not_lt_zero _)⟩, r3, r4, r5, r6, r7⟩
theorem lk_type : LK_type RR := by
  intro S0 S1 S2 S3 S4 S5 S6 S7 S8 S9 S10 S11 M x r
  have rr := r
  obtain ⟨nN, nB, len, h, r1, ⟨l1, l2, l3, l4⟩, r3, r4, r5, r6, r7⟩ := r
  unfold g_X8_type g_X9_type
  have hno : (¬ ∃ n, n < 256 ∧ x = nI n) → g_X9_in x 0 255 (fun r_1 => (((r_1 = 0) → -1 = (-1 : Int32) ∧ RR S0 S1 S2 S3 S4 S5 S6 S7 S8 S9 S10 S11 M) ∧ (¬ r_1 = 0 → ((((M 1 0) = 150) → -1 = (-3 : Int32) ∧ RR S0 S1 S2 S3 S4 S5 S6 S7 S8 S9 S10 S11 M) ∧ (¬ (M 1 0) = 150 → vp_in (M 1 0) 150 ∧ (∀ S0_4, S0_4 = zst M 0 (M 1 0).toNatClampNeg x → ∀ S0_5, S0_5 = zst S0_4 1 0 ((S0_4 1 0) + 1) → -1 = S0_5 1 0 ∧ RR S0 S1 S2 S3 S4 S5 S6 S7 S8 S9 S10 S11 S0_5)))))) := by
    intro hx
    exact in_sp x (N := 256) (by omega) (by decide) _ (fun n hn e => absurd ⟨n, hn, e⟩ hx) (fun _ => ⟨fun _ => ⟨rfl, rr⟩, fun z => (z rfl).elim⟩)
  rcases inR_cases x (N := 256) (by omega) with ⟨a, b⟩ | ⟨j, hj, e, a, b⟩ | ⟨n, hn, e⟩
  · exact ⟨fun _ => hno b, fun z => absurd a z⟩
  · refine ⟨fun _ => hno b, fun _ => ⟨fun z => ?_, fun _ => hno b⟩⟩
    rw [e] at z
    have := (nI_leI (a := j) (b := 255) hj (by omega)).mp z
    omega
  · have c1 : ¬ x < 0 := by rw [e]; exact nI_pos (by omega)
    have c2 : x ≤ 255 := by rw [e]; exact (nI_leI (a := n) (b := 255) (by omega) (by omega)).mpr (by omega)
    refine ⟨fun z => absurd z c1, fun _ => ⟨fun _ => ⟨fun z => ?_, fun z => ?_⟩, fun z => absurd c2 z⟩⟩
    · have hl : len < 150 := by
        rw [l2] at z
        exact (nI_ltI (a := len) (b := 150) (by omega) (by omega)).mp z
      have el := nI_clamp (n := len) (by omega)
      have hv : vp_in (nI len) 150 := vp_in_nI hl (by omega)
      simp only [forall_eq, l2, l3, el]
      refine ⟨hv, in_sp x (N := 256) (by omega) (by decide) _ (fun _ _ _ => ⟨fun y => absurd y (by decide), fun _ => ⟨fun y => ?_, fun _ => ⟨hv, ?_⟩⟩⟩) (fun y => absurd ⟨n, hn, e⟩ y)⟩
      · have := (nI_eq (a := len) (b := 150) (by omega) (by omega)).mp y
        omega
      · have a1 : (zst S1 0 len x) 1 0 = nI len := by rw [zs_ne _ _ _ (by decide)]; exact l2
        have a2 : (zst M 0 len x) 1 0 = nI len := by rw [zs_ne _ _ _ (by decide)]; exact l3
        rw [a1, a2, zs_at, zs_at]
        refine ⟨rfl, nN, nB, len + 1, h, ?_⟩
        have e1 : pr (zst (zst M 0 len x) 1 0 (nI len + 1)) = pr M := pr_eq (fun k hk _ => by rw [zs_ne _ _ _ (by omega), zs_ne _ _ _ (by omega)])
        have out : ∀ k, 2 ≤ k → (zst (zst M 0 len x) 1 0 (nI len + 1)) k = M k := fun k hk => by rw [zs_ne _ _ _ (by omega), zs_ne _ _ _ (by omega)]
        rw [e1, out 16 (by omega), out 17 (by omega), out 18 (by omega), out 19 (by omega), out 20 (by omega), out 21 (by omega)]
        refine ⟨r1, ⟨hl, by rw [zs_at, nI_1], by rw [zs_at, nI_1], fun i hi => ?_⟩, r3, r4, r5, r6, r7⟩
        have b1 : ∀ S : ZS, (zst (zst S 0 len x) 1 0 (nI len + 1)) 0 = upd (S 0) len x := fun S => by rw [zs_ne (k' := 0) (k := 1) _ _ _ (by decide), zs_kk]
        rw [b1, b1]
        unfold upd
        by_cases q : i = len
        · rw [if_pos q, if_pos q, e]; exact ⟨rfl, vp_in_nI hn (by omega)⟩
        · rw [if_neg q, if_neg q]; exact l4 i (by omega)
    · have hl : len = 150 := by
        rw [l2] at z
        have := mt (nI_ltI (a := len) (b := 150) (by omega) (by omega)).mpr z
        omega
      rw [l3, hl]
      exact in_sp x (N := 256) (by omega) (by decide) _ (fun _ _ _ => ⟨fun y => absurd y (by decide), fun _ => ⟨fun _ => ⟨rfl, rr⟩, fun y => (y rfl).elim⟩⟩) (fun y => absurd ⟨n, hn, e⟩ y)
end OPS
