theorem fFd_cong {E E' : ZS} {nN nB : Nat} {pl : Prop} {s v : ZR} {lv : Nat → Prop} (h : pr E' = pr E) (q : fFd E' nN nB pl s v lv) : fFd E nN nB pl s v lv := by
  have q : fFd (pr E') nN nB pl s v lv := q
  rw [h] at q
  exact q
theorem WF_cong {E E' : ZS} {nN nB : Nat} (h : pr E' = pr E) (q : WF E nN nB) : WF E' nN nB := by
  have q : WF (pr E) nN nB := q
  rw [← h] at q
  exact q
theorem WX_cong {E E' : ZS} {nN : Nat} (h : pr E' = pr E) (q : WX E nN) : WX E' nN := by
  have q : WX (pr E) nN := q
  rw [← h] at q
  exact q
section CNTO
variable {M : ZS} {nN nB : Nat}
/-- gain: both are found, one behind the other -/
theorem gain_sp (W : WF M nN nB) (X : WX M nN) (Q : Int32 → ZS → Prop) (hQ : ∀ M1 M3, FM M nN nB True M1 → (∀ k, k ≤ 21 → M3 k = M k) → fFd M nN nB False (M3 40) (M3 41) (mlv M3) → Q (sI (fun n => if ¬ M3 40 n = 2 ∧ M1 40 n = 2 then 1 else 0) nN) M3) : g_X9_gain M Q := by
  have hN24 := W.1.2.2.1
  unfold g_X9_gain
  refine finds_sp W X (pl := True) ⟨fun _ => trivial, fun _ => by decide⟩ _ (fun M1 hM1 => ?_)
  refine bring_sp (a := 0) (d := 0) (c := 24) (by omega) (by omega) (by omega) (by omega) _ _ _ ?_
  have k21 : ∀ k, k ≤ 21 → (zrp M1 43 (brF (M1 40) (M1 43) 0 0 24)) k = M k := fun k hk => by rw [zr_ne _ _ (by omega)]; exact hM1.1 k (by omega) (by omega) (by omega) (by omega)
  have ep : pr (zrp M1 43 (brF (M1 40) (M1 43) 0 0 24)) = pr M := pr_eq (fun k _ hk => k21 k (by omega))
  refine finds_sp (WF_cong ep W) (WX_cong ep X) (pl := False) ⟨fun z => z rfl, fun z => z.elim⟩ _ (fun M3 hM3 => ?_)
  have e3 : ∀ k, k ≤ 21 → M3 k = M k := fun k hk => (hM3.1 k (by omega) (by omega) (by omega) (by omega)).trans (k21 k hk)
  have e43 : ∀ n, n < 24 → M3 43 n = M1 40 n := fun n hn => by
    rw [hM3.1 43 (by decide) (by decide) (by decide) (by decide), zr_kk]
    unfold brF
    rw [if_pos (by omega)]
    congr 1
    omega
  have e2 : M3 2 0 = nI nN := by rw [e3 2 (by omega)]; exact W.1.1
  refine fx_all (fun p => ∃ i, i ≤ nN ∧ p = (sI (fun n => if ¬ M3 40 n = 2 ∧ M1 40 n = 2 then 1 else 0) i, nI i, M3)) (fun p => nN - p.2.1.toNatClampNeg) ?_ _ ⟨0, Nat.zero_le _, rfl⟩
  rintro X p ⟨i, hi, rfl⟩ hX
  have ei := nI_clamp (n := i) (by omega)
  unfold F_X9_gain_29
  simp only [e2, ei, forall_eq, nI_1]
  refine ⟨fun z => ?_, fun z => ?_⟩
  · have : nN ≤ i := (nI_leI (by omega) (by omega)).mp z
    rw [show i = nN by omega]
    exact hQ M1 M3 hM1 e3 (fFd_cong ep hM3.2.2)
  · have hlt : i < nN := by
      have := mt (nI_leI (a := nN) (b := i) (by omega) (by omega)).mpr z
      omega
    have hv : vp_in (nI i) 24 := vp_in_nI (by omega) (by omega)
    have hm : nN - (nI (i + 1)).toNatClampNeg < nN - (nI i).toNatClampNeg := by rw [nI_clamp (by omega), ei]; omega
    have go : ∀ v : Int32, (if ¬ M3 40 i = 2 ∧ M1 40 i = 2 then (1 : Int32) else 0) = v → X (sI (fun n => if ¬ M3 40 n = 2 ∧ M1 40 n = 2 then 1 else 0) i + v, nI (i + 1), M3) := fun v hv => hX _ ⟨i + 1, hlt, by rw [← hv]; rfl⟩ hm
    rw [e43 i (by omega)]
    refine ⟨hv, fun q => ⟨hv, fun u => go 0 (if_neg (fun y => y.1 u)), fun u => go 1 (if_pos ⟨u, q⟩)⟩, fun q => go 0 (if_neg (fun y => q y.2))⟩
theorem m_count0 (W : WF M nN nB) (X : WX M nN) (x : Int32) (hx : x = 0) (Q : Int32 → ZS → Prop) (hQ : ∀ M', FM M nN nB False M' → Q (nI nN) M') : g_X9_count x M Q := by
  have hN24 := W.1.2.2.1
  have hB8 := W.1.2.2.2
  unfold g_X9_count
  refine finds_sp W X (pl := False) ⟨fun z => z rfl, fun z => z.elim⟩ _ (fun M' hM => ?_)
  have f := hM.1
  have e2 : M' 2 0 = nI nN := by rw [f 2 (by decide) (by decide) (by decide) (by decide)]; exact W.1.1
  have e3 : M' 3 0 = nI nB := by rw [f 3 (by decide) (by decide) (by decide) (by decide)]; exact W.1.2.1
  refine ⟨fun _ => ?_, fun q => absurd (hx.symm.trans q) (by decide), fun q => absurd (hx.symm.trans q) (by decide), fun q => absurd (hx.symm.trans q) (by decide), fun q => absurd (hx.symm.trans q) (by decide), fun q => absurd (hx.symm.trans q) (by decide), fun q => absurd (hx.symm.trans q) (by decide), fun q => absurd (hx.symm.trans q) (by decide), fun q => absurd (hx.symm.trans q) (by decide), fun q => absurd (hx.symm.trans q) (by decide), fun q => absurd (hx.symm.trans q) (by decide), fun q => absurd (hx.symm.trans q) (by decide), fun q => absurd (hx.symm.trans q) (by decide), fun n0 n1 n2 n3 n4 n5 n6 n7 n8 n9 n10 n11 n12 => absurd hx n0⟩
  rw [f 2 (by decide) (by decide) (by decide) (by decide), W.1.1]
  exact hQ M' hM
theorem m_count1 (W : WF M nN nB) (X : WX M nN) (x : Int32) (hx : x = 1) (Q : Int32 → ZS → Prop) (hQ : ∀ M', FM M nN nB False M' → Q (nI nB) M') : g_X9_count x M Q := by
  have hN24 := W.1.2.2.1
  have hB8 := W.1.2.2.2
  unfold g_X9_count
  refine finds_sp W X (pl := False) ⟨fun z => z rfl, fun z => z.elim⟩ _ (fun M' hM => ?_)
  have f := hM.1
  have e2 : M' 2 0 = nI nN := by rw [f 2 (by decide) (by decide) (by decide) (by decide)]; exact W.1.1
  have e3 : M' 3 0 = nI nB := by rw [f 3 (by decide) (by decide) (by decide) (by decide)]; exact W.1.2.1
  refine ⟨fun q => absurd (hx.symm.trans q) (by decide), fun _ => ?_, fun q => absurd (hx.symm.trans q) (by decide), fun q => absurd (hx.symm.trans q) (by decide), fun q => absurd (hx.symm.trans q) (by decide), fun q => absurd (hx.symm.trans q) (by decide), fun q => absurd (hx.symm.trans q) (by decide), fun q => absurd (hx.symm.trans q) (by decide), fun q => absurd (hx.symm.trans q) (by decide), fun q => absurd (hx.symm.trans q) (by decide), fun q => absurd (hx.symm.trans q) (by decide), fun q => absurd (hx.symm.trans q) (by decide), fun q => absurd (hx.symm.trans q) (by decide), fun n0 n1 n2 n3 n4 n5 n6 n7 n8 n9 n10 n11 n12 => absurd hx n1⟩
  rw [f 3 (by decide) (by decide) (by decide) (by decide), W.1.2.1]
  exact hQ M' hM
theorem m_count2 (W : WF M nN nB) (X : WX M nN) (x : Int32) (hx : x = 2) (Q : Int32 → ZS → Prop) (hQ : ∀ M', FM M nN nB False M' → Q (sI (fun e => if M 16 (96 + e) = -9 then 0 else 1) (2 * nB)) M') : g_X9_count x M Q := by
  have hN24 := W.1.2.2.1
  have hB8 := W.1.2.2.2
  unfold g_X9_count
  refine finds_sp W X (pl := False) ⟨fun z => z rfl, fun z => z.elim⟩ _ (fun M' hM => ?_)
  have f := hM.1
  have e2 : M' 2 0 = nI nN := by rw [f 2 (by decide) (by decide) (by decide) (by decide)]; exact W.1.1
  have e3 : M' 3 0 = nI nB := by rw [f 3 (by decide) (by decide) (by decide) (by decide)]; exact W.1.2.1
  refine ⟨fun q => absurd (hx.symm.trans q) (by decide), fun q => absurd (hx.symm.trans q) (by decide), fun _ => ?_, fun q => absurd (hx.symm.trans q) (by decide), fun q => absurd (hx.symm.trans q) (by decide), fun q => absurd (hx.symm.trans q) (by decide), fun q => absurd (hx.symm.trans q) (by decide), fun q => absurd (hx.symm.trans q) (by decide), fun q => absurd (hx.symm.trans q) (by decide), fun q => absurd (hx.symm.trans q) (by decide), fun q => absurd (hx.symm.trans q) (by decide), fun q => absurd (hx.symm.trans q) (by decide), fun q => absurd (hx.symm.trans q) (by decide), fun n0 n1 n2 n3 n4 n5 n6 n7 n8 n9 n10 n11 n12 => absurd hx n2⟩
  refine mEdges_sp W f hM.2.1.2 0 _ (fun e he => ⟨fun q => if_pos q, fun q _ => if_neg q, fun _ q => (q rfl).elim⟩) _ (hQ M' hM)
theorem m_count3 (W : WF M nN nB) (X : WX M nN) (x : Int32) (hx : x = 3) (Q : Int32 → ZS → Prop) (hQ : ∀ M', FM M nN nB False M' → Q (sI (fun b => if M' 42 b = 0 then 0 else 1) nB) M') : g_X9_count x M Q := by
  have hN24 := W.1.2.2.1
  have hB8 := W.1.2.2.2
  unfold g_X9_count
  refine finds_sp W X (pl := False) ⟨fun z => z rfl, fun z => z.elim⟩ _ (fun M' hM => ?_)
  have f := hM.1
  have e2 : M' 2 0 = nI nN := by rw [f 2 (by decide) (by decide) (by decide) (by decide)]; exact W.1.1
  have e3 : M' 3 0 = nI nB := by rw [f 3 (by decide) (by decide) (by decide) (by decide)]; exact W.1.2.1
  refine ⟨fun q => absurd (hx.symm.trans q) (by decide), fun q => absurd (hx.symm.trans q) (by decide), fun q => absurd (hx.symm.trans q) (by decide), fun _ => ?_, fun q => absurd (hx.symm.trans q) (by decide), fun q => absurd (hx.symm.trans q) (by decide), fun q => absurd (hx.symm.trans q) (by decide), fun q => absurd (hx.symm.trans q) (by decide), fun q => absurd (hx.symm.trans q) (by decide), fun q => absurd (hx.symm.trans q) (by decide), fun q => absurd (hx.symm.trans q) (by decide), fun q => absurd (hx.symm.trans q) (by decide), fun q => absurd (hx.symm.trans q) (by decide), fun n0 n1 n2 n3 n4 n5 n6 n7 n8 n9 n10 n11 n12 => absurd hx n3⟩
  exact mLive_sp hB8 e3 _ (hQ M' hM)
theorem m_count4 (W : WF M nN nB) (X : WX M nN) (x : Int32) (hx : x = 4) (Q : Int32 → ZS → Prop) (hQ : ∀ M', FM M nN nB False M' → Q (sI (fun e => if M 16 (96 + e) = -9 then 0 else eC M M' e) (2 * nB)) M') : g_X9_count x M Q := by
  have hN24 := W.1.2.2.1
  have hB8 := W.1.2.2.2
  unfold g_X9_count
  refine finds_sp W X (pl := False) ⟨fun z => z rfl, fun z => z.elim⟩ _ (fun M' hM => ?_)
  have f := hM.1
  have e2 : M' 2 0 = nI nN := by rw [f 2 (by decide) (by decide) (by decide) (by decide)]; exact W.1.1
  have e3 : M' 3 0 = nI nB := by rw [f 3 (by decide) (by decide) (by decide) (by decide)]; exact W.1.2.1
  refine ⟨fun q => absurd (hx.symm.trans q) (by decide), fun q => absurd (hx.symm.trans q) (by decide), fun q => absurd (hx.symm.trans q) (by decide), fun q => absurd (hx.symm.trans q) (by decide), fun _ => ?_, fun q => absurd (hx.symm.trans q) (by decide), fun q => absurd (hx.symm.trans q) (by decide), fun q => absurd (hx.symm.trans q) (by decide), fun q => absurd (hx.symm.trans q) (by decide), fun q => absurd (hx.symm.trans q) (by decide), fun q => absurd (hx.symm.trans q) (by decide), fun q => absurd (hx.symm.trans q) (by decide), fun q => absurd (hx.symm.trans q) (by decide), fun n0 n1 n2 n3 n4 n5 n6 n7 n8 n9 n10 n11 n12 => absurd hx n4⟩
  refine mEdges_sp W f hM.2.1.2 1 _ (fun e he => ⟨fun q => if_pos q, fun _ q => absurd q (by decide), fun q _ => if_neg q⟩) _ (hQ M' hM)
theorem m_count5 (W : WF M nN nB) (X : WX M nN) (x : Int32) (hx : x = 5) (Q : Int32 → ZS → Prop) (hQ : ∀ M', FM M nN nB False M' → Q (sI (fun n => if M' 40 n = 1 then 1 else 0) nN) M') : g_X9_count x M Q := by
  have hN24 := W.1.2.2.1
  have hB8 := W.1.2.2.2
  unfold g_X9_count
  refine finds_sp W X (pl := False) ⟨fun z => z rfl, fun z => z.elim⟩ _ (fun M' hM => ?_)
  have f := hM.1
  have e2 : M' 2 0 = nI nN := by rw [f 2 (by decide) (by decide) (by decide) (by decide)]; exact W.1.1
  have e3 : M' 3 0 = nI nB := by rw [f 3 (by decide) (by decide) (by decide) (by decide)]; exact W.1.2.1
  refine ⟨fun q => absurd (hx.symm.trans q) (by decide), fun q => absurd (hx.symm.trans q) (by decide), fun q => absurd (hx.symm.trans q) (by decide), fun q => absurd (hx.symm.trans q) (by decide), fun q => absurd (hx.symm.trans q) (by decide), fun _ => ?_, fun q => absurd (hx.symm.trans q) (by decide), fun q => absurd (hx.symm.trans q) (by decide), fun q => absurd (hx.symm.trans q) (by decide), fun q => absurd (hx.symm.trans q) (by decide), fun q => absurd (hx.symm.trans q) (by decide), fun q => absurd (hx.symm.trans q) (by decide), fun q => absurd (hx.symm.trans q) (by decide), fun n0 n1 n2 n3 n4 n5 n6 n7 n8 n9 n10 n11 n12 => absurd hx n5⟩
  exact those_sp 1 hN24 e2 _ (hQ M' hM)
theorem m_count6 (W : WF M nN nB) (X : WX M nN) (x : Int32) (hx : x = 6) (Q : Int32 → ZS → Prop) (hQ : ∀ M', FM M nN nB False M' → Q (sI (fun n => if M' 40 n = 0 then 1 else 0) nN) M') : g_X9_count x M Q := by
  have hN24 := W.1.2.2.1
  have hB8 := W.1.2.2.2
  unfold g_X9_count
  refine finds_sp W X (pl := False) ⟨fun z => z rfl, fun z => z.elim⟩ _ (fun M' hM => ?_)
  have f := hM.1
  have e2 : M' 2 0 = nI nN := by rw [f 2 (by decide) (by decide) (by decide) (by decide)]; exact W.1.1
  have e3 : M' 3 0 = nI nB := by rw [f 3 (by decide) (by decide) (by decide) (by decide)]; exact W.1.2.1
  refine ⟨fun q => absurd (hx.symm.trans q) (by decide), fun q => absurd (hx.symm.trans q) (by decide), fun q => absurd (hx.symm.trans q) (by decide), fun q => absurd (hx.symm.trans q) (by decide), fun q => absurd (hx.symm.trans q) (by decide), fun q => absurd (hx.symm.trans q) (by decide), fun _ => ?_, fun q => absurd (hx.symm.trans q) (by decide), fun q => absurd (hx.symm.trans q) (by decide), fun q => absurd (hx.symm.trans q) (by decide), fun q => absurd (hx.symm.trans q) (by decide), fun q => absurd (hx.symm.trans q) (by decide), fun q => absurd (hx.symm.trans q) (by decide), fun n0 n1 n2 n3 n4 n5 n6 n7 n8 n9 n10 n11 n12 => absurd hx n6⟩
  exact those_sp 0 hN24 e2 _ (hQ M' hM)
theorem m_count7 (W : WF M nN nB) (X : WX M nN) (x : Int32) (hx : x = 7) (Q : Int32 → ZS → Prop) (hQ : ∀ M', FM M nN nB False M' → Q (sI (fun n => if M' 40 n = 1 ∧ ¬ M 4 n = 0 then 1 else 0) nN) M') : g_X9_count x M Q := by
  have hN24 := W.1.2.2.1
  have hB8 := W.1.2.2.2
  unfold g_X9_count
  refine finds_sp W X (pl := False) ⟨fun z => z rfl, fun z => z.elim⟩ _ (fun M' hM => ?_)
  have f := hM.1
  have e2 : M' 2 0 = nI nN := by rw [f 2 (by decide) (by decide) (by decide) (by decide)]; exact W.1.1
  have e3 : M' 3 0 = nI nB := by rw [f 3 (by decide) (by decide) (by decide) (by decide)]; exact W.1.2.1
  refine ⟨fun q => absurd (hx.symm.trans q) (by decide), fun q => absurd (hx.symm.trans q) (by decide), fun q => absurd (hx.symm.trans q) (by decide), fun q => absurd (hx.symm.trans q) (by decide), fun q => absurd (hx.symm.trans q) (by decide), fun q => absurd (hx.symm.trans q) (by decide), fun q => absurd (hx.symm.trans q) (by decide), fun _ => ?_, fun q => absurd (hx.symm.trans q) (by decide), fun q => absurd (hx.symm.trans q) (by decide), fun q => absurd (hx.symm.trans q) (by decide), fun q => absurd (hx.symm.trans q) (by decide), fun q => absurd (hx.symm.trans q) (by decide), fun n0 n1 n2 n3 n4 n5 n6 n7 n8 n9 n10 n11 n12 => absurd hx n7⟩
  refine mFolds_sp hN24 e2 _ ?_
  rw [f 4 (by decide) (by decide) (by decide) (by decide)]
  exact hQ M' hM
theorem m_count8 (W : WF M nN nB) (X : WX M nN) (x : Int32) (hx : x = 8) (Q : Int32 → ZS → Prop) (hQ : ∀ M', FM M nN nB False M' → Q (sI (fun b => if M 13 b = 1 ∧ ¬ eC M M' (2 * b + 0) = eC M M' (2 * b + 1) then 1 else 0) nB) M') : g_X9_count x M Q := by
  have hN24 := W.1.2.2.1
  have hB8 := W.1.2.2.2
  unfold g_X9_count
  refine finds_sp W X (pl := False) ⟨fun z => z rfl, fun z => z.elim⟩ _ (fun M' hM => ?_)
  have f := hM.1
  have e2 : M' 2 0 = nI nN := by rw [f 2 (by decide) (by decide) (by decide) (by decide)]; exact W.1.1
  have e3 : M' 3 0 = nI nB := by rw [f 3 (by decide) (by decide) (by decide) (by decide)]; exact W.1.2.1
  refine ⟨fun q => absurd (hx.symm.trans q) (by decide), fun q => absurd (hx.symm.trans q) (by decide), fun q => absurd (hx.symm.trans q) (by decide), fun q => absurd (hx.symm.trans q) (by decide), fun q => absurd (hx.symm.trans q) (by decide), fun q => absurd (hx.symm.trans q) (by decide), fun q => absurd (hx.symm.trans q) (by decide), fun q => absurd (hx.symm.trans q) (by decide), fun _ => ?_, fun q => absurd (hx.symm.trans q) (by decide), fun q => absurd (hx.symm.trans q) (by decide), fun q => absurd (hx.symm.trans q) (by decide), fun q => absurd (hx.symm.trans q) (by decide), fun n0 n1 n2 n3 n4 n5 n6 n7 n8 n9 n10 n11 n12 => absurd hx n8⟩
  exact mEnds_sp W f hM.2.1.2 _ (hQ M' hM)
theorem m_count9 (W : WF M nN nB) (X : WX M nN) (x : Int32) (hx : x = 9) (Q : Int32 → ZS → Prop) (hQ : ∀ M', FM M nN nB False M' → Q (sI (fun n => if ¬ M' 42 (M 5 n).toNatClampNeg = 0 ∧ ¬ M' 40 n = 1 ∧ ¬ M 4 n = 0 then 1 else 0) nN) M') : g_X9_count x M Q := by
  have hN24 := W.1.2.2.1
  have hB8 := W.1.2.2.2
  unfold g_X9_count
  refine finds_sp W X (pl := False) ⟨fun z => z rfl, fun z => z.elim⟩ _ (fun M' hM => ?_)
  have f := hM.1
  have e2 : M' 2 0 = nI nN := by rw [f 2 (by decide) (by decide) (by decide) (by decide)]; exact W.1.1
  have e3 : M' 3 0 = nI nB := by rw [f 3 (by decide) (by decide) (by decide) (by decide)]; exact W.1.2.1
  refine ⟨fun q => absurd (hx.symm.trans q) (by decide), fun q => absurd (hx.symm.trans q) (by decide), fun q => absurd (hx.symm.trans q) (by decide), fun q => absurd (hx.symm.trans q) (by decide), fun q => absurd (hx.symm.trans q) (by decide), fun q => absurd (hx.symm.trans q) (by decide), fun q => absurd (hx.symm.trans q) (by decide), fun q => absurd (hx.symm.trans q) (by decide), fun q => absurd (hx.symm.trans q) (by decide), fun _ => ?_, fun q => absurd (hx.symm.trans q) (by decide), fun q => absurd (hx.symm.trans q) (by decide), fun q => absurd (hx.symm.trans q) (by decide), fun n0 n1 n2 n3 n4 n5 n6 n7 n8 n9 n10 n11 n12 => absurd hx n9⟩
  refine mStays_sp hN24 e2 (fun n hn => by have q := vi_mono (W.2.1 n hn).1 hB8; rw [← f 5 (by decide) (by decide) (by decide) (by decide)] at q; exact q) _ ?_
  rw [f 4 (by decide) (by decide) (by decide) (by decide), f 5 (by decide) (by decide) (by decide) (by decide)]
  exact hQ M' hM
theorem m_count10 (W : WF M nN nB) (X : WX M nN) (x : Int32) (hx : x = 10) (Q : Int32 → ZS → Prop) (hQ : ∀ M1 M3, FM M nN nB True M1 → (∀ k, k ≤ 21 → M3 k = M k) → fFd M nN nB False (M3 40) (M3 41) (mlv M3) → Q (sI (fun n => if ¬ M3 40 n = 2 ∧ M1 40 n = 2 then 1 else 0) nN) M3) : g_X9_count x M Q := by
  unfold g_X9_count
  refine finds_sp W X (pl := False) ⟨fun z => z rfl, fun z => z.elim⟩ _ (fun M' hM => ?_)
  have k21 : ∀ k, k ≤ 21 → M' k = M k := fun k hk => hM.1 k (by omega) (by omega) (by omega) (by omega)
  have ep : pr M' = pr M := pr_eq (fun k _ hk => k21 k (by omega))
  refine ⟨fun q => absurd (hx.symm.trans q) (by decide), fun q => absurd (hx.symm.trans q) (by decide), fun q => absurd (hx.symm.trans q) (by decide), fun q => absurd (hx.symm.trans q) (by decide), fun q => absurd (hx.symm.trans q) (by decide), fun q => absurd (hx.symm.trans q) (by decide), fun q => absurd (hx.symm.trans q) (by decide), fun q => absurd (hx.symm.trans q) (by decide), fun q => absurd (hx.symm.trans q) (by decide), fun q => absurd (hx.symm.trans q) (by decide), fun _ => ?_, fun q => absurd (hx.symm.trans q) (by decide), fun q => absurd (hx.symm.trans q) (by decide), fun n0 n1 n2 n3 n4 n5 n6 n7 n8 n9 n10 n11 n12 => absurd hx n10⟩
  refine gain_sp (WF_cong ep W) (WX_cong ep X) _ (fun M1 M3 h1 h3 h4 => hQ M1 M3 ?_ (fun k hk => (h3 k hk).trans (k21 k hk)) (fFd_cong ep h4))
  exact ⟨fun k a b c d => (h1.1 k a b c d).trans (hM.1 k a b c d), h1.2.1, fFd_cong ep h1.2.2⟩
theorem m_count11 (W : WF M nN nB) (X : WX M nN) (x : Int32) (hx : x = 11) (Q : Int32 → ZS → Prop) (hQ : ∀ M', FM M nN nB False M' → Q (M 18 0) M') : g_X9_count x M Q := by
  have hN24 := W.1.2.2.1
  have hB8 := W.1.2.2.2
  unfold g_X9_count
  refine finds_sp W X (pl := False) ⟨fun z => z rfl, fun z => z.elim⟩ _ (fun M' hM => ?_)
  have f := hM.1
  have e2 : M' 2 0 = nI nN := by rw [f 2 (by decide) (by decide) (by decide) (by decide)]; exact W.1.1
  have e3 : M' 3 0 = nI nB := by rw [f 3 (by decide) (by decide) (by decide) (by decide)]; exact W.1.2.1
  refine ⟨fun q => absurd (hx.symm.trans q) (by decide), fun q => absurd (hx.symm.trans q) (by decide), fun q => absurd (hx.symm.trans q) (by decide), fun q => absurd (hx.symm.trans q) (by decide), fun q => absurd (hx.symm.trans q) (by decide), fun q => absurd (hx.symm.trans q) (by decide), fun q => absurd (hx.symm.trans q) (by decide), fun q => absurd (hx.symm.trans q) (by decide), fun q => absurd (hx.symm.trans q) (by decide), fun q => absurd (hx.symm.trans q) (by decide), fun q => absurd (hx.symm.trans q) (by decide), fun _ => ?_, fun q => absurd (hx.symm.trans q) (by decide), fun n0 n1 n2 n3 n4 n5 n6 n7 n8 n9 n10 n11 n12 => absurd hx n11⟩
  rw [f 18 (by decide) (by decide) (by decide) (by decide)]
  exact hQ M' hM
theorem m_count12 (W : WF M nN nB) (X : WX M nN) (x : Int32) (hx : x = 12) (Q : Int32 → ZS → Prop) (hQ : ∀ M', FM M nN nB False M' → Q (M 1 0) M') : g_X9_count x M Q := by
  have hN24 := W.1.2.2.1
  have hB8 := W.1.2.2.2
  unfold g_X9_count
  refine finds_sp W X (pl := False) ⟨fun z => z rfl, fun z => z.elim⟩ _ (fun M' hM => ?_)
  have f := hM.1
  have e2 : M' 2 0 = nI nN := by rw [f 2 (by decide) (by decide) (by decide) (by decide)]; exact W.1.1
  have e3 : M' 3 0 = nI nB := by rw [f 3 (by decide) (by decide) (by decide) (by decide)]; exact W.1.2.1
  refine ⟨fun q => absurd (hx.symm.trans q) (by decide), fun q => absurd (hx.symm.trans q) (by decide), fun q => absurd (hx.symm.trans q) (by decide), fun q => absurd (hx.symm.trans q) (by decide), fun q => absurd (hx.symm.trans q) (by decide), fun q => absurd (hx.symm.trans q) (by decide), fun q => absurd (hx.symm.trans q) (by decide), fun q => absurd (hx.symm.trans q) (by decide), fun q => absurd (hx.symm.trans q) (by decide), fun q => absurd (hx.symm.trans q) (by decide), fun q => absurd (hx.symm.trans q) (by decide), fun q => absurd (hx.symm.trans q) (by decide), fun _ => ?_, fun n0 n1 n2 n3 n4 n5 n6 n7 n8 n9 n10 n11 n12 => absurd hx n12⟩
  rw [f 1 (by decide) (by decide) (by decide) (by decide)]
  exact hQ M' hM
theorem m_countN (W : WF M nN nB) (X : WX M nN) (x : Int32) (hx : ¬ x = 0 ∧ ¬ x = 1 ∧ ¬ x = 2 ∧ ¬ x = 3 ∧ ¬ x = 4 ∧ ¬ x = 5 ∧ ¬ x = 6 ∧ ¬ x = 7 ∧ ¬ x = 8 ∧ ¬ x = 9 ∧ ¬ x = 10 ∧ ¬ x = 11 ∧ ¬ x = 12 ∧ True) (Q : Int32 → ZS → Prop) (hQ : ∀ M', FM M nN nB False M' → Q (-1) M') : g_X9_count x M Q := by
  unfold g_X9_count
  refine finds_sp W X (pl := False) ⟨fun z => z rfl, fun z => z.elim⟩ _ (fun M' hM => ?_)
  refine ⟨fun q => absurd q hx.1, fun q => absurd q hx.2.1, fun q => absurd q hx.2.2.1, fun q => absurd q hx.2.2.2.1, fun q => absurd q hx.2.2.2.2.1, fun q => absurd q hx.2.2.2.2.2.1, fun q => absurd q hx.2.2.2.2.2.2.1, fun q => absurd q hx.2.2.2.2.2.2.2.1, fun q => absurd q hx.2.2.2.2.2.2.2.2.1, fun q => absurd q hx.2.2.2.2.2.2.2.2.2.1, fun q => absurd q hx.2.2.2.2.2.2.2.2.2.2.1, fun q => absurd q hx.2.2.2.2.2.2.2.2.2.2.2.1, fun q => absurd q hx.2.2.2.2.2.2.2.2.2.2.2.2.1, fun _ _ _ _ _ _ _ _ _ _ _ _ _ => ?_⟩
  exact hQ M' hM
end CNTO
