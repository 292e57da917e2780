/-! counting loops -/
def sI (c : Nat → Int32) : Nat → Int32
  | 0 => 0
  | n + 1 => sI c n + c n
theorem sI_cong {c d : Nat → Int32} : ∀ {n : Nat}, (∀ k, k < n → c k = d k) → sI c n = sI d n
  | 0, _ => rfl
  | n + 1, h => by
    show sI c n + c n = sI d n + d n
    rw [sI_cong (fun k hk => h k (by omega)), h n (by omega)]
theorem sI_more {c : Nat → Int32} {m : Nat} : ∀ {n : Nat}, m ≤ n → (∀ k, m ≤ k → k < n → c k = 0) → sI c n = sI c m
  | 0, h, _ => by rw [show m = 0 by omega]
  | n + 1, h, hz => by
    by_cases q : m = n + 1
    · rw [q]
    · show sI c n + c n = _
      rw [hz n (by omega) (by omega), sI_more (show m ≤ n by omega) (fun k h1 h2 => hz k h1 (by omega)), Int32.add_zero]
theorem sum_loop {F : (Int32 × Int32 → Prop) → Int32 × Int32 → Prop} {N : Nat} (hN : N < 2 ^ 30) (c : Nat → Int32) (Q : Int32 → Prop) (h : Q (sI c N)) (he : ∀ X a, nI N ≤ nI N → Q a → F X (a, nI N)) (hs : ∀ X a i, i < N → ¬ nI N ≤ nI i → (nI i).toNatClampNeg = i → X (a + c i, nI (i + 1)) → F X (a, nI i)) : ∃ n, fx F n (0, 0) := by
  refine fx_all (fun p => ∃ i, i ≤ N ∧ p = (sI c i, nI i)) (fun p => N - p.2.toNatClampNeg) ?_ _ ⟨0, Nat.zero_le _, rfl⟩
  rintro X p ⟨i, hi, rfl⟩ hX
  by_cases q : i = N
  · subst q
    exact he X _ (Int32.le_refl _) h
  · refine hs X _ i (by omega) (fun z => ?_) (nI_clamp (by omega)) (hX _ ⟨i + 1, by omega, rfl⟩ ?_)
    · have := (nI_leI (by omega) (by omega)).mp z
      omega
    · show N - (nI (i + 1)).toNatClampNeg < N - (nI i).toNatClampNeg
      rw [nI_clamp (by omega), nI_clamp (by omega)]
      omega
section CNT
variable {S T P : ZS} {nN nB : Nat}
theorem namesThatAre_sp (w : Int32) (hN : nN ≤ 24) (hT : T 1 0 = nI nN) (Q : Int32 → Prop) (h : Q (sI (fun n => if S 0 n = w then 1 else 0) nN)) : g_X0_namesThatAre w S T Q := by
  refine sum_loop (N := nN) (by omega) _ Q h (fun X a z hq => ?_) (fun X a i hi z e hX => ?_)
  · unfold F_X0_namesThatAre_5
    simp only [hT]
    exact ⟨fun _ => hq, fun y => absurd z y⟩
  · unfold F_X0_namesThatAre_5
    simp only [hT, e, forall_eq, nI_1] at hX ⊢
    refine ⟨fun y => absurd y z, fun _ => ⟨vp_in_nI (by omega) (by omega), fun q => ?_, fun q => ?_⟩⟩
    · rw [if_pos q] at hX; exact hX
    · rw [if_neg q] at hX; exact hX
theorem cLive_sp (hB : nB ≤ 8) (hT : T 0 0 = nI nB) (Q : Int32 → Prop) (h : Q (sI (fun b => S 2 b) nB)) : g_X0_liveBlocks S T Q := by
  refine sum_loop (N := nB) (by omega) _ Q h (fun X a z hq => ?_) (fun X a i hi z e hX => ?_)
  · unfold F_X0_liveBlocks_4
    simp only [hT]
    exact ⟨fun _ => hq, fun y => absurd z y⟩
  · unfold F_X0_liveBlocks_4
    simp only [hT, e, forall_eq, nI_1] at hX ⊢
    exact ⟨fun y => absurd y z, fun _ => ⟨vp_in_nI (by omega) (by omega), hX⟩⟩
theorem cLiveE_sp (Q : Int32 → Prop) (h : Q (sI (fun e => S 3 e) 16)) : g_X0_liveEdges S Q := by
  refine sum_loop (N := 16) (by omega) _ Q h (fun X a z hq => ?_) (fun X a i hi z e hX => ?_)
  · unfold F_X0_liveEdges_4
    exact ⟨fun _ => hq, fun y => absurd z y⟩
  · unfold F_X0_liveEdges_4
    simp only [e, forall_eq, nI_1] at hX ⊢
    exact ⟨fun y => absurd y z, fun _ => ⟨vp_in_nI (by omega) (by omega), hX⟩⟩
theorem cFolds_sp (hN : nN ≤ 24) (hT : T 1 0 = nI nN) (Q : Int32 → Prop) (h : Q (sI (fun n => if S 0 n = 1 ∧ ¬ T 3 n = 0 then 1 else 0) nN)) : g_X0_foldedNames S T Q := by
  refine sum_loop (N := nN) (by omega) _ Q h (fun X a z hq => ?_) (fun X a i hi z e hX => ?_)
  · unfold F_X0_foldedNames_4
    simp only [hT]
    exact ⟨fun _ => hq, fun y => absurd z y⟩
  · unfold F_X0_foldedNames_4
    have hv : vp_in (nI i) 24 := vp_in_nI (by omega) (by omega)
    simp only [hT, e, forall_eq, nI_1] at hX ⊢
    refine ⟨fun y => absurd y z, fun _ => ⟨hv, fun q => ⟨hv, fun u => ?_, fun u => ?_⟩, fun q => ?_⟩⟩
    · rw [if_neg (fun t => t.2 u)] at hX; exact hX
    · rw [if_pos ⟨q, u⟩] at hX; exact hX
    · rw [if_neg (fun t => q t.1)] at hX; exact hX
theorem cEnds_sp (hB : nB ≤ 8) (hT : T 0 0 = nI nB) (Q : Int32 → Prop) (h : Q (sI (fun b => if S 2 b = 1 ∧ T 13 b = 1 ∧ ¬ S 3 (2 * b + 0) = S 3 (2 * b + 1) then 1 else 0) nB)) : g_X0_foldedEnds S T Q := by
  refine sum_loop (N := nB) (by omega) _ Q h (fun X a z hq => ?_) (fun X a i hi z e hX => ?_)
  · unfold F_X0_foldedEnds_4
    simp only [hT]
    exact ⟨fun _ => hq, fun y => absurd z y⟩
  · unfold F_X0_foldedEnds_4 G_X0_foldedEnds_38
    have hv : vp_in (nI i) 8 := vp_in_nI (by omega) (by omega)
    have e0 : 2 * nI i = nI (2 * i + 0) := two_nI i
    have e1 : nI (2 * i + 0) + 1 = nI (2 * i + 1) := nI_1 _
    have c0 := nI_clamp (n := 2 * i + 0) (by omega)
    have c1 := nI_clamp (n := 2 * i + 1) (by omega)
    simp only [hT, e, forall_eq, e0, e1, c0, c1] at hX ⊢
    rw [nI_1]
    refine ⟨fun y => absurd y z, fun _ => ⟨vp_in_nI (by omega) (by omega), vp_in_nI (by omega) (by omega), fun q => ⟨hv, fun u => ⟨hv, fun t => ⟨fun _ => ?_, fun y => (y (by trivial)).elim⟩, fun t => ?_⟩, fun u => ?_⟩, fun q => ⟨hv, fun u => ⟨hv, fun t => ⟨fun y => absurd y (by decide), fun _ => ?_⟩, fun t => ?_⟩, fun u => ?_⟩⟩⟩
    · rw [if_neg (fun y => y.2.2 q)] at hX; exact hX
    · rw [if_neg (fun y => t y.2.1)] at hX; exact hX
    · rw [if_neg (fun y => u y.1)] at hX; exact hX
    · rw [if_pos ⟨u, t, q⟩] at hX; exact hX
    · rw [if_neg (fun y => t y.2.1)] at hX; exact hX
    · rw [if_neg (fun y => u y.1)] at hX; exact hX
theorem cStays_sp (hN : nN ≤ 24) (hT : T 1 0 = nI nN) (hv2 : ∀ n, n < nN → vp_in (T 2 n) 8) (Q : Int32 → Prop) (h : Q (sI (fun n => if S 2 (T 2 n).toNatClampNeg = 1 ∧ ¬ S 0 n = 1 ∧ ¬ T 3 n = 0 then 1 else 0) nN)) : g_X0_stayingNames S T Q := by
  refine sum_loop (N := nN) (by omega) _ Q h (fun X a z hq => ?_) (fun X a i hi z e hX => ?_)
  · unfold F_X0_stayingNames_4
    simp only [hT]
    exact ⟨fun _ => hq, fun y => absurd z y⟩
  · unfold F_X0_stayingNames_4 G_X0_stayingNames_50 G_X0_stayingNames_51
    have hv : vp_in (nI i) 24 := vp_in_nI (by omega) (by omega)
    simp only [hT, e, forall_eq, nI_1] at hX ⊢
    refine ⟨fun y => absurd y z, fun _ => ⟨hv, hv2 i hi, fun q => ⟨hv, fun u => ⟨fun _ => ?_, fun y => (y (by trivial)).elim⟩, fun u => ⟨hv, fun t => ⟨fun _ => ?_, fun y => (y (by trivial)).elim⟩, fun t => ⟨fun y => absurd y (by decide), fun _ => ?_⟩⟩⟩, fun q => ⟨fun _ => ?_, fun y => (y (by trivial)).elim⟩⟩⟩
    · rw [if_neg (fun y => y.2.1 u)] at hX; exact hX
    · rw [if_neg (fun y => y.2.2 t)] at hX; exact hX
    · rw [if_pos ⟨q, u, t⟩] at hX; exact hX
    · rw [if_neg (fun y => q y.1)] at hX; exact hX
theorem cGain_sp (hN : nN ≤ 24) (hT : T 1 0 = nI nN) (Q : Int32 → Prop) (h : Q (sI (fun n => if ¬ S 0 n = 2 ∧ P 0 n = 2 then 1 else 0) nN)) : g_X0_gainOver S P T Q := by
  refine sum_loop (N := nN) (by omega) _ Q h (fun X a z hq => ?_) (fun X a i hi z e hX => ?_)
  · unfold F_X0_gainOver_5
    simp only [hT]
    exact ⟨fun _ => hq, fun y => absurd z y⟩
  · unfold F_X0_gainOver_5
    have hv : vp_in (nI i) 24 := vp_in_nI (by omega) (by omega)
    simp only [hT, e, forall_eq, nI_1] at hX ⊢
    refine ⟨fun y => absurd y z, fun _ => ⟨hv, fun q => ?_, fun q => ⟨hv, fun u => ?_, fun u => ?_⟩⟩⟩
    · rw [if_neg (fun y => y.1 q)] at hX; exact hX
    · rw [if_pos ⟨q, u⟩] at hX; exact hX
    · rw [if_neg (fun y => u y.2)] at hX; exact hX
theorem cEdges_sp (hB : nB ≤ 8) (hT : T 0 0 = nI nB) (Q : Int32 → Prop) (h : Q (sI (fun e => if T 15 e = -9 then 0 else 1) (2 * nB))) : g_X4_edges T Q := by
  refine sum_loop (N := 2 * nB) (by omega) _ Q h (fun X a z hq => ?_) (fun X a i hi z e hX => ?_)
  · unfold F_X4_edges_4
    simp only [hT, two_nI]
    exact ⟨fun _ => hq, fun y => absurd z y⟩
  · unfold F_X4_edges_4
    have hv : vp_in (nI i) 16 := vp_in_nI (by omega) (by omega)
    simp only [hT, two_nI, e, forall_eq, nI_1] at hX ⊢
    refine ⟨fun y => absurd y z, fun _ => ⟨hv, fun q => ?_, fun q => ?_⟩⟩
    · rw [if_pos q] at hX; exact hX
    · rw [if_neg q] at hX; exact hX
-- the reference's
theorem those_sp (w : Int32) (hN : nN ≤ 24) (hT : S 2 0 = nI nN) (Q : Int32 → Prop) (h : Q (sI (fun n => if S 40 n = w then 1 else 0) nN)) : g_X9_those w S Q := by
  refine sum_loop (N := nN) (by omega) _ Q h (fun X a z hq => ?_) (fun X a i hi z e hX => ?_)
  · unfold F_X9_those_4
    simp only [hT]
    exact ⟨fun _ => hq, fun y => absurd z y⟩
  · unfold F_X9_those_4
    simp only [hT, e, forall_eq, nI_1] at hX ⊢
    refine ⟨fun y => absurd y z, fun _ => ⟨vp_in_nI (by omega) (by omega), fun q => ?_, fun q => ?_⟩⟩
    · rw [if_pos q] at hX; exact hX
    · rw [if_neg q] at hX; exact hX
theorem mLive_sp (hB : nB ≤ 8) (hT : S 3 0 = nI nB) (Q : Int32 → Prop) (h : Q (sI (fun b => if S 42 b = 0 then 0 else 1) nB)) : g_X9_liveBlocks S Q := by
  refine sum_loop (N := nB) (by omega) _ Q h (fun X a z hq => ?_) (fun X a i hi z e hX => ?_)
  · unfold F_X9_liveBlocks_4
    simp only [hT]
    exact ⟨fun _ => hq, fun y => absurd z y⟩
  · unfold F_X9_liveBlocks_4
    simp only [hT, e, forall_eq, nI_1] at hX ⊢
    refine ⟨fun y => absurd y z, fun _ => ⟨vp_in_nI (by omega) (by omega), fun q => ?_, fun q => ?_⟩⟩
    · rw [if_pos q] at hX; exact hX
    · rw [if_neg q] at hX; exact hX
theorem mFolds_sp (hN : nN ≤ 24) (hT : S 2 0 = nI nN) (Q : Int32 → Prop) (h : Q (sI (fun n => if S 40 n = 1 ∧ ¬ S 4 n = 0 then 1 else 0) nN)) : g_X9_folds S Q := by
  refine sum_loop (N := nN) (by omega) _ Q h (fun X a z hq => ?_) (fun X a i hi z e hX => ?_)
  · unfold F_X9_folds_4
    simp only [hT]
    exact ⟨fun _ => hq, fun y => absurd z y⟩
  · unfold F_X9_folds_4
    have hv : vp_in (nI i) 24 := vp_in_nI (by omega) (by omega)
    simp only [hT, e, forall_eq, nI_1] at hX ⊢
    refine ⟨fun y => absurd y z, fun _ => ⟨hv, fun q => ⟨hv, fun u => ?_, fun u => ?_⟩, fun q => ?_⟩⟩
    · rw [if_neg (fun t => t.2 u)] at hX; exact hX
    · rw [if_pos ⟨q, u⟩] at hX; exact hX
    · rw [if_neg (fun t => q t.1)] at hX; exact hX
theorem mStays_sp (hN : nN ≤ 24) (hT : S 2 0 = nI nN) (hv2 : ∀ n, n < nN → vp_in (S 5 n) 8) (Q : Int32 → Prop) (h : Q (sI (fun n => if ¬ S 42 (S 5 n).toNatClampNeg = 0 ∧ ¬ S 40 n = 1 ∧ ¬ S 4 n = 0 then 1 else 0) nN)) : g_X9_stays S Q := by
  refine sum_loop (N := nN) (by omega) _ Q h (fun X a z hq => ?_) (fun X a i hi z e hX => ?_)
  · unfold F_X9_stays_4
    simp only [hT]
    exact ⟨fun _ => hq, fun y => absurd z y⟩
  · unfold F_X9_stays_4
    have hv : vp_in (nI i) 24 := vp_in_nI (by omega) (by omega)
    simp only [hT, e, forall_eq, nI_1] at hX ⊢
    refine ⟨fun y => absurd y z, fun _ => ⟨hv, hv2 i hi, fun q => ?_, fun q => ⟨hv, fun u => ?_, fun u => ⟨hv, fun t => ?_, fun t => ?_⟩⟩⟩⟩
    · rw [if_neg (fun y => y.1 q)] at hX; exact hX
    · rw [if_neg (fun y => y.2.2 u)] at hX; exact hX
    · rw [if_neg (fun y => y.2.1 t)] at hX; exact hX
    · rw [if_pos ⟨q, t, u⟩] at hX; exact hX
end CNT
