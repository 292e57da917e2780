theorem b01 {x y : Int32} (hx : isB x) (hy : isB y) (h : x = 1 ↔ y = 1) : x = y := by
  rcases hx with q | q
  · rcases hy with z | z
    · rw [q, z]
    · have := h.mpr z
      rw [q] at this
      exact absurd this (by decide)
  · rw [q, h.mp q]
theorem eC_eq {E M' S : ZS} {nN nB : Nat} (W : WF E nN nB) (hF : FF E nN nB False S) (hM : FM E nN nB False M') {e : Nat} (he : e < 2 * nB) : eC E M' e = S 3 e := by
  have hB8 := W.1.2.2.2
  obtain ⟨-, -, g3⟩ := flow_one W hF hM
  have h := g3 (e / 2) (e % 2) (by omega) (by omega)
  rw [show 2 * (e / 2) + e % 2 = e by omega] at h
  have hb := hF.1.2.1 e (by omega)
  unfold eC
  by_cases q : fEdge E False (M' 40) (M' 41) (mlv M') (e / 2) (e % 2)
  · rw [if_pos q, h.mpr q]
  · rw [if_neg q]
    exact (hb.resolve_right (fun z => q (h.mp z))).symm
theorem way_iff {T E : ZS} {nN nB : Nat} (W : WF E nN nB) (w : WW E (wy E) nN nB) (se : SEq T E nN nB) {e : Nat} (he : e < 2 * nB) : T 15 e = -9 ↔ E 16 (96 + e) = -9 := by
  have hb : e / 2 < nB := by omega
  obtain ⟨-, -, -, -, -, s0, s1⟩ := se.2.2 (e / 2) hb
  obtain ⟨w2, w0, w1⟩ := w.2.1 (e / 2) hb
  have k3 := kind3 (W.2.2.1 (e / 2) hb).1
  rcases (show e % 2 = 0 ∨ e % 2 = 1 by omega) with q | q
  · have e0 : 2 * (e / 2) + 0 = e := by omega
    rw [e0] at s0 w2 w0 w1
    rw [s0]
    refine ⟨fun z => (w2 z).1, fun z => ?_⟩
    rcases k3 with k | k | k
    · exact absurd z (w0 k).1
    · exact absurd z (w1 k).1
    · exact k
  · have e1 : 2 * (e / 2) + 1 = e := by omega
    rw [e1] at s1 w2 w0 w1
    rw [s1]
    refine ⟨fun z => ?_, fun z k => (w1 k).2 z⟩
    rcases k3 with k | k | k
    · exact (w0 k).2
    · exact absurd k z
    · exact (w2 k).2
theorem lk_count : LK_count RR := by
  intro S0 S1 S2 S3 S4 S5 S6 S7 S8 S9 S10 S11 M x r
  have rr := r
  obtain ⟨nN, nB, len, h, ⟨ws, ww⟩, ⟨l1, l2, l3, l4⟩, ⟨se, ne⟩, ⟨f5, f6, wk⟩, ⟨h1, h2, h3, h4⟩, -, -⟩ := r
  have W : WF M nN nB := wf_of ws ww
  have X : WX M nN := ws.2.2.2.2.1
  have se : SEq S2 M nN nB := se
  have ww : WW M (wy M) nN nB := ww
  have f5 : FF M nN nB False S5 := f5
  have f6 : FF M nN nB True S6 := f6
  have hN24 := W.1.2.2.1
  have hB8 := W.1.2.2.2
  unfold g_X8_count
  refine ⟨fun q => ?_, fun q => ?_, fun q => ?_, fun q => ?_, fun q => ?_, fun q => ?_, fun q => ?_, fun q => ?_, fun q => ?_, fun q => ?_, fun q => ?_, fun q => ?_, fun q => ?_, fun n0 n1 n2 n3 n4 n5 n6 n7 n8 n9 n10 n11 n12 => ?_⟩
  · exact m_count0 W X x q _ (fun M' hM => ⟨se.1.2, RR_fr4 hM.1 rr⟩)
  · exact m_count1 W X x q _ (fun M' hM => ⟨se.1.1, RR_fr4 hM.1 rr⟩)
  · refine cEdges_sp hB8 se.1.1 _ (m_count2 W X x q _ (fun M' hM => ⟨?_, RR_fr4 hM.1 rr⟩))
    refine sI_cong (fun e he => ?_)
    have := way_iff W ww se he
    by_cases z : S2 15 e = -9
    · rw [if_pos z, if_pos (this.mp z)]
    · rw [if_neg z, if_neg (fun y => z (this.mpr y))]
  · refine cLive_sp hB8 se.1.1 _ (m_count3 W X x q _ (fun M' hM => ⟨?_, RR_fr4 hM.1 rr⟩))
    refine sI_cong (fun b hb => ?_)
    rw [(flow_one W f5 hM).2.1 b hb]
    rcases hM.2.1.2 b (by omega) with z | z
    · rw [z, if_pos rfl]
    · rw [z, if_neg (by decide)]
  · refine cLiveE_sp _ (m_count4 W X x q _ (fun M' hM => ⟨?_, RR_fr4 hM.1 rr⟩))
    rw [sI_more (m := 2 * nB) (by omega) (fun e a b => f5.2.2.2 e a b)]
    refine sI_cong (fun e he => ?_)
    rw [eC_eq W f5 hM he]
    by_cases z : M 16 (96 + e) = -9
    · rw [if_pos z]
      refine (f5.1.2.1 e (by omega)).resolve_right (fun y => ?_)
      have g := (f5.2.2.1 (e / 2) (e % 2) (by omega) (by omega))
      rw [show 2 * (e / 2) + e % 2 = e by omega] at g
      have := (g.mp y).2.1
      rw [show 2 * (e / 2) + e % 2 = e by omega] at this
      exact this z
    · rw [if_neg z]
  · refine namesThatAre_sp 1 hN24 se.1.2 _ (m_count5 W X x q _ (fun M' hM => ⟨?_, RR_fr4 hM.1 rr⟩))
    refine sI_cong (fun n hn => ?_)
    rw [((flow_one W f5 hM).1 n hn).1]
  · refine namesThatAre_sp 0 hN24 se.1.2 _ (m_count6 W X x q _ (fun M' hM => ⟨?_, RR_fr4 hM.1 rr⟩))
    refine sI_cong (fun n hn => ?_)
    rw [((flow_one W f5 hM).1 n hn).1]
  · refine cFolds_sp hN24 se.1.2 _ (m_count7 W X x q _ (fun M' hM => ⟨?_, RR_fr4 hM.1 rr⟩))
    refine sI_cong (fun n hn => ?_)
    rw [((flow_one W f5 hM).1 n hn).1, (se.2.1 n hn).2.1]
  · refine cEnds_sp hB8 se.1.1 _ (m_count8 W X x q _ (fun M' hM => ⟨?_, RR_fr4 hM.1 rr⟩))
    refine sI_cong (fun b hb => ?_)
    rw [eC_eq W f5 hM (show 2 * b + 0 < 2 * nB by omega), eC_eq W f5 hM (show 2 * b + 1 < 2 * nB by omega), (se.2.2 b hb).1]
    by_cases z : M 13 b = 1 ∧ ¬ S5 3 (2 * b + 0) = S5 3 (2 * b + 1)
    · have l2 : S5 2 b = 1 := by
        rcases f5.1.2.1 (2 * b + 0) (by omega) with u | u
        · rcases f5.1.2.1 (2 * b + 1) (by omega) with t | t
          · exact absurd (u.trans t.symm) z.2
          · exact ((f5.2.2.1 b 1 hb (by omega)).mp t).1
        · exact ((f5.2.2.1 b 0 hb (by omega)).mp u).1
      have y : S5 2 b = 1 ∧ M 13 b = 1 ∧ ¬ S5 3 (2 * b + 0) = S5 3 (2 * b + 1) := ⟨l2, z⟩
      rw [if_pos z, if_pos y]
    · rw [if_neg z, if_neg (fun y => z y.2)]
  · refine cStays_sp hN24 se.1.2 (fun n hn => by rw [(se.2.1 n hn).1]; exact vi_mono (W.2.1 n hn).1 hB8) _ (m_count9 W X x q _ (fun M' hM => ⟨?_, RR_fr4 hM.1 rr⟩))
    refine sI_cong (fun n hn => ?_)
    have w5 := vi_cl (W.2.1 n hn).1
    rw [((flow_one W f5 hM).1 n hn).1, (se.2.1 n hn).2.1, (se.2.1 n hn).1, (flow_one W f5 hM).2.1 _ w5]
    rcases hM.2.1.2 (M 5 n).toNatClampNeg (by omega) with z | z
    · rw [z, if_neg (fun y => absurd y.1 (by decide)), if_neg (fun y => y.1 rfl)]
    · rw [z]
      by_cases y : ¬ M' 40 n = 1 ∧ ¬ M 4 n = 0
      · rw [if_pos ⟨rfl, y⟩, if_pos ⟨by decide, y⟩]
      · rw [if_neg (fun t => y t.2), if_neg (fun t => y t.2)]
  · refine cGain_sp hN24 se.1.2 _ (m_count10 W X x q _ (fun M1 M3 g1 g2 g3 => ⟨?_, RR_M g2 rr⟩))
    refine sI_cong (fun n hn => ?_)
    rw [((flow_one W f6 g1).1 n hn).1, ((fFd_one W f5.2.1 g3).1 n hn).1]
  · exact m_count11 W X x q _ (fun M' hM => ⟨h2.trans h3.symm, RR_fr4 hM.1 rr⟩)
  · exact m_count12 W X x q _ (fun M' hM => ⟨l2.trans l3.symm, RR_fr4 hM.1 rr⟩)
  · exact m_countN W X x ⟨n0, n1, n2, n3, n4, n5, n6, n7, n8, n9, n10, n11, n12, trivial⟩ _ (fun M' hM => ⟨rfl, RR_fr4 hM.1 rr⟩)
theorem m_block {M : ZS} {nN nB : Nat} (x x2 : Int32) (W : WF M nN nB) (X : WX M nN) (B : WB M nN nB) (Q : Int32 → ZS → Prop) (hb : ((¬ ∃ n, n < nB ∧ x = nI n) ∨ ¬ ∃ k, k < 9 ∧ x2 = nI k) → Q (-1) M) (hg : ∀ b, b < nB → x = nI b → ∀ M', FM M nN nB False M' → (x2 = 0 → (M' 42 b = 0 → Q 0 M') ∧ (¬ M' 42 b = 0 → Q 1 M')) ∧ (x2 = 1 → Q (nI ((M 12 (b + 1)).toNatClampNeg - (M 12 b).toNatClampNeg)) M') ∧ (x2 = 2 → Q (M 13 b) M') ∧ (x2 = 3 → Q (M 14 b) M') ∧ (x2 = 4 → Q (M 16 (96 + (2 * b + 0))) M') ∧ (x2 = 5 → Q (M 16 (96 + (2 * b + 1))) M') ∧ (x2 = 6 → (fEdge M False (M' 40) (M' 41) (mlv M') b 0 → Q 1 M') ∧ (¬ fEdge M False (M' 40) (M' 41) (mlv M') b 0 → Q 0 M')) ∧ (x2 = 7 → (fEdge M False (M' 40) (M' 41) (mlv M') b 1 → Q 1 M') ∧ (¬ fEdge M False (M' 40) (M' 41) (mlv M') b 1 → Q 0 M')) ∧ (x2 = 8 → Q (M 15 b) M')) : g_X9_block x x2 M Q := by
  have hB8 := W.1.2.2.2
  unfold g_X9_block
  refine isBlock_sp _ hB8 W.1.2.1 _ (fun b hb' e => ⟨fun z => absurd z (by decide), fun _ => ?_⟩) (fun hx => ⟨fun _ => hb (Or.inl hx), fun z => (z rfl).elim⟩)
  have hg2 := hg b hb' e
  subst e
  have eb := nI_clamp (n := b) (by omega)
  have eb1 := nI_clamp (n := b + 1) (by omega)
  have hv : vp_in (nI b) 8 := vp_in_nI (by omega) (by omega)
  have hv9 : vp_in (nI b) 9 := vp_in_nI (by omega) (by omega)
  have hv91 : vp_in (nI (b + 1)) 9 := vp_in_nI (by omega) (by omega)
  refine in_sp x2 (N := 9) (by omega) (by decide) _ (fun k hk e => ⟨fun z => absurd z (by decide), fun _ => ?_⟩) (fun hx => ⟨fun _ => hb (Or.inr hx), fun z => (z rfl).elim⟩)
  refine finds_sp W X (pl := False) ⟨fun z => z rfl, fun z => z.elim⟩ _ (fun M' hM => ?_)
  obtain ⟨g0, g1, g2, g3, g4, g5, g6, g7, g8⟩ := hg2 M' hM
  have f := hM.1
  have e12 : M 12 b = nI (M 12 b).toNatClampNeg := vi_eq (B.1 b (by omega)) (by omega)
  have e13 : M 12 (b + 1) = nI (M 12 (b + 1)).toNatClampNeg := vi_eq (B.1 (b + 1) hb') (by omega)
  have hle := B.2.2.2.1 b hb'
  have esub : M 12 (b + 1) - M 12 b = nI ((M 12 (b + 1)).toNatClampNeg - (M 12 b).toNatClampNeg) := by
    conv => lhs; rw [e12, e13]
    exact pk_sub hle
  have way : ∀ (k : Nat) (v : Int32), k < 2 → v = nI (4 + k) → x2 = v → Q (M 16 (96 + (2 * b + k))) M' → G_X9_block_117 (nI b) x2 Q M' := by
    intro k v hk hv' hx2 hq
    unfold G_X9_block_117
    have e1 : 96 + 2 * nI b + x2 - 4 = nI (96 + (2 * b + k)) := by
      rw [hx2, hv', n96, nI_add, show (4 : Int32) = nI 4 from rfl, pk_sub (by omega)]
      congr 1
      omega
    rw [e1, nI_clamp (by omega), f 16 (by decide) (by decide) (by decide) (by decide)]
    exact ⟨vp_in_nI (by omega) (by omega), hq⟩
  have edg : ∀ (k : Nat) (v : Int32), k < 2 → v = nI (6 + k) → x2 = v → ((fEdge M False (M' 40) (M' 41) (mlv M') b k → Q 1 M') ∧ (¬ fEdge M False (M' 40) (M' 41) (mlv M') b k → Q 0 M')) → G_X9_block_133 (nI b) x2 Q M' := by
    intro k v hk hv' hx2 hq
    unfold G_X9_block_133
    have e1 : x2 - 6 = nI k := by
      rw [hx2, hv', show (6 : Int32) = nI 6 from rfl, pk_sub (by omega)]
      congr 1
      omega
    exact isEdge_sp (k := k) W f hM.2.1.2 ⟨fun z => z rfl, fun z => z.elim⟩ hb' hk e1 _ (fun a => ⟨fun z => absurd z (by decide), fun _ => hq.1 a⟩) (fun a => ⟨fun _ => hq.2 a, fun z => (z rfl).elim⟩)
  rw [nI_1, eb, eb1, f 12 (by decide) (by decide) (by decide) (by decide), f 13 (by decide) (by decide) (by decide) (by decide), f 14 (by decide) (by decide) (by decide) (by decide), f 15 (by decide) (by decide) (by decide) (by decide), esub]
  refine ⟨fun q => ⟨hv, g0 q⟩, fun q => ⟨hv91, hv9, g1 q⟩, fun q => ⟨hv, g2 q⟩, fun q => ⟨hv, g3 q⟩, fun q => way 0 4 (by omega) rfl q (g4 q), fun q => way 1 5 (by omega) rfl q (g5 q), fun q => edg 0 6 (by omega) rfl q (g6 q), fun q => edg 1 7 (by omega) rfl q (g7 q), fun n0 n1 n2 n3 n4 n5 n6 n7 => ⟨hv, g8 ?_⟩⟩
  rcases (show k = 0 ∨ k = 1 ∨ k = 2 ∨ k = 3 ∨ k = 4 ∨ k = 5 ∨ k = 6 ∨ k = 7 ∨ k = 8 by omega) with rfl | rfl | rfl | rfl | rfl | rfl | rfl | rfl | rfl
  · exact absurd e n0
  · exact absurd e n1
  · exact absurd e n2
  · exact absurd e n3
  · exact absurd e n4
  · exact absurd e n5
  · exact absurd e n6
  · exact absurd e n7
  · exact e
