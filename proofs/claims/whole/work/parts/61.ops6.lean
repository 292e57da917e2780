/-! turned -/
theorem turn_sp {b : Nat} (hb : b < 8) (U : ZS) (Q : ZS → Prop) (hQ : Q (zst (zst U 4 (2 * b + 0) (U 4 (2 * b + 1))) 4 (2 * b + 1) (U 4 (2 * b + 0)))) : g_X2_turn (nI b) U Q := by
  have e0 : 2 * nI b = nI (2 * b + 0) := two_nI b
  have e1 : 2 * nI b + 1 = nI (2 * b + 1) := by rw [two_nI, nI_1]
  have hv0 : vp_in (nI (2 * b + 0)) 16 := vp_in_nI (by omega) (by omega)
  have hv1 : vp_in (nI (2 * b + 1)) 16 := vp_in_nI (by omega) (by omega)
  unfold g_X2_turn
  rw [e1, e0, nI_clamp (show 2 * b + 0 < 2 ^ 31 by omega), nI_clamp (show 2 * b + 1 < 2 ^ 31 by omega)]
  simp only [forall_eq]
  exact ⟨hv0, hv1, hv0, hv1, hQ⟩
/-- two ends changed -/
def swp (f : ZR) (i j : Nat) : ZR := upd (upd f i (f j)) j (f i)
theorem WW_sw' {E : ZS} {g g' : ZR} {nN nB b : Nat} (hb : b < nB) (h1 : E 13 b = 1) (s0 : g' (2 * b + 0) = g (2 * b + 1)) (s1 : g' (2 * b + 1) = g (2 * b + 0)) (s2 : ∀ e, e ≠ 2 * b + 0 → e ≠ 2 * b + 1 → g' e = g e) (w : WW E g nN nB) : WW E g' nN nB := by
  refine ⟨fun e he => ?_, fun c hc => ?_, fun n f k hn hf hk e4 => ?_⟩
  · by_cases q0 : e = 2 * b + 0
    · rw [q0, s0]
      exact w.1 (2 * b + 1) (by omega)
    · by_cases q1 : e = 2 * b + 1
      · rw [q1, s1]
        exact w.1 (2 * b + 0) (by omega)
      · rw [s2 e q0 q1]
        exact w.1 e he
  · by_cases q : c = b
    · subst q
      rw [s0, s1]
      obtain ⟨a1, a2, a3⟩ := w.2.1 c hc
      refine ⟨fun z => ?_, fun z => ?_, fun z => ⟨(a3 z).2, (a3 z).1⟩⟩
      · rw [h1] at z
        exact absurd z (by decide)
      · rw [h1] at z
        exact absurd z (by decide)
    · rw [s2 (2 * c + 0) (by omega) (by omega), s2 (2 * c + 1) (by omega) (by omega)]
      exact w.2.1 c hc
  · by_cases q : f = b
    · subst q
      intro y
      rcases (show k = 0 ∨ k = 1 by omega) with rfl | rfl
      · rw [s0] at y
        exact w.2.2 n f 1 hn hf (by omega) e4 y
      · rw [s1] at y
        exact w.2.2 n f 0 hn hf (by omega) e4 y
    · rw [s2 (2 * f + k) (by omega) (by omega)]
      exact w.2.2 n f k hn hf hk e4
theorem WW_sw {E : ZS} {f : ZR} {nN nB b : Nat} (hb : b < nB) (h1 : E 13 b = 1) (w : WW E (fun e => f (96 + e)) nN nB) : WW E (fun e => swp f (96 + (2 * b + 0)) (96 + (2 * b + 1)) (96 + e)) nN nB := by
  refine WW_sw' hb h1 ?_ ?_ (fun e a c => ?_) w
  · exact (pk_un (by omega)).trans pk_us
  · exact pk_us
  · exact (pk_un (by omega)).trans (pk_un (by omega))
theorem NE_sw {U : ZS} {f : ZR} {nN nB b : Nat} (hN : nN ≤ 24) (hb : b < nB) (r : NE U f 0 nN nB) : NE (zst (zst U 4 (2 * b + 0) (U 4 (2 * b + 1))) 4 (2 * b + 1) (U 4 (2 * b + 0))) (swp f (96 + (2 * b + 0)) (96 + (2 * b + 1))) 0 nN nB := by
  have u0 := r.2.1 (2 * b + 0) (by omega)
  have u1 := r.2.1 (2 * b + 1) (by omega)
  rw [Nat.zero_add] at u0 u1
  refine ⟨fun m hm => ?_, fun e he => ?_, fun m hm => ?_⟩
  · unfold swp
    rw [zs_ne _ _ _ (by decide), zs_ne _ _ _ (by decide), zs_ne _ _ _ (by decide), zs_ne _ _ _ (by decide), zs_ne _ _ _ (by decide), zs_ne _ _ _ (by decide), zs_ne _ _ _ (by decide), zs_ne _ _ _ (by decide)]
    rw [pk_un (by omega), pk_un (by omega), pk_un (by omega), pk_un (by omega), pk_un (by omega), pk_un (by omega), pk_un (by omega), pk_un (by omega)]
    exact r.1 m hm
  · rw [Nat.zero_add]
    unfold swp
    by_cases q1 : e = 2 * b + 1
    · subst q1
      rw [zs_at, pk_us, u0]
    · rw [zs_ni _ _ _ q1, pk_un (by omega)]
      by_cases q0 : e = 2 * b + 0
      · subst q0
        rw [zs_at, pk_us, u1]
      · rw [zs_ni _ _ _ q0, pk_un (by omega)]
        have := r.2.1 e he
        rw [Nat.zero_add] at this
        exact this
  · unfold swp
    rw [pk_un (by omega), pk_un (by omega)]
    exact r.2.2 m hm
theorem m_turned {M : ZS} {nN nB h : Nat} (W : WF M nN nB) (hh : h ≤ 10) (hM : M 18 0 = nI h) (x : Int32) (Q : Int32 → ZS → Prop) (h0 : (¬ ∃ n, n < nB ∧ x = nI n) → Q (-1) M) (h1 : ∀ b, b < nB → x = nI b → (¬ M 13 b = 1 → Q (-2) M) ∧ (M 13 b = 1 → ∀ M1, NM M M1 h → (WF (zrp M1 16 (swp (M 16) (96 + (2 * b + 0)) (96 + (2 * b + 1)))) nN nB ∧ WX (zrp M1 16 (swp (M 16) (96 + (2 * b + 0)) (96 + (2 * b + 1)))) nN) ∧ ∀ M3, FM (zrp M1 16 (swp (M 16) (96 + (2 * b + 0)) (96 + (2 * b + 1)))) nN nB False M3 → Q (sI (fun b => if M3 42 b = 0 then 0 else 1) nB) M3)) : g_X9_turned x M Q := by
  have hB8 := W.1.2.2.2
  unfold g_X9_turned
  refine isBlock_sp x hB8 W.1.2.1 _ (fun b hb e => ⟨fun z => absurd z (by decide), fun _ => ?_⟩) (fun hx => ⟨fun _ => h0 hx, fun z => (z rfl).elim⟩)
  obtain ⟨ha, hc⟩ := h1 b hb e
  subst e
  have e0 : (96 : Int32) + 2 * nI b = nI (96 + (2 * b + 0)) := n96 b
  have e1 : (96 : Int32) + 2 * nI b + 1 = nI (96 + (2 * b + 1)) := by rw [n96, nI_1, Nat.add_assoc]
  have hv0 : vp_in (nI (96 + (2 * b + 0))) 112 := vp_in_nI (by omega) (by omega)
  have hv1 : vp_in (nI (96 + (2 * b + 1))) 112 := vp_in_nI (by omega) (by omega)
  rw [nI_clamp (show b < 2 ^ 31 by omega), e1, e0, nI_clamp (show 96 + (2 * b + 0) < 2 ^ 31 by omega), nI_clamp (show 96 + (2 * b + 1) < 2 ^ 31 by omega)]
  refine ⟨vp_in_nI (by omega) (by omega), fun z => ?_, fun z => ha z⟩
  refine notes_sp M hh hM _ (fun M1 nm => ?_)
  obtain ⟨⟨W2, X2⟩, h3⟩ := hc z M1 nm
  have em : M1 16 = M 16 := nm.2.1 16 (by decide) (by decide)
  have eq : zst (zst M1 16 (96 + (2 * b + 0)) (M1 16 (96 + (2 * b + 1)))) 16 (96 + (2 * b + 1)) (M1 16 (96 + (2 * b + 0))) = zrp M1 16 (swp (M 16) (96 + (2 * b + 0)) (96 + (2 * b + 1))) := by
    funext k
    by_cases q : k = 16
    · subst q
      rw [zs_kk, zs_kk, zr_kk, em]
      rfl
    · rw [zs_ne _ _ _ q, zs_ne _ _ _ q, zr_ne _ _ q]
  simp only [forall_eq]
  rw [eq]
  refine ⟨hv0, hv1, hv0, hv1, ?_⟩
  refine finds_sp W2 X2 (pl := False) ⟨fun z => z rfl, fun z => z.elim⟩ _ (fun M3 hM3 => ?_)
  refine mLive_sp hB8 ?_ _ (h3 M3 hM3)
  rw [hM3.1 3 (by decide) (by decide) (by decide) (by decide)]
  exact W2.1.2.1
theorem lk_turned : LK_turned RR := by
  intro S0 S1 S2 S3 S4 S5 S6 S7 S8 S9 S10 S11 M x r
  have rr := r
  obtain ⟨nN, nB, len, h, r⟩ := RR_to r
  obtain ⟨⟨ws, ww⟩, tx, ⟨se, ne⟩, ⟨f5, f6, wk⟩, ⟨h1, h2, h3, h4⟩, im, tl⟩ := id r
  have W : WF M nN nB := wf_of ws ww
  have se : SEq S2 M nN nB := se
  have hN24 := W.1.2.2.1
  have hB8 := W.1.2.2.2
  unfold g_X8_turned
  refine hasBlock_sp x hB8 se.1.1 _ (fun b hb e => ⟨fun z => absurd z (by decide), fun _ => ?_⟩) (fun hx => ⟨fun _ => m_turned W h1 h3 x _ (fun _ => ⟨rfl, rr⟩) (fun n hn e => absurd ⟨n, hn, e⟩ hx), fun z => (z rfl).elim⟩)
  subst e
  rw [nI_clamp (by omega), (se.2.2 b hb).1]
  refine ⟨vp_in_nI (by omega) (by omega), fun z => ?_, fun z => ?_⟩
  · refine note_sp S9 S4 (k := 3) h1 (by omega) (by omega) h2 _ (fun H' nt => turn_sp (by omega) S4 _ ?_)
    refine change_sp r (swp (M 16) (96 + (2 * b + 0)) (96 + (2 * b + 1))) (WW_sw hb z ww) (NE_sw hN24 hb ne) _ (fun T5 T6 T8 fin => ?_)
    refine cLive_sp hB8 se.1.1 _ (m_turned W h1 h3 _ _ (fun hx => absurd ⟨b, hb, rfl⟩ hx) (fun c hc e => ?_))
    have e : b = c := (nI_eq (by omega) (by omega)).mp e
    subst e
    refine ⟨fun y => absurd z y, fun _ M1 nm => ?_⟩
    have hu : und H' (min h 9) (zst (zst S4 4 (2 * b + 0) (S4 4 (2 * b + 1))) 4 (2 * b + 1) (S4 4 (2 * b + 0))) = S4 := by
      obtain ⟨-, ⟨n1, n2, n3, -, -, -⟩, -, -⟩ := nt
      unfold und
      rw [n1, n2, n3, if_neg (show ¬ nI 3 = 0 by decide), if_neg (show ¬ nI 3 = 1 by decide), if_neg (show ¬ nI 3 = 2 by decide), nI_clamp (by omega)]
      exact un_sw S4 4 (2 * b + 0) (2 * b + 1) (by omega)
    have hist := HR_push hN24 hB8 h1 (fun _ _ => rfl) h4 ne ww nt nm (by omega) (Or.inl ⟨rfl, hb⟩) hu
    obtain ⟨F, W2, X2, rc⟩ := fin (zrp M1 16 (swp (M 16) (96 + (2 * b + 0)) (96 + (2 * b + 1)))) H' (min h 9 + 1) (fun k k1 k2 k3 => by rw [zr_ne _ _ k1, nm.2.1 k k2 k3]) (zr_kk _ _ _) ⟨by omega, nt.1, by rw [zr_ne _ _ (by decide)]; exact nm.1, by rw [zr_ne _ _ (by decide)]; exact hist⟩
    refine ⟨⟨W2, X2⟩, fun M3 hM3 => ⟨sI_cong (fun i hi => ?_), RR_fr4 hM3.1 (RR_of S3 S7 rc)⟩⟩
    rw [(flow_one W2 F hM3).2.1 i hi]
    rcases hM3.2.1.2 i (by omega) with y | y
    · rw [y, if_pos rfl]
    · rw [y, if_neg (by decide)]
  · refine m_turned W h1 h3 _ _ (fun hx => absurd ⟨b, hb, rfl⟩ hx) (fun c hc e => ⟨fun _ => ⟨rfl, rr⟩, fun y => ?_⟩)
    have e : b = c := (nI_eq (by omega) (by omega)).mp e
    subst e
    exact absurd y z
/-! undo -/
theorem takeBack_sp {H U : ZS} {i nN nB : Nat} (hi : i < 10) (hN : nN ≤ 24) (hB : nB ≤ 8) (hH : H 0 0 = nI (i + 1)) (hk : vp_in (H 1 i) 4 ∧ ((H 1 i = 3 ∧ vp_in (H 2 i) nB) ∨ (¬ H 1 i = 3 ∧ vp_in (H 2 i) nN))) (Q : ZS → ZS → Prop) (hQ : Q (zst H 0 0 (nI i)) (und H i U)) : g_X1_takeBack H U Q := by
  have es : nI (i + 1) - 1 = nI i := pk_sub (a := i + 1) (b := 1) (by omega)
  have ei := nI_clamp (n := i) (by omega)
  have hv : vp_in (nI i) 10 := vp_in_nI (by omega) (by omega)
  unfold g_X1_takeBack
  rw [hH, es]
  refine ⟨fun _ => ?_, fun z => absurd ((nI_ltI (a := 0) (b := i + 1) (by omega) (by omega)).mpr (by omega)) z⟩
  simp only [forall_eq, zs_at, ei, zs_ne (k := 0) (k' := 1) _ _ _ (by decide), zs_ne (k := 0) (k' := 2) _ _ _ (by decide), zs_ne (k := 0) (k' := 3) _ _ _ (by decide), zs_ne (k := 0) (k' := 4) _ _ _ (by decide)]
  unfold und at hQ
  refine ⟨hv, hv, fun q => ?_, fun q => ?_, fun q => ?_, fun q0 q1 q2 => ?_⟩
  · have h2 : vp_in (H 2 i) 24 := by
      rcases hk.2 with ⟨a, -⟩ | ⟨-, b⟩
      · rw [q] at a
        exact absurd a (by decide)
      · exact vi_mono b hN
    rw [if_pos q] at hQ
    exact ⟨hv, h2, hv, h2, hQ⟩
  · have h2 : vp_in (H 2 i) 24 := by
      rcases hk.2 with ⟨a, -⟩ | ⟨-, b⟩
      · rw [q] at a
        exact absurd a (by decide)
      · exact vi_mono b hN
    rw [if_neg (by rw [q]; decide), if_pos q] at hQ
    exact ⟨hv, h2, hQ⟩
  · have h2 : vp_in (H 2 i) 24 := by
      rcases hk.2 with ⟨a, -⟩ | ⟨-, b⟩
      · rw [q] at a
        exact absurd a (by decide)
      · exact vi_mono b hN
    rw [if_neg (by rw [q]; decide), if_neg (by rw [q]; decide), if_pos q] at hQ
    exact ⟨hv, h2, hQ⟩
  · rw [if_neg q0, if_neg q1, if_neg q2] at hQ
    have h2 : vp_in (H 2 i) nB := by
      rcases hk.2 with ⟨-, a⟩ | ⟨a, -⟩
      · exact a
      · obtain ⟨j, hj, e⟩ := vp_in_of hk.1 (by omega)
        rcases (show j = 0 ∨ j = 1 ∨ j = 2 ∨ j = 3 by omega) with rfl | rfl | rfl | rfl
        · exact absurd e q0
        · exact absurd e q1
        · exact absurd e q2
        · exact absurd e a
    obtain ⟨b, hb, e⟩ := vp_in_of h2 (by omega)
    rw [e] at hQ ⊢
    rw [nI_clamp (by omega)] at hQ
    exact turn_sp (by omega) U _ hQ
theorem m_undo {M : ZS} {h : Nat} (hh : h ≤ 10) (hM : M 18 0 = nI h) (Q : Int32 → ZS → Prop) (h0 : h = 0 → Q (-2) M) (h1 : ∀ i, h = i + 1 → Q (nI i) (zrp (zst M 18 0 (nI i)) 16 (brF (M 17) (M 16) (112 * i) 0 112))) : g_X9_undo M Q := by
  unfold g_X9_undo
  rw [hM]
  refine ⟨fun z => h0 ((nI_eq (b := 0) (by omega) (by omega)).mp z), fun z => ?_⟩
  cases h with
  | zero => exact absurd rfl z
  | succ i =>
    have es : nI (i + 1) - 1 = nI i := pk_sub (a := i + 1) (b := 1) (by omega)
    rw [es, forall_eq, zs_at, show (112 : Int32) * nI i = nI (112 * i) from pk_mul (a := 112) (b := i), zs_ne (k' := 17) _ _ _ (by decide), zs_ne (k' := 16) _ _ _ (by decide)]
    refine bring_sp (a := 112 * i) (d := 0) (c := 112) (by omega) (by omega) (by omega) (by omega) _ _ _ ?_
    rw [zr_ne _ _ (by decide), zs_at]
    exact h1 i rfl
theorem lk_undo : LK_undo RR := by
  intro S0 S1 S2 S3 S4 S5 S6 S7 S8 S9 S10 S11 M r
  have rr := r
  obtain ⟨nN, nB, len, h, r⟩ := RR_to r
  obtain ⟨⟨ws, ww⟩, tx, ⟨se, ne⟩, ⟨f5, f6, wk⟩, ⟨h1, h2, h3, h4⟩, im, tl⟩ := id r
  have W : WF M nN nB := wf_of ws ww
  have hN24 := W.1.2.2.1
  have hB8 := W.1.2.2.2
  unfold g_X8_undo
  cases h with
  | zero => exact ⟨fun _ => m_undo h1 h3 _ (fun _ => ⟨rfl, rr⟩) (fun i hi => absurd hi (by omega)), fun z => absurd h2 z⟩
  | succ i =>
    refine ⟨fun z => ?_, fun _ => ?_⟩
    · rw [h2] at z
      exact absurd ((nI_eq (b := 0) (by omega) (by omega)).mp z) (by omega)
    obtain ⟨n1, n2, n3, n4⟩ := h4
    refine takeBack_sp (by omega) hN24 hB8 h2 n3 _ ?_
    refine change_sp r (brF (M 17) (M 16) (112 * i) 0 112) (WW_cong (fun _ _ => rfl) (fun e he => ?_) n2) (NE_cong hN24 hB8 (fun j hj => ?_) n1) _ (fun T5 T6 T8 fin => ?_)
    · simp only [brF]
      rw [if_pos (by omega)]
      exact congrArg (M 17) (by omega)
    · simp only [brF]
      rw [if_pos (by omega)]
      exact congrArg (M 17) (by omega)
    refine m_undo h1 h3 _ (fun y => absurd y (by omega)) (fun i' hi => ?_)
    have e : i = i' := by omega
    subst e
    have hist : HR (zst S9 0 0 (nI i)) (pr M) (zrp (zst M 18 0 (nI i)) 16 (brF (M 17) (M 16) (112 * i) 0 112) 17) nN nB i (und S9 i S4) := by
      refine HR_cong hN24 hB8 (fun _ _ => rfl) i _ (fun j hj k k1 k2 => ?_) (fun j hj => ?_) n4
      · rw [zs_ne _ _ _ (by omega)]
      · rw [zr_ne _ _ (by decide), zs_ne _ _ _ (by decide)]
    obtain ⟨F, W2, X2, rc⟩ := fin (zrp (zst M 18 0 (nI i)) 16 (brF (M 17) (M 16) (112 * i) 0 112)) (zst S9 0 0 (nI i)) i (fun k k1 k2 k3 => by rw [zr_ne _ _ k1, zs_ne _ _ _ k3]) (zr_kk _ _ _) ⟨by omega, zs_at _ _ _ _, by rw [zr_ne _ _ (by decide), zs_at], hist⟩
    exact ⟨zs_at _ _ _ _, RR_of S3 S7 rc⟩
