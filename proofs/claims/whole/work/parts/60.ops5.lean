section KN
variable {M : ZS} {nN nB h : Nat}
theorem nI0a (n : Nat) : (0 : Int32) + nI n = nI n := by rw [show (0 : Int32) = nI 0 from rfl, nI_add, Nat.zero_add]
theorem m_knows (W : WF M nN nB) (hh : h ≤ 10) (hM : M 18 0 = nI h) (x x2 : Int32) (Q : Int32 → ZS → Prop) (h0 : (¬ ∃ n, n < nN ∧ x = nI n ∧ M 4 n = 1) → Q (-1) M) (h1 : ∀ n, n < nN → x = nI n → M 4 n = 1 → ∀ M1, NM M M1 h → (WF (zst (zst M1 16 n 1) 16 (24 + n) x2) nN nB ∧ WX (zst (zst M1 16 n 1) 16 (24 + n) x2) nN) ∧ ∀ M3, FM (zst (zst M1 16 n 1) 16 (24 + n) x2) nN nB False M3 → Q (sI (fun n => if M3 40 n = 1 then 1 else 0) nN) M3) : g_X9_knows x x2 M Q := by
  have hN24 := W.1.2.2.1
  unfold g_X9_knows
  refine mMade_sp x 1 hN24 W.1.1 _ (fun n hn e e4 => ⟨fun z => absurd z (by decide), fun _ => ?_⟩) (fun hx => ⟨fun _ => h0 hx, fun z => (z rfl).elim⟩)
  refine notes_sp M hh hM _ (fun M1 nm => ?_)
  obtain ⟨⟨W2, X2⟩, h3⟩ := h1 n hn e e4 M1 nm
  subst e
  have c1 : (24 : Int32) + nI n = nI (24 + n) := by rw [show (24 : Int32) = nI 24 from rfl, nI_add]
  rw [nI0a, c1, nI_clamp (show n < 2 ^ 31 by omega), nI_clamp (show 24 + n < 2 ^ 31 by omega)]
  simp only [forall_eq]
  refine ⟨vp_in_nI (by omega) (by omega), vp_in_nI (by omega) (by omega), ?_⟩
  refine finds_sp W2 X2 (pl := False) ⟨fun z => z rfl, fun z => z.elim⟩ _ (fun M3 hM3 => ?_)
  refine those_sp 1 hN24 ?_ _ (h3 M3 hM3)
  rw [hM3.1 2 (by decide) (by decide) (by decide) (by decide)]
  exact W2.1.1
theorem m_forgets (W : WF M nN nB) (hh : h ≤ 10) (hM : M 18 0 = nI h) (x : Int32) (Q : Int32 → ZS → Prop) (h0 : (¬ ∃ n, n < nN ∧ x = nI n ∧ M 4 n = 1) → Q (-1) M) (h1 : ∀ n, n < nN → x = nI n → M 4 n = 1 → (M 16 n = 0 → Q (-2) M) ∧ (¬ M 16 n = 0 → ∀ M1, NM M M1 h → (WF (zst M1 16 n 0) nN nB ∧ WX (zst M1 16 n 0) nN) ∧ ∀ M3, FM (zst M1 16 n 0) nN nB False M3 → Q (sI (fun n => if M3 40 n = 1 then 1 else 0) nN) M3)) : g_X9_forgets x M Q := by
  have hN24 := W.1.2.2.1
  unfold g_X9_forgets
  refine mMade_sp x 1 hN24 W.1.1 _ (fun n hn e e4 => ⟨fun z => absurd z (by decide), fun _ => ?_⟩) (fun hx => ⟨fun _ => h0 hx, fun z => (z rfl).elim⟩)
  obtain ⟨ha, hb⟩ := h1 n hn e e4
  subst e
  rw [nI0a, nI_clamp (show n < 2 ^ 31 by omega)]
  have hv : vp_in (nI n) 112 := vp_in_nI (by omega) (by omega)
  refine ⟨hv, ha, fun z => ?_⟩
  refine notes_sp M hh hM _ (fun M1 nm => ⟨hv, ?_⟩)
  obtain ⟨⟨W2, X2⟩, h3⟩ := hb z M1 nm
  rw [forall_eq]
  refine finds_sp W2 X2 (pl := False) ⟨fun z => z rfl, fun z => z.elim⟩ _ (fun M3 hM3 => ?_)
  refine those_sp 1 hN24 ?_ _ (h3 M3 hM3)
  rw [hM3.1 2 (by decide) (by decide) (by decide) (by decide)]
  exact W2.1.1
theorem m_gives (hN24 : nN ≤ 24) (h2 : M 2 0 = nI nN) (hh : h ≤ 10) (hM : M 18 0 = nI h) (x x2 : Int32) (Q : Int32 → ZS → Prop) (h0 : (¬ ∃ n, n < nN ∧ x = nI n ∧ M 4 n = 1) → Q (-1) M) (h1 : ∀ n, n < nN → x = nI n → M 4 n = 1 → ∀ M1, NM M M1 h → Q 1 (zst (zst M1 16 (48 + n) x2) 21 0 (M1 16 (48 + n)))) : g_X9_gives x x2 M Q := by
  unfold g_X9_gives
  refine mMade_sp x 1 hN24 h2 _ (fun n hn e e4 => ⟨fun z => absurd z (by decide), fun _ => ?_⟩) (fun hx => ⟨fun _ => h0 hx, fun z => (z rfl).elim⟩)
  refine notes_sp M hh hM _ (fun M1 nm => ?_)
  have h3 := h1 n hn e e4 M1 nm
  subst e
  have c1 : (48 : Int32) + nI n = nI (48 + n) := by rw [show (48 : Int32) = nI 48 from rfl, nI_add]
  rw [c1, nI_clamp (show 48 + n < 2 ^ 31 by omega)]
  unfold g_X9_tells
  simp only [forall_eq]
  exact ⟨vp_in_nI (by omega) (by omega), vp_in_nI (by omega) (by omega), h3⟩
theorem m_patches (hN24 : nN ≤ 24) (h2 : M 2 0 = nI nN) (hh : h ≤ 10) (hM : M 18 0 = nI h) (x x2 : Int32) (Q : Int32 → ZS → Prop) (h0 : ((¬ ∃ n, n < nN ∧ x = nI n ∧ M 4 n = 0) ∨ ¬ ∃ k, k < 1000 ∧ x2 = nI k) → Q (-1) M) (h1 : ∀ n, n < nN → x = nI n → M 4 n = 0 → (M 16 (72 + n) = x2 → Q (-2) M) ∧ (¬ M 16 (72 + n) = x2 → ∀ M1, NM M M1 h → Q (M 16 (72 + n)) (zst M1 16 (72 + n) x2))) : g_X9_patches x x2 M Q := by
  unfold g_X9_patches
  refine mMade_sp x 0 hN24 h2 _ (fun n hn e e4 => ⟨fun z => absurd z (by decide), fun _ => ?_⟩) (fun hx => ⟨fun _ => h0 (Or.inl hx), fun z => (z rfl).elim⟩)
  refine in_sp x2 (N := 1000) (by omega) (by decide) _ (fun k hk e' => ⟨fun z => absurd z (by decide), fun _ => ?_⟩) (fun hx => ⟨fun _ => h0 (Or.inr hx), fun z => (z rfl).elim⟩)
  obtain ⟨ha, hb⟩ := h1 n hn e e4
  subst e
  have c1 : (72 : Int32) + nI n = nI (72 + n) := by rw [show (72 : Int32) = nI 72 from rfl, nI_add]
  rw [c1, nI_clamp (show 72 + n < 2 ^ 31 by omega)]
  have hv : vp_in (nI (72 + n)) 112 := vp_in_nI (by omega) (by omega)
  simp only [forall_eq]
  exact ⟨hv, ha, fun z => notes_sp M hh hM _ (fun M1 nm => ⟨hv, hb z M1 nm⟩)⟩
theorem m_patches' (hN24 : nN ≤ 24) (h2 : M 2 0 = nI nN) (x x2 : Int32) (Q : Int32 → ZS → Prop) (h0 : Q (-1) M) (hx2 : ¬ ∃ k, k < 1000 ∧ x2 = nI k) : g_X9_patches x x2 M Q := by
  unfold g_X9_patches
  refine mMade_sp x 0 hN24 h2 _ (fun n hn e e4 => ⟨fun z => absurd z (by decide), fun _ => ?_⟩) (fun hx => ⟨fun _ => h0, fun z => (z rfl).elim⟩)
  exact in_sp x2 (N := 1000) (by omega) (by decide) _ (fun k hk e' => absurd ⟨k, hk, e'⟩ hx2) (fun hx => ⟨fun _ => h0, fun z => (z rfl).elim⟩)
end KN
theorem upd2 {f : ZR} {a b : Nat} {v w : Int32} {M : ZS} (h : M 16 = f) : zst (zst M 16 a v) 16 b w 16 = upd (upd f a v) b w := by rw [zs_kk, zs_kk, h]
theorem lk_knows : LK_knows RR := by
  intro S0 S1 S2 S3 S4 S5 S6 S7 S8 S9 S10 S11 M x x2 r
  have rr := r
  obtain ⟨nN, nB, len, h, r⟩ := RR_to r
  obtain ⟨⟨ws, ww⟩, tx, ⟨se, ne⟩, ⟨f5, f6, wk⟩, ⟨h1, h2, h3, h4⟩, im, tl⟩ := id r
  have W : WF M nN nB := wf_of ws ww
  have se : SEq S2 M nN nB := se
  have hN24 := W.1.2.2.1
  have hB8 := W.1.2.2.2
  unfold g_X8_knows
  refine cMade_sp x 1 hN24 se.1.2 _ (fun n hn e e3 => ⟨fun z => absurd z (by decide), fun _ => ?_⟩) (fun hx => ⟨fun _ => m_knows W h1 h3 x x2 _ (fun _ => ⟨rfl, rr⟩) (fun n hn e e4 => absurd ⟨n, hn, e, by rw [(se.2.1 n hn).2.1]; exact e4⟩ hx), fun z => (z rfl).elim⟩)
  subst e
  rw [(se.2.1 n hn).2.1] at e3
  refine note_sp S9 S4 (k := 0) h1 (by omega) (by omega) h2 _ (fun H' nt => ?_)
  have hv : vp_in (nI n) 24 := vp_in_nI (by omega) (by omega)
  rw [nI_clamp (by omega)]
  simp only [forall_eq]
  refine ⟨hv, hv, change_sp r (upd (upd (M 16) n 1) (24 + n) x2) (WW_cong (fun _ _ => rfl) (fun e he => ?_) ww) (NE_upd (k := 1) hN24 (by omega) hn (by omega) (fun y => by omega) (NE_upd (k := 0) hN24 (by omega) hn (by omega) (fun _ => isB_1) ne)) _ (fun T5 T6 T8 fin => ?_)⟩
  · exact (pk_un (by omega)).trans (pk_un (by omega))
  refine namesThatAre_sp 1 hN24 se.1.2 _ (m_knows W h1 h3 _ x2 _ (fun hx => absurd ⟨n, hn, rfl, e3⟩ hx) (fun m hm e _ M1 nm => ?_))
  have e : n = m := (nI_eq (by omega) (by omega)).mp e
  subst e
  have hu : und H' (min h 9) (zst (zst S4 0 n 1) 1 n x2) = S4 := by
    obtain ⟨-, ⟨n1, n2, n3, n4, -, -⟩, -, -⟩ := nt
    unfold und
    rw [n1, n2, n3, n4 rfl, if_pos (show nI 0 = 0 from rfl), nI_clamp (by omega)]
    exact un_k0 S4 n 1 x2
  have hist := HR_push hN24 hB8 h1 (fun _ _ => rfl) h4 ne ww nt nm (by omega) (Or.inr ⟨by omega, hn⟩) hu
  obtain ⟨F, W2, X2, rc⟩ := fin (zst (zst M1 16 n 1) 16 (24 + n) x2) H' (min h 9 + 1) (fun k k1 k2 k3 => by rw [zs_ne _ _ _ k1, zs_ne _ _ _ k1, nm.2.1 k k2 k3]) (upd2 (nm.2.1 16 (by decide) (by decide))) ⟨by omega, nt.1, by rw [zs_ne _ _ _ (by decide), zs_ne _ _ _ (by decide)]; exact nm.1, by rw [zs_ne _ _ _ (by decide), zs_ne _ _ _ (by decide)]; exact hist⟩
  refine ⟨⟨W2, X2⟩, fun M3 hM3 => ⟨sI_cong (fun i hi => ?_), RR_fr4 hM3.1 (RR_of S3 S7 rc)⟩⟩
  rw [((flow_one W2 F hM3).1 i hi).1]
theorem lk_forgets : LK_forgets RR := by
  intro S0 S1 S2 S3 S4 S5 S6 S7 S8 S9 S10 S11 M x r
  have rr := r
  obtain ⟨nN, nB, len, h, r⟩ := RR_to r
  obtain ⟨⟨ws, ww⟩, tx, ⟨se, ne⟩, ⟨f5, f6, wk⟩, ⟨h1, h2, h3, h4⟩, im, tl⟩ := id r
  have W : WF M nN nB := wf_of ws ww
  have se : SEq S2 M nN nB := se
  have hN24 := W.1.2.2.1
  have hB8 := W.1.2.2.2
  unfold g_X8_forgets
  refine cMade_sp x 1 hN24 se.1.2 _ (fun n hn e e3 => ⟨fun z => absurd z (by decide), fun _ => ?_⟩) (fun hx => ⟨fun _ => m_forgets W h1 h3 x _ (fun _ => ⟨rfl, rr⟩) (fun n hn e e4 => absurd ⟨n, hn, e, by rw [(se.2.1 n hn).2.1]; exact e4⟩ hx), fun z => (z rfl).elim⟩)
  subst e
  rw [(se.2.1 n hn).2.1] at e3
  have hv : vp_in (nI n) 24 := vp_in_nI (by omega) (by omega)
  rw [nI_clamp (by omega)]
  have u0 : S4 0 n = M 16 n := by rw [(ne.1 n hn).1, Nat.zero_add]
  refine ⟨hv, fun z => ?_, fun z => ?_⟩
  · refine m_forgets W h1 h3 _ _ (fun hx => absurd ⟨n, hn, rfl, e3⟩ hx) (fun m hm e _ => ⟨fun _ => ⟨rfl, rr⟩, fun y => ?_⟩)
    have e : n = m := (nI_eq (by omega) (by omega)).mp e
    subst e
    exact absurd (u0.symm.trans z) y
  refine note_sp S9 S4 (k := 0) h1 (by omega) (by omega) h2 _ (fun H' nt => ?_)
  simp only [forall_eq]
  refine ⟨hv, change_sp r (upd (M 16) n 0) (WW_cong (fun _ _ => rfl) (fun e he => ?_) ww) (NE_upd (k := 0) hN24 (by omega) hn (by omega) (fun _ => isB_0) ne) _ (fun T5 T6 T8 fin => ?_)⟩
  · exact pk_un (by omega)
  refine namesThatAre_sp 1 hN24 se.1.2 _ (m_forgets W h1 h3 _ _ (fun hx => absurd ⟨n, hn, rfl, e3⟩ hx) (fun m hm e _ => ?_))
  have e : n = m := (nI_eq (by omega) (by omega)).mp e
  subst e
  refine ⟨fun y => absurd (u0.trans y) z, fun _ M1 nm => ?_⟩
  have hu : und H' (min h 9) (zst S4 0 n 0) = S4 := by
    obtain ⟨-, ⟨n1, n2, n3, n4, -, -⟩, -, -⟩ := nt
    unfold und
    rw [n1, n2, n3, n4 rfl, if_pos (show nI 0 = 0 from rfl), nI_clamp (by omega)]
    exact un_k0' S4 n 0
  have hist := HR_push hN24 hB8 h1 (fun _ _ => rfl) h4 ne ww nt nm (by omega) (Or.inr ⟨by omega, hn⟩) hu
  obtain ⟨F, W2, X2, rc⟩ := fin (zst M1 16 n 0) H' (min h 9 + 1) (fun k k1 k2 k3 => by rw [zs_ne _ _ _ k1, nm.2.1 k k2 k3]) (by rw [zs_kk, nm.2.1 16 (by decide) (by decide)]) ⟨by omega, nt.1, by rw [zs_ne _ _ _ (by decide)]; exact nm.1, by rw [zs_ne _ _ _ (by decide)]; exact hist⟩
  refine ⟨⟨W2, X2⟩, fun M3 hM3 => ⟨sI_cong (fun i hi => ?_), RR_fr4 hM3.1 (RR_of S3 S7 rc)⟩⟩
  rw [((flow_one W2 F hM3).1 i hi).1]
theorem lk_gives : LK_gives RR := by
  intro S0 S1 S2 S3 S4 S5 S6 S7 S8 S9 S10 S11 M x x2 r
  have rr := r
  obtain ⟨nN, nB, len, h, r⟩ := RR_to r
  obtain ⟨⟨ws, ww⟩, tx, ⟨se, ne⟩, ⟨f5, f6, wk⟩, ⟨h1, h2, h3, h4⟩, im, tl⟩ := id r
  have W : WF M nN nB := wf_of ws ww
  have se : SEq S2 M nN nB := se
  have hN24 := W.1.2.2.1
  have hB8 := W.1.2.2.2
  unfold g_X8_gives
  refine cMade_sp x 1 hN24 se.1.2 _ (fun n hn e e3 => ⟨fun z => absurd z (by decide), fun _ => ?_⟩) (fun hx => ⟨fun _ => m_gives hN24 W.1.1 h1 h3 x x2 _ (fun _ => ⟨rfl, rr⟩) (fun n hn e e4 => absurd ⟨n, hn, e, by rw [(se.2.1 n hn).2.1]; exact e4⟩ hx), fun z => (z rfl).elim⟩)
  subst e
  rw [(se.2.1 n hn).2.1] at e3
  have hv : vp_in (nI n) 24 := vp_in_nI (by omega) (by omega)
  rw [nI_clamp (by omega)]
  refine note_sp S9 S4 (k := 1) h1 (by omega) (by omega) h2 _ (fun H' nt => ?_)
  simp only [forall_eq]
  refine ⟨hv, hv, change_sp r (upd (M 16) (48 + n) x2) (WW_cong (fun _ _ => rfl) (fun e he => ?_) ww) (NE_upd (k := 2) hN24 (by omega) hn (by omega) (fun y => by omega) ne) _ (fun T5 T6 T8 fin => ?_)⟩
  · exact pk_un (by omega)
  refine m_gives hN24 W.1.1 h1 h3 _ x2 _ (fun hx => absurd ⟨n, hn, rfl, e3⟩ hx) (fun m hm e _ M1 nm => ⟨rfl, ?_⟩)
  have e : n = m := (nI_eq (by omega) (by omega)).mp e
  subst e
  have hu : und H' (min h 9) (zst S4 2 n x2) = S4 := by
    obtain ⟨-, ⟨n1, n2, n3, -, n4, -⟩, -, -⟩ := nt
    unfold und
    rw [n1, n2, n3, n4 rfl, if_neg (show ¬ nI 1 = 0 by decide), if_pos (show nI 1 = 1 from rfl), nI_clamp (by omega)]
    exact un_k S4 2 n x2
  have hist := HR_push hN24 hB8 h1 (fun _ _ => rfl) h4 ne ww nt nm (by omega) (Or.inr ⟨by omega, hn⟩) hu
  obtain ⟨F, W2, X2, rc⟩ := fin (zst M1 16 (48 + n) x2) H' (min h 9 + 1) (fun k k1 k2 k3 => by rw [zs_ne _ _ _ k1, nm.2.1 k k2 k3]) (by rw [zs_kk, nm.2.1 16 (by decide) (by decide)]) ⟨by omega, nt.1, by rw [zs_ne _ _ _ (by decide)]; exact nm.1, by rw [zs_ne _ _ _ (by decide)]; exact hist⟩
  refine RR_told (RR_of S3 S7 rc) ?_
  rw [(ne.1 n hn).2.2.1, nm.2.1 16 (by decide) (by decide), Nat.zero_add]
theorem lk_patches : LK_patches RR := by
  intro S0 S1 S2 S3 S4 S5 S6 S7 S8 S9 S10 S11 M x x2 r
  have rr := r
  obtain ⟨nN, nB, len, h, r⟩ := RR_to r
  obtain ⟨⟨ws, ww⟩, tx, ⟨se, ne⟩, ⟨f5, f6, wk⟩, ⟨h1, h2, h3, h4⟩, im, tl⟩ := id r
  have W : WF M nN nB := wf_of ws ww
  have se : SEq S2 M nN nB := se
  have hN24 := W.1.2.2.1
  have hB8 := W.1.2.2.2
  unfold g_X8_patches
  refine cMade_sp x 0 hN24 se.1.2 _ (fun n hn e e3 => ⟨fun z => absurd z (by decide), fun _ => ?_⟩) (fun hx => ⟨fun _ => m_patches hN24 W.1.1 h1 h3 x x2 _ (fun _ => ⟨rfl, rr⟩) (fun n hn e e4 => absurd ⟨n, hn, e, by rw [(se.2.1 n hn).2.1]; exact e4⟩ hx), fun z => (z rfl).elim⟩)
  subst e
  rw [(se.2.1 n hn).2.1] at e3
  have hv : vp_in (nI n) 24 := vp_in_nI (by omega) (by omega)
  rw [nI_clamp (by omega)]
  have u3 : S4 3 n = M 16 (72 + n) := by rw [(ne.1 n hn).2.2.2, Nat.zero_add]
  have bad : (¬ ∃ k, k < 1000 ∧ x2 = nI k) → g_X9_patches (nI n) x2 M (fun r2 TM => -1 = r2 ∧ RR S0 S1 S2 S3 S4 S5 S6 S7 S8 S9 S10 S11 TM) := fun hx => m_patches' hN24 W.1.1 (nI n) x2 _ ⟨rfl, rr⟩ hx
  rcases inR_cases x2 (N := 1000) (by omega) with ⟨a, c⟩ | ⟨j, hj, e, a, c⟩ | ⟨k, hk, e⟩
  · exact ⟨fun _ => bad c, fun z => absurd a z⟩
  · refine ⟨fun _ => bad c, fun _ => ⟨fun z => ?_, fun _ => bad c⟩⟩
    rw [e] at z
    have := (nI_leI (a := j) (b := 999) hj (by omega)).mp z
    omega
  have c1 : ¬ x2 < 0 := by rw [e]; exact nI_pos (by omega)
  have c2 : x2 ≤ 999 := by rw [e]; exact (nI_leI (a := k) (b := 999) (by omega) (by omega)).mpr (by omega)
  refine ⟨fun z => absurd z c1, fun _ => ⟨fun _ => ⟨hv, ?_⟩, fun z => absurd c2 z⟩⟩
  rw [forall_eq]
  have noto : ((¬ ∃ m, m < nN ∧ nI n = nI m ∧ M 4 m = 0) ∨ ¬ ∃ k, k < 1000 ∧ x2 = nI k) → False := by
    rintro (hx | hx)
    · exact hx ⟨n, hn, rfl, e3⟩
    · exact hx ⟨k, hk, e⟩
  refine ⟨fun z => ?_, fun z => ?_⟩
  · refine m_patches hN24 W.1.1 h1 h3 _ x2 _ (fun hx => (noto hx).elim) (fun m hm e _ => ?_)
    have e : n = m := (nI_eq (by omega) (by omega)).mp e
    subst e
    exact ⟨fun _ => ⟨rfl, rr⟩, fun y => absurd (u3.symm.trans z) y⟩
  refine note_sp S9 S4 (k := 2) h1 (by omega) (by omega) h2 _ (fun H' nt => ?_)
  simp only [forall_eq]
  refine ⟨hv, change_sp r (upd (M 16) (72 + n) x2) (WW_cong (fun _ _ => rfl) (fun e he => ?_) ww) (NE_upd (k := 3) hN24 (by omega) hn (by omega) (fun y => by omega) ne) _ (fun T5 T6 T8 fin => ?_)⟩
  · exact pk_un (by omega)
  refine m_patches hN24 W.1.1 h1 h3 _ x2 _ (fun hx => (noto hx).elim) (fun m hm e _ => ?_)
  have e : n = m := (nI_eq (by omega) (by omega)).mp e
  subst e
  refine ⟨fun y => absurd (u3.trans y) z, fun _ M1 nm => ⟨u3, ?_⟩⟩
  have hu : und H' (min h 9) (zst S4 3 n x2) = S4 := by
    obtain ⟨-, ⟨n1, n2, n3, -, -, n4⟩, -, -⟩ := nt
    unfold und
    rw [n1, n2, n3, n4 rfl, if_neg (show ¬ nI 2 = 0 by decide), if_neg (show ¬ nI 2 = 1 by decide), if_pos (show nI 2 = 2 from rfl), nI_clamp (by omega)]
    exact un_k S4 3 n x2
  have hist := HR_push hN24 hB8 h1 (fun _ _ => rfl) h4 ne ww nt nm (by omega) (Or.inr ⟨by omega, hn⟩) hu
  obtain ⟨F, W2, X2, rc⟩ := fin (zst M1 16 (72 + n) x2) H' (min h 9 + 1) (fun k k1 k2 k3 => by rw [zs_ne _ _ _ k1, nm.2.1 k k2 k3]) (by rw [zs_kk, nm.2.1 16 (by decide) (by decide)]) ⟨by omega, nt.1, by rw [zs_ne _ _ _ (by decide)]; exact nm.1, by rw [zs_ne _ _ _ (by decide)]; exact hist⟩
  exact RR_of S3 S7 rc
