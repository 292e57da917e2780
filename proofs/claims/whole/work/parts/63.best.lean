/-! best -/
def trf (f : ZR) (i : Nat) : ZR := upd (upd f i 1) (24 + i) (f (48 + i))
abbrev trE (M : ZS) (i : Nat) : ZS := zrp M 16 (trf (M 16) i)
theorem tr_kk (M : ZS) (i : Nat) : trE M i 16 = trf (M 16) i := zr_kk _ _ _
theorem tr_ne (M : ZS) (i : Nat) {k : Nat} (h : k ≠ 16) : trE M i k = M k := zr_ne _ _ h
def bsF (E : ZS) (t : Nat → Int32) : Nat → Int32 × Int32
  | 0 => (-9, -9)
  | i + 1 => if E 4 i = 1 ∧ E 16 i = 0 then (if (bsF E t i).1 = -9 then (nI i, t i) else if t i ≤ (bsF E t i).2 then bsF E t i else (nI i, t i)) else bsF E t i
theorem bs_skip {E : ZS} {t : Nat → Int32} {i : Nat} (h : ¬ (E 4 i = 1 ∧ E 16 i = 0)) : bsF E t (i + 1) = bsF E t i := if_neg h
theorem bs_new {E : ZS} {t : Nat → Int32} {i : Nat} (h : E 4 i = 1 ∧ E 16 i = 0) (h2 : (bsF E t i).1 = -9 ∨ ¬ t i ≤ (bsF E t i).2) : bsF E t (i + 1) = (nI i, t i) := by
  show (if E 4 i = 1 ∧ E 16 i = 0 then (if (bsF E t i).1 = -9 then (nI i, t i) else if t i ≤ (bsF E t i).2 then bsF E t i else (nI i, t i)) else bsF E t i) = _
  rw [if_pos h]
  by_cases q : (bsF E t i).1 = -9
  · rw [if_pos q]
  · rw [if_neg q, if_neg (h2.resolve_left q)]
theorem bs_old {E : ZS} {t : Nat → Int32} {i : Nat} (h : E 4 i = 1 ∧ E 16 i = 0) (h1 : ¬ (bsF E t i).1 = -9) (h2 : t i ≤ (bsF E t i).2) : bsF E t (i + 1) = bsF E t i := by
  show (if E 4 i = 1 ∧ E 16 i = 0 then (if (bsF E t i).1 = -9 then (nI i, t i) else if t i ≤ (bsF E t i).2 then bsF E t i else (nI i, t i)) else bsF E t i) = _
  rw [if_pos h, if_neg h1, if_pos h2]
theorem tr_out {f : ZR} {i j : Nat} (h1 : j ≠ i) (h2 : j ≠ 24 + i) : trf f i j = f j := (pk_un h2).trans (pk_un h1)
theorem tr_at {f : ZR} {i : Nat} : trf f i i = 1 := (pk_un (by omega)).trans pk_us
theorem tr_at2 {f : ZR} {i : Nat} : trf f i (24 + i) = f (48 + i) := pk_us
theorem tr_ce {T U M : ZS} {nN nB i : Nat} (hN : nN ≤ 24) (hi : i < nN) (h0 : M 16 i = 0) (s : SEq T M nN nB) (u : NE U (M 16) 0 nN nB) : CE T U (trE M i) nN nB (nI i) := by
  refine ⟨s.1, fun n hn => ?_, fun b hb => ?_, fun e he => ?_⟩
  · obtain ⟨s1, s2, s3, -, s5, s6⟩ := s.2.1 n hn
    obtain ⟨u1, u2, u3, u4⟩ := u.1 n hn
    rw [Nat.zero_add] at u1 u2 u3 u4
    refine ⟨s1, s2, s3, s5, s6, fun _ => ?_, fun _ => ?_⟩
    · rw [tr_kk, tr_out (by omega) (by omega)]
      exact u4
    · rw [tr_kk]
      by_cases q : n = i
      · subst q
        rw [tr_at, tr_at2]
        refine ⟨⟨fun _ => Or.inr rfl, fun _ => rfl⟩, fun _ => ?_⟩
        rw [if_neg (by rw [u1, h0]; decide), u3]
      · rw [tr_out q (by omega), tr_out (by omega) (by omega)]
        refine ⟨⟨fun y => Or.inl (u1.trans y), fun y => ?_⟩, fun y => ?_⟩
        · rcases y with y | y
          · rw [← u1]; exact y
          · exact absurd ((nI_eq (by omega) (by omega)).mp y) q
        · rw [if_pos (u1.trans y)]; exact u2.symm
  · obtain ⟨b1, b2, b3, b4, -⟩ := s.2.2 b hb
    exact ⟨b1, fun _ => b2, b3, b4⟩
  · rw [tr_kk, tr_out (by omega) (by omega)]
    have := u.2.1 e he
    rw [Nat.zero_add] at this
    exact this
section BEST
variable {M T U : ZS} {nN nB : Nat}
theorem tr_ws {i : Nat} (ws : WS M nN nB) : WS (trE M i) nN nB := WS_cong (fun k hk => zr_ne _ _ hk) ws
theorem tr_ww {i : Nat} (hi : i < 24) (ww : WW M (wy M) nN nB) : WW (trE M i) (wy (trE M i)) nN nB := by
  refine WW_cong (fun k hk => zr_ne _ _ hk) (fun e he => ?_) ww
  show zrp M 16 (trf (M 16) i) 16 (96 + e) = M 16 (96 + e)
  rw [zr_kk, tr_out (by omega) (by omega)]
theorem cBest_sp (ws : WS M nN nB) (ww : WW M (wy M) nN nB) (se : SEq T M nN nB) (ne : NE U (M 16) 0 nN nB) (x bf : Int32) (t : Nat → Int32) (ht : ∀ i, i < nN → M 4 i = 1 → M 16 i = 0 → ∀ S', FF (trE M i) nN nB False S' → bf - sI (fun n => if S' 0 n = 2 then 1 else 0) nN = t i) {z0 z1 z3 z5 z6 z8 z9 z10 z11 : ZS} (S7 : ZS) (Q : Int32 → ZS → Prop) (hQ : ∀ T7, (x = 0 → Q (bsF M t nN).1 T7) ∧ (¬ x = 0 → Q (bsF M t nN).2 T7)) : ∃ n, fx (F_X8_best_34 x z0 z1 T z3 U z5 z6 z8 z9 z10 z11 Q) n (-9, -9, bf, 0, S7) := by
  have hN24 := ws.1.2.2.1
  refine fx_all (fun p => ∃ i S, i ≤ nN ∧ p = ((bsF M t i).1, (bsF M t i).2, bf, nI i, S)) (fun p => nN - p.2.2.2.1.toNatClampNeg) ?_ _ ⟨0, S7, Nat.zero_le _, rfl⟩
  rintro X p ⟨i, S, hi, rfl⟩ hX
  have e := nI_clamp (n := i) (by omega)
  unfold F_X8_best_34
  simp only [se.1.2, e]
  refine ⟨fun z => ?_, fun z => ?_⟩
  · have h2 := (nI_leI (by omega) (by omega)).mp z
    have h3 : i = nN := by omega
    subst h3
    exact hQ S
  have hlt : i < nN := Nat.not_le.mp (fun y => z ((nI_leI (by omega) (by omega)).mpr y))
  have hv : vp_in (nI i) 24 := vp_in_nI (by omega) (by omega)
  have dec : nN - (nI (i + 1)).toNatClampNeg < nN - (nI i).toNatClampNeg := by rw [e, nI_clamp (by omega)]; omega
  obtain ⟨u0, -, -, -⟩ := ne.1 i hlt
  rw [Nat.zero_add] at u0
  have fl := ne.2.2 i hlt
  rw [Nat.zero_add] at fl
  simp only [forall_eq, (se.2.1 i hlt).2.1, u0, nI_1]
  refine ⟨hv, fun k1 => ⟨hv, fun k2 => ?_, fun k2 => ?_⟩, fun k1 => ?_⟩
  · refine hX _ ⟨i + 1, S, hlt, ?_⟩ dec
    rw [bs_skip (fun y => by rw [k2] at y; exact absurd y.2 (by decide))]
  · have k0 := fl.resolve_right k2
    have ws' := tr_ws (i := i) ws
    have ww' := tr_ww (i := i) (by omega) ww
    refine climb_sp (wf_of ws' ww') ws'.2.2.2.1 (wr_of ww') (tr_ce hN24 hlt k0 se ne) (pl := False) ⟨fun z => z rfl, fun z => z.elim⟩ _ _ (fun S' hS => ?_)
    refine namesThatAre_sp 2 hN24 se.1.2 _ ?_
    rw [ht i hlt k1 k0 S' hS]
    refine ⟨fun q => ?_, fun q => ⟨fun q2 => ?_, fun q2 => ?_⟩⟩
    · refine hX _ ⟨i + 1, S', hlt, ?_⟩ dec
      rw [bs_new ⟨k1, k0⟩ (Or.inl q)]
    · refine hX _ ⟨i + 1, S', hlt, ?_⟩ dec
      rw [bs_old ⟨k1, k0⟩ q q2]
    · refine hX _ ⟨i + 1, S', hlt, ?_⟩ dec
      rw [bs_new ⟨k1, k0⟩ (Or.inr q2)]
  · refine hX _ ⟨i + 1, S, hlt, ?_⟩ dec
    rw [bs_skip (fun y => k1 y.1)]
theorem mBest_sp (ws : WS M nN nB) (ww : WW M (wy M) nN nB) (x bf : Int32) (t : Nat → Int32) (ht : ∀ i, i < nN → M 4 i = 1 → M 16 i = 0 → ∀ s v lv, fFd (trE M i) nN nB False s v lv → bf - sI (fun n => if s n = 2 then 1 else 0) nN = t i) (hb : ∀ i, i < nN → M 4 i = 1 → M 16 i = 0 → ¬ t i ≤ -1000) {S1 : ZS} (f1 : fr4 M S1) (Q : Int32 → ZS → Prop) (hQ : ∀ T7, fr4 M T7 → ((bsF M t nN).1 = -9 → Q (-9) T7) ∧ (¬ (bsF M t nN).1 = -9 → (x = 0 → Q (bsF M t nN).1 T7) ∧ (¬ x = 0 → Q (bsF M t nN).2 T7))) : ∃ n, fx (F_X9_best_33 x Q) n (bf, -9, -1000, 0, S1) := by
  have hN24 := ws.1.2.2.1
  refine fx_all (fun p => ∃ i S, i ≤ nN ∧ fr4 M S ∧ p = (bf, (bsF M t i).1, (if (bsF M t i).1 = -9 then -1000 else (bsF M t i).2), nI i, S)) (fun p => nN - p.2.2.2.1.toNatClampNeg) ?_ _ ⟨0, S1, Nat.zero_le _, f1, rfl⟩
  rintro X p ⟨i, S, hi, f, rfl⟩ hX
  have e := nI_clamp (n := i) (by omega)
  have e2 : S 2 = M 2 := f 2 (by decide) (by decide) (by decide) (by decide)
  have e4 : S 4 = M 4 := f 4 (by decide) (by decide) (by decide) (by decide)
  have e16 : S 16 = M 16 := f 16 (by decide) (by decide) (by decide) (by decide)
  unfold F_X9_best_33
  simp only [e2, ws.1.1, e]
  refine ⟨fun z => ?_, fun z => ?_⟩
  · have h2 := (nI_leI (by omega) (by omega)).mp z
    have h3 : i = nN := by omega
    subst h3
    obtain ⟨a, b⟩ := hQ S f
    refine ⟨fun q => ?_, fun q => ?_⟩
    · rw [q]
      exact a q
    · rw [if_neg q]
      exact b q
  have hlt : i < nN := Nat.not_le.mp (fun y => z ((nI_leI (by omega) (by omega)).mpr y))
  have hv : vp_in (nI i) 24 := vp_in_nI (by omega) (by omega)
  have hv0 : vp_in (nI i) 112 := vp_in_nI (by omega) (by omega)
  have dec : nN - (nI (i + 1)).toNatClampNeg < nN - (nI i).toNatClampNeg := by rw [e, nI_clamp (by omega)]; omega
  have c24 : (24 : Int32) + nI i = nI (24 + i) := by rw [show (24 : Int32) = nI 24 from rfl, nI_add]
  have c48 : (48 : Int32) + nI i = nI (48 + i) := by rw [show (48 : Int32) = nI 48 from rfl, nI_add]
  have hv24 : vp_in (nI (24 + i)) 112 := vp_in_nI (by omega) (by omega)
  have hv48 : vp_in (nI (48 + i)) 112 := vp_in_nI (by omega) (by omega)
  have l24 := nI_clamp (n := 24 + i) (by omega)
  have l48 := nI_clamp (n := 48 + i) (by omega)
  unfold G_X9_best_156
  simp only [forall_eq, e4, e16, nI0a, c24, c48, l24, l48, e, nI_1]
  refine ⟨hv, fun k1 => ⟨hv0, fun k2 => ?_, fun k2 => ?_⟩, fun k1 => ?_⟩
  · have eq : zst (zst S 16 i 1) 16 (24 + i) (zst S 16 i 1 16 (48 + i)) = zrp S 16 (trf (M 16) i) := by
      funext k
      by_cases q : k = 16
      · subst q
        rw [zs_kk, zs_kk, zr_kk, e16, pk_un (by omega)]
        rfl
      · rw [zs_ne _ _ _ q, zs_ne _ _ _ q, zr_ne _ _ q]
    rw [eq]
    have ep : pr (zrp S 16 (trf (M 16) i)) = pr (trE M i) := pr_eq (fun k a b => by
      by_cases q : k = 16
      · rw [q, zr_kk, tr_kk]
      · rw [zr_ne _ _ q, tr_ne _ _ q, f k (by omega) (by omega) (by omega) (by omega)])
    have ws' := tr_ws (i := i) ws
    have ww' := tr_ww (i := i) (by omega) ww
    refine ⟨hv24, hv0, hv48, hv24, finds_sp (WF_cong ep (wf_of ws' ww')) (WX_cong ep ws'.2.2.2.2.1) (pl := False) ⟨fun z => z rfl, fun z => z.elim⟩ _ (fun S' hS => ?_)⟩
    have e2' : S' 2 = M 2 := by rw [hS.1 2 (by decide) (by decide) (by decide) (by decide), zr_ne _ _ (by decide), e2]
    refine those_sp 2 hN24 (by rw [e2']; exact ws.1.1) _ ?_
    rw [ht i hlt k1 k2 _ _ _ (fFd_cong ep hS.2.2)]
    have back : fr4 M (zst (zst S' 16 i 0) 16 (24 + i) (M 16 (24 + i))) := by
      intro k a b c d
      by_cases q : k = 16
      · subst q
        rw [zs_kk, zs_kk, hS.1 16 (by decide) (by decide) (by decide) (by decide), zr_kk]
        funext j
        by_cases y2 : j = 24 + i
        · subst y2
          rw [pk_us]
        · rw [pk_un y2]
          by_cases y1 : j = i
          · subst y1
            rw [pk_us, k2]
          · rw [pk_un y1, tr_out y1 y2]
      · rw [zs_ne _ _ _ q, zs_ne _ _ _ q, hS.1 k a b c d, zr_ne _ _ q, f k a b c d]
    by_cases q : (bsF M t i).1 = -9
    · simp only [if_pos q]
      have nb := hb i hlt k1 k2
      refine ⟨hv0, hv24, fun y => absurd y nb, fun _ => ⟨fun y => absurd y nb, fun _ => hX _ ⟨i + 1, _, hlt, back, ?_⟩ dec⟩⟩
      rw [bs_new ⟨k1, k2⟩ (Or.inl q), if_neg (nI_m9 (by omega))]
    · simp only [if_neg q]
      refine ⟨hv0, hv24, fun y => ⟨fun _ => hX _ ⟨i + 1, _, hlt, back, ?_⟩ dec, fun y' => absurd y y'⟩, fun y => ⟨fun y' => absurd y' y, fun _ => hX _ ⟨i + 1, _, hlt, back, ?_⟩ dec⟩⟩
      · rw [bs_old ⟨k1, k2⟩ q y, if_neg q]
      · rw [bs_new ⟨k1, k2⟩ (Or.inr y), if_neg (nI_m9 (by omega))]
  · refine hX _ ⟨i + 1, S, hlt, f, ?_⟩ dec
    rw [bs_skip (fun y => k2 y.2)]
  · refine hX _ ⟨i + 1, S, hlt, f, ?_⟩ dec
    rw [bs_skip (fun y => k1 y.1)]
end BEST
theorem sI_small {c : Nat → Int32} : ∀ {n : Nat}, (∀ k, k < n → isB (c k)) → ∃ m, m ≤ n ∧ sI c n = nI m
  | 0, _ => ⟨0, Nat.le_refl _, rfl⟩
  | n + 1, h => by
    obtain ⟨m, hm, e⟩ := sI_small (n := n) (fun k hk => h k (by omega))
    rcases h n (by omega) with q | q
    · refine ⟨m, by omega, ?_⟩
      show sI c n + c n = _
      rw [q, e, Int32.add_zero]
    · refine ⟨m + 1, by omega, ?_⟩
      show sI c n + c n = _
      rw [q, e, nI_1]
theorem lk_best : LK_best RR := by
  intro S0 S1 S2 S3 S4 S5 S6 S7 S8 S9 S10 S11 M x r
  have rr := r
  have rt : ∀ T7, RR S0 S1 S2 S3 S4 S5 S6 T7 S8 S9 S10 S11 M := fun T7 => r
  obtain ⟨nN, nB, len, h, r⟩ := RR_to r
  obtain ⟨⟨ws, ww⟩, tx, ⟨se, ne⟩, ⟨f5, f6, wk⟩, hh, im, tl⟩ := id r
  have W : WF M nN nB := wf_of ws ww
  have ws : WS M nN nB := ws
  have ww : WW M (wy M) nN nB := ww
  have se : SEq S2 M nN nB := se
  have f5 : FF M nN nB False S5 := f5
  have X : WX M nN := ws.2.2.2.2.1
  have hN24 := W.1.2.2.1
  unfold g_X8_best
  have bad : (¬ ∃ n, n < 2 ∧ x = nI n) → g_X9_best x M (fun r2 TM => -1 = r2 ∧ RR S0 S1 S2 S3 S4 S5 S6 S7 S8 S9 S10 S11 TM) := by
    intro hx
    unfold g_X9_best
    exact in_sp x (N := 2) (by omega) (by decide) _ (fun k hk e => absurd ⟨k, hk, e⟩ hx) (fun _ => ⟨fun _ => ⟨rfl, rr⟩, fun z => (z rfl).elim⟩)
  rcases inR_cases x (N := 2) (by omega) with ⟨a, b⟩ | ⟨j, hj, e, a, b⟩ | ⟨k, hk, e⟩
  · exact ⟨fun _ => bad b, fun z => absurd a z⟩
  · refine ⟨fun _ => bad b, fun _ => ⟨fun z => ?_, fun _ => bad b⟩⟩
    rw [e] at z
    have := (nI_leI (a := j) (b := 1) hj (by omega)).mp z
    omega
  have c1 : ¬ x < 0 := by rw [e]; exact nI_pos (by omega)
  have c2 : x ≤ 1 := by rw [e]; exact (nI_leI (a := k) (b := 1) (by omega) (by omega)).mpr (by omega)
  refine ⟨fun z => absurd z c1, fun _ => ⟨fun _ => ?_, fun z => absurd c2 z⟩⟩
  have b01' : ∀ s : ZR, ∀ n, n < nN → isB (if s n = 2 then (1 : Int32) else 0) := by
    intro s n _
    by_cases q : s n = 2
    · rw [if_pos q]; exact isB_1
    · rw [if_neg q]; exact isB_0
  -- what each trial gives
  have ex : ∀ i, ∃ y : Int32, (i < nN → ∀ s v lv, fFd (trE M i) nN nB False s v lv → sI (fun n => if s n = 2 then 1 else 0) nN = y) ∧ ∃ m, m ≤ nN ∧ y = nI m := by
    intro i
    by_cases q : ∃ s : ZR, ∃ (v : ZR) (lv : Nat → Prop), fFd (trE M i) nN nB False s v lv
    · obtain ⟨s, v, lv, hf⟩ := q
      refine ⟨sI (fun n => if s n = 2 then 1 else 0) nN, fun hi s' v' lv' hf' => sI_cong (fun n hn => ?_), sI_small (b01' s)⟩
      rw [((fFd_one (wf_of (tr_ws (i := i) ws) (tr_ww (by omega) ww)) hf' hf).1 n hn).1]
    · exact ⟨0, fun _ s v lv hf => absurd ⟨s, v, lv, hf⟩ q, 0, Nat.zero_le _, rfl⟩
  obtain ⟨y, hy⟩ := Classical.axiomOfChoice ex
  obtain ⟨m0, hm0, e0⟩ := sI_small (b01' (S5 0))
  refine namesThatAre_sp 2 hN24 se.1.2 _ ?_
  refine cBest_sp ws ww se ne x _ (fun i => sI (fun n => if S5 0 n = 2 then 1 else 0) nN - y i) (fun i hi _ _ S' hS => by rw [(hy i).1 hi _ _ _ hS.2.1]) S7 _ (fun T7 => ?_)
  have bnd : ∀ i, i < nN → M 4 i = 1 → M 16 i = 0 → ¬ sI (fun n => if S5 0 n = 2 then 1 else 0) nN - y i ≤ -1000 := by
    intro i hi _ _ q
    obtain ⟨m, hm, em⟩ := (hy i).2
    rw [e0, em] at q
    have := Int32.le_iff_toInt_le.mp q
    rw [pk_sub_toInt (by omega) (by omega), show (-1000 : Int32).toInt = -1000 from by decide] at this
    omega
  have go : ∀ Q : Int32 → ZS → Prop, (∀ T, fr4 M T → ((bsF M (fun i => sI (fun n => if S5 0 n = 2 then 1 else 0) nN - y i) nN).1 = -9 → Q (-9) T) ∧ (¬ (bsF M (fun i => sI (fun n => if S5 0 n = 2 then 1 else 0) nN - y i) nN).1 = -9 → (x = 0 → Q (bsF M (fun i => sI (fun n => if S5 0 n = 2 then 1 else 0) nN - y i) nN).1 T) ∧ (¬ x = 0 → Q (bsF M (fun i => sI (fun n => if S5 0 n = 2 then 1 else 0) nN - y i) nN).2 T))) → g_X9_best x M Q := by
    intro Q hQ
    unfold g_X9_best
    refine in_sp x (N := 2) (by omega) (by decide) _ (fun _ _ _ => ⟨fun z => absurd z (by decide), fun _ => ?_⟩) (fun hx => absurd ⟨k, hk, e⟩ hx)
    refine finds_sp W X (pl := False) ⟨fun z => z rfl, fun z => z.elim⟩ _ (fun M1 hM => ?_)
    have e2' : M1 2 = M 2 := hM.1 2 (by decide) (by decide) (by decide) (by decide)
    refine those_sp 2 hN24 (by rw [e2']; exact ws.1.1) _ ?_
    have ec : sI (fun n => if M1 40 n = 2 then 1 else 0) nN = sI (fun n => if S5 0 n = 2 then 1 else 0) nN := sI_cong (fun n hn => by rw [((flow_one W f5 hM).1 n hn).1])
    rw [ec]
    exact mBest_sp ws ww x _ (fun i => sI (fun n => if S5 0 n = 2 then 1 else 0) nN - y i) (fun i hi _ _ s v lv hf => by rw [(hy i).1 hi _ _ _ hf]) bnd hM.1 Q hQ
  have none2 : ∀ (t : Nat → Int32) (i : Nat), i ≤ nN → (bsF M t i).1 = -9 → (bsF M t i).2 = -9 := by
    intro t i
    induction i with
    | zero => intro _ _; rfl
    | succ i ih =>
      intro hi q
      by_cases c : M 4 i = 1 ∧ M 16 i = 0
      · by_cases c1 : (bsF M t i).1 = -9 ∨ ¬ t i ≤ (bsF M t i).2
        · rw [bs_new c c1] at q
          exact absurd q (nI_m9 (by omega))
        · have n1 : ¬ (bsF M t i).1 = -9 := fun z => c1 (Or.inl z)
          have n2 : t i ≤ (bsF M t i).2 := Classical.byContradiction (fun z => c1 (Or.inr z))
          rw [bs_old c n1 n2] at q
          exact absurd q n1
      · rw [bs_skip c] at q ⊢
        exact ih (by omega) q
  refine ⟨fun x0 => go _ (fun T hT => ⟨fun q => ⟨q, RR_fr4 hT (rt T7)⟩, fun q => ⟨fun _ => ⟨rfl, RR_fr4 hT (rt T7)⟩, fun z => absurd x0 z⟩⟩), fun x0 => go _ (fun T hT => ⟨fun q => ⟨none2 _ nN (Nat.le_refl _) q, RR_fr4 hT (rt T7)⟩, fun q => ⟨fun z => absurd z x0, fun _ => ⟨rfl, RR_fr4 hT (rt T7)⟩⟩⟩)⟩
