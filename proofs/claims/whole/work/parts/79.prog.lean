/-! program -/
theorem br0 {f g : ZR} {c i : Nat} (h : i < c) : brF f g 0 0 c i = f i := by
  unfold brF
  rw [if_pos ⟨Nat.zero_le _, by omega⟩, Nat.zero_add, Nat.sub_zero]
/-- the reference's rows of the program that was read -/
def EP (M : ZS) (nN nB : Nat) (D : ZR) : ZS := fun k => if k = 2 then upd (M 2) 0 (nI nN) else if k = 3 then upd (M 3) 0 (nI nB) else if k = 4 then brF (M 27) (M 4) 0 0 24 else if k = 5 then brF (M 28) (M 5) 0 0 24 else if k = 6 then brF (M 29) (M 6) 0 0 24 else if k = 7 then brF (M 30) (M 7) 0 0 24 else if k = 8 then brF (M 31) (M 8) 0 0 24 else if k = 9 then brF (M 32) (M 9) 0 0 24 else if k = 10 then brF (M 33) (M 10) 0 0 72 else if k = 11 then brF (M 34) (M 11) 0 0 72 else if k = 12 then brF (upd (M 35) nB (nI nN)) (M 12) 0 0 9 else if k = 13 then brF (M 36) (M 13) 0 0 8 else if k = 14 then brF (M 37) (M 14) 0 0 8 else if k = 15 then D else if k = 16 then brF (M 38) (M 16) 0 0 112 else fun _ => 0
theorem EP_cong {M M' : ZS} {nN nB : Nat} {D : ZR} (h : ∀ k, k ≠ 39 → M' k = M k) : EP M' nN nB D = EP M nN nB D := by
  funext k
  unfold EP
  rw [h 2 (by decide), h 3 (by decide), h 4 (by decide), h 5 (by decide), h 6 (by decide), h 7 (by decide), h 8 (by decide), h 9 (by decide), h 10 (by decide), h 11 (by decide), h 12 (by decide), h 13 (by decide), h 14 (by decide), h 16 (by decide), h 27 (by decide), h 28 (by decide), h 29 (by decide), h 30 (by decide), h 31 (by decide), h 32 (by decide), h 33 (by decide), h 34 (by decide), h 35 (by decide), h 36 (by decide), h 37 (by decide), h 38 (by decide)]
theorem EP_D (M : ZS) (nN nB : Nat) (D D' : ZR) : EP M nN nB D' = zrp (EP M nN nB D) 15 D' := by
  funext k
  by_cases q : k = 15
  · subst q
    rw [zr_kk]
    rfl
  · rw [zr_ne _ _ q]
    unfold EP
    rw [if_neg q, if_neg q]
theorem FF_15 {E S : ZS} {nN nB : Nat} {pl : Prop} {g : ZR} (h : FF E nN nB pl S) : FF (zrp E 15 g) nN nB pl S := h
theorem mkF_15 (E : ZS) (g : ZR) : ∀ c n v, mkF (zrp E 15 g) c n v = mkF E c n v
  | 0, _, _ => rfl
  | c + 1, n, v => by
    unfold mkF
    rw [mkF_15 E g c (n + 1), mkF_15 E g c (n + 1), mkF_15 E g c (n + 1), mkF_15 E g c (n + 1)]
    rfl
theorem ruF_15 (E : ZS) (g : ZR) : ∀ c fr b v w, ruF (zrp E 15 g) c fr b v w = ruF E c fr b v w
  | 0, _, _, _, _ => rfl
  | c + 1, fr, b, v, w => by
    have e : mkF (zrp E 15 g) ((zrp E 15 g 12 (b + 1)).toNatClampNeg - (zrp E 15 g 12 b).toNatClampNeg) (zrp E 15 g 12 b).toNatClampNeg (tkF (zrp E 15 g) b fr v) = mkF E ((E 12 (b + 1)).toNatClampNeg - (E 12 b).toNatClampNeg) (E 12 b).toNatClampNeg (tkF E b fr v) := mkF_15 E g _ _ _
    unfold ruF
    rw [e, ruF_15 E g c]
    rfl
theorem WK_15 {E S : ZS} {nB : Nat} {g : ZR} (h : WK E nB S) : WK (zrp E 15 g) nB S := by
  unfold WK at *
  rw [ruF_15]
  exact h
theorem DM_cong {g g' f : ZR} {nB : Nat} (h : ∀ e, e < 2 * nB → g' e = g e) (d : DM g nB f) : DM g' nB f := by
  intro b hb i hi
  rw [d b hb i hi]
  exact ⟨fun ⟨a, r⟩ => ⟨a, fun k => r (RW_cong (fun e he => (h e he).symm) k)⟩, fun ⟨a, r⟩ => ⟨a, fun k => r (RW_cong h k)⟩⟩
section PROG
variable {T M : ZS} {F : Nat → Nat} {nN nB : Nat}
theorem dr_mono (d : DR T M F nN nB nB) : ∀ {i j : Nat}, i ≤ j → j ≤ nB → F i ≤ F j := by
  intro i j hij hj
  induction j with
  | zero => rw [show i = 0 by omega]; exact Nat.le_refl _
  | succ j ih =>
    by_cases q : i = j + 1
    · rw [q]; exact Nat.le_refl _
    · have := ih (by omega) (by omega)
      have := (d.2.2.2.1 j (by omega)).2.2.1
      omega
theorem ep_12 (d : DR T M F nN nB nB) (D : ZR) {b : Nat} (hb : b ≤ nB) : EP M nN nB D 12 b = nI (F b) ∧ (EP M nN nB D 12 b).toNatClampNeg = F b ∧ F b ≤ nN := by
  have hF : F b ≤ nN := by
    have := dr_mono d hb (Nat.le_refl _)
    rw [d.2.1.2] at this
    exact this
  have h8 := d.1.2.2.2.2.1
  have h24 := d.1.2.2.2.2.2
  have e : EP M nN nB D 12 b = nI (F b) := by
    show brF (upd (M 35) nB (nI nN)) (M 12) 0 0 9 b = _
    rw [br0 (by omega)]
    by_cases q : b = nB
    · subst q
      rw [pk_us, d.2.1.2]
    · rw [pk_un q]
      exact (d.2.2.2.1 b (by omega)).2.1
  exact ⟨e, by rw [e, nI_clamp (by omega)], hF⟩
theorem ep_ws (d : DR T M F nN nB nB) (s : STM M nN nB) (D : ZR) : WS (EP M nN nB D) nN nB := by
  obtain ⟨d1, d2, d3, d4, d5, d6⟩ := d.1
  have e4 : ∀ n, n < nN → EP M nN nB D 4 n = M 27 n := fun n hn => br0 (by omega)
  have e5 : ∀ n, n < nN → EP M nN nB D 5 n = M 28 n := fun n hn => br0 (by omega)
  have e7 : ∀ n, n < nN → EP M nN nB D 7 n = M 30 n := fun n hn => br0 (by omega)
  have e8 : ∀ n, n < nN → EP M nN nB D 8 n = M 31 n := fun n hn => br0 (by omega)
  have e9 : ∀ n, n < nN → EP M nN nB D 9 n = M 32 n := fun n hn => br0 (by omega)
  have e10 : ∀ i, i < 72 → EP M nN nB D 10 i = M 33 i := fun n hn => br0 (by omega)
  have e11 : ∀ i, i < 72 → EP M nN nB D 11 i = M 34 i := fun n hn => br0 (by omega)
  have e13 : ∀ b, b < nB → EP M nN nB D 13 b = M 36 b := fun n hn => br0 (by omega)
  have e14 : ∀ b, b < nB → EP M nN nB D 14 b = M 37 b := fun n hn => br0 (by omega)
  have bf : ∀ {x : Int32} {n : Nat}, BFv (hmF M) (fun e => M 38 (96 + e)) nN nB x n → ∃ m, m < nN ∧ x = nI m ∧ m ≠ n := by
    rintro x n ⟨m, hm, e, h⟩
    refine ⟨m, hm, e, fun k => ?_⟩
    rcases h with h | h
    · omega
    · rw [k] at h; exact h.1 rfl
  have ha : ∀ n, n < nN → (EP M nN nB D 9 n).toNatClampNeg = aF M n := fun n hn => by rw [e9 n hn]; rfl
  refine ⟨⟨pk_us (f := M 2) (k := 0), pk_us (f := M 3) (k := 0), d6, d5⟩, fun n hn => ⟨?_, ?_, fun h => ?_, ?_, fun k hk => ?_⟩, fun b hb => ⟨?_, fun h => ?_⟩, ⟨fun b hb => ?_, ?_, ?_, fun b hb => ?_, fun b hb => ?_, fun n b hn hb => ?_⟩, fun n hn h => ?_, fun n hn h => ?_, fun n i j hn hi hj h => ?_⟩
  · rw [e5 n hn, (dr_hm d hn).1]; exact vp_in_nI (dr_hm d hn).2.1 (by omega)
  · rw [e4 n hn]; exact (d.2.2.1 n hn).1.1.2.1.2
  · rw [e4 n hn] at h
    obtain ⟨b1, b2⟩ := (s.2.2 n hn).1 h
    obtain ⟨m1, h1, g1, -⟩ := bf b1
    obtain ⟨m2, h2, g2, -⟩ := bf b2
    rw [e7 n hn, e8 n hn, g1, g2]
    exact ⟨vp_in_nI h1 (by omega), vp_in_nI h2 (by omega)⟩
  · rw [e9 n hn, (dr_a d hn).2.1]
    have := (dr_a d hn).2.2.1
    exact vp_in_nI (by omega) (by omega)
  · rw [ha n hn] at hk
    have h3 := (dr_a d hn).2.2.1
    have hj : M 27 n = 3 := by
      by_cases q : M 27 n = 3
      · exact q
      · have := (dr_a d hn).2.2.2.1 q
        omega
    obtain ⟨c, m, hc, hm, g1, g2, -⟩ := ((s.2.2 n hn).2 hj).1 k hk
    rw [e10 _ (by omega), e11 _ (by omega), g1, g2]
    exact ⟨vp_in_nI hc (by omega), vp_in_nI hm (by omega)⟩
  · rw [e13 b hb]
    rcases (d.2.2.2.2.1 b hb).2 with a | a | a
    · rw [a.1]; exact vp_in_nI (n := 0) (by omega) (by omega)
    · rw [a.1]; exact vp_in_nI (n := 1) (by omega) (by omega)
    · rw [a.1]; exact vp_in_nI (n := 2) (by omega) (by omega)
  · rw [e13 b hb] at h
    rw [e14 b hb]
    rcases s.2.1 b hb with k | ⟨m, hm, k, -⟩
    · have : vp_in (M 37 b) 24 := by
        rcases (d.2.2.2.2.1 b hb).2 with a | a | a
        · exact absurd a.1 h
        · exact a.2.1
        · exact a.2.1
      obtain ⟨j, hj, ej⟩ := vp_in_of this (by omega)
      exact absurd (ej.symm.trans k) (nI_m9 (by omega))
    · rw [k]; exact vp_in_nI hm (by omega)
  · obtain ⟨a1, a2, a3⟩ := ep_12 d D hb
    rw [a1]; exact vp_in_nI (by omega) (by omega)
  · rw [(ep_12 d D (Nat.zero_le _)).1, d.2.1.1]; rfl
  · rw [(ep_12 d D (Nat.le_refl _)).1, d.2.1.2]
  · rw [(ep_12 d D (show b ≤ nB by omega)).2.1, (ep_12 d D (show b + 1 ≤ nB by omega)).2.1]
    exact dr_mono d (by omega) (by omega)
  · rw [(ep_12 d D hb).2.1]
    exact (ep_12 d D hb).2.2
  · rw [(ep_12 d D (show b ≤ nB by omega)).2.1, (ep_12 d D (show b + 1 ≤ nB by omega)).2.1, e5 n hn]
    obtain ⟨g1, g2, g3, g4⟩ := dr_hm d hn
    rw [g1]
    refine ⟨fun k => ?_, fun k => ?_⟩
    · rw [← (nI_eq (by omega) (by omega)).mp k]
      exact ⟨g3, g4⟩
    · rcases Nat.lt_trichotomy (hmF M n) b with q | q | q
      · have := dr_mono d (show hmF M n + 1 ≤ b by omega) (by omega)
        omega
      · rw [q]
      · have := dr_mono d (show b + 1 ≤ hmF M n by omega) (by omega)
        omega
  · rw [e4 n hn] at h
    obtain ⟨b1, b2⟩ := (s.2.2 n hn).1 h
    obtain ⟨m1, h1, g1, n1⟩ := bf b1
    obtain ⟨m2, h2, g2, n2⟩ := bf b2
    rw [e7 n hn, e8 n hn, g1, g2, nI_clamp (show m1 < 2 ^ 31 by omega), nI_clamp (show m2 < 2 ^ 31 by omega)]
    exact ⟨n1, n2⟩
  · rw [e4 n hn] at h
    rw [e5 n hn]
    exact (d.2.2.1 n hn).1.2.2.2 h
  · rw [ha n hn] at hi hj
    have h3 := (dr_a d hn).2.2.1
    rw [e10 _ (by omega), e10 _ (by omega)] at h
    exact (dr_a d hn).2.2.2.2.2 i j hi hj h
theorem ep_ww (d : DR T M F nN nB nB) (s : STM M nN nB) (D : ZR) : WW (EP M nN nB D) (wy (EP M nN nB D)) nN nB := by
  obtain ⟨d1, d2, d3, d4, d5, d6⟩ := d.1
  have eg : ∀ e, e < 2 * nB → wy (EP M nN nB D) e = M 38 (96 + e) := fun e he => by
    show EP M nN nB D 16 (96 + e) = _
    exact br0 (by omega)
  have e4 : ∀ n, n < nN → EP M nN nB D 4 n = M 27 n := fun n hn => br0 (by omega)
  have e5 : ∀ n, n < nN → EP M nN nB D 5 n = M 28 n := fun n hn => br0 (by omega)
  have e9 : ∀ n, n < nN → EP M nN nB D 9 n = M 32 n := fun n hn => br0 (by omega)
  have e10 : ∀ i, i < 72 → EP M nN nB D 10 i = M 33 i := fun n hn => br0 (by omega)
  have e13 : ∀ b, b < nB → EP M nN nB D 13 b = M 36 b := fun n hn => br0 (by omega)
  have n9 : ∀ {x : Int32} {k : Nat}, k < 2 ^ 30 → vp_in x k → x ≠ -9 := by
    intro x k hk h e
    obtain ⟨j, hj, ej⟩ := vp_in_of h (by omega)
    exact nI_m9 (show j < 2 ^ 31 by omega) (ej.symm.trans e)
  refine ⟨fun e he => ?_, fun b hb => ?_, fun n p k hn hp hk h3 h => ?_⟩
  · rw [eg e he]
    rcases s.1 e he with w | ⟨t, t0, t1, w⟩
    · exact Or.inl w
    · right
      show vp_in (M 38 (96 + e)) nB
      have w' : M 38 (96 + e) = nI t := w
      rw [w']; exact vp_in_nI t1 (by omega)
  · rw [e13 b hb, eg _ (by omega), eg _ (by omega)]
    rcases (d.2.2.2.2.1 b hb).2 with a | a | a
    · refine ⟨fun k => absurd (a.1.symm.trans k) (by decide), fun _ => ⟨n9 (by omega) a.2.2.1, a.2.2.2⟩, fun k => absurd (a.1.symm.trans k) (by decide)⟩
    · refine ⟨fun k => absurd (a.1.symm.trans k) (by decide), fun k => absurd (a.1.symm.trans k) (by decide), fun _ => ⟨n9 (by omega) a.2.2.1, n9 (by omega) a.2.2.2⟩⟩
    · refine ⟨fun _ => ⟨a.2.2.1, a.2.2.2⟩, fun k => absurd (a.1.symm.trans k) (by decide), fun k => absurd (a.1.symm.trans k) (by decide)⟩
  · rw [e4 n hn] at h3
    rw [eg _ (by omega), e5 n hn, (dr_hm d hn).1] at h
    have hg : gt (fun e => M 38 (96 + e)) p (hmF M n) := by
      unfold gt
      rcases (show k = 0 ∨ k = 1 by omega) with q | q
      · rw [q] at h; exact Or.inl h
      · rw [q] at h; exact Or.inr h
    obtain ⟨j, hj, e⟩ := ((s.2.2 n hn).2 h3).2 p hp hg
    have h33 := (dr_a d hn).2.2.1
    refine ⟨j, ?_, ?_⟩
    · rw [e9 n hn]; exact hj
    · rw [e10 _ (by omega)]; exact e
theorem ep_se (d : DR T M F nN nB nB) {D : ZR} (hD : ∀ b, b < nB → T 16 b = D b) : SEq T (EP M nN nB D) nN nB := by
  obtain ⟨d1, d2, d3, d4, d5, d6⟩ := d.1
  have e4 : ∀ n, n < nN → EP M nN nB D 4 n = M 27 n := fun n hn => br0 (by omega)
  have e5 : ∀ n, n < nN → EP M nN nB D 5 n = M 28 n := fun n hn => br0 (by omega)
  have e6 : ∀ n, n < nN → EP M nN nB D 6 n = M 29 n := fun n hn => br0 (by omega)
  have e7 : ∀ n, n < nN → EP M nN nB D 7 n = M 30 n := fun n hn => br0 (by omega)
  have e8 : ∀ n, n < nN → EP M nN nB D 8 n = M 31 n := fun n hn => br0 (by omega)
  have e9 : ∀ n, n < nN → EP M nN nB D 9 n = M 32 n := fun n hn => br0 (by omega)
  have e10 : ∀ i, i < 72 → EP M nN nB D 10 i = M 33 i := fun n hn => br0 (by omega)
  have e11 : ∀ i, i < 72 → EP M nN nB D 11 i = M 34 i := fun n hn => br0 (by omega)
  have e13 : ∀ b, b < nB → EP M nN nB D 13 b = M 36 b := fun n hn => br0 (by omega)
  have e14 : ∀ b, b < nB → EP M nN nB D 14 b = M 37 b := fun n hn => br0 (by omega)
  have n9 : ∀ {x : Int32} {k : Nat}, k < 2 ^ 30 → vp_in x k → x ≠ -9 := by
    intro x k hk h e
    obtain ⟨j, hj, ej⟩ := vp_in_of h (by omega)
    exact nI_m9 (show j < 2 ^ 31 by omega) (ej.symm.trans e)
  refine ⟨⟨d1, d2⟩, fun n hn => ?_, fun b hb => ?_⟩
  · rw [e4 n hn, e5 n hn, e6 n hn, e7 n hn, e8 n hn, e9 n hn]
    obtain ⟨⟨⟨a1, -⟩, ⟨a2, -⟩, -⟩, ⟨a3, a4⟩, -, -⟩ := (d.2.2.1 n hn).1
    obtain ⟨b1, b2, b3, b4, b5, b6⟩ := dr_a d hn
    refine ⟨a1, a2, fun h => (a3 h).1, a4, b1.trans b2.symm, fun k hk => ?_⟩
    have hk' : k < aF M n := hk
    rw [e10 _ (by omega), e11 _ (by omega)]
    exact (b5 k hk').1
  · obtain ⟨⟨c1, c2, c3, c4⟩, alt⟩ := d.2.2.2.2.1 b hb
    obtain ⟨f1, f2, f3, f4⟩ := d.2.2.2.1 b hb
    rw [e13 b hb, e14 b hb, (ep_12 d D (show b ≤ nB by omega)).2.1, (ep_12 d D (show b + 1 ≤ nB by omega)).2.1, (ep_12 d D (show b ≤ nB by omega)).1]
    refine ⟨c1, c2, f1, f4, hD b hb, ?_, ?_⟩
    · rw [c3]
      rcases alt with a | a | a
      · exact ⟨fun k => absurd k (n9 (by omega) a.2.2.1), fun k => absurd (a.1.symm.trans k) (by decide)⟩
      · exact ⟨fun k => absurd k (n9 (by omega) a.2.2.1), fun k => absurd (a.1.symm.trans k) (by decide)⟩
      · exact ⟨fun _ => a.1, fun _ => a.2.2.1⟩
    · rw [c4]
      rcases alt with a | a | a
      · exact ⟨fun _ k => absurd (a.1.symm.trans k) (by decide), fun _ => a.2.2.2⟩
      · exact ⟨fun k => absurd k (n9 (by omega) a.2.2.2), fun k => absurd a.1 k⟩
      · exact ⟨fun _ k => absurd (a.1.symm.trans k) (by decide), fun _ => a.2.2.2⟩
theorem becomes_sp (S4 T : ZS) (Q : ZS → Prop) (hQ : ∀ U, (∀ n, n < 24 → U 0 n = 0 ∧ U 1 n = 0 ∧ U 2 n = 0 ∧ U 3 n = T 4 n) → (∀ e, e < 16 → U 4 e = T 15 e) → Q U) : g_X2_becomesAsTold S4 T Q := by
  unfold g_X2_becomesAsTold
  refine fill_sp 24 (by omega) 0 _ _ (fill_sp 24 (by omega) 0 _ _ (fill_sp 24 (by omega) 0 _ _ ?_))
  simp only [forall_eq]
  refine hQ _ (fun n hn => ⟨?_, ?_, ?_, ?_⟩) (fun e he => ?_)
  · rw [zr_ne _ _ (by decide), zr_ne _ _ (by decide), zr_ne _ _ (by decide), zr_ne _ _ (by decide), zr_kk]
    exact if_pos hn
  · rw [zr_ne _ _ (by decide), zr_ne _ _ (by decide), zr_ne _ _ (by decide), zr_kk]
    exact if_pos hn
  · rw [zr_ne _ _ (by decide), zr_ne _ _ (by decide), zr_kk]
    exact if_pos hn
  · rw [zr_ne _ _ (by decide), zr_kk, pk_cpy_in (by omega) (by omega), Nat.zero_add, Nat.sub_zero]
  · rw [zr_kk, pk_cpy_in (by omega) (by omega), Nat.zero_add, Nat.sub_zero]
theorem ep_ne (d : DR T M F nN nB nB) {U : ZS} {D : ZR} (h1 : ∀ n, n < 24 → U 0 n = 0 ∧ U 1 n = 0 ∧ U 2 n = 0 ∧ U 3 n = T 4 n) (h2 : ∀ e, e < 16 → U 4 e = T 15 e) : NE U (EP M nN nB D 16) 0 nN nB := by
  obtain ⟨d1, d2, d3, d4, d5, d6⟩ := d.1
  have e16 : ∀ i, i < 112 → EP M nN nB D 16 i = M 38 i := fun i hi => br0 hi
  have z := d.2.2.2.2.2.2.1
  refine ⟨fun n hn => ?_, fun e he => ?_, fun n hn => ?_⟩
  · obtain ⟨a, b, c, e⟩ := h1 n (by omega)
    rw [Nat.zero_add, Nat.zero_add, Nat.zero_add, Nat.zero_add, e16 _ (by omega), e16 _ (by omega), e16 _ (by omega), e16 _ (by omega), z _ (by omega), z _ (by omega), z _ (by omega)]
    exact ⟨a, b, c, e.trans (d.2.2.1 n hn).1.1.2.2⟩
  · rw [Nat.zero_add, e16 _ (by omega), h2 e (by omega)]
    exact (dr_wayE d he).1
  · rw [Nat.zero_add, e16 _ (by omega), z _ (by omega)]
    exact isB_0
theorem g66_sp (m23 : M 23 0 = 0) (m25 : M 25 0 = nI nB) (m24 : M 24 0 = nI nN) (h8 : nB ≤ 8) (R : Int32 → ZS → Prop) (hR : ∀ MF, pr MF = EP M nN nB (brF (M 39) (M 15) 0 0 8) → MF 1 0 = 0 → MF 18 0 = 0 → MF 20 0 = 0 → MF 20 1 = 0 → MF 21 = M 21 → R (nI nN) MF) : G_X9_program_66 R M := by
  unfold G_X9_program_66
  refine ⟨fun _ => ?_, fun y => absurd m23 y⟩
  simp only [forall_eq]
  have a24 : ∀ S : ZS, zst S 1 0 0 24 0 = S 24 0 := fun S => by rw [zs_ne _ _ _ (by decide)]
  rw [m25, nI_clamp (show nB < 2 ^ 31 by omega), m24]
  have b24 : zst (zst M 35 nB (nI nN)) 1 0 0 24 0 = nI nN := by rw [zs_ne _ _ _ (by decide), zs_ne _ _ _ (by decide)]; exact m24
  have b25 : zst (zst (zst M 35 nB (nI nN)) 1 0 0) 2 0 (nI nN) 25 0 = nI nB := by rw [zs_ne _ _ _ (by decide), zs_ne _ _ _ (by decide), zs_ne _ _ _ (by decide)]; exact m25
  rw [b24, b25]
  refine ⟨vp_in_nI (by omega) (by omega), ?_⟩
  refine bring_sp (a := 0) (d := 0) (c := 24) (by omega) (by omega) (by omega) (by omega) _ _ _ ?_
  refine bring_sp (a := 0) (d := 0) (c := 24) (by omega) (by omega) (by omega) (by omega) _ _ _ ?_
  refine bring_sp (a := 0) (d := 0) (c := 24) (by omega) (by omega) (by omega) (by omega) _ _ _ ?_
  refine bring_sp (a := 0) (d := 0) (c := 24) (by omega) (by omega) (by omega) (by omega) _ _ _ ?_
  refine bring_sp (a := 0) (d := 0) (c := 24) (by omega) (by omega) (by omega) (by omega) _ _ _ ?_
  refine bring_sp (a := 0) (d := 0) (c := 24) (by omega) (by omega) (by omega) (by omega) _ _ _ ?_
  refine bring_sp (a := 0) (d := 0) (c := 72) (by omega) (by omega) (by omega) (by omega) _ _ _ ?_
  refine bring_sp (a := 0) (d := 0) (c := 72) (by omega) (by omega) (by omega) (by omega) _ _ _ ?_
  refine bring_sp (a := 0) (d := 0) (c := 9) (by omega) (by omega) (by omega) (by omega) _ _ _ ?_
  refine bring_sp (a := 0) (d := 0) (c := 8) (by omega) (by omega) (by omega) (by omega) _ _ _ ?_
  refine bring_sp (a := 0) (d := 0) (c := 8) (by omega) (by omega) (by omega) (by omega) _ _ _ ?_
  refine bring_sp (a := 0) (d := 0) (c := 8) (by omega) (by omega) (by omega) (by omega) _ _ _ ?_
  refine bring_sp (a := 0) (d := 0) (c := 112) (by omega) (by omega) (by omega) (by omega) _ _ _ ?_
  simp (discharger := decide) only [zr_ne, zs_ne]
  rw [show vp_nar .boolean 0 = 0 from rfl, show Int32.toNatClampNeg 0 = 0 from rfl, show Int32.toNatClampNeg 1 = 1 from rfl, zs_at]
  refine hR _ ?_ ?_ ?_ ?_ ?_ ?_
  · funext k
    unfold pr
    by_cases q : 2 ≤ k ∧ k ≤ 16
    · rw [if_pos q]
      have qs : k = 2 ∨ k = 3 ∨ k = 4 ∨ k = 5 ∨ k = 6 ∨ k = 7 ∨ k = 8 ∨ k = 9 ∨ k = 10 ∨ k = 11 ∨ k = 12 ∨ k = 13 ∨ k = 14 ∨ k = 15 ∨ k = 16 := by omega
      rcases qs with e | e | e | e | e | e | e | e | e | e | e | e | e | e | e
      all_goals
        subst e
        simp (discharger := decide) only [zr_ne, zs_ne, zr_kk, zs_kk]
        rfl
    · rw [if_neg q]
      unfold EP
      rw [if_neg (by omega), if_neg (by omega), if_neg (by omega), if_neg (by omega), if_neg (by omega), if_neg (by omega), if_neg (by omega), if_neg (by omega), if_neg (by omega), if_neg (by omega), if_neg (by omega), if_neg (by omega), if_neg (by omega), if_neg (by omega), if_neg (by omega)]
  · simp (discharger := decide) only [zr_ne, zs_ne, zs_at]
  · simp (discharger := decide) only [zr_ne, zs_ne, zs_at]
  · rw [zs_ni _ _ _ (by decide), zs_at]
  · rw [zs_at]
  · simp (discharger := decide) only [zr_ne, zs_ne]
end PROG
theorem lk_program : LK_program RR := by
  intro S0 S1 S2 S3 S4 S5 S6 S7 S8 S9 S10 S11 M r
  obtain ⟨nN0, nB0, len, h, r1, ⟨hl, t1, m1, tx⟩, r3, r4, r5, r6, told⟩ := id r
  unfold g_X8_program
  refine j_fault hl t1 (fun i hi => (tx i hi).1) (fun i hi => (tx i hi).2) m1 _ (fun v S1' S3' run hv s1 s0 => ⟨fun k => absurd k hv, fun _ => run _ (fun M' fr => ⟨rfl, ?_⟩)⟩) (fun S1' T M' F nN nB run m23 s1 fr d hB s dm => ⟨fun _ => ?_, fun k => (k rfl).elim⟩)
  · refine RR_M (fun k hk => fr k hk) ?_
    exact ⟨nN0, nB0, len, h, r1, ⟨hl, s1, m1, fun i hi => ⟨s0 i hi, (tx i hi).2⟩⟩, r3, r4, r5, r6, told⟩
  · obtain ⟨d1, d2, d3, d4, d5, d6⟩ := d.1
    unfold G_X8_program_40
    simp only [forall_eq]
    refine becomes_sp _ _ _ (fun U u1 u2 => ?_)
    refine fill_sp 2 (by omega) 0 _ _ ?_
    have dT : ∀ b, b < nB → T 16 b = T 16 b := fun _ _ => rfl
    refine settle_sp (E := EP M' nN nB (T 16)) (ep_ws d s _) (ep_ww d s _) (ep_se d dT) (ep_ne d u1 u2) _ (fun T5 T6 T8 h5 h6 h8 => ?_)
    refine run _ (fun M'' f'' dm'' => ?_)
    refine g66_sp (nN := nN) (nB := nB) (by rw [f'' 23 (by decide)]; exact m23) (by rw [f'' 25 (by decide)]; exact d3) (by rw [f'' 24 (by decide)]; exact d4) d5 _ (fun MF ep e1 e18 e200 e201 e21 => ⟨d2, ?_⟩)
    rw [EP_cong f''] at ep
    have dD : ∀ b, b < nB → T 16 b = brF (M'' 39) (M'' 15) 0 0 8 b := fun b hb => by
      rw [br0 (by omega)]
      exact DM_one dm (DM_cong (fun e he => (dr_wayE d he).1) dm'') hb
    have epz := EP_D M' nN nB (T 16) (brF (M'' 39) (M'' 15) 0 0 8)
    refine ⟨nN, nB, 0, 0, ⟨?_, ?_⟩, ⟨by omega, zs_at _ _ _ _, e1, fun i hi => absurd hi (by omega)⟩, ⟨?_, ?_⟩, ⟨?_, ?_, ?_⟩, ⟨by omega, zs_at _ _ _ _, e18, trivial⟩, ⟨fun i hi => ?_, fun y => ?_, fun y => ?_⟩, ?_⟩
    · rw [ep]; exact ep_ws d s _
    · rw [ep]; exact ep_ww d s _
    · rw [ep]; exact ep_se d dD
    · have e16 : MF 16 = EP M' nN nB (brF (M'' 39) (M'' 15) 0 0 8) 16 := by rw [← ep]; rfl
      rw [e16]
      exact ep_ne d u1 u2
    · rw [ep, epz]; exact FF_15 h5
    · rw [ep, epz]; exact FF_15 h6
    · rw [ep, epz]; exact WK_15 h8
    · rw [zr_kk]
      rw [if_pos hi]
      refine ⟨isB_0, ?_⟩
      rcases (show i = 0 ∨ i = 1 by omega) with q | q
      · rw [q]; exact e200
      · rw [q]; exact e201
    · rw [zr_kk, if_pos (by decide)] at y
      exact absurd y (by decide)
    · rw [zr_kk, if_pos (by decide)] at y
      exact absurd y (by decide)
    · rw [zr_ne _ _ (by decide), e21, f'' 21 (by decide), fr 21 (by decide)]
      exact told
theorem law_ok : LawOK RR := ⟨rr_zero, lk_type, lk_clear, lk_program, lk_name, lk_found, lk_block, lk_knows, lk_forgets, lk_gives, lk_patches, lk_turned, lk_undo, lk_run, lk_visits, lk_last, lk_count, lk_best, lk_keep, lk_back, lk_asked⟩
