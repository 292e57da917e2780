/-! the relation of the two sides' states -/
/-- the program's part of the reference's rows -/
def pr (E : ZS) : ZS := fun k => if 2 ≤ k ∧ k ≤ 16 then E k else fun _ => 0
theorem pr_eq {E E' : ZS} (h : ∀ k, 2 ≤ k → k ≤ 16 → E' k = E k) : pr E' = pr E := by
  funext k
  unfold pr
  by_cases q : 2 ≤ k ∧ k ≤ 16
  · rw [if_pos q, if_pos q, h k q.1 q.2]
  · rw [if_neg q, if_neg q]
theorem mkF_pr (E : ZS) : ∀ c n v, mkF (pr E) c n v = mkF E c n v
  | 0, _, _ => rfl
  | c + 1, n, v => by
    unfold mkF
    rw [mkF_pr E c (n + 1), mkF_pr E c (n + 1), mkF_pr E c (n + 1), mkF_pr E c (n + 1)]
    rfl
theorem tkF_pr (E : ZS) (b : Nat) (fr : Int32) (v : ZR) : tkF (pr E) b fr v = tkF E b fr v := rfl
theorem ruF_pr (E : ZS) : ∀ c fr b v w, ruF (pr E) c fr b v w = ruF E c fr b v w
  | 0, _, _, _, _ => rfl
  | c + 1, fr, b, v, w => by
    have e : mkF (pr E) ((pr E 12 (b + 1)).toNatClampNeg - (pr E 12 b).toNatClampNeg) (pr E 12 b).toNatClampNeg (tkF (pr E) b fr v) = mkF E ((E 12 (b + 1)).toNatClampNeg - (E 12 b).toNatClampNeg) (E 12 b).toNatClampNeg (tkF E b fr v) := mkF_pr E _ _ _
    unfold ruF
    rw [e, ruF_pr E c]
    rfl
/-- what doesn't change while a program stands -/
def WS (E : ZS) (nN nB : Nat) : Prop := (E 2 0 = nI nN ∧ E 3 0 = nI nB ∧ nN ≤ 24 ∧ nB ≤ 8) ∧
  (∀ n, n < nN → vp_in (E 5 n) nB ∧ vp_in (E 4 n) 4 ∧ (E 4 n = 2 → vp_in (E 7 n) nN ∧ vp_in (E 8 n) nN) ∧ vp_in (E 9 n) 4 ∧ (∀ k, k < (E 9 n).toNatClampNeg → vp_in (E 10 (3 * n + k)) nB ∧ vp_in (E 11 (3 * n + k)) nN)) ∧
  (∀ b, b < nB → vp_in (E 13 b) 3 ∧ (E 13 b ≠ 0 → vp_in (E 14 b) nN)) ∧ WB E nN nB ∧ WX E nN ∧ (∀ n, n < nN → E 4 n = 3 → E 5 n ≠ 0) ∧ (∀ n i j, n < nN → i < (E 9 n).toNatClampNeg → j < (E 9 n).toNatClampNeg → E 10 (3 * n + i) = E 10 (3 * n + j) → i = j)
/-- where the ends go (g) -/
def WW (E : ZS) (g : ZR) (nN nB : Nat) : Prop := (∀ e, e < 2 * nB → g e = -9 ∨ vp_in (g e) nB) ∧
  (∀ b, b < nB → (E 13 b = 2 → g (2 * b + 0) = -9 ∧ g (2 * b + 1) = -9) ∧ (E 13 b = 0 → g (2 * b + 0) ≠ -9 ∧ g (2 * b + 1) = -9) ∧ (E 13 b = 1 → g (2 * b + 0) ≠ -9 ∧ g (2 * b + 1) ≠ -9)) ∧
  ∀ n f k, n < nN → f < nB → k < 2 → E 4 n = 3 → g (2 * f + k) = E 5 n → ∃ j, j < (E 9 n).toNatClampNeg ∧ E 10 (3 * n + j) = nI f
abbrev wy (E : ZS) : ZR := fun e => E 16 (96 + e)
section WELL
variable {E : ZS} {nN nB : Nat}
theorem wf_of (s : WS E nN nB) (w : WW E (wy E) nN nB) : WF E nN nB := ⟨s.1, s.2.1, s.2.2.1, w.1⟩
theorem wr_of (w : WW E (wy E) nN nB) : WR E nB := fun b hb h => (w.2.1 b hb).1 h
theorem we_of (w : WW E (wy E) nN nB) : WE E nB := fun b hb => ⟨fun h => ((w.2.1 b hb).2.1 h).1, (w.2.1 b hb).2.2⟩
theorem wj_of (s : WS E nN nB) (w : WW E (wy E) nN nB) : WJ E nN nB := ⟨s.2.2.2.2.2.1, w.2.2, s.2.2.2.2.2.2⟩
end WELL
/-- a Now and a row of the reference's (from off on) -/
def NE (U : ZS) (f : ZR) (off nN nB : Nat) : Prop := (∀ n, n < nN → U 0 n = f (off + n) ∧ U 1 n = f (off + (24 + n)) ∧ U 2 n = f (off + (48 + n)) ∧ U 3 n = f (off + (72 + n))) ∧ (∀ e, e < 2 * nB → U 4 e = f (off + (96 + e))) ∧ ∀ n, n < nN → isB (f (off + n))
/-- the shape and the reference's rows -/
def SEq (T E : ZS) (nN nB : Nat) : Prop := (T 0 0 = nI nB ∧ T 1 0 = nI nN) ∧
  (∀ n, n < nN → T 2 n = E 5 n ∧ T 3 n = E 4 n ∧ (E 4 n = 2 → T 5 n = E 6 n ∧ T 6 n = E 7 n ∧ T 7 n = E 8 n) ∧ (E 4 n ≠ 2 → T 6 n = -9 ∧ T 7 n = -9) ∧ T 8 n = E 9 n ∧ (∀ k, k < (E 9 n).toNatClampNeg → T 9 (3 * n + k) = E 10 (3 * n + k) ∧ T 10 (3 * n + k) = E 11 (3 * n + k))) ∧
  (∀ b, b < nB → T 13 b = E 13 b ∧ T 14 b = E 14 b ∧ T 11 b = E 12 b ∧ T 12 b = nI ((E 12 (b + 1)).toNatClampNeg - (E 12 b).toNatClampNeg) ∧ T 16 b = E 15 b ∧ (T 15 (2 * b + 0) = -9 ↔ E 13 b = 2) ∧ (T 15 (2 * b + 1) = -9 ↔ E 13 b ≠ 1))
theorem nI_m9 {n : Nat} (h : n < 2 ^ 31) : nI n ≠ -9 := fun q => by
  have := nI_pos h
  rw [q] at this
  exact this (by decide)
theorem ce_of {T U E : ZS} {nN nB : Nat} (hN : nN ≤ 24) (s : SEq T E nN nB) (u : NE U (E 16) 0 nN nB) : CE T U E nN nB (-9) := by
  refine ⟨s.1, fun n hn => ?_, fun b hb => ?_, fun e he => ?_⟩
  · obtain ⟨s1, s2, s3, -, s5, s6⟩ := s.2.1 n hn
    obtain ⟨u1, u2, u3, u4⟩ := u.1 n hn
    rw [Nat.zero_add] at u1 u2 u3 u4
    refine ⟨s1, s2, s3, s5, s6, fun _ => u4, fun _ => ⟨⟨fun q => Or.inl (u1.trans q), fun q => ?_⟩, fun q => ?_⟩⟩
    · rcases q with q | q
      · rw [← u1]; exact q
      · exact absurd q (nI_m9 (by omega))
    · rw [if_pos (u1.trans q)]; exact u2.symm
  · obtain ⟨b1, b2, b3, b4, -⟩ := s.2.2 b hb
    exact ⟨b1, fun _ => b2, b3, b4⟩
  · have := u.2.1 e he
    rw [Nat.zero_add] at this
    exact this
theorem cg_of {U E : ZS} {nN nB : Nat} (u : NE U (E 16) 0 nN nB) : CG U E nN := by
  intro n hn _
  obtain ⟨u1, u2, u3, u4⟩ := u.1 n hn
  rw [Nat.zero_add] at u1 u2 u3 u4
  exact ⟨u3, ⟨fun q => u1.trans q, fun q => u1.symm.trans q⟩, fun _ => u2.symm⟩
/-- what is noted at place i, undone -/
def und (H : ZS) (i : Nat) (U : ZS) : ZS :=
  if H 1 i = 0 then zst (zst U 0 (H 2 i).toNatClampNeg (H 3 i)) 1 (H 2 i).toNatClampNeg (H 4 i)
  else if H 1 i = 1 then zst U 2 (H 2 i).toNatClampNeg (H 4 i)
  else if H 1 i = 2 then zst U 3 (H 2 i).toNatClampNeg (H 4 i)
  else zst (zst U 4 (2 * (H 2 i).toNatClampNeg + 0) (U 4 (2 * (H 2 i).toNatClampNeg + 1))) 4 (2 * (H 2 i).toNatClampNeg + 1) (U 4 (2 * (H 2 i).toNatClampNeg + 0))
def HR (H E : ZS) (bk : ZR) (nN nB : Nat) : Nat → ZS → Prop
  | 0, _ => True
  | i + 1, U => NE (und H i U) bk (112 * i) nN nB ∧ WW E (fun e => bk (112 * i + (96 + e))) nN nB ∧ (vp_in (H 1 i) 4 ∧ ((H 1 i = 3 ∧ vp_in (H 2 i) nB) ∨ (¬ H 1 i = 3 ∧ vp_in (H 2 i) nN))) ∧ HR H E bk nN nB i (und H i U)
def RR (S0 S1 S2 S3 S4 S5 S6 S7 S8 S9 S10 S11 M : ZS) : Prop := ∃ nN nB len h : Nat,
  (WS (pr M) nN nB ∧ WW (pr M) (wy (pr M)) nN nB) ∧
  (len ≤ 150 ∧ S1 1 0 = nI len ∧ M 1 0 = nI len ∧ ∀ i, i < len → S1 0 i = M 0 i ∧ vp_in (M 0 i) 256) ∧
  (SEq S2 (pr M) nN nB ∧ NE S4 (M 16) 0 nN nB) ∧
  (FF (pr M) nN nB False S5 ∧ FF (pr M) nN nB True S6 ∧ WK (pr M) nB S8) ∧
  (h ≤ 10 ∧ S9 0 0 = nI h ∧ M 18 0 = nI h ∧ HR S9 (pr M) (M 17) nN nB h S4) ∧
  ((∀ i, i < 2 → isB (S0 10 i) ∧ M 20 i = S0 10 i) ∧ (S0 10 0 = 1 → NE S10 (M 19) 0 nN nB ∧ WW (pr M) (fun e => M 19 (0 + (96 + e))) nN nB) ∧ (S0 10 1 = 1 → NE S11 (M 19) 112 nN nB ∧ WW (pr M) (fun e => M 19 (112 + (96 + e))) nN nB)) ∧
  S0 11 0 = M 21 0
