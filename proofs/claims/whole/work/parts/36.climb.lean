section FLOWC
variable {E T U : ZS} {nN nB : Nat} {pl : Prop} {S : ZS} {x3 x4 : Int32}
theorem FF_of (hI : II E nN nB pl S) (h : fCl E nN nB pl (S 0) (S 1) (fun b => S 2 b = 1) ∧ ∀ b k, b < nB → k < 2 → fEdge E pl (S 0) (S 1) (fun b => S 2 b = 1) b k → S 3 (2 * b + k) = 1) : FF E nN nB pl S :=
  ⟨hI.1, ⟨h.1, fun s' v' lv' hc => (hI.2.1 s' v' lv' hc).1⟩, fun b k hb hk => ⟨(hI.2.1 _ _ _ h.1).2 b k hb hk, h.2 b k hb hk⟩, hI.2.2.2.2⟩
theorem climb_start (W : WF E nN nB) {S : ZS} (h0 : ∀ n, n < 24 → S 0 n = 0) (h2 : ∀ b, b < 8 → S 2 b = if b = 0 then (if 0 < nB then 1 else 0) else 0) (h3 : ∀ e, e < 16 → S 3 e = 0) : II E nN nB pl S := by
  have hN24 := W.1.2.2.1
  have hB8 := W.1.2.2.2
  refine ⟨⟨fun n hn => Or.inl (h0 n hn), fun e he => by rw [h3 e he]; exact isB_0, fun b hb => ?_⟩, fun s' v' lv' hc => ⟨⟨fun n hn => Or.inl (h0 n (by omega)), fun b hb hl => ?_⟩, fun b k hb hk ho => ?_⟩, fun hp => ?_, fun b k hb hk ho => ?_, fun e _ he => h3 e he⟩
  · rw [h2 b hb]
    by_cases q : b = 0
    · rw [if_pos q]
      by_cases z : 0 < nB
      · rw [if_pos z]; exact isB_1
      · rw [if_neg z]; exact isB_0
    · rw [if_neg q]; exact isB_0
  · have hl : S 2 b = 1 := hl
    rw [h2 b (by omega)] at hl
    by_cases q : b = 0
    · subst q; exact hc.1 hb
    · rw [if_neg q] at hl; exact absurd hl (by decide)
  · rw [h3 _ (by omega)] at ho; exact absurd ho (by decide)
  · rw [h2 0 (by omega), if_pos rfl, if_pos hp]
  · rw [h3 _ (by omega)] at ho; exact absurd ho (by decide)
theorem climb_loop (W : WF E nN nB) (B : WB E nN nB) (R : WR E nB) (C : CE T U E nN nB x4) (hpl : ¬ x3 = 0 ↔ pl) (Q : ZS → Prop) (hQ : ∀ S', FF E nN nB pl S' → Q S') (hI : II E nN nB pl S) : ∃ n, fx (F_X0_climb_56 x3 x4 T U Q) n (1, 0, S) := by
  have hB8 := W.1.2.2.2
  refine fx_all (fun p => ∃ i r S, i ≤ 65 ∧ p = (r, nI i, S) ∧ isB r ∧ II E nN nB pl S ∧ (r = 1 → i ≤ rk S) ∧ (r = 0 → fCl E nN nB pl (S 0) (S 1) (fun b => S 2 b = 1) ∧ ∀ b k, b < nB → k < 2 → fEdge E pl (S 0) (S 1) (fun b => S 2 b = 1) b k → S 3 (2 * b + k) = 1)) (fun p => 65 - p.2.1.toNatClampNeg) ?_ _ ⟨0, 1, S, by omega, rfl, isB_1, hI, fun _ => Nat.zero_le _, fun h => absurd h (by decide)⟩
  rintro X p ⟨i, r, S, hi, rfl, hr, hI, h1, h0⟩ hX
  unfold F_X0_climb_56
  have ei := nI_clamp (n := i) (by omega)
  simp only []
  refine ⟨fun h => ?_, fun h => ⟨fun z => hQ S (FF_of hI (h0 z)), fun z => ?_⟩⟩
  · have : 65 ≤ i := (nI_leI (a := 65) (b := i) (by omega) (by omega)).mp h
    rcases hr with q | q
    · exact hQ S (FF_of hI (h0 q))
    · have := h1 q
      have := rk_le hI.1
      omega
  · have hlt : i < 65 := by
      have := mt (nI_leI (a := 65) (b := i) (by omega) (by omega)).mpr h
      omega
    have hr1 : r = 1 := hr.resolve_left z
    have hm : 65 - (nI (i + 1)).toNatClampNeg < 65 - (nI i).toNatClampNeg := by rw [nI_clamp (by omega), ei]; omega
    refine fx_all (fun p => ∃ b S1 r1, b ≤ nB ∧ p = (r1, nI i, nI b, S1) ∧ ST E nN nB pl S r1 S1 ∧ (r1 = 0 → ∀ b', b' < b → S 2 b' = 1 → (∀ n, n < nN → E 5 n = nI b' → okName E S n) ∧ ∀ k, k < 2 → E 16 (96 + (2 * b' + k)) ≠ -9 → (pl ∨ goP E S b' k) → S 3 (2 * b' + k) = 1)) (fun p => 8 - p.2.2.1.toNatClampNeg) ?_ _ ⟨0, S, 0, Nat.zero_le _, rfl, ST.rf hI, fun _ b' hb' => absurd hb' (Nat.not_lt_zero _)⟩
    rintro Y p ⟨b, S1, r1, hb, rfl, hST, hok⟩ hY
    unfold F_X0_climb_74
    have eb := nI_clamp (n := b) (by omega)
    simp only [C.1.1, eb, nI_1, forall_eq]
    refine ⟨fun h => ?_, fun h => ?_⟩
    · have : nB ≤ b := (nI_leI (by omega) (by omega)).mp h
      refine hX _ ⟨i + 1, r1, S1, by omega, rfl, hST.1, hST.2.1, fun q => ?_, fun q => ?_⟩ hm
      · have := hST.2.2.2.2 q
        have := h1 hr1
        omega
      · rw [hST.2.2.2.1 q]
        refine closed_of W hI (fun n hn hl => ?_) (fun b' k hb' hk hl => (hok q b' (by omega) hl).2 k hk)
        have w := (W.2.1 n hn).1
        exact (hok q _ (by have := vi_cl w; omega) hl).1 n hn (vi_eq w (by omega))
    · have hlt2 : b < nB := by
        have := mt (nI_leI (a := nB) (b := b) (by omega) (by omega)).mpr h
        omega
      have hm2 : 8 - (nI (b + 1)).toNatClampNeg < 8 - (nI b).toNatClampNeg := by rw [nI_clamp (by omega), eb]; omega
      refine ⟨vp_in_nI (by omega) (by omega), fun hl => ?_, fun hl => ?_⟩
      · refine liftNames_st W B C hST.2.1 hlt2 hl _ (fun r2 S2 hST2 ok2 => ?_)
        refine openEdges_st W R C hpl hST2.2.1 hlt2 (hST2.2.2.1 _ hl) _ (fun r3 S3 hST3 ok3 => ?_)
        have t2 := hST.tr hST2
        have t3 := t2.tr hST3
        refine hY _ ⟨b + 1, S3, r1 ||| r2 ||| r3, hlt2, rfl, t3, fun q b' hb' hl' => ?_⟩ hm2
        obtain ⟨q12, q3⟩ := (or_B t2.1 hST3.1).2.mp q
        obtain ⟨q1, q2⟩ := (or_B hST.1 hST2.1).2.mp q12
        have s1 := hST.2.2.2.1 q1
        have s2 := hST2.2.2.2.1 q2
        by_cases hbb : b' = b
        · subst hbb
          have a := ok2 q2
          have b := ok3 q3
          rw [s1] at a
          rw [s2, s1] at b
          exact ⟨a, b⟩
        · exact hok q1 b' (by omega) hl'
      · refine hY _ ⟨b + 1, S1, r1, hlt2, rfl, hST, fun q b' hb' hl' => ?_⟩ hm2
        by_cases hbb : b' = b
        · subst hbb
          rw [hST.2.2.2.1 q] at hl
          exact absurd hl' hl
        · exact hok q b' (by omega) hl'
theorem climb_sp (W : WF E nN nB) (B : WB E nN nB) (R : WR E nB) (C : CE T U E nN nB x4) (hpl : ¬ x3 = 0 ↔ pl) (S : ZS) (Q : ZS → Prop) (hQ : ∀ S', FF E nN nB pl S' → Q S') : g_X0_climb x3 x4 S T U Q := by
  have hB8 := W.1.2.2.2
  unfold g_X0_climb
  refine fill_sp 24 (by omega) 0 _ _ (fill_sp 24 (by omega) 0 _ _ (fill_sp 8 (by omega) 0 _ _ (fill_sp 16 (by omega) 0 _ _ ?_)))
  rw [C.1.1]
  unfold G_X0_climb_49
  simp only [forall_eq]
  have c0 : (0 : Int32).toNatClampNeg = 0 := rfl
  have v0 : vp_in (0 : Int32) 8 := z_in rfl
  refine ⟨fun h => ⟨v0, climb_loop W B R C hpl Q hQ (climb_start W ?_ ?_ ?_)⟩, fun h => ⟨v0, climb_loop W B R C hpl Q hQ (climb_start W ?_ ?_ ?_)⟩⟩
  · intro n hn; simp [zst, zrp, hn]
  · intro b hb
    have hz : ¬ 0 < nB := by
      have : nB ≤ 0 := (nI_leI (a := nB) (b := 0) (by omega) (by omega)).mp h
      omega
    rw [c0]
    by_cases q : b = 0
    · simp [zst, zrp, upd, q, hz]
    · simp [zst, zrp, upd, q, hb]
  · intro e he; simp [zst, zrp, he]
  · intro n hn; simp [zst, zrp, hn]
  · intro b hb
    have hz : 0 < nB := by
      have : ¬ nB ≤ 0 := mt (nI_leI (a := nB) (b := 0) (by omega) (by omega)).mpr h
      omega
    rw [c0]
    by_cases q : b = 0
    · simp [zst, zrp, upd, q, hz]
    · simp [zst, zrp, upd, q, hb]
  · intro e he; simp [zst, zrp, he]
end FLOWC
