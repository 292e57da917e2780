section FLOWM
variable {E S : ZS} {nN nB : Nat} {pl : Prop} {xp : Int32}
theorem climbs_sp (W : WF E nN nB) (X : WX E nN) (hM : MI E nN nB pl S) (hpl : ¬ xp = 0 ↔ pl) {n : Nat} (hn : n < nN) (hl : S 42 (E 5 n).toNatClampNeg = 1) (hs : S 40 n ≠ 2) (Q : ZS → Prop) (hQ : ∀ S', CT E nN nB pl S n S' → Q S') : g_X9_climbs (nI n) xp S Q := by
  have hN24 := W.1.2.2.1
  have en := nI_clamp (n := n) (by omega)
  have hv : vp_in (nI n) 24 := vp_in_nI (by omega) (by omega)
  have f := hM.1
  have a72 : (72 : Int32) + nI n = nI (72 + n) := by rw [show (72 : Int32) = nI 72 from rfl, nI_add]
  have a24 : (24 : Int32) + nI n = nI (24 + n) := by rw [show (24 : Int32) = nI 24 from rfl, nI_add]
  have a0 : (0 : Int32) + nI n = nI n := by rw [show (0 : Int32) = nI 0 from rfl, nI_add, Nat.zero_add]
  have c72 := nI_clamp (n := 72 + n) (by omega)
  have c24 := nI_clamp (n := 24 + n) (by omega)
  have v72 : vp_in (nI (72 + n)) 112 := vp_in_nI (by omega) (by omega)
  have v24 : vp_in (nI (24 + n)) 112 := vp_in_nI (by omega) (by omega)
  have v0 : vp_in (nI n) 112 := vp_in_nI (by omega) (by omega)
  have w4 := (W.2.1 n hn).2.1
  have f16 : ∀ z : Int32, (zst S 40 n z) 16 = E 16 := fun z => (zs_ne _ _ _ (by decide)).trans (f 16 (by decide) (by decide) (by decide) (by decide))
  unfold g_X9_climbs G_X9_climbs_79
  simp only [en, hv, true_and, forall_eq, a72, a24, a0, c72, c24, v72, v24, v0, f16, f 4 (by decide) (by decide) (by decide) (by decide), f 16 (by decide) (by decide) (by decide) (by decide)]
  have slots : ∀ (z w : Int32), (zst (zst S 40 n z) 41 n w) 40 = upd (S 40) n z ∧ (zst (zst S 40 n z) 41 n w) 41 = upd (S 41) n w ∧ (zst (zst S 40 n z) 41 n w) 42 = S 42 ∧ fr4 S (zst (zst S 40 n z) 41 n w) := by
    intro z w
    refine ⟨?_, ?_, ?_, fun k h1 h2 h3 h4 => ?_⟩
    · rw [zs_ne _ _ _ (by decide), zs_kk]
    · rw [zs_kk, zs_ne _ _ _ (by decide)]
    · rw [zs_ne _ _ _ (by decide), zs_ne _ _ _ (by decide)]
    · rw [zs_ne _ _ _ h2, zs_ne _ _ _ h1]
  refine ⟨fun k0 => ?_, fun k1 => ⟨fun a => ?_, fun a => ?_⟩, fun k2 => climbsOperation_sp W X hM hn k2 hl hs Q hQ, fun k0 k1 k2 => climbsJoin_sp W hM hpl hn (((kind4 w4).resolve_left k0).resolve_left k1 |>.resolve_left k2) hl hs Q hQ⟩
  · obtain ⟨s0, s1, s2, s3⟩ := slots 1 (E 16 (72 + n))
    refine hQ _ (CT_exact W hM hn hl hs (Or.inr (Or.inl rfl)) (by decide) (fun us uv hB => hB.1 k0) ⟨fun _ => fle_rf _ _ (Or.inr (Or.inl rfl)), fun q => ?_, fun q => ?_, fun q => ?_⟩ s0 s1 s2 s3) <;> (rw [k0] at q; exact absurd q (by decide))
  · obtain ⟨s0, s1, s2, s3⟩ := slots 1 (E 16 (24 + n))
    refine hQ _ (CT_exact W hM hn hl hs (Or.inr (Or.inl rfl)) (by decide) (fun us uv hB => (hB.2.1 k1).1 a) ⟨fun q => ?_, fun _ => ⟨fun _ => fle_rf _ _ (Or.inr (Or.inl rfl)), fun q => absurd a q⟩, fun q => ?_, fun q => ?_⟩ s0 s1 s2 s3) <;> (rw [k1] at q; exact absurd q (by decide))
  · obtain ⟨s0, s1, s2, s3⟩ := slots 2 (E 16 (24 + n))
    refine hQ _ (CT_exact W hM hn hl hs (Or.inr (Or.inr rfl)) (by decide) (fun us uv hB => Or.inr (Or.inl ((hB.2.1 k1).2 a))) ⟨fun q => ?_, fun _ => ⟨fun q => absurd q a, fun _ => rfl⟩, fun q => ?_, fun q => ?_⟩ s0 s1 s2 s3) <;> (rw [k1] at q; exact absurd q (by decide))
/-- a pass, or a part of one -/
def PT (E : ZS) (nN nB : Nat) (pl : Prop) (S : ZS) (r : Int32) (S' : ZS) : Prop := isB r ∧ MI E nN nB pl S' ∧ fr4 S S' ∧ (r = 0 → XEq S S') ∧ (r = 1 → rkM S < rkM S') ∧ rkM S ≤ rkM S'
theorem PT.rf (h : MI E nN nB pl S) : PT E nN nB pl S 0 S := ⟨isB_0, h, fun _ _ _ _ _ => rfl, fun _ => ⟨rfl, rfl, rfl⟩, fun q => absurd q (by decide), Nat.le_refl _⟩
theorem XEq.rk {S S' : ZS} (h : XEq S S') : rkM S' = rkM S := by unfold rkM; rw [h.1, h.2.2]
theorem rkM_le {S : ZS} (h : (∀ n, n < 24 → r3 (S 40 n)) ∧ ∀ b, b < 8 → isB (S 42 b)) : rkM S ≤ 56 := by
  have a := fb_sm_bound (f := fun n => (S 40 n).toNatClampNeg) (c := 2) (n := 24) (fun k hk => r3_cl (h.1 k hk))
  have b := fb_sm_bound (f := fun n => (S 42 n).toNatClampNeg) (c := 1) (n := 8) (fun k hk => isB_cl (h.2 k hk))
  unfold rkM
  omega
theorem CT.rk {n : Nat} {S' : ZS} (hn : n < 24) (h : CT E nN nB pl S n S') : rkM S ≤ rkM S' ∧ ((S 40 n).toNatClampNeg < (S' 40 n).toNatClampNeg → rkM S < rkM S') := by
  obtain ⟨-, -, h1, h2, h3, -⟩ := h
  have e : rkM S' = fb_sm (fun k => if k = n then (S' 40 n).toNatClampNeg else (S 40 k).toNatClampNeg) 24 + fb_sm (fun b => (S 42 b).toNatClampNeg) 8 := by
    unfold rkM
    rw [h3]
    congr 1
    apply fb_sm_cong
    intro k _
    by_cases q : k = n
    · rw [if_pos q, q]
    · rw [if_neg q, h2 k q]
  have := fb_sm_upd (fun k => (S 40 k).toNatClampNeg) (S' 40 n).toNatClampNeg (i := n) (n := 24) hn
  rw [e]
  unfold rkM
  constructor <;> intros <;> omega
theorem fBd_XEq {S S' : ZS} (h : XEq S S') {n : Nat} {us uv : Int32} : fBd E pl (S' 40) (S' 41) (mlv S') n us uv ↔ fBd E pl (S 40) (S 41) (mlv S) n us uv := by
  have el : mlv S' = mlv S := by unfold mlv; rw [h.2.2]
  rw [h.1, h.2.1, el]
theorem fWay_XEq {S S' : ZS} (h : XEq S S') {b : Nat} {t : Int32} : fWay E pl (S' 40) (S' 41) (mlv S') b t ↔ fWay E pl (S 40) (S 41) (mlv S) b t := by
  have el : mlv S' = mlv S := by unfold mlv; rw [h.2.2]
  rw [h.1, h.2.1, el]
theorem XEq.tr {S S1 S2 : ZS} (h : XEq S S1) (h' : XEq S1 S2) : XEq S S2 := ⟨h'.1.trans h.1, h'.2.1.trans h.2.1, h'.2.2.trans h.2.2⟩
/-- the blocks' part of a pass -/
theorem finds_blocks (W : WF E nN nB) (hpl : ¬ xp = 0 ↔ pl) (Q : ZS → Prop) (X59 : Int32 × ZS → Prop) {S1 : ZS} {r1 : Int32} (hP : PT E nN nB pl S r1 S1) (hX : ∀ r S', PT E nN nB pl S r S' → (r = 0 → r1 = 0 ∧ ∀ b t, b < nB → t < nB → fWay E pl (S 40) (S 41) (mlv S) b (nI t) → mlv S t) → X59 (r, S')) : ∃ n, fx (F_X9_finds_138 xp Q X59) n (r1, 0, S1) := by
  have hB8 := W.1.2.2.2
  refine fx_all (fun p => ∃ b r S2, b ≤ nB ∧ p = (r, nI b, S2) ∧ PT E nN nB pl S r S2 ∧ (r = 0 → r1 = 0 ∧ ∀ b' t, b' < b → t < nB → fWay E pl (S 40) (S 41) (mlv S) b' (nI t) → mlv S t)) (fun p => 8 - p.2.1.toNatClampNeg) ?_ _ ⟨0, r1, S1, Nat.zero_le _, rfl, hP, fun q => ⟨q, fun b' t hb' => absurd hb' (Nat.not_lt_zero _)⟩⟩
  rintro Y p ⟨b, r, S2, hb, rfl, hP2, hk2⟩ hY
  have f := hP2.2.1.1
  have eb := nI_clamp (n := b) (by omega)
  unfold F_X9_finds_138
  simp only [f 3 (by decide) (by decide) (by decide) (by decide), W.1.2.1]
  refine ⟨fun h => ?_, fun h => ?_⟩
  · have : nB ≤ b := (nI_leI (by omega) (by omega)).mp h
    exact hX r S2 hP2 (fun q => ⟨(hk2 q).1, fun b' t hb' => (hk2 q).2 b' t (by omega)⟩)
  · have hlt : b < nB := by
      have := mt (nI_leI (a := nB) (b := b) (by omega) (by omega)).mpr h
      omega
    have hm : 8 - (nI (b + 1)).toNatClampNeg < 8 - (nI b).toNatClampNeg := by rw [nI_clamp (by omega), eb]; omega
    refine fx_all (fun p => ∃ t r S3, t ≤ nB ∧ p = (r, nI b, nI t, S3) ∧ PT E nN nB pl S r S3 ∧ (r = 0 → (r1 = 0 ∧ ∀ b' t, b' < b → t < nB → fWay E pl (S 40) (S 41) (mlv S) b' (nI t) → mlv S t) ∧ ∀ t', t' < t → fWay E pl (S 40) (S 41) (mlv S) b (nI t') → mlv S t')) (fun p => 8 - p.2.2.1.toNatClampNeg) ?_ _ ⟨0, r, S2, Nat.zero_le _, rfl, hP2, fun q => ⟨hk2 q, fun t' ht' => absurd ht' (Nat.not_lt_zero _)⟩⟩
    rintro Z p ⟨t, r', S3, ht, rfl, hP3, hk3⟩ hZ
    have f := hP3.2.1.1
    have et := nI_clamp (n := t) (by omega)
    unfold F_X9_finds_149
    simp only [f 3 (by decide) (by decide) (by decide) (by decide), W.1.2.1, et, nI_1, forall_eq]
    refine ⟨fun h => ?_, fun h => ?_⟩
    · have : nB ≤ t := (nI_leI (by omega) (by omega)).mp h
      refine hY _ ⟨b + 1, r', S3, hlt, rfl, hP3, fun q => ⟨(hk3 q).1.1, fun b' t' hb' ht' => ?_⟩⟩ hm
      by_cases hbb : b' = b
      · subst hbb; exact (hk3 q).2 t' (by omega)
      · exact (hk3 q).1.2 b' t' (by omega) ht'
    · have hlt2 : t < nB := by
        have := mt (nI_leI (a := nB) (b := t) (by omega) (by omega)).mpr h
        omega
      have hm2 : 8 - (nI (t + 1)).toNatClampNeg < 8 - (nI t).toNatClampNeg := by rw [nI_clamp (by omega), et]; omega
      have hvt : vp_in (nI t) 8 := vp_in_nI (by omega) (by omega)
      have skip : (¬ S3 42 t = 0 ∨ ¬ fWay E pl (S3 40) (S3 41) (mlv S3) b (nI t)) → Z (r', nI b, nI (t + 1), S3) := by
        intro hno
        refine hZ _ ⟨t + 1, r', S3, hlt2, rfl, hP3, fun q => ⟨(hk3 q).1, fun t' ht' hw => ?_⟩⟩ hm2
        by_cases htt : t' = t
        · subst htt
          have hx := hP3.2.2.2.1 q
          rcases hno with z | z
          · have := (hP3.2.1.2.1.2 t' (by omega)).resolve_left z
            rw [hx.2.2] at this
            exact this
          · exact absurd ((fWay_XEq hx).mpr hw) z
        · exact (hk3 q).2 t' (by omega) hw
      refine ⟨hvt, fun a => ?_, fun a => skip (Or.inl a)⟩
      refine isWay_sp W hP3.2.1 hpl hlt (nI t) _ (fun hw => ⟨fun z => absurd z (by decide), fun _ => ⟨hvt, ?_⟩⟩) (fun hw => ⟨fun _ => skip (Or.inr hw), fun z => (z (by trivial)).elim⟩)
      have n1 : vp_nar .boolean 1 = 1 := rfl
      rw [n1]
      -- a block comes alive
      generalize hS' : zst S3 42 t 1 = S'
      have s0 : S' 40 = S3 40 := by rw [← hS', zs_ne _ _ _ (by decide)]
      have s1 : S' 41 = S3 41 := by rw [← hS', zs_ne _ _ _ (by decide)]
      have s2 : S' 42 = upd (S3 42) t 1 := by rw [← hS', zs_kk]
      have sf : fr4 S3 S' := fun k _ _ h3 _ => by rw [← hS', zs_ne _ _ _ h3]
      obtain ⟨m0, ⟨m1, m2⟩, m3, m4, m5⟩ := hP3.2.1
      have up1 : ∀ x, S3 42 x = 1 → upd (S3 42) t 1 x = 1 := fun x hx => by
        unfold upd
        by_cases q : x = t
        · rw [if_pos q]
        · rw [if_neg q]; exact hx
      have hle : fLe nN nB (S3 40) (S3 41) (mlv S3) (S' 40) (S' 41) (mlv S') := by
        refine ⟨fun m hm => by rw [s0, s1]; exact fle_rf _ _ (m1 m (by have := W.1.2.2.1; omega)), fun x _ hx => ?_⟩
        show S' 42 x = 1
        rw [s2]; exact up1 x hx
      have hM' : MI E nN nB pl S' := by
        refine ⟨m0.tr sf, ⟨by rw [s0]; exact m1, fun x hx => ?_⟩, fun s' v' lv' hc => ?_, fun m us uv hm hB => ?_, fun hp => ?_⟩
        · rw [s2]; unfold upd
          by_cases q : x = t
          · rw [if_pos q]; exact isB_1
          · rw [if_neg q]; exact m2 x hx
        · have g := m3 s' v' lv' hc
          rw [s0, s1]
          refine ⟨g.1, fun x hx hlx => ?_⟩
          have hlx : S' 42 x = 1 := hlx
          rw [s2] at hlx
          by_cases q : x = t
          · subst q
            exact hc.2.1 b x hlt hx (fWay_mono W g hlt hw)
          · rw [pk_un q] at hlx; exact g.2 x hx hlx
        · rw [s0, s1]
          exact m4 m us uv hm (fBd_anti W hle hm hB)
        · rw [s2]; exact up1 0 (m5 hp)
      have hrk : rkM S3 < rkM S' := by
        have e : rkM S' = fb_sm (fun n => (S3 40 n).toNatClampNeg) 24 + fb_sm (fun k => if k = t then 1 else (S3 42 k).toNatClampNeg) 8 := by
          unfold rkM
          rw [s0, s2]
          congr 1
          apply fb_sm_cong
          intro k _
          unfold upd
          by_cases q : k = t
          · simp only [q, if_true]; rfl
          · simp [q]
        have := fb_sm_upd (fun k => (S3 42 k).toNatClampNeg) 1 (i := t) (n := 8) (by omega)
        simp only [a] at this
        have z : (0 : Int32).toNatClampNeg = 0 := rfl
        rw [z] at this
        rw [e]
        unfold rkM
        omega
      have := hP3.2.2.2.2.2
      exact hZ _ ⟨t + 1, 1, S', hlt2, rfl, ⟨isB_1, hM', hP3.2.2.1.tr sf, fun q => absurd q (by decide), fun _ => by omega, by omega⟩, fun q => absurd q (by decide)⟩ hm2
end FLOWM
