/-- inputs as they are now -/
def CG (U E : ZS) (nN : Nat) : Prop := ∀ n, n < nN → E 4 n = 1 → U 2 n = E 16 (48 + n) ∧ (E 16 n = 1 ↔ U 0 n = 1) ∧ (E 16 n = 1 → E 16 (24 + n) = U 1 n)
def WK (E : ZS) (nB : Nat) (S : ZS) : Prop := nB = 0 ∨ (S 0 0 = (ruF E 60 (-9) 0 (fun _ => 0) (fun _ => 0)).1 ∧ S 1 0 = (ruF E 60 (-9) 0 (fun _ => 0) (fun _ => 0)).2.1 ∧ HV S (ruF E 60 (-9) 0 (fun _ => 0) (fun _ => 0)).2.2.1 (ruF E 60 (-9) 0 (fun _ => 0) (fun _ => 0)).2.2.2)
section RUNC
variable {E T U : ZS} {nN nB : Nat} {x4 : Int32}
theorem HV.up {S : ZS} {v w : ZR} (h : HV S v w) (n : Nat) (x : Int32) : HV (zst S 2 n x) (upd v n x) w := by
  refine ⟨fun m hm => ?_, fun b hb => by rw [zs_ne _ _ _ (by decide)]; exact h.2 b hb⟩
  rw [zs_kk]
  unfold upd
  by_cases q : m = n
  · rw [if_pos q, if_pos q]
  · rw [if_neg q, if_neg q]; exact h.1 m hm
theorem makeNames_sp (W : WF E nN nB) (B : WB E nN nB) (C : CE T U E nN nB x4) (CGv : CG U E nN) {b : Nat} (hb : b < nB) {S : ZS} {v w : ZR} (hV : HV S v w) (Q : Int32 → ZS → Prop) (hQ : ∀ S', HV S' (mkF E ((E 12 (b + 1)).toNatClampNeg - (E 12 b).toNatClampNeg) (E 12 b).toNatClampNeg v).2 w → S' 0 = S 0 → S' 1 = S 1 → Q (mkF E ((E 12 (b + 1)).toNatClampNeg - (E 12 b).toNatClampNeg) (E 12 b).toNatClampNeg v).1 S') : g_X7_makeNames (nI b) S T U Q := by
  have hN24 := W.1.2.2.1
  have hB8 := W.1.2.2.2
  have eb := nI_clamp (n := b) (by omega)
  have hvb : vp_in (nI b) 8 := vp_in_nI (by omega) (by omega)
  obtain ⟨-, -, c11, c12⟩ := C.2.2.1 b hb
  obtain ⟨b1, -, -, b4, b5, b6⟩ := B
  have h1 := b4 b hb
  have h2 := b5 (b + 1) hb
  have e12 : E 12 b = nI (E 12 b).toNatClampNeg := vi_eq (b1 b (by omega)) (by omega)
  generalize hf : (E 12 b).toNatClampNeg = f at *
  generalize hg : (E 12 (b + 1)).toNatClampNeg = g at *
  generalize hR : mkF E (g - f) f v = R at *
  unfold g_X7_makeNames
  refine ⟨hvb, ?_⟩
  rw [forall_eq, eb, c11, e12]
  refine fx_all (fun p => ∃ n S1 v1, f ≤ n ∧ n ≤ g ∧ p = (nI n, S1) ∧ HV S1 v1 w ∧ S1 0 = S 0 ∧ S1 1 = S 1 ∧ mkF E (g - n) n v1 = R) (fun p => 24 - p.1.toNatClampNeg) ?_ _ ⟨f, S, v, Nat.le_refl _, h1, rfl, hV, rfl, rfl, hR⟩
  rintro X p ⟨n, S1, v1, hn1, hn2, rfl, hV1, f0, f1, hR1⟩ hX
  have en := nI_clamp (n := n) (by omega)
  have cg : nI f + nI (g - f) = nI g := by rw [nI_add]; congr 1; omega
  unfold F_X7_makeNames_8
  simp only [eb, hvb, en, true_and, forall_eq, c11, c12, e12, cg, nI_1]
  refine ⟨fun h => ?_, fun h => ?_⟩
  · have : g ≤ n := (nI_leI (by omega) (by omega)).mp h
    rw [show g - n = 0 by omega] at hR1
    have e1 : R.1 = -9 := by rw [← hR1]; rfl
    have e2 : R.2 = v1 := by rw [← hR1]; rfl
    have := hQ S1 (by rw [e2]; exact hV1) f0 f1
    rw [e1] at this
    exact this
  · have hlt : n < g := by
      have := mt (nI_leI (a := g) (b := n) (by omega) (by omega)).mpr h
      omega
    have hnN : n < nN := by omega
    have hvn : vp_in (nI n) 24 := vp_in_nI (by omega) (by omega)
    have hm : 24 - (nI (n + 1)).toNatClampNeg < 24 - (nI n).toNatClampNeg := by rw [nI_clamp (by omega), en]; omega
    obtain ⟨-, c3, c2, -, -, cn, -⟩ := C.2.1 n hnN
    rw [show g - n = (g - (n + 1)) + 1 by omega] at hR1
    unfold mkF at hR1
    rw [c3]
    have put : ∀ x : Int32, mkF E (g - (n + 1)) (n + 1) (upd v1 n x) = R → X (nI (n + 1), zst S1 2 n x) := fun x hx => hX _ ⟨n + 1, _, upd v1 n x, by omega, hlt, rfl, hV1.up n x, by rw [zs_ne _ _ _ (by decide)]; exact f0, by rw [zs_ne _ _ _ (by decide)]; exact f1, hx⟩ hm
    refine ⟨hvn, fun k0 => ⟨hvn, hvn, put _ ?_⟩, fun k0 => ⟨hvn, fun k1 => ?_, fun k1 => ⟨hvn, fun k2 => ?_, fun k2 => ?_⟩⟩⟩
    · rw [if_neg (by rw [k0]; decide), if_pos k0] at hR1
      rw [cn k0]; exact hR1
    · obtain ⟨g1, g2, g3⟩ := CGv n hnN k1
      refine inputOf_sp (by omega) U _ ⟨hvn, put _ ?_⟩
      rw [if_neg (by rw [k1]; decide), if_neg k0, if_pos k1] at hR1
      by_cases q : U 0 n = 1
      · rw [if_pos q, ← g3 (g2.mpr q)]
        rw [if_pos (g2.mpr q)] at hR1
        exact hR1
      · rw [if_neg q, g1]
        rw [if_neg (fun z => q (g2.mp z))] at hR1
        exact hR1
    · obtain ⟨c5, c6, c7⟩ := c2 k2
      obtain ⟨w1, w2⟩ := (W.2.1 n hnN).2.2.1 k2
      rw [c5, c6, c7]
      have u1 := hV1.1 _ (show (E 7 n).toNatClampNeg < 24 by have := vi_cl w1; omega)
      have u2 := hV1.1 _ (show (E 8 n).toNatClampNeg < 24 by have := vi_cl w2; omega)
      rw [u1, u2]
      rw [if_pos k2] at hR1
      refine ⟨hvn, vi_mono w1 hN24, hvn, vi_mono w2 hN24, hvn, traps_sp _ _ _ (fun t => ⟨fun z => absurd z (by decide), fun _ => ?_⟩) (fun t => ⟨fun _ => ⟨hvn, result_sp _ _ _ _ ⟨hvn, put _ ?_⟩⟩, fun z => (z (by trivial)).elim⟩)⟩
      · unfold opt at t
        rw [if_pos t] at hR1
        have e1 : R.1 = nI n := by rw [← hR1]
        have e2 : R.2 = v1 := by rw [← hR1]
        have := hQ S1 (by rw [e2]; exact hV1) f0 f1
        rw [e1] at this
        exact this
      · unfold opt at t
        rw [if_neg t] at hR1
        exact hR1
    · rw [if_neg k2, if_neg k0, if_neg k1] at hR1
      exact hX _ ⟨n + 1, S1, v1, by omega, hlt, rfl, hV1, f0, f1, hR1⟩ hm
theorem mkF_no {E : ZS} : ∀ (c n : Nat) (v : ZR), n + c ≤ 24 → (mkF E c n v).1 = -9 ∨ ∃ m, m < 24 ∧ (mkF E c n v).1 = nI m
  | 0, n, v, _ => Or.inl rfl
  | c + 1, n, v, h => by
    unfold mkF
    split
    · split
      · exact Or.inr ⟨n, by omega, rfl⟩
      · exact mkF_no c (n + 1) _ (by omega)
    · split
      · exact mkF_no c (n + 1) _ (by omega)
      · split
        · exact mkF_no c (n + 1) _ (by omega)
        · exact mkF_no c (n + 1) _ (by omega)
/-- where a block goes: a block -/
theorem nxF_ok (W : WF E nN nB) (V : WE E nB) {b : Nat} (hb : b < nB) (h2 : ¬ E 13 b = 2) (v : ZR) : nxF E b v < nB ∧ ∃ k, k < 2 ∧ k = (if E 13 b = 1 ∧ v (E 14 b).toNatClampNeg = 0 then 1 else 0) ∧ E 16 (96 + (2 * b + k)) = nI (nxF E b v) := by
  unfold nxF
  have hB8 := W.1.2.2.2
  have key : ∀ k, k < 2 → E 16 (96 + (2 * b + k)) ≠ -9 → (E 16 (96 + (2 * b + k))).toNatClampNeg < nB ∧ E 16 (96 + (2 * b + k)) = nI (E 16 (96 + (2 * b + k))).toNatClampNeg := by
    intro k hk hw
    have w := (W.2.2.2 (2 * b + k) (by omega)).resolve_left hw
    exact ⟨vi_cl w, vi_eq w (by omega)⟩
  by_cases c : E 13 b = 1 ∧ v (E 14 b).toNatClampNeg = 0
  · rw [if_pos c]
    have := key 1 (by omega) ((V b hb).2 c.1).2
    exact ⟨this.1, 1, by omega, rfl, this.2⟩
  · rw [if_neg c]
    have hw : E 16 (96 + (2 * b + 0)) ≠ -9 := by
      rcases kind3 (W.2.2.1 b hb).1 with q | q | q
      · exact (V b hb).1 q
      · exact ((V b hb).2 q).1
      · exact absurd q h2
    have := key 0 (by omega) hw
    exact ⟨this.1, 0, by omega, rfl, this.2⟩
theorem AJ_next (J : WJ E nN nB) {b k t : Nat} (hb : b < nB) (hk : k < 2) (h : E 16 (96 + (2 * b + k)) = nI t) : AJ E nN t (nI b) := fun n hn h3 h5 => J.2.1 n b k hn hb hk h3 (h.trans h5.symm)
theorem AJ_first (J : WJ E nN nB) (fr : Int32) : AJ E nN 0 fr := fun n hn h3 h5 => absurd h5 (J.1 n hn h3)
theorem start_sp (W : WF E nN nB) (B : WB E nN nB) (V : WE E nB) (J : WJ E nN nB) (C : CE T U E nN nB x4) (CGv : CG U E nN) (S : ZS) (Q : ZS → Prop) (hQ : ∀ S', WK E nB S' → Q S') : g_X7_start S T U Q := by
  have hN24 := W.1.2.2.1
  have hB8 := W.1.2.2.2
  unfold g_X7_start
  rw [forall_eq, forall_eq]
  refine fill_sp 24 (by omega) 0 _ _ (fill_sp 8 (by omega) 0 _ _ ?_)
  generalize hS0 : (zrp (zrp (zst (zst S 0 0 2) 1 0 0) 2 (fun j => if j < 24 then (0 : Int32) else (zst (zst S 0 0 2) 1 0 0) 2 j)) 4 (fun j => if j < 8 then (0 : Int32) else (zrp (zst (zst S 0 0 2) 1 0 0) 2 (fun j => if j < 24 then (0 : Int32) else (zst (zst S 0 0 2) 1 0 0) 2 j)) 4 j)) = S0
  have i0 : S0 0 0 = 2 := by rw [← hS0]; simp [zst, zrp, upd]
  have i1 : S0 1 0 = 0 := by rw [← hS0]; simp [zst, zrp, upd]
  have i2 : HV S0 (fun _ => 0) (fun _ => 0) := by
    refine ⟨fun n hn => ?_, fun b hb => ?_⟩
    · rw [← hS0]; simp [zrp, hn]
    · rw [← hS0]; simp [zrp, hb]
  generalize hR : ruF E 60 (-9) 0 (fun _ => 0) (fun _ => 0) = R
  have hQ' : ∀ S', S' 0 0 = R.1 → S' 1 0 = R.2.1 → HV S' R.2.2.1 R.2.2.2 → Q S' := fun S' a b c => hQ S' (Or.inr ⟨by rw [hR]; exact a, by rw [hR]; exact b, by rw [hR]; exact c⟩)
  refine fx_all (fun p => ∃ fr b i S1 v w, i ≤ 60 ∧ p = (fr, nI b, nI i, S1) ∧ b < 8 ∧ (nB = 0 ∨ b < nB ∧ S1 0 0 = 2 ∧ S1 1 0 = 0 ∧ HV S1 v w ∧ AJ E nN b fr ∧ ruF E (60 - i) fr b v w = R)) (fun p => 60 - p.2.2.1.toNatClampNeg) ?_ _ ⟨-9, 0, 0, S0, fun _ => 0, fun _ => 0, Nat.zero_le _, rfl, by omega, ?_⟩
  · rintro X p ⟨fr, b, i, S1, v, w, hi, rfl, hb8, hd⟩ hX
    have eb := nI_clamp (n := b) (by omega)
    have ei := nI_clamp (n := i) (by omega)
    unfold F_X7_start_35
    simp only [eb, forall_eq, nI_1]
    refine ⟨fun h => ?_, fun h => ?_⟩
    · rcases hd with q | ⟨hb, s0, s1, hV, hA, hR1⟩
      · exact hQ S1 (Or.inl q)
      · have : 60 ≤ i := (nI_leI (a := 60) (b := i) (by omega) (by omega)).mp h
        rw [show 60 - i = 0 by omega] at hR1
        unfold ruF at hR1
        refine hQ' S1 ?_ ?_ ?_ <;> rw [← hR1]
        · exact s0
        · exact s1
        · exact hV
    · have hlt : i < 60 := by
        have := mt (nI_leI (a := 60) (b := i) (by omega) (by omega)).mpr h
        omega
      unfold g_X4_hasBlock
      rw [C.1.1]
      refine ⟨fun z => absurd z (nI_pos (by omega)), fun _ => ⟨fun z => ⟨fun _ => ?_, fun y => (y rfl).elim⟩, fun z => ⟨fun y => absurd y (by decide), fun _ => ?_⟩⟩⟩
      · rcases hd with q | ⟨hb, -⟩
        · exact hQ S1 (Or.inl q)
        · have : nB ≤ b := (nI_leI (by omega) (by omega)).mp z
          omega
      · have hbB : b < nB := by
          have := mt (nI_leI (a := nB) (b := b) (by omega) (by omega)).mpr z
          omega
        obtain ⟨-, s0, s1, hV, hA, hR1⟩ := hd.resolve_left (by omega)
        have hv8 : vp_in (nI b) 8 := vp_in_nI (by omega) (by omega)
        have hm : 60 - (nI (i + 1)).toNatClampNeg < 60 - (nI i).toNatClampNeg := by rw [nI_clamp (by omega), ei]; omega
        rw [show 60 - i = (60 - (i + 1)) + 1 by omega] at hR1
        unfold ruF at hR1
        obtain ⟨c13, c14, -, -⟩ := C.2.2.1 b hbB
        rw [hV.2 b hb8]
        have hV1 : HV (zst S1 4 b (w b + 1)) v (upd w b (w b + 1)) := by
          refine ⟨fun n hn => by rw [zs_ne _ _ _ (by decide)]; exact hV.1 n hn, fun b' hb' => ?_⟩
          rw [zs_kk]
          unfold upd
          by_cases q : b' = b
          · rw [if_pos q, if_pos q]
          · rw [if_neg q, if_neg q]; exact hV.2 b' hb'
        refine ⟨hv8, hv8, takeJoins_sp W B C hbB hA hV1 _ (fun S2 hV2 g0 g1 => ?_)⟩
        refine makeNames_sp W B C CGv hbB hV2 _ (fun S3 hV3 k0 k1 => ?_)
        have t0 : S3 0 0 = 2 := by rw [k0, g0, zs_ne _ _ _ (by decide)]; exact s0
        have t1 : S3 1 0 = 0 := by rw [k1, g1, zs_ne _ _ _ (by decide)]; exact s1
        generalize hmk : mkF E ((E 12 (b + 1)).toNatClampNeg - (E 12 b).toNatClampNeg) (E 12 b).toNatClampNeg (tkF E b fr v) = mk at *
        refine ⟨fun y => ⟨hv8, ?_, ?_⟩, fun y => ?_⟩
        · rw [c13]
          intro h2
          rw [if_pos y, if_pos h2] at hR1
          have hne : E 13 b ≠ 0 := by rw [h2]; decide
          have wn := (W.2.2.1 b hbB).2 hne
          rw [c14 hne]
          refine ⟨hv8, vi_mono wn hN24, hQ' _ ?_ ?_ ?_⟩ <;> rw [← hR1]
          · rw [zs_ne _ _ _ (by decide), zs_at]
          · rw [zs_at, zs_ne _ _ _ (by decide)]
            exact hV3.1 _ (by have := vi_cl wn; omega)
          · refine ⟨fun n hn => ?_, fun b' hb' => ?_⟩
            · rw [zs_ne _ _ _ (by decide), zs_ne _ _ _ (by decide)]; exact hV3.1 n hn
            · rw [zs_ne _ _ _ (by decide), zs_ne _ _ _ (by decide)]; exact hV3.2 b' hb'
        · rw [c13]
          intro h2
          rw [if_pos y, if_neg h2] at hR1
          obtain ⟨hnx, k, hk, hkd, hkw⟩ := nxF_ok W V hbB h2 mk.2
          have hgo : X (nI b, nI (nxF E b mk.2), nI (i + 1), S3) := hX _ ⟨nI b, nxF E b mk.2, i + 1, S3, mk.2, upd w b (w b + 1), by omega, rfl, by omega, Or.inr ⟨hnx, t0, t1, hV3, AJ_next J hbB hk hkw, hR1⟩⟩ hm
          have nx28 : ∀ x : Int32, x = nI k → G_X7_next_28 (nI b) S3 T U (fun r_10 => X (nI b, r_10, nI (i + 1), S3)) x := by
            intro x hx
            unfold G_X7_next_28
            have e1 : 2 * nI b + x = nI (2 * b + k) := by rw [hx, two_nI, nI_add]
            rw [e1, nI_clamp (by omega), C.2.2.2 _ (by omega), hkw]
            exact ⟨vp_in_nI (by omega) (by omega), hgo⟩
          unfold g_X7_next g_X5_side
          rw [eb, c13]
          refine ⟨hv8, fun h1 => ?_, fun h1 => nx28 0 ?_⟩
          · have hne : E 13 b ≠ 0 := by rw [h1]; decide
            have wn := (W.2.2.1 b hbB).2 hne
            rw [c14 hne, hV3.1 _ (show (E 14 b).toNatClampNeg < 24 by have := vi_cl wn; omega)]
            refine ⟨hv8, vi_mono wn hN24, fun y => nx28 1 ?_, fun y => nx28 0 ?_⟩
            · rw [hkd, if_pos ⟨h1, y⟩]; rfl
            · rw [hkd, if_neg (fun q => y q.2)]; rfl
          · rw [hkd, if_neg (fun q => h1 q.1)]; rfl
        · rw [if_neg y] at hR1
          refine hQ' _ ?_ ?_ ?_ <;> rw [← hR1]
          · rw [zs_ne _ _ _ (by decide), zs_at]
          · rw [zs_at]
          · refine ⟨fun n hn => ?_, fun b' hb' => ?_⟩
            · rw [zs_ne _ _ _ (by decide), zs_ne _ _ _ (by decide)]; exact hV3.1 n hn
            · rw [zs_ne _ _ _ (by decide), zs_ne _ _ _ (by decide)]; exact hV3.2 b' hb'
  · rcases Nat.eq_zero_or_pos nB with q | q
    · exact Or.inl q
    · exact Or.inr ⟨q, i0, i1, i2, AJ_first J _, hR⟩
end RUNC
