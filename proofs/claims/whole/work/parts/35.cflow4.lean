section FLOWC
variable {E T U : ZS} {nN nB : Nat} {pl : Prop} {S : ZS} {x3 x4 : Int32}
theorem rk_open {S : ZS} {e t : Nat} (he : e < 16) (h : S 3 e = 0) : rk S < rk (zst (zst S 3 e 1) 2 t 1) := by
  have q : rk (zst (zst S 3 e 1) 2 t 1) = fb_sm (fun n => (S 0 n).toNatClampNeg) 24 + fb_sm (fun k => if k = e then 1 else (S 3 k).toNatClampNeg) 16 := by
    unfold rk
    rw [zs_ne (k' := 0) _ _ _ (by decide), zs_ne (k' := 0) _ _ _ (by decide), zs_ne (k' := 3) _ _ _ (by decide), zs_kk]
    congr 1
    apply fb_sm_cong
    intro k _
    unfold upd
    by_cases q : k = e
    · simp only [q, if_true]; rfl
    · simp [q]
  have := fb_sm_upd (fun k => (S 3 k).toNatClampNeg) 1 (i := e) (n := 16) he
  simp only [h] at this
  have z : (0 : Int32).toNatClampNeg = 0 := rfl
  rw [z] at this
  rw [q]
  unfold rk
  omega
/-- an edge opens -/
theorem open_st (W : WF E nN nB) (R : WR E nB) (hI : II E nN nB pl S) {b k : Nat} (hb : b < nB) (hk : k < 2) (hl : S 2 b = 1) (hw : E 16 (96 + (2 * b + k)) ≠ -9) (hno : ¬ S 3 (2 * b + k) = 1) (h : pl ∨ goP E S b k) : ST E nN nB pl S 1 (zst (zst S 3 (2 * b + k) 1) 2 (E 16 (96 + (2 * b + k))).toNatClampNeg 1) := by
  have hB8 := W.1.2.2.2
  have wv := (W.2.2.2 (2 * b + k) (by omega)).resolve_left hw
  have et : E 16 (96 + (2 * b + k)) = nI (E 16 (96 + (2 * b + k))).toNatClampNeg := vi_eq wv (by omega)
  have ht := vi_cl wv
  generalize (E 16 (96 + (2 * b + k))).toNatClampNeg = t at *
  obtain ⟨hC, hL, hV⟩ := hI
  have h0 : S 3 (2 * b + k) = 0 := (hC.2.1 _ (by omega)).resolve_right hno
  have e0 : (zst (zst S 3 (2 * b + k) 1) 2 t 1) 0 = S 0 := by rw [zs_ne _ _ _ (by decide), zs_ne _ _ _ (by decide)]
  have e1 : (zst (zst S 3 (2 * b + k) 1) 2 t 1) 1 = S 1 := by rw [zs_ne _ _ _ (by decide), zs_ne _ _ _ (by decide)]
  have e2 : (zst (zst S 3 (2 * b + k) 1) 2 t 1) 2 = upd (S 2) t 1 := by rw [zs_kk, zs_ne _ _ _ (by decide)]
  have e3 : (zst (zst S 3 (2 * b + k) 1) 2 t 1) 3 = upd (S 3) (2 * b + k) 1 := by rw [zs_ne _ _ _ (by decide), zs_kk]
  have up1 : ∀ x, S 2 x = 1 → upd (S 2) t 1 x = 1 := fun x hx => by
    unfold upd
    by_cases q : x = t
    · rw [if_pos q]
    · rw [if_neg q]; exact hx
  refine ⟨isB_1, ⟨⟨?_, fun e he => ?_, fun x hx => ?_⟩, fun s' v' lv' hc => ?_, fun hp => ?_, fun b' k' hb' hk' ho => ?_, fun e he he2 => ?_⟩, fun x hx => by rw [e2]; exact up1 x hx, fun q => absurd q (by decide), fun _ => rk_open (by omega) h0⟩
  · rw [e0]; exact hC.1
  · rw [e3]; unfold upd
    by_cases q : e = 2 * b + k
    · rw [if_pos q]; exact isB_1
    · rw [if_neg q]; exact hC.2.1 e he
  · rw [e2]; unfold upd
    by_cases q : x = t
    · rw [if_pos q]; exact isB_1
    · rw [if_neg q]; exact hC.2.2 x hx
  · obtain ⟨g1, g2⟩ := hL s' v' lv' hc
    have hY : fEdge E pl s' v' lv' b k := fEdge_mono W g1 hb (edge_of_go W R hb hk hl hw h)
    rw [e0, e1, e2, e3]
    refine ⟨⟨g1.1, fun x hx hlx => ?_⟩, fun b' k' hb' hk' ho => ?_⟩
    · have hlx : upd (S 2) t 1 x = 1 := hlx
      unfold upd at hlx
      by_cases q : x = t
      · subst q
        exact hc.2.1 b x hb hx ⟨k, hk, et, hY⟩
      · rw [if_neg q] at hlx; exact g1.2 x hx hlx
    · unfold upd at ho
      by_cases q : 2 * b' + k' = 2 * b + k
      · have : b' = b := by omega
        have : k' = k := by omega
        subst b'; subst k'
        exact hY
      · rw [if_neg q] at ho; exact g2 b' k' hb' hk' ho
  · rw [e2]; exact up1 0 (hV.1 hp)
  · rw [e3] at ho
    rw [e2]
    unfold upd at ho
    by_cases q : 2 * b' + k' = 2 * b + k
    · rw [q, et, nI_clamp (by omega)]
      refine ⟨by rw [← et]; exact hw, ?_⟩
      unfold upd
      rw [if_pos rfl]
    · rw [if_neg q] at ho
      exact ⟨(hV.2.1 b' k' hb' hk' ho).1, up1 _ (hV.2.1 b' k' hb' hk' ho).2⟩
  · rw [e3]; unfold upd
    rw [if_neg (by omega)]; exact hV.2.2 e he he2
theorem openEdges_st (W : WF E nN nB) (R : WR E nB) (C : CE T U E nN nB x4) (hpl : ¬ x3 = 0 ↔ pl) (hI : II E nN nB pl S) {b : Nat} (hb : b < nB) (hl : S 2 b = 1) (Q : Int32 → ZS → Prop) (hQ : ∀ r S', ST E nN nB pl S r S' → (r = 0 → ∀ k, k < 2 → E 16 (96 + (2 * b + k)) ≠ -9 → (pl ∨ goP E S b k) → S 3 (2 * b + k) = 1) → Q r S') : g_X0_openEdges (nI b) x3 S T U Q := by
  have hB8 := W.1.2.2.2
  have eb := nI_clamp (n := b) (by omega)
  unfold g_X0_openEdges
  refine fx_all (fun p => ∃ k S1 r, k ≤ 2 ∧ p = (r, nI k, S1) ∧ ST E nN nB pl S r S1 ∧ (r = 0 → ∀ k', k' < k → E 16 (96 + (2 * b + k')) ≠ -9 → (pl ∨ goP E S b k') → S 3 (2 * b + k') = 1)) (fun p => 2 - p.2.1.toNatClampNeg) ?_ _ ⟨0, S, 0, Nat.zero_le _, rfl, ST.rf hI, fun _ k' hk' => absurd hk' (Nat.not_lt_zero _)⟩
  rintro X p ⟨k, S1, r, hk, rfl, hST, hok⟩ hX
  unfold F_X0_openEdges_6 G_X0_openEdges_62
  have ek := nI_clamp (n := k) (by omega)
  simp only []
  refine ⟨fun h => ?_, fun h => ?_⟩
  · have : 2 ≤ k := (nI_leI (a := 2) (b := k) (by omega) (by omega)).mp h
    exact ⟨hST.1, hQ r S1 hST (fun z k' hk' => hok z k' (by omega))⟩
  · have hlt : k < 2 := by
      have := mt (nI_leI (a := 2) (b := k) (by omega) (by omega)).mpr h
      omega
    have ee : 2 * nI b + nI k = nI (2 * b + k) := by rw [two_nI, nI_add]
    have e1 := nI_clamp (n := 2 * b + k) (by omega)
    have hv : vp_in (nI (2 * b + k)) 16 := vp_in_nI (by omega) (by omega)
    have hm : 2 - (nI (k + 1)).toNatClampNeg < 2 - (nI k).toNatClampNeg := by rw [nI_clamp (by omega), ek]; omega
    have hU : U 4 (2 * b + k) = E 16 (96 + (2 * b + k)) := C.2.2.2 _ (by omega)
    rw [forall_eq, ee]
    simp only [e1, hv, true_and, hU, forall_eq, nI_1]
    have hl1 := hST.2.2.1 _ hl
    have skip : (r = 0 → E 16 (96 + (2 * b + k)) ≠ -9 → (pl ∨ goP E S b k) → S 3 (2 * b + k) = 1) → X (r, nI (k + 1), S1) := by
      intro hs
      refine hX _ ⟨k + 1, S1, r, hlt, rfl, hST, fun q k' hk' => ?_⟩ hm
      by_cases hkk : k' = k
      · subst hkk; exact hs q
      · exact hok q k' (by omega)
    have op : E 16 (96 + (2 * b + k)) ≠ -9 → ¬ S1 3 (2 * b + k) = 1 → (pl ∨ goP E S1 b k) → vp_in (E 16 (96 + (2 * b + k))) 8 ∧ X (1, nI (k + 1), zst (zst S1 3 (2 * b + k) 1) 2 (E 16 (96 + (2 * b + k))).toNatClampNeg 1) := by
      intro hw hno hg
      have hST2 := open_st W R hST.2.1 hb hlt hl1 hw hno hg
      have h3 := hST.tr hST2
      have e3 : r ||| 1 = 1 := by rcases hST.1 with q | q <;> rw [q] <;> decide
      rw [e3] at h3
      exact ⟨vi_mono ((W.2.2.2 _ (by omega)).resolve_left hw) hB8, hX _ ⟨k + 1, _, 1, hlt, rfl, h3, fun q => absurd q (by decide)⟩ hm⟩
    refine ⟨fun hw => skip (fun _ z => absurd hw z), fun hw => ⟨fun ho => skip (fun z _ _ => by rw [hST.2.2.2.1 z] at ho; exact ho), fun ho => ⟨fun ha => ?_, fun ha => op hw ho (Or.inl (hpl.mp ha))⟩⟩⟩
    have hnp : ¬ pl := fun q => hpl.mpr q ha
    refine goes_sp W C hb hlt S1 _ (fun hg => ⟨fun z => absurd z (by decide), fun _ => op hw ho (Or.inr hg)⟩) (fun hg => ⟨fun _ => skip (fun z _ q => ?_), fun z => absurd rfl z⟩)
    rw [hST.2.2.2.1 z] at hg
    exact absurd (q.resolve_left hnp) hg
/-- all is well at every live block: closed -/
theorem closed_of (W : WF E nN nB) (hI : II E nN nB pl S) (hN : ∀ n, n < nN → S 2 (E 5 n).toNatClampNeg = 1 → okName E S n) (hE : ∀ b k, b < nB → k < 2 → S 2 b = 1 → E 16 (96 + (2 * b + k)) ≠ -9 → (pl ∨ goP E S b k) → S 3 (2 * b + k) = 1) : fCl E nN nB pl (S 0) (S 1) (fun b => S 2 b = 1) ∧ ∀ b k, b < nB → k < 2 → fEdge E pl (S 0) (S 1) (fun b => S 2 b = 1) b k → S 3 (2 * b + k) = 1 := by
  have hed : ∀ b k, b < nB → k < 2 → fEdge E pl (S 0) (S 1) (fun b => S 2 b = 1) b k → S 3 (2 * b + k) = 1 := by
    intro b k hb hk ⟨h1, h2, h3⟩
    refine hE b k hb hk h1 h2 ?_
    rcases h3 with q | q | q | q
    · exact Or.inr (Or.inl (by rw [q]; decide))
    · exact Or.inl q
    · exact Or.inr (Or.inr (Or.inl q))
    · exact Or.inr (Or.inr (Or.inr q))
  refine ⟨⟨hI.2.2.1, fun b t hb ht hw => ?_, fun n hn hl => ?_⟩, hed⟩
  · obtain ⟨k, hk, h1, h2⟩ := hw
    have := (hI.2.2.2.1 b k hb hk (hed b k hb hk h2)).2
    rw [h1, nI_clamp (by have := W.1.2.2.2; omega)] at this
    exact this
  · obtain ⟨g0, g1, g2, g3⟩ := hN n hn hl
    refine ⟨g0, g1, g2, fun h3 k hk hw => ?_⟩
    obtain ⟨j, hj, h1, h2⟩ := hw
    exact g3 h3 k hk ⟨j, hj, hed _ j (vi_cl ((W.2.1 n hn).2.2.2.2 k hk).1) hj h2, h1⟩
/-- the Flow holds what is found of E -/
def FF (E : ZS) (nN nB : Nat) (pl : Prop) (S : ZS) : Prop := CI S ∧ fFd E nN nB pl (S 0) (S 1) (fun b => S 2 b = 1) ∧ (∀ b k, b < nB → k < 2 → (S 3 (2 * b + k) = 1 ↔ fEdge E pl (S 0) (S 1) (fun b => S 2 b = 1) b k)) ∧ (∀ e, 2 * nB ≤ e → e < 16 → S 3 e = 0)
end FLOWC
