/-- a stretch of one row comes into another -/
def brF (f g : ZR) (a d c : Nat) : ZR := fun k => if d ≤ k ∧ k < d + c then f (a + (k - d)) else g k
theorem brF_succ (f g : ZR) (a d c : Nat) : upd (brF f g a d c) (d + c) (f (a + c)) = brF f g a d (c + 1) := by
  funext k
  unfold upd brF
  by_cases q : k = d + c
  · rw [if_pos q, if_pos (by omega), q]
    congr 1
    omega
  · rw [if_neg q]
    have : (d ≤ k ∧ k < d + c) = (d ≤ k ∧ k < d + (c + 1)) := by apply propext; constructor <;> intro h <;> omega
    simp only [this]
theorem bring_sp {n0 n1 a d c : Nat} (h0 : a + c ≤ n0) (h1 : d + c ≤ n1) (hn0 : n0 < 2 ^ 30) (hn1 : n1 < 2 ^ 30) (f g : ZR) (Q : ZR → Prop) (hQ : Q (brF f g a d c)) : g_X9_bring n0 n1 (nI a) (nI d) (nI c) f g Q := by
  unfold g_X9_bring
  refine fx_all (fun p => ∃ i, i ≤ c ∧ p = (nI i, brF f g a d i)) (fun p => c - p.1.toNatClampNeg) ?_ _ ⟨0, Nat.zero_le _, ?_⟩
  · rintro X p ⟨i, hi, rfl⟩ hX
    unfold F_X9_bring_3
    simp only [nI_add, forall_eq, nI_1]
    refine ⟨fun h => ?_, fun h => ?_⟩
    · have : c ≤ i := (nI_leI (by omega) (by omega)).mp h
      rw [show i = c by omega]; exact hQ
    · have hlt : i < c := by
        have := mt (nI_leI (a := c) (b := i) (by omega) (by omega)).mpr h
        omega
      rw [nI_clamp (n := d + i) (by omega), nI_clamp (n := a + i) (by omega), brF_succ]
      refine ⟨vp_in_nI (by omega) (by omega), vp_in_nI (by omega) (by omega), hX _ ⟨i + 1, hlt, rfl⟩ ?_⟩
      show c - (nI (i + 1)).toNatClampNeg < c - (nI i).toNatClampNeg
      rw [nI_clamp (by omega), nI_clamp (by omega)]; omega
  · have : brF f g a d 0 = g := by funext k; unfold brF; rw [if_neg (by omega)]
    rw [this]; rfl
theorem bringA_sp {n0 a d c : Nat} (h0 : a + c ≤ n0) (hda : d ≤ a) (hn0 : n0 < 2 ^ 30) (f : ZR) (Q : ZR → Prop) (hQ : Q (brF f f a d c)) : g_X9_bringA n0 (nI a) (nI d) (nI c) f Q := by
  unfold g_X9_bringA
  refine fx_all (fun p => ∃ i, i ≤ c ∧ p = (nI i, brF f f a d i)) (fun p => c - p.1.toNatClampNeg) ?_ _ ⟨0, Nat.zero_le _, ?_⟩
  · rintro X p ⟨i, hi, rfl⟩ hX
    unfold F_X9_bringA_3
    simp only [nI_add, forall_eq, nI_1]
    refine ⟨fun h => ?_, fun h => ?_⟩
    · have : c ≤ i := (nI_leI (by omega) (by omega)).mp h
      rw [show i = c by omega]; exact hQ
    · have hlt : i < c := by
        have := mt (nI_leI (a := c) (b := i) (by omega) (by omega)).mpr h
        omega
      have hrd : brF f f a d i (a + i) = f (a + i) := by unfold brF; rw [if_neg (by omega)]
      rw [nI_clamp (n := d + i) (by omega), nI_clamp (n := a + i) (by omega), hrd, brF_succ]
      refine ⟨vp_in_nI (by omega) (by omega), vp_in_nI (by omega) (by omega), hX _ ⟨i + 1, hlt, rfl⟩ ?_⟩
      show c - (nI (i + 1)).toNatClampNeg < c - (nI i).toNatClampNeg
      rw [nI_clamp (by omega), nI_clamp (by omega)]; omega
  · have : brF f f a d 0 = f := by funext k; unfold brF; rw [if_neg (by omega)]
    rw [this]; rfl
section CNTM
variable {E S : ZS} {nN nB : Nat}
/-- an edge, counted -/
noncomputable def eC (E S : ZS) (e : Nat) : Int32 := @ite _ (fEdge E False (S 40) (S 41) (mlv S) (e / 2) (e % 2)) (Classical.propDecidable _) 1 0
theorem mEnds_sp (W : WF E nN nB) (f : fr4 E S) (hB : ∀ b, b < 8 → isB (S 42 b)) (Q : Int32 → Prop) (h : Q (sI (fun b => if E 13 b = 1 ∧ ¬ eC E S (2 * b + 0) = eC E S (2 * b + 1) then 1 else 0) nB)) : g_X9_foldedEnds S Q := by
  have hB8 := W.1.2.2.2
  have e3 : S 3 0 = nI nB := by rw [f 3 (by decide) (by decide) (by decide) (by decide)]; exact W.1.2.1
  refine sum_loop (N := nB) (by omega) _ Q h (fun X a z hq => ?_) (fun X a i hi z e hX => ?_)
  · unfold F_X9_foldedEnds_4
    simp only [e3]
    exact ⟨fun _ => hq, fun y => absurd z y⟩
  · unfold F_X9_foldedEnds_4
    have hv : vp_in (nI i) 8 := vp_in_nI (by omega) (by omega)
    simp only [e3, e, forall_eq, nI_1, f 13 (by decide) (by decide) (by decide) (by decide)] at hX ⊢
    have d0 : (2 * i + 0) / 2 = i ∧ (2 * i + 0) % 2 = 0 := by omega
    have d1 : (2 * i + 1) / 2 = i ∧ (2 * i + 1) % 2 = 1 := by omega
    have c0 : ∀ k : Nat, ∀ t : Nat, (2 * i + k) / 2 = i → (2 * i + k) % 2 = t → (fEdge E False (S 40) (S 41) (mlv S) i t → eC E S (2 * i + k) = 1) ∧ (¬ fEdge E False (S 40) (S 41) (mlv S) i t → eC E S (2 * i + k) = 0) := by
      intro k t q1 q2
      unfold eC
      rw [q1, q2]
      exact ⟨fun q => if_pos q, fun q => if_neg q⟩
    have k0 := c0 0 0 d0.1 d0.2
    have k1 := c0 1 1 d1.1 d1.2
    refine ⟨fun y => absurd y z, fun _ => ⟨hv, fun q => ?_, fun q => ?_⟩⟩
    · refine isEdge_sp (k := 0) W f hB ⟨fun z => z rfl, fun z => z.elim⟩ hi (by omega) rfl _ (fun a0 => ?_) (fun a0 => ?_)
      · refine isEdge_sp (k := 1) W f hB ⟨fun z => z rfl, fun z => z.elim⟩ hi (by omega) rfl _ (fun a1 => ⟨fun _ => ?_, fun y => (y rfl).elim⟩) (fun a1 => ⟨fun y => absurd y (by decide), fun _ => ?_⟩)
        · rw [if_neg (fun y => y.2 ((k0.1 a0).trans (k1.1 a1).symm))] at hX; exact hX
        · rw [if_pos ⟨q, by rw [k0.1 a0, k1.2 a1]; decide⟩] at hX; exact hX
      · refine isEdge_sp (k := 1) W f hB ⟨fun z => z rfl, fun z => z.elim⟩ hi (by omega) rfl _ (fun a1 => ⟨fun y => absurd y (by decide), fun _ => ?_⟩) (fun a1 => ⟨fun _ => ?_, fun y => (y rfl).elim⟩)
        · rw [if_pos ⟨q, by rw [k0.2 a0, k1.1 a1]; decide⟩] at hX; exact hX
        · rw [if_neg (fun y => y.2 ((k0.2 a0).trans (k1.2 a1).symm))] at hX; exact hX
    · rw [if_neg (fun y => q y.1)] at hX; exact hX
theorem mEdges_sp (W : WF E nN nB) (f : fr4 E S) (hB : ∀ b, b < 8 → isB (S 42 b)) (x : Int32) (c : Nat → Int32) (hc : ∀ e, e < 2 * nB → (E 16 (96 + e) = -9 → c e = 0) ∧ (¬ E 16 (96 + e) = -9 → x = 0 → c e = 1) ∧ (¬ E 16 (96 + e) = -9 → ¬ x = 0 → c e = eC E S e)) (Q : Int32 → Prop) (h : Q (sI c (2 * nB))) : g_X9_edges x S Q := by
  have hB8 := W.1.2.2.2
  have e3 : S 3 0 = nI nB := by rw [f 3 (by decide) (by decide) (by decide) (by decide)]; exact W.1.2.1
  unfold g_X9_edges
  refine fx_all (fun p => ∃ b, b ≤ nB ∧ p = (sI c (2 * b), nI b)) (fun p => nB - p.2.toNatClampNeg) ?_ _ ⟨0, Nat.zero_le _, rfl⟩
  rintro X p ⟨b, hb, rfl⟩ hX
  have eb := nI_clamp (n := b) (by omega)
  unfold F_X9_edges_4
  simp only [e3]
  refine ⟨fun z => ?_, fun z => ?_⟩
  · have : nB ≤ b := (nI_leI (by omega) (by omega)).mp z
    rw [show b = nB by omega]; exact h
  · have hlt : b < nB := by
      have := mt (nI_leI (a := nB) (b := b) (by omega) (by omega)).mpr z
      omega
    refine fx_all (fun p => ∃ k, k ≤ 2 ∧ p = (sI c (2 * b + k), nI b, nI k)) (fun p => 2 - p.2.2.toNatClampNeg) ?_ _ ⟨0, Nat.zero_le _, rfl⟩
    rintro Y p ⟨k, hk, rfl⟩ hY
    have ek := nI_clamp (n := k) (by omega)
    have e1 : (96 : Int32) + 2 * nI b + nI k = nI (96 + (2 * b + k)) := by rw [n96, nI_add, Nat.add_assoc]
    have e2 := nI_clamp (n := 96 + (2 * b + k)) (by omega)
    unfold F_X9_edges_15
    simp only [e1, e2, forall_eq, nI_1, f 16 (by decide) (by decide) (by decide) (by decide)]
    refine ⟨fun y => ?_, fun y => ?_⟩
    · have : 2 ≤ k := (nI_leI (a := 2) (b := k) (by omega) (by omega)).mp y
      refine hX _ ⟨b + 1, hlt, ?_⟩ ?_
      · rw [show 2 * (b + 1) = 2 * b + k by omega]
      · show nB - (nI (b + 1)).toNatClampNeg < nB - (nI b).toNatClampNeg
        rw [nI_clamp (by omega), eb]; omega
    · have hlt2 : k < 2 := by
        have := mt (nI_leI (a := 2) (b := k) (by omega) (by omega)).mpr y
        omega
      obtain ⟨c1, c2, c3⟩ := hc (2 * b + k) (by omega)
      have hm : 2 - (nI (k + 1)).toNatClampNeg < 2 - (nI k).toNatClampNeg := by rw [nI_clamp (by omega), ek]; omega
      have go : ∀ v : Int32, c (2 * b + k) = v → Y (sI c (2 * b + k) + v, nI b, nI (k + 1)) := fun v hv => hY _ ⟨k + 1, hlt2, by rw [← hv]; rfl⟩ hm
      refine ⟨vp_in_nI (by omega) (by omega), fun q => go 0 (c1 q), fun q => ⟨fun u => go 1 (c2 q u), fun u => ?_⟩⟩
      have d1 : (2 * b + k) / 2 = b ∧ (2 * b + k) % 2 = k := by omega
      have c3 := c3 q u
      unfold eC at c3
      rw [d1.1, d1.2] at c3
      refine isEdge_sp (k := k) W f hB ⟨fun z => z rfl, fun z => z.elim⟩ hlt hlt2 rfl _ (fun a => ⟨fun t => absurd t (by decide), fun _ => go 1 ?_⟩) (fun a => ⟨fun _ => go 0 ?_, fun t => (t rfl).elim⟩)
      · rw [if_pos a] at c3; exact c3
      · rw [if_neg a] at c3; exact c3
end CNTM
