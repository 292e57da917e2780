/-! dominators: reached without, on both sides -/
def RW (g : ZR) (nB d b : Nat) : Prop := ∀ P : Nat → Prop, (d ≠ 0 → P 0) → (∀ e t, e < 2 * nB → P (e / 2) → g e = nI t → t < nB → t ≠ d → P t) → P b
def WG (g : ZR) (nB : Nat) : Prop := ∀ e, e < 2 * nB → g e = -9 ∨ ∃ t, 0 < t ∧ t < nB ∧ g e = nI t
theorem RW_0 {g : ZR} {nB d : Nat} (h : d ≠ 0) : RW g nB d 0 := fun _ a _ => a h
theorem RW_s {g : ZR} {nB d e t : Nat} (he : e < 2 * nB) (r : RW g nB d (e / 2)) (hg : g e = nI t) (ht : t < nB) (hd : t ≠ d) : RW g nB d t := fun P a b => b e t he (r P a b) hg ht hd
theorem RW_n {g : ZR} {nB d : Nat} : ¬ RW g nB d d := fun r => r (fun b => b ≠ d) (fun h => Ne.symm h) (fun _ _ _ _ _ _ h => h) rfl
/-- how many of the first n bits -/
def cn (x : Int32) (n : Nat) : Nat := fb_sm (fun b => if bt x b = true then 1 else 0) n
theorem cn_mono {x y : Int32} {n : Nat} (h : ∀ b, b < n → bt x b = true → bt y b = true) : cn x n ≤ cn y n := by
  refine fb_sm_le (fun k hk => ?_)
  by_cases q : bt x k = true
  · rw [if_pos q, if_pos (h k hk q)]
    exact Nat.le_refl _
  · rw [if_neg q]
    exact Nat.zero_le _
theorem cn_lt {x y : Int32} {n t : Nat} (h : ∀ b, b < n → bt x b = true → bt y b = true) (ht : t < n) (h1 : ¬ bt x t = true) (h2 : bt y t = true) : cn x n + 1 ≤ cn y n := by
  have a := fb_sm_upd (fun b => if bt x b = true then 1 else 0) 1 ht
  simp only [if_neg h1] at a
  show fb_sm (fun b => if bt x b = true then 1 else 0) n + 1 ≤ fb_sm (fun b => if bt y b = true then 1 else 0) n
  rw [← a, Nat.add_zero]
  refine fb_sm_le (fun k hk => ?_)
  by_cases q : k = t
  · subst q
    rw [if_pos rfl, if_pos h2]
    exact Nat.le_refl _
  · rw [if_neg q]
    by_cases q2 : bt x k = true
    · rw [if_pos q2, if_pos (h k hk q2)]
      exact Nat.le_refl _
    · rw [if_neg q2]
      exact Nat.zero_le _
theorem cn_le (x : Int32) (n : Nat) : cn x n ≤ n := by
  have := fb_sm_bound (f := fun b => if bt x b = true then 1 else 0) (c := 1) (n := n) (fun k _ => by by_cases q : bt x k = true <;> simp [q])
  rw [Nat.mul_one] at this
  exact this
theorem cn_not {x : Int32} {n d : Nat} (hd : d < n) (h : ¬ bt x d = true) : cn x n + 1 ≤ n := by
  have a := fb_sm_upd (fun b => if bt x b = true then 1 else 0) 1 hd
  simp only [if_neg h] at a
  show fb_sm (fun b => if bt x b = true then 1 else 0) n + 1 ≤ n
  rw [← a, Nat.add_zero]
  have := fb_sm_bound (f := fun k => if k = d then 1 else if bt x k = true then 1 else 0) (c := 1) (n := n) (fun k _ => by by_cases q : k = d <;> by_cases q2 : bt x k = true <;> simp [q, q2])
  rw [Nat.mul_one] at this
  exact this
theorem isIn_sp (x : Int32) {b : Nat} (hb : b < 8) (Q : Int32 → Prop) (h1 : bt x b = true → Q 1) (h0 : ¬ bt x b = true → Q 0) : g_X4_isIn x (nI b) Q := ⟨fun z => h1 ((in_bt x hb).mp z), fun z => h0 (fun y => z ((in_bt x hb).mpr y))⟩
theorem has_bt (x : Int32) {b : Nat} (hb : b < 8) (Q : Int32 → Prop) (h1 : bt x b = true → Q 1) (h0 : ¬ bt x b = true → Q 0) : g_X9_has x (nI b) Q := ⟨fun z => h1 ((in_bt x hb).mp z), fun z => h0 (fun y => z ((in_bt x hb).mpr y))⟩
section REACH
variable {T : ZS} {nB : Nat}
def RwI (g : ZR) (nB d : Nat) (x : Int32) : Prop := (∀ b, b < 32 → bt x b = true → b < nB ∧ RW g nB d b) ∧ (d ≠ 0 → bt x 0 = true)
def RwC (g : ZR) (nB d : Nat) (x : Int32) (m : Nat) : Prop := ∀ e t, e < m → bt x (e / 2) = true → g e = nI t → t < nB → t ≠ d → bt x t = true
theorem RwI_no {g : ZR} {d : Nat} {x : Int32} (h : RwI g nB d x) (hd : d < 32) : ¬ bt x d = true := fun q => RW_n ((h.1 d hd q).2)
/-- one more edge -/
theorem rw_add {g : ZR} {d e t : Nat} {x : Int32} (hB : nB ≤ 8) (hd : d < nB) (he : e < 2 * nB) (hI : RwI g nB d x) (hx : bt x (e / 2) = true) (hg : g e = nI t) (ht : t < nB) : RwI g nB d (x ||| (((1 : Int32) <<< (nI t &&& 31)) &&& (((1 : Int32) <<< (nI d &&& 31)) ^^^ (-1)))) ∧ (∀ b, b < 32 → (bt (x ||| (((1 : Int32) <<< (nI t &&& 31)) &&& (((1 : Int32) <<< (nI d &&& 31)) ^^^ (-1)))) b = true ↔ (bt x b = true ∨ (b = t ∧ b ≠ d)))) := by
  have key : ∀ b, b < 32 → (bt (x ||| (((1 : Int32) <<< (nI t &&& 31)) &&& (((1 : Int32) <<< (nI d &&& 31)) ^^^ (-1)))) b = true ↔ (bt x b = true ∨ (b = t ∧ b ≠ d))) := by
    intro b hb
    rw [bt_or, bt_and, bt_pw (by omega) hb, bt_np (by omega) hb]
    simp
  refine ⟨⟨fun b hb q => ?_, fun h => ?_⟩, key⟩
  · rcases (key b hb).mp q with y | ⟨y, z⟩
    · exact hI.1 b hb y
    · subst y
      exact ⟨ht, RW_s he ((hI.1 (e / 2) (by omega) hx).2) hg ht z⟩
  · exact (key 0 (by omega)).mpr (Or.inl (hI.2 h))
theorem rw_in (hB : nB ≤ 8) (hT : T 0 0 = nI nB) (hg : WG (T 15) nB) {d : Nat} (hd : d < nB) (x1 : Int32) (Q : Int32 → Prop) (X : Int32 × Int32 × Int32 → Prop) (x0 : Int32) (r : Nat) (hI : RwI (T 15) nB d x0) (hX : ∀ x, RwI (T 15) nB d x → (cn x0 nB + 1 ≤ cn x nB ∨ (x = x0 ∧ RwC (T 15) nB d x0 (2 * nB))) → X (((1 : Int32) <<< (nI d &&& 31)) ^^^ (-1), x, nI (r + 1))) : ∃ n, fx (F_X4_reachedWithout_25 x1 T Q X) n (((1 : Int32) <<< (nI d &&& 31)) ^^^ (-1), x0, nI r, 0) := by
  refine fx_all (fun p => ∃ e x, e ≤ 2 * nB ∧ p = (((1 : Int32) <<< (nI d &&& 31)) ^^^ (-1), x, nI r, nI e) ∧ RwI (T 15) nB d x ∧ (cn x0 nB + 1 ≤ cn x nB ∨ (x = x0 ∧ RwC (T 15) nB d x0 e))) (fun p => 2 * nB - p.2.2.2.toNatClampNeg) ?_ _ ⟨0, x0, Nat.zero_le _, rfl, hI, Or.inr ⟨rfl, fun e t he => absurd he (Nat.not_lt_zero e)⟩⟩
  rintro Y p ⟨e, x, he, rfl, hx, hc⟩ hY
  have el := nI_clamp (n := e) (by omega)
  have e2 : (2 : Int32) * nI nB = nI (2 * nB) := two_nI nB
  unfold F_X4_reachedWithout_25
  simp only [hT, e2, el, forall_eq, nI_1]
  refine ⟨fun z => ?_, fun z => ?_⟩
  · have h2 := (nI_leI (by omega) (by omega)).mp z
    have h3 : e = 2 * nB := by omega
    subst h3
    exact hX x hx hc
  have hlt : e < 2 * nB := Nat.not_le.mp (fun y => z ((nI_leI (by omega) (by omega)).mpr y))
  have hv : vp_in (nI e) 16 := vp_in_nI (by omega) (by omega)
  have dec : 2 * nB - (nI (e + 1)).toNatClampNeg < 2 * nB - (nI e).toNatClampNeg := by rw [el, nI_clamp (by omega)]; omega
  have ed : nI e / 2 = nI (e / 2) := pk_div (a := e) (d := 2) (by omega) (by omega) (by omega)
  have stay : (∀ t, bt x (e / 2) = true → T 15 e = nI t → t < nB → t ≠ d → bt x t = true) → Y (((1 : Int32) <<< (nI d &&& 31)) ^^^ (-1), x, nI r, nI (e + 1)) := by
    intro hs
    refine hY _ ⟨e + 1, x, hlt, rfl, hx, ?_⟩ dec
    rcases hc with y | ⟨y1, y2⟩
    · exact Or.inl y
    · refine Or.inr ⟨y1, fun e' t he' => ?_⟩
      by_cases q : e' = e
      · subst q
        rw [← y1]
        exact hs t
      · exact y2 e' t (by omega)
  refine ⟨hv, fun q => ?_, fun q => ?_⟩
  · refine stay (fun t _ y ht => ?_)
    rw [q] at y
    exact absurd y.symm (nI_m9 (by omega))
  · rw [ed]
    refine isIn_sp x (by omega) _ (fun y => ⟨fun w => absurd w (by decide), fun _ => ⟨hv, ?_⟩⟩) (fun y => ⟨fun _ => stay (fun t w => absurd w y), fun w => (w rfl).elim⟩)
    obtain ⟨t, ht0, ht, eg⟩ := (hg e hlt).resolve_left q
    rw [eg]
    obtain ⟨hI', key⟩ := rw_add hB hd hlt hx y eg ht
    by_cases k : bt x t = true ∨ t = d
    · have same : x ||| (((1 : Int32) <<< (nI t &&& 31)) &&& (((1 : Int32) <<< (nI d &&& 31)) ^^^ (-1))) = x := by
        refine bt_ext (fun i hi => ?_)
        have := key i hi
        cases c : bt x i
        · rw [c] at this
          cases c2 : bt (x ||| (((1 : Int32) <<< (nI t &&& 31)) &&& (((1 : Int32) <<< (nI d &&& 31)) ^^^ (-1)))) i
          · rfl
          · rcases this.mp c2 with w | ⟨w1, w2⟩
            · exact absurd w (by decide)
            · subst w1
              rcases k with k | k
              · rw [c] at k
                exact absurd k (by decide)
              · exact absurd k w2
        · exact this.mpr (Or.inl c)
      rw [same]
      refine stay (fun t' _ y' ht' nd => ?_)
      have : t = t' := (nI_eq (by omega) (by omega)).mp (eg.symm.trans y')
      subst this
      exact k.resolve_right nd
    · have k1 : ¬ bt x t = true := fun w => k (Or.inl w)
      have k2 : t ≠ d := fun w => k (Or.inr w)
      refine hY _ ⟨e + 1, _, hlt, rfl, hI', Or.inl ?_⟩ dec
      have := cn_lt (x := x) (y := x ||| (((1 : Int32) <<< (nI t &&& 31)) &&& (((1 : Int32) <<< (nI d &&& 31)) ^^^ (-1)))) (n := nB) (fun b hb w => (key b (by omega)).mpr (Or.inl w)) ht k1 ((key t (by omega)).mpr (Or.inr ⟨rfl, k2⟩))
      rcases hc with w | ⟨w, -⟩
      · omega
      · rw [w] at this ⊢
        exact this
theorem reached_sp (hB : nB ≤ 8) (hT : T 0 0 = nI nB) (hg : WG (T 15) nB) {d : Nat} (hd : d < nB) (Q : Int32 → Prop) (hQ : ∀ x, (∀ b, b < nB → (bt x b = true ↔ RW (T 15) nB d b)) → Q x) : g_X4_reachedWithout (nI d) T Q := by
  unfold g_X4_reachedWithout
  simp only [forall_eq]
  have h0 : ∀ b, b < 32 → (bt (1 &&& (((1 : Int32) <<< (nI d &&& 31)) ^^^ (-1))) b = true ↔ (b = 0 ∧ d ≠ 0)) := by
    intro b hb
    rw [bt_and, bt_1 ⟨b, hb⟩, bt_np (by omega) hb]
    simp only [Bool.and_eq_true, decide_eq_true_eq, Bool.not_eq_true', decide_eq_false_iff_not]
    constructor
    · rintro ⟨a, c⟩
      exact ⟨a, fun w => c (by omega)⟩
    · rintro ⟨a, c⟩
      exact ⟨a, fun w => c (by omega)⟩
  refine fx_all (fun p => ∃ r x, r ≤ nB ∧ p = (((1 : Int32) <<< (nI d &&& 31)) ^^^ (-1), x, nI r) ∧ RwI (T 15) nB d x ∧ (RwC (T 15) nB d x (2 * nB) ∨ r ≤ cn x nB)) (fun p => nB - p.2.2.toNatClampNeg) ?_ _ ⟨0, _, Nat.zero_le _, rfl, ⟨fun b hb q => ?_, fun q => (h0 0 (by omega)).mpr ⟨rfl, q⟩⟩, Or.inr (Nat.zero_le _)⟩
  · rintro Y p ⟨r, x, hr, rfl, hx, hc⟩ hY
    have el := nI_clamp (n := r) (by omega)
    unfold F_X4_reachedWithout_13
    simp only [hT]
    refine ⟨fun z => ?_, fun z => ?_⟩
    · have h2 := (nI_leI (by omega) (by omega)).mp z
      have hcl : RwC (T 15) nB d x (2 * nB) := by
        rcases hc with y | y
        · exact y
        · have := cn_not (x := x) hd (RwI_no hx (by omega))
          omega
      refine hQ x (fun b hb => ⟨fun y => (hx.1 b (by omega) y).2, fun y => ?_⟩)
      exact y (fun b => bt x b = true) hx.2 (fun e t he w hg' ht nd => hcl e t he w hg' ht nd)
    have hlt : r < nB := Nat.not_le.mp (fun y => z ((nI_leI (by omega) (by omega)).mpr y))
    refine rw_in hB hT hg hd _ Q Y x r hx (fun x' hx' hc' => hY _ ⟨r + 1, x', hlt, rfl, hx', ?_⟩ (by show nB - (nI (r + 1)).toNatClampNeg < nB - (nI r).toNatClampNeg; rw [el, nI_clamp (by omega)]; omega))
    rcases hc' with y | ⟨y1, y2⟩
    · rcases hc with w | w
      · -- closed and yet more: the new bits were there
        exact Or.inl (by
          have hle : ∀ b, b < nB → bt x' b = true → bt x b = true := fun b hb q => (hx'.1 b (by omega) q).2 (fun b => bt x b = true) hx.2 (fun e t he w' hg' ht nd => w e t he w' hg' ht nd)
          have := cn_mono hle
          omega)
      · exact Or.inr (by omega)
    · rw [y1]
      exact Or.inl y2
  · obtain ⟨a, c⟩ := (h0 b hb).mp q
    subst a
    exact ⟨by omega, RW_0 c⟩
end REACH
