def G_X0_lift_64 (x1 : Int32) (x2 : Int32) (x3 : Int32) (Q : Int32 → ZS → Prop) (t1 : Int32) (t2 : Int32) (S0 : ZS) : Prop := vp_in t1 24 ∧ (∀ S0_1, S0_1 = zst S0 0 t1.toNatClampNeg t2 → vp_in x1 24 ∧ (∀ S0_2, S0_2 = zst S0_1 1 x1.toNatClampNeg x3 → Q 1 S0_2))
def G_X0_lift_49 (x1 : Int32) (x2 : Int32) (x3 : Int32) (Q : Int32 → ZS → Prop) (x4 : Int32) (S0 : ZS) : Prop := (((x4 = 0) → G_X0_lift_64 x1 x2 x3 Q x1 x2 S0) ∧ (¬ x4 = 0 → G_X0_lift_64 x1 x2 x3 Q x1 2 S0))
def G_X0_lift_30 (x1 : Int32) (x2 : Int32) (x3 : Int32) (Q : Int32 → ZS → Prop) (t0 : Int32) (S0 : ZS) : Prop := vp_in x1 24 ∧ (((((S0 0 x1.toNatClampNeg) < x2) → G_X0_lift_49 x1 x2 x3 Q t0 S0) ∧ (¬ (S0 0 x1.toNatClampNeg) < x2 → (((t0 = 0) → Q 0 S0) ∧ (¬ t0 = 0 → G_X0_lift_49 x1 x2 x3 Q t0 S0)))))
def G_X0_lift_29 (x1 : Int32) (x2 : Int32) (x3 : Int32) (Q : Int32 → ZS → Prop) (S0 : ZS) : Prop := G_X0_lift_30 x1 x2 x3 Q 0 S0
def g_X0_lift (x1 : Int32) (x2 : Int32) (x3 : Int32) (S0 : ZS) (Q : Int32 → ZS → Prop) : Prop := vp_in x1 24 ∧ (((((S0 0 x1.toNatClampNeg) = 1) → (((x2 = 1) → vp_in x1 24 ∧ (((((S0 1 x1.toNatClampNeg) = x3) → G_X0_lift_29 x1 x2 x3 Q S0) ∧ (¬ (S0 1 x1.toNatClampNeg) = x3 → G_X0_lift_30 x1 x2 x3 Q 1 S0)))) ∧ (¬ x2 = 1 → G_X0_lift_29 x1 x2 x3 Q S0))) ∧ (¬ (S0 0 x1.toNatClampNeg) = 1 → G_X0_lift_29 x1 x2 x3 Q S0)))
def rm_X0_lift : Room := { frames := 0, cells := 0, slots := 0, locals := 0 }
def g_X9_in (x0 : Int32) (x1 : Int32) (x2 : Int32) (Q : Int32 → Prop) : Prop := (((x0 < x1) → Q 0) ∧ (¬ x0 < x1 → (((x2 < x0) → Q 0) ∧ (¬ x2 < x0 → Q 1))))
def rm_X9_in : Room := { frames := 0, cells := 0, slots := 0, locals := 0 }
def G_X9_here_38 (Q : Int32 → ZS → Prop) (S0 : ZS) : Prop := ((((S0 1 0) ≤ (S0 22 0)) → Q (-1) S0) ∧ (¬ (S0 1 0) ≤ (S0 22 0) → vp_in (S0 22 0) 150 ∧ (Q (S0 0 (S0 22 0).toNatClampNeg) S0)))
def F_X9_here_0 (Q : Int32 → ZS → Prop) (X0 : ZS → Prop) : ZS → Prop := fun S0 => ((((S0 1 0) ≤ (S0 22 0)) → G_X9_here_38 Q S0) ∧ (¬ (S0 1 0) ≤ (S0 22 0) → vp_in (S0 22 0) 150 ∧ (((((S0 0 (S0 22 0).toNatClampNeg) = 32) → ∀ S0_3, S0_3 = zst S0 22 0 ((S0 22 0) + 1) → X0 (S0_3)) ∧ (¬ (S0 0 (S0 22 0).toNatClampNeg) = 32 → G_X9_here_38 Q S0)))))
def g_X9_here (S0 : ZS) (Q : Int32 → ZS → Prop) : Prop := ∃ n, fx (F_X9_here_0 Q) n (S0)
def rm_X9_here : Room := { frames := 0, cells := 0, slots := 0, locals := 0 }
def G_X9_numeral_126 (x1 : Int32) (Q : Int32 → ZS → Prop) (x2 : Int32) (x3 : Int32) (t1 : Int32) (S0 : ZS) : Prop := isB t1 ∧ (∀ S0_1, S0_1 = zst S0 23 0 t1 → ((((S0_1 23 0) = 0) → ∀ S0_3, S0_3 = zst S0_1 22 0 ((S0_1 22 0) + x2) → Q x3 S0_3) ∧ (¬ (S0_1 23 0) = 0 → ∀ S0_4, S0_4 = zst S0_1 22 0 ((S0_1 22 0) + 0) → Q x3 S0_4)))
def G_X9_numeral_121 (x1 : Int32) (Q : Int32 → ZS → Prop) (x2 : Int32) (x3 : Int32) (S0 : ZS) : Prop := G_X9_numeral_126 x1 Q x2 x3 1 S0
def G_X9_numeral_116 (x1 : Int32) (Q : Int32 → ZS → Prop) (x2 : Int32) (x3 : Int32) (S0 : ZS) : Prop := (((x3 ≤ x1) → G_X9_numeral_126 x1 Q x2 x3 0 S0) ∧ (¬ x3 ≤ x1 → G_X9_numeral_121 x1 Q x2 x3 S0))
def G_X9_numeral_87 (x1 : Int32) (Q : Int32 → ZS → Prop) (x2 : Int32) (x3 : Int32) (S0 : ZS) : Prop := g_X9_in x2 1 3 (fun r_1 => (((r_1 = 0) → G_X9_numeral_121 x1 Q x2 x3 S0) ∧ (¬ r_1 = 0 → (((x2 ≤ 1) → G_X9_numeral_116 x1 Q x2 x3 S0) ∧ (¬ x2 ≤ 1 → vp_in (S0 22 0) 150 ∧ (((((S0 0 (S0 22 0).toNatClampNeg) = 48) → G_X9_numeral_121 x1 Q x2 x3 S0) ∧ (¬ (S0 0 (S0 22 0).toNatClampNeg) = 48 → G_X9_numeral_116 x1 Q x2 x3 S0))))))))
def F_X9_numeral_18 (x1 : Int32) (Q : Int32 → ZS → Prop) (X18 : Int32 × Int32 × ZS → Prop) : Int32 × Int32 × ZS → Prop := fun (x2, x3, S0) => ((((S0 1 0) ≤ ((S0 22 0) + x2)) → G_X9_numeral_87 x1 Q x2 x3 S0) ∧ (¬ (S0 1 0) ≤ ((S0 22 0) + x2) → vp_in ((S0 22 0) + x2) 150 ∧ (g_X9_in (S0 0 ((S0 22 0) + x2).toNatClampNeg) 48 57 (fun r_2 => (((r_2 = 0) → G_X9_numeral_87 x1 Q x2 x3 S0) ∧ (¬ r_2 = 0 → (((4 ≤ x2) → ∀ x2_5, x2_5 = x2 + 1 → X18 (x2_5, x3, S0)) ∧ (¬ 4 ≤ x2 → vp_in ((S0 22 0) + x2) 150 ∧ (∀ x3_6, x3_6 = ((10 * x3) + (S0 0 ((S0 22 0) + x2).toNatClampNeg)) - 48 → ∀ x2_7, x2_7 = x2 + 1 → X18 (x2_7, x3_6, S0))))))))))
def g_X9_numeral (x1 : Int32) (S0 : ZS) (Q : Int32 → ZS → Prop) : Prop := ((((S0 23 0) = 0) → g_X9_here S0 (fun r_3 S0_2 => ∃ n, fx (F_X9_numeral_18 x1 Q) n (0, 0, S0_2))) ∧ (¬ (S0 23 0) = 0 → Q 0 S0))
def rm_X9_numeral : Room := { frames := 1, cells := 0, slots := 0, locals := 22 }
theorem zv_X0_lift : zV yX0_lift RX0 cX0_lift 5 (some .boolean) 3 := ⟨q_488, q_489, q_5, q_490, by decide +kernel⟩
set_option maxHeartbeats 4000000 in
set_option maxRecDepth 100000 in
theorem c_X0_lift (l : Launch) (G : ZG) (o0 : Nat) (d0 : Nat → Nat) (x1 : Int32) (x2 : Int32) (x3 : Int32) (S0 : ZS) (Q : Int32 → ZS → Prop) (hg : g_X0_lift x1 x2 x3 S0 Q) : Ki l G yX0_lift cX0_lift 5 .boolean rm_X0_lift [.ref o0, .int x1, .int x2, .int x3] (wX0 G o0 d0 S0) (fun u : ZS => wX0 G o0 d0 u) (fun r u => Q r u) := by
  refine Ki.of (by decide) (Nat.le_of_ble_eq_true rfl) ?_
  intro p e s m args below meth c A QQ ls Cx hret hl hP hD hS
  obtain ⟨hx, hb, hml, hown, hT, hK, hA⟩ := id Cx
  have hl : lv_has ls 5 [(0, .ref o0), (1, .int x1), (2, .int x2), (3, .int x3)] := hl
  have J64 : ∀ (t1 : Int32) (t2 : Int32) (S0 : ZS) (H : Heap) (locs : List Loc) (ls : Array Slot), G_X0_lift_64 x1 x2 x3 Q t1 t2 S0 → va_P G.1 classes (wX0 G o0 d0 S0) H → va_D A (wX0 G o0 d0 S0) → va_S A s.heap H locs → lv_has ls 5 [(0, .ref o0), (1, .int x1), (3, .int x3)] → W p l e rm_X0_lift s m args below meth c H locs 0 0 QQ (F0 m 64 ls [.int t2, .int t1, .ref (d0 0)]) := by
    intro t1 t2 S0 H locs ls hg hP hD hS hl
    refine z_iast hx hb hK hP hD hS 1 0 rfl rfl hg.1 dX0_lift_64 (zst S0 0 t1.toNatClampNeg t2) (fun S : ZS => wX0 G o0 d0 S) rfl (fun S0_1 H locs eS0_1 hP hD hS => ?_)
    have hg := hg.2 S0_1 eS0_1
    refine lv_aload_n hx hb dX0_lift_65 rfl (lv_at hl 0 rfl) ?_
    refine va_get (D := G.1) (ci := 0) (v := .ref (d0 1)) (C := RX0) (T := TX0) (N := 4) hx hb hT iX0 hown hK hP 0 rfl rfl 1 (by decide) (hT _ q_201) (fun _ h9 => h9) rfl dX0_lift_66 ?_
    refine lv_iload_n hx hb dX0_lift_69 rfl (lv_at hl 1 rfl) ?_
    refine lv_iload_n hx hb dX0_lift_70 rfl (lv_at hl 2 rfl) ?_
    refine z_iast hx hb hK hP hD hS 2 0 rfl rfl hg.1 dX0_lift_71 (zst S0_1 1 x1.toNatClampNeg x3) (fun S : ZS => wX0 G o0 d0 S) rfl (fun S0_2 H locs eS0_2 hP hD hS => ?_)
    have hg := hg.2 S0_2 eS0_2
    refine lv_iconst (v := 1) hx hb dX0_lift_72 (by decide) ?_
    exact hret _ _ _ (S0_2) _ _ hg rfl hP hD hS dX0_lift_73
  have J49 : ∀ (x4 : Int32) (S0 : ZS) (H : Heap) (locs : List Loc) (ls : Array Slot), G_X0_lift_49 x1 x2 x3 Q x4 S0 → va_P G.1 classes (wX0 G o0 d0 S0) H → va_D A (wX0 G o0 d0 S0) → va_S A s.heap H locs → lv_has ls 5 [(0, .ref o0), (1, .int x1), (2, .int x2), (3, .int x3), (4, .int x4)] → W p l e rm_X0_lift s m args below meth c H locs 0 0 QQ (F0 m 49 ls []) := by
    intro x4 S0 H locs ls hg hP hD hS hl
    refine lv_aload_n hx hb dX0_lift_49 rfl (lv_at hl 0 rfl) ?_
    refine va_get (D := G.1) (ci := 0) (v := .ref (d0 0)) (C := RX0) (T := TX0) (N := 4) hx hb hT iX0 hown hK hP 0 rfl rfl 0 (by decide) (hT _ q_199) (fun _ h9 => h9) rfl dX0_lift_50 ?_
    refine lv_iload_n hx hb dX0_lift_53 rfl (lv_at hl 1 rfl) ?_
    refine lv_iload hx hb dX0_lift_54 (lv_at hl 4 rfl) ?_
    refine lv_if_eq (tgt := 63) hx hb dX0_lift_56 (by decide) (fun c_1 => ?_) (fun c_1 => ?_)
    · have hg := hg.1 c_1
      refine lv_iload_n hx hb dX0_lift_63 rfl (lv_at hl 2 rfl) ?_
      exact J64 _ _ _ _ _ _ hg hP hD hS (lv_sub hl [0, 1, 3] rfl)
    · have hg := hg.2 c_1
      refine lv_iconst (v := 2) hx hb dX0_lift_59 (by decide) ?_
      refine lv_goto (tgt := 64) hx hb dX0_lift_60 (by decide) ?_
      exact J64 _ _ _ _ _ _ hg hP hD hS (lv_sub hl [0, 1, 3] rfl)
  have J30 : ∀ (t0 : Int32) (S0 : ZS) (H : Heap) (locs : List Loc) (ls : Array Slot), G_X0_lift_30 x1 x2 x3 Q t0 S0 → va_P G.1 classes (wX0 G o0 d0 S0) H → va_D A (wX0 G o0 d0 S0) → va_S A s.heap H locs → lv_has ls 5 [(0, .ref o0), (1, .int x1), (2, .int x2), (3, .int x3)] → W p l e rm_X0_lift s m args below meth c H locs 0 0 QQ (F0 m 30 ls [.int t0]) := by
    intro t0 S0 H locs ls hg hP hD hS hl
    refine lv_istore (lv' := [(4, .int t0), (0, .ref o0), (1, .int x1), (2, .int x2), (3, .int x3)]) hx hb dX0_lift_30 hl (by decide) rfl (fun ls hl => ?_)
    refine lv_iload_n hx hb dX0_lift_32 rfl (lv_at hl 3 rfl) ?_
    refine lv_aload_n hx hb dX0_lift_33 rfl (lv_at hl 1 rfl) ?_
    refine va_get (D := G.1) (ci := 0) (v := .ref (d0 0)) (C := RX0) (T := TX0) (N := 4) hx hb hT iX0 hown hK hP 0 rfl rfl 0 (by decide) (hT _ q_199) (fun _ h9 => h9) rfl dX0_lift_34 ?_
    refine lv_iload_n hx hb dX0_lift_37 rfl (lv_at hl 2 rfl) ?_
    refine va_iald hx hb hK hP 1 0 rfl rfl hg.1 dX0_lift_38 ?_
    have hg := hg.2
    refine lv_icmp_gt (tgt := 49) hx hb dX0_lift_39 (by decide) (fun c_1 => ?_) (fun c_1 => ?_)
    · have hg := hg.1 c_1
      exact J49 _ _ _ _ _ hg hP hD hS (lv_sub hl [1, 2, 3, 4, 0] rfl)
    · have hg := hg.2 c_1
      refine lv_iload hx hb dX0_lift_42 (lv_at hl 0 rfl) ?_
      refine lv_if_ne (tgt := 49) hx hb dX0_lift_44 (by decide) (fun c_2 => ?_) (fun c_2 => ?_)
      · have hg := hg.2 c_2
        exact J49 _ _ _ _ _ hg hP hD hS (lv_sub hl [1, 2, 3, 4, 0] rfl)
      · have hg := hg.1 c_2
        refine lv_iconst (v := 0) hx hb dX0_lift_47 (by decide) ?_
        exact hret _ _ _ (S0) _ _ hg rfl hP hD hS dX0_lift_48
  have J29 : ∀ (S0 : ZS) (H : Heap) (locs : List Loc) (ls : Array Slot), G_X0_lift_29 x1 x2 x3 Q S0 → va_P G.1 classes (wX0 G o0 d0 S0) H → va_D A (wX0 G o0 d0 S0) → va_S A s.heap H locs → lv_has ls 5 [(0, .ref o0), (1, .int x1), (2, .int x2), (3, .int x3)] → W p l e rm_X0_lift s m args below meth c H locs 0 0 QQ (F0 m 29 ls []) := by
    intro S0 H locs ls hg hP hD hS hl
    refine lv_iconst (v := 0) hx hb dX0_lift_29 (by decide) ?_
    exact J30 _ _ _ _ _ hg hP hD hS (lv_sub hl [0, 1, 2, 3] rfl)
  refine lv_aload_n hx hb dX0_lift_0 rfl (lv_at hl 0 rfl) ?_
  refine va_get (D := G.1) (ci := 0) (v := .ref (d0 0)) (C := RX0) (T := TX0) (N := 4) hx hb hT iX0 hown hK hP 0 rfl rfl 0 (by decide) (hT _ q_199) (fun _ h9 => h9) rfl dX0_lift_1 ?_
  refine lv_iload_n hx hb dX0_lift_4 rfl (lv_at hl 1 rfl) ?_
  refine va_iald hx hb hK hP 1 0 rfl rfl hg.1 dX0_lift_5 ?_
  have hg := hg.2
  refine lv_iconst (v := 1) hx hb dX0_lift_6 (by decide) ?_
  refine lv_icmp_ne (tgt := 29) hx hb dX0_lift_7 (by decide) (fun c_1 => ?_) (fun c_1 => ?_)
  · have hg := hg.2 c_1
    exact J29 _ _ _ _ hg hP hD hS (lv_sub hl [0, 1, 2, 3] rfl)
  · have hg := hg.1 c_1
    refine lv_iload_n hx hb dX0_lift_10 rfl (lv_at hl 2 rfl) ?_
    refine lv_iconst (v := 1) hx hb dX0_lift_11 (by decide) ?_
    refine lv_icmp_ne (tgt := 29) hx hb dX0_lift_12 (by decide) (fun c_2 => ?_) (fun c_2 => ?_)
    · have hg := hg.2 c_2
      exact J29 _ _ _ _ hg hP hD hS (lv_sub hl [0, 1, 2, 3] rfl)
    · have hg := hg.1 c_2
      refine lv_aload_n hx hb dX0_lift_15 rfl (lv_at hl 0 rfl) ?_
      refine va_get (D := G.1) (ci := 0) (v := .ref (d0 1)) (C := RX0) (T := TX0) (N := 4) hx hb hT iX0 hown hK hP 0 rfl rfl 1 (by decide) (hT _ q_201) (fun _ h9 => h9) rfl dX0_lift_16 ?_
      refine lv_iload_n hx hb dX0_lift_19 rfl (lv_at hl 1 rfl) ?_
      refine va_iald hx hb hK hP 2 0 rfl rfl hg.1 dX0_lift_20 ?_
      have hg := hg.2
      refine lv_iload_n hx hb dX0_lift_21 rfl (lv_at hl 3 rfl) ?_
      refine lv_icmp_eq (tgt := 29) hx hb dX0_lift_22 (by decide) (fun c_3 => ?_) (fun c_3 => ?_)
      · have hg := hg.1 c_3
        exact J29 _ _ _ _ hg hP hD hS (lv_sub hl [0, 1, 2, 3] rfl)
      · have hg := hg.2 c_3
        refine lv_iconst (v := 1) hx hb dX0_lift_25 (by decide) ?_
        refine lv_goto (tgt := 30) hx hb dX0_lift_26 (by decide) ?_
        exact J30 _ _ _ _ _ hg hP hD hS (lv_sub hl [0, 1, 2, 3] rfl)
theorem zv_X9_in : zSt yX9_in cX9_in 3 (some .boolean) 3 := ⟨q_831, q_8, q_832, by decide +kernel⟩
set_option maxHeartbeats 4000000 in
set_option maxRecDepth 100000 in
theorem c_X9_in (l : Launch) (G : ZG) (x0 : Int32) (x1 : Int32) (x2 : Int32) (Q : Int32 → Prop) (hg : g_X9_in x0 x1 x2 Q) : Ki l G yX9_in cX9_in 3 .boolean rm_X9_in [.int x0, .int x1, .int x2] (([] : va_W)) (fun _ : Unit => ([] : va_W)) (fun r _ => Q r ) := by
  refine Ki.of (by decide) (Nat.le_of_ble_eq_true rfl) ?_
  intro p e s m args below meth c A QQ ls Cx hret hl hP hD hS
  obtain ⟨hx, hb, hml, hown, hT, hK, hA⟩ := id Cx
  have hl : lv_has ls 3 [(0, .int x0), (1, .int x1), (2, .int x2)] := hl
  refine lv_iload_n hx hb dX9_in_0 rfl (lv_at hl 0 rfl) ?_
  refine lv_iload_n hx hb dX9_in_1 rfl (lv_at hl 1 rfl) ?_
  refine lv_icmp_lt (tgt := 14) hx hb dX9_in_2 (by decide) (fun c_1 => ?_) (fun c_1 => ?_)
  · have hg := hg.1 c_1
    refine lv_iconst (v := 0) hx hb dX9_in_14 (by decide) ?_
    exact hret _ _ _ () _ _ hg rfl hP hD hS dX9_in_15
  · have hg := hg.2 c_1
    refine lv_iload_n hx hb dX9_in_5 rfl (lv_at hl 0 rfl) ?_
    refine lv_iload_n hx hb dX9_in_6 rfl (lv_at hl 2 rfl) ?_
    refine lv_icmp_gt (tgt := 14) hx hb dX9_in_7 (by decide) (fun c_2 => ?_) (fun c_2 => ?_)
    · have hg := hg.1 c_2
      refine lv_iconst (v := 0) hx hb dX9_in_14 (by decide) ?_
      exact hret _ _ _ () _ _ hg rfl hP hD hS dX9_in_15
    · have hg := hg.2 c_2
      refine lv_iconst (v := 1) hx hb dX9_in_10 (by decide) ?_
      refine lv_goto (tgt := 15) hx hb dX9_in_11 (by decide) ?_
      exact hret _ _ _ () _ _ hg rfl hP hD hS dX9_in_15
theorem zv_X9_here : zV yX9_here RX9 cX9_here 1 (some .int) 0 := ⟨q_847, qp_2, q_8, q_848, by decide +kernel⟩
set_option maxHeartbeats 4000000 in
set_option maxRecDepth 100000 in
theorem c_X9_here (l : Launch) (G : ZG) (o0 : Nat) (d0 : Nat → Nat) (S0 : ZS) (Q : Int32 → ZS → Prop) (hg : g_X9_here S0 Q) : Ki l G yX9_here cX9_here 1 .int rm_X9_here [.ref o0] (wX9 G o0 d0 S0) (fun u : ZS => wX9 G o0 d0 u) (fun r u => Q r u) := by
  refine Ki.of (by decide) (Nat.le_of_ble_eq_true rfl) ?_
  intro p e s m args below meth c A QQ ls Cx hret hl hP hD hS
  obtain ⟨hx, hb, hml, hown, hT, hK, hA⟩ := id Cx
  have hl : lv_has ls 1 [(0, .ref o0)] := hl
  have J38 : ∀ (S0 : ZS) (H : Heap) (locs : List Loc) (ls : Array Slot), G_X9_here_38 Q S0 → va_P G.1 classes (wX9 G o0 d0 S0) H → va_D A (wX9 G o0 d0 S0) → va_S A s.heap H locs → lv_has ls 1 [(0, .ref o0)] → W p l e rm_X9_here s m args below meth c H locs 0 0 QQ (F0 m 38 ls []) := by
    intro S0 H locs ls hg hP hD hS hl
    refine lv_aload_n hx hb dX9_here_38 rfl (lv_at hl 0 rfl) ?_
    refine va_get (D := G.1) (ci := 7) (v := .int (S0 22 0)) (C := RX9) (T := TX9) (N := 49) hx hb hT iX9 hown hK hP 0 rfl rfl 22 (by decide) (hT _ q_699) (fun _ h9 => h9) rfl dX9_here_39 ?_
    refine lv_aload_n hx hb dX9_here_42 rfl (lv_at hl 0 rfl) ?_
    refine va_get (D := G.1) (ci := 7) (v := .int (S0 1 0)) (C := RX9) (T := TX9) (N := 49) hx hb hT iX9 hown hK hP 0 rfl rfl 1 (by decide) (hT _ q_678) (fun _ h9 => h9) rfl dX9_here_43 ?_
    refine lv_icmp_ge (tgt := 61) hx hb dX9_here_46 (by decide) (fun c_1 => ?_) (fun c_1 => ?_)
    · have hg := hg.1 c_1
      refine lv_iconst (v := (-1)) hx hb dX9_here_61 (by decide) ?_
      exact hret _ _ _ (S0) _ _ hg rfl hP hD hS dX9_here_62
    · have hg := hg.2 c_1
      refine lv_aload_n hx hb dX9_here_49 rfl (lv_at hl 0 rfl) ?_
      refine va_get (D := G.1) (ci := 7) (v := .ref (d0 0)) (C := RX9) (T := TX9) (N := 49) hx hb hT iX9 hown hK hP 0 rfl rfl 0 (by decide) (hT _ q_677) (fun _ h9 => h9) rfl dX9_here_50 ?_
      refine lv_aload_n hx hb dX9_here_53 rfl (lv_at hl 0 rfl) ?_
      refine va_get (D := G.1) (ci := 7) (v := .int (S0 22 0)) (C := RX9) (T := TX9) (N := 49) hx hb hT iX9 hown hK hP 0 rfl rfl 22 (by decide) (hT _ q_699) (fun _ h9 => h9) rfl dX9_here_54 ?_
      refine va_iald hx hb hK hP 1 0 rfl rfl hg.1 dX9_here_57 ?_
      have hg := hg.2
      refine lv_goto (tgt := 62) hx hb dX9_here_58 (by decide) ?_
      exact hret _ _ _ (S0) _ _ hg rfl hP hD hS dX9_here_62
  have L0 : ∀ (n : Nat) (S0 : ZS) (H : Heap) (locs : List Loc) (ls : Array Slot), fx (F_X9_here_0 Q) n S0 → va_P G.1 classes (wX9 G o0 d0 S0) H → va_D A (wX9 G o0 d0 S0) → va_S A s.heap H locs → lv_has ls 1 [(0, .ref o0)] → W p l e rm_X9_here s m args below meth c H locs 0 0 QQ (F0 m 0 ls []) := by
    intro n
    induction n with
    | zero => intro S0 H locs ls hg; exact hg.elim
    | succ n ih =>
      have hX0 := ih
      intro S0 H locs ls hg hP hD hS hl
      refine lv_aload_n hx hb dX9_here_0 rfl (lv_at hl 0 rfl) ?_
      refine va_get (D := G.1) (ci := 7) (v := .int (S0 22 0)) (C := RX9) (T := TX9) (N := 49) hx hb hT iX9 hown hK hP 0 rfl rfl 22 (by decide) (hT _ q_699) (fun _ h9 => h9) rfl dX9_here_1 ?_
      refine lv_aload_n hx hb dX9_here_4 rfl (lv_at hl 0 rfl) ?_
      refine va_get (D := G.1) (ci := 7) (v := .int (S0 1 0)) (C := RX9) (T := TX9) (N := 49) hx hb hT iX9 hown hK hP 0 rfl rfl 1 (by decide) (hT _ q_678) (fun _ h9 => h9) rfl dX9_here_5 ?_
      refine lv_icmp_ge (tgt := 38) hx hb dX9_here_8 (by decide) (fun c_1 => ?_) (fun c_1 => ?_)
      · have hg := hg.1 c_1
        exact J38 _ _ _ _ hg hP hD hS (lv_sub hl [0] rfl)
      · have hg := hg.2 c_1
        refine lv_aload_n hx hb dX9_here_11 rfl (lv_at hl 0 rfl) ?_
        refine va_get (D := G.1) (ci := 7) (v := .ref (d0 0)) (C := RX9) (T := TX9) (N := 49) hx hb hT iX9 hown hK hP 0 rfl rfl 0 (by decide) (hT _ q_677) (fun _ h9 => h9) rfl dX9_here_12 ?_
        refine lv_aload_n hx hb dX9_here_15 rfl (lv_at hl 0 rfl) ?_
        refine va_get (D := G.1) (ci := 7) (v := .int (S0 22 0)) (C := RX9) (T := TX9) (N := 49) hx hb hT iX9 hown hK hP 0 rfl rfl 22 (by decide) (hT _ q_699) (fun _ h9 => h9) rfl dX9_here_16 ?_
        refine va_iald hx hb hK hP 1 0 rfl rfl hg.1 dX9_here_19 ?_
        have hg := hg.2
        refine lv_bipush (v := 32) hx hb dX9_here_20 (by decide) ?_
        refine lv_icmp_ne (tgt := 38) hx hb dX9_here_22 (by decide) (fun c_2 => ?_) (fun c_2 => ?_)
        · have hg := hg.2 c_2
          exact J38 _ _ _ _ hg hP hD hS (lv_sub hl [0] rfl)
        · have hg := hg.1 c_2
          refine lv_aload_n hx hb dX9_here_25 rfl (lv_at hl 0 rfl) ?_
          refine lv_dup hx hb dX9_here_26 rfl ?_
          refine va_get (D := G.1) (ci := 7) (v := .int (S0 22 0)) (C := RX9) (T := TX9) (N := 49) hx hb hT iX9 hown hK hP 0 rfl rfl 22 (by decide) (hT _ q_699) (fun _ h9 => h9) rfl dX9_here_27 ?_
          refine lv_iconst (v := 1) hx hb dX9_here_30 (by decide) ?_
          refine lv_iadd hx hb dX9_here_31 ?_
          refine z_put (D := G.1) (ci := 7) (v := .int ((S0 22 0) + 1)) (ty := .int) (C := RX9) (T := TX9) (N := 49) hx hb hT iX9 tyX9 tyX9_ok nmX9 hown hK hP hD hS 0 rfl rfl 22 (by decide) (hT _ q_699) (fun _ h9 => h9) rfl (by decide +kernel) rfl rfl (Nat.le_of_ble_eq_true rfl) dX9_here_32 (zst S0 22 0 ((S0 22 0) + 1)) (fun S : ZS => wX9 G o0 d0 S) rfl (fun S0_3 H locs eS0_3 hP hD hS => ?_)
          have hg := hg S0_3 eS0_3
          refine lv_goto (tgt := 0) hx hb dX9_here_35 (by decide) ?_
          exact hX0 _ _ _ _ hg hP hD hS (lv_sub hl [0] rfl)
  obtain ⟨n, hg⟩ := hg
  exact L0 n _ _ _ _ hg hP hD hS (lv_sub hl [0] rfl)
theorem zv_X9_numeral : zV yX9_numeral RX9 cX9_numeral 4 (some .int) 1 := ⟨q_871, qp_8, q_8, q_872, by decide +kernel⟩
set_option maxHeartbeats 4000000 in
set_option maxRecDepth 100000 in
theorem c_X9_numeral (l : Launch) (G : ZG) (o0 : Nat) (d0 : Nat → Nat) (x1 : Int32) (S0 : ZS) (Q : Int32 → ZS → Prop) (hg : g_X9_numeral x1 S0 Q) : Ki l G yX9_numeral cX9_numeral 4 .int rm_X9_numeral [.ref o0, .int x1] (wX9 G o0 d0 S0) (fun u : ZS => wX9 G o0 d0 u) (fun r u => Q r u) := by
  refine Ki.of (by decide) (Nat.le_of_ble_eq_true rfl) ?_
  intro p e s m args below meth c A QQ ls Cx hret hl hP hD hS
  obtain ⟨hx, hb, hml, hown, hT, hK, hA⟩ := id Cx
  have hl : lv_has ls 4 [(0, .ref o0), (1, .int x1)] := hl
  have J126 : ∀ (x2 : Int32) (x3 : Int32) (t1 : Int32) (S0 : ZS) (H : Heap) (locs : List Loc) (ls : Array Slot), G_X9_numeral_126 x1 Q x2 x3 t1 S0 → va_P G.1 classes (wX9 G o0 d0 S0) H → va_D A (wX9 G o0 d0 S0) → va_S A s.heap H locs → lv_has ls 4 [(0, .ref o0), (2, .int x2), (3, .int x3)] → W p l e rm_X9_numeral s m args below meth c H locs 0 0 QQ (F0 m 126 ls [.int t1, .ref o0]) := by
    intro x2 x3 t1 S0 H locs ls hg hP hD hS hl
    refine z_put (D := G.1) (ci := 7) (v := .int t1) (ty := .boolean) (C := RX9) (T := TX9) (N := 49) hx hb hT iX9 tyX9 tyX9_ok nmX9 hown hK hP hD hS 0 rfl rfl 23 (by decide) (hT _ q_700) (fun _ h9 => h9) rfl (by decide +kernel) hg.1.nar hg.1.fit (Nat.le_of_ble_eq_true rfl) dX9_numeral_126 (zst S0 23 0 t1) (fun S : ZS => wX9 G o0 d0 S) rfl (fun S0_1 H locs eS0_1 hP hD hS => ?_)
    have hg := hg.2 S0_1 eS0_1
    refine lv_aload_n hx hb dX9_numeral_129 rfl (lv_at hl 0 rfl) ?_
    refine lv_dup hx hb dX9_numeral_130 rfl ?_
    refine va_get (D := G.1) (ci := 7) (v := .int (S0_1 22 0)) (C := RX9) (T := TX9) (N := 49) hx hb hT iX9 hown hK hP 0 rfl rfl 22 (by decide) (hT _ q_699) (fun _ h9 => h9) rfl dX9_numeral_131 ?_
    refine lv_aload_n hx hb dX9_numeral_134 rfl (lv_at hl 0 rfl) ?_
    refine va_get (D := G.1) (ci := 7) (v := .int (S0_1 23 0)) (C := RX9) (T := TX9) (N := 49) hx hb hT iX9 hown hK hP 0 rfl rfl 23 (by decide) (hT _ q_700) (fun _ h9 => h9) rfl dX9_numeral_135 ?_
    refine lv_if_eq (tgt := 145) hx hb dX9_numeral_138 (by decide) (fun c_2 => ?_) (fun c_2 => ?_)
    · have hg := hg.1 c_2
      refine lv_iload_n hx hb dX9_numeral_145 rfl (lv_at hl 1 rfl) ?_
      refine lv_iadd hx hb dX9_numeral_146 ?_
      refine z_put (D := G.1) (ci := 7) (v := .int ((S0_1 22 0) + x2)) (ty := .int) (C := RX9) (T := TX9) (N := 49) hx hb hT iX9 tyX9 tyX9_ok nmX9 hown hK hP hD hS 0 rfl rfl 22 (by decide) (hT _ q_699) (fun _ h9 => h9) rfl (by decide +kernel) rfl rfl (Nat.le_of_ble_eq_true rfl) dX9_numeral_147 (zst S0_1 22 0 ((S0_1 22 0) + x2)) (fun S : ZS => wX9 G o0 d0 S) rfl (fun S0_3 H locs eS0_3 hP hD hS => ?_)
      have hg := hg S0_3 eS0_3
      refine lv_iload_n hx hb dX9_numeral_150 rfl (lv_at hl 2 rfl) ?_
      exact hret _ _ _ (S0_3) _ _ hg rfl hP hD hS dX9_numeral_151
    · have hg := hg.2 c_2
      refine lv_iconst (v := 0) hx hb dX9_numeral_141 (by decide) ?_
      refine lv_goto (tgt := 146) hx hb dX9_numeral_142 (by decide) ?_
      refine lv_iadd hx hb dX9_numeral_146 ?_
      refine z_put (D := G.1) (ci := 7) (v := .int ((S0_1 22 0) + 0)) (ty := .int) (C := RX9) (T := TX9) (N := 49) hx hb hT iX9 tyX9 tyX9_ok nmX9 hown hK hP hD hS 0 rfl rfl 22 (by decide) (hT _ q_699) (fun _ h9 => h9) rfl (by decide +kernel) rfl rfl (Nat.le_of_ble_eq_true rfl) dX9_numeral_147 (zst S0_1 22 0 ((S0_1 22 0) + 0)) (fun S : ZS => wX9 G o0 d0 S) rfl (fun S0_4 H locs eS0_4 hP hD hS => ?_)
      have hg := hg S0_4 eS0_4
      refine lv_iload_n hx hb dX9_numeral_150 rfl (lv_at hl 2 rfl) ?_
      exact hret _ _ _ (S0_4) _ _ hg rfl hP hD hS dX9_numeral_151
  have J121 : ∀ (x2 : Int32) (x3 : Int32) (S0 : ZS) (H : Heap) (locs : List Loc) (ls : Array Slot), G_X9_numeral_121 x1 Q x2 x3 S0 → va_P G.1 classes (wX9 G o0 d0 S0) H → va_D A (wX9 G o0 d0 S0) → va_S A s.heap H locs → lv_has ls 4 [(0, .ref o0), (2, .int x2), (3, .int x3)] → W p l e rm_X9_numeral s m args below meth c H locs 0 0 QQ (F0 m 121 ls [.ref o0]) := by
    intro x2 x3 S0 H locs ls hg hP hD hS hl
    refine lv_iconst (v := 1) hx hb dX9_numeral_121 (by decide) ?_
    refine lv_goto (tgt := 126) hx hb dX9_numeral_122 (by decide) ?_
    exact J126 _ _ _ _ _ _ _ hg hP hD hS (lv_sub hl [0, 1, 2] rfl)
  have J116 : ∀ (x2 : Int32) (x3 : Int32) (S0 : ZS) (H : Heap) (locs : List Loc) (ls : Array Slot), G_X9_numeral_116 x1 Q x2 x3 S0 → va_P G.1 classes (wX9 G o0 d0 S0) H → va_D A (wX9 G o0 d0 S0) → va_S A s.heap H locs → lv_has ls 4 [(0, .ref o0), (1, .int x1), (2, .int x2), (3, .int x3)] → W p l e rm_X9_numeral s m args below meth c H locs 0 0 QQ (F0 m 116 ls [.ref o0]) := by
    intro x2 x3 S0 H locs ls hg hP hD hS hl
    refine lv_iload_n hx hb dX9_numeral_116 rfl (lv_at hl 3 rfl) ?_
    refine lv_iload_n hx hb dX9_numeral_117 rfl (lv_at hl 1 rfl) ?_
    refine lv_icmp_le (tgt := 125) hx hb dX9_numeral_118 (by decide) (fun c_1 => ?_) (fun c_1 => ?_)
    · have hg := hg.1 c_1
      refine lv_iconst (v := 0) hx hb dX9_numeral_125 (by decide) ?_
      exact J126 _ _ _ _ _ _ _ hg hP hD hS (lv_sub hl [0, 2, 3] rfl)
    · have hg := hg.2 c_1
      exact J121 _ _ _ _ _ _ hg hP hD hS (lv_sub hl [0, 2, 3] rfl)
  have J87 : ∀ (x2 : Int32) (x3 : Int32) (S0 : ZS) (H : Heap) (locs : List Loc) (ls : Array Slot), G_X9_numeral_87 x1 Q x2 x3 S0 → va_P G.1 classes (wX9 G o0 d0 S0) H → va_D A (wX9 G o0 d0 S0) → va_S A s.heap H locs → lv_has ls 4 [(0, .ref o0), (1, .int x1), (2, .int x2), (3, .int x3)] → W p l e rm_X9_numeral s m args below meth c H locs 0 0 QQ (F0 m 87 ls []) := by
    intro x2 x3 S0 H locs ls hg hP hD hS hl
    refine lv_aload_n hx hb dX9_numeral_87 rfl (lv_at hl 0 rfl) ?_
    refine lv_iload_n hx hb dX9_numeral_88 rfl (lv_at hl 2 rfl) ?_
    refine lv_iconst (v := 1) hx hb dX9_numeral_89 (by decide) ?_
    refine lv_iconst (v := 3) hx hb dX9_numeral_90 (by decide) ?_
    refine zcSi (As := [.int x2, .int 1, .int 3]) (rest := [.ref o0]) Cx (c_X9_in l G x2 1 3 _ hg) zv_X9_in q_830 ⟨⟨rfl, rfl⟩, Nat.le_of_ble_eq_true rfl, Nat.le_of_ble_eq_true rfl⟩ (zJ.none (S := Unit) hP hD hS hA) hS rfl hl.1 rfl (Nat.le_of_ble_eq_true rfl) dX9_numeral_91 (fun r_1 _u H locs hg hP hD hS => ?_)
    refine lv_if_eq (tgt := 121) hx hb dX9_numeral_94 (by decide) (fun c_2 => ?_) (fun c_2 => ?_)
    · have hg := hg.1 c_2
      exact J121 _ _ _ _ _ _ hg hP hD hS (lv_sub hl [0, 2, 3] rfl)
    · have hg := hg.2 c_2
      refine lv_iload_n hx hb dX9_numeral_97 rfl (lv_at hl 2 rfl) ?_
      refine lv_iconst (v := 1) hx hb dX9_numeral_98 (by decide) ?_
      refine lv_icmp_le (tgt := 116) hx hb dX9_numeral_99 (by decide) (fun c_3 => ?_) (fun c_3 => ?_)
      · have hg := hg.1 c_3
        exact J116 _ _ _ _ _ _ hg hP hD hS (lv_sub hl [0, 1, 2, 3] rfl)
      · have hg := hg.2 c_3
        refine lv_aload_n hx hb dX9_numeral_102 rfl (lv_at hl 0 rfl) ?_
        refine va_get (D := G.1) (ci := 7) (v := .ref (d0 0)) (C := RX9) (T := TX9) (N := 49) hx hb hT iX9 hown hK hP 0 rfl rfl 0 (by decide) (hT _ q_677) (fun _ h9 => h9) rfl dX9_numeral_103 ?_
        refine lv_aload_n hx hb dX9_numeral_106 rfl (lv_at hl 0 rfl) ?_
        refine va_get (D := G.1) (ci := 7) (v := .int (S0 22 0)) (C := RX9) (T := TX9) (N := 49) hx hb hT iX9 hown hK hP 0 rfl rfl 22 (by decide) (hT _ q_699) (fun _ h9 => h9) rfl dX9_numeral_107 ?_
        refine va_iald hx hb hK hP 1 0 rfl rfl hg.1 dX9_numeral_110 ?_
        have hg := hg.2
        refine lv_bipush (v := 48) hx hb dX9_numeral_111 (by decide) ?_
        refine lv_icmp_eq (tgt := 121) hx hb dX9_numeral_113 (by decide) (fun c_4 => ?_) (fun c_4 => ?_)
        · have hg := hg.1 c_4
          exact J121 _ _ _ _ _ _ hg hP hD hS (lv_sub hl [0, 2, 3] rfl)
        · have hg := hg.2 c_4
          exact J116 _ _ _ _ _ _ hg hP hD hS (lv_sub hl [0, 1, 2, 3] rfl)
  have L18 : ∀ (n : Nat) (x2 : Int32) (x3 : Int32) (S0 : ZS) (H : Heap) (locs : List Loc) (ls : Array Slot), fx (F_X9_numeral_18 x1 Q) n (x2, x3, S0) → va_P G.1 classes (wX9 G o0 d0 S0) H → va_D A (wX9 G o0 d0 S0) → va_S A s.heap H locs → lv_has ls 4 [(0, .ref o0), (1, .int x1), (2, .int x2), (3, .int x3)] → W p l e rm_X9_numeral s m args below meth c H locs 0 0 QQ (F0 m 18 ls []) := by
    intro n
    induction n with
    | zero => intro x2 x3 S0 H locs ls hg; exact hg.elim
    | succ n ih =>
      have hX18 := ih
      intro x2 x3 S0 H locs ls hg hP hD hS hl
      refine lv_aload_n hx hb dX9_numeral_18 rfl (lv_at hl 0 rfl) ?_
      refine va_get (D := G.1) (ci := 7) (v := .int (S0 22 0)) (C := RX9) (T := TX9) (N := 49) hx hb hT iX9 hown hK hP 0 rfl rfl 22 (by decide) (hT _ q_699) (fun _ h9 => h9) rfl dX9_numeral_19 ?_
      refine lv_iload_n hx hb dX9_numeral_22 rfl (lv_at hl 2 rfl) ?_
      refine lv_iadd hx hb dX9_numeral_23 ?_
      refine lv_aload_n hx hb dX9_numeral_24 rfl (lv_at hl 0 rfl) ?_
      refine va_get (D := G.1) (ci := 7) (v := .int (S0 1 0)) (C := RX9) (T := TX9) (N := 49) hx hb hT iX9 hown hK hP 0 rfl rfl 1 (by decide) (hT _ q_678) (fun _ h9 => h9) rfl dX9_numeral_25 ?_
      refine lv_icmp_ge (tgt := 87) hx hb dX9_numeral_28 (by decide) (fun c_1 => ?_) (fun c_1 => ?_)
      · have hg := hg.1 c_1
        exact J87 _ _ _ _ _ _ hg hP hD hS (lv_sub hl [0, 1, 2, 3] rfl)
      · have hg := hg.2 c_1
        refine lv_aload_n hx hb dX9_numeral_31 rfl (lv_at hl 0 rfl) ?_
        refine va_get (D := G.1) (ci := 7) (v := .ref (d0 0)) (C := RX9) (T := TX9) (N := 49) hx hb hT iX9 hown hK hP 0 rfl rfl 0 (by decide) (hT _ q_677) (fun _ h9 => h9) rfl dX9_numeral_32 ?_
        refine lv_aload_n hx hb dX9_numeral_35 rfl (lv_at hl 0 rfl) ?_
        refine va_get (D := G.1) (ci := 7) (v := .int (S0 22 0)) (C := RX9) (T := TX9) (N := 49) hx hb hT iX9 hown hK hP 0 rfl rfl 22 (by decide) (hT _ q_699) (fun _ h9 => h9) rfl dX9_numeral_36 ?_
        refine lv_iload_n hx hb dX9_numeral_39 rfl (lv_at hl 2 rfl) ?_
        refine lv_iadd hx hb dX9_numeral_40 ?_
        refine va_iald hx hb hK hP 1 0 rfl rfl hg.1 dX9_numeral_41 ?_
        have hg := hg.2
        refine lv_bipush (v := 48) hx hb dX9_numeral_42 (by decide) ?_
        refine lv_bipush (v := 57) hx hb dX9_numeral_44 (by decide) ?_
        refine zcSi (As := [.int (S0 0 ((S0 22 0) + x2).toNatClampNeg), .int 48, .int 57]) (rest := []) Cx (c_X9_in l G (S0 0 ((S0 22 0) + x2).toNatClampNeg) 48 57 _ hg) zv_X9_in q_830 ⟨⟨rfl, rfl⟩, Nat.le_of_ble_eq_true rfl, Nat.le_of_ble_eq_true rfl⟩ (zJ.none (S := Unit) hP hD hS hA) hS rfl hl.1 rfl (Nat.le_of_ble_eq_true rfl) dX9_numeral_46 (fun r_2 _u H locs hg hP hD hS => ?_)
        refine lv_if_eq (tgt := 87) hx hb dX9_numeral_49 (by decide) (fun c_3 => ?_) (fun c_3 => ?_)
        · have hg := hg.1 c_3
          exact J87 _ _ _ _ _ _ hg hP hD hS (lv_sub hl [0, 1, 2, 3] rfl)
        · have hg := hg.2 c_3
          refine lv_iload_n hx hb dX9_numeral_52 rfl (lv_at hl 2 rfl) ?_
          refine lv_iconst (v := 4) hx hb dX9_numeral_53 (by decide) ?_
          refine lv_icmp_ge (tgt := 79) hx hb dX9_numeral_54 (by decide) (fun c_4 => ?_) (fun c_4 => ?_)
          · have hg := hg.1 c_4
            refine lv_iload_n hx hb dX9_numeral_79 rfl (lv_at hl 3 rfl) ?_
            refine lv_istore_n (lv' := [(3, .int x3), (0, .ref o0), (1, .int x1), (2, .int x2)]) hx hb dX9_numeral_80 rfl hl (by decide) rfl (fun ls hl => ?_)
            obtain ⟨x2_5, ex2_5⟩ : ∃ y : Int32, y = x2 + 1 := ⟨_, rfl⟩
            have hg := hg x2_5 ex2_5
            refine lv_iinc (v := x2_5) (lv' := [(2, .int x2_5), (3, .int x3), (0, .ref o0), (1, .int x1)]) hx hb dX9_numeral_81 hl (k := 3) rfl (by rw [ex2_5]; rfl) (by decide) rfl (fun ls hl => ?_)
            refine lv_goto (tgt := 18) hx hb dX9_numeral_84 (by decide) ?_
            exact hX18 _ _ _ _ _ _ hg hP hD hS (lv_sub hl [2, 3, 0, 1] rfl)
          · have hg := hg.2 c_4
            refine lv_bipush (v := 10) hx hb dX9_numeral_57 (by decide) ?_
            refine lv_iload_n hx hb dX9_numeral_59 rfl (lv_at hl 3 rfl) ?_
            refine lv_imul hx hb dX9_numeral_60 ?_
            refine lv_aload_n hx hb dX9_numeral_61 rfl (lv_at hl 0 rfl) ?_
            refine va_get (D := G.1) (ci := 7) (v := .ref (d0 0)) (C := RX9) (T := TX9) (N := 49) hx hb hT iX9 hown hK hP 0 rfl rfl 0 (by decide) (hT _ q_677) (fun _ h9 => h9) rfl dX9_numeral_62 ?_
            refine lv_aload_n hx hb dX9_numeral_65 rfl (lv_at hl 0 rfl) ?_
            refine va_get (D := G.1) (ci := 7) (v := .int (S0 22 0)) (C := RX9) (T := TX9) (N := 49) hx hb hT iX9 hown hK hP 0 rfl rfl 22 (by decide) (hT _ q_699) (fun _ h9 => h9) rfl dX9_numeral_66 ?_
            refine lv_iload_n hx hb dX9_numeral_69 rfl (lv_at hl 2 rfl) ?_
            refine lv_iadd hx hb dX9_numeral_70 ?_
            refine va_iald hx hb hK hP 1 0 rfl rfl hg.1 dX9_numeral_71 ?_
            have hg := hg.2
            refine lv_iadd hx hb dX9_numeral_72 ?_
            refine lv_bipush (v := 48) hx hb dX9_numeral_73 (by decide) ?_
            refine lv_isub hx hb dX9_numeral_75 ?_
            refine lv_goto (tgt := 80) hx hb dX9_numeral_76 (by decide) ?_
            refine lv_topi (fun x3_6 ex3_6 => ?_)
            have hg := hg x3_6 ex3_6
            refine lv_istore_n (lv' := [(3, .int x3_6), (0, .ref o0), (1, .int x1), (2, .int x2)]) hx hb dX9_numeral_80 rfl hl (by decide) rfl (fun ls hl => ?_)
            obtain ⟨x2_7, ex2_7⟩ : ∃ y : Int32, y = x2 + 1 := ⟨_, rfl⟩
            have hg := hg x2_7 ex2_7
            refine lv_iinc (v := x2_7) (lv' := [(2, .int x2_7), (3, .int x3_6), (0, .ref o0), (1, .int x1)]) hx hb dX9_numeral_81 hl (k := 3) rfl (by rw [ex2_7]; rfl) (by decide) rfl (fun ls hl => ?_)
            refine lv_goto (tgt := 18) hx hb dX9_numeral_84 (by decide) ?_
            exact hX18 _ _ _ _ _ _ hg hP hD hS (lv_sub hl [2, 3, 0, 1] rfl)
  refine lv_aload_n hx hb dX9_numeral_0 rfl (lv_at hl 0 rfl) ?_
  refine va_get (D := G.1) (ci := 7) (v := .int (S0 23 0)) (C := RX9) (T := TX9) (N := 49) hx hb hT iX9 hown hK hP 0 rfl rfl 23 (by decide) (hT _ q_700) (fun _ h9 => h9) rfl dX9_numeral_1 ?_
  refine lv_if_eq (tgt := 9) hx hb dX9_numeral_4 (by decide) (fun c_1 => ?_) (fun c_1 => ?_)
  · have hg := hg.1 c_1
    refine lv_aload_n hx hb dX9_numeral_9 rfl (lv_at hl 0 rfl) ?_
    refine zcVi (As := []) (rest := []) (C := RX9) Cx (c_X9_here l G o0 d0 S0 _ hg) zv_X9_here q_845 ⟨⟨rfl, rfl⟩, Nat.le_of_ble_eq_true rfl, Nat.le_of_ble_eq_true rfl⟩ (zJ.all hP hD hS hA) hS 7 rfl rfl rfl rfl hl.1 rfl (Nat.le_of_ble_eq_true rfl) dX9_numeral_10 (fun r_3 S0_2 H locs hg hP hD hS => ?_)
    have hP : va_P G.1 classes (wX9 G o0 d0 S0_2) H := hP
    have hD : va_D A (wX9 G o0 d0 S0_2) := hD
    refine lv_pop hx hb dX9_numeral_13 rfl ?_
    refine lv_iconst (v := 0) hx hb dX9_numeral_14 (by decide) ?_
    refine lv_istore_n (lv' := [(2, .int 0), (0, .ref o0), (1, .int x1)]) hx hb dX9_numeral_15 rfl hl (by decide) rfl (fun ls hl => ?_)
    refine lv_iconst (v := 0) hx hb dX9_numeral_16 (by decide) ?_
    refine lv_istore_n (lv' := [(3, .int 0), (2, .int 0), (0, .ref o0), (1, .int x1)]) hx hb dX9_numeral_17 rfl hl (by decide) rfl (fun ls hl => ?_)
    obtain ⟨n, hg⟩ := hg
    exact L18 n _ _ _ _ _ _ hg hP hD hS (lv_sub hl [2, 3, 1, 0] rfl)
  · have hg := hg.2 c_1
    refine lv_iconst (v := 0) hx hb dX9_numeral_7 (by decide) ?_
    exact hret _ _ _ (S0) _ _ hg rfl hP hD hS dX9_numeral_8
