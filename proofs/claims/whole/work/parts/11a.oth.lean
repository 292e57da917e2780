theorem zv_J7_fill_53178 : zSt yJ7_fill_53178 cJ7_fill_53178 4 none 2 := ⟨q_463, q_11, q_464, by decide +kernel⟩
set_option maxHeartbeats 4000000 in
set_option maxRecDepth 100000 in
theorem c_J7_fill_53178 (l : Launch) (G : ZG) (o0 : Nat) (n0 : Nat) (x1 : Int32) (f0 : ZR) (Q : ZR → Prop) (hg : g_J7_fill_53178 n0 x1 f0 Q) : Kv l G yJ7_fill_53178 cJ7_fill_53178 4 rm_J7_fill_53178 [.ref o0, .int x1] ([(o0, .inl (G.2.1, n0, .inl f0))]) (fun u : ZR => [(o0, .inl (G.2.1, n0, .inl u))]) (fun u => Q u) := by
  refine Kv.of (by decide) (Nat.le_of_ble_eq_true rfl) ?_
  intro p e s m args below meth c A QQ ls Cx hret hl hP hD hS
  obtain ⟨hx, hb, hml, hown, hT, hK, hA⟩ := id Cx
  have hl : lv_has ls 4 [(0, .ref o0), (1, .int x1)] := hl
  have L5 : ∀ (n : Nat) (x2 : Int32) (x3 : Int32) (f0 : ZR) (H : Heap) (locs : List Loc) (ls : Array Slot), fx (F_J7_fill_53178_5 n0 x1 Q) n (x2, x3, f0) → va_P G.1 classes ([(o0, .inl (G.2.1, n0, .inl f0))]) H → va_D A ([(o0, .inl (G.2.1, n0, .inl f0))]) → va_S A s.heap H locs → lv_has ls 4 [(0, .ref o0), (1, .int x1), (2, .int x2), (3, .int x3)] → W p l e rm_J7_fill_53178 s m args below meth c H locs 0 0 QQ (F0 m 5 ls []) := by
    intro n
    induction n with
    | zero => intro x2 x3 f0 H locs ls hg; exact hg.elim
    | succ n ih =>
      have hX5 := ih
      intro x2 x3 f0 H locs ls hg hP hD hS hl
      refine lv_iload_n hx hb dJ7_fill_53178_5 rfl (lv_at hl 2 rfl) ?_
      refine lv_iload_n hx hb dJ7_fill_53178_6 rfl (lv_at hl 3 rfl) ?_
      refine lv_icmp_ge (tgt := 20) hx hb dJ7_fill_53178_7 (by decide) (fun c_1 => ?_) (fun c_1 => ?_)
      · have hg := hg.1 c_1
        exact hret _ _ (f0) _ _ hg hP hD hS dJ7_fill_53178_20
      · have hg := hg.2 c_1
        refine lv_aload_n hx hb dJ7_fill_53178_10 rfl (lv_at hl 0 rfl) ?_
        refine lv_iload_n hx hb dJ7_fill_53178_11 rfl (lv_at hl 2 rfl) ?_
        refine lv_iload_n hx hb dJ7_fill_53178_12 rfl (lv_at hl 1 rfl) ?_
        refine z_iast hx hb hK hP hD hS 0 0 rfl rfl hg.1 dJ7_fill_53178_13 (upd f0 x2.toNatClampNeg x1) (fun S : ZR => [(o0, .inl (G.2.1, n0, .inl S))]) rfl (fun f0_2 H locs ef0_2 hP hD hS => ?_)
        have hg := hg.2 f0_2 ef0_2
        obtain ⟨x2_3, ex2_3⟩ : ∃ y : Int32, y = x2 + 1 := ⟨_, rfl⟩
        have hg := hg x2_3 ex2_3
        refine lv_iinc (v := x2_3) (lv' := [(2, .int x2_3), (0, .ref o0), (1, .int x1), (3, .int x3)]) hx hb dJ7_fill_53178_14 hl (k := 2) rfl (by rw [ex2_3]; rfl) (by decide) rfl (fun ls hl => ?_)
        refine lv_goto (tgt := 5) hx hb dJ7_fill_53178_17 (by decide) ?_
        exact hX5 _ _ _ _ _ _ hg hP hD hS (lv_sub hl [1, 2, 0, 3] rfl)
  refine lv_iconst (v := 0) hx hb dJ7_fill_53178_0 (by decide) ?_
  refine lv_istore_n (lv' := [(2, .int 0), (0, .ref o0), (1, .int x1)]) hx hb dJ7_fill_53178_1 rfl hl (by decide) rfl (fun ls hl => ?_)
  refine lv_aload_n hx hb dJ7_fill_53178_2 rfl (lv_at hl 1 rfl) ?_
  refine va_alen hx hb hK hP 0 0 rfl rfl (v := nI n0) rfl dJ7_fill_53178_3 ?_
  refine lv_topi (fun x3_1 ex3_1 => ?_)
  have hg := hg x3_1 ex3_1
  refine lv_istore_n (lv' := [(3, .int x3_1), (2, .int 0), (0, .ref o0), (1, .int x1)]) hx hb dJ7_fill_53178_4 rfl hl (by decide) rfl (fun ls hl => ?_)
  obtain ⟨n, hg⟩ := hg
  exact L5 n _ _ _ _ _ _ hg hP hD hS (lv_sub hl [2, 3, 1, 0] rfl)
theorem zv_X0_lift : zV yX0_lift RX0 cX0_lift 5 (some .boolean) 3 := ⟨q_483, q_484, q_5, q_485, by decide +kernel⟩
set_option maxHeartbeats 4000000 in
set_option maxRecDepth 100000 in
theorem c_X0_lift (l : Launch) (G : ZG) (o0 : Nat) (d0 : Nat → Nat) (x1 : Int32) (x2 : Int32) (x3 : Int32) (S0 : ZS) (Q : Int32 → ZS → Prop) (hg : g_X0_lift x1 x2 x3 S0 Q) : Ki l G yX0_lift cX0_lift 5 .boolean rm_X0_lift [.ref o0, .int x1, .int x2, .int x3] (wX0 G o0 d0 S0) (fun u : ZS => wX0 G o0 d0 u) (fun r u => Q r u) := by
  refine Ki.of (by decide) (Nat.le_of_ble_eq_true rfl) ?_
  intro p e s m args below meth c A QQ ls Cx hret hl hP hD hS
  obtain ⟨hx, hb, hml, hown, hT, hK, hA⟩ := id Cx
  have hl : lv_has ls 5 [(0, .ref o0), (1, .int x1), (2, .int x2), (3, .int x3)] := hl
  have J64 : ∀ (t1 : Int32) (t2 : Int32) (S0 : ZS) (H : Heap) (locs : List Loc) (ls : Array Slot), G_X0_lift_64 x1 x2 x3 Q t1 t2 S0 → va_P G.1 classes (wX0 G o0 d0 S0) H → va_D A (wX0 G o0 d0 S0) → va_S A s.heap H locs → lv_has ls 5 [(0, .ref o0), (1, .int x1), (3, .int x3)] → W p l e rm_X0_lift s m args below meth c H locs 0 0 QQ (F0 m 64 ls [.int t2, .int t1, .ref (d0 0)]) := by
    intro t1 t2 S0 H locs ls hg hP hD hS hl
    refine z_iast hx hb hK hP hD hS 1 0 rfl rfl hg.1 dX0_lift_64 (zst S0 0 t1.toNatClampNeg t2) (fun S : ZS => wX0 G o0 d0 S) rfl (fun S0_1 H locs eS0_1 hP hD hS => ?_)
    have hg := hg.2 S0_1 eS0_1
    refine lv_aload_n hx hb dX0_lift_65 rfl (lv_at hl 0 rfl) ?_
    refine va_get (D := G.1) (ci := 0) (v := .ref (d0 1)) (C := RX0) (T := TX0) (N := 4) hx hb hT iX0 hown hK hP 0 rfl rfl 1 (by decide) (hT _ q_201) (fun _ h9 => h9) rfl dX0_lift_66 ?_
    refine lv_iload_n hx hb dX0_lift_69 rfl (lv_at hl 1 rfl) ?_
    refine lv_iload_n hx hb dX0_lift_70 rfl (lv_at hl 2 rfl) ?_
    refine z_iast hx hb hK hP hD hS 2 0 rfl rfl hg.1 dX0_lift_71 (zst S0_1 1 x1.toNatClampNeg x3) (fun S : ZS => wX0 G o0 d0 S) rfl (fun S0_2 H locs eS0_2 hP hD hS => ?_)
    have hg := hg.2 S0_2 eS0_2
    refine lv_iconst (v := 1) hx hb dX0_lift_72 (by decide) ?_
    exact hret _ _ _ (S0_2) _ _ hg rfl hP hD hS dX0_lift_73
  have J49 : ∀ (x4 : Int32) (S0 : ZS) (H : Heap) (locs : List Loc) (ls : Array Slot), G_X0_lift_49 x1 x2 x3 Q x4 S0 → va_P G.1 classes (wX0 G o0 d0 S0) H → va_D A (wX0 G o0 d0 S0) → va_S A s.heap H locs → lv_has ls 5 [(0, .ref o0), (1, .int x1), (2, .int x2), (3, .int x3), (4, .int x4)] → W p l e rm_X0_lift s m args below meth c H locs 0 0 QQ (F0 m 49 ls []) := by
    intro x4 S0 H locs ls hg hP hD hS hl
    refine lv_aload_n hx hb dX0_lift_49 rfl (lv_at hl 0 rfl) ?_
    refine va_get (D := G.1) (ci := 0) (v := .ref (d0 0)) (C := RX0) (T := TX0) (N := 4) hx hb hT iX0 hown hK hP 0 rfl rfl 0 (by decide) (hT _ q_199) (fun _ h9 => h9) rfl dX0_lift_50 ?_
    refine lv_iload_n hx hb dX0_lift_53 rfl (lv_at hl 1 rfl) ?_
    refine lv_iload hx hb dX0_lift_54 (lv_at hl 4 rfl) ?_
    refine lv_if_eq (tgt := 63) hx hb dX0_lift_56 (by decide) (fun c_1 => ?_) (fun c_1 => ?_)
    · have hg := hg.1 c_1
      refine lv_iload_n hx hb dX0_lift_63 rfl (lv_at hl 2 rfl) ?_
      exact J64 _ _ _ _ _ _ hg hP hD hS (lv_sub hl [0, 1, 3] rfl)
    · have hg := hg.2 c_1
      refine lv_iconst (v := 2) hx hb dX0_lift_59 (by decide) ?_
      refine lv_goto (tgt := 64) hx hb dX0_lift_60 (by decide) ?_
      exact J64 _ _ _ _ _ _ hg hP hD hS (lv_sub hl [0, 1, 3] rfl)
  have J30 : ∀ (t0 : Int32) (S0 : ZS) (H : Heap) (locs : List Loc) (ls : Array Slot), G_X0_lift_30 x1 x2 x3 Q t0 S0 → va_P G.1 classes (wX0 G o0 d0 S0) H → va_D A (wX0 G o0 d0 S0) → va_S A s.heap H locs → lv_has ls 5 [(0, .ref o0), (1, .int x1), (2, .int x2), (3, .int x3)] → W p l e rm_X0_lift s m args below meth c H locs 0 0 QQ (F0 m 30 ls [.int t0]) := by
    intro t0 S0 H locs ls hg hP hD hS hl
    refine lv_istore (lv' := [(4, .int t0), (0, .ref o0), (1, .int x1), (2, .int x2), (3, .int x3)]) hx hb dX0_lift_30 hl (by decide) rfl (fun ls hl => ?_)
    refine lv_iload_n hx hb dX0_lift_32 rfl (lv_at hl 3 rfl) ?_
    refine lv_aload_n hx hb dX0_lift_33 rfl (lv_at hl 1 rfl) ?_
    refine va_get (D := G.1) (ci := 0) (v := .ref (d0 0)) (C := RX0) (T := TX0) (N := 4) hx hb hT iX0 hown hK hP 0 rfl rfl 0 (by decide) (hT _ q_199) (fun _ h9 => h9) rfl dX0_lift_34 ?_
    refine lv_iload_n hx hb dX0_lift_37 rfl (lv_at hl 2 rfl) ?_
    refine va_iald hx hb hK hP 1 0 rfl rfl hg.1 dX0_lift_38 ?_
    have hg := hg.2
    refine lv_icmp_gt (tgt := 49) hx hb dX0_lift_39 (by decide) (fun c_1 => ?_) (fun c_1 => ?_)
    · have hg := hg.1 c_1
      exact J49 _ _ _ _ _ hg hP hD hS (lv_sub hl [1, 2, 3, 4, 0] rfl)
    · have hg := hg.2 c_1
      refine lv_iload hx hb dX0_lift_42 (lv_at hl 0 rfl) ?_
      refine lv_if_ne (tgt := 49) hx hb dX0_lift_44 (by decide) (fun c_2 => ?_) (fun c_2 => ?_)
      · have hg := hg.2 c_2
        exact J49 _ _ _ _ _ hg hP hD hS (lv_sub hl [1, 2, 3, 4, 0] rfl)
      · have hg := hg.1 c_2
        refine lv_iconst (v := 0) hx hb dX0_lift_47 (by decide) ?_
        exact hret _ _ _ (S0) _ _ hg rfl hP hD hS dX0_lift_48
  have J29 : ∀ (S0 : ZS) (H : Heap) (locs : List Loc) (ls : Array Slot), G_X0_lift_29 x1 x2 x3 Q S0 → va_P G.1 classes (wX0 G o0 d0 S0) H → va_D A (wX0 G o0 d0 S0) → va_S A s.heap H locs → lv_has ls 5 [(0, .ref o0), (1, .int x1), (2, .int x2), (3, .int x3)] → W p l e rm_X0_lift s m args below meth c H locs 0 0 QQ (F0 m 29 ls []) := by
    intro S0 H locs ls hg hP hD hS hl
    refine lv_iconst (v := 0) hx hb dX0_lift_29 (by decide) ?_
    exact J30 _ _ _ _ _ hg hP hD hS (lv_sub hl [0, 1, 2, 3] rfl)
  refine lv_aload_n hx hb dX0_lift_0 rfl (lv_at hl 0 rfl) ?_
  refine va_get (D := G.1) (ci := 0) (v := .ref (d0 0)) (C := RX0) (T := TX0) (N := 4) hx hb hT iX0 hown hK hP 0 rfl rfl 0 (by decide) (hT _ q_199) (fun _ h9 => h9) rfl dX0_lift_1 ?_
  refine lv_iload_n hx hb dX0_lift_4 rfl (lv_at hl 1 rfl) ?_
  refine va_iald hx hb hK hP 1 0 rfl rfl hg.1 dX0_lift_5 ?_
  have hg := hg.2
  refine lv_iconst (v := 1) hx hb dX0_lift_6 (by decide) ?_
  refine lv_icmp_ne (tgt := 29) hx hb dX0_lift_7 (by decide) (fun c_1 => ?_) (fun c_1 => ?_)
  · have hg := hg.2 c_1
    exact J29 _ _ _ _ hg hP hD hS (lv_sub hl [0, 1, 2, 3] rfl)
  · have hg := hg.1 c_1
    refine lv_iload_n hx hb dX0_lift_10 rfl (lv_at hl 2 rfl) ?_
    refine lv_iconst (v := 1) hx hb dX0_lift_11 (by decide) ?_
    refine lv_icmp_ne (tgt := 29) hx hb dX0_lift_12 (by decide) (fun c_2 => ?_) (fun c_2 => ?_)
    · have hg := hg.2 c_2
      exact J29 _ _ _ _ hg hP hD hS (lv_sub hl [0, 1, 2, 3] rfl)
    · have hg := hg.1 c_2
      refine lv_aload_n hx hb dX0_lift_15 rfl (lv_at hl 0 rfl) ?_
      refine va_get (D := G.1) (ci := 0) (v := .ref (d0 1)) (C := RX0) (T := TX0) (N := 4) hx hb hT iX0 hown hK hP 0 rfl rfl 1 (by decide) (hT _ q_201) (fun _ h9 => h9) rfl dX0_lift_16 ?_
      refine lv_iload_n hx hb dX0_lift_19 rfl (lv_at hl 1 rfl) ?_
      refine va_iald hx hb hK hP 2 0 rfl rfl hg.1 dX0_lift_20 ?_
      have hg := hg.2
      refine lv_iload_n hx hb dX0_lift_21 rfl (lv_at hl 3 rfl) ?_
      refine lv_icmp_eq (tgt := 29) hx hb dX0_lift_22 (by decide) (fun c_3 => ?_) (fun c_3 => ?_)
      · have hg := hg.1 c_3
        exact J29 _ _ _ _ hg hP hD hS (lv_sub hl [0, 1, 2, 3] rfl)
      · have hg := hg.2 c_3
        refine lv_iconst (v := 1) hx hb dX0_lift_25 (by decide) ?_
        refine lv_goto (tgt := 30) hx hb dX0_lift_26 (by decide) ?_
        exact J30 _ _ _ _ _ hg hP hD hS (lv_sub hl [0, 1, 2, 3] rfl)
theorem zv_X2_inputOf : zV yX2_inputOf RX2 cX2_inputOf 2 (some .int) 1 := ⟨q_487, q_488, q_4, q_489, by decide +kernel⟩
set_option maxHeartbeats 4000000 in
set_option maxRecDepth 100000 in
theorem c_X2_inputOf (l : Launch) (G : ZG) (o0 : Nat) (d0 : Nat → Nat) (x1 : Int32) (S0 : ZS) (Q : Int32 → Prop) (hg : g_X2_inputOf x1 S0 Q) : Ki l G yX2_inputOf cX2_inputOf 2 .int rm_X2_inputOf [.ref o0, .int x1] (wX2 G o0 d0 S0) (fun _ : Unit => wX2 G o0 d0 S0) (fun r _ => Q r ) := by
  refine Ki.of (by decide) (Nat.le_of_ble_eq_true rfl) ?_
  intro p e s m args below meth c A QQ ls Cx hret hl hP hD hS
  obtain ⟨hx, hb, hml, hown, hT, hK, hA⟩ := id Cx
  have hl : lv_has ls 2 [(0, .ref o0), (1, .int x1)] := hl
  refine lv_aload_n hx hb dX2_inputOf_0 rfl (lv_at hl 0 rfl) ?_
  refine va_get (D := G.1) (ci := 2) (v := .ref (d0 0)) (C := RX2) (T := TX2) (N := 5) hx hb hT iX2 hown hK hP 0 rfl rfl 0 (by decide) (hT _ q_163) (fun _ h9 => h9) rfl dX2_inputOf_1 ?_
  refine lv_iload_n hx hb dX2_inputOf_4 rfl (lv_at hl 1 rfl) ?_
  refine va_iald hx hb hK hP 1 0 rfl rfl hg.1 dX2_inputOf_5 ?_
  have hg := hg.2
  refine lv_iconst (v := 1) hx hb dX2_inputOf_6 (by decide) ?_
  refine lv_icmp_ne (tgt := 19) hx hb dX2_inputOf_7 (by decide) (fun c_1 => ?_) (fun c_1 => ?_)
  · have hg := hg.2 c_1
    refine lv_aload_n hx hb dX2_inputOf_19 rfl (lv_at hl 0 rfl) ?_
    refine va_get (D := G.1) (ci := 2) (v := .ref (d0 2)) (C := RX2) (T := TX2) (N := 5) hx hb hT iX2 hown hK hP 0 rfl rfl 2 (by decide) (hT _ q_170) (fun _ h9 => h9) rfl dX2_inputOf_20 ?_
    refine lv_iload_n hx hb dX2_inputOf_23 rfl (lv_at hl 1 rfl) ?_
    refine va_iald hx hb hK hP 3 0 rfl rfl hg.1 dX2_inputOf_24 ?_
    have hg := hg.2
    exact hret _ _ _ () _ _ hg rfl hP hD hS dX2_inputOf_25
  · have hg := hg.1 c_1
    refine lv_aload_n hx hb dX2_inputOf_10 rfl (lv_at hl 0 rfl) ?_
    refine va_get (D := G.1) (ci := 2) (v := .ref (d0 1)) (C := RX2) (T := TX2) (N := 5) hx hb hT iX2 hown hK hP 0 rfl rfl 1 (by decide) (hT _ q_167) (fun _ h9 => h9) rfl dX2_inputOf_11 ?_
    refine lv_iload_n hx hb dX2_inputOf_14 rfl (lv_at hl 1 rfl) ?_
    refine va_iald hx hb hK hP 2 0 rfl rfl hg.1 dX2_inputOf_15 ?_
    have hg := hg.2
    refine lv_goto (tgt := 25) hx hb dX2_inputOf_16 (by decide) ?_
    exact hret _ _ _ () _ _ hg rfl hP hD hS dX2_inputOf_25
theorem zv_X5_traps : zSt yX5_traps cX5_traps 2 (some .boolean) 2 := ⟨q_495, q_10, q_496, by decide +kernel⟩
set_option maxHeartbeats 4000000 in
set_option maxRecDepth 100000 in
theorem c_X5_traps (l : Launch) (G : ZG) (x0 : Int32) (x1 : Int32) (Q : Int32 → Prop) (hg : g_X5_traps x0 x1 Q) : Ki l G yX5_traps cX5_traps 2 .boolean rm_X5_traps [.int x0, .int x1] (([] : va_W)) (fun _ : Unit => ([] : va_W)) (fun r _ => Q r ) := by
  refine Ki.of (by decide) (Nat.le_of_ble_eq_true rfl) ?_
  intro p e s m args below meth c A QQ ls Cx hret hl hP hD hS
  obtain ⟨hx, hb, hml, hown, hT, hK, hA⟩ := id Cx
  have hl : lv_has ls 2 [(0, .int x0), (1, .int x1)] := hl
  refine lv_iload_n hx hb dX5_traps_0 rfl (lv_at hl 1 rfl) ?_
  refine lv_if_ne (tgt := 20) hx hb dX5_traps_1 (by decide) (fun c_1 => ?_) (fun c_1 => ?_)
  · have hg := hg.2 c_1
    refine lv_iconst (v := 0) hx hb dX5_traps_20 (by decide) ?_
    exact hret _ _ _ () _ _ hg rfl hP hD hS dX5_traps_21
  · have hg := hg.1 c_1
    refine lv_iload_n hx hb dX5_traps_4 rfl (lv_at hl 0 rfl) ?_
    refine lv_bipush (v := 47) hx hb dX5_traps_5 (by decide) ?_
    refine lv_icmp_eq (tgt := 16) hx hb dX5_traps_7 (by decide) (fun c_2 => ?_) (fun c_2 => ?_)
    · have hg := hg.1 c_2
      refine lv_iconst (v := 1) hx hb dX5_traps_16 (by decide) ?_
      refine lv_goto (tgt := 21) hx hb dX5_traps_17 (by decide) ?_
      exact hret _ _ _ () _ _ hg rfl hP hD hS dX5_traps_21
    · have hg := hg.2 c_2
      refine lv_iload_n hx hb dX5_traps_10 rfl (lv_at hl 0 rfl) ?_
      refine lv_bipush (v := 37) hx hb dX5_traps_11 (by decide) ?_
      refine lv_icmp_ne (tgt := 20) hx hb dX5_traps_13 (by decide) (fun c_3 => ?_) (fun c_3 => ?_)
      · have hg := hg.2 c_3
        refine lv_iconst (v := 0) hx hb dX5_traps_20 (by decide) ?_
        exact hret _ _ _ () _ _ hg rfl hP hD hS dX5_traps_21
      · have hg := hg.1 c_3
        refine lv_iconst (v := 1) hx hb dX5_traps_16 (by decide) ?_
        refine lv_goto (tgt := 21) hx hb dX5_traps_17 (by decide) ?_
        exact hret _ _ _ () _ _ hg rfl hP hD hS dX5_traps_21
theorem zv_X5_result : zSt yX5_result cX5_result 3 (some .int) 3 := ⟨q_498, q_10, q_499, by decide +kernel⟩
set_option maxHeartbeats 4000000 in
set_option maxRecDepth 100000 in
theorem c_X5_result (l : Launch) (G : ZG) (x0 : Int32) (x1 : Int32) (x2 : Int32) (Q : Int32 → Prop) (hg : g_X5_result x0 x1 x2 Q) : Ki l G yX5_result cX5_result 3 .int rm_X5_result [.int x0, .int x1, .int x2] (([] : va_W)) (fun _ : Unit => ([] : va_W)) (fun r _ => Q r ) := by
  refine Ki.of (by decide) (Nat.le_of_ble_eq_true rfl) ?_
  intro p e s m args below meth c A QQ ls Cx hret hl hP hD hS
  obtain ⟨hx, hb, hml, hown, hT, hK, hA⟩ := id Cx
  have hl : lv_has ls 3 [(0, .int x0), (1, .int x1), (2, .int x2)] := hl
  refine lv_iload_n hx hb dX5_result_0 rfl (lv_at hl 0 rfl) ?_
  by_cases k37 : x0 = 37
  · have hg := hg.1 k37
    refine lv_lookup (off := 99) (tgt := 100) hx hb dX5_result_1 (by decide) (by rw [k37]; rfl) (by decide) ?_
    refine lv_iload_n hx hb dX5_result_100 rfl (lv_at hl 2 rfl) ?_
    refine lv_if_ne (tgt := 108) hx hb dX5_result_101 (by decide) (fun c_1 => ?_) (fun c_1 => ?_)
    · have hg := hg.2 c_1
      refine lv_iload_n hx hb dX5_result_108 rfl (lv_at hl 1 rfl) ?_
      refine lv_iload_n hx hb dX5_result_109 rfl (lv_at hl 2 rfl) ?_
      refine lv_irem hx hb dX5_result_110 hg.1 ?_
      have hg := hg.2
      exact hret _ _ _ () _ _ hg rfl hP hD hS dX5_result_111
    · have hg := hg.1 c_1
      refine lv_iconst (v := 0) hx hb dX5_result_104 (by decide) ?_
      refine lv_goto (tgt := 111) hx hb dX5_result_105 (by decide) ?_
      exact hret _ _ _ () _ _ hg rfl hP hD hS dX5_result_111
  by_cases k38 : x0 = 38
  · have hg := hg.2.1 k38
    refine lv_lookup (off := 111) (tgt := 112) hx hb dX5_result_1 (by decide) (by rw [k38]; rfl) (by decide) ?_
    refine lv_iload_n hx hb dX5_result_112 rfl (lv_at hl 1 rfl) ?_
    refine lv_iload_n hx hb dX5_result_113 rfl (lv_at hl 2 rfl) ?_
    refine lv_iand hx hb dX5_result_114 ?_
    exact hret _ _ _ () _ _ hg rfl hP hD hS dX5_result_115
  by_cases k42 : x0 = 42
  · have hg := hg.2.2.1 k42
    refine lv_lookup (off := 83) (tgt := 84) hx hb dX5_result_1 (by decide) (by rw [k42]; rfl) (by decide) ?_
    refine lv_iload_n hx hb dX5_result_84 rfl (lv_at hl 1 rfl) ?_
    refine lv_iload_n hx hb dX5_result_85 rfl (lv_at hl 2 rfl) ?_
    refine lv_imul hx hb dX5_result_86 ?_
    exact hret _ _ _ () _ _ hg rfl hP hD hS dX5_result_87
  by_cases k43 : x0 = 43
  · have hg := hg.2.2.2.1 k43
    refine lv_lookup (off := 75) (tgt := 76) hx hb dX5_result_1 (by decide) (by rw [k43]; rfl) (by decide) ?_
    refine lv_iload_n hx hb dX5_result_76 rfl (lv_at hl 1 rfl) ?_
    refine lv_iload_n hx hb dX5_result_77 rfl (lv_at hl 2 rfl) ?_
    refine lv_iadd hx hb dX5_result_78 ?_
    exact hret _ _ _ () _ _ hg rfl hP hD hS dX5_result_79
  by_cases k45 : x0 = 45
  · have hg := hg.2.2.2.2.1 k45
    refine lv_lookup (off := 79) (tgt := 80) hx hb dX5_result_1 (by decide) (by rw [k45]; rfl) (by decide) ?_
    refine lv_iload_n hx hb dX5_result_80 rfl (lv_at hl 1 rfl) ?_
    refine lv_iload_n hx hb dX5_result_81 rfl (lv_at hl 2 rfl) ?_
    refine lv_isub hx hb dX5_result_82 ?_
    exact hret _ _ _ () _ _ hg rfl hP hD hS dX5_result_83
  by_cases k47 : x0 = 47
  · have hg := hg.2.2.2.2.2.1 k47
    refine lv_lookup (off := 87) (tgt := 88) hx hb dX5_result_1 (by decide) (by rw [k47]; rfl) (by decide) ?_
    refine lv_iload_n hx hb dX5_result_88 rfl (lv_at hl 2 rfl) ?_
    refine lv_if_ne (tgt := 96) hx hb dX5_result_89 (by decide) (fun c_2 => ?_) (fun c_2 => ?_)
    · have hg := hg.2 c_2
      refine lv_iload_n hx hb dX5_result_96 rfl (lv_at hl 1 rfl) ?_
      refine lv_iload_n hx hb dX5_result_97 rfl (lv_at hl 2 rfl) ?_
      refine lv_idiv hx hb dX5_result_98 hg.1 ?_
      have hg := hg.2
      exact hret _ _ _ () _ _ hg rfl hP hD hS dX5_result_99
    · have hg := hg.1 c_2
      refine lv_iconst (v := 0) hx hb dX5_result_92 (by decide) ?_
      refine lv_goto (tgt := 99) hx hb dX5_result_93 (by decide) ?_
      exact hret _ _ _ () _ _ hg rfl hP hD hS dX5_result_99
  by_cases k60 : x0 = 60
  · have hg := hg.2.2.2.2.2.2.1 k60
    refine lv_lookup (off := 119) (tgt := 120) hx hb dX5_result_1 (by decide) (by rw [k60]; rfl) (by decide) ?_
    refine lv_iload_n hx hb dX5_result_120 rfl (lv_at hl 1 rfl) ?_
    refine lv_iload_n hx hb dX5_result_121 rfl (lv_at hl 2 rfl) ?_
    refine lv_icmp_ge (tgt := 129) hx hb dX5_result_122 (by decide) (fun c_3 => ?_) (fun c_3 => ?_)
    · have hg := hg.1 c_3
      refine lv_iconst (v := 0) hx hb dX5_result_129 (by decide) ?_
      exact hret _ _ _ () _ _ hg rfl hP hD hS dX5_result_130
    · have hg := hg.2 c_3
      refine lv_iconst (v := 1) hx hb dX5_result_125 (by decide) ?_
      refine lv_goto (tgt := 130) hx hb dX5_result_126 (by decide) ?_
      exact hret _ _ _ () _ _ hg rfl hP hD hS dX5_result_130
  by_cases k94 : x0 = 94
  · have hg := hg.2.2.2.2.2.2.2.1 k94
    refine lv_lookup (off := 115) (tgt := 116) hx hb dX5_result_1 (by decide) (by rw [k94]; rfl) (by decide) ?_
    refine lv_iload_n hx hb dX5_result_116 rfl (lv_at hl 1 rfl) ?_
    refine lv_iload_n hx hb dX5_result_117 rfl (lv_at hl 2 rfl) ?_
    refine lv_ixor hx hb dX5_result_118 ?_
    exact hret _ _ _ () _ _ hg rfl hP hD hS dX5_result_119
  have hg := hg.2.2.2.2.2.2.2.2 k37 k38 k42 k43 k45 k47 k60 k94
  refine lv_lookup (off := 130) (tgt := 131) hx hb dX5_result_1 (by decide) (by show Op.lookupswitch.offset [(37, 99), (38, 111), (42, 83), (43, 75), (45, 79), (47, 87), (60, 119), (94, 115)] _ _ = _; rw [lv_osw k37 (by decide), lv_osw k38 (by decide), lv_osw k42 (by decide), lv_osw k43 (by decide), lv_osw k45 (by decide), lv_osw k47 (by decide), lv_osw k60 (by decide), lv_osw k94 (by decide)]; rfl) (by decide) ?_
  refine lv_iload_n hx hb dX5_result_131 rfl (lv_at hl 1 rfl) ?_
  refine lv_iload_n hx hb dX5_result_132 rfl (lv_at hl 2 rfl) ?_
  refine lv_icmp_ne (tgt := 140) hx hb dX5_result_133 (by decide) (fun c_4 => ?_) (fun c_4 => ?_)
  · have hg := hg.2 c_4
    refine lv_iconst (v := 0) hx hb dX5_result_140 (by decide) ?_
    exact hret _ _ _ () _ _ hg rfl hP hD hS dX5_result_141
  · have hg := hg.1 c_4
    refine lv_iconst (v := 1) hx hb dX5_result_136 (by decide) ?_
    refine lv_goto (tgt := 141) hx hb dX5_result_137 (by decide) ?_
    exact hret _ _ _ () _ _ hg rfl hP hD hS dX5_result_141
theorem zv_X0_liftOperation : zV yX0_liftOperation RX0 cX0_liftOperation 5 (some .boolean) 2 := ⟨q_491, q_492, q_5, q_493, by decide +kernel⟩
set_option maxHeartbeats 4000000 in
set_option maxRecDepth 100000 in
theorem c_X0_liftOperation (l : Launch) (G : ZG) (o0 : Nat) (d0 : Nat → Nat) (o1 : Nat) (d1 : Nat → Nat) (x2 : Int32) (S0 : ZS) (S1 : ZS) (Q : Int32 → ZS → Prop) (hg : g_X0_liftOperation x2 S0 S1 Q) : Ki l G yX0_liftOperation cX0_liftOperation 5 .boolean rm_X0_liftOperation [.ref o0, .ref o1, .int x2] (wX0 G o0 d0 S0 ++ (wX4 G o1 d1 S1)) (fun u : ZS => wX0 G o0 d0 u ++ (wX4 G o1 d1 S1)) (fun r u => Q r u) := by
  refine Ki.of (by decide) (Nat.le_of_ble_eq_true rfl) ?_
  intro p e s m args below meth c A QQ ls Cx hret hl hP hD hS
  obtain ⟨hx, hb, hml, hown, hT, hK, hA⟩ := id Cx
  have hl : lv_has ls 5 [(0, .ref o0), (1, .ref o1), (2, .int x2)] := hl
  have J76 : ∀ (S0 : ZS) (H : Heap) (locs : List Loc) (ls : Array Slot), G_X0_liftOperation_76 x2 S1 Q S0 → va_P G.1 classes (wX0 G o0 d0 S0 ++ (wX4 G o1 d1 S1)) H → va_D A (wX0 G o0 d0 S0 ++ (wX4 G o1 d1 S1)) → va_S A s.heap H locs → lv_has ls 5 [(0, .ref o0), (2, .int x2)] → W p l e rm_X0_liftOperation s m args below meth c H locs 0 0 QQ (F0 m 76 ls []) := by
    intro S0 H locs ls hg hP hD hS hl
    refine lv_aload_n hx hb dX0_liftOperation_76 rfl (lv_at hl 0 rfl) ?_
    refine lv_iload_n hx hb dX0_liftOperation_77 rfl (lv_at hl 1 rfl) ?_
    refine lv_iconst (v := 2) hx hb dX0_liftOperation_78 (by decide) ?_
    refine lv_iconst (v := 0) hx hb dX0_liftOperation_79 (by decide) ?_
    refine zcVi (As := [.int x2, .int 2, .int 0]) (rest := []) (C := RX0) Cx (c_X0_lift l G o0 d0 x2 2 0 S0 _ hg) zv_X0_lift q_482 ⟨⟨rfl, rfl⟩, Nat.le_of_ble_eq_true rfl, Nat.le_of_ble_eq_true rfl⟩ (zJ.sub (wr := wX4 G o1 d1 S1) (w2 := (fun u : ZS => wX0 G o0 d0 u ++ (wX4 G o1 d1 S1))) hP hD hS hA [0, 1, 2, 3, 4] [5, 6, 7, 8, 9, 10, 11, 12, 13, 14, 15, 16, 17, 18, 19, 20] [16, 17, 18, 19, 20, 0, 1, 2, 3, 4, 5, 6, 7, 8, 9, 10, 11, 12, 13, 14, 15] rfl rfl (by decide) (fun u => rfl)) hS 0 rfl rfl rfl rfl hl.1 rfl (Nat.le_of_ble_eq_true rfl) dX0_liftOperation_80 (fun r_2 S0_1 H locs hg hP hD hS => ?_)
    have hP : va_P G.1 classes (wX0 G o0 d0 S0_1 ++ (wX4 G o1 d1 S1)) H := hP
    have hD : va_D A (wX0 G o0 d0 S0_1 ++ (wX4 G o1 d1 S1)) := hD
    exact hret _ _ _ (S0_1) _ _ hg.2 hg.1.nar hP hD hS dX0_liftOperation_83
  refine lv_aload_n hx hb dX0_liftOperation_0 rfl (lv_at hl 1 rfl) ?_
  refine va_get (D := G.1) (ci := 3) (v := .ref (d1 6)) (C := RX4) (T := TX4) (N := 17) hx hb hT iX4 hown hK hP 5 rfl rfl 6 (by decide) (hT _ q_84) (fun _ h9 => h9) rfl dX0_liftOperation_1 ?_
  refine lv_iload_n hx hb dX0_liftOperation_4 rfl (lv_at hl 2 rfl) ?_
  refine va_iald hx hb hK hP 10 0 rfl rfl hg.1 dX0_liftOperation_5 ?_
  have hg := hg.2
  refine lv_topi (fun x3_1 ex3_1 => ?_)
  have hg := hg x3_1 ex3_1
  refine lv_istore_n (lv' := [(3, .int x3_1), (0, .ref o0), (1, .ref o1), (2, .int x2)]) hx hb dX0_liftOperation_6 rfl hl (by decide) rfl (fun ls hl => ?_)
  refine lv_aload_n hx hb dX0_liftOperation_7 rfl (lv_at hl 2 rfl) ?_
  refine va_get (D := G.1) (ci := 3) (v := .ref (d1 7)) (C := RX4) (T := TX4) (N := 17) hx hb hT iX4 hown hK hP 5 rfl rfl 7 (by decide) (hT _ q_89) (fun _ h9 => h9) rfl dX0_liftOperation_8 ?_
  refine lv_iload_n hx hb dX0_liftOperation_11 rfl (lv_at hl 3 rfl) ?_
  refine va_iald hx hb hK hP 11 0 rfl rfl hg.1 dX0_liftOperation_12 ?_
  have hg := hg.2
  refine lv_topi (fun x4_2 ex4_2 => ?_)
  have hg := hg x4_2 ex4_2
  refine lv_istore (lv' := [(4, .int x4_2), (3, .int x3_1), (0, .ref o0), (1, .ref o1), (2, .int x2)]) hx hb dX0_liftOperation_13 hl (by decide) rfl (fun ls hl => ?_)
  refine lv_aload_n hx hb dX0_liftOperation_15 rfl (lv_at hl 2 rfl) ?_
  refine va_get (D := G.1) (ci := 0) (v := .ref (d0 0)) (C := RX0) (T := TX0) (N := 4) hx hb hT iX0 hown hK hP 0 rfl rfl 0 (by decide) (hT _ q_199) (fun _ h9 => h9) rfl dX0_liftOperation_16 ?_
  refine lv_iload_n hx hb dX0_liftOperation_19 rfl (lv_at hl 1 rfl) ?_
  refine va_iald hx hb hK hP 1 0 rfl rfl hg.1 dX0_liftOperation_20 ?_
  have hg := hg.2
  refine lv_if_eq (tgt := 34) hx hb dX0_liftOperation_21 (by decide) (fun c_3 => ?_) (fun c_3 => ?_)
  · have hg := hg.1 c_3
    refine lv_iconst (v := 0) hx hb dX0_liftOperation_34 (by decide) ?_
    exact hret _ _ _ (S0) _ _ hg rfl hP hD hS dX0_liftOperation_35
  · have hg := hg.2 c_3
    refine lv_aload_n hx hb dX0_liftOperation_24 rfl (lv_at hl 2 rfl) ?_
    refine va_get (D := G.1) (ci := 0) (v := .ref (d0 0)) (C := RX0) (T := TX0) (N := 4) hx hb hT iX0 hown hK hP 0 rfl rfl 0 (by decide) (hT _ q_199) (fun _ h9 => h9) rfl dX0_liftOperation_25 ?_
    refine lv_iload hx hb dX0_liftOperation_28 (lv_at hl 0 rfl) ?_
    refine va_iald hx hb hK hP 1 0 rfl rfl hg.1 dX0_liftOperation_30 ?_
    have hg := hg.2
    refine lv_if_ne (tgt := 36) hx hb dX0_liftOperation_31 (by decide) (fun c_4 => ?_) (fun c_4 => ?_)
    · have hg := hg.2 c_4
      refine lv_aload_n hx hb dX0_liftOperation_36 rfl (lv_at hl 2 rfl) ?_
      refine va_get (D := G.1) (ci := 0) (v := .ref (d0 0)) (C := RX0) (T := TX0) (N := 4) hx hb hT iX0 hown hK hP 0 rfl rfl 0 (by decide) (hT _ q_199) (fun _ h9 => h9) rfl dX0_liftOperation_37 ?_
      refine lv_iload_n hx hb dX0_liftOperation_40 rfl (lv_at hl 1 rfl) ?_
      refine va_iald hx hb hK hP 1 0 rfl rfl hg.1 dX0_liftOperation_41 ?_
      have hg := hg.2
      refine lv_iconst (v := 2) hx hb dX0_liftOperation_42 (by decide) ?_
      refine lv_icmp_eq (tgt := 76) hx hb dX0_liftOperation_43 (by decide) (fun c_5 => ?_) (fun c_5 => ?_)
      · have hg := hg.1 c_5
        exact J76 _ _ _ _ hg hP hD hS (lv_sub hl [2, 4] rfl)
      · have hg := hg.2 c_5
        refine lv_aload_n hx hb dX0_liftOperation_46 rfl (lv_at hl 2 rfl) ?_
        refine va_get (D := G.1) (ci := 0) (v := .ref (d0 0)) (C := RX0) (T := TX0) (N := 4) hx hb hT iX0 hown hK hP 0 rfl rfl 0 (by decide) (hT _ q_199) (fun _ h9 => h9) rfl dX0_liftOperation_47 ?_
        refine lv_iload hx hb dX0_liftOperation_50 (lv_at hl 0 rfl) ?_
        refine va_iald hx hb hK hP 1 0 rfl rfl hg.1 dX0_liftOperation_52 ?_
        have hg := hg.2
        refine lv_iconst (v := 2) hx hb dX0_liftOperation_53 (by decide) ?_
        refine lv_icmp_eq (tgt := 76) hx hb dX0_liftOperation_54 (by decide) (fun c_6 => ?_) (fun c_6 => ?_)
        · have hg := hg.1 c_6
          exact J76 _ _ _ _ hg hP hD hS (lv_sub hl [2, 4] rfl)
        · have hg := hg.2 c_6
          refine lv_aload_n hx hb dX0_liftOperation_57 rfl (lv_at hl 3 rfl) ?_
          refine va_get (D := G.1) (ci := 3) (v := .ref (d1 5)) (C := RX4) (T := TX4) (N := 17) hx hb hT iX4 hown hK hP 5 rfl rfl 5 (by decide) (hT _ q_79) (fun _ h9 => h9) rfl dX0_liftOperation_58 ?_
          refine lv_iload_n hx hb dX0_liftOperation_61 rfl (lv_at hl 4 rfl) ?_
          refine va_iald hx hb hK hP 9 0 rfl rfl hg.1 dX0_liftOperation_62 ?_
          have hg := hg.2
          refine lv_aload_n hx hb dX0_liftOperation_63 rfl (lv_at hl 2 rfl) ?_
          refine va_get (D := G.1) (ci := 0) (v := .ref (d0 1)) (C := RX0) (T := TX0) (N := 4) hx hb hT iX0 hown hK hP 0 rfl rfl 1 (by decide) (hT _ q_201) (fun _ h9 => h9) rfl dX0_liftOperation_64 ?_
          refine lv_iload hx hb dX0_liftOperation_67 (lv_at hl 0 rfl) ?_
          refine va_iald hx hb hK hP 2 0 rfl rfl hg.1 dX0_liftOperation_69 ?_
          have hg := hg.2
          refine zcSi (As := [.int (S1 5 x2.toNatClampNeg), .int (S0 1 x4_2.toNatClampNeg)]) (rest := []) Cx (c_X5_traps l G (S1 5 x2.toNatClampNeg) (S0 1 x4_2.toNatClampNeg) _ hg) zv_X5_traps q_494 ⟨⟨rfl, rfl⟩, Nat.le_of_ble_eq_true rfl, Nat.le_of_ble_eq_true rfl⟩ (zJ.none (S := Unit) hP hD hS hA) hS rfl hl.1 rfl (Nat.le_of_ble_eq_true rfl) dX0_liftOperation_70 (fun r_7 _u H locs hg hP hD hS => ?_)
          refine lv_if_eq (tgt := 84) hx hb dX0_liftOperation_73 (by decide) (fun c_8 => ?_) (fun c_8 => ?_)
          · have hg := hg.1 c_8
            refine lv_aload_n hx hb dX0_liftOperation_84 rfl (lv_at hl 2 rfl) ?_
            refine lv_iload_n hx hb dX0_liftOperation_85 rfl (lv_at hl 4 rfl) ?_
            refine lv_iconst (v := 1) hx hb dX0_liftOperation_86 (by decide) ?_
            refine lv_aload_n hx hb dX0_liftOperation_87 rfl (lv_at hl 3 rfl) ?_
            refine va_get (D := G.1) (ci := 3) (v := .ref (d1 5)) (C := RX4) (T := TX4) (N := 17) hx hb hT iX4 hown hK hP 5 rfl rfl 5 (by decide) (hT _ q_79) (fun _ h9 => h9) rfl dX0_liftOperation_88 ?_
            refine lv_iload_n hx hb dX0_liftOperation_91 rfl (lv_at hl 4 rfl) ?_
            refine va_iald hx hb hK hP 9 0 rfl rfl hg.1 dX0_liftOperation_92 ?_
            have hg := hg.2
            refine lv_aload_n hx hb dX0_liftOperation_93 rfl (lv_at hl 2 rfl) ?_
            refine va_get (D := G.1) (ci := 0) (v := .ref (d0 1)) (C := RX0) (T := TX0) (N := 4) hx hb hT iX0 hown hK hP 0 rfl rfl 1 (by decide) (hT _ q_201) (fun _ h9 => h9) rfl dX0_liftOperation_94 ?_
            refine lv_iload_n hx hb dX0_liftOperation_97 rfl (lv_at hl 1 rfl) ?_
            refine va_iald hx hb hK hP 2 0 rfl rfl hg.1 dX0_liftOperation_98 ?_
            have hg := hg.2
            refine lv_aload_n hx hb dX0_liftOperation_99 rfl (lv_at hl 2 rfl) ?_
            refine va_get (D := G.1) (ci := 0) (v := .ref (d0 1)) (C := RX0) (T := TX0) (N := 4) hx hb hT iX0 hown hK hP 0 rfl rfl 1 (by decide) (hT _ q_201) (fun _ h9 => h9) rfl dX0_liftOperation_100 ?_
            refine lv_iload hx hb dX0_liftOperation_103 (lv_at hl 0 rfl) ?_
            refine va_iald hx hb hK hP 2 0 rfl rfl hg.1 dX0_liftOperation_105 ?_
            have hg := hg.2
            refine zcSi (As := [.int (S1 5 x2.toNatClampNeg), .int (S0 1 x3_1.toNatClampNeg), .int (S0 1 x4_2.toNatClampNeg)]) (rest := [.int 1, .int x2, .ref o0]) Cx (c_X5_result l G (S1 5 x2.toNatClampNeg) (S0 1 x3_1.toNatClampNeg) (S0 1 x4_2.toNatClampNeg) _ hg) zv_X5_result q_497 ⟨⟨rfl, rfl⟩, Nat.le_of_ble_eq_true rfl, Nat.le_of_ble_eq_true rfl⟩ (zJ.none (S := Unit) hP hD hS hA) hS rfl hl.1 rfl (Nat.le_of_ble_eq_true rfl) dX0_liftOperation_106 (fun r_9 _u H locs hg hP hD hS => ?_)
            refine zcVi (As := [.int x2, .int 1, .int r_9]) (rest := []) (C := RX0) Cx (c_X0_lift l G o0 d0 x2 1 r_9 S0 _ hg) zv_X0_lift q_482 ⟨⟨rfl, rfl⟩, Nat.le_of_ble_eq_true rfl, Nat.le_of_ble_eq_true rfl⟩ (zJ.sub (wr := wX4 G o1 d1 S1) (w2 := (fun u : ZS => wX0 G o0 d0 u ++ (wX4 G o1 d1 S1))) hP hD hS hA [0, 1, 2, 3, 4] [5, 6, 7, 8, 9, 10, 11, 12, 13, 14, 15, 16, 17, 18, 19, 20] [16, 17, 18, 19, 20, 0, 1, 2, 3, 4, 5, 6, 7, 8, 9, 10, 11, 12, 13, 14, 15] rfl rfl (by decide) (fun u => rfl)) hS 0 rfl rfl rfl rfl hl.1 rfl (Nat.le_of_ble_eq_true rfl) dX0_liftOperation_109 (fun r_11 S0_10 H locs hg hP hD hS => ?_)
            have hP : va_P G.1 classes (wX0 G o0 d0 S0_10 ++ (wX4 G o1 d1 S1)) H := hP
            have hD : va_D A (wX0 G o0 d0 S0_10 ++ (wX4 G o1 d1 S1)) := hD
            exact hret _ _ _ (S0_10) _ _ hg.2 hg.1.nar hP hD hS dX0_liftOperation_112
          · have hg := hg.2 c_8
            exact J76 _ _ _ _ hg hP hD hS (lv_sub hl [2, 4] rfl)
    · have hg := hg.1 c_4
      refine lv_iconst (v := 0) hx hb dX0_liftOperation_34 (by decide) ?_
      exact hret _ _ _ (S0) _ _ hg rfl hP hD hS dX0_liftOperation_35
theorem zv_X0_isOpen : zV yX0_isOpen RX0 cX0_isOpen 5 (some .boolean) 3 := ⟨q_505, q_506, q_5, q_507, by decide +kernel⟩
set_option maxHeartbeats 4000000 in
set_option maxRecDepth 100000 in
theorem c_X0_isOpen (l : Launch) (G : ZG) (o0 : Nat) (d0 : Nat → Nat) (o1 : Nat) (d1 : Nat → Nat) (x2 : Int32) (x3 : Int32) (S0 : ZS) (S1 : ZS) (Q : Int32 → Prop) (hg : g_X0_isOpen x2 x3 S0 S1 Q) : Ki l G yX0_isOpen cX0_isOpen 5 .boolean rm_X0_isOpen [.ref o0, .ref o1, .int x2, .int x3] (wX0 G o0 d0 S0 ++ (wX2 G o1 d1 S1)) (fun _ : Unit => wX0 G o0 d0 S0 ++ (wX2 G o1 d1 S1)) (fun r _ => Q r ) := by
  refine Ki.of (by decide) (Nat.le_of_ble_eq_true rfl) ?_
  intro p e s m args below meth c A QQ ls Cx hret hl hP hD hS
  obtain ⟨hx, hb, hml, hown, hT, hK, hA⟩ := id Cx
  have hl : lv_has ls 5 [(0, .ref o0), (1, .ref o1), (2, .int x2), (3, .int x3)] := hl
  have L5 : ∀ (n : Nat) (x4 : Int32) (H : Heap) (locs : List Loc) (ls : Array Slot), fx (F_X0_isOpen_5 x2 x3 S0 S1 Q) n x4 → va_P G.1 classes (wX0 G o0 d0 S0 ++ (wX2 G o1 d1 S1)) H → va_D A (wX0 G o0 d0 S0 ++ (wX2 G o1 d1 S1)) → va_S A s.heap H locs → lv_has ls 5 [(0, .ref o0), (1, .ref o1), (2, .int x2), (3, .int x3), (4, .int x4)] → W p l e rm_X0_isOpen s m args below meth c H locs 0 0 QQ (F0 m 5 ls []) := by
    intro n
    induction n with
    | zero => intro x4 H locs ls hg; exact hg.elim
    | succ n ih =>
      have hX5 := ih
      intro x4 H locs ls hg hP hD hS hl
      refine lv_iload hx hb dX0_isOpen_5 (lv_at hl 4 rfl) ?_
      refine lv_iconst (v := 2) hx hb dX0_isOpen_7 (by decide) ?_
      refine lv_iload_n hx hb dX0_isOpen_8 rfl (lv_at hl 2 rfl) ?_
      refine lv_imul hx hb dX0_isOpen_9 ?_
      refine lv_iconst (v := 2) hx hb dX0_isOpen_10 (by decide) ?_
      refine lv_iadd hx hb dX0_isOpen_11 ?_
      refine lv_icmp_ge (tgt := 45) hx hb dX0_isOpen_12 (by decide) (fun c_1 => ?_) (fun c_1 => ?_)
      · have hg := hg.1 c_1
        refine lv_iconst (v := 0) hx hb dX0_isOpen_45 (by decide) ?_
        exact hret _ _ _ () _ _ hg rfl hP hD hS dX0_isOpen_46
      · have hg := hg.2 c_1
        refine lv_aload_n hx hb dX0_isOpen_15 rfl (lv_at hl 0 rfl) ?_
        refine va_get (D := G.1) (ci := 0) (v := .ref (d0 3)) (C := RX0) (T := TX0) (N := 4) hx hb hT iX0 hown hK hP 0 rfl rfl 3 (by decide) (hT _ q_205) (fun _ h9 => h9) rfl dX0_isOpen_16 ?_
        refine lv_iload hx hb dX0_isOpen_19 (lv_at hl 4 rfl) ?_
        refine va_iald hx hb hK hP 4 0 rfl rfl hg.1 dX0_isOpen_21 ?_
        have hg := hg.2
        refine lv_iconst (v := 1) hx hb dX0_isOpen_22 (by decide) ?_
        refine lv_icmp_ne (tgt := 39) hx hb dX0_isOpen_23 (by decide) (fun c_2 => ?_) (fun c_2 => ?_)
        · have hg := hg.2 c_2
          obtain ⟨x4_3, ex4_3⟩ : ∃ y : Int32, y = x4 + 1 := ⟨_, rfl⟩
          have hg := hg x4_3 ex4_3
          refine lv_iinc (v := x4_3) (lv' := [(4, .int x4_3), (0, .ref o0), (1, .ref o1), (2, .int x2), (3, .int x3)]) hx hb dX0_isOpen_39 hl (k := 4) rfl (by rw [ex4_3]; rfl) (by decide) rfl (fun ls hl => ?_)
          refine lv_goto (tgt := 5) hx hb dX0_isOpen_42 (by decide) ?_
          exact hX5 _ _ _ _ hg hP hD hS (lv_sub hl [1, 2, 3, 4, 0] rfl)
        · have hg := hg.1 c_2
          refine lv_aload_n hx hb dX0_isOpen_26 rfl (lv_at hl 1 rfl) ?_
          refine va_get (D := G.1) (ci := 2) (v := .ref (d1 4)) (C := RX2) (T := TX2) (N := 5) hx hb hT iX2 hown hK hP 5 rfl rfl 4 (by decide) (hT _ q_180) (fun _ h9 => h9) rfl dX0_isOpen_27 ?_
          refine lv_iload hx hb dX0_isOpen_30 (lv_at hl 4 rfl) ?_
          refine va_iald hx hb hK hP 10 0 rfl rfl hg.1 dX0_isOpen_32 ?_
          have hg := hg.2
          refine lv_iload_n hx hb dX0_isOpen_33 rfl (lv_at hl 3 rfl) ?_
          refine lv_icmp_ne (tgt := 39) hx hb dX0_isOpen_34 (by decide) (fun c_4 => ?_) (fun c_4 => ?_)
          · have hg := hg.2 c_4
            obtain ⟨x4_5, ex4_5⟩ : ∃ y : Int32, y = x4 + 1 := ⟨_, rfl⟩
            have hg := hg x4_5 ex4_5
            refine lv_iinc (v := x4_5) (lv' := [(4, .int x4_5), (0, .ref o0), (1, .ref o1), (2, .int x2), (3, .int x3)]) hx hb dX0_isOpen_39 hl (k := 4) rfl (by rw [ex4_5]; rfl) (by decide) rfl (fun ls hl => ?_)
            refine lv_goto (tgt := 5) hx hb dX0_isOpen_42 (by decide) ?_
            exact hX5 _ _ _ _ hg hP hD hS (lv_sub hl [1, 2, 3, 4, 0] rfl)
          · have hg := hg.1 c_4
            refine lv_iconst (v := 1) hx hb dX0_isOpen_37 (by decide) ?_
            exact hret _ _ _ () _ _ hg rfl hP hD hS dX0_isOpen_38
  refine lv_iconst (v := 2) hx hb dX0_isOpen_0 (by decide) ?_
  refine lv_iload_n hx hb dX0_isOpen_1 rfl (lv_at hl 2 rfl) ?_
  refine lv_imul hx hb dX0_isOpen_2 ?_
  refine lv_topi (fun x4_1 ex4_1 => ?_)
  have hg := hg x4_1 ex4_1
  refine lv_istore (lv' := [(4, .int x4_1), (0, .ref o0), (1, .ref o1), (2, .int x2), (3, .int x3)]) hx hb dX0_isOpen_3 hl (by decide) rfl (fun ls hl => ?_)
  obtain ⟨n, hg⟩ := hg
  exact L5 n _ _ _ _ hg hP hD hS (lv_sub hl [1, 2, 3, 4, 0] rfl)
theorem zv_X0_liftJoin : zV yX0_liftJoin RX0 cX0_liftJoin 7 (some .boolean) 3 := ⟨q_501, q_502, q_5, q_503, by decide +kernel⟩
set_option maxHeartbeats 4000000 in
set_option maxRecDepth 100000 in
theorem c_X0_liftJoin (l : Launch) (G : ZG) (o0 : Nat) (d0 : Nat → Nat) (o1 : Nat) (d1 : Nat → Nat) (o2 : Nat) (d2 : Nat → Nat) (x3 : Int32) (S0 : ZS) (S1 : ZS) (S2 : ZS) (Q : Int32 → ZS → Prop) (hg : g_X0_liftJoin x3 S0 S1 S2 Q) : Ki l G yX0_liftJoin cX0_liftJoin 7 .boolean rm_X0_liftJoin [.ref o0, .ref o1, .ref o2, .int x3] (wX0 G o0 d0 S0 ++ (wX4 G o1 d1 S1 ++ (wX2 G o2 d2 S2))) (fun u : ZS => wX0 G o0 d0 u ++ (wX4 G o1 d1 S1 ++ (wX2 G o2 d2 S2))) (fun r u => Q r u) := by
  refine Ki.of (by decide) (Nat.le_of_ble_eq_true rfl) ?_
  intro p e s m args below meth c A QQ ls Cx hret hl hP hD hS
  obtain ⟨hx, hb, hml, hown, hT, hK, hA⟩ := id Cx
  have hl : lv_has ls 7 [(0, .ref o0), (1, .ref o1), (2, .ref o2), (3, .int x3)] := hl
  have L8 : ∀ (n : Nat) (x4 : Int32) (x5 : Int32) (S0 : ZS) (H : Heap) (locs : List Loc) (ls : Array Slot), fx (F_X0_liftJoin_8 x3 S1 S2 Q) n (x4, x5, S0) → va_P G.1 classes (wX0 G o0 d0 S0 ++ (wX4 G o1 d1 S1 ++ (wX2 G o2 d2 S2))) H → va_D A (wX0 G o0 d0 S0 ++ (wX4 G o1 d1 S1 ++ (wX2 G o2 d2 S2))) → va_S A s.heap H locs → lv_has ls 7 [(0, .ref o0), (1, .ref o1), (2, .ref o2), (3, .int x3), (4, .int x4), (5, .int x5)] → W p l e rm_X0_liftJoin s m args below meth c H locs 0 0 QQ (F0 m 8 ls []) := by
    intro n
    induction n with
    | zero => intro x4 x5 S0 H locs ls hg; exact hg.elim
    | succ n ih =>
      have hX8 := ih
      intro x4 x5 S0 H locs ls hg hP hD hS hl
      refine lv_iload hx hb dX0_liftJoin_8 (lv_at hl 5 rfl) ?_
      refine lv_iconst (v := 3) hx hb dX0_liftJoin_10 (by decide) ?_
      refine lv_iload_n hx hb dX0_liftJoin_11 rfl (lv_at hl 3 rfl) ?_
      refine lv_imul hx hb dX0_liftJoin_12 ?_
      refine lv_aload_n hx hb dX0_liftJoin_13 rfl (lv_at hl 1 rfl) ?_
      refine va_get (D := G.1) (ci := 3) (v := .ref (d1 8)) (C := RX4) (T := TX4) (N := 17) hx hb hT iX4 hown hK hP 5 rfl rfl 8 (by decide) (hT _ q_94) (fun _ h9 => h9) rfl dX0_liftJoin_14 ?_
      refine lv_iload_n hx hb dX0_liftJoin_17 rfl (lv_at hl 3 rfl) ?_
      refine va_iald hx hb hK hP 12 0 rfl rfl hg.1 dX0_liftJoin_18 ?_
      have hg := hg.2
      refine lv_iadd hx hb dX0_liftJoin_19 ?_
      refine lv_icmp_ge (tgt := 83) hx hb dX0_liftJoin_20 (by decide) (fun c_1 => ?_) (fun c_1 => ?_)
      · have hg := hg.1 c_1
        refine lv_iload hx hb dX0_liftJoin_83 (lv_at hl 4 rfl) ?_
        exact hret _ _ _ (S0) _ _ hg.2 hg.1.nar hP hD hS dX0_liftJoin_85
      · have hg := hg.2 c_1
        refine lv_aload_n hx hb dX0_liftJoin_23 rfl (lv_at hl 1 rfl) ?_
        refine va_get (D := G.1) (ci := 3) (v := .ref (d1 10)) (C := RX4) (T := TX4) (N := 17) hx hb hT iX4 hown hK hP 5 rfl rfl 10 (by decide) (hT _ q_100) (fun _ h9 => h9) rfl dX0_liftJoin_24 ?_
        refine lv_iload hx hb dX0_liftJoin_27 (lv_at hl 5 rfl) ?_
        refine va_iald hx hb hK hP 14 0 rfl rfl hg.1 dX0_liftJoin_29 ?_
        have hg := hg.2
        refine lv_topi (fun x6_2 ex6_2 => ?_)
        have hg := hg x6_2 ex6_2
        refine lv_istore (lv' := [(6, .int x6_2), (0, .ref o0), (1, .ref o1), (2, .ref o2), (3, .int x3), (4, .int x4), (5, .int x5)]) hx hb dX0_liftJoin_30 hl (by decide) rfl (fun ls hl => ?_)
        refine lv_aload_n hx hb dX0_liftJoin_32 rfl (lv_at hl 1 rfl) ?_
        refine lv_aload_n hx hb dX0_liftJoin_33 rfl (lv_at hl 3 rfl) ?_
        refine lv_aload_n hx hb dX0_liftJoin_34 rfl (lv_at hl 2 rfl) ?_
        refine va_get (D := G.1) (ci := 3) (v := .ref (d1 9)) (C := RX4) (T := TX4) (N := 17) hx hb hT iX4 hown hK hP 5 rfl rfl 9 (by decide) (hT _ q_97) (fun _ h9 => h9) rfl dX0_liftJoin_35 ?_
        refine lv_iload hx hb dX0_liftJoin_38 (lv_at hl 6 rfl) ?_
        refine va_iald hx hb hK hP 13 0 rfl rfl hg.1 dX0_liftJoin_40 ?_
        have hg := hg.2
        refine lv_aload_n hx hb dX0_liftJoin_41 rfl (lv_at hl 2 rfl) ?_
        refine va_get (D := G.1) (ci := 3) (v := .ref (d1 2)) (C := RX4) (T := TX4) (N := 17) hx hb hT iX4 hown hK hP 5 rfl rfl 2 (by decide) (hT _ q_69) (fun _ h9 => h9) rfl dX0_liftJoin_42 ?_
        refine lv_iload_n hx hb dX0_liftJoin_45 rfl (lv_at hl 4 rfl) ?_
        refine va_iald hx hb hK hP 6 0 rfl rfl hg.1 dX0_liftJoin_46 ?_
        have hg := hg.2
        refine zcVi (As := [.ref o2, .int (S1 9 x5.toNatClampNeg), .int (S1 2 x3.toNatClampNeg)]) (rest := []) (C := RX0) Cx (c_X0_isOpen l G o0 d0 o2 d2 (S1 9 x5.toNatClampNeg) (S1 2 x3.toNatClampNeg) S0 S2 _ hg) zv_X0_isOpen q_504 ⟨⟨rfl, rfl⟩, Nat.le_of_ble_eq_true rfl, Nat.le_of_ble_eq_true rfl⟩ (zJ.sub (wr := wX4 G o1 d1 S1) (w2 := (fun u : Unit => wX0 G o0 d0 S0 ++ (wX4 G o1 d1 S1 ++ (wX2 G o2 d2 S2)))) hP hD hS hA [0, 1, 2, 3, 4, 21, 22, 23, 24, 25, 26] [5, 6, 7, 8, 9, 10, 11, 12, 13, 14, 15, 16, 17, 18, 19, 20] [16, 17, 18, 19, 20, 0, 1, 2, 3, 4, 5, 6, 7, 8, 9, 10, 11, 12, 13, 14, 15, 21, 22, 23, 24, 25, 26] rfl rfl (by decide) (fun u => rfl)) hS 0 rfl rfl rfl rfl hl.1 rfl (Nat.le_of_ble_eq_true rfl) dX0_liftJoin_47 (fun r_3 _u H locs hg hP hD hS => ?_)
        refine lv_if_eq (tgt := 77) hx hb dX0_liftJoin_50 (by decide) (fun c_4 => ?_) (fun c_4 => ?_)
        · have hg := hg.1 c_4
          obtain ⟨x5_5, ex5_5⟩ : ∃ y : Int32, y = x5 + 1 := ⟨_, rfl⟩
          have hg := hg x5_5 ex5_5
          refine lv_iinc (v := x5_5) (lv' := [(5, .int x5_5), (6, .int x6_2), (0, .ref o0), (1, .ref o1), (2, .ref o2), (3, .int x3), (4, .int x4)]) hx hb dX0_liftJoin_77 hl (k := 6) rfl (by rw [ex5_5]; rfl) (by decide) rfl (fun ls hl => ?_)
          refine lv_goto (tgt := 8) hx hb dX0_liftJoin_80 (by decide) ?_
          exact hX8 _ _ _ _ _ _ hg hP hD hS (lv_sub hl [2, 3, 4, 5, 6, 0] rfl)
        · have hg := hg.2 c_4
          refine lv_iload hx hb dX0_liftJoin_53 (lv_at hl 5 rfl) ?_
          refine lv_aload_n hx hb dX0_liftJoin_55 rfl (lv_at hl 1 rfl) ?_
          refine lv_iload_n hx hb dX0_liftJoin_56 rfl (lv_at hl 4 rfl) ?_
          refine lv_aload_n hx hb dX0_liftJoin_57 rfl (lv_at hl 1 rfl) ?_
          refine va_get (D := G.1) (ci := 0) (v := .ref (d0 0)) (C := RX0) (T := TX0) (N := 4) hx hb hT iX0 hown hK hP 0 rfl rfl 0 (by decide) (hT _ q_199) (fun _ h9 => h9) rfl dX0_liftJoin_58 ?_
          refine lv_iload hx hb dX0_liftJoin_61 (lv_at hl 0 rfl) ?_
          refine va_iald hx hb hK hP 1 0 rfl rfl hg.1 dX0_liftJoin_63 ?_
          have hg := hg.2
          refine lv_aload_n hx hb dX0_liftJoin_64 rfl (lv_at hl 1 rfl) ?_
          refine va_get (D := G.1) (ci := 0) (v := .ref (d0 1)) (C := RX0) (T := TX0) (N := 4) hx hb hT iX0 hown hK hP 0 rfl rfl 1 (by decide) (hT _ q_201) (fun _ h9 => h9) rfl dX0_liftJoin_65 ?_
          refine lv_iload hx hb dX0_liftJoin_68 (lv_at hl 0 rfl) ?_
          refine va_iald hx hb hK hP 2 0 rfl rfl hg.1 dX0_liftJoin_70 ?_
          have hg := hg.2
          refine zcVi (As := [.int x3, .int (S0 0 x6_2.toNatClampNeg), .int (S0 1 x6_2.toNatClampNeg)]) (rest := [.int x4]) (C := RX0) Cx (c_X0_lift l G o0 d0 x3 (S0 0 x6_2.toNatClampNeg) (S0 1 x6_2.toNatClampNeg) S0 _ hg) zv_X0_lift q_482 ⟨⟨rfl, rfl⟩, Nat.le_of_ble_eq_true rfl, Nat.le_of_ble_eq_true rfl⟩ (zJ.sub (wr := wX4 G o1 d1 S1 ++ (wX2 G o2 d2 S2)) (w2 := (fun u : ZS => wX0 G o0 d0 u ++ (wX4 G o1 d1 S1 ++ (wX2 G o2 d2 S2)))) hP hD hS hA [0, 1, 2, 3, 4] [5, 6, 7, 8, 9, 10, 11, 12, 13, 14, 15, 16, 17, 18, 19, 20, 21, 22, 23, 24, 25, 26] [22, 23, 24, 25, 26, 0, 1, 2, 3, 4, 5, 6, 7, 8, 9, 10, 11, 12, 13, 14, 15, 16, 17, 18, 19, 20, 21] rfl rfl (by decide) (fun u => rfl)) hS 0 rfl rfl rfl rfl hl.1 rfl (Nat.le_of_ble_eq_true rfl) dX0_liftJoin_71 (fun r_7 S0_6 H locs hg hP hD hS => ?_)
          have hP : va_P G.1 classes (wX0 G o0 d0 S0_6 ++ (wX4 G o1 d1 S1 ++ (wX2 G o2 d2 S2))) H := hP
          have hD : va_D A (wX0 G o0 d0 S0_6 ++ (wX4 G o1 d1 S1 ++ (wX2 G o2 d2 S2))) := hD
          refine lv_ior hx hb dX0_liftJoin_74 ?_
          refine lv_topi (fun x4_8 ex4_8 => ?_)
          have hg := hg x4_8 ex4_8
          refine lv_istore (lv' := [(4, .int x4_8), (6, .int x6_2), (0, .ref o0), (1, .ref o1), (2, .ref o2), (3, .int x3), (5, .int x5)]) hx hb dX0_liftJoin_75 hl (by decide) rfl (fun ls hl => ?_)
          obtain ⟨x5_9, ex5_9⟩ : ∃ y : Int32, y = x5 + 1 := ⟨_, rfl⟩
          have hg := hg x5_9 ex5_9
          refine lv_iinc (v := x5_9) (lv' := [(5, .int x5_9), (4, .int x4_8), (6, .int x6_2), (0, .ref o0), (1, .ref o1), (2, .ref o2), (3, .int x3)]) hx hb dX0_liftJoin_77 hl (k := 6) rfl (by rw [ex5_9]; rfl) (by decide) rfl (fun ls hl => ?_)
          refine lv_goto (tgt := 8) hx hb dX0_liftJoin_80 (by decide) ?_
          exact hX8 _ _ _ _ _ _ hg hP hD hS (lv_sub hl [3, 4, 5, 6, 1, 0] rfl)
  refine lv_iconst (v := 0) hx hb dX0_liftJoin_0 (by decide) ?_
  refine lv_istore (lv' := [(4, .int 0), (0, .ref o0), (1, .ref o1), (2, .ref o2), (3, .int x3)]) hx hb dX0_liftJoin_1 hl (by decide) rfl (fun ls hl => ?_)
  refine lv_iconst (v := 3) hx hb dX0_liftJoin_3 (by decide) ?_
  refine lv_iload_n hx hb dX0_liftJoin_4 rfl (lv_at hl 4 rfl) ?_
  refine lv_imul hx hb dX0_liftJoin_5 ?_
  refine lv_topi (fun x5_1 ex5_1 => ?_)
  have hg := hg x5_1 ex5_1
  refine lv_istore (lv' := [(5, .int x5_1), (4, .int 0), (0, .ref o0), (1, .ref o1), (2, .ref o2), (3, .int x3)]) hx hb dX0_liftJoin_6 hl (by decide) rfl (fun ls hl => ?_)
  obtain ⟨n, hg⟩ := hg
  exact L8 n _ _ _ _ _ _ hg hP hD hS (lv_sub hl [2, 3, 4, 5, 1, 0] rfl)
theorem zv_X0_liftNames : zV yX0_liftNames RX0 cX0_liftNames 7 (some .boolean) 4 := ⟨q_479, q_480, q_5, q_481, by decide +kernel⟩
set_option maxHeartbeats 4000000 in
set_option maxRecDepth 100000 in
theorem c_X0_liftNames (l : Launch) (G : ZG) (o0 : Nat) (d0 : Nat → Nat) (o1 : Nat) (d1 : Nat → Nat) (o2 : Nat) (d2 : Nat → Nat) (x3 : Int32) (x4 : Int32) (S0 : ZS) (S1 : ZS) (S2 : ZS) (Q : Int32 → ZS → Prop) (hg : g_X0_liftNames x3 x4 S0 S1 S2 Q) : Ki l G yX0_liftNames cX0_liftNames 7 .boolean rm_X0_liftNames [.ref o0, .ref o1, .ref o2, .int x3, .int x4] (wX0 G o0 d0 S0 ++ (wX4 G o1 d1 S1 ++ (wX2 G o2 d2 S2))) (fun u : ZS => wX0 G o0 d0 u ++ (wX4 G o1 d1 S1 ++ (wX2 G o2 d2 S2))) (fun r u => Q r u) := by
  refine Ki.of (by decide) (Nat.le_of_ble_eq_true rfl) ?_
  intro p e s m args below meth c A QQ ls Cx hret hl hP hD hS
  obtain ⟨hx, hb, hml, hown, hT, hK, hA⟩ := id Cx
  have hl : lv_has ls 7 [(0, .ref o0), (1, .ref o1), (2, .ref o2), (3, .int x3), (4, .int x4)] := hl
  have J114 : ∀ (X11 : Int32 × Int32 × ZS → Prop) (hX11 : ∀ (x5 : Int32) (x6 : Int32) (S0 : ZS) (H : Heap) (locs : List Loc) (ls : Array Slot), X11 (x5, x6, S0) → va_P G.1 classes (wX0 G o0 d0 S0 ++ (wX4 G o1 d1 S1 ++ (wX2 G o2 d2 S2))) H → va_D A (wX0 G o0 d0 S0 ++ (wX4 G o1 d1 S1 ++ (wX2 G o2 d2 S2))) → va_S A s.heap H locs → lv_has ls 7 [(0, .ref o0), (1, .ref o1), (2, .ref o2), (3, .int x3), (4, .int x4), (5, .int x5), (6, .int x6)] → W p l e rm_X0_liftNames s m args below meth c H locs 0 0 QQ (F0 m 11 ls [])) (x6 : Int32) (t0 : Int32) (t2 : Int32) (t3 : Int32) (S0 : ZS) (H : Heap) (locs : List Loc) (ls : Array Slot), G_X0_liftNames_114 x3 x4 S1 S2 Q X11 x6 t0 t2 t3 S0 → va_P G.1 classes (wX0 G o0 d0 S0 ++ (wX4 G o1 d1 S1 ++ (wX2 G o2 d2 S2))) H → va_D A (wX0 G o0 d0 S0 ++ (wX4 G o1 d1 S1 ++ (wX2 G o2 d2 S2))) → va_S A s.heap H locs → lv_has ls 7 [(0, .ref o0), (1, .ref o1), (2, .ref o2), (3, .int x3), (4, .int x4), (6, .int x6)] → W p l e rm_X0_liftNames s m args below meth c H locs 0 0 QQ (F0 m 114 ls [.int t3, .int t2, .ref o0, .int t0]) := by
    intro X11 hX11 x6 t0 t2 t3 S0 H locs ls hg hP hD hS hl
    refine lv_aload_n hx hb dX0_liftNames_114 rfl (lv_at hl 2 rfl) ?_
    refine lv_iload hx hb dX0_liftNames_115 (lv_at hl 5 rfl) ?_
    refine zcVi (As := [.int x6]) (rest := [.int t3, .int t2, .ref o0, .int t0]) (C := RX2) Cx (c_X2_inputOf l G o2 d2 x6 S2 _ hg) zv_X2_inputOf q_486 ⟨⟨rfl, rfl⟩, Nat.le_of_ble_eq_true rfl, Nat.le_of_ble_eq_true rfl⟩ (zJ.sub (wr := wX0 G o0 d0 S0 ++ (wX4 G o1 d1 S1)) (w2 := (fun u : Unit => wX0 G o0 d0 S0 ++ (wX4 G o1 d1 S1 ++ (wX2 G o2 d2 S2)))) hP hD hS hA [21, 22, 23, 24, 25, 26] [0, 1, 2, 3, 4, 5, 6, 7, 8, 9, 10, 11, 12, 13, 14, 15, 16, 17, 18, 19, 20] [0, 1, 2, 3, 4, 5, 6, 7, 8, 9, 10, 11, 12, 13, 14, 15, 16, 17, 18, 19, 20, 21, 22, 23, 24, 25, 26] rfl rfl (by decide) (fun u => rfl)) hS 2 rfl rfl rfl rfl hl.1 rfl (Nat.le_of_ble_eq_true rfl) dX0_liftNames_117 (fun r_1 _u H locs hg hP hD hS => ?_)
    refine zcVi (As := [.int t2, .int t3, .int r_1]) (rest := [.int t0]) (C := RX0) Cx (c_X0_lift l G o0 d0 t2 t3 r_1 S0 _ hg) zv_X0_lift q_482 ⟨⟨rfl, rfl⟩, Nat.le_of_ble_eq_true rfl, Nat.le_of_ble_eq_true rfl⟩ (zJ.sub (wr := wX4 G o1 d1 S1 ++ (wX2 G o2 d2 S2)) (w2 := (fun u : ZS => wX0 G o0 d0 u ++ (wX4 G o1 d1 S1 ++ (wX2 G o2 d2 S2)))) hP hD hS hA [0, 1, 2, 3, 4] [5, 6, 7, 8, 9, 10, 11, 12, 13, 14, 15, 16, 17, 18, 19, 20, 21, 22, 23, 24, 25, 26] [22, 23, 24, 25, 26, 0, 1, 2, 3, 4, 5, 6, 7, 8, 9, 10, 11, 12, 13, 14, 15, 16, 17, 18, 19, 20, 21] rfl rfl (by decide) (fun u => rfl)) hS 0 rfl rfl rfl rfl hl.1 rfl (Nat.le_of_ble_eq_true rfl) dX0_liftNames_120 (fun r_3 S0_2 H locs hg hP hD hS => ?_)
    have hP : va_P G.1 classes (wX0 G o0 d0 S0_2 ++ (wX4 G o1 d1 S1 ++ (wX2 G o2 d2 S2))) H := hP
    have hD : va_D A (wX0 G o0 d0 S0_2 ++ (wX4 G o1 d1 S1 ++ (wX2 G o2 d2 S2))) := hD
    refine lv_ior hx hb dX0_liftNames_123 ?_
    refine lv_topi (fun x5_4 ex5_4 => ?_)
    have hg := hg x5_4 ex5_4
    refine lv_istore (lv' := [(5, .int x5_4), (0, .ref o0), (1, .ref o1), (2, .ref o2), (3, .int x3), (4, .int x4), (6, .int x6)]) hx hb dX0_liftNames_124 hl (by decide) rfl (fun ls hl => ?_)
    refine lv_goto (tgt := 157) hx hb dX0_liftNames_126 (by decide) ?_
    obtain ⟨x6_5, ex6_5⟩ : ∃ y : Int32, y = x6 + 1 := ⟨_, rfl⟩
    have hg := hg x6_5 ex6_5
    refine lv_iinc (v := x6_5) (lv' := [(6, .int x6_5), (5, .int x5_4), (0, .ref o0), (1, .ref o1), (2, .ref o2), (3, .int x3), (4, .int x4)]) hx hb dX0_liftNames_157 hl (k := 6) rfl (by rw [ex6_5]; rfl) (by decide) rfl (fun ls hl => ?_)
    refine lv_goto (tgt := 11) hx hb dX0_liftNames_160 (by decide) ?_
    exact hX11 _ _ _ _ _ _ hg hP hD hS (lv_sub hl [2, 3, 4, 5, 6, 1, 0] rfl)
  have J109 : ∀ (X11 : Int32 × Int32 × ZS → Prop) (hX11 : ∀ (x5 : Int32) (x6 : Int32) (S0 : ZS) (H : Heap) (locs : List Loc) (ls : Array Slot), X11 (x5, x6, S0) → va_P G.1 classes (wX0 G o0 d0 S0 ++ (wX4 G o1 d1 S1 ++ (wX2 G o2 d2 S2))) H → va_D A (wX0 G o0 d0 S0 ++ (wX4 G o1 d1 S1 ++ (wX2 G o2 d2 S2))) → va_S A s.heap H locs → lv_has ls 7 [(0, .ref o0), (1, .ref o1), (2, .ref o2), (3, .int x3), (4, .int x4), (5, .int x5), (6, .int x6)] → W p l e rm_X0_liftNames s m args below meth c H locs 0 0 QQ (F0 m 11 ls [])) (x6 : Int32) (t0 : Int32) (t2 : Int32) (S0 : ZS) (H : Heap) (locs : List Loc) (ls : Array Slot), G_X0_liftNames_109 x3 x4 S1 S2 Q X11 x6 t0 t2 S0 → va_P G.1 classes (wX0 G o0 d0 S0 ++ (wX4 G o1 d1 S1 ++ (wX2 G o2 d2 S2))) H → va_D A (wX0 G o0 d0 S0 ++ (wX4 G o1 d1 S1 ++ (wX2 G o2 d2 S2))) → va_S A s.heap H locs → lv_has ls 7 [(0, .ref o0), (1, .ref o1), (2, .ref o2), (3, .int x3), (4, .int x4), (6, .int x6)] → W p l e rm_X0_liftNames s m args below meth c H locs 0 0 QQ (F0 m 109 ls [.int t2, .ref o0, .int t0]) := by
    intro X11 hX11 x6 t0 t2 S0 H locs ls hg hP hD hS hl
    refine lv_iconst (v := 1) hx hb dX0_liftNames_109 (by decide) ?_
    refine lv_goto (tgt := 114) hx hb dX0_liftNames_110 (by decide) ?_
    exact J114 _ hX11 _ _ _ _ _ _ _ _ hg hP hD hS (lv_sub hl [0, 1, 2, 3, 4, 5] rfl)
  have L11 : ∀ (n : Nat) (x5 : Int32) (x6 : Int32) (S0 : ZS) (H : Heap) (locs : List Loc) (ls : Array Slot), fx (F_X0_liftNames_11 x3 x4 S1 S2 Q) n (x5, x6, S0) → va_P G.1 classes (wX0 G o0 d0 S0 ++ (wX4 G o1 d1 S1 ++ (wX2 G o2 d2 S2))) H → va_D A (wX0 G o0 d0 S0 ++ (wX4 G o1 d1 S1 ++ (wX2 G o2 d2 S2))) → va_S A s.heap H locs → lv_has ls 7 [(0, .ref o0), (1, .ref o1), (2, .ref o2), (3, .int x3), (4, .int x4), (5, .int x5), (6, .int x6)] → W p l e rm_X0_liftNames s m args below meth c H locs 0 0 QQ (F0 m 11 ls []) := by
    intro n
    induction n with
    | zero => intro x5 x6 S0 H locs ls hg; exact hg.elim
    | succ n ih =>
      have hX11 := ih
      intro x5 x6 S0 H locs ls hg hP hD hS hl
      refine lv_iload hx hb dX0_liftNames_11 (lv_at hl 6 rfl) ?_
      refine lv_aload_n hx hb dX0_liftNames_13 rfl (lv_at hl 1 rfl) ?_
      refine va_get (D := G.1) (ci := 3) (v := .ref (d1 11)) (C := RX4) (T := TX4) (N := 17) hx hb hT iX4 hown hK hP 5 rfl rfl 11 (by decide) (hT _ q_103) (fun _ h9 => h9) rfl dX0_liftNames_14 ?_
      refine lv_iload_n hx hb dX0_liftNames_17 rfl (lv_at hl 3 rfl) ?_
      refine va_iald hx hb hK hP 15 0 rfl rfl hg.1 dX0_liftNames_18 ?_
      have hg := hg.2
      refine lv_aload_n hx hb dX0_liftNames_19 rfl (lv_at hl 1 rfl) ?_
      refine va_get (D := G.1) (ci := 3) (v := .ref (d1 12)) (C := RX4) (T := TX4) (N := 17) hx hb hT iX4 hown hK hP 5 rfl rfl 12 (by decide) (hT _ q_106) (fun _ h9 => h9) rfl dX0_liftNames_20 ?_
      refine lv_iload_n hx hb dX0_liftNames_23 rfl (lv_at hl 3 rfl) ?_
      refine va_iald hx hb hK hP 16 0 rfl rfl hg.1 dX0_liftNames_24 ?_
      have hg := hg.2
      refine lv_iadd hx hb dX0_liftNames_25 ?_
      refine lv_icmp_ge (tgt := 163) hx hb dX0_liftNames_26 (by decide) (fun c_1 => ?_) (fun c_1 => ?_)
      · have hg := hg.1 c_1
        refine lv_iload hx hb dX0_liftNames_163 (lv_at hl 5 rfl) ?_
        exact hret _ _ _ (S0) _ _ hg.2 hg.1.nar hP hD hS dX0_liftNames_165
      · have hg := hg.2 c_1
        refine lv_aload_n hx hb dX0_liftNames_29 rfl (lv_at hl 1 rfl) ?_
        refine va_get (D := G.1) (ci := 3) (v := .ref (d1 3)) (C := RX4) (T := TX4) (N := 17) hx hb hT iX4 hown hK hP 5 rfl rfl 3 (by decide) (hT _ q_72) (fun _ h9 => h9) rfl dX0_liftNames_30 ?_
        refine lv_iload hx hb dX0_liftNames_33 (lv_at hl 6 rfl) ?_
        refine va_iald hx hb hK hP 7 0 rfl rfl hg.1 dX0_liftNames_35 ?_
        have hg := hg.2
        by_cases k0 : (S1 3 x6.toNatClampNeg) = 0
        · have hg := hg.1 k0
          refine lv_tableIn (tgt := 64) hx hb dX0_liftNames_36 (by rw [k0]; decide) (by rw [k0]; decide) (by rw [k0]; rfl) (by decide) ?_
          refine lv_iload hx hb dX0_liftNames_64 (lv_at hl 5 rfl) ?_
          refine lv_aload_n hx hb dX0_liftNames_66 rfl (lv_at hl 0 rfl) ?_
          refine lv_iload hx hb dX0_liftNames_67 (lv_at hl 6 rfl) ?_
          refine lv_iconst (v := 1) hx hb dX0_liftNames_69 (by decide) ?_
          refine lv_aload_n hx hb dX0_liftNames_70 rfl (lv_at hl 2 rfl) ?_
          refine va_get (D := G.1) (ci := 2) (v := .ref (d2 3)) (C := RX2) (T := TX2) (N := 5) hx hb hT iX2 hown hK hP 21 rfl rfl 3 (by decide) (hT _ q_175) (fun _ h9 => h9) rfl dX0_liftNames_71 ?_
          refine lv_iload hx hb dX0_liftNames_74 (lv_at hl 6 rfl) ?_
          refine va_iald hx hb hK hP 25 0 rfl rfl hg.1 dX0_liftNames_76 ?_
          have hg := hg.2
          refine zcVi (As := [.int x6, .int 1, .int (S2 3 x6.toNatClampNeg)]) (rest := [.int x5]) (C := RX0) Cx (c_X0_lift l G o0 d0 x6 1 (S2 3 x6.toNatClampNeg) S0 _ hg) zv_X0_lift q_482 ⟨⟨rfl, rfl⟩, Nat.le_of_ble_eq_true rfl, Nat.le_of_ble_eq_true rfl⟩ (zJ.sub (wr := wX4 G o1 d1 S1 ++ (wX2 G o2 d2 S2)) (w2 := (fun u : ZS => wX0 G o0 d0 u ++ (wX4 G o1 d1 S1 ++ (wX2 G o2 d2 S2)))) hP hD hS hA [0, 1, 2, 3, 4] [5, 6, 7, 8, 9, 10, 11, 12, 13, 14, 15, 16, 17, 18, 19, 20, 21, 22, 23, 24, 25, 26] [22, 23, 24, 25, 26, 0, 1, 2, 3, 4, 5, 6, 7, 8, 9, 10, 11, 12, 13, 14, 15, 16, 17, 18, 19, 20, 21] rfl rfl (by decide) (fun u => rfl)) hS 0 rfl rfl rfl rfl hl.1 rfl (Nat.le_of_ble_eq_true rfl) dX0_liftNames_77 (fun r_3 S0_2 H locs hg hP hD hS => ?_)
          have hP : va_P G.1 classes (wX0 G o0 d0 S0_2 ++ (wX4 G o1 d1 S1 ++ (wX2 G o2 d2 S2))) H := hP
          have hD : va_D A (wX0 G o0 d0 S0_2 ++ (wX4 G o1 d1 S1 ++ (wX2 G o2 d2 S2))) := hD
          refine lv_ior hx hb dX0_liftNames_80 ?_
          refine lv_topi (fun x5_4 ex5_4 => ?_)
          have hg := hg x5_4 ex5_4
          refine lv_istore (lv' := [(5, .int x5_4), (0, .ref o0), (1, .ref o1), (2, .ref o2), (3, .int x3), (4, .int x4), (6, .int x6)]) hx hb dX0_liftNames_81 hl (by decide) rfl (fun ls hl => ?_)
          refine lv_goto (tgt := 157) hx hb dX0_liftNames_83 (by decide) ?_
          obtain ⟨x6_5, ex6_5⟩ : ∃ y : Int32, y = x6 + 1 := ⟨_, rfl⟩
          have hg := hg x6_5 ex6_5
          refine lv_iinc (v := x6_5) (lv' := [(6, .int x6_5), (5, .int x5_4), (0, .ref o0), (1, .ref o1), (2, .ref o2), (3, .int x3), (4, .int x4)]) hx hb dX0_liftNames_157 hl (k := 6) rfl (by rw [ex6_5]; rfl) (by decide) rfl (fun ls hl => ?_)
          refine lv_goto (tgt := 11) hx hb dX0_liftNames_160 (by decide) ?_
          exact hX11 _ _ _ _ _ _ hg hP hD hS (lv_sub hl [2, 3, 4, 5, 6, 1, 0] rfl)
        by_cases k1 : (S1 3 x6.toNatClampNeg) = 1
        · have hg := hg.2.1 k1
          refine lv_tableIn (tgt := 86) hx hb dX0_liftNames_36 (by rw [k1]; decide) (by rw [k1]; decide) (by rw [k1]; rfl) (by decide) ?_
          refine lv_iload hx hb dX0_liftNames_86 (lv_at hl 5 rfl) ?_
          refine lv_aload_n hx hb dX0_liftNames_88 rfl (lv_at hl 0 rfl) ?_
          refine lv_iload hx hb dX0_liftNames_89 (lv_at hl 6 rfl) ?_
          refine lv_aload_n hx hb dX0_liftNames_91 rfl (lv_at hl 2 rfl) ?_
          refine va_get (D := G.1) (ci := 2) (v := .ref (d2 0)) (C := RX2) (T := TX2) (N := 5) hx hb hT iX2 hown hK hP 21 rfl rfl 0 (by decide) (hT _ q_165) (fun _ h9 => h9) rfl dX0_liftNames_92 ?_
          refine lv_iload hx hb dX0_liftNames_95 (lv_at hl 6 rfl) ?_
          refine va_iald hx hb hK hP 22 0 rfl rfl hg.1 dX0_liftNames_97 ?_
          have hg := hg.2
          refine lv_iconst (v := 1) hx hb dX0_liftNames_98 (by decide) ?_
          refine lv_icmp_eq (tgt := 109) hx hb dX0_liftNames_99 (by decide) (fun c_6 => ?_) (fun c_6 => ?_)
          · have hg := hg.1 c_6
            exact J109 _ hX11 _ _ _ _ _ _ _ hg hP hD hS (lv_sub hl [0, 1, 2, 3, 4, 6] rfl)
          · have hg := hg.2 c_6
            refine lv_iload hx hb dX0_liftNames_102 (lv_at hl 6 rfl) ?_
            refine lv_iload hx hb dX0_liftNames_104 (lv_at hl 4 rfl) ?_
            refine lv_icmp_ne (tgt := 113) hx hb dX0_liftNames_106 (by decide) (fun c_7 => ?_) (fun c_7 => ?_)
            · have hg := hg.2 c_7
              refine lv_iconst (v := 2) hx hb dX0_liftNames_113 (by decide) ?_
              exact J114 _ hX11 _ _ _ _ _ _ _ _ hg hP hD hS (lv_sub hl [0, 1, 2, 3, 4, 6] rfl)
            · have hg := hg.1 c_7
              exact J109 _ hX11 _ _ _ _ _ _ _ hg hP hD hS (lv_sub hl [0, 1, 2, 3, 4, 6] rfl)
        by_cases k2 : (S1 3 x6.toNatClampNeg) = 2
        · have hg := hg.2.2.1 k2
          refine lv_tableIn (tgt := 129) hx hb dX0_liftNames_36 (by rw [k2]; decide) (by rw [k2]; decide) (by rw [k2]; rfl) (by decide) ?_
          refine lv_iload hx hb dX0_liftNames_129 (lv_at hl 5 rfl) ?_
          refine lv_aload_n hx hb dX0_liftNames_131 rfl (lv_at hl 0 rfl) ?_
          refine lv_aload_n hx hb dX0_liftNames_132 rfl (lv_at hl 1 rfl) ?_
          refine lv_iload hx hb dX0_liftNames_133 (lv_at hl 6 rfl) ?_
          refine zcVi (As := [.ref o1, .int x6]) (rest := [.int x5]) (C := RX0) Cx (c_X0_liftOperation l G o0 d0 o1 d1 x6 S0 S1 _ hg) zv_X0_liftOperation q_490 ⟨⟨rfl, rfl⟩, Nat.le_of_ble_eq_true rfl, Nat.le_of_ble_eq_true rfl⟩ (zJ.sub (wr := wX2 G o2 d2 S2) (w2 := (fun u : ZS => wX0 G o0 d0 u ++ (wX4 G o1 d1 S1 ++ (wX2 G o2 d2 S2)))) hP hD hS hA [0, 1, 2, 3, 4, 5, 6, 7, 8, 9, 10, 11, 12, 13, 14, 15, 16, 17, 18, 19, 20] [21, 22, 23, 24, 25, 26] [6, 7, 8, 9, 10, 11, 12, 13, 14, 15, 16, 17, 18, 19, 20, 21, 22, 23, 24, 25, 26, 0, 1, 2, 3, 4, 5] rfl rfl (by decide) (fun u => rfl)) hS 0 rfl rfl rfl rfl hl.1 rfl (Nat.le_of_ble_eq_true rfl) dX0_liftNames_135 (fun r_9 S0_8 H locs hg hP hD hS => ?_)
          have hP : va_P G.1 classes (wX0 G o0 d0 S0_8 ++ (wX4 G o1 d1 S1 ++ (wX2 G o2 d2 S2))) H := hP
          have hD : va_D A (wX0 G o0 d0 S0_8 ++ (wX4 G o1 d1 S1 ++ (wX2 G o2 d2 S2))) := hD
          refine lv_ior hx hb dX0_liftNames_138 ?_
          refine lv_topi (fun x5_10 ex5_10 => ?_)
          have hg := hg x5_10 ex5_10
          refine lv_istore (lv' := [(5, .int x5_10), (0, .ref o0), (1, .ref o1), (2, .ref o2), (3, .int x3), (4, .int x4), (6, .int x6)]) hx hb dX0_liftNames_139 hl (by decide) rfl (fun ls hl => ?_)
          refine lv_goto (tgt := 157) hx hb dX0_liftNames_141 (by decide) ?_
          obtain ⟨x6_11, ex6_11⟩ : ∃ y : Int32, y = x6 + 1 := ⟨_, rfl⟩
          have hg := hg x6_11 ex6_11
          refine lv_iinc (v := x6_11) (lv' := [(6, .int x6_11), (5, .int x5_10), (0, .ref o0), (1, .ref o1), (2, .ref o2), (3, .int x3), (4, .int x4)]) hx hb dX0_liftNames_157 hl (k := 6) rfl (by rw [ex6_11]; rfl) (by decide) rfl (fun ls hl => ?_)
          refine lv_goto (tgt := 11) hx hb dX0_liftNames_160 (by decide) ?_
          exact hX11 _ _ _ _ _ _ hg hP hD hS (lv_sub hl [2, 3, 4, 5, 6, 1, 0] rfl)
        have hg := hg.2.2.2 k0 k1 k2
        have nk0 := lv_neT k0 (a := 0) (by decide)
        have nk1 := lv_neT k1 (a := 1) (by decide)
        have nk2 := lv_neT k2 (a := 2) (by decide)
        refine lv_tableOut (tgt := 144) hx hb dX0_liftNames_36 (by omega) (by decide) ?_
        refine lv_iload hx hb dX0_liftNames_144 (lv_at hl 5 rfl) ?_
        refine lv_aload_n hx hb dX0_liftNames_146 rfl (lv_at hl 0 rfl) ?_
        refine lv_aload_n hx hb dX0_liftNames_147 rfl (lv_at hl 1 rfl) ?_
        refine lv_aload_n hx hb dX0_liftNames_148 rfl (lv_at hl 2 rfl) ?_
        refine lv_iload hx hb dX0_liftNames_149 (lv_at hl 6 rfl) ?_
        refine zcVi (As := [.ref o1, .ref o2, .int x6]) (rest := [.int x5]) (C := RX0) Cx (c_X0_liftJoin l G o0 d0 o1 d1 o2 d2 x6 S0 S1 S2 _ hg) zv_X0_liftJoin q_500 ⟨⟨rfl, rfl⟩, Nat.le_of_ble_eq_true rfl, Nat.le_of_ble_eq_true rfl⟩ (zJ.all hP hD hS hA) hS 0 rfl rfl rfl rfl hl.1 rfl (Nat.le_of_ble_eq_true rfl) dX0_liftNames_151 (fun r_13 S0_12 H locs hg hP hD hS => ?_)
        have hP : va_P G.1 classes (wX0 G o0 d0 S0_12 ++ (wX4 G o1 d1 S1 ++ (wX2 G o2 d2 S2))) H := hP
        have hD : va_D A (wX0 G o0 d0 S0_12 ++ (wX4 G o1 d1 S1 ++ (wX2 G o2 d2 S2))) := hD
        refine lv_ior hx hb dX0_liftNames_154 ?_
        refine lv_topi (fun x5_14 ex5_14 => ?_)
        have hg := hg x5_14 ex5_14
        refine lv_istore (lv' := [(5, .int x5_14), (0, .ref o0), (1, .ref o1), (2, .ref o2), (3, .int x3), (4, .int x4), (6, .int x6)]) hx hb dX0_liftNames_155 hl (by decide) rfl (fun ls hl => ?_)
        obtain ⟨x6_15, ex6_15⟩ : ∃ y : Int32, y = x6 + 1 := ⟨_, rfl⟩
        have hg := hg x6_15 ex6_15
        refine lv_iinc (v := x6_15) (lv' := [(6, .int x6_15), (5, .int x5_14), (0, .ref o0), (1, .ref o1), (2, .ref o2), (3, .int x3), (4, .int x4)]) hx hb dX0_liftNames_157 hl (k := 6) rfl (by rw [ex6_15]; rfl) (by decide) rfl (fun ls hl => ?_)
        refine lv_goto (tgt := 11) hx hb dX0_liftNames_160 (by decide) ?_
        exact hX11 _ _ _ _ _ _ hg hP hD hS (lv_sub hl [2, 3, 4, 5, 6, 1, 0] rfl)
  refine lv_iconst (v := 0) hx hb dX0_liftNames_0 (by decide) ?_
  refine lv_istore (lv' := [(5, .int 0), (0, .ref o0), (1, .ref o1), (2, .ref o2), (3, .int x3), (4, .int x4)]) hx hb dX0_liftNames_1 hl (by decide) rfl (fun ls hl => ?_)
  refine lv_aload_n hx hb dX0_liftNames_3 rfl (lv_at hl 2 rfl) ?_
  refine va_get (D := G.1) (ci := 3) (v := .ref (d1 11)) (C := RX4) (T := TX4) (N := 17) hx hb hT iX4 hown hK hP 5 rfl rfl 11 (by decide) (hT _ q_103) (fun _ h9 => h9) rfl dX0_liftNames_4 ?_
  refine lv_iload_n hx hb dX0_liftNames_7 rfl (lv_at hl 4 rfl) ?_
  refine va_iald hx hb hK hP 15 0 rfl rfl hg.1 dX0_liftNames_8 ?_
  have hg := hg.2
  refine lv_topi (fun x6_1 ex6_1 => ?_)
  have hg := hg x6_1 ex6_1
  refine lv_istore (lv' := [(6, .int x6_1), (5, .int 0), (0, .ref o0), (1, .ref o1), (2, .ref o2), (3, .int x3), (4, .int x4)]) hx hb dX0_liftNames_9 hl (by decide) rfl (fun ls hl => ?_)
  obtain ⟨n, hg⟩ := hg
  exact L11 n _ _ _ _ _ _ hg hP hD hS (lv_sub hl [2, 3, 4, 5, 6, 1, 0] rfl)
theorem zv_X5_side : zSt yX5_side cX5_side 1 (some .int) 1 := ⟨q_517, q_10, q_518, by decide +kernel⟩
set_option maxHeartbeats 4000000 in
set_option maxRecDepth 100000 in
theorem c_X5_side (l : Launch) (G : ZG) (x0 : Int32) (Q : Int32 → Prop) (hg : g_X5_side x0 Q) : Ki l G yX5_side cX5_side 1 .int rm_X5_side [.int x0] (([] : va_W)) (fun _ : Unit => ([] : va_W)) (fun r _ => Q r ) := by
  refine Ki.of (by decide) (Nat.le_of_ble_eq_true rfl) ?_
  intro p e s m args below meth c A QQ ls Cx hret hl hP hD hS
  obtain ⟨hx, hb, hml, hown, hT, hK, hA⟩ := id Cx
  have hl : lv_has ls 1 [(0, .int x0)] := hl
  refine lv_iload_n hx hb dX5_side_0 rfl (lv_at hl 0 rfl) ?_
  refine lv_if_eq (tgt := 8) hx hb dX5_side_1 (by decide) (fun c_1 => ?_) (fun c_1 => ?_)
  · have hg := hg.1 c_1
    refine lv_iconst (v := 1) hx hb dX5_side_8 (by decide) ?_
    exact hret _ _ _ () _ _ hg rfl hP hD hS dX5_side_9
  · have hg := hg.2 c_1
    refine lv_iconst (v := 0) hx hb dX5_side_4 (by decide) ?_
    refine lv_goto (tgt := 9) hx hb dX5_side_5 (by decide) ?_
    exact hret _ _ _ () _ _ hg rfl hP hD hS dX5_side_9
theorem zv_X0_goes : zV yX0_goes RX0 cX0_goes 5 (some .boolean) 3 := ⟨q_513, q_514, q_5, q_515, by decide +kernel⟩
set_option maxHeartbeats 4000000 in
set_option maxRecDepth 100000 in
theorem c_X0_goes (l : Launch) (G : ZG) (o0 : Nat) (d0 : Nat → Nat) (o1 : Nat) (d1 : Nat → Nat) (x2 : Int32) (x3 : Int32) (S0 : ZS) (S1 : ZS) (Q : Int32 → Prop) (hg : g_X0_goes x2 x3 S0 S1 Q) : Ki l G yX0_goes cX0_goes 5 .boolean rm_X0_goes [.ref o0, .ref o1, .int x2, .int x3] (wX0 G o0 d0 S0 ++ (wX4 G o1 d1 S1)) (fun _ : Unit => wX0 G o0 d0 S0 ++ (wX4 G o1 d1 S1)) (fun r _ => Q r ) := by
  refine Ki.of (by decide) (Nat.le_of_ble_eq_true rfl) ?_
  intro p e s m args below meth c A QQ ls Cx hret hl hP hD hS
  obtain ⟨hx, hb, hml, hown, hT, hK, hA⟩ := id Cx
  have hl : lv_has ls 5 [(0, .ref o0), (1, .ref o1), (2, .int x2), (3, .int x3)] := hl
  refine lv_aload_n hx hb dX0_goes_0 rfl (lv_at hl 1 rfl) ?_
  refine va_get (D := G.1) (ci := 3) (v := .ref (d1 13)) (C := RX4) (T := TX4) (N := 17) hx hb hT iX4 hown hK hP 5 rfl rfl 13 (by decide) (hT _ q_111) (fun _ h9 => h9) rfl dX0_goes_1 ?_
  refine lv_iload_n hx hb dX0_goes_4 rfl (lv_at hl 2 rfl) ?_
  refine va_iald hx hb hK hP 17 0 rfl rfl hg.1 dX0_goes_5 ?_
  have hg := hg.2
  refine lv_iconst (v := 1) hx hb dX0_goes_6 (by decide) ?_
  refine lv_icmp_eq (tgt := 12) hx hb dX0_goes_7 (by decide) (fun c_1 => ?_) (fun c_1 => ?_)
  · have hg := hg.1 c_1
    refine lv_aload_n hx hb dX0_goes_12 rfl (lv_at hl 1 rfl) ?_
    refine va_get (D := G.1) (ci := 3) (v := .ref (d1 14)) (C := RX4) (T := TX4) (N := 17) hx hb hT iX4 hown hK hP 5 rfl rfl 14 (by decide) (hT _ q_116) (fun _ h9 => h9) rfl dX0_goes_13 ?_
    refine lv_iload_n hx hb dX0_goes_16 rfl (lv_at hl 2 rfl) ?_
    refine va_iald hx hb hK hP 18 0 rfl rfl hg.1 dX0_goes_17 ?_
    have hg := hg.2
    refine lv_topi (fun x4_2 ex4_2 => ?_)
    have hg := hg x4_2 ex4_2
    refine lv_istore (lv' := [(4, .int x4_2), (0, .ref o0), (1, .ref o1), (2, .int x2), (3, .int x3)]) hx hb dX0_goes_18 hl (by decide) rfl (fun ls hl => ?_)
    refine lv_aload_n hx hb dX0_goes_20 rfl (lv_at hl 1 rfl) ?_
    refine va_get (D := G.1) (ci := 0) (v := .ref (d0 0)) (C := RX0) (T := TX0) (N := 4) hx hb hT iX0 hown hK hP 0 rfl rfl 0 (by decide) (hT _ q_199) (fun _ h9 => h9) rfl dX0_goes_21 ?_
    refine lv_iload hx hb dX0_goes_24 (lv_at hl 0 rfl) ?_
    refine va_iald hx hb hK hP 1 0 rfl rfl hg.1 dX0_goes_26 ?_
    have hg := hg.2
    refine lv_iconst (v := 2) hx hb dX0_goes_27 (by decide) ?_
    refine lv_icmp_eq (tgt := 56) hx hb dX0_goes_28 (by decide) (fun c_3 => ?_) (fun c_3 => ?_)
    · have hg := hg.1 c_3
      refine lv_iconst (v := 1) hx hb dX0_goes_56 (by decide) ?_
      refine lv_goto (tgt := 61) hx hb dX0_goes_57 (by decide) ?_
      exact hret _ _ _ () _ _ hg rfl hP hD hS dX0_goes_61
    · have hg := hg.2 c_3
      refine lv_aload_n hx hb dX0_goes_31 rfl (lv_at hl 1 rfl) ?_
      refine va_get (D := G.1) (ci := 0) (v := .ref (d0 0)) (C := RX0) (T := TX0) (N := 4) hx hb hT iX0 hown hK hP 0 rfl rfl 0 (by decide) (hT _ q_199) (fun _ h9 => h9) rfl dX0_goes_32 ?_
      refine lv_iload hx hb dX0_goes_35 (lv_at hl 0 rfl) ?_
      refine va_iald hx hb hK hP 1 0 rfl rfl hg.1 dX0_goes_37 ?_
      have hg := hg.2
      refine lv_iconst (v := 1) hx hb dX0_goes_38 (by decide) ?_
      refine lv_icmp_ne (tgt := 60) hx hb dX0_goes_39 (by decide) (fun c_4 => ?_) (fun c_4 => ?_)
      · have hg := hg.2 c_4
        refine lv_iconst (v := 0) hx hb dX0_goes_60 (by decide) ?_
        exact hret _ _ _ () _ _ hg rfl hP hD hS dX0_goes_61
      · have hg := hg.1 c_4
        refine lv_aload_n hx hb dX0_goes_42 rfl (lv_at hl 1 rfl) ?_
        refine va_get (D := G.1) (ci := 0) (v := .ref (d0 1)) (C := RX0) (T := TX0) (N := 4) hx hb hT iX0 hown hK hP 0 rfl rfl 1 (by decide) (hT _ q_201) (fun _ h9 => h9) rfl dX0_goes_43 ?_
        refine lv_iload hx hb dX0_goes_46 (lv_at hl 0 rfl) ?_
        refine va_iald hx hb hK hP 2 0 rfl rfl hg.1 dX0_goes_48 ?_
        have hg := hg.2
        refine zcSi (As := [.int (S0 1 x4_2.toNatClampNeg)]) (rest := []) Cx (c_X5_side l G (S0 1 x4_2.toNatClampNeg) _ hg) zv_X5_side q_516 ⟨⟨rfl, rfl⟩, Nat.le_of_ble_eq_true rfl, Nat.le_of_ble_eq_true rfl⟩ (zJ.none (S := Unit) hP hD hS hA) hS rfl hl.1 rfl (Nat.le_of_ble_eq_true rfl) dX0_goes_49 (fun r_5 _u H locs hg hP hD hS => ?_)
        refine lv_iload_n hx hb dX0_goes_52 rfl (lv_at hl 4 rfl) ?_
        refine lv_icmp_ne (tgt := 60) hx hb dX0_goes_53 (by decide) (fun c_6 => ?_) (fun c_6 => ?_)
        · have hg := hg.2 c_6
          refine lv_iconst (v := 0) hx hb dX0_goes_60 (by decide) ?_
          exact hret _ _ _ () _ _ hg rfl hP hD hS dX0_goes_61
        · have hg := hg.1 c_6
          refine lv_iconst (v := 1) hx hb dX0_goes_56 (by decide) ?_
          refine lv_goto (tgt := 61) hx hb dX0_goes_57 (by decide) ?_
          exact hret _ _ _ () _ _ hg rfl hP hD hS dX0_goes_61
  · have hg := hg.2 c_1
    refine lv_iconst (v := 1) hx hb dX0_goes_10 (by decide) ?_
    exact hret _ _ _ () _ _ hg rfl hP hD hS dX0_goes_11
theorem zv_X0_openEdges : zV yX0_openEdges RX0 cX0_openEdges 8 (some .boolean) 4 := ⟨q_509, q_510, q_5, q_511, by decide +kernel⟩
set_option maxHeartbeats 4000000 in
set_option maxRecDepth 100000 in
theorem c_X0_openEdges (l : Launch) (G : ZG) (o0 : Nat) (d0 : Nat → Nat) (o1 : Nat) (d1 : Nat → Nat) (o2 : Nat) (d2 : Nat → Nat) (x3 : Int32) (x4 : Int32) (S0 : ZS) (S1 : ZS) (S2 : ZS) (Q : Int32 → ZS → Prop) (hg : g_X0_openEdges x3 x4 S0 S1 S2 Q) : Ki l G yX0_openEdges cX0_openEdges 8 .boolean rm_X0_openEdges [.ref o0, .ref o1, .ref o2, .int x3, .int x4] (wX0 G o0 d0 S0 ++ (wX4 G o1 d1 S1 ++ (wX2 G o2 d2 S2))) (fun u : ZS => wX0 G o0 d0 u ++ (wX4 G o1 d1 S1 ++ (wX2 G o2 d2 S2))) (fun r u => Q r u) := by
  refine Ki.of (by decide) (Nat.le_of_ble_eq_true rfl) ?_
  intro p e s m args below meth c A QQ ls Cx hret hl hP hD hS
  obtain ⟨hx, hb, hml, hown, hT, hK, hA⟩ := id Cx
  have hl : lv_has ls 8 [(0, .ref o0), (1, .ref o1), (2, .ref o2), (3, .int x3), (4, .int x4)] := hl
  have J62 : ∀ (X6 : Int32 × Int32 × ZS → Prop) (hX6 : ∀ (x5 : Int32) (x6 : Int32) (S0 : ZS) (H : Heap) (locs : List Loc) (ls : Array Slot), X6 (x5, x6, S0) → va_P G.1 classes (wX0 G o0 d0 S0 ++ (wX4 G o1 d1 S1 ++ (wX2 G o2 d2 S2))) H → va_D A (wX0 G o0 d0 S0 ++ (wX4 G o1 d1 S1 ++ (wX2 G o2 d2 S2))) → va_S A s.heap H locs → lv_has ls 8 [(0, .ref o0), (1, .ref o1), (2, .ref o2), (3, .int x3), (4, .int x4), (5, .int x5), (6, .int x6)] → W p l e rm_X0_openEdges s m args below meth c H locs 0 0 QQ (F0 m 6 ls [])) (x6 : Int32) (x7 : Int32) (S0 : ZS) (H : Heap) (locs : List Loc) (ls : Array Slot), G_X0_openEdges_62 x3 x4 S1 S2 Q X6 x6 x7 S0 → va_P G.1 classes (wX0 G o0 d0 S0 ++ (wX4 G o1 d1 S1 ++ (wX2 G o2 d2 S2))) H → va_D A (wX0 G o0 d0 S0 ++ (wX4 G o1 d1 S1 ++ (wX2 G o2 d2 S2))) → va_S A s.heap H locs → lv_has ls 8 [(0, .ref o0), (1, .ref o1), (2, .ref o2), (3, .int x3), (4, .int x4), (6, .int x6), (7, .int x7)] → W p l e rm_X0_openEdges s m args below meth c H locs 0 0 QQ (F0 m 62 ls []) := by
    intro X6 hX6 x6 x7 S0 H locs ls hg hP hD hS hl
    refine lv_aload_n hx hb dX0_openEdges_62 rfl (lv_at hl 0 rfl) ?_
    refine va_get (D := G.1) (ci := 0) (v := .ref (d0 3)) (C := RX0) (T := TX0) (N := 4) hx hb hT iX0 hown hK hP 0 rfl rfl 3 (by decide) (hT _ q_205) (fun _ h9 => h9) rfl dX0_openEdges_63 ?_
    refine lv_iload hx hb dX0_openEdges_66 (lv_at hl 6 rfl) ?_
    refine lv_iconst (v := 1) hx hb dX0_openEdges_68 (by decide) ?_
    refine z_iast hx hb hK hP hD hS 4 0 rfl rfl hg.1 dX0_openEdges_69 (zst S0 3 x7.toNatClampNeg 1) (fun S : ZS => wX0 G o0 d0 S ++ (wX4 G o1 d1 S1 ++ (wX2 G o2 d2 S2))) rfl (fun S0_1 H locs eS0_1 hP hD hS => ?_)
    have hg := hg.2 S0_1 eS0_1
    refine lv_aload_n hx hb dX0_openEdges_70 rfl (lv_at hl 0 rfl) ?_
    refine va_get (D := G.1) (ci := 0) (v := .ref (d0 2)) (C := RX0) (T := TX0) (N := 4) hx hb hT iX0 hown hK hP 0 rfl rfl 2 (by decide) (hT _ q_203) (fun _ h9 => h9) rfl dX0_openEdges_71 ?_
    refine lv_aload_n hx hb dX0_openEdges_74 rfl (lv_at hl 2 rfl) ?_
    refine va_get (D := G.1) (ci := 2) (v := .ref (d2 4)) (C := RX2) (T := TX2) (N := 5) hx hb hT iX2 hown hK hP 21 rfl rfl 4 (by decide) (hT _ q_180) (fun _ h9 => h9) rfl dX0_openEdges_75 ?_
    refine lv_iload hx hb dX0_openEdges_78 (lv_at hl 6 rfl) ?_
    refine va_iald hx hb hK hP 26 0 rfl rfl hg.1 dX0_openEdges_80 ?_
    have hg := hg.2
    refine lv_iconst (v := 1) hx hb dX0_openEdges_81 (by decide) ?_
    refine z_iast hx hb hK hP hD hS 3 0 rfl rfl hg.1 dX0_openEdges_82 (zst S0_1 2 (S2 4 x7.toNatClampNeg).toNatClampNeg 1) (fun S : ZS => wX0 G o0 d0 S ++ (wX4 G o1 d1 S1 ++ (wX2 G o2 d2 S2))) rfl (fun S0_2 H locs eS0_2 hP hD hS => ?_)
    have hg := hg.2 S0_2 eS0_2
    refine lv_iconst (v := 1) hx hb dX0_openEdges_83 (by decide) ?_
    refine lv_istore (lv' := [(5, .int 1), (0, .ref o0), (1, .ref o1), (2, .ref o2), (3, .int x3), (4, .int x4), (6, .int x6), (7, .int x7)]) hx hb dX0_openEdges_84 hl (by decide) rfl (fun ls hl => ?_)
    obtain ⟨x6_3, ex6_3⟩ : ∃ y : Int32, y = x6 + 1 := ⟨_, rfl⟩
    have hg := hg x6_3 ex6_3
    refine lv_iinc (v := x6_3) (lv' := [(6, .int x6_3), (5, .int 1), (0, .ref o0), (1, .ref o1), (2, .ref o2), (3, .int x3), (4, .int x4), (7, .int x7)]) hx hb dX0_openEdges_86 hl (k := 6) rfl (by rw [ex6_3]; rfl) (by decide) rfl (fun ls hl => ?_)
    refine lv_goto (tgt := 6) hx hb dX0_openEdges_89 (by decide) ?_
    exact hX6 _ _ _ _ _ _ hg hP hD hS (lv_sub hl [2, 3, 4, 5, 6, 1, 0] rfl)
  have L6 : ∀ (n : Nat) (x5 : Int32) (x6 : Int32) (S0 : ZS) (H : Heap) (locs : List Loc) (ls : Array Slot), fx (F_X0_openEdges_6 x3 x4 S1 S2 Q) n (x5, x6, S0) → va_P G.1 classes (wX0 G o0 d0 S0 ++ (wX4 G o1 d1 S1 ++ (wX2 G o2 d2 S2))) H → va_D A (wX0 G o0 d0 S0 ++ (wX4 G o1 d1 S1 ++ (wX2 G o2 d2 S2))) → va_S A s.heap H locs → lv_has ls 8 [(0, .ref o0), (1, .ref o1), (2, .ref o2), (3, .int x3), (4, .int x4), (5, .int x5), (6, .int x6)] → W p l e rm_X0_openEdges s m args below meth c H locs 0 0 QQ (F0 m 6 ls []) := by
    intro n
    induction n with
    | zero => intro x5 x6 S0 H locs ls hg; exact hg.elim
    | succ n ih =>
      have hX6 := ih
      intro x5 x6 S0 H locs ls hg hP hD hS hl
      refine lv_iload hx hb dX0_openEdges_6 (lv_at hl 6 rfl) ?_
      refine lv_iconst (v := 2) hx hb dX0_openEdges_8 (by decide) ?_
      refine lv_icmp_ge (tgt := 92) hx hb dX0_openEdges_9 (by decide) (fun c_1 => ?_) (fun c_1 => ?_)
      · have hg := hg.1 c_1
        refine lv_iload hx hb dX0_openEdges_92 (lv_at hl 5 rfl) ?_
        exact hret _ _ _ (S0) _ _ hg.2 hg.1.nar hP hD hS dX0_openEdges_94
      · have hg := hg.2 c_1
        refine lv_iconst (v := 2) hx hb dX0_openEdges_12 (by decide) ?_
        refine lv_iload_n hx hb dX0_openEdges_13 rfl (lv_at hl 3 rfl) ?_
        refine lv_imul hx hb dX0_openEdges_14 ?_
        refine lv_iload hx hb dX0_openEdges_15 (lv_at hl 6 rfl) ?_
        refine lv_iadd hx hb dX0_openEdges_17 ?_
        refine lv_topi (fun x7_2 ex7_2 => ?_)
        have hg := hg x7_2 ex7_2
        refine lv_istore (lv' := [(7, .int x7_2), (0, .ref o0), (1, .ref o1), (2, .ref o2), (3, .int x3), (4, .int x4), (5, .int x5), (6, .int x6)]) hx hb dX0_openEdges_18 hl (by decide) rfl (fun ls hl => ?_)
        refine lv_aload_n hx hb dX0_openEdges_20 rfl (lv_at hl 3 rfl) ?_
        refine va_get (D := G.1) (ci := 2) (v := .ref (d2 4)) (C := RX2) (T := TX2) (N := 5) hx hb hT iX2 hown hK hP 21 rfl rfl 4 (by decide) (hT _ q_180) (fun _ h9 => h9) rfl dX0_openEdges_21 ?_
        refine lv_iload hx hb dX0_openEdges_24 (lv_at hl 0 rfl) ?_
        refine va_iald hx hb hK hP 26 0 rfl rfl hg.1 dX0_openEdges_26 ?_
        have hg := hg.2
        refine lv_bipush (v := (-9)) hx hb dX0_openEdges_27 (by decide) ?_
        refine lv_icmp_eq (tgt := 86) hx hb dX0_openEdges_29 (by decide) (fun c_3 => ?_) (fun c_3 => ?_)
        · have hg := hg.1 c_3
          obtain ⟨x6_4, ex6_4⟩ : ∃ y : Int32, y = x6 + 1 := ⟨_, rfl⟩
          have hg := hg x6_4 ex6_4
          refine lv_iinc (v := x6_4) (lv' := [(6, .int x6_4), (7, .int x7_2), (0, .ref o0), (1, .ref o1), (2, .ref o2), (3, .int x3), (4, .int x4), (5, .int x5)]) hx hb dX0_openEdges_86 hl (k := 7) rfl (by rw [ex6_4]; rfl) (by decide) rfl (fun ls hl => ?_)
          refine lv_goto (tgt := 6) hx hb dX0_openEdges_89 (by decide) ?_
          exact hX6 _ _ _ _ _ _ hg hP hD hS (lv_sub hl [2, 3, 4, 5, 6, 7, 0] rfl)
        · have hg := hg.2 c_3
          refine lv_aload_n hx hb dX0_openEdges_32 rfl (lv_at hl 1 rfl) ?_
          refine va_get (D := G.1) (ci := 0) (v := .ref (d0 3)) (C := RX0) (T := TX0) (N := 4) hx hb hT iX0 hown hK hP 0 rfl rfl 3 (by decide) (hT _ q_205) (fun _ h9 => h9) rfl dX0_openEdges_33 ?_
          refine lv_iload hx hb dX0_openEdges_36 (lv_at hl 0 rfl) ?_
          refine va_iald hx hb hK hP 4 0 rfl rfl hg.1 dX0_openEdges_38 ?_
          have hg := hg.2
          refine lv_iconst (v := 1) hx hb dX0_openEdges_39 (by decide) ?_
          refine lv_icmp_eq (tgt := 86) hx hb dX0_openEdges_40 (by decide) (fun c_5 => ?_) (fun c_5 => ?_)
          · have hg := hg.1 c_5
            obtain ⟨x6_6, ex6_6⟩ : ∃ y : Int32, y = x6 + 1 := ⟨_, rfl⟩
            have hg := hg x6_6 ex6_6
            refine lv_iinc (v := x6_6) (lv' := [(6, .int x6_6), (7, .int x7_2), (0, .ref o0), (1, .ref o1), (2, .ref o2), (3, .int x3), (4, .int x4), (5, .int x5)]) hx hb dX0_openEdges_86 hl (k := 7) rfl (by rw [ex6_6]; rfl) (by decide) rfl (fun ls hl => ?_)
            refine lv_goto (tgt := 6) hx hb dX0_openEdges_89 (by decide) ?_
            exact hX6 _ _ _ _ _ _ hg hP hD hS (lv_sub hl [2, 3, 4, 5, 6, 7, 0] rfl)
          · have hg := hg.2 c_5
            refine lv_iload hx hb dX0_openEdges_43 (lv_at hl 5 rfl) ?_
            refine lv_if_ne (tgt := 62) hx hb dX0_openEdges_45 (by decide) (fun c_7 => ?_) (fun c_7 => ?_)
            · have hg := hg.2 c_7
              exact J62 _ hX6 _ _ _ _ _ _ hg hP hD hS (lv_sub hl [1, 2, 3, 4, 5, 7, 0] rfl)
            · have hg := hg.1 c_7
              refine lv_aload_n hx hb dX0_openEdges_48 rfl (lv_at hl 1 rfl) ?_
              refine lv_aload_n hx hb dX0_openEdges_49 rfl (lv_at hl 2 rfl) ?_
              refine lv_iload_n hx hb dX0_openEdges_50 rfl (lv_at hl 4 rfl) ?_
              refine lv_iload hx hb dX0_openEdges_51 (lv_at hl 7 rfl) ?_
              refine zcVi (As := [.ref o1, .int x3, .int x6]) (rest := []) (C := RX0) Cx (c_X0_goes l G o0 d0 o1 d1 x3 x6 S0 S1 _ hg) zv_X0_goes q_512 ⟨⟨rfl, rfl⟩, Nat.le_of_ble_eq_true rfl, Nat.le_of_ble_eq_true rfl⟩ (zJ.sub (wr := wX2 G o2 d2 S2) (w2 := (fun u : Unit => wX0 G o0 d0 S0 ++ (wX4 G o1 d1 S1 ++ (wX2 G o2 d2 S2)))) hP hD hS hA [0, 1, 2, 3, 4, 5, 6, 7, 8, 9, 10, 11, 12, 13, 14, 15, 16, 17, 18, 19, 20] [21, 22, 23, 24, 25, 26] [6, 7, 8, 9, 10, 11, 12, 13, 14, 15, 16, 17, 18, 19, 20, 21, 22, 23, 24, 25, 26, 0, 1, 2, 3, 4, 5] rfl rfl (by decide) (fun u => rfl)) hS 0 rfl rfl rfl rfl hl.1 rfl (Nat.le_of_ble_eq_true rfl) dX0_openEdges_53 (fun r_8 _u H locs hg hP hD hS => ?_)
              refine lv_if_ne (tgt := 62) hx hb dX0_openEdges_56 (by decide) (fun c_9 => ?_) (fun c_9 => ?_)
              · have hg := hg.2 c_9
                exact J62 _ hX6 _ _ _ _ _ _ hg hP hD hS (lv_sub hl [1, 2, 3, 4, 5, 7, 0] rfl)
              · have hg := hg.1 c_9
                refine lv_goto (tgt := 86) hx hb dX0_openEdges_59 (by decide) ?_
                obtain ⟨x6_10, ex6_10⟩ : ∃ y : Int32, y = x6 + 1 := ⟨_, rfl⟩
                have hg := hg x6_10 ex6_10
                refine lv_iinc (v := x6_10) (lv' := [(6, .int x6_10), (7, .int x7_2), (0, .ref o0), (1, .ref o1), (2, .ref o2), (3, .int x3), (4, .int x4), (5, .int x5)]) hx hb dX0_openEdges_86 hl (k := 7) rfl (by rw [ex6_10]; rfl) (by decide) rfl (fun ls hl => ?_)
                refine lv_goto (tgt := 6) hx hb dX0_openEdges_89 (by decide) ?_
                exact hX6 _ _ _ _ _ _ hg hP hD hS (lv_sub hl [2, 3, 4, 5, 6, 7, 0] rfl)
  refine lv_iconst (v := 0) hx hb dX0_openEdges_0 (by decide) ?_
  refine lv_istore (lv' := [(5, .int 0), (0, .ref o0), (1, .ref o1), (2, .ref o2), (3, .int x3), (4, .int x4)]) hx hb dX0_openEdges_1 hl (by decide) rfl (fun ls hl => ?_)
  refine lv_iconst (v := 0) hx hb dX0_openEdges_3 (by decide) ?_
  refine lv_istore (lv' := [(6, .int 0), (5, .int 0), (0, .ref o0), (1, .ref o1), (2, .ref o2), (3, .int x3), (4, .int x4)]) hx hb dX0_openEdges_4 hl (by decide) rfl (fun ls hl => ?_)
  obtain ⟨n, hg⟩ := hg
  exact L6 n _ _ _ _ _ _ hg hP hD hS (lv_sub hl [2, 3, 4, 5, 6, 1, 0] rfl)
theorem zv_X0_climb : zV yX0_climb RX0 cX0_climb 8 none 4 := ⟨q_474, q_475, q_5, q_476, by decide +kernel⟩
set_option maxHeartbeats 4000000 in
set_option maxRecDepth 100000 in
theorem c_X0_climb (l : Launch) (G : ZG) (o0 : Nat) (d0 : Nat → Nat) (o1 : Nat) (d1 : Nat → Nat) (o2 : Nat) (d2 : Nat → Nat) (x3 : Int32) (x4 : Int32) (S0 : ZS) (S1 : ZS) (S2 : ZS) (Q : ZS → Prop) (hg : g_X0_climb x3 x4 S0 S1 S2 Q) : Kv l G yX0_climb cX0_climb 8 rm_X0_climb [.ref o0, .ref o1, .ref o2, .int x3, .int x4] (wX0 G o0 d0 S0 ++ (wX4 G o1 d1 S1 ++ (wX2 G o2 d2 S2))) (fun u : ZS => wX0 G o0 d0 u ++ (wX4 G o1 d1 S1 ++ (wX2 G o2 d2 S2))) (fun u => Q u) := by
  refine Kv.of (by decide) (Nat.le_of_ble_eq_true rfl) ?_
  intro p e s m args below meth c A QQ ls Cx hret hl hP hD hS
  obtain ⟨hx, hb, hml, hown, hT, hK, hA⟩ := id Cx
  have hl : lv_has ls 8 [(0, .ref o0), (1, .ref o1), (2, .ref o2), (3, .int x3), (4, .int x4)] := hl
  have L74 : ∀ (X56 : Int32 × Int32 × ZS → Prop) (hX56 : ∀ (x5 : Int32) (x6 : Int32) (S0 : ZS) (H : Heap) (locs : List Loc) (ls : Array Slot), X56 (x5, x6, S0) → va_P G.1 classes (wX0 G o0 d0 S0 ++ (wX4 G o1 d1 S1 ++ (wX2 G o2 d2 S2))) H → va_D A (wX0 G o0 d0 S0 ++ (wX4 G o1 d1 S1 ++ (wX2 G o2 d2 S2))) → va_S A s.heap H locs → lv_has ls 8 [(0, .ref o0), (1, .ref o1), (2, .ref o2), (3, .int x3), (4, .int x4), (5, .int x5), (6, .int x6)] → W p l e rm_X0_climb s m args below meth c H locs 0 0 QQ (F0 m 56 ls [])) (n : Nat) (x5 : Int32) (x6 : Int32) (x7 : Int32) (S0 : ZS) (H : Heap) (locs : List Loc) (ls : Array Slot), fx (F_X0_climb_74 x3 x4 S1 S2 Q X56) n (x5, x6, x7, S0) → va_P G.1 classes (wX0 G o0 d0 S0 ++ (wX4 G o1 d1 S1 ++ (wX2 G o2 d2 S2))) H → va_D A (wX0 G o0 d0 S0 ++ (wX4 G o1 d1 S1 ++ (wX2 G o2 d2 S2))) → va_S A s.heap H locs → lv_has ls 8 [(0, .ref o0), (1, .ref o1), (2, .ref o2), (3, .int x3), (4, .int x4), (5, .int x5), (6, .int x6), (7, .int x7)] → W p l e rm_X0_climb s m args below meth c H locs 0 0 QQ (F0 m 74 ls []) := by
    intro X56 hX56 n
    induction n with
    | zero => intro x5 x6 x7 S0 H locs ls hg; exact hg.elim
    | succ n ih =>
      have hX74 := ih
      intro x5 x6 x7 S0 H locs ls hg hP hD hS hl
      refine lv_iload hx hb dX0_climb_74 (lv_at hl 7 rfl) ?_
      refine lv_aload_n hx hb dX0_climb_76 rfl (lv_at hl 1 rfl) ?_
      refine va_get (D := G.1) (ci := 3) (v := .int (S1 0 0)) (C := RX4) (T := TX4) (N := 17) hx hb hT iX4 hown hK hP 5 rfl rfl 0 (by decide) (hT _ q_63) (fun _ h9 => h9) rfl dX0_climb_77 ?_
      refine lv_icmp_ge (tgt := 129) hx hb dX0_climb_80 (by decide) (fun c_1 => ?_) (fun c_1 => ?_)
      · have hg := hg.1 c_1
        obtain ⟨x6_2, ex6_2⟩ : ∃ y : Int32, y = x6 + 1 := ⟨_, rfl⟩
        have hg := hg x6_2 ex6_2
        refine lv_iinc (v := x6_2) (lv' := [(6, .int x6_2), (0, .ref o0), (1, .ref o1), (2, .ref o2), (3, .int x3), (4, .int x4), (5, .int x5), (7, .int x7)]) hx hb dX0_climb_129 hl (k := 6) rfl (by rw [ex6_2]; rfl) (by decide) rfl (fun ls hl => ?_)
        refine lv_goto (tgt := 56) hx hb dX0_climb_132 (by decide) ?_
        exact hX56 _ _ _ _ _ _ hg hP hD hS (lv_sub hl [1, 2, 3, 4, 5, 6, 0] rfl)
      · have hg := hg.2 c_1
        refine lv_aload_n hx hb dX0_climb_83 rfl (lv_at hl 0 rfl) ?_
        refine va_get (D := G.1) (ci := 0) (v := .ref (d0 2)) (C := RX0) (T := TX0) (N := 4) hx hb hT iX0 hown hK hP 0 rfl rfl 2 (by decide) (hT _ q_203) (fun _ h9 => h9) rfl dX0_climb_84 ?_
        refine lv_iload hx hb dX0_climb_87 (lv_at hl 7 rfl) ?_
        refine va_iald hx hb hK hP 3 0 rfl rfl hg.1 dX0_climb_89 ?_
        have hg := hg.2
        refine lv_iconst (v := 1) hx hb dX0_climb_90 (by decide) ?_
        refine lv_icmp_ne (tgt := 123) hx hb dX0_climb_91 (by decide) (fun c_3 => ?_) (fun c_3 => ?_)
        · have hg := hg.2 c_3
          obtain ⟨x7_4, ex7_4⟩ : ∃ y : Int32, y = x7 + 1 := ⟨_, rfl⟩
          have hg := hg x7_4 ex7_4
          refine lv_iinc (v := x7_4) (lv' := [(7, .int x7_4), (0, .ref o0), (1, .ref o1), (2, .ref o2), (3, .int x3), (4, .int x4), (5, .int x5), (6, .int x6)]) hx hb dX0_climb_123 hl (k := 7) rfl (by rw [ex7_4]; rfl) (by decide) rfl (fun ls hl => ?_)
          refine lv_goto (tgt := 74) hx hb dX0_climb_126 (by decide) ?_
          exact hX74 _ _ _ _ _ _ _ hg hP hD hS (lv_sub hl [1, 2, 3, 4, 5, 6, 7, 0] rfl)
        · have hg := hg.1 c_3
          refine lv_iload hx hb dX0_climb_94 (lv_at hl 5 rfl) ?_
          refine lv_aload_n hx hb dX0_climb_96 rfl (lv_at hl 0 rfl) ?_
          refine lv_aload_n hx hb dX0_climb_97 rfl (lv_at hl 1 rfl) ?_
          refine lv_aload_n hx hb dX0_climb_98 rfl (lv_at hl 2 rfl) ?_
          refine lv_iload hx hb dX0_climb_99 (lv_at hl 7 rfl) ?_
          refine lv_iload hx hb dX0_climb_101 (lv_at hl 4 rfl) ?_
          refine zcVi (As := [.ref o1, .ref o2, .int x7, .int x4]) (rest := [.int x5]) (C := RX0) Cx (c_X0_liftNames l G o0 d0 o1 d1 o2 d2 x7 x4 S0 S1 S2 _ hg) zv_X0_liftNames q_478 ⟨⟨rfl, rfl⟩, Nat.le_of_ble_eq_true rfl, Nat.le_of_ble_eq_true rfl⟩ (zJ.all hP hD hS hA) hS 0 rfl rfl rfl rfl hl.1 rfl (Nat.le_of_ble_eq_true rfl) dX0_climb_103 (fun r_6 S0_5 H locs hg hP hD hS => ?_)
          have hP : va_P G.1 classes (wX0 G o0 d0 S0_5 ++ (wX4 G o1 d1 S1 ++ (wX2 G o2 d2 S2))) H := hP
          have hD : va_D A (wX0 G o0 d0 S0_5 ++ (wX4 G o1 d1 S1 ++ (wX2 G o2 d2 S2))) := hD
          refine lv_ior hx hb dX0_climb_106 ?_
          refine lv_topi (fun x5_7 ex5_7 => ?_)
          have hg := hg x5_7 ex5_7
          refine lv_istore (lv' := [(5, .int x5_7), (0, .ref o0), (1, .ref o1), (2, .ref o2), (3, .int x3), (4, .int x4), (6, .int x6), (7, .int x7)]) hx hb dX0_climb_107 hl (by decide) rfl (fun ls hl => ?_)
          refine lv_iload hx hb dX0_climb_109 (lv_at hl 0 rfl) ?_
          refine lv_aload_n hx hb dX0_climb_111 rfl (lv_at hl 1 rfl) ?_
          refine lv_aload_n hx hb dX0_climb_112 rfl (lv_at hl 2 rfl) ?_
          refine lv_aload_n hx hb dX0_climb_113 rfl (lv_at hl 3 rfl) ?_
          refine lv_iload hx hb dX0_climb_114 (lv_at hl 7 rfl) ?_
          refine lv_iload_n hx hb dX0_climb_116 rfl (lv_at hl 4 rfl) ?_
          refine zcVi (As := [.ref o1, .ref o2, .int x7, .int x3]) (rest := [.int x5_7]) (C := RX0) Cx (c_X0_openEdges l G o0 d0 o1 d1 o2 d2 x7 x3 S0_5 S1 S2 _ hg) zv_X0_openEdges q_508 ⟨⟨rfl, rfl⟩, Nat.le_of_ble_eq_true rfl, Nat.le_of_ble_eq_true rfl⟩ (zJ.all hP hD hS hA) hS 0 rfl rfl rfl rfl hl.1 rfl (Nat.le_of_ble_eq_true rfl) dX0_climb_117 (fun r_9 S0_8 H locs hg hP hD hS => ?_)
          have hP : va_P G.1 classes (wX0 G o0 d0 S0_8 ++ (wX4 G o1 d1 S1 ++ (wX2 G o2 d2 S2))) H := hP
          have hD : va_D A (wX0 G o0 d0 S0_8 ++ (wX4 G o1 d1 S1 ++ (wX2 G o2 d2 S2))) := hD
          refine lv_ior hx hb dX0_climb_120 ?_
          refine lv_topi (fun x5_10 ex5_10 => ?_)
          have hg := hg x5_10 ex5_10
          refine lv_istore (lv' := [(5, .int x5_10), (0, .ref o0), (1, .ref o1), (2, .ref o2), (3, .int x3), (4, .int x4), (6, .int x6), (7, .int x7)]) hx hb dX0_climb_121 hl (by decide) rfl (fun ls hl => ?_)
          obtain ⟨x7_11, ex7_11⟩ : ∃ y : Int32, y = x7 + 1 := ⟨_, rfl⟩
          have hg := hg x7_11 ex7_11
          refine lv_iinc (v := x7_11) (lv' := [(7, .int x7_11), (5, .int x5_10), (0, .ref o0), (1, .ref o1), (2, .ref o2), (3, .int x3), (4, .int x4), (6, .int x6)]) hx hb dX0_climb_123 hl (k := 7) rfl (by rw [ex7_11]; rfl) (by decide) rfl (fun ls hl => ?_)
          refine lv_goto (tgt := 74) hx hb dX0_climb_126 (by decide) ?_
          exact hX74 _ _ _ _ _ _ _ hg hP hD hS (lv_sub hl [2, 3, 4, 5, 6, 1, 7, 0] rfl)
  have L56 : ∀ (n : Nat) (x5 : Int32) (x6 : Int32) (S0 : ZS) (H : Heap) (locs : List Loc) (ls : Array Slot), fx (F_X0_climb_56 x3 x4 S1 S2 Q) n (x5, x6, S0) → va_P G.1 classes (wX0 G o0 d0 S0 ++ (wX4 G o1 d1 S1 ++ (wX2 G o2 d2 S2))) H → va_D A (wX0 G o0 d0 S0 ++ (wX4 G o1 d1 S1 ++ (wX2 G o2 d2 S2))) → va_S A s.heap H locs → lv_has ls 8 [(0, .ref o0), (1, .ref o1), (2, .ref o2), (3, .int x3), (4, .int x4), (5, .int x5), (6, .int x6)] → W p l e rm_X0_climb s m args below meth c H locs 0 0 QQ (F0 m 56 ls []) := by
    intro n
    induction n with
    | zero => intro x5 x6 S0 H locs ls hg; exact hg.elim
    | succ n ih =>
      have hX56 := ih
      intro x5 x6 S0 H locs ls hg hP hD hS hl
      refine lv_iload hx hb dX0_climb_56 (lv_at hl 6 rfl) ?_
      refine lv_bipush (v := 65) hx hb dX0_climb_58 (by decide) ?_
      refine lv_icmp_ge (tgt := 135) hx hb dX0_climb_60 (by decide) (fun c_1 => ?_) (fun c_1 => ?_)
      · have hg := hg.1 c_1
        exact hret _ _ (S0) _ _ hg hP hD hS dX0_climb_135
      · have hg := hg.2 c_1
        refine lv_iload hx hb dX0_climb_63 (lv_at hl 5 rfl) ?_
        refine lv_if_eq (tgt := 135) hx hb dX0_climb_65 (by decide) (fun c_2 => ?_) (fun c_2 => ?_)
        · have hg := hg.1 c_2
          exact hret _ _ (S0) _ _ hg hP hD hS dX0_climb_135
        · have hg := hg.2 c_2
          refine lv_iconst (v := 0) hx hb dX0_climb_68 (by decide) ?_
          refine lv_istore (lv' := [(5, .int 0), (0, .ref o0), (1, .ref o1), (2, .ref o2), (3, .int x3), (4, .int x4), (6, .int x6)]) hx hb dX0_climb_69 hl (by decide) rfl (fun ls hl => ?_)
          refine lv_iconst (v := 0) hx hb dX0_climb_71 (by decide) ?_
          refine lv_istore (lv' := [(7, .int 0), (5, .int 0), (0, .ref o0), (1, .ref o1), (2, .ref o2), (3, .int x3), (4, .int x4), (6, .int x6)]) hx hb dX0_climb_72 hl (by decide) rfl (fun ls hl => ?_)
          obtain ⟨n, hg⟩ := hg
          exact L74 _ hX56 n _ _ _ _ _ _ _ hg hP hD hS (lv_sub hl [2, 3, 4, 5, 6, 1, 7, 0] rfl)
  have J49 : ∀ (t1 : Int32) (t2 : Int32) (S0 : ZS) (H : Heap) (locs : List Loc) (ls : Array Slot), G_X0_climb_49 x3 x4 S1 S2 Q t1 t2 S0 → va_P G.1 classes (wX0 G o0 d0 S0 ++ (wX4 G o1 d1 S1 ++ (wX2 G o2 d2 S2))) H → va_D A (wX0 G o0 d0 S0 ++ (wX4 G o1 d1 S1 ++ (wX2 G o2 d2 S2))) → va_S A s.heap H locs → lv_has ls 8 [(0, .ref o0), (1, .ref o1), (2, .ref o2), (3, .int x3), (4, .int x4)] → W p l e rm_X0_climb s m args below meth c H locs 0 0 QQ (F0 m 49 ls [.int t2, .int t1, .ref (d0 2)]) := by
    intro t1 t2 S0 H locs ls hg hP hD hS hl
    refine z_iast hx hb hK hP hD hS 3 0 rfl rfl hg.1 dX0_climb_49 (zst S0 2 t1.toNatClampNeg t2) (fun S : ZS => wX0 G o0 d0 S ++ (wX4 G o1 d1 S1 ++ (wX2 G o2 d2 S2))) rfl (fun S0_1 H locs eS0_1 hP hD hS => ?_)
    have hg := hg.2 S0_1 eS0_1
    refine lv_iconst (v := 1) hx hb dX0_climb_50 (by decide) ?_
    refine lv_istore (lv' := [(5, .int 1), (0, .ref o0), (1, .ref o1), (2, .ref o2), (3, .int x3), (4, .int x4)]) hx hb dX0_climb_51 hl (by decide) rfl (fun ls hl => ?_)
    refine lv_iconst (v := 0) hx hb dX0_climb_53 (by decide) ?_
    refine lv_istore (lv' := [(6, .int 0), (5, .int 1), (0, .ref o0), (1, .ref o1), (2, .ref o2), (3, .int x3), (4, .int x4)]) hx hb dX0_climb_54 hl (by decide) rfl (fun ls hl => ?_)
    obtain ⟨n, hg⟩ := hg
    exact L56 n _ _ _ _ _ _ hg hP hD hS (lv_sub hl [2, 3, 4, 5, 6, 1, 0] rfl)
  refine lv_aload_n hx hb dX0_climb_0 rfl (lv_at hl 0 rfl) ?_
  refine va_get (D := G.1) (ci := 0) (v := .ref (d0 0)) (C := RX0) (T := TX0) (N := 4) hx hb hT iX0 hown hK hP 0 rfl rfl 0 (by decide) (hT _ q_199) (fun _ h9 => h9) rfl dX0_climb_1 ?_
  refine lv_iconst (v := 0) hx hb dX0_climb_4 (by decide) ?_
  refine zcSv (As := [.ref (d0 0), .int 0]) (rest := []) Cx (c_J7_fill_53178 l G (d0 0) 24 0 (S0 0) _ hg) zv_J7_fill_53178 q_477 ⟨⟨rfl, rfl⟩, Nat.le_of_ble_eq_true rfl, Nat.le_of_ble_eq_true rfl⟩ (zJ.sub (wr := [0, 2, 3, 4, 5, 6, 7, 8, 9, 10, 11, 12, 13, 14, 15, 16, 17, 18, 19, 20, 21, 22, 23, 24, 25, 26].filterMap (fun i => (wX0 G o0 d0 S0 ++ (wX4 G o1 d1 S1 ++ (wX2 G o2 d2 S2)))[i]?)) (w2 := (fun u : ZR => wX0 G o0 d0 ((zrp S0 0 u)) ++ (wX4 G o1 d1 S1 ++ (wX2 G o2 d2 S2)))) hP hD hS hA [1] [0, 2, 3, 4, 5, 6, 7, 8, 9, 10, 11, 12, 13, 14, 15, 16, 17, 18, 19, 20, 21, 22, 23, 24, 25, 26] [0, 26, 1, 2, 3, 4, 5, 6, 7, 8, 9, 10, 11, 12, 13, 14, 15, 16, 17, 18, 19, 20, 21, 22, 23, 24, 25] rfl rfl (by decide) (fun u => rfl)) hS rfl hl.1 rfl (Nat.le_of_ble_eq_true rfl) dX0_climb_5 (fun f_1 H locs hg hP hD hS => ?_)
  have hP : va_P G.1 classes (wX0 G o0 d0 ((zrp S0 0 f_1)) ++ (wX4 G o1 d1 S1 ++ (wX2 G o2 d2 S2))) H := hP
  have hD : va_D A (wX0 G o0 d0 ((zrp S0 0 f_1)) ++ (wX4 G o1 d1 S1 ++ (wX2 G o2 d2 S2))) := hD
  refine lv_aload_n hx hb dX0_climb_8 rfl (lv_at hl 0 rfl) ?_
  refine va_get (D := G.1) (ci := 0) (v := .ref (d0 1)) (C := RX0) (T := TX0) (N := 4) hx hb hT iX0 hown hK hP 0 rfl rfl 1 (by decide) (hT _ q_201) (fun _ h9 => h9) rfl dX0_climb_9 ?_
  refine lv_iconst (v := 0) hx hb dX0_climb_12 (by decide) ?_
  refine zcSv (As := [.ref (d0 1), .int 0]) (rest := []) Cx (c_J7_fill_53178 l G (d0 1) 24 0 ((zrp S0 0 f_1) 1) _ hg) zv_J7_fill_53178 q_477 ⟨⟨rfl, rfl⟩, Nat.le_of_ble_eq_true rfl, Nat.le_of_ble_eq_true rfl⟩ (zJ.sub (wr := [0, 1, 3, 4, 5, 6, 7, 8, 9, 10, 11, 12, 13, 14, 15, 16, 17, 18, 19, 20, 21, 22, 23, 24, 25, 26].filterMap (fun i => (wX0 G o0 d0 ((zrp S0 0 f_1)) ++ (wX4 G o1 d1 S1 ++ (wX2 G o2 d2 S2)))[i]?)) (w2 := (fun u : ZR => wX0 G o0 d0 ((zrp (zrp S0 0 f_1) 1 u)) ++ (wX4 G o1 d1 S1 ++ (wX2 G o2 d2 S2)))) hP hD hS hA [2] [0, 1, 3, 4, 5, 6, 7, 8, 9, 10, 11, 12, 13, 14, 15, 16, 17, 18, 19, 20, 21, 22, 23, 24, 25, 26] [0, 1, 26, 2, 3, 4, 5, 6, 7, 8, 9, 10, 11, 12, 13, 14, 15, 16, 17, 18, 19, 20, 21, 22, 23, 24, 25] rfl rfl (by decide) (fun u => rfl)) hS rfl hl.1 rfl (Nat.le_of_ble_eq_true rfl) dX0_climb_13 (fun f_2 H locs hg hP hD hS => ?_)
  have hP : va_P G.1 classes (wX0 G o0 d0 ((zrp (zrp S0 0 f_1) 1 f_2)) ++ (wX4 G o1 d1 S1 ++ (wX2 G o2 d2 S2))) H := hP
  have hD : va_D A (wX0 G o0 d0 ((zrp (zrp S0 0 f_1) 1 f_2)) ++ (wX4 G o1 d1 S1 ++ (wX2 G o2 d2 S2))) := hD
  refine lv_aload_n hx hb dX0_climb_16 rfl (lv_at hl 0 rfl) ?_
  refine va_get (D := G.1) (ci := 0) (v := .ref (d0 2)) (C := RX0) (T := TX0) (N := 4) hx hb hT iX0 hown hK hP 0 rfl rfl 2 (by decide) (hT _ q_203) (fun _ h9 => h9) rfl dX0_climb_17 ?_
  refine lv_iconst (v := 0) hx hb dX0_climb_20 (by decide) ?_
  refine zcSv (As := [.ref (d0 2), .int 0]) (rest := []) Cx (c_J7_fill_53178 l G (d0 2) 8 0 ((zrp (zrp S0 0 f_1) 1 f_2) 2) _ hg) zv_J7_fill_53178 q_477 ⟨⟨rfl, rfl⟩, Nat.le_of_ble_eq_true rfl, Nat.le_of_ble_eq_true rfl⟩ (zJ.sub (wr := [0, 1, 2, 4, 5, 6, 7, 8, 9, 10, 11, 12, 13, 14, 15, 16, 17, 18, 19, 20, 21, 22, 23, 24, 25, 26].filterMap (fun i => (wX0 G o0 d0 ((zrp (zrp S0 0 f_1) 1 f_2)) ++ (wX4 G o1 d1 S1 ++ (wX2 G o2 d2 S2)))[i]?)) (w2 := (fun u : ZR => wX0 G o0 d0 ((zrp (zrp (zrp S0 0 f_1) 1 f_2) 2 u)) ++ (wX4 G o1 d1 S1 ++ (wX2 G o2 d2 S2)))) hP hD hS hA [3] [0, 1, 2, 4, 5, 6, 7, 8, 9, 10, 11, 12, 13, 14, 15, 16, 17, 18, 19, 20, 21, 22, 23, 24, 25, 26] [0, 1, 2, 26, 3, 4, 5, 6, 7, 8, 9, 10, 11, 12, 13, 14, 15, 16, 17, 18, 19, 20, 21, 22, 23, 24, 25] rfl rfl (by decide) (fun u => rfl)) hS rfl hl.1 rfl (Nat.le_of_ble_eq_true rfl) dX0_climb_21 (fun f_3 H locs hg hP hD hS => ?_)
  have hP : va_P G.1 classes (wX0 G o0 d0 ((zrp (zrp (zrp S0 0 f_1) 1 f_2) 2 f_3)) ++ (wX4 G o1 d1 S1 ++ (wX2 G o2 d2 S2))) H := hP
  have hD : va_D A (wX0 G o0 d0 ((zrp (zrp (zrp S0 0 f_1) 1 f_2) 2 f_3)) ++ (wX4 G o1 d1 S1 ++ (wX2 G o2 d2 S2))) := hD
  refine lv_aload_n hx hb dX0_climb_24 rfl (lv_at hl 0 rfl) ?_
  refine va_get (D := G.1) (ci := 0) (v := .ref (d0 3)) (C := RX0) (T := TX0) (N := 4) hx hb hT iX0 hown hK hP 0 rfl rfl 3 (by decide) (hT _ q_205) (fun _ h9 => h9) rfl dX0_climb_25 ?_
  refine lv_iconst (v := 0) hx hb dX0_climb_28 (by decide) ?_
  refine zcSv (As := [.ref (d0 3), .int 0]) (rest := []) Cx (c_J7_fill_53178 l G (d0 3) 16 0 ((zrp (zrp (zrp S0 0 f_1) 1 f_2) 2 f_3) 3) _ hg) zv_J7_fill_53178 q_477 ⟨⟨rfl, rfl⟩, Nat.le_of_ble_eq_true rfl, Nat.le_of_ble_eq_true rfl⟩ (zJ.sub (wr := [0, 1, 2, 3, 5, 6, 7, 8, 9, 10, 11, 12, 13, 14, 15, 16, 17, 18, 19, 20, 21, 22, 23, 24, 25, 26].filterMap (fun i => (wX0 G o0 d0 ((zrp (zrp (zrp S0 0 f_1) 1 f_2) 2 f_3)) ++ (wX4 G o1 d1 S1 ++ (wX2 G o2 d2 S2)))[i]?)) (w2 := (fun u : ZR => wX0 G o0 d0 ((zrp (zrp (zrp (zrp S0 0 f_1) 1 f_2) 2 f_3) 3 u)) ++ (wX4 G o1 d1 S1 ++ (wX2 G o2 d2 S2)))) hP hD hS hA [4] [0, 1, 2, 3, 5, 6, 7, 8, 9, 10, 11, 12, 13, 14, 15, 16, 17, 18, 19, 20, 21, 22, 23, 24, 25, 26] [0, 1, 2, 3, 26, 4, 5, 6, 7, 8, 9, 10, 11, 12, 13, 14, 15, 16, 17, 18, 19, 20, 21, 22, 23, 24, 25] rfl rfl (by decide) (fun u => rfl)) hS rfl hl.1 rfl (Nat.le_of_ble_eq_true rfl) dX0_climb_29 (fun f_4 H locs hg hP hD hS => ?_)
  have hP : va_P G.1 classes (wX0 G o0 d0 ((zrp (zrp (zrp (zrp S0 0 f_1) 1 f_2) 2 f_3) 3 f_4)) ++ (wX4 G o1 d1 S1 ++ (wX2 G o2 d2 S2))) H := hP
  have hD : va_D A (wX0 G o0 d0 ((zrp (zrp (zrp (zrp S0 0 f_1) 1 f_2) 2 f_3) 3 f_4)) ++ (wX4 G o1 d1 S1 ++ (wX2 G o2 d2 S2))) := hD
  refine lv_aload_n hx hb dX0_climb_32 rfl (lv_at hl 0 rfl) ?_
  refine va_get (D := G.1) (ci := 0) (v := .ref (d0 2)) (C := RX0) (T := TX0) (N := 4) hx hb hT iX0 hown hK hP 0 rfl rfl 2 (by decide) (hT _ q_203) (fun _ h9 => h9) rfl dX0_climb_33 ?_
  refine lv_iconst (v := 0) hx hb dX0_climb_36 (by decide) ?_
  refine lv_aload_n hx hb dX0_climb_37 rfl (lv_at hl 1 rfl) ?_
  refine va_get (D := G.1) (ci := 3) (v := .int (S1 0 0)) (C := RX4) (T := TX4) (N := 17) hx hb hT iX4 hown hK hP 5 rfl rfl 0 (by decide) (hT _ q_63) (fun _ h9 => h9) rfl dX0_climb_38 ?_
  refine lv_if_le (tgt := 48) hx hb dX0_climb_41 (by decide) (fun c_5 => ?_) (fun c_5 => ?_)
  · have hg := hg.1 c_5
    refine lv_iconst (v := 0) hx hb dX0_climb_48 (by decide) ?_
    exact J49 _ _ _ _ _ _ hg hP hD hS (lv_sub hl [0, 1, 2, 3, 4] rfl)
  · have hg := hg.2 c_5
    refine lv_iconst (v := 1) hx hb dX0_climb_44 (by decide) ?_
    refine lv_goto (tgt := 49) hx hb dX0_climb_45 (by decide) ?_
    exact J49 _ _ _ _ _ _ hg hP hD hS (lv_sub hl [0, 1, 2, 3, 4] rfl)
theorem zv_X0_namesThatAre : zV yX0_namesThatAre RX0 cX0_namesThatAre 5 (some .int) 2 := ⟨q_570, q_571, q_5, q_572, by decide +kernel⟩
set_option maxHeartbeats 4000000 in
set_option maxRecDepth 100000 in
theorem c_X0_namesThatAre (l : Launch) (G : ZG) (o0 : Nat) (d0 : Nat → Nat) (o1 : Nat) (d1 : Nat → Nat) (x1 : Int32) (S0 : ZS) (S1 : ZS) (Q : Int32 → Prop) (hg : g_X0_namesThatAre x1 S0 S1 Q) : Ki l G yX0_namesThatAre cX0_namesThatAre 5 .int rm_X0_namesThatAre [.ref o0, .int x1, .ref o1] (wX0 G o0 d0 S0 ++ (wX4 G o1 d1 S1)) (fun _ : Unit => wX0 G o0 d0 S0 ++ (wX4 G o1 d1 S1)) (fun r _ => Q r ) := by
  refine Ki.of (by decide) (Nat.le_of_ble_eq_true rfl) ?_
  intro p e s m args below meth c A QQ ls Cx hret hl hP hD hS
  obtain ⟨hx, hb, hml, hown, hT, hK, hA⟩ := id Cx
  have hl : lv_has ls 5 [(0, .ref o0), (1, .int x1), (2, .ref o1)] := hl
  have L5 : ∀ (n : Nat) (x3 : Int32) (x4 : Int32) (H : Heap) (locs : List Loc) (ls : Array Slot), fx (F_X0_namesThatAre_5 x1 S0 S1 Q) n (x3, x4) → va_P G.1 classes (wX0 G o0 d0 S0 ++ (wX4 G o1 d1 S1)) H → va_D A (wX0 G o0 d0 S0 ++ (wX4 G o1 d1 S1)) → va_S A s.heap H locs → lv_has ls 5 [(0, .ref o0), (1, .int x1), (2, .ref o1), (3, .int x3), (4, .int x4)] → W p l e rm_X0_namesThatAre s m args below meth c H locs 0 0 QQ (F0 m 5 ls []) := by
    intro n
    induction n with
    | zero => intro x3 x4 H locs ls hg; exact hg.elim
    | succ n ih =>
      have hX5 := ih
      intro x3 x4 H locs ls hg hP hD hS hl
      refine lv_iload hx hb dX0_namesThatAre_5 (lv_at hl 4 rfl) ?_
      refine lv_aload_n hx hb dX0_namesThatAre_7 rfl (lv_at hl 2 rfl) ?_
      refine va_get (D := G.1) (ci := 3) (v := .int (S1 1 0)) (C := RX4) (T := TX4) (N := 17) hx hb hT iX4 hown hK hP 5 rfl rfl 1 (by decide) (hT _ q_67) (fun _ h9 => h9) rfl dX0_namesThatAre_8 ?_
      refine lv_icmp_ge (tgt := 39) hx hb dX0_namesThatAre_11 (by decide) (fun c_1 => ?_) (fun c_1 => ?_)
      · have hg := hg.1 c_1
        refine lv_iload_n hx hb dX0_namesThatAre_39 rfl (lv_at hl 3 rfl) ?_
        exact hret _ _ _ () _ _ hg rfl hP hD hS dX0_namesThatAre_40
      · have hg := hg.2 c_1
        refine lv_iload_n hx hb dX0_namesThatAre_14 rfl (lv_at hl 3 rfl) ?_
        refine lv_aload_n hx hb dX0_namesThatAre_15 rfl (lv_at hl 0 rfl) ?_
        refine va_get (D := G.1) (ci := 0) (v := .ref (d0 0)) (C := RX0) (T := TX0) (N := 4) hx hb hT iX0 hown hK hP 0 rfl rfl 0 (by decide) (hT _ q_199) (fun _ h9 => h9) rfl dX0_namesThatAre_16 ?_
        refine lv_iload hx hb dX0_namesThatAre_19 (lv_at hl 4 rfl) ?_
        refine va_iald hx hb hK hP 1 0 rfl rfl hg.1 dX0_namesThatAre_21 ?_
        have hg := hg.2
        refine lv_iload_n hx hb dX0_namesThatAre_22 rfl (lv_at hl 1 rfl) ?_
        refine lv_icmp_ne (tgt := 30) hx hb dX0_namesThatAre_23 (by decide) (fun c_2 => ?_) (fun c_2 => ?_)
        · have hg := hg.2 c_2
          refine lv_iconst (v := 0) hx hb dX0_namesThatAre_30 (by decide) ?_
          refine lv_iadd hx hb dX0_namesThatAre_31 ?_
          refine lv_topi (fun x3_3 ex3_3 => ?_)
          have hg := hg x3_3 ex3_3
          refine lv_istore_n (lv' := [(3, .int x3_3), (0, .ref o0), (1, .int x1), (2, .ref o1), (4, .int x4)]) hx hb dX0_namesThatAre_32 rfl hl (by decide) rfl (fun ls hl => ?_)
          obtain ⟨x4_4, ex4_4⟩ : ∃ y : Int32, y = x4 + 1 := ⟨_, rfl⟩
          have hg := hg x4_4 ex4_4
          refine lv_iinc (v := x4_4) (lv' := [(4, .int x4_4), (3, .int x3_3), (0, .ref o0), (1, .int x1), (2, .ref o1)]) hx hb dX0_namesThatAre_33 hl (k := 4) rfl (by rw [ex4_4]; rfl) (by decide) rfl (fun ls hl => ?_)
          refine lv_goto (tgt := 5) hx hb dX0_namesThatAre_36 (by decide) ?_
          exact hX5 _ _ _ _ _ hg hP hD hS (lv_sub hl [2, 3, 4, 1, 0] rfl)
        · have hg := hg.1 c_2
          refine lv_iconst (v := 1) hx hb dX0_namesThatAre_26 (by decide) ?_
          refine lv_goto (tgt := 31) hx hb dX0_namesThatAre_27 (by decide) ?_
          refine lv_iadd hx hb dX0_namesThatAre_31 ?_
          refine lv_topi (fun x3_5 ex3_5 => ?_)
          have hg := hg x3_5 ex3_5
          refine lv_istore_n (lv' := [(3, .int x3_5), (0, .ref o0), (1, .int x1), (2, .ref o1), (4, .int x4)]) hx hb dX0_namesThatAre_32 rfl hl (by decide) rfl (fun ls hl => ?_)
          obtain ⟨x4_6, ex4_6⟩ : ∃ y : Int32, y = x4 + 1 := ⟨_, rfl⟩
          have hg := hg x4_6 ex4_6
          refine lv_iinc (v := x4_6) (lv' := [(4, .int x4_6), (3, .int x3_5), (0, .ref o0), (1, .int x1), (2, .ref o1)]) hx hb dX0_namesThatAre_33 hl (k := 4) rfl (by rw [ex4_6]; rfl) (by decide) rfl (fun ls hl => ?_)
          refine lv_goto (tgt := 5) hx hb dX0_namesThatAre_36 (by decide) ?_
          exact hX5 _ _ _ _ _ hg hP hD hS (lv_sub hl [2, 3, 4, 1, 0] rfl)
  refine lv_iconst (v := 0) hx hb dX0_namesThatAre_0 (by decide) ?_
  refine lv_istore_n (lv' := [(3, .int 0), (0, .ref o0), (1, .int x1), (2, .ref o1)]) hx hb dX0_namesThatAre_1 rfl hl (by decide) rfl (fun ls hl => ?_)
  refine lv_iconst (v := 0) hx hb dX0_namesThatAre_2 (by decide) ?_
  refine lv_istore (lv' := [(4, .int 0), (3, .int 0), (0, .ref o0), (1, .int x1), (2, .ref o1)]) hx hb dX0_namesThatAre_3 hl (by decide) rfl (fun ls hl => ?_)
  obtain ⟨n, hg⟩ := hg
  exact L5 n _ _ _ _ _ hg hP hD hS (lv_sub hl [2, 3, 4, 1, 0] rfl)
theorem zv_X0_liveBlocks : zV yX0_liveBlocks RX0 cX0_liveBlocks 4 (some .int) 1 := ⟨q_594, q_595, q_5, q_596, by decide +kernel⟩
set_option maxHeartbeats 4000000 in
set_option maxRecDepth 100000 in
theorem c_X0_liveBlocks (l : Launch) (G : ZG) (o0 : Nat) (d0 : Nat → Nat) (o1 : Nat) (d1 : Nat → Nat) (S0 : ZS) (S1 : ZS) (Q : Int32 → Prop) (hg : g_X0_liveBlocks S0 S1 Q) : Ki l G yX0_liveBlocks cX0_liveBlocks 4 .int rm_X0_liveBlocks [.ref o0, .ref o1] (wX0 G o0 d0 S0 ++ (wX4 G o1 d1 S1)) (fun _ : Unit => wX0 G o0 d0 S0 ++ (wX4 G o1 d1 S1)) (fun r _ => Q r ) := by
  refine Ki.of (by decide) (Nat.le_of_ble_eq_true rfl) ?_
  intro p e s m args below meth c A QQ ls Cx hret hl hP hD hS
  obtain ⟨hx, hb, hml, hown, hT, hK, hA⟩ := id Cx
  have hl : lv_has ls 4 [(0, .ref o0), (1, .ref o1)] := hl
  have L4 : ∀ (n : Nat) (x2 : Int32) (x3 : Int32) (H : Heap) (locs : List Loc) (ls : Array Slot), fx (F_X0_liveBlocks_4 S0 S1 Q) n (x2, x3) → va_P G.1 classes (wX0 G o0 d0 S0 ++ (wX4 G o1 d1 S1)) H → va_D A (wX0 G o0 d0 S0 ++ (wX4 G o1 d1 S1)) → va_S A s.heap H locs → lv_has ls 4 [(0, .ref o0), (1, .ref o1), (2, .int x2), (3, .int x3)] → W p l e rm_X0_liveBlocks s m args below meth c H locs 0 0 QQ (F0 m 4 ls []) := by
    intro n
    induction n with
    | zero => intro x2 x3 H locs ls hg; exact hg.elim
    | succ n ih =>
      have hX4 := ih
      intro x2 x3 H locs ls hg hP hD hS hl
      refine lv_iload_n hx hb dX0_liveBlocks_4 rfl (lv_at hl 3 rfl) ?_
      refine lv_aload_n hx hb dX0_liveBlocks_5 rfl (lv_at hl 1 rfl) ?_
      refine va_get (D := G.1) (ci := 3) (v := .int (S1 0 0)) (C := RX4) (T := TX4) (N := 17) hx hb hT iX4 hown hK hP 5 rfl rfl 0 (by decide) (hT _ q_63) (fun _ h9 => h9) rfl dX0_liveBlocks_6 ?_
      refine lv_icmp_ge (tgt := 27) hx hb dX0_liveBlocks_9 (by decide) (fun c_1 => ?_) (fun c_1 => ?_)
      · have hg := hg.1 c_1
        refine lv_iload_n hx hb dX0_liveBlocks_27 rfl (lv_at hl 2 rfl) ?_
        exact hret _ _ _ () _ _ hg rfl hP hD hS dX0_liveBlocks_28
      · have hg := hg.2 c_1
        refine lv_iload_n hx hb dX0_liveBlocks_12 rfl (lv_at hl 2 rfl) ?_
        refine lv_aload_n hx hb dX0_liveBlocks_13 rfl (lv_at hl 0 rfl) ?_
        refine va_get (D := G.1) (ci := 0) (v := .ref (d0 2)) (C := RX0) (T := TX0) (N := 4) hx hb hT iX0 hown hK hP 0 rfl rfl 2 (by decide) (hT _ q_203) (fun _ h9 => h9) rfl dX0_liveBlocks_14 ?_
        refine lv_iload_n hx hb dX0_liveBlocks_17 rfl (lv_at hl 3 rfl) ?_
        refine va_iald hx hb hK hP 3 0 rfl rfl hg.1 dX0_liveBlocks_18 ?_
        have hg := hg.2
        refine lv_iadd hx hb dX0_liveBlocks_19 ?_
        refine lv_topi (fun x2_2 ex2_2 => ?_)
        have hg := hg x2_2 ex2_2
        refine lv_istore_n (lv' := [(2, .int x2_2), (0, .ref o0), (1, .ref o1), (3, .int x3)]) hx hb dX0_liveBlocks_20 rfl hl (by decide) rfl (fun ls hl => ?_)
        obtain ⟨x3_3, ex3_3⟩ : ∃ y : Int32, y = x3 + 1 := ⟨_, rfl⟩
        have hg := hg x3_3 ex3_3
        refine lv_iinc (v := x3_3) (lv' := [(3, .int x3_3), (2, .int x2_2), (0, .ref o0), (1, .ref o1)]) hx hb dX0_liveBlocks_21 hl (k := 3) rfl (by rw [ex3_3]; rfl) (by decide) rfl (fun ls hl => ?_)
        refine lv_goto (tgt := 4) hx hb dX0_liveBlocks_24 (by decide) ?_
        exact hX4 _ _ _ _ _ hg hP hD hS (lv_sub hl [2, 3, 1, 0] rfl)
  refine lv_iconst (v := 0) hx hb dX0_liveBlocks_0 (by decide) ?_
  refine lv_istore_n (lv' := [(2, .int 0), (0, .ref o0), (1, .ref o1)]) hx hb dX0_liveBlocks_1 rfl hl (by decide) rfl (fun ls hl => ?_)
  refine lv_iconst (v := 0) hx hb dX0_liveBlocks_2 (by decide) ?_
  refine lv_istore_n (lv' := [(3, .int 0), (2, .int 0), (0, .ref o0), (1, .ref o1)]) hx hb dX0_liveBlocks_3 rfl hl (by decide) rfl (fun ls hl => ?_)
  obtain ⟨n, hg⟩ := hg
  exact L4 n _ _ _ _ _ hg hP hD hS (lv_sub hl [2, 3, 1, 0] rfl)
theorem zv_X0_liveEdges : zV yX0_liveEdges RX0 cX0_liveEdges 3 (some .int) 0 := ⟨q_627, q_628, q_5, q_629, by decide +kernel⟩
set_option maxHeartbeats 4000000 in
set_option maxRecDepth 100000 in
theorem c_X0_liveEdges (l : Launch) (G : ZG) (o0 : Nat) (d0 : Nat → Nat) (S0 : ZS) (Q : Int32 → Prop) (hg : g_X0_liveEdges S0 Q) : Ki l G yX0_liveEdges cX0_liveEdges 3 .int rm_X0_liveEdges [.ref o0] (wX0 G o0 d0 S0) (fun _ : Unit => wX0 G o0 d0 S0) (fun r _ => Q r ) := by
  refine Ki.of (by decide) (Nat.le_of_ble_eq_true rfl) ?_
  intro p e s m args below meth c A QQ ls Cx hret hl hP hD hS
  obtain ⟨hx, hb, hml, hown, hT, hK, hA⟩ := id Cx
  have hl : lv_has ls 3 [(0, .ref o0)] := hl
  have L4 : ∀ (n : Nat) (x1 : Int32) (x2 : Int32) (H : Heap) (locs : List Loc) (ls : Array Slot), fx (F_X0_liveEdges_4 S0 Q) n (x1, x2) → va_P G.1 classes (wX0 G o0 d0 S0) H → va_D A (wX0 G o0 d0 S0) → va_S A s.heap H locs → lv_has ls 3 [(0, .ref o0), (1, .int x1), (2, .int x2)] → W p l e rm_X0_liveEdges s m args below meth c H locs 0 0 QQ (F0 m 4 ls []) := by
    intro n
    induction n with
    | zero => intro x1 x2 H locs ls hg; exact hg.elim
    | succ n ih =>
      have hX4 := ih
      intro x1 x2 H locs ls hg hP hD hS hl
      refine lv_iload_n hx hb dX0_liveEdges_4 rfl (lv_at hl 2 rfl) ?_
      refine lv_bipush (v := 16) hx hb dX0_liveEdges_5 (by decide) ?_
      refine lv_icmp_ge (tgt := 25) hx hb dX0_liveEdges_7 (by decide) (fun c_1 => ?_) (fun c_1 => ?_)
      · have hg := hg.1 c_1
        refine lv_iload_n hx hb dX0_liveEdges_25 rfl (lv_at hl 1 rfl) ?_
        exact hret _ _ _ () _ _ hg rfl hP hD hS dX0_liveEdges_26
      · have hg := hg.2 c_1
        refine lv_iload_n hx hb dX0_liveEdges_10 rfl (lv_at hl 1 rfl) ?_
        refine lv_aload_n hx hb dX0_liveEdges_11 rfl (lv_at hl 0 rfl) ?_
        refine va_get (D := G.1) (ci := 0) (v := .ref (d0 3)) (C := RX0) (T := TX0) (N := 4) hx hb hT iX0 hown hK hP 0 rfl rfl 3 (by decide) (hT _ q_205) (fun _ h9 => h9) rfl dX0_liveEdges_12 ?_
        refine lv_iload_n hx hb dX0_liveEdges_15 rfl (lv_at hl 2 rfl) ?_
        refine va_iald hx hb hK hP 4 0 rfl rfl hg.1 dX0_liveEdges_16 ?_
        have hg := hg.2
        refine lv_iadd hx hb dX0_liveEdges_17 ?_
        refine lv_topi (fun x1_2 ex1_2 => ?_)
        have hg := hg x1_2 ex1_2
        refine lv_istore_n (lv' := [(1, .int x1_2), (0, .ref o0), (2, .int x2)]) hx hb dX0_liveEdges_18 rfl hl (by decide) rfl (fun ls hl => ?_)
        obtain ⟨x2_3, ex2_3⟩ : ∃ y : Int32, y = x2 + 1 := ⟨_, rfl⟩
        have hg := hg x2_3 ex2_3
        refine lv_iinc (v := x2_3) (lv' := [(2, .int x2_3), (1, .int x1_2), (0, .ref o0)]) hx hb dX0_liveEdges_19 hl (k := 2) rfl (by rw [ex2_3]; rfl) (by decide) rfl (fun ls hl => ?_)
        refine lv_goto (tgt := 4) hx hb dX0_liveEdges_22 (by decide) ?_
        exact hX4 _ _ _ _ _ hg hP hD hS (lv_sub hl [2, 1, 0] rfl)
  refine lv_iconst (v := 0) hx hb dX0_liveEdges_0 (by decide) ?_
  refine lv_istore_n (lv' := [(1, .int 0), (0, .ref o0)]) hx hb dX0_liveEdges_1 rfl hl (by decide) rfl (fun ls hl => ?_)
  refine lv_iconst (v := 0) hx hb dX0_liveEdges_2 (by decide) ?_
  refine lv_istore_n (lv' := [(2, .int 0), (1, .int 0), (0, .ref o0)]) hx hb dX0_liveEdges_3 rfl hl (by decide) rfl (fun ls hl => ?_)
  obtain ⟨n, hg⟩ := hg
  exact L4 n _ _ _ _ _ hg hP hD hS (lv_sub hl [2, 1, 0] rfl)
theorem zv_X0_foldedNames : zV yX0_foldedNames RX0 cX0_foldedNames 4 (some .int) 1 := ⟨q_631, q_632, q_5, q_633, by decide +kernel⟩
set_option maxHeartbeats 4000000 in
set_option maxRecDepth 100000 in
theorem c_X0_foldedNames (l : Launch) (G : ZG) (o0 : Nat) (d0 : Nat → Nat) (o1 : Nat) (d1 : Nat → Nat) (S0 : ZS) (S1 : ZS) (Q : Int32 → Prop) (hg : g_X0_foldedNames S0 S1 Q) : Ki l G yX0_foldedNames cX0_foldedNames 4 .int rm_X0_foldedNames [.ref o0, .ref o1] (wX0 G o0 d0 S0 ++ (wX4 G o1 d1 S1)) (fun _ : Unit => wX0 G o0 d0 S0 ++ (wX4 G o1 d1 S1)) (fun r _ => Q r ) := by
  refine Ki.of (by decide) (Nat.le_of_ble_eq_true rfl) ?_
  intro p e s m args below meth c A QQ ls Cx hret hl hP hD hS
  obtain ⟨hx, hb, hml, hown, hT, hK, hA⟩ := id Cx
  have hl : lv_has ls 4 [(0, .ref o0), (1, .ref o1)] := hl
  have L4 : ∀ (n : Nat) (x2 : Int32) (x3 : Int32) (H : Heap) (locs : List Loc) (ls : Array Slot), fx (F_X0_foldedNames_4 S0 S1 Q) n (x2, x3) → va_P G.1 classes (wX0 G o0 d0 S0 ++ (wX4 G o1 d1 S1)) H → va_D A (wX0 G o0 d0 S0 ++ (wX4 G o1 d1 S1)) → va_S A s.heap H locs → lv_has ls 4 [(0, .ref o0), (1, .ref o1), (2, .int x2), (3, .int x3)] → W p l e rm_X0_foldedNames s m args below meth c H locs 0 0 QQ (F0 m 4 ls []) := by
    intro n
    induction n with
    | zero => intro x2 x3 H locs ls hg; exact hg.elim
    | succ n ih =>
      have hX4 := ih
      intro x2 x3 H locs ls hg hP hD hS hl
      refine lv_iload_n hx hb dX0_foldedNames_4 rfl (lv_at hl 3 rfl) ?_
      refine lv_aload_n hx hb dX0_foldedNames_5 rfl (lv_at hl 1 rfl) ?_
      refine va_get (D := G.1) (ci := 3) (v := .int (S1 1 0)) (C := RX4) (T := TX4) (N := 17) hx hb hT iX4 hown hK hP 5 rfl rfl 1 (by decide) (hT _ q_67) (fun _ h9 => h9) rfl dX0_foldedNames_6 ?_
      refine lv_icmp_ge (tgt := 45) hx hb dX0_foldedNames_9 (by decide) (fun c_1 => ?_) (fun c_1 => ?_)
      · have hg := hg.1 c_1
        refine lv_iload_n hx hb dX0_foldedNames_45 rfl (lv_at hl 2 rfl) ?_
        exact hret _ _ _ () _ _ hg rfl hP hD hS dX0_foldedNames_46
      · have hg := hg.2 c_1
        refine lv_iload_n hx hb dX0_foldedNames_12 rfl (lv_at hl 2 rfl) ?_
        refine lv_aload_n hx hb dX0_foldedNames_13 rfl (lv_at hl 0 rfl) ?_
        refine va_get (D := G.1) (ci := 0) (v := .ref (d0 0)) (C := RX0) (T := TX0) (N := 4) hx hb hT iX0 hown hK hP 0 rfl rfl 0 (by decide) (hT _ q_199) (fun _ h9 => h9) rfl dX0_foldedNames_14 ?_
        refine lv_iload_n hx hb dX0_foldedNames_17 rfl (lv_at hl 3 rfl) ?_
        refine va_iald hx hb hK hP 1 0 rfl rfl hg.1 dX0_foldedNames_18 ?_
        have hg := hg.2
        refine lv_iconst (v := 1) hx hb dX0_foldedNames_19 (by decide) ?_
        refine lv_icmp_ne (tgt := 36) hx hb dX0_foldedNames_20 (by decide) (fun c_2 => ?_) (fun c_2 => ?_)
        · have hg := hg.2 c_2
          refine lv_iconst (v := 0) hx hb dX0_foldedNames_36 (by decide) ?_
          refine lv_iadd hx hb dX0_foldedNames_37 ?_
          refine lv_topi (fun x2_3 ex2_3 => ?_)
          have hg := hg x2_3 ex2_3
          refine lv_istore_n (lv' := [(2, .int x2_3), (0, .ref o0), (1, .ref o1), (3, .int x3)]) hx hb dX0_foldedNames_38 rfl hl (by decide) rfl (fun ls hl => ?_)
          obtain ⟨x3_4, ex3_4⟩ : ∃ y : Int32, y = x3 + 1 := ⟨_, rfl⟩
          have hg := hg x3_4 ex3_4
          refine lv_iinc (v := x3_4) (lv' := [(3, .int x3_4), (2, .int x2_3), (0, .ref o0), (1, .ref o1)]) hx hb dX0_foldedNames_39 hl (k := 3) rfl (by rw [ex3_4]; rfl) (by decide) rfl (fun ls hl => ?_)
          refine lv_goto (tgt := 4) hx hb dX0_foldedNames_42 (by decide) ?_
          exact hX4 _ _ _ _ _ hg hP hD hS (lv_sub hl [2, 3, 1, 0] rfl)
        · have hg := hg.1 c_2
          refine lv_aload_n hx hb dX0_foldedNames_23 rfl (lv_at hl 1 rfl) ?_
          refine va_get (D := G.1) (ci := 3) (v := .ref (d1 3)) (C := RX4) (T := TX4) (N := 17) hx hb hT iX4 hown hK hP 5 rfl rfl 3 (by decide) (hT _ q_72) (fun _ h9 => h9) rfl dX0_foldedNames_24 ?_
          refine lv_iload_n hx hb dX0_foldedNames_27 rfl (lv_at hl 3 rfl) ?_
          refine va_iald hx hb hK hP 7 0 rfl rfl hg.1 dX0_foldedNames_28 ?_
          have hg := hg.2
          refine lv_if_eq (tgt := 36) hx hb dX0_foldedNames_29 (by decide) (fun c_5 => ?_) (fun c_5 => ?_)
          · have hg := hg.1 c_5
            refine lv_iconst (v := 0) hx hb dX0_foldedNames_36 (by decide) ?_
            refine lv_iadd hx hb dX0_foldedNames_37 ?_
            refine lv_topi (fun x2_6 ex2_6 => ?_)
            have hg := hg x2_6 ex2_6
            refine lv_istore_n (lv' := [(2, .int x2_6), (0, .ref o0), (1, .ref o1), (3, .int x3)]) hx hb dX0_foldedNames_38 rfl hl (by decide) rfl (fun ls hl => ?_)
            obtain ⟨x3_7, ex3_7⟩ : ∃ y : Int32, y = x3 + 1 := ⟨_, rfl⟩
            have hg := hg x3_7 ex3_7
            refine lv_iinc (v := x3_7) (lv' := [(3, .int x3_7), (2, .int x2_6), (0, .ref o0), (1, .ref o1)]) hx hb dX0_foldedNames_39 hl (k := 3) rfl (by rw [ex3_7]; rfl) (by decide) rfl (fun ls hl => ?_)
            refine lv_goto (tgt := 4) hx hb dX0_foldedNames_42 (by decide) ?_
            exact hX4 _ _ _ _ _ hg hP hD hS (lv_sub hl [2, 3, 1, 0] rfl)
          · have hg := hg.2 c_5
            refine lv_iconst (v := 1) hx hb dX0_foldedNames_32 (by decide) ?_
            refine lv_goto (tgt := 37) hx hb dX0_foldedNames_33 (by decide) ?_
            refine lv_iadd hx hb dX0_foldedNames_37 ?_
            refine lv_topi (fun x2_8 ex2_8 => ?_)
            have hg := hg x2_8 ex2_8
            refine lv_istore_n (lv' := [(2, .int x2_8), (0, .ref o0), (1, .ref o1), (3, .int x3)]) hx hb dX0_foldedNames_38 rfl hl (by decide) rfl (fun ls hl => ?_)
            obtain ⟨x3_9, ex3_9⟩ : ∃ y : Int32, y = x3 + 1 := ⟨_, rfl⟩
            have hg := hg x3_9 ex3_9
            refine lv_iinc (v := x3_9) (lv' := [(3, .int x3_9), (2, .int x2_8), (0, .ref o0), (1, .ref o1)]) hx hb dX0_foldedNames_39 hl (k := 3) rfl (by rw [ex3_9]; rfl) (by decide) rfl (fun ls hl => ?_)
            refine lv_goto (tgt := 4) hx hb dX0_foldedNames_42 (by decide) ?_
            exact hX4 _ _ _ _ _ hg hP hD hS (lv_sub hl [2, 3, 1, 0] rfl)
  refine lv_iconst (v := 0) hx hb dX0_foldedNames_0 (by decide) ?_
  refine lv_istore_n (lv' := [(2, .int 0), (0, .ref o0), (1, .ref o1)]) hx hb dX0_foldedNames_1 rfl hl (by decide) rfl (fun ls hl => ?_)
  refine lv_iconst (v := 0) hx hb dX0_foldedNames_2 (by decide) ?_
  refine lv_istore_n (lv' := [(3, .int 0), (2, .int 0), (0, .ref o0), (1, .ref o1)]) hx hb dX0_foldedNames_3 rfl hl (by decide) rfl (fun ls hl => ?_)
  obtain ⟨n, hg⟩ := hg
  exact L4 n _ _ _ _ _ hg hP hD hS (lv_sub hl [2, 3, 1, 0] rfl)
theorem zv_X0_foldedEnds : zV yX0_foldedEnds RX0 cX0_foldedEnds 5 (some .int) 1 := ⟨q_635, q_636, q_5, q_637, by decide +kernel⟩
set_option maxHeartbeats 4000000 in
set_option maxRecDepth 100000 in
theorem c_X0_foldedEnds (l : Launch) (G : ZG) (o0 : Nat) (d0 : Nat → Nat) (o1 : Nat) (d1 : Nat → Nat) (S0 : ZS) (S1 : ZS) (Q : Int32 → Prop) (hg : g_X0_foldedEnds S0 S1 Q) : Ki l G yX0_foldedEnds cX0_foldedEnds 5 .int rm_X0_foldedEnds [.ref o0, .ref o1] (wX0 G o0 d0 S0 ++ (wX4 G o1 d1 S1)) (fun _ : Unit => wX0 G o0 d0 S0 ++ (wX4 G o1 d1 S1)) (fun r _ => Q r ) := by
  refine Ki.of (by decide) (Nat.le_of_ble_eq_true rfl) ?_
  intro p e s m args below meth c A QQ ls Cx hret hl hP hD hS
  obtain ⟨hx, hb, hml, hown, hT, hK, hA⟩ := id Cx
  have hl : lv_has ls 5 [(0, .ref o0), (1, .ref o1)] := hl
  have J38 : ∀ (X4 : Int32 × Int32 → Prop) (hX4 : ∀ (x2 : Int32) (x3 : Int32) (H : Heap) (locs : List Loc) (ls : Array Slot), X4 (x2, x3) → va_P G.1 classes (wX0 G o0 d0 S0 ++ (wX4 G o1 d1 S1)) H → va_D A (wX0 G o0 d0 S0 ++ (wX4 G o1 d1 S1)) → va_S A s.heap H locs → lv_has ls 5 [(0, .ref o0), (1, .ref o1), (2, .int x2), (3, .int x3)] → W p l e rm_X0_foldedEnds s m args below meth c H locs 0 0 QQ (F0 m 4 ls [])) (x2 : Int32) (x3 : Int32) (t0 : Int32) (H : Heap) (locs : List Loc) (ls : Array Slot), G_X0_foldedEnds_38 S0 S1 Q X4 x2 x3 t0 → va_P G.1 classes (wX0 G o0 d0 S0 ++ (wX4 G o1 d1 S1)) H → va_D A (wX0 G o0 d0 S0 ++ (wX4 G o1 d1 S1)) → va_S A s.heap H locs → lv_has ls 5 [(0, .ref o0), (1, .ref o1), (2, .int x2), (3, .int x3)] → W p l e rm_X0_foldedEnds s m args below meth c H locs 0 0 QQ (F0 m 38 ls [.int t0]) := by
    intro X4 hX4 x2 x3 t0 H locs ls hg hP hD hS hl
    refine lv_istore (lv' := [(4, .int t0), (0, .ref o0), (1, .ref o1), (2, .int x2), (3, .int x3)]) hx hb dX0_foldedEnds_38 hl (by decide) rfl (fun ls hl => ?_)
    refine lv_iload_n hx hb dX0_foldedEnds_40 rfl (lv_at hl 3 rfl) ?_
    refine lv_aload_n hx hb dX0_foldedEnds_41 rfl (lv_at hl 1 rfl) ?_
    refine va_get (D := G.1) (ci := 0) (v := .ref (d0 2)) (C := RX0) (T := TX0) (N := 4) hx hb hT iX0 hown hK hP 0 rfl rfl 2 (by decide) (hT _ q_203) (fun _ h9 => h9) rfl dX0_foldedEnds_42 ?_
    refine lv_iload_n hx hb dX0_foldedEnds_45 rfl (lv_at hl 4 rfl) ?_
    refine va_iald hx hb hK hP 3 0 rfl rfl hg.1 dX0_foldedEnds_46 ?_
    have hg := hg.2
    refine lv_iconst (v := 1) hx hb dX0_foldedEnds_47 (by decide) ?_
    refine lv_icmp_ne (tgt := 70) hx hb dX0_foldedEnds_48 (by decide) (fun c_1 => ?_) (fun c_1 => ?_)
    · have hg := hg.2 c_1
      refine lv_iconst (v := 0) hx hb dX0_foldedEnds_70 (by decide) ?_
      refine lv_iadd hx hb dX0_foldedEnds_71 ?_
      refine lv_topi (fun x2_2 ex2_2 => ?_)
      have hg := hg x2_2 ex2_2
      refine lv_istore_n (lv' := [(2, .int x2_2), (4, .int t0), (0, .ref o0), (1, .ref o1), (3, .int x3)]) hx hb dX0_foldedEnds_72 rfl hl (by decide) rfl (fun ls hl => ?_)
      obtain ⟨x3_3, ex3_3⟩ : ∃ y : Int32, y = x3 + 1 := ⟨_, rfl⟩
      have hg := hg x3_3 ex3_3
      refine lv_iinc (v := x3_3) (lv' := [(3, .int x3_3), (2, .int x2_2), (4, .int t0), (0, .ref o0), (1, .ref o1)]) hx hb dX0_foldedEnds_73 hl (k := 4) rfl (by rw [ex3_3]; rfl) (by decide) rfl (fun ls hl => ?_)
      refine lv_goto (tgt := 4) hx hb dX0_foldedEnds_76 (by decide) ?_
      exact hX4 _ _ _ _ _ hg hP hD hS (lv_sub hl [3, 4, 1, 0] rfl)
    · have hg := hg.1 c_1
      refine lv_aload_n hx hb dX0_foldedEnds_51 rfl (lv_at hl 2 rfl) ?_
      refine va_get (D := G.1) (ci := 3) (v := .ref (d1 13)) (C := RX4) (T := TX4) (N := 17) hx hb hT iX4 hown hK hP 5 rfl rfl 13 (by decide) (hT _ q_111) (fun _ h9 => h9) rfl dX0_foldedEnds_52 ?_
      refine lv_iload_n hx hb dX0_foldedEnds_55 rfl (lv_at hl 4 rfl) ?_
      refine va_iald hx hb hK hP 17 0 rfl rfl hg.1 dX0_foldedEnds_56 ?_
      have hg := hg.2
      refine lv_iconst (v := 1) hx hb dX0_foldedEnds_57 (by decide) ?_
      refine lv_icmp_ne (tgt := 70) hx hb dX0_foldedEnds_58 (by decide) (fun c_4 => ?_) (fun c_4 => ?_)
      · have hg := hg.2 c_4
        refine lv_iconst (v := 0) hx hb dX0_foldedEnds_70 (by decide) ?_
        refine lv_iadd hx hb dX0_foldedEnds_71 ?_
        refine lv_topi (fun x2_5 ex2_5 => ?_)
        have hg := hg x2_5 ex2_5
        refine lv_istore_n (lv' := [(2, .int x2_5), (4, .int t0), (0, .ref o0), (1, .ref o1), (3, .int x3)]) hx hb dX0_foldedEnds_72 rfl hl (by decide) rfl (fun ls hl => ?_)
        obtain ⟨x3_6, ex3_6⟩ : ∃ y : Int32, y = x3 + 1 := ⟨_, rfl⟩
        have hg := hg x3_6 ex3_6
        refine lv_iinc (v := x3_6) (lv' := [(3, .int x3_6), (2, .int x2_5), (4, .int t0), (0, .ref o0), (1, .ref o1)]) hx hb dX0_foldedEnds_73 hl (k := 4) rfl (by rw [ex3_6]; rfl) (by decide) rfl (fun ls hl => ?_)
        refine lv_goto (tgt := 4) hx hb dX0_foldedEnds_76 (by decide) ?_
        exact hX4 _ _ _ _ _ hg hP hD hS (lv_sub hl [3, 4, 1, 0] rfl)
      · have hg := hg.1 c_4
        refine lv_iload hx hb dX0_foldedEnds_61 (lv_at hl 0 rfl) ?_
        refine lv_if_eq (tgt := 70) hx hb dX0_foldedEnds_63 (by decide) (fun c_7 => ?_) (fun c_7 => ?_)
        · have hg := hg.1 c_7
          refine lv_iconst (v := 0) hx hb dX0_foldedEnds_70 (by decide) ?_
          refine lv_iadd hx hb dX0_foldedEnds_71 ?_
          refine lv_topi (fun x2_8 ex2_8 => ?_)
          have hg := hg x2_8 ex2_8
          refine lv_istore_n (lv' := [(2, .int x2_8), (4, .int t0), (0, .ref o0), (1, .ref o1), (3, .int x3)]) hx hb dX0_foldedEnds_72 rfl hl (by decide) rfl (fun ls hl => ?_)
          obtain ⟨x3_9, ex3_9⟩ : ∃ y : Int32, y = x3 + 1 := ⟨_, rfl⟩
          have hg := hg x3_9 ex3_9
          refine lv_iinc (v := x3_9) (lv' := [(3, .int x3_9), (2, .int x2_8), (4, .int t0), (0, .ref o0), (1, .ref o1)]) hx hb dX0_foldedEnds_73 hl (k := 4) rfl (by rw [ex3_9]; rfl) (by decide) rfl (fun ls hl => ?_)
          refine lv_goto (tgt := 4) hx hb dX0_foldedEnds_76 (by decide) ?_
          exact hX4 _ _ _ _ _ hg hP hD hS (lv_sub hl [3, 4, 1, 0] rfl)
        · have hg := hg.2 c_7
          refine lv_iconst (v := 1) hx hb dX0_foldedEnds_66 (by decide) ?_
          refine lv_goto (tgt := 71) hx hb dX0_foldedEnds_67 (by decide) ?_
          refine lv_iadd hx hb dX0_foldedEnds_71 ?_
          refine lv_topi (fun x2_10 ex2_10 => ?_)
          have hg := hg x2_10 ex2_10
          refine lv_istore_n (lv' := [(2, .int x2_10), (4, .int t0), (0, .ref o0), (1, .ref o1), (3, .int x3)]) hx hb dX0_foldedEnds_72 rfl hl (by decide) rfl (fun ls hl => ?_)
          obtain ⟨x3_11, ex3_11⟩ : ∃ y : Int32, y = x3 + 1 := ⟨_, rfl⟩
          have hg := hg x3_11 ex3_11
          refine lv_iinc (v := x3_11) (lv' := [(3, .int x3_11), (2, .int x2_10), (4, .int t0), (0, .ref o0), (1, .ref o1)]) hx hb dX0_foldedEnds_73 hl (k := 4) rfl (by rw [ex3_11]; rfl) (by decide) rfl (fun ls hl => ?_)
          refine lv_goto (tgt := 4) hx hb dX0_foldedEnds_76 (by decide) ?_
          exact hX4 _ _ _ _ _ hg hP hD hS (lv_sub hl [3, 4, 1, 0] rfl)
  have L4 : ∀ (n : Nat) (x2 : Int32) (x3 : Int32) (H : Heap) (locs : List Loc) (ls : Array Slot), fx (F_X0_foldedEnds_4 S0 S1 Q) n (x2, x3) → va_P G.1 classes (wX0 G o0 d0 S0 ++ (wX4 G o1 d1 S1)) H → va_D A (wX0 G o0 d0 S0 ++ (wX4 G o1 d1 S1)) → va_S A s.heap H locs → lv_has ls 5 [(0, .ref o0), (1, .ref o1), (2, .int x2), (3, .int x3)] → W p l e rm_X0_foldedEnds s m args below meth c H locs 0 0 QQ (F0 m 4 ls []) := by
    intro n
    induction n with
    | zero => intro x2 x3 H locs ls hg; exact hg.elim
    | succ n ih =>
      have hX4 := ih
      intro x2 x3 H locs ls hg hP hD hS hl
      refine lv_iload_n hx hb dX0_foldedEnds_4 rfl (lv_at hl 3 rfl) ?_
      refine lv_aload_n hx hb dX0_foldedEnds_5 rfl (lv_at hl 1 rfl) ?_
      refine va_get (D := G.1) (ci := 3) (v := .int (S1 0 0)) (C := RX4) (T := TX4) (N := 17) hx hb hT iX4 hown hK hP 5 rfl rfl 0 (by decide) (hT _ q_63) (fun _ h9 => h9) rfl dX0_foldedEnds_6 ?_
      refine lv_icmp_ge (tgt := 79) hx hb dX0_foldedEnds_9 (by decide) (fun c_1 => ?_) (fun c_1 => ?_)
      · have hg := hg.1 c_1
        refine lv_iload_n hx hb dX0_foldedEnds_79 rfl (lv_at hl 2 rfl) ?_
        exact hret _ _ _ () _ _ hg rfl hP hD hS dX0_foldedEnds_80
      · have hg := hg.2 c_1
        refine lv_aload_n hx hb dX0_foldedEnds_12 rfl (lv_at hl 0 rfl) ?_
        refine va_get (D := G.1) (ci := 0) (v := .ref (d0 3)) (C := RX0) (T := TX0) (N := 4) hx hb hT iX0 hown hK hP 0 rfl rfl 3 (by decide) (hT _ q_205) (fun _ h9 => h9) rfl dX0_foldedEnds_13 ?_
        refine lv_iconst (v := 2) hx hb dX0_foldedEnds_16 (by decide) ?_
        refine lv_iload_n hx hb dX0_foldedEnds_17 rfl (lv_at hl 3 rfl) ?_
        refine lv_imul hx hb dX0_foldedEnds_18 ?_
        refine va_iald hx hb hK hP 4 0 rfl rfl hg.1 dX0_foldedEnds_19 ?_
        have hg := hg.2
        refine lv_aload_n hx hb dX0_foldedEnds_20 rfl (lv_at hl 0 rfl) ?_
        refine va_get (D := G.1) (ci := 0) (v := .ref (d0 3)) (C := RX0) (T := TX0) (N := 4) hx hb hT iX0 hown hK hP 0 rfl rfl 3 (by decide) (hT _ q_205) (fun _ h9 => h9) rfl dX0_foldedEnds_21 ?_
        refine lv_iconst (v := 2) hx hb dX0_foldedEnds_24 (by decide) ?_
        refine lv_iload_n hx hb dX0_foldedEnds_25 rfl (lv_at hl 3 rfl) ?_
        refine lv_imul hx hb dX0_foldedEnds_26 ?_
        refine lv_iconst (v := 1) hx hb dX0_foldedEnds_27 (by decide) ?_
        refine lv_iadd hx hb dX0_foldedEnds_28 ?_
        refine va_iald hx hb hK hP 4 0 rfl rfl hg.1 dX0_foldedEnds_29 ?_
        have hg := hg.2
        refine lv_icmp_eq (tgt := 37) hx hb dX0_foldedEnds_30 (by decide) (fun c_2 => ?_) (fun c_2 => ?_)
        · have hg := hg.1 c_2
          refine lv_iconst (v := 0) hx hb dX0_foldedEnds_37 (by decide) ?_
          exact J38 _ hX4 _ _ _ _ _ _ hg hP hD hS (lv_sub hl [0, 1, 2, 3] rfl)
        · have hg := hg.2 c_2
          refine lv_iconst (v := 1) hx hb dX0_foldedEnds_33 (by decide) ?_
          refine lv_goto (tgt := 38) hx hb dX0_foldedEnds_34 (by decide) ?_
          exact J38 _ hX4 _ _ _ _ _ _ hg hP hD hS (lv_sub hl [0, 1, 2, 3] rfl)
  refine lv_iconst (v := 0) hx hb dX0_foldedEnds_0 (by decide) ?_
  refine lv_istore_n (lv' := [(2, .int 0), (0, .ref o0), (1, .ref o1)]) hx hb dX0_foldedEnds_1 rfl hl (by decide) rfl (fun ls hl => ?_)
  refine lv_iconst (v := 0) hx hb dX0_foldedEnds_2 (by decide) ?_
  refine lv_istore_n (lv' := [(3, .int 0), (2, .int 0), (0, .ref o0), (1, .ref o1)]) hx hb dX0_foldedEnds_3 rfl hl (by decide) rfl (fun ls hl => ?_)
  obtain ⟨n, hg⟩ := hg
  exact L4 n _ _ _ _ _ hg hP hD hS (lv_sub hl [2, 3, 1, 0] rfl)
theorem zv_X0_stayingNames : zV yX0_stayingNames RX0 cX0_stayingNames 5 (some .int) 1 := ⟨q_639, q_640, q_5, q_641, by decide +kernel⟩
set_option maxHeartbeats 4000000 in
set_option maxRecDepth 100000 in
theorem c_X0_stayingNames (l : Launch) (G : ZG) (o0 : Nat) (d0 : Nat → Nat) (o1 : Nat) (d1 : Nat → Nat) (S0 : ZS) (S1 : ZS) (Q : Int32 → Prop) (hg : g_X0_stayingNames S0 S1 Q) : Ki l G yX0_stayingNames cX0_stayingNames 5 .int rm_X0_stayingNames [.ref o0, .ref o1] (wX0 G o0 d0 S0 ++ (wX4 G o1 d1 S1)) (fun _ : Unit => wX0 G o0 d0 S0 ++ (wX4 G o1 d1 S1)) (fun r _ => Q r ) := by
  refine Ki.of (by decide) (Nat.le_of_ble_eq_true rfl) ?_
  intro p e s m args below meth c A QQ ls Cx hret hl hP hD hS
  obtain ⟨hx, hb, hml, hown, hT, hK, hA⟩ := id Cx
  have hl : lv_has ls 5 [(0, .ref o0), (1, .ref o1)] := hl
  have J51 : ∀ (X4 : Int32 × Int32 → Prop) (hX4 : ∀ (x2 : Int32) (x3 : Int32) (H : Heap) (locs : List Loc) (ls : Array Slot), X4 (x2, x3) → va_P G.1 classes (wX0 G o0 d0 S0 ++ (wX4 G o1 d1 S1)) H → va_D A (wX0 G o0 d0 S0 ++ (wX4 G o1 d1 S1)) → va_S A s.heap H locs → lv_has ls 5 [(0, .ref o0), (1, .ref o1), (2, .int x2), (3, .int x3)] → W p l e rm_X0_stayingNames s m args below meth c H locs 0 0 QQ (F0 m 4 ls [])) (x2 : Int32) (x3 : Int32) (t0 : Int32) (H : Heap) (locs : List Loc) (ls : Array Slot), G_X0_stayingNames_51 S0 S1 Q X4 x2 x3 t0 → va_P G.1 classes (wX0 G o0 d0 S0 ++ (wX4 G o1 d1 S1)) H → va_D A (wX0 G o0 d0 S0 ++ (wX4 G o1 d1 S1)) → va_S A s.heap H locs → lv_has ls 5 [(0, .ref o0), (1, .ref o1), (2, .int x2), (3, .int x3)] → W p l e rm_X0_stayingNames s m args below meth c H locs 0 0 QQ (F0 m 51 ls [.int t0]) := by
    intro X4 hX4 x2 x3 t0 H locs ls hg hP hD hS hl
    refine lv_istore (lv' := [(4, .int t0), (0, .ref o0), (1, .ref o1), (2, .int x2), (3, .int x3)]) hx hb dX0_stayingNames_51 hl (by decide) rfl (fun ls hl => ?_)
    refine lv_iload_n hx hb dX0_stayingNames_53 rfl (lv_at hl 3 rfl) ?_
    refine lv_iload hx hb dX0_stayingNames_54 (lv_at hl 0 rfl) ?_
    refine lv_if_eq (tgt := 63) hx hb dX0_stayingNames_56 (by decide) (fun c_1 => ?_) (fun c_1 => ?_)
    · have hg := hg.1 c_1
      refine lv_iconst (v := 0) hx hb dX0_stayingNames_63 (by decide) ?_
      refine lv_iadd hx hb dX0_stayingNames_64 ?_
      refine lv_topi (fun x2_2 ex2_2 => ?_)
      have hg := hg x2_2 ex2_2
      refine lv_istore_n (lv' := [(2, .int x2_2), (4, .int t0), (0, .ref o0), (1, .ref o1), (3, .int x3)]) hx hb dX0_stayingNames_65 rfl hl (by decide) rfl (fun ls hl => ?_)
      obtain ⟨x3_3, ex3_3⟩ : ∃ y : Int32, y = x3 + 1 := ⟨_, rfl⟩
      have hg := hg x3_3 ex3_3
      refine lv_iinc (v := x3_3) (lv' := [(3, .int x3_3), (2, .int x2_2), (4, .int t0), (0, .ref o0), (1, .ref o1)]) hx hb dX0_stayingNames_66 hl (k := 4) rfl (by rw [ex3_3]; rfl) (by decide) rfl (fun ls hl => ?_)
      refine lv_goto (tgt := 4) hx hb dX0_stayingNames_69 (by decide) ?_
      exact hX4 _ _ _ _ _ hg hP hD hS (lv_sub hl [3, 4, 1, 0] rfl)
    · have hg := hg.2 c_1
      refine lv_iconst (v := 1) hx hb dX0_stayingNames_59 (by decide) ?_
      refine lv_goto (tgt := 64) hx hb dX0_stayingNames_60 (by decide) ?_
      refine lv_iadd hx hb dX0_stayingNames_64 ?_
      refine lv_topi (fun x2_4 ex2_4 => ?_)
      have hg := hg x2_4 ex2_4
      refine lv_istore_n (lv' := [(2, .int x2_4), (4, .int t0), (0, .ref o0), (1, .ref o1), (3, .int x3)]) hx hb dX0_stayingNames_65 rfl hl (by decide) rfl (fun ls hl => ?_)
      obtain ⟨x3_5, ex3_5⟩ : ∃ y : Int32, y = x3 + 1 := ⟨_, rfl⟩
      have hg := hg x3_5 ex3_5
      refine lv_iinc (v := x3_5) (lv' := [(3, .int x3_5), (2, .int x2_4), (4, .int t0), (0, .ref o0), (1, .ref o1)]) hx hb dX0_stayingNames_66 hl (k := 4) rfl (by rw [ex3_5]; rfl) (by decide) rfl (fun ls hl => ?_)
      refine lv_goto (tgt := 4) hx hb dX0_stayingNames_69 (by decide) ?_
      exact hX4 _ _ _ _ _ hg hP hD hS (lv_sub hl [3, 4, 1, 0] rfl)
  have J50 : ∀ (X4 : Int32 × Int32 → Prop) (hX4 : ∀ (x2 : Int32) (x3 : Int32) (H : Heap) (locs : List Loc) (ls : Array Slot), X4 (x2, x3) → va_P G.1 classes (wX0 G o0 d0 S0 ++ (wX4 G o1 d1 S1)) H → va_D A (wX0 G o0 d0 S0 ++ (wX4 G o1 d1 S1)) → va_S A s.heap H locs → lv_has ls 5 [(0, .ref o0), (1, .ref o1), (2, .int x2), (3, .int x3)] → W p l e rm_X0_stayingNames s m args below meth c H locs 0 0 QQ (F0 m 4 ls [])) (x2 : Int32) (x3 : Int32) (H : Heap) (locs : List Loc) (ls : Array Slot), G_X0_stayingNames_50 S0 S1 Q X4 x2 x3 → va_P G.1 classes (wX0 G o0 d0 S0 ++ (wX4 G o1 d1 S1)) H → va_D A (wX0 G o0 d0 S0 ++ (wX4 G o1 d1 S1)) → va_S A s.heap H locs → lv_has ls 5 [(0, .ref o0), (1, .ref o1), (2, .int x2), (3, .int x3)] → W p l e rm_X0_stayingNames s m args below meth c H locs 0 0 QQ (F0 m 50 ls []) := by
    intro X4 hX4 x2 x3 H locs ls hg hP hD hS hl
    refine lv_iconst (v := 0) hx hb dX0_stayingNames_50 (by decide) ?_
    exact J51 _ hX4 _ _ _ _ _ _ hg hP hD hS (lv_sub hl [0, 1, 2, 3] rfl)
  have L4 : ∀ (n : Nat) (x2 : Int32) (x3 : Int32) (H : Heap) (locs : List Loc) (ls : Array Slot), fx (F_X0_stayingNames_4 S0 S1 Q) n (x2, x3) → va_P G.1 classes (wX0 G o0 d0 S0 ++ (wX4 G o1 d1 S1)) H → va_D A (wX0 G o0 d0 S0 ++ (wX4 G o1 d1 S1)) → va_S A s.heap H locs → lv_has ls 5 [(0, .ref o0), (1, .ref o1), (2, .int x2), (3, .int x3)] → W p l e rm_X0_stayingNames s m args below meth c H locs 0 0 QQ (F0 m 4 ls []) := by
    intro n
    induction n with
    | zero => intro x2 x3 H locs ls hg; exact hg.elim
    | succ n ih =>
      have hX4 := ih
      intro x2 x3 H locs ls hg hP hD hS hl
      refine lv_iload_n hx hb dX0_stayingNames_4 rfl (lv_at hl 3 rfl) ?_
      refine lv_aload_n hx hb dX0_stayingNames_5 rfl (lv_at hl 1 rfl) ?_
      refine va_get (D := G.1) (ci := 3) (v := .int (S1 1 0)) (C := RX4) (T := TX4) (N := 17) hx hb hT iX4 hown hK hP 5 rfl rfl 1 (by decide) (hT _ q_67) (fun _ h9 => h9) rfl dX0_stayingNames_6 ?_
      refine lv_icmp_ge (tgt := 72) hx hb dX0_stayingNames_9 (by decide) (fun c_1 => ?_) (fun c_1 => ?_)
      · have hg := hg.1 c_1
        refine lv_iload_n hx hb dX0_stayingNames_72 rfl (lv_at hl 2 rfl) ?_
        exact hret _ _ _ () _ _ hg rfl hP hD hS dX0_stayingNames_73
      · have hg := hg.2 c_1
        refine lv_aload_n hx hb dX0_stayingNames_12 rfl (lv_at hl 0 rfl) ?_
        refine va_get (D := G.1) (ci := 0) (v := .ref (d0 2)) (C := RX0) (T := TX0) (N := 4) hx hb hT iX0 hown hK hP 0 rfl rfl 2 (by decide) (hT _ q_203) (fun _ h9 => h9) rfl dX0_stayingNames_13 ?_
        refine lv_aload_n hx hb dX0_stayingNames_16 rfl (lv_at hl 1 rfl) ?_
        refine va_get (D := G.1) (ci := 3) (v := .ref (d1 2)) (C := RX4) (T := TX4) (N := 17) hx hb hT iX4 hown hK hP 5 rfl rfl 2 (by decide) (hT _ q_69) (fun _ h9 => h9) rfl dX0_stayingNames_17 ?_
        refine lv_iload_n hx hb dX0_stayingNames_20 rfl (lv_at hl 3 rfl) ?_
        refine va_iald hx hb hK hP 6 0 rfl rfl hg.1 dX0_stayingNames_21 ?_
        have hg := hg.2
        refine va_iald hx hb hK hP 3 0 rfl rfl hg.1 dX0_stayingNames_22 ?_
        have hg := hg.2
        refine lv_iconst (v := 1) hx hb dX0_stayingNames_23 (by decide) ?_
        refine lv_icmp_ne (tgt := 50) hx hb dX0_stayingNames_24 (by decide) (fun c_2 => ?_) (fun c_2 => ?_)
        · have hg := hg.2 c_2
          exact J50 _ hX4 _ _ _ _ _ hg hP hD hS (lv_sub hl [0, 1, 2, 3] rfl)
        · have hg := hg.1 c_2
          refine lv_aload_n hx hb dX0_stayingNames_27 rfl (lv_at hl 0 rfl) ?_
          refine va_get (D := G.1) (ci := 0) (v := .ref (d0 0)) (C := RX0) (T := TX0) (N := 4) hx hb hT iX0 hown hK hP 0 rfl rfl 0 (by decide) (hT _ q_199) (fun _ h9 => h9) rfl dX0_stayingNames_28 ?_
          refine lv_iload_n hx hb dX0_stayingNames_31 rfl (lv_at hl 3 rfl) ?_
          refine va_iald hx hb hK hP 1 0 rfl rfl hg.1 dX0_stayingNames_32 ?_
          have hg := hg.2
          refine lv_iconst (v := 1) hx hb dX0_stayingNames_33 (by decide) ?_
          refine lv_icmp_eq (tgt := 50) hx hb dX0_stayingNames_34 (by decide) (fun c_3 => ?_) (fun c_3 => ?_)
          · have hg := hg.1 c_3
            exact J50 _ hX4 _ _ _ _ _ hg hP hD hS (lv_sub hl [0, 1, 2, 3] rfl)
          · have hg := hg.2 c_3
            refine lv_aload_n hx hb dX0_stayingNames_37 rfl (lv_at hl 1 rfl) ?_
            refine va_get (D := G.1) (ci := 3) (v := .ref (d1 3)) (C := RX4) (T := TX4) (N := 17) hx hb hT iX4 hown hK hP 5 rfl rfl 3 (by decide) (hT _ q_72) (fun _ h9 => h9) rfl dX0_stayingNames_38 ?_
            refine lv_iload_n hx hb dX0_stayingNames_41 rfl (lv_at hl 3 rfl) ?_
            refine va_iald hx hb hK hP 7 0 rfl rfl hg.1 dX0_stayingNames_42 ?_
            have hg := hg.2
            refine lv_if_eq (tgt := 50) hx hb dX0_stayingNames_43 (by decide) (fun c_4 => ?_) (fun c_4 => ?_)
            · have hg := hg.1 c_4
              exact J50 _ hX4 _ _ _ _ _ hg hP hD hS (lv_sub hl [0, 1, 2, 3] rfl)
            · have hg := hg.2 c_4
              refine lv_iconst (v := 1) hx hb dX0_stayingNames_46 (by decide) ?_
              refine lv_goto (tgt := 51) hx hb dX0_stayingNames_47 (by decide) ?_
              exact J51 _ hX4 _ _ _ _ _ _ hg hP hD hS (lv_sub hl [0, 1, 2, 3] rfl)
  refine lv_iconst (v := 0) hx hb dX0_stayingNames_0 (by decide) ?_
  refine lv_istore_n (lv' := [(2, .int 0), (0, .ref o0), (1, .ref o1)]) hx hb dX0_stayingNames_1 rfl hl (by decide) rfl (fun ls hl => ?_)
  refine lv_iconst (v := 0) hx hb dX0_stayingNames_2 (by decide) ?_
  refine lv_istore_n (lv' := [(3, .int 0), (2, .int 0), (0, .ref o0), (1, .ref o1)]) hx hb dX0_stayingNames_3 rfl hl (by decide) rfl (fun ls hl => ?_)
  obtain ⟨n, hg⟩ := hg
  exact L4 n _ _ _ _ _ hg hP hD hS (lv_sub hl [2, 3, 1, 0] rfl)
theorem zv_X0_gainOver : zV yX0_gainOver RX0 cX0_gainOver 5 (some .int) 2 := ⟨q_643, q_644, q_5, q_645, by decide +kernel⟩
set_option maxHeartbeats 4000000 in
set_option maxRecDepth 100000 in
theorem c_X0_gainOver (l : Launch) (G : ZG) (o0 : Nat) (d0 : Nat → Nat) (o1 : Nat) (d1 : Nat → Nat) (o2 : Nat) (d2 : Nat → Nat) (S0 : ZS) (S1 : ZS) (S2 : ZS) (Q : Int32 → Prop) (hg : g_X0_gainOver S0 S1 S2 Q) : Ki l G yX0_gainOver cX0_gainOver 5 .int rm_X0_gainOver [.ref o0, .ref o1, .ref o2] (wX0 G o0 d0 S0 ++ (wX0 G o1 d1 S1 ++ (wX4 G o2 d2 S2))) (fun _ : Unit => wX0 G o0 d0 S0 ++ (wX0 G o1 d1 S1 ++ (wX4 G o2 d2 S2))) (fun r _ => Q r ) := by
  refine Ki.of (by decide) (Nat.le_of_ble_eq_true rfl) ?_
  intro p e s m args below meth c A QQ ls Cx hret hl hP hD hS
  obtain ⟨hx, hb, hml, hown, hT, hK, hA⟩ := id Cx
  have hl : lv_has ls 5 [(0, .ref o0), (1, .ref o1), (2, .ref o2)] := hl
  have L5 : ∀ (n : Nat) (x3 : Int32) (x4 : Int32) (H : Heap) (locs : List Loc) (ls : Array Slot), fx (F_X0_gainOver_5 S0 S1 S2 Q) n (x3, x4) → va_P G.1 classes (wX0 G o0 d0 S0 ++ (wX0 G o1 d1 S1 ++ (wX4 G o2 d2 S2))) H → va_D A (wX0 G o0 d0 S0 ++ (wX0 G o1 d1 S1 ++ (wX4 G o2 d2 S2))) → va_S A s.heap H locs → lv_has ls 5 [(0, .ref o0), (1, .ref o1), (2, .ref o2), (3, .int x3), (4, .int x4)] → W p l e rm_X0_gainOver s m args below meth c H locs 0 0 QQ (F0 m 5 ls []) := by
    intro n
    induction n with
    | zero => intro x3 x4 H locs ls hg; exact hg.elim
    | succ n ih =>
      have hX5 := ih
      intro x3 x4 H locs ls hg hP hD hS hl
      refine lv_iload hx hb dX0_gainOver_5 (lv_at hl 4 rfl) ?_
      refine lv_aload_n hx hb dX0_gainOver_7 rfl (lv_at hl 2 rfl) ?_
      refine va_get (D := G.1) (ci := 3) (v := .int (S2 1 0)) (C := RX4) (T := TX4) (N := 17) hx hb hT iX4 hown hK hP 10 rfl rfl 1 (by decide) (hT _ q_67) (fun _ h9 => h9) rfl dX0_gainOver_8 ?_
      refine lv_icmp_ge (tgt := 50) hx hb dX0_gainOver_11 (by decide) (fun c_1 => ?_) (fun c_1 => ?_)
      · have hg := hg.1 c_1
        refine lv_iload_n hx hb dX0_gainOver_50 rfl (lv_at hl 3 rfl) ?_
        exact hret _ _ _ () _ _ hg rfl hP hD hS dX0_gainOver_51
      · have hg := hg.2 c_1
        refine lv_iload_n hx hb dX0_gainOver_14 rfl (lv_at hl 3 rfl) ?_
        refine lv_aload_n hx hb dX0_gainOver_15 rfl (lv_at hl 0 rfl) ?_
        refine va_get (D := G.1) (ci := 0) (v := .ref (d0 0)) (C := RX0) (T := TX0) (N := 4) hx hb hT iX0 hown hK hP 0 rfl rfl 0 (by decide) (hT _ q_199) (fun _ h9 => h9) rfl dX0_gainOver_16 ?_
        refine lv_iload hx hb dX0_gainOver_19 (lv_at hl 4 rfl) ?_
        refine va_iald hx hb hK hP 1 0 rfl rfl hg.1 dX0_gainOver_21 ?_
        have hg := hg.2
        refine lv_iconst (v := 2) hx hb dX0_gainOver_22 (by decide) ?_
        refine lv_icmp_eq (tgt := 41) hx hb dX0_gainOver_23 (by decide) (fun c_2 => ?_) (fun c_2 => ?_)
        · have hg := hg.1 c_2
          refine lv_iconst (v := 0) hx hb dX0_gainOver_41 (by decide) ?_
          refine lv_iadd hx hb dX0_gainOver_42 ?_
          refine lv_topi (fun x3_3 ex3_3 => ?_)
          have hg := hg x3_3 ex3_3
          refine lv_istore_n (lv' := [(3, .int x3_3), (0, .ref o0), (1, .ref o1), (2, .ref o2), (4, .int x4)]) hx hb dX0_gainOver_43 rfl hl (by decide) rfl (fun ls hl => ?_)
          obtain ⟨x4_4, ex4_4⟩ : ∃ y : Int32, y = x4 + 1 := ⟨_, rfl⟩
          have hg := hg x4_4 ex4_4
          refine lv_iinc (v := x4_4) (lv' := [(4, .int x4_4), (3, .int x3_3), (0, .ref o0), (1, .ref o1), (2, .ref o2)]) hx hb dX0_gainOver_44 hl (k := 4) rfl (by rw [ex4_4]; rfl) (by decide) rfl (fun ls hl => ?_)
          refine lv_goto (tgt := 5) hx hb dX0_gainOver_47 (by decide) ?_
          exact hX5 _ _ _ _ _ hg hP hD hS (lv_sub hl [2, 3, 4, 1, 0] rfl)
        · have hg := hg.2 c_2
          refine lv_aload_n hx hb dX0_gainOver_26 rfl (lv_at hl 1 rfl) ?_
          refine va_get (D := G.1) (ci := 0) (v := .ref (d1 0)) (C := RX0) (T := TX0) (N := 4) hx hb hT iX0 hown hK hP 5 rfl rfl 0 (by decide) (hT _ q_199) (fun _ h9 => h9) rfl dX0_gainOver_27 ?_
          refine lv_iload hx hb dX0_gainOver_30 (lv_at hl 4 rfl) ?_
          refine va_iald hx hb hK hP 6 0 rfl rfl hg.1 dX0_gainOver_32 ?_
          have hg := hg.2
          refine lv_iconst (v := 2) hx hb dX0_gainOver_33 (by decide) ?_
          refine lv_icmp_ne (tgt := 41) hx hb dX0_gainOver_34 (by decide) (fun c_5 => ?_) (fun c_5 => ?_)
          · have hg := hg.2 c_5
            refine lv_iconst (v := 0) hx hb dX0_gainOver_41 (by decide) ?_
            refine lv_iadd hx hb dX0_gainOver_42 ?_
            refine lv_topi (fun x3_6 ex3_6 => ?_)
            have hg := hg x3_6 ex3_6
            refine lv_istore_n (lv' := [(3, .int x3_6), (0, .ref o0), (1, .ref o1), (2, .ref o2), (4, .int x4)]) hx hb dX0_gainOver_43 rfl hl (by decide) rfl (fun ls hl => ?_)
            obtain ⟨x4_7, ex4_7⟩ : ∃ y : Int32, y = x4 + 1 := ⟨_, rfl⟩
            have hg := hg x4_7 ex4_7
            refine lv_iinc (v := x4_7) (lv' := [(4, .int x4_7), (3, .int x3_6), (0, .ref o0), (1, .ref o1), (2, .ref o2)]) hx hb dX0_gainOver_44 hl (k := 4) rfl (by rw [ex4_7]; rfl) (by decide) rfl (fun ls hl => ?_)
            refine lv_goto (tgt := 5) hx hb dX0_gainOver_47 (by decide) ?_
            exact hX5 _ _ _ _ _ hg hP hD hS (lv_sub hl [2, 3, 4, 1, 0] rfl)
          · have hg := hg.1 c_5
            refine lv_iconst (v := 1) hx hb dX0_gainOver_37 (by decide) ?_
            refine lv_goto (tgt := 42) hx hb dX0_gainOver_38 (by decide) ?_
            refine lv_iadd hx hb dX0_gainOver_42 ?_
            refine lv_topi (fun x3_8 ex3_8 => ?_)
            have hg := hg x3_8 ex3_8
            refine lv_istore_n (lv' := [(3, .int x3_8), (0, .ref o0), (1, .ref o1), (2, .ref o2), (4, .int x4)]) hx hb dX0_gainOver_43 rfl hl (by decide) rfl (fun ls hl => ?_)
            obtain ⟨x4_9, ex4_9⟩ : ∃ y : Int32, y = x4 + 1 := ⟨_, rfl⟩
            have hg := hg x4_9 ex4_9
            refine lv_iinc (v := x4_9) (lv' := [(4, .int x4_9), (3, .int x3_8), (0, .ref o0), (1, .ref o1), (2, .ref o2)]) hx hb dX0_gainOver_44 hl (k := 4) rfl (by rw [ex4_9]; rfl) (by decide) rfl (fun ls hl => ?_)
            refine lv_goto (tgt := 5) hx hb dX0_gainOver_47 (by decide) ?_
            exact hX5 _ _ _ _ _ hg hP hD hS (lv_sub hl [2, 3, 4, 1, 0] rfl)
  refine lv_iconst (v := 0) hx hb dX0_gainOver_0 (by decide) ?_
  refine lv_istore_n (lv' := [(3, .int 0), (0, .ref o0), (1, .ref o1), (2, .ref o2)]) hx hb dX0_gainOver_1 rfl hl (by decide) rfl (fun ls hl => ?_)
  refine lv_iconst (v := 0) hx hb dX0_gainOver_2 (by decide) ?_
  refine lv_istore (lv' := [(4, .int 0), (3, .int 0), (0, .ref o0), (1, .ref o1), (2, .ref o2)]) hx hb dX0_gainOver_3 hl (by decide) rfl (fun ls hl => ?_)
  obtain ⟨n, hg⟩ := hg
  exact L5 n _ _ _ _ _ hg hP hD hS (lv_sub hl [2, 3, 4, 1, 0] rfl)
theorem zv_X1_dropOldest : zV yX1_dropOldest RX1 cX1_dropOldest 2 none 0 := ⟨q_566, q_567, q_7, q_568, by decide +kernel⟩
set_option maxHeartbeats 4000000 in
set_option maxRecDepth 100000 in
theorem c_X1_dropOldest (l : Launch) (G : ZG) (o0 : Nat) (d0 : Nat → Nat) (S0 : ZS) (Q : ZS → Prop) (hg : g_X1_dropOldest S0 Q) : Kv l G yX1_dropOldest cX1_dropOldest 2 rm_X1_dropOldest [.ref o0] (wX1 G o0 d0 S0) (fun u : ZS => wX1 G o0 d0 u) (fun u => Q u) := by
  refine Kv.of (by decide) (Nat.le_of_ble_eq_true rfl) ?_
  intro p e s m args below meth c A QQ ls Cx hret hl hP hD hS
  obtain ⟨hx, hb, hml, hown, hT, hK, hA⟩ := id Cx
  have hl : lv_has ls 2 [(0, .ref o0)] := hl
  have L2 : ∀ (n : Nat) (x1 : Int32) (S0 : ZS) (H : Heap) (locs : List Loc) (ls : Array Slot), fx (F_X1_dropOldest_2 Q) n (x1, S0) → va_P G.1 classes (wX1 G o0 d0 S0) H → va_D A (wX1 G o0 d0 S0) → va_S A s.heap H locs → lv_has ls 2 [(0, .ref o0), (1, .int x1)] → W p l e rm_X1_dropOldest s m args below meth c H locs 0 0 QQ (F0 m 2 ls []) := by
    intro n
    induction n with
    | zero => intro x1 S0 H locs ls hg; exact hg.elim
    | succ n ih =>
      have hX2 := ih
      intro x1 S0 H locs ls hg hP hD hS hl
      refine lv_iload_n hx hb dX1_dropOldest_2 rfl (lv_at hl 1 rfl) ?_
      refine lv_bipush (v := 10) hx hb dX1_dropOldest_3 (by decide) ?_
      refine lv_icmp_ge (tgt := 70) hx hb dX1_dropOldest_5 (by decide) (fun c_1 => ?_) (fun c_1 => ?_)
      · have hg := hg.1 c_1
        refine lv_aload_n hx hb dX1_dropOldest_70 rfl (lv_at hl 0 rfl) ?_
        refine lv_bipush (v := 9) hx hb dX1_dropOldest_71 (by decide) ?_
        refine z_put (D := G.1) (ci := 1) (v := .int 9) (ty := .int) (C := RX1) (T := TX1) (N := 5) hx hb hT iX1 tyX1 tyX1_ok nmX1 hown hK hP hD hS 0 rfl rfl 0 (by decide) (hT _ q_248) (fun _ h9 => h9) rfl (by decide +kernel) rfl rfl (Nat.le_of_ble_eq_true rfl) dX1_dropOldest_73 (zst S0 0 0 9) (fun S : ZS => wX1 G o0 d0 S) rfl (fun S0_2 H locs eS0_2 hP hD hS => ?_)
        have hg := hg S0_2 eS0_2
        exact hret _ _ (S0_2) _ _ hg hP hD hS dX1_dropOldest_76
      · have hg := hg.2 c_1
        refine lv_aload_n hx hb dX1_dropOldest_8 rfl (lv_at hl 0 rfl) ?_
        refine va_get (D := G.1) (ci := 1) (v := .ref (d0 1)) (C := RX1) (T := TX1) (N := 5) hx hb hT iX1 hown hK hP 0 rfl rfl 1 (by decide) (hT _ q_250) (fun _ h9 => h9) rfl dX1_dropOldest_9 ?_
        refine lv_iload_n hx hb dX1_dropOldest_12 rfl (lv_at hl 1 rfl) ?_
        refine lv_iconst (v := 1) hx hb dX1_dropOldest_13 (by decide) ?_
        refine lv_isub hx hb dX1_dropOldest_14 ?_
        refine lv_aload_n hx hb dX1_dropOldest_15 rfl (lv_at hl 0 rfl) ?_
        refine va_get (D := G.1) (ci := 1) (v := .ref (d0 1)) (C := RX1) (T := TX1) (N := 5) hx hb hT iX1 hown hK hP 0 rfl rfl 1 (by decide) (hT _ q_250) (fun _ h9 => h9) rfl dX1_dropOldest_16 ?_
        refine lv_iload_n hx hb dX1_dropOldest_19 rfl (lv_at hl 1 rfl) ?_
        refine va_iald hx hb hK hP 1 0 rfl rfl hg.1 dX1_dropOldest_20 ?_
        have hg := hg.2
        refine z_iast hx hb hK hP hD hS 1 0 rfl rfl hg.1 dX1_dropOldest_21 (zst S0 1 (x1 - 1).toNatClampNeg (S0 1 x1.toNatClampNeg)) (fun S : ZS => wX1 G o0 d0 S) rfl (fun S0_3 H locs eS0_3 hP hD hS => ?_)
        have hg := hg.2 S0_3 eS0_3
        refine lv_aload_n hx hb dX1_dropOldest_22 rfl (lv_at hl 0 rfl) ?_
        refine va_get (D := G.1) (ci := 1) (v := .ref (d0 2)) (C := RX1) (T := TX1) (N := 5) hx hb hT iX1 hown hK hP 0 rfl rfl 2 (by decide) (hT _ q_251) (fun _ h9 => h9) rfl dX1_dropOldest_23 ?_
        refine lv_iload_n hx hb dX1_dropOldest_26 rfl (lv_at hl 1 rfl) ?_
        refine lv_iconst (v := 1) hx hb dX1_dropOldest_27 (by decide) ?_
        refine lv_isub hx hb dX1_dropOldest_28 ?_
        refine lv_aload_n hx hb dX1_dropOldest_29 rfl (lv_at hl 0 rfl) ?_
        refine va_get (D := G.1) (ci := 1) (v := .ref (d0 2)) (C := RX1) (T := TX1) (N := 5) hx hb hT iX1 hown hK hP 0 rfl rfl 2 (by decide) (hT _ q_251) (fun _ h9 => h9) rfl dX1_dropOldest_30 ?_
        refine lv_iload_n hx hb dX1_dropOldest_33 rfl (lv_at hl 1 rfl) ?_
        refine va_iald hx hb hK hP 2 0 rfl rfl hg.1 dX1_dropOldest_34 ?_
        have hg := hg.2
        refine z_iast hx hb hK hP hD hS 2 0 rfl rfl hg.1 dX1_dropOldest_35 (zst S0_3 2 (x1 - 1).toNatClampNeg (S0_3 2 x1.toNatClampNeg)) (fun S : ZS => wX1 G o0 d0 S) rfl (fun S0_4 H locs eS0_4 hP hD hS => ?_)
        have hg := hg.2 S0_4 eS0_4
        refine lv_aload_n hx hb dX1_dropOldest_36 rfl (lv_at hl 0 rfl) ?_
        refine va_get (D := G.1) (ci := 1) (v := .ref (d0 3)) (C := RX1) (T := TX1) (N := 5) hx hb hT iX1 hown hK hP 0 rfl rfl 3 (by decide) (hT _ q_252) (fun _ h9 => h9) rfl dX1_dropOldest_37 ?_
        refine lv_iload_n hx hb dX1_dropOldest_40 rfl (lv_at hl 1 rfl) ?_
        refine lv_iconst (v := 1) hx hb dX1_dropOldest_41 (by decide) ?_
        refine lv_isub hx hb dX1_dropOldest_42 ?_
        refine lv_aload_n hx hb dX1_dropOldest_43 rfl (lv_at hl 0 rfl) ?_
        refine va_get (D := G.1) (ci := 1) (v := .ref (d0 3)) (C := RX1) (T := TX1) (N := 5) hx hb hT iX1 hown hK hP 0 rfl rfl 3 (by decide) (hT _ q_252) (fun _ h9 => h9) rfl dX1_dropOldest_44 ?_
        refine lv_iload_n hx hb dX1_dropOldest_47 rfl (lv_at hl 1 rfl) ?_
        refine va_iald hx hb hK hP 3 0 rfl rfl hg.1 dX1_dropOldest_48 ?_
        have hg := hg.2
        refine z_iast hx hb hK hP hD hS 3 0 rfl rfl hg.1 dX1_dropOldest_49 (zst S0_4 3 (x1 - 1).toNatClampNeg (S0_4 3 x1.toNatClampNeg)) (fun S : ZS => wX1 G o0 d0 S) rfl (fun S0_5 H locs eS0_5 hP hD hS => ?_)
        have hg := hg.2 S0_5 eS0_5
        refine lv_aload_n hx hb dX1_dropOldest_50 rfl (lv_at hl 0 rfl) ?_
        refine va_get (D := G.1) (ci := 1) (v := .ref (d0 4)) (C := RX1) (T := TX1) (N := 5) hx hb hT iX1 hown hK hP 0 rfl rfl 4 (by decide) (hT _ q_253) (fun _ h9 => h9) rfl dX1_dropOldest_51 ?_
        refine lv_iload_n hx hb dX1_dropOldest_54 rfl (lv_at hl 1 rfl) ?_
        refine lv_iconst (v := 1) hx hb dX1_dropOldest_55 (by decide) ?_
        refine lv_isub hx hb dX1_dropOldest_56 ?_
        refine lv_aload_n hx hb dX1_dropOldest_57 rfl (lv_at hl 0 rfl) ?_
        refine va_get (D := G.1) (ci := 1) (v := .ref (d0 4)) (C := RX1) (T := TX1) (N := 5) hx hb hT iX1 hown hK hP 0 rfl rfl 4 (by decide) (hT _ q_253) (fun _ h9 => h9) rfl dX1_dropOldest_58 ?_
        refine lv_iload_n hx hb dX1_dropOldest_61 rfl (lv_at hl 1 rfl) ?_
        refine va_iald hx hb hK hP 4 0 rfl rfl hg.1 dX1_dropOldest_62 ?_
        have hg := hg.2
        refine z_iast hx hb hK hP hD hS 4 0 rfl rfl hg.1 dX1_dropOldest_63 (zst S0_5 4 (x1 - 1).toNatClampNeg (S0_5 4 x1.toNatClampNeg)) (fun S : ZS => wX1 G o0 d0 S) rfl (fun S0_6 H locs eS0_6 hP hD hS => ?_)
        have hg := hg.2 S0_6 eS0_6
        obtain ⟨x1_7, ex1_7⟩ : ∃ y : Int32, y = x1 + 1 := ⟨_, rfl⟩
        have hg := hg x1_7 ex1_7
        refine lv_iinc (v := x1_7) (lv' := [(1, .int x1_7), (0, .ref o0)]) hx hb dX1_dropOldest_64 hl (k := 1) rfl (by rw [ex1_7]; rfl) (by decide) rfl (fun ls hl => ?_)
        refine lv_goto (tgt := 2) hx hb dX1_dropOldest_67 (by decide) ?_
        exact hX2 _ _ _ _ _ hg hP hD hS (lv_sub hl [1, 0] rfl)
  refine lv_iconst (v := 1) hx hb dX1_dropOldest_0 (by decide) ?_
  refine lv_istore_n (lv' := [(1, .int 1), (0, .ref o0)]) hx hb dX1_dropOldest_1 rfl hl (by decide) rfl (fun ls hl => ?_)
  obtain ⟨n, hg⟩ := hg
  exact L2 n _ _ _ _ _ hg hP hD hS (lv_sub hl [1, 0] rfl)
theorem zv_X1_note : zV yX1_note RX1 cX1_note 4 none 3 := ⟨q_562, q_563, q_7, q_564, by decide +kernel⟩
set_option maxHeartbeats 4000000 in
set_option maxRecDepth 100000 in
theorem c_X1_note (l : Launch) (G : ZG) (o0 : Nat) (d0 : Nat → Nat) (o1 : Nat) (d1 : Nat → Nat) (x1 : Int32) (x2 : Int32) (S0 : ZS) (S1 : ZS) (Q : ZS → Prop) (hg : g_X1_note x1 x2 S0 S1 Q) : Kv l G yX1_note cX1_note 4 rm_X1_note [.ref o0, .int x1, .int x2, .ref o1] (wX1 G o0 d0 S0 ++ (wX2 G o1 d1 S1)) (fun u : ZS => wX1 G o0 d0 u ++ (wX2 G o1 d1 S1)) (fun u => Q u) := by
  refine Kv.of (by decide) (Nat.le_of_ble_eq_true rfl) ?_
  intro p e s m args below meth c A QQ ls Cx hret hl hP hD hS
  obtain ⟨hx, hb, hml, hown, hT, hK, hA⟩ := id Cx
  have hl : lv_has ls 4 [(0, .ref o0), (1, .int x1), (2, .int x2), (3, .ref o1)] := hl
  have J140 : ∀ (S0 : ZS) (H : Heap) (locs : List Loc) (ls : Array Slot), G_X1_note_140 x1 x2 S1 Q S0 → va_P G.1 classes (wX1 G o0 d0 S0 ++ (wX2 G o1 d1 S1)) H → va_D A (wX1 G o0 d0 S0 ++ (wX2 G o1 d1 S1)) → va_S A s.heap H locs → lv_has ls 4 [(0, .ref o0)] → W p l e rm_X1_note s m args below meth c H locs 0 0 QQ (F0 m 140 ls []) := by
    intro S0 H locs ls hg hP hD hS hl
    refine lv_aload_n hx hb dX1_note_140 rfl (lv_at hl 0 rfl) ?_
    refine lv_dup hx hb dX1_note_141 rfl ?_
    refine va_get (D := G.1) (ci := 1) (v := .int (S0 0 0)) (C := RX1) (T := TX1) (N := 5) hx hb hT iX1 hown hK hP 0 rfl rfl 0 (by decide) (hT _ q_248) (fun _ h9 => h9) rfl dX1_note_142 ?_
    refine lv_iconst (v := 1) hx hb dX1_note_145 (by decide) ?_
    refine lv_iadd hx hb dX1_note_146 ?_
    refine z_put (D := G.1) (ci := 1) (v := .int ((S0 0 0) + 1)) (ty := .int) (C := RX1) (T := TX1) (N := 5) hx hb hT iX1 tyX1 tyX1_ok nmX1 hown hK hP hD hS 0 rfl rfl 0 (by decide) (hT _ q_248) (fun _ h9 => h9) rfl (by decide +kernel) rfl rfl (Nat.le_of_ble_eq_true rfl) dX1_note_147 (zst S0 0 0 ((S0 0 0) + 1)) (fun S : ZS => wX1 G o0 d0 S ++ (wX2 G o1 d1 S1)) rfl (fun S0_1 H locs eS0_1 hP hD hS => ?_)
    have hg := hg S0_1 eS0_1
    exact hret _ _ (S0_1) _ _ hg hP hD hS dX1_note_150
  have J13 : ∀ (S0 : ZS) (H : Heap) (locs : List Loc) (ls : Array Slot), G_X1_note_13 x1 x2 S1 Q S0 → va_P G.1 classes (wX1 G o0 d0 S0 ++ (wX2 G o1 d1 S1)) H → va_D A (wX1 G o0 d0 S0 ++ (wX2 G o1 d1 S1)) → va_S A s.heap H locs → lv_has ls 4 [(0, .ref o0), (1, .int x1), (2, .int x2), (3, .ref o1)] → W p l e rm_X1_note s m args below meth c H locs 0 0 QQ (F0 m 13 ls []) := by
    intro S0 H locs ls hg hP hD hS hl
    refine lv_aload_n hx hb dX1_note_13 rfl (lv_at hl 0 rfl) ?_
    refine va_get (D := G.1) (ci := 1) (v := .ref (d0 1)) (C := RX1) (T := TX1) (N := 5) hx hb hT iX1 hown hK hP 0 rfl rfl 1 (by decide) (hT _ q_250) (fun _ h9 => h9) rfl dX1_note_14 ?_
    refine lv_aload_n hx hb dX1_note_17 rfl (lv_at hl 0 rfl) ?_
    refine va_get (D := G.1) (ci := 1) (v := .int (S0 0 0)) (C := RX1) (T := TX1) (N := 5) hx hb hT iX1 hown hK hP 0 rfl rfl 0 (by decide) (hT _ q_248) (fun _ h9 => h9) rfl dX1_note_18 ?_
    refine lv_iload_n hx hb dX1_note_21 rfl (lv_at hl 1 rfl) ?_
    refine z_iast hx hb hK hP hD hS 1 0 rfl rfl hg.1 dX1_note_22 (zst S0 1 (S0 0 0).toNatClampNeg x1) (fun S : ZS => wX1 G o0 d0 S ++ (wX2 G o1 d1 S1)) rfl (fun S0_1 H locs eS0_1 hP hD hS => ?_)
    have hg := hg.2 S0_1 eS0_1
    refine lv_aload_n hx hb dX1_note_23 rfl (lv_at hl 0 rfl) ?_
    refine va_get (D := G.1) (ci := 1) (v := .ref (d0 2)) (C := RX1) (T := TX1) (N := 5) hx hb hT iX1 hown hK hP 0 rfl rfl 2 (by decide) (hT _ q_251) (fun _ h9 => h9) rfl dX1_note_24 ?_
    refine lv_aload_n hx hb dX1_note_27 rfl (lv_at hl 0 rfl) ?_
    refine va_get (D := G.1) (ci := 1) (v := .int (S0_1 0 0)) (C := RX1) (T := TX1) (N := 5) hx hb hT iX1 hown hK hP 0 rfl rfl 0 (by decide) (hT _ q_248) (fun _ h9 => h9) rfl dX1_note_28 ?_
    refine lv_iload_n hx hb dX1_note_31 rfl (lv_at hl 2 rfl) ?_
    refine z_iast hx hb hK hP hD hS 2 0 rfl rfl hg.1 dX1_note_32 (zst S0_1 2 (S0_1 0 0).toNatClampNeg x2) (fun S : ZS => wX1 G o0 d0 S ++ (wX2 G o1 d1 S1)) rfl (fun S0_2 H locs eS0_2 hP hD hS => ?_)
    have hg := hg.2 S0_2 eS0_2
    refine lv_aload_n hx hb dX1_note_33 rfl (lv_at hl 0 rfl) ?_
    refine va_get (D := G.1) (ci := 1) (v := .ref (d0 3)) (C := RX1) (T := TX1) (N := 5) hx hb hT iX1 hown hK hP 0 rfl rfl 3 (by decide) (hT _ q_252) (fun _ h9 => h9) rfl dX1_note_34 ?_
    refine lv_aload_n hx hb dX1_note_37 rfl (lv_at hl 0 rfl) ?_
    refine va_get (D := G.1) (ci := 1) (v := .int (S0_2 0 0)) (C := RX1) (T := TX1) (N := 5) hx hb hT iX1 hown hK hP 0 rfl rfl 0 (by decide) (hT _ q_248) (fun _ h9 => h9) rfl dX1_note_38 ?_
    refine lv_aload_n hx hb dX1_note_41 rfl (lv_at hl 3 rfl) ?_
    refine va_get (D := G.1) (ci := 2) (v := .ref (d1 0)) (C := RX2) (T := TX2) (N := 5) hx hb hT iX2 hown hK hP 5 rfl rfl 0 (by decide) (hT _ q_164) (fun _ h9 => h9) rfl dX1_note_42 ?_
    refine lv_iload_n hx hb dX1_note_45 rfl (lv_at hl 2 rfl) ?_
    refine va_iald hx hb hK hP 6 0 rfl rfl hg.1 dX1_note_46 ?_
    have hg := hg.2
    refine z_iast hx hb hK hP hD hS 3 0 rfl rfl hg.1 dX1_note_47 (zst S0_2 3 (S0_2 0 0).toNatClampNeg (S1 0 x2.toNatClampNeg)) (fun S : ZS => wX1 G o0 d0 S ++ (wX2 G o1 d1 S1)) rfl (fun S0_3 H locs eS0_3 hP hD hS => ?_)
    have hg := hg.2 S0_3 eS0_3
    refine lv_iload_n hx hb dX1_note_48 rfl (lv_at hl 1 rfl) ?_
    by_cases k0 : x1 = 0
    · have hg := hg.1 k0
      refine lv_tableIn (tgt := 76) hx hb dX1_note_49 (by rw [k0]; decide) (by rw [k0]; decide) (by rw [k0]; rfl) (by decide) ?_
      refine lv_aload_n hx hb dX1_note_76 rfl (lv_at hl 0 rfl) ?_
      refine va_get (D := G.1) (ci := 1) (v := .ref (d0 4)) (C := RX1) (T := TX1) (N := 5) hx hb hT iX1 hown hK hP 0 rfl rfl 4 (by decide) (hT _ q_253) (fun _ h9 => h9) rfl dX1_note_77 ?_
      refine lv_aload_n hx hb dX1_note_80 rfl (lv_at hl 0 rfl) ?_
      refine va_get (D := G.1) (ci := 1) (v := .int (S0_3 0 0)) (C := RX1) (T := TX1) (N := 5) hx hb hT iX1 hown hK hP 0 rfl rfl 0 (by decide) (hT _ q_248) (fun _ h9 => h9) rfl dX1_note_81 ?_
      refine lv_aload_n hx hb dX1_note_84 rfl (lv_at hl 3 rfl) ?_
      refine va_get (D := G.1) (ci := 2) (v := .ref (d1 1)) (C := RX2) (T := TX2) (N := 5) hx hb hT iX2 hown hK hP 5 rfl rfl 1 (by decide) (hT _ q_168) (fun _ h9 => h9) rfl dX1_note_85 ?_
      refine lv_iload_n hx hb dX1_note_88 rfl (lv_at hl 2 rfl) ?_
      refine va_iald hx hb hK hP 7 0 rfl rfl hg.1 dX1_note_89 ?_
      have hg := hg.2
      refine z_iast hx hb hK hP hD hS 4 0 rfl rfl hg.1 dX1_note_90 (zst S0_3 4 (S0_3 0 0).toNatClampNeg (S1 1 x2.toNatClampNeg)) (fun S : ZS => wX1 G o0 d0 S ++ (wX2 G o1 d1 S1)) rfl (fun S0_4 H locs eS0_4 hP hD hS => ?_)
      have hg := hg.2 S0_4 eS0_4
      refine lv_goto (tgt := 140) hx hb dX1_note_91 (by decide) ?_
      exact J140 _ _ _ _ hg hP hD hS (lv_sub hl [0] rfl)
    by_cases k1 : x1 = 1
    · have hg := hg.2.1 k1
      refine lv_tableIn (tgt := 94) hx hb dX1_note_49 (by rw [k1]; decide) (by rw [k1]; decide) (by rw [k1]; rfl) (by decide) ?_
      refine lv_aload_n hx hb dX1_note_94 rfl (lv_at hl 0 rfl) ?_
      refine va_get (D := G.1) (ci := 1) (v := .ref (d0 4)) (C := RX1) (T := TX1) (N := 5) hx hb hT iX1 hown hK hP 0 rfl rfl 4 (by decide) (hT _ q_253) (fun _ h9 => h9) rfl dX1_note_95 ?_
      refine lv_aload_n hx hb dX1_note_98 rfl (lv_at hl 0 rfl) ?_
      refine va_get (D := G.1) (ci := 1) (v := .int (S0_3 0 0)) (C := RX1) (T := TX1) (N := 5) hx hb hT iX1 hown hK hP 0 rfl rfl 0 (by decide) (hT _ q_248) (fun _ h9 => h9) rfl dX1_note_99 ?_
      refine lv_aload_n hx hb dX1_note_102 rfl (lv_at hl 3 rfl) ?_
      refine va_get (D := G.1) (ci := 2) (v := .ref (d1 2)) (C := RX2) (T := TX2) (N := 5) hx hb hT iX2 hown hK hP 5 rfl rfl 2 (by decide) (hT _ q_171) (fun _ h9 => h9) rfl dX1_note_103 ?_
      refine lv_iload_n hx hb dX1_note_106 rfl (lv_at hl 2 rfl) ?_
      refine va_iald hx hb hK hP 8 0 rfl rfl hg.1 dX1_note_107 ?_
      have hg := hg.2
      refine z_iast hx hb hK hP hD hS 4 0 rfl rfl hg.1 dX1_note_108 (zst S0_3 4 (S0_3 0 0).toNatClampNeg (S1 2 x2.toNatClampNeg)) (fun S : ZS => wX1 G o0 d0 S ++ (wX2 G o1 d1 S1)) rfl (fun S0_5 H locs eS0_5 hP hD hS => ?_)
      have hg := hg.2 S0_5 eS0_5
      refine lv_goto (tgt := 140) hx hb dX1_note_109 (by decide) ?_
      exact J140 _ _ _ _ hg hP hD hS (lv_sub hl [0] rfl)
    by_cases k2 : x1 = 2
    · have hg := hg.2.2.1 k2
      refine lv_tableIn (tgt := 112) hx hb dX1_note_49 (by rw [k2]; decide) (by rw [k2]; decide) (by rw [k2]; rfl) (by decide) ?_
      refine lv_aload_n hx hb dX1_note_112 rfl (lv_at hl 0 rfl) ?_
      refine va_get (D := G.1) (ci := 1) (v := .ref (d0 4)) (C := RX1) (T := TX1) (N := 5) hx hb hT iX1 hown hK hP 0 rfl rfl 4 (by decide) (hT _ q_253) (fun _ h9 => h9) rfl dX1_note_113 ?_
      refine lv_aload_n hx hb dX1_note_116 rfl (lv_at hl 0 rfl) ?_
      refine va_get (D := G.1) (ci := 1) (v := .int (S0_3 0 0)) (C := RX1) (T := TX1) (N := 5) hx hb hT iX1 hown hK hP 0 rfl rfl 0 (by decide) (hT _ q_248) (fun _ h9 => h9) rfl dX1_note_117 ?_
      refine lv_aload_n hx hb dX1_note_120 rfl (lv_at hl 3 rfl) ?_
      refine va_get (D := G.1) (ci := 2) (v := .ref (d1 3)) (C := RX2) (T := TX2) (N := 5) hx hb hT iX2 hown hK hP 5 rfl rfl 3 (by decide) (hT _ q_174) (fun _ h9 => h9) rfl dX1_note_121 ?_
      refine lv_iload_n hx hb dX1_note_124 rfl (lv_at hl 2 rfl) ?_
      refine va_iald hx hb hK hP 9 0 rfl rfl hg.1 dX1_note_125 ?_
      have hg := hg.2
      refine z_iast hx hb hK hP hD hS 4 0 rfl rfl hg.1 dX1_note_126 (zst S0_3 4 (S0_3 0 0).toNatClampNeg (S1 3 x2.toNatClampNeg)) (fun S : ZS => wX1 G o0 d0 S ++ (wX2 G o1 d1 S1)) rfl (fun S0_6 H locs eS0_6 hP hD hS => ?_)
      have hg := hg.2 S0_6 eS0_6
      refine lv_goto (tgt := 140) hx hb dX1_note_127 (by decide) ?_
      exact J140 _ _ _ _ hg hP hD hS (lv_sub hl [0] rfl)
    have hg := hg.2.2.2 k0 k1 k2
    have nk0 := lv_neT k0 (a := 0) (by decide)
    have nk1 := lv_neT k1 (a := 1) (by decide)
    have nk2 := lv_neT k2 (a := 2) (by decide)
    refine lv_tableOut (tgt := 130) hx hb dX1_note_49 (by omega) (by decide) ?_
    refine lv_aload_n hx hb dX1_note_130 rfl (lv_at hl 0 rfl) ?_
    refine va_get (D := G.1) (ci := 1) (v := .ref (d0 4)) (C := RX1) (T := TX1) (N := 5) hx hb hT iX1 hown hK hP 0 rfl rfl 4 (by decide) (hT _ q_253) (fun _ h9 => h9) rfl dX1_note_131 ?_
    refine lv_aload_n hx hb dX1_note_134 rfl (lv_at hl 0 rfl) ?_
    refine va_get (D := G.1) (ci := 1) (v := .int (S0_3 0 0)) (C := RX1) (T := TX1) (N := 5) hx hb hT iX1 hown hK hP 0 rfl rfl 0 (by decide) (hT _ q_248) (fun _ h9 => h9) rfl dX1_note_135 ?_
    refine lv_iconst (v := 0) hx hb dX1_note_138 (by decide) ?_
    refine z_iast hx hb hK hP hD hS 4 0 rfl rfl hg.1 dX1_note_139 (zst S0_3 4 (S0_3 0 0).toNatClampNeg 0) (fun S : ZS => wX1 G o0 d0 S ++ (wX2 G o1 d1 S1)) rfl (fun S0_7 H locs eS0_7 hP hD hS => ?_)
    have hg := hg.2 S0_7 eS0_7
    exact J140 _ _ _ _ hg hP hD hS (lv_sub hl [0] rfl)
  refine lv_aload_n hx hb dX1_note_0 rfl (lv_at hl 0 rfl) ?_
  refine va_get (D := G.1) (ci := 1) (v := .int (S0 0 0)) (C := RX1) (T := TX1) (N := 5) hx hb hT iX1 hown hK hP 0 rfl rfl 0 (by decide) (hT _ q_248) (fun _ h9 => h9) rfl dX1_note_1 ?_
  refine lv_bipush (v := 10) hx hb dX1_note_4 (by decide) ?_
  refine lv_icmp_lt (tgt := 13) hx hb dX1_note_6 (by decide) (fun c_1 => ?_) (fun c_1 => ?_)
  · have hg := hg.1 c_1
    exact J13 _ _ _ _ hg hP hD hS (lv_sub hl [0, 1, 2, 3] rfl)
  · have hg := hg.2 c_1
    refine lv_aload_n hx hb dX1_note_9 rfl (lv_at hl 0 rfl) ?_
    refine zcVv (As := []) (rest := []) (C := RX1) Cx (c_X1_dropOldest l G o0 d0 S0 _ hg) zv_X1_dropOldest q_565 ⟨⟨rfl, rfl⟩, Nat.le_of_ble_eq_true rfl, Nat.le_of_ble_eq_true rfl⟩ (zJ.sub (wr := wX2 G o1 d1 S1) (w2 := (fun u : ZS => wX1 G o0 d0 u ++ (wX2 G o1 d1 S1))) hP hD hS hA [0, 1, 2, 3, 4] [5, 6, 7, 8, 9, 10] [6, 7, 8, 9, 10, 0, 1, 2, 3, 4, 5] rfl rfl (by decide) (fun u => rfl)) hS 1 rfl rfl rfl rfl hl.1 rfl (Nat.le_of_ble_eq_true rfl) dX1_note_10 (fun S0_2 H locs hg hP hD hS => ?_)
    have hP : va_P G.1 classes (wX1 G o0 d0 S0_2 ++ (wX2 G o1 d1 S1)) H := hP
    have hD : va_D A (wX1 G o0 d0 S0_2 ++ (wX2 G o1 d1 S1)) := hD
    exact J13 _ _ _ _ hg hP hD hS (lv_sub hl [0, 1, 2, 3] rfl)
theorem zv_X2_turn : zV yX2_turn RX2 cX2_turn 3 none 1 := ⟨q_590, q_591, q_4, q_592, by decide +kernel⟩
set_option maxHeartbeats 4000000 in
set_option maxRecDepth 100000 in
theorem c_X2_turn (l : Launch) (G : ZG) (o0 : Nat) (d0 : Nat → Nat) (x1 : Int32) (S0 : ZS) (Q : ZS → Prop) (hg : g_X2_turn x1 S0 Q) : Kv l G yX2_turn cX2_turn 3 rm_X2_turn [.ref o0, .int x1] (wX2 G o0 d0 S0) (fun u : ZS => wX2 G o0 d0 u) (fun u => Q u) := by
  refine Kv.of (by decide) (Nat.le_of_ble_eq_true rfl) ?_
  intro p e s m args below meth c A QQ ls Cx hret hl hP hD hS
  obtain ⟨hx, hb, hml, hown, hT, hK, hA⟩ := id Cx
  have hl : lv_has ls 3 [(0, .ref o0), (1, .int x1)] := hl
  refine lv_aload_n hx hb dX2_turn_0 rfl (lv_at hl 0 rfl) ?_
  refine va_get (D := G.1) (ci := 2) (v := .ref (d0 4)) (C := RX2) (T := TX2) (N := 5) hx hb hT iX2 hown hK hP 0 rfl rfl 4 (by decide) (hT _ q_178) (fun _ h9 => h9) rfl dX2_turn_1 ?_
  refine lv_iconst (v := 2) hx hb dX2_turn_4 (by decide) ?_
  refine lv_iload_n hx hb dX2_turn_5 rfl (lv_at hl 1 rfl) ?_
  refine lv_imul hx hb dX2_turn_6 ?_
  refine va_iald hx hb hK hP 5 0 rfl rfl hg.1 dX2_turn_7 ?_
  have hg := hg.2
  refine lv_topi (fun x2_1 ex2_1 => ?_)
  have hg := hg x2_1 ex2_1
  refine lv_istore_n (lv' := [(2, .int x2_1), (0, .ref o0), (1, .int x1)]) hx hb dX2_turn_8 rfl hl (by decide) rfl (fun ls hl => ?_)
  refine lv_aload_n hx hb dX2_turn_9 rfl (lv_at hl 1 rfl) ?_
  refine va_get (D := G.1) (ci := 2) (v := .ref (d0 4)) (C := RX2) (T := TX2) (N := 5) hx hb hT iX2 hown hK hP 0 rfl rfl 4 (by decide) (hT _ q_178) (fun _ h9 => h9) rfl dX2_turn_10 ?_
  refine lv_iconst (v := 2) hx hb dX2_turn_13 (by decide) ?_
  refine lv_iload_n hx hb dX2_turn_14 rfl (lv_at hl 2 rfl) ?_
  refine lv_imul hx hb dX2_turn_15 ?_
  refine lv_aload_n hx hb dX2_turn_16 rfl (lv_at hl 1 rfl) ?_
  refine va_get (D := G.1) (ci := 2) (v := .ref (d0 4)) (C := RX2) (T := TX2) (N := 5) hx hb hT iX2 hown hK hP 0 rfl rfl 4 (by decide) (hT _ q_178) (fun _ h9 => h9) rfl dX2_turn_17 ?_
  refine lv_iconst (v := 2) hx hb dX2_turn_20 (by decide) ?_
  refine lv_iload_n hx hb dX2_turn_21 rfl (lv_at hl 2 rfl) ?_
  refine lv_imul hx hb dX2_turn_22 ?_
  refine lv_iconst (v := 1) hx hb dX2_turn_23 (by decide) ?_
  refine lv_iadd hx hb dX2_turn_24 ?_
  refine va_iald hx hb hK hP 5 0 rfl rfl hg.1 dX2_turn_25 ?_
  have hg := hg.2
  refine z_iast hx hb hK hP hD hS 5 0 rfl rfl hg.1 dX2_turn_26 (zst S0 4 (2 * x1).toNatClampNeg (S0 4 ((2 * x1) + 1).toNatClampNeg)) (fun S : ZS => wX2 G o0 d0 S) rfl (fun S0_2 H locs eS0_2 hP hD hS => ?_)
  have hg := hg.2 S0_2 eS0_2
  refine lv_aload_n hx hb dX2_turn_27 rfl (lv_at hl 1 rfl) ?_
  refine va_get (D := G.1) (ci := 2) (v := .ref (d0 4)) (C := RX2) (T := TX2) (N := 5) hx hb hT iX2 hown hK hP 0 rfl rfl 4 (by decide) (hT _ q_178) (fun _ h9 => h9) rfl dX2_turn_28 ?_
  refine lv_iconst (v := 2) hx hb dX2_turn_31 (by decide) ?_
  refine lv_iload_n hx hb dX2_turn_32 rfl (lv_at hl 2 rfl) ?_
  refine lv_imul hx hb dX2_turn_33 ?_
  refine lv_iconst (v := 1) hx hb dX2_turn_34 (by decide) ?_
  refine lv_iadd hx hb dX2_turn_35 ?_
  refine lv_iload_n hx hb dX2_turn_36 rfl (lv_at hl 0 rfl) ?_
  refine z_iast hx hb hK hP hD hS 5 0 rfl rfl hg.1 dX2_turn_37 (zst S0_2 4 ((2 * x1) + 1).toNatClampNeg x2_1) (fun S : ZS => wX2 G o0 d0 S) rfl (fun S0_3 H locs eS0_3 hP hD hS => ?_)
  have hg := hg.2 S0_3 eS0_3
  exact hret _ _ (S0_3) _ _ hg hP hD hS dX2_turn_38
theorem zv_X1_takeBack : zV yX1_takeBack RX1 cX1_takeBack 3 none 1 := ⟨q_602, q_603, q_7, q_604, by decide +kernel⟩
set_option maxHeartbeats 4000000 in
set_option maxRecDepth 100000 in
theorem c_X1_takeBack (l : Launch) (G : ZG) (o0 : Nat) (d0 : Nat → Nat) (o1 : Nat) (d1 : Nat → Nat) (S0 : ZS) (S1 : ZS) (Q : ZS → ZS → Prop) (hg : g_X1_takeBack S0 S1 Q) : Kv l G yX1_takeBack cX1_takeBack 3 rm_X1_takeBack [.ref o0, .ref o1] (wX1 G o0 d0 S0 ++ (wX2 G o1 d1 S1)) (fun u : ZS × ZS => wX1 G o0 d0 (u.1) ++ (wX2 G o1 d1 (u.2))) (fun u => Q u.1 u.2) := by
  refine Kv.of (by decide) (Nat.le_of_ble_eq_true rfl) ?_
  intro p e s m args below meth c A QQ ls Cx hret hl hP hD hS
  obtain ⟨hx, hb, hml, hown, hT, hK, hA⟩ := id Cx
  have hl : lv_has ls 3 [(0, .ref o0), (1, .ref o1)] := hl
  refine lv_aload_n hx hb dX1_takeBack_0 rfl (lv_at hl 0 rfl) ?_
  refine va_get (D := G.1) (ci := 1) (v := .int (S0 0 0)) (C := RX1) (T := TX1) (N := 5) hx hb hT iX1 hown hK hP 0 rfl rfl 0 (by decide) (hT _ q_248) (fun _ h9 => h9) rfl dX1_takeBack_1 ?_
  refine lv_if_gt (tgt := 8) hx hb dX1_takeBack_4 (by decide) (fun c_1 => ?_) (fun c_1 => ?_)
  · have hg := hg.1 c_1
    refine lv_aload_n hx hb dX1_takeBack_8 rfl (lv_at hl 0 rfl) ?_
    refine lv_dup hx hb dX1_takeBack_9 rfl ?_
    refine va_get (D := G.1) (ci := 1) (v := .int (S0 0 0)) (C := RX1) (T := TX1) (N := 5) hx hb hT iX1 hown hK hP 0 rfl rfl 0 (by decide) (hT _ q_248) (fun _ h9 => h9) rfl dX1_takeBack_10 ?_
    refine lv_iconst (v := 1) hx hb dX1_takeBack_13 (by decide) ?_
    refine lv_isub hx hb dX1_takeBack_14 ?_
    refine z_put (D := G.1) (ci := 1) (v := .int ((S0 0 0) - 1)) (ty := .int) (C := RX1) (T := TX1) (N := 5) hx hb hT iX1 tyX1 tyX1_ok nmX1 hown hK hP hD hS 0 rfl rfl 0 (by decide) (hT _ q_248) (fun _ h9 => h9) rfl (by decide +kernel) rfl rfl (Nat.le_of_ble_eq_true rfl) dX1_takeBack_15 (zst S0 0 0 ((S0 0 0) - 1)) (fun S : ZS => wX1 G o0 d0 S ++ (wX2 G o1 d1 S1)) rfl (fun S0_2 H locs eS0_2 hP hD hS => ?_)
    have hg := hg S0_2 eS0_2
    refine lv_aload_n hx hb dX1_takeBack_18 rfl (lv_at hl 0 rfl) ?_
    refine va_get (D := G.1) (ci := 1) (v := .ref (d0 2)) (C := RX1) (T := TX1) (N := 5) hx hb hT iX1 hown hK hP 0 rfl rfl 2 (by decide) (hT _ q_251) (fun _ h9 => h9) rfl dX1_takeBack_19 ?_
    refine lv_aload_n hx hb dX1_takeBack_22 rfl (lv_at hl 0 rfl) ?_
    refine va_get (D := G.1) (ci := 1) (v := .int (S0_2 0 0)) (C := RX1) (T := TX1) (N := 5) hx hb hT iX1 hown hK hP 0 rfl rfl 0 (by decide) (hT _ q_248) (fun _ h9 => h9) rfl dX1_takeBack_23 ?_
    refine va_iald hx hb hK hP 2 0 rfl rfl hg.1 dX1_takeBack_26 ?_
    have hg := hg.2
    refine lv_topi (fun x2_3 ex2_3 => ?_)
    have hg := hg x2_3 ex2_3
    refine lv_istore_n (lv' := [(2, .int x2_3), (0, .ref o0), (1, .ref o1)]) hx hb dX1_takeBack_27 rfl hl (by decide) rfl (fun ls hl => ?_)
    refine lv_aload_n hx hb dX1_takeBack_28 rfl (lv_at hl 1 rfl) ?_
    refine va_get (D := G.1) (ci := 1) (v := .ref (d0 1)) (C := RX1) (T := TX1) (N := 5) hx hb hT iX1 hown hK hP 0 rfl rfl 1 (by decide) (hT _ q_250) (fun _ h9 => h9) rfl dX1_takeBack_29 ?_
    refine lv_aload_n hx hb dX1_takeBack_32 rfl (lv_at hl 1 rfl) ?_
    refine va_get (D := G.1) (ci := 1) (v := .int (S0_2 0 0)) (C := RX1) (T := TX1) (N := 5) hx hb hT iX1 hown hK hP 0 rfl rfl 0 (by decide) (hT _ q_248) (fun _ h9 => h9) rfl dX1_takeBack_33 ?_
    refine va_iald hx hb hK hP 1 0 rfl rfl hg.1 dX1_takeBack_36 ?_
    have hg := hg.2
    by_cases k0 : (S0_2 1 (S0_2 0 0).toNatClampNeg) = 0
    · have hg := hg.1 k0
      refine lv_tableIn (tgt := 64) hx hb dX1_takeBack_37 (by rw [k0]; decide) (by rw [k0]; decide) (by rw [k0]; rfl) (by decide) ?_
      refine lv_aload_n hx hb dX1_takeBack_64 rfl (lv_at hl 2 rfl) ?_
      refine va_get (D := G.1) (ci := 2) (v := .ref (d1 0)) (C := RX2) (T := TX2) (N := 5) hx hb hT iX2 hown hK hP 5 rfl rfl 0 (by decide) (hT _ q_164) (fun _ h9 => h9) rfl dX1_takeBack_65 ?_
      refine lv_iload_n hx hb dX1_takeBack_68 rfl (lv_at hl 0 rfl) ?_
      refine lv_aload_n hx hb dX1_takeBack_69 rfl (lv_at hl 1 rfl) ?_
      refine va_get (D := G.1) (ci := 1) (v := .ref (d0 3)) (C := RX1) (T := TX1) (N := 5) hx hb hT iX1 hown hK hP 0 rfl rfl 3 (by decide) (hT _ q_252) (fun _ h9 => h9) rfl dX1_takeBack_70 ?_
      refine lv_aload_n hx hb dX1_takeBack_73 rfl (lv_at hl 1 rfl) ?_
      refine va_get (D := G.1) (ci := 1) (v := .int (S0_2 0 0)) (C := RX1) (T := TX1) (N := 5) hx hb hT iX1 hown hK hP 0 rfl rfl 0 (by decide) (hT _ q_248) (fun _ h9 => h9) rfl dX1_takeBack_74 ?_
      refine va_iald hx hb hK hP 3 0 rfl rfl hg.1 dX1_takeBack_77 ?_
      have hg := hg.2
      refine z_iast hx hb hK hP hD hS 6 0 rfl rfl hg.1 dX1_takeBack_78 (zst S1 0 x2_3.toNatClampNeg (S0_2 3 (S0_2 0 0).toNatClampNeg)) (fun S : ZS => wX1 G o0 d0 S0_2 ++ (wX2 G o1 d1 S)) rfl (fun S1_4 H locs eS1_4 hP hD hS => ?_)
      have hg := hg.2 S1_4 eS1_4
      refine lv_aload_n hx hb dX1_takeBack_79 rfl (lv_at hl 2 rfl) ?_
      refine va_get (D := G.1) (ci := 2) (v := .ref (d1 1)) (C := RX2) (T := TX2) (N := 5) hx hb hT iX2 hown hK hP 5 rfl rfl 1 (by decide) (hT _ q_168) (fun _ h9 => h9) rfl dX1_takeBack_80 ?_
      refine lv_iload_n hx hb dX1_takeBack_83 rfl (lv_at hl 0 rfl) ?_
      refine lv_aload_n hx hb dX1_takeBack_84 rfl (lv_at hl 1 rfl) ?_
      refine va_get (D := G.1) (ci := 1) (v := .ref (d0 4)) (C := RX1) (T := TX1) (N := 5) hx hb hT iX1 hown hK hP 0 rfl rfl 4 (by decide) (hT _ q_253) (fun _ h9 => h9) rfl dX1_takeBack_85 ?_
      refine lv_aload_n hx hb dX1_takeBack_88 rfl (lv_at hl 1 rfl) ?_
      refine va_get (D := G.1) (ci := 1) (v := .int (S0_2 0 0)) (C := RX1) (T := TX1) (N := 5) hx hb hT iX1 hown hK hP 0 rfl rfl 0 (by decide) (hT _ q_248) (fun _ h9 => h9) rfl dX1_takeBack_89 ?_
      refine va_iald hx hb hK hP 4 0 rfl rfl hg.1 dX1_takeBack_92 ?_
      have hg := hg.2
      refine z_iast hx hb hK hP hD hS 7 0 rfl rfl hg.1 dX1_takeBack_93 (zst S1_4 1 x2_3.toNatClampNeg (S0_2 4 (S0_2 0 0).toNatClampNeg)) (fun S : ZS => wX1 G o0 d0 S0_2 ++ (wX2 G o1 d1 S)) rfl (fun S1_5 H locs eS1_5 hP hD hS => ?_)
      have hg := hg.2 S1_5 eS1_5
      refine lv_goto (tgt := 138) hx hb dX1_takeBack_94 (by decide) ?_
      exact hret _ _ (S0_2, S1_5) _ _ hg hP hD hS dX1_takeBack_138
    by_cases k1 : (S0_2 1 (S0_2 0 0).toNatClampNeg) = 1
    · have hg := hg.2.1 k1
      refine lv_tableIn (tgt := 97) hx hb dX1_takeBack_37 (by rw [k1]; decide) (by rw [k1]; decide) (by rw [k1]; rfl) (by decide) ?_
      refine lv_aload_n hx hb dX1_takeBack_97 rfl (lv_at hl 2 rfl) ?_
      refine va_get (D := G.1) (ci := 2) (v := .ref (d1 2)) (C := RX2) (T := TX2) (N := 5) hx hb hT iX2 hown hK hP 5 rfl rfl 2 (by decide) (hT _ q_171) (fun _ h9 => h9) rfl dX1_takeBack_98 ?_
      refine lv_iload_n hx hb dX1_takeBack_101 rfl (lv_at hl 0 rfl) ?_
      refine lv_aload_n hx hb dX1_takeBack_102 rfl (lv_at hl 1 rfl) ?_
      refine va_get (D := G.1) (ci := 1) (v := .ref (d0 4)) (C := RX1) (T := TX1) (N := 5) hx hb hT iX1 hown hK hP 0 rfl rfl 4 (by decide) (hT _ q_253) (fun _ h9 => h9) rfl dX1_takeBack_103 ?_
      refine lv_aload_n hx hb dX1_takeBack_106 rfl (lv_at hl 1 rfl) ?_
      refine va_get (D := G.1) (ci := 1) (v := .int (S0_2 0 0)) (C := RX1) (T := TX1) (N := 5) hx hb hT iX1 hown hK hP 0 rfl rfl 0 (by decide) (hT _ q_248) (fun _ h9 => h9) rfl dX1_takeBack_107 ?_
      refine va_iald hx hb hK hP 4 0 rfl rfl hg.1 dX1_takeBack_110 ?_
      have hg := hg.2
      refine z_iast hx hb hK hP hD hS 8 0 rfl rfl hg.1 dX1_takeBack_111 (zst S1 2 x2_3.toNatClampNeg (S0_2 4 (S0_2 0 0).toNatClampNeg)) (fun S : ZS => wX1 G o0 d0 S0_2 ++ (wX2 G o1 d1 S)) rfl (fun S1_6 H locs eS1_6 hP hD hS => ?_)
      have hg := hg.2 S1_6 eS1_6
      refine lv_goto (tgt := 138) hx hb dX1_takeBack_112 (by decide) ?_
      exact hret _ _ (S0_2, S1_6) _ _ hg hP hD hS dX1_takeBack_138
    by_cases k2 : (S0_2 1 (S0_2 0 0).toNatClampNeg) = 2
    · have hg := hg.2.2.1 k2
      refine lv_tableIn (tgt := 115) hx hb dX1_takeBack_37 (by rw [k2]; decide) (by rw [k2]; decide) (by rw [k2]; rfl) (by decide) ?_
      refine lv_aload_n hx hb dX1_takeBack_115 rfl (lv_at hl 2 rfl) ?_
      refine va_get (D := G.1) (ci := 2) (v := .ref (d1 3)) (C := RX2) (T := TX2) (N := 5) hx hb hT iX2 hown hK hP 5 rfl rfl 3 (by decide) (hT _ q_174) (fun _ h9 => h9) rfl dX1_takeBack_116 ?_
      refine lv_iload_n hx hb dX1_takeBack_119 rfl (lv_at hl 0 rfl) ?_
      refine lv_aload_n hx hb dX1_takeBack_120 rfl (lv_at hl 1 rfl) ?_
      refine va_get (D := G.1) (ci := 1) (v := .ref (d0 4)) (C := RX1) (T := TX1) (N := 5) hx hb hT iX1 hown hK hP 0 rfl rfl 4 (by decide) (hT _ q_253) (fun _ h9 => h9) rfl dX1_takeBack_121 ?_
      refine lv_aload_n hx hb dX1_takeBack_124 rfl (lv_at hl 1 rfl) ?_
      refine va_get (D := G.1) (ci := 1) (v := .int (S0_2 0 0)) (C := RX1) (T := TX1) (N := 5) hx hb hT iX1 hown hK hP 0 rfl rfl 0 (by decide) (hT _ q_248) (fun _ h9 => h9) rfl dX1_takeBack_125 ?_
      refine va_iald hx hb hK hP 4 0 rfl rfl hg.1 dX1_takeBack_128 ?_
      have hg := hg.2
      refine z_iast hx hb hK hP hD hS 9 0 rfl rfl hg.1 dX1_takeBack_129 (zst S1 3 x2_3.toNatClampNeg (S0_2 4 (S0_2 0 0).toNatClampNeg)) (fun S : ZS => wX1 G o0 d0 S0_2 ++ (wX2 G o1 d1 S)) rfl (fun S1_7 H locs eS1_7 hP hD hS => ?_)
      have hg := hg.2 S1_7 eS1_7
      refine lv_goto (tgt := 138) hx hb dX1_takeBack_130 (by decide) ?_
      exact hret _ _ (S0_2, S1_7) _ _ hg hP hD hS dX1_takeBack_138
    have hg := hg.2.2.2 k0 k1 k2
    have nk0 := lv_neT k0 (a := 0) (by decide)
    have nk1 := lv_neT k1 (a := 1) (by decide)
    have nk2 := lv_neT k2 (a := 2) (by decide)
    refine lv_tableOut (tgt := 133) hx hb dX1_takeBack_37 (by omega) (by decide) ?_
    refine lv_aload_n hx hb dX1_takeBack_133 rfl (lv_at hl 2 rfl) ?_
    refine lv_iload_n hx hb dX1_takeBack_134 rfl (lv_at hl 0 rfl) ?_
    refine zcVv (As := [.int x2_3]) (rest := []) (C := RX2) Cx (c_X2_turn l G o1 d1 x2_3 S1 _ hg) zv_X2_turn q_605 ⟨⟨rfl, rfl⟩, Nat.le_of_ble_eq_true rfl, Nat.le_of_ble_eq_true rfl⟩ (zJ.sub (wr := wX1 G o0 d0 S0_2) (w2 := (fun u : ZS => wX1 G o0 d0 S0_2 ++ (wX2 G o1 d1 u))) hP hD hS hA [5, 6, 7, 8, 9, 10] [0, 1, 2, 3, 4] [0, 1, 2, 3, 4, 5, 6, 7, 8, 9, 10] rfl rfl (by decide) (fun u => rfl)) hS 2 rfl rfl rfl rfl hl.1 rfl (Nat.le_of_ble_eq_true rfl) dX1_takeBack_135 (fun S1_8 H locs hg hP hD hS => ?_)
    have hP : va_P G.1 classes (wX1 G o0 d0 S0_2 ++ (wX2 G o1 d1 S1_8)) H := hP
    have hD : va_D A (wX1 G o0 d0 S0_2 ++ (wX2 G o1 d1 S1_8)) := hD
    exact hret _ _ (S0_2, S1_8) _ _ hg hP hD hS dX1_takeBack_138
  · have hg := hg.2 c_1
    exact hret _ _ (S0, S1) _ _ hg hP hD hS dX1_takeBack_7
theorem zv_X2_becomesAsTold : zV yX2_becomesAsTold RX2 cX2_becomesAsTold 2 none 1 := ⟨q_459, q_460, q_4, q_461, by decide +kernel⟩
set_option maxHeartbeats 4000000 in
set_option maxRecDepth 100000 in
theorem c_X2_becomesAsTold (l : Launch) (G : ZG) (o0 : Nat) (d0 : Nat → Nat) (o1 : Nat) (d1 : Nat → Nat) (S0 : ZS) (S1 : ZS) (Q : ZS → Prop) (hg : g_X2_becomesAsTold S0 S1 Q) : Kv l G yX2_becomesAsTold cX2_becomesAsTold 2 rm_X2_becomesAsTold [.ref o0, .ref o1] (wX2 G o0 d0 S0 ++ (wX4 G o1 d1 S1)) (fun u : ZS => wX2 G o0 d0 u ++ (wX4 G o1 d1 S1)) (fun u => Q u) := by
  refine Kv.of (by decide) (Nat.le_of_ble_eq_true rfl) ?_
  intro p e s m args below meth c A QQ ls Cx hret hl hP hD hS
  obtain ⟨hx, hb, hml, hown, hT, hK, hA⟩ := id Cx
  have hl : lv_has ls 2 [(0, .ref o0), (1, .ref o1)] := hl
  refine lv_aload_n hx hb dX2_becomesAsTold_0 rfl (lv_at hl 0 rfl) ?_
  refine va_get (D := G.1) (ci := 2) (v := .ref (d0 0)) (C := RX2) (T := TX2) (N := 5) hx hb hT iX2 hown hK hP 0 rfl rfl 0 (by decide) (hT _ q_163) (fun _ h9 => h9) rfl dX2_becomesAsTold_1 ?_
  refine lv_iconst (v := 0) hx hb dX2_becomesAsTold_4 (by decide) ?_
  refine zcSv (As := [.ref (d0 0), .int 0]) (rest := []) Cx (c_J7_fill_53178 l G (d0 0) 24 0 (S0 0) _ hg) zv_J7_fill_53178 q_462 ⟨⟨rfl, rfl⟩, Nat.le_of_ble_eq_true rfl, Nat.le_of_ble_eq_true rfl⟩ (zJ.sub (wr := [0, 2, 3, 4, 5, 6, 7, 8, 9, 10, 11, 12, 13, 14, 15, 16, 17, 18, 19, 20, 21].filterMap (fun i => (wX2 G o0 d0 S0 ++ (wX4 G o1 d1 S1))[i]?)) (w2 := (fun u : ZR => wX2 G o0 d0 ((zrp S0 0 u)) ++ (wX4 G o1 d1 S1))) hP hD hS hA [1] [0, 2, 3, 4, 5, 6, 7, 8, 9, 10, 11, 12, 13, 14, 15, 16, 17, 18, 19, 20, 21] [0, 21, 1, 2, 3, 4, 5, 6, 7, 8, 9, 10, 11, 12, 13, 14, 15, 16, 17, 18, 19, 20] rfl rfl (by decide) (fun u => rfl)) hS rfl hl.1 rfl (Nat.le_of_ble_eq_true rfl) dX2_becomesAsTold_5 (fun f_1 H locs hg hP hD hS => ?_)
  have hP : va_P G.1 classes (wX2 G o0 d0 ((zrp S0 0 f_1)) ++ (wX4 G o1 d1 S1)) H := hP
  have hD : va_D A (wX2 G o0 d0 ((zrp S0 0 f_1)) ++ (wX4 G o1 d1 S1)) := hD
  refine lv_aload_n hx hb dX2_becomesAsTold_8 rfl (lv_at hl 0 rfl) ?_
  refine va_get (D := G.1) (ci := 2) (v := .ref (d0 1)) (C := RX2) (T := TX2) (N := 5) hx hb hT iX2 hown hK hP 0 rfl rfl 1 (by decide) (hT _ q_167) (fun _ h9 => h9) rfl dX2_becomesAsTold_9 ?_
  refine lv_iconst (v := 0) hx hb dX2_becomesAsTold_12 (by decide) ?_
  refine zcSv (As := [.ref (d0 1), .int 0]) (rest := []) Cx (c_J7_fill_53178 l G (d0 1) 24 0 ((zrp S0 0 f_1) 1) _ hg) zv_J7_fill_53178 q_462 ⟨⟨rfl, rfl⟩, Nat.le_of_ble_eq_true rfl, Nat.le_of_ble_eq_true rfl⟩ (zJ.sub (wr := [0, 1, 3, 4, 5, 6, 7, 8, 9, 10, 11, 12, 13, 14, 15, 16, 17, 18, 19, 20, 21].filterMap (fun i => (wX2 G o0 d0 ((zrp S0 0 f_1)) ++ (wX4 G o1 d1 S1))[i]?)) (w2 := (fun u : ZR => wX2 G o0 d0 ((zrp (zrp S0 0 f_1) 1 u)) ++ (wX4 G o1 d1 S1))) hP hD hS hA [2] [0, 1, 3, 4, 5, 6, 7, 8, 9, 10, 11, 12, 13, 14, 15, 16, 17, 18, 19, 20, 21] [0, 1, 21, 2, 3, 4, 5, 6, 7, 8, 9, 10, 11, 12, 13, 14, 15, 16, 17, 18, 19, 20] rfl rfl (by decide) (fun u => rfl)) hS rfl hl.1 rfl (Nat.le_of_ble_eq_true rfl) dX2_becomesAsTold_13 (fun f_2 H locs hg hP hD hS => ?_)
  have hP : va_P G.1 classes (wX2 G o0 d0 ((zrp (zrp S0 0 f_1) 1 f_2)) ++ (wX4 G o1 d1 S1)) H := hP
  have hD : va_D A (wX2 G o0 d0 ((zrp (zrp S0 0 f_1) 1 f_2)) ++ (wX4 G o1 d1 S1)) := hD
  refine lv_aload_n hx hb dX2_becomesAsTold_16 rfl (lv_at hl 0 rfl) ?_
  refine va_get (D := G.1) (ci := 2) (v := .ref (d0 2)) (C := RX2) (T := TX2) (N := 5) hx hb hT iX2 hown hK hP 0 rfl rfl 2 (by decide) (hT _ q_170) (fun _ h9 => h9) rfl dX2_becomesAsTold_17 ?_
  refine lv_iconst (v := 0) hx hb dX2_becomesAsTold_20 (by decide) ?_
  refine zcSv (As := [.ref (d0 2), .int 0]) (rest := []) Cx (c_J7_fill_53178 l G (d0 2) 24 0 ((zrp (zrp S0 0 f_1) 1 f_2) 2) _ hg) zv_J7_fill_53178 q_462 ⟨⟨rfl, rfl⟩, Nat.le_of_ble_eq_true rfl, Nat.le_of_ble_eq_true rfl⟩ (zJ.sub (wr := [0, 1, 2, 4, 5, 6, 7, 8, 9, 10, 11, 12, 13, 14, 15, 16, 17, 18, 19, 20, 21].filterMap (fun i => (wX2 G o0 d0 ((zrp (zrp S0 0 f_1) 1 f_2)) ++ (wX4 G o1 d1 S1))[i]?)) (w2 := (fun u : ZR => wX2 G o0 d0 ((zrp (zrp (zrp S0 0 f_1) 1 f_2) 2 u)) ++ (wX4 G o1 d1 S1))) hP hD hS hA [3] [0, 1, 2, 4, 5, 6, 7, 8, 9, 10, 11, 12, 13, 14, 15, 16, 17, 18, 19, 20, 21] [0, 1, 2, 21, 3, 4, 5, 6, 7, 8, 9, 10, 11, 12, 13, 14, 15, 16, 17, 18, 19, 20] rfl rfl (by decide) (fun u => rfl)) hS rfl hl.1 rfl (Nat.le_of_ble_eq_true rfl) dX2_becomesAsTold_21 (fun f_3 H locs hg hP hD hS => ?_)
  have hP : va_P G.1 classes (wX2 G o0 d0 ((zrp (zrp (zrp S0 0 f_1) 1 f_2) 2 f_3)) ++ (wX4 G o1 d1 S1)) H := hP
  have hD : va_D A (wX2 G o0 d0 ((zrp (zrp (zrp S0 0 f_1) 1 f_2) 2 f_3)) ++ (wX4 G o1 d1 S1)) := hD
  refine lv_aload_n hx hb dX2_becomesAsTold_24 rfl (lv_at hl 1 rfl) ?_
  refine va_get (D := G.1) (ci := 3) (v := .ref (d1 4)) (C := RX4) (T := TX4) (N := 17) hx hb hT iX4 hown hK hP 6 rfl rfl 4 (by decide) (hT _ q_76) (fun _ h9 => h9) rfl dX2_becomesAsTold_25 ?_
  refine lv_iconst (v := 0) hx hb dX2_becomesAsTold_28 (by decide) ?_
  refine lv_aload_n hx hb dX2_becomesAsTold_29 rfl (lv_at hl 0 rfl) ?_
  refine va_get (D := G.1) (ci := 2) (v := .ref (d0 3)) (C := RX2) (T := TX2) (N := 5) hx hb hT iX2 hown hK hP 0 rfl rfl 3 (by decide) (hT _ q_173) (fun _ h9 => h9) rfl dX2_becomesAsTold_30 ?_
  refine lv_iconst (v := 0) hx hb dX2_becomesAsTold_33 (by decide) ?_
  refine lv_bipush (v := 24) hx hb dX2_becomesAsTold_34 (by decide) ?_
  refine z_copy hx hb (hml.trans hl.1.symm) hown (hT _ q_465) (hT _ q_nat) (hT _ q_arrst) (hT _ q_sysini) hK hP hD hS 9 4 0 0 rfl rfl rfl rfl rfl (by decide) (by decide) (by decide) (Nat.le_of_ble_eq_true rfl) (Nat.le_of_ble_eq_true rfl) (fun _ _ => rfl) (Nat.le_of_ble_eq_true rfl) (by decide +kernel) dX2_becomesAsTold_36 (zrp (zrp (zrp (zrp S0 0 f_1) 1 f_2) 2 f_3) 3 (va_cpy (S1 4) ((zrp (zrp (zrp S0 0 f_1) 1 f_2) 2 f_3) 3) 0 0 24)) (fun S : ZS => wX2 G o0 d0 S ++ (wX4 G o1 d1 S1)) rfl (fun S0_4 H locs eS0_4 hP hD hS => ?_)
  have hg := hg S0_4 eS0_4
  refine lv_aload_n hx hb dX2_becomesAsTold_39 rfl (lv_at hl 1 rfl) ?_
  refine va_get (D := G.1) (ci := 3) (v := .ref (d1 15)) (C := RX4) (T := TX4) (N := 17) hx hb hT iX4 hown hK hP 6 rfl rfl 15 (by decide) (hT _ q_118) (fun _ h9 => h9) rfl dX2_becomesAsTold_40 ?_
  refine lv_iconst (v := 0) hx hb dX2_becomesAsTold_43 (by decide) ?_
  refine lv_aload_n hx hb dX2_becomesAsTold_44 rfl (lv_at hl 0 rfl) ?_
  refine va_get (D := G.1) (ci := 2) (v := .ref (d0 4)) (C := RX2) (T := TX2) (N := 5) hx hb hT iX2 hown hK hP 0 rfl rfl 4 (by decide) (hT _ q_178) (fun _ h9 => h9) rfl dX2_becomesAsTold_45 ?_
  refine lv_iconst (v := 0) hx hb dX2_becomesAsTold_48 (by decide) ?_
  refine lv_bipush (v := 16) hx hb dX2_becomesAsTold_49 (by decide) ?_
  refine z_copy hx hb (hml.trans hl.1.symm) hown (hT _ q_465) (hT _ q_nat) (hT _ q_arrst) (hT _ q_sysini) hK hP hD hS 20 5 0 0 rfl rfl rfl rfl rfl (by decide) (by decide) (by decide) (Nat.le_of_ble_eq_true rfl) (Nat.le_of_ble_eq_true rfl) (fun _ _ => rfl) (Nat.le_of_ble_eq_true rfl) (by decide +kernel) dX2_becomesAsTold_51 (zrp S0_4 4 (va_cpy (S1 15) (S0_4 4) 0 0 16)) (fun S : ZS => wX2 G o0 d0 S ++ (wX4 G o1 d1 S1)) rfl (fun S0_5 H locs eS0_5 hP hD hS => ?_)
  have hg := hg S0_5 eS0_5
  exact hret _ _ (S0_5) _ _ hg hP hD hS dX2_becomesAsTold_54
theorem zv_X2_copy : zV yX2_copy RX2 cX2_copy 2 none 1 := ⟨q_655, q_656, q_4, q_657, by decide +kernel⟩
set_option maxHeartbeats 4000000 in
set_option maxRecDepth 100000 in
theorem c_X2_copy (l : Launch) (G : ZG) (o0 : Nat) (d0 : Nat → Nat) (o1 : Nat) (d1 : Nat → Nat) (S0 : ZS) (S1 : ZS) (Q : ZS → Prop) (hg : g_X2_copy S0 S1 Q) : Kv l G yX2_copy cX2_copy 2 rm_X2_copy [.ref o0, .ref o1] (wX2 G o0 d0 S0 ++ (wX2 G o1 d1 S1)) (fun u : ZS => wX2 G o0 d0 u ++ (wX2 G o1 d1 S1)) (fun u => Q u) := by
  refine Kv.of (by decide) (Nat.le_of_ble_eq_true rfl) ?_
  intro p e s m args below meth c A QQ ls Cx hret hl hP hD hS
  obtain ⟨hx, hb, hml, hown, hT, hK, hA⟩ := id Cx
  have hl : lv_has ls 2 [(0, .ref o0), (1, .ref o1)] := hl
  refine lv_aload_n hx hb dX2_copy_0 rfl (lv_at hl 1 rfl) ?_
  refine va_get (D := G.1) (ci := 2) (v := .ref (d1 0)) (C := RX2) (T := TX2) (N := 5) hx hb hT iX2 hown hK hP 6 rfl rfl 0 (by decide) (hT _ q_163) (fun _ h9 => h9) rfl dX2_copy_1 ?_
  refine lv_iconst (v := 0) hx hb dX2_copy_4 (by decide) ?_
  refine lv_aload_n hx hb dX2_copy_5 rfl (lv_at hl 0 rfl) ?_
  refine va_get (D := G.1) (ci := 2) (v := .ref (d0 0)) (C := RX2) (T := TX2) (N := 5) hx hb hT iX2 hown hK hP 0 rfl rfl 0 (by decide) (hT _ q_163) (fun _ h9 => h9) rfl dX2_copy_6 ?_
  refine lv_iconst (v := 0) hx hb dX2_copy_9 (by decide) ?_
  refine lv_bipush (v := 24) hx hb dX2_copy_10 (by decide) ?_
  refine z_copy hx hb (hml.trans hl.1.symm) hown (hT _ q_465) (hT _ q_nat) (hT _ q_arrst) (hT _ q_sysini) hK hP hD hS 7 1 0 0 rfl rfl rfl rfl rfl (by decide) (by decide) (by decide) (Nat.le_of_ble_eq_true rfl) (Nat.le_of_ble_eq_true rfl) (fun _ _ => rfl) (Nat.le_of_ble_eq_true rfl) (by decide +kernel) dX2_copy_12 (zrp S0 0 (va_cpy (S1 0) (S0 0) 0 0 24)) (fun S : ZS => wX2 G o0 d0 S ++ (wX2 G o1 d1 S1)) rfl (fun S0_1 H locs eS0_1 hP hD hS => ?_)
  have hg := hg S0_1 eS0_1
  refine lv_aload_n hx hb dX2_copy_15 rfl (lv_at hl 1 rfl) ?_
  refine va_get (D := G.1) (ci := 2) (v := .ref (d1 1)) (C := RX2) (T := TX2) (N := 5) hx hb hT iX2 hown hK hP 6 rfl rfl 1 (by decide) (hT _ q_167) (fun _ h9 => h9) rfl dX2_copy_16 ?_
  refine lv_iconst (v := 0) hx hb dX2_copy_19 (by decide) ?_
  refine lv_aload_n hx hb dX2_copy_20 rfl (lv_at hl 0 rfl) ?_
  refine va_get (D := G.1) (ci := 2) (v := .ref (d0 1)) (C := RX2) (T := TX2) (N := 5) hx hb hT iX2 hown hK hP 0 rfl rfl 1 (by decide) (hT _ q_167) (fun _ h9 => h9) rfl dX2_copy_21 ?_
  refine lv_iconst (v := 0) hx hb dX2_copy_24 (by decide) ?_
  refine lv_bipush (v := 24) hx hb dX2_copy_25 (by decide) ?_
  refine z_copy hx hb (hml.trans hl.1.symm) hown (hT _ q_465) (hT _ q_nat) (hT _ q_arrst) (hT _ q_sysini) hK hP hD hS 8 2 0 0 rfl rfl rfl rfl rfl (by decide) (by decide) (by decide) (Nat.le_of_ble_eq_true rfl) (Nat.le_of_ble_eq_true rfl) (fun _ _ => rfl) (Nat.le_of_ble_eq_true rfl) (by decide +kernel) dX2_copy_27 (zrp S0_1 1 (va_cpy (S1 1) (S0_1 1) 0 0 24)) (fun S : ZS => wX2 G o0 d0 S ++ (wX2 G o1 d1 S1)) rfl (fun S0_2 H locs eS0_2 hP hD hS => ?_)
  have hg := hg S0_2 eS0_2
  refine lv_aload_n hx hb dX2_copy_30 rfl (lv_at hl 1 rfl) ?_
  refine va_get (D := G.1) (ci := 2) (v := .ref (d1 2)) (C := RX2) (T := TX2) (N := 5) hx hb hT iX2 hown hK hP 6 rfl rfl 2 (by decide) (hT _ q_170) (fun _ h9 => h9) rfl dX2_copy_31 ?_
  refine lv_iconst (v := 0) hx hb dX2_copy_34 (by decide) ?_
  refine lv_aload_n hx hb dX2_copy_35 rfl (lv_at hl 0 rfl) ?_
  refine va_get (D := G.1) (ci := 2) (v := .ref (d0 2)) (C := RX2) (T := TX2) (N := 5) hx hb hT iX2 hown hK hP 0 rfl rfl 2 (by decide) (hT _ q_170) (fun _ h9 => h9) rfl dX2_copy_36 ?_
  refine lv_iconst (v := 0) hx hb dX2_copy_39 (by decide) ?_
  refine lv_bipush (v := 24) hx hb dX2_copy_40 (by decide) ?_
  refine z_copy hx hb (hml.trans hl.1.symm) hown (hT _ q_465) (hT _ q_nat) (hT _ q_arrst) (hT _ q_sysini) hK hP hD hS 9 3 0 0 rfl rfl rfl rfl rfl (by decide) (by decide) (by decide) (Nat.le_of_ble_eq_true rfl) (Nat.le_of_ble_eq_true rfl) (fun _ _ => rfl) (Nat.le_of_ble_eq_true rfl) (by decide +kernel) dX2_copy_42 (zrp S0_2 2 (va_cpy (S1 2) (S0_2 2) 0 0 24)) (fun S : ZS => wX2 G o0 d0 S ++ (wX2 G o1 d1 S1)) rfl (fun S0_3 H locs eS0_3 hP hD hS => ?_)
  have hg := hg S0_3 eS0_3
  refine lv_aload_n hx hb dX2_copy_45 rfl (lv_at hl 1 rfl) ?_
  refine va_get (D := G.1) (ci := 2) (v := .ref (d1 3)) (C := RX2) (T := TX2) (N := 5) hx hb hT iX2 hown hK hP 6 rfl rfl 3 (by decide) (hT _ q_173) (fun _ h9 => h9) rfl dX2_copy_46 ?_
  refine lv_iconst (v := 0) hx hb dX2_copy_49 (by decide) ?_
  refine lv_aload_n hx hb dX2_copy_50 rfl (lv_at hl 0 rfl) ?_
  refine va_get (D := G.1) (ci := 2) (v := .ref (d0 3)) (C := RX2) (T := TX2) (N := 5) hx hb hT iX2 hown hK hP 0 rfl rfl 3 (by decide) (hT _ q_173) (fun _ h9 => h9) rfl dX2_copy_51 ?_
  refine lv_iconst (v := 0) hx hb dX2_copy_54 (by decide) ?_
  refine lv_bipush (v := 24) hx hb dX2_copy_55 (by decide) ?_
  refine z_copy hx hb (hml.trans hl.1.symm) hown (hT _ q_465) (hT _ q_nat) (hT _ q_arrst) (hT _ q_sysini) hK hP hD hS 10 4 0 0 rfl rfl rfl rfl rfl (by decide) (by decide) (by decide) (Nat.le_of_ble_eq_true rfl) (Nat.le_of_ble_eq_true rfl) (fun _ _ => rfl) (Nat.le_of_ble_eq_true rfl) (by decide +kernel) dX2_copy_57 (zrp S0_3 3 (va_cpy (S1 3) (S0_3 3) 0 0 24)) (fun S : ZS => wX2 G o0 d0 S ++ (wX2 G o1 d1 S1)) rfl (fun S0_4 H locs eS0_4 hP hD hS => ?_)
  have hg := hg S0_4 eS0_4
  refine lv_aload_n hx hb dX2_copy_60 rfl (lv_at hl 1 rfl) ?_
  refine va_get (D := G.1) (ci := 2) (v := .ref (d1 4)) (C := RX2) (T := TX2) (N := 5) hx hb hT iX2 hown hK hP 6 rfl rfl 4 (by decide) (hT _ q_178) (fun _ h9 => h9) rfl dX2_copy_61 ?_
  refine lv_iconst (v := 0) hx hb dX2_copy_64 (by decide) ?_
  refine lv_aload_n hx hb dX2_copy_65 rfl (lv_at hl 0 rfl) ?_
  refine va_get (D := G.1) (ci := 2) (v := .ref (d0 4)) (C := RX2) (T := TX2) (N := 5) hx hb hT iX2 hown hK hP 0 rfl rfl 4 (by decide) (hT _ q_178) (fun _ h9 => h9) rfl dX2_copy_66 ?_
  refine lv_iconst (v := 0) hx hb dX2_copy_69 (by decide) ?_
  refine lv_bipush (v := 16) hx hb dX2_copy_70 (by decide) ?_
  refine z_copy hx hb (hml.trans hl.1.symm) hown (hT _ q_465) (hT _ q_nat) (hT _ q_arrst) (hT _ q_sysini) hK hP hD hS 11 5 0 0 rfl rfl rfl rfl rfl (by decide) (by decide) (by decide) (Nat.le_of_ble_eq_true rfl) (Nat.le_of_ble_eq_true rfl) (fun _ _ => rfl) (Nat.le_of_ble_eq_true rfl) (by decide +kernel) dX2_copy_72 (zrp S0_4 4 (va_cpy (S1 4) (S0_4 4) 0 0 16)) (fun S : ZS => wX2 G o0 d0 S ++ (wX2 G o1 d1 S1)) rfl (fun S0_5 H locs eS0_5 hP hD hS => ?_)
  have hg := hg S0_5 eS0_5
  exact hret _ _ (S0_5) _ _ hg hP hD hS dX2_copy_75
theorem zv_X4_empty : zV yX4_empty RX4 cX4_empty 1 none 0 := ⟨q_319, q_320, q_3, q_321, by decide +kernel⟩
set_option maxHeartbeats 4000000 in
set_option maxRecDepth 100000 in
theorem c_X4_empty (l : Launch) (G : ZG) (o0 : Nat) (d0 : Nat → Nat) (S0 : ZS) (Q : ZS → Prop) (hg : g_X4_empty S0 Q) : Kv l G yX4_empty cX4_empty 1 rm_X4_empty [.ref o0] (wX4 G o0 d0 S0) (fun u : ZS => wX4 G o0 d0 u) (fun u => Q u) := by
  refine Kv.of (by decide) (Nat.le_of_ble_eq_true rfl) ?_
  intro p e s m args below meth c A QQ ls Cx hret hl hP hD hS
  obtain ⟨hx, hb, hml, hown, hT, hK, hA⟩ := id Cx
  have hl : lv_has ls 1 [(0, .ref o0)] := hl
  refine lv_aload_n hx hb dX4_empty_0 rfl (lv_at hl 0 rfl) ?_
  refine lv_iconst (v := 0) hx hb dX4_empty_1 (by decide) ?_
  refine z_put (D := G.1) (ci := 3) (v := .int 0) (ty := .int) (C := RX4) (T := TX4) (N := 17) hx hb hT iX4 tyX4 tyX4_ok nmX4 hown hK hP hD hS 0 rfl rfl 0 (by decide) (hT _ q_62) (fun _ h9 => h9) rfl (by decide +kernel) rfl rfl (Nat.le_of_ble_eq_true rfl) dX4_empty_2 (zst S0 0 0 0) (fun S : ZS => wX4 G o0 d0 S) rfl (fun S0_1 H locs eS0_1 hP hD hS => ?_)
  have hg := hg S0_1 eS0_1
  refine lv_aload_n hx hb dX4_empty_5 rfl (lv_at hl 0 rfl) ?_
  refine lv_iconst (v := 0) hx hb dX4_empty_6 (by decide) ?_
  refine z_put (D := G.1) (ci := 3) (v := .int 0) (ty := .int) (C := RX4) (T := TX4) (N := 17) hx hb hT iX4 tyX4 tyX4_ok nmX4 hown hK hP hD hS 0 rfl rfl 1 (by decide) (hT _ q_65) (fun _ h9 => h9) rfl (by decide +kernel) rfl rfl (Nat.le_of_ble_eq_true rfl) dX4_empty_7 (zst S0_1 1 0 0) (fun S : ZS => wX4 G o0 d0 S) rfl (fun S0_2 H locs eS0_2 hP hD hS => ?_)
  have hg := hg S0_2 eS0_2
  exact hret _ _ (S0_2) _ _ hg hP hD hS dX4_empty_10
theorem zv_X6_readLetters : zV yX6_readLetters RX6 cX6_readLetters 2 none 1 := ⟨q_331, q_332, q_2, q_333, by decide +kernel⟩
set_option maxHeartbeats 4000000 in
set_option maxRecDepth 100000 in
theorem c_X6_readLetters (l : Launch) (G : ZG) (o0 : Nat) (d0 : Nat → Nat) (x1 : Int32) (S0 : ZS) (Q : ZS → Prop) (hg : g_X6_readLetters x1 S0 Q) : Kv l G yX6_readLetters cX6_readLetters 2 rm_X6_readLetters [.ref o0, .int x1] (wX6 G o0 d0 S0) (fun u : ZS => wX6 G o0 d0 u) (fun u => Q u) := by
  refine Kv.of (by decide) (Nat.le_of_ble_eq_true rfl) ?_
  intro p e s m args below meth c A QQ ls Cx hret hl hP hD hS
  obtain ⟨hx, hb, hml, hown, hT, hK, hA⟩ := id Cx
  have hl : lv_has ls 2 [(0, .ref o0), (1, .int x1)] := hl
  have L10 : ∀ (n : Nat) (S0 : ZS) (H : Heap) (locs : List Loc) (ls : Array Slot), fx (F_X6_readLetters_10 x1 Q) n S0 → va_P G.1 classes (wX6 G o0 d0 S0) H → va_D A (wX6 G o0 d0 S0) → va_S A s.heap H locs → lv_has ls 2 [(0, .ref o0)] → W p l e rm_X6_readLetters s m args below meth c H locs 0 0 QQ (F0 m 10 ls []) := by
    intro n
    induction n with
    | zero => intro S0 H locs ls hg; exact hg.elim
    | succ n ih =>
      have hX10 := ih
      intro S0 H locs ls hg hP hD hS hl
      refine lv_aload_n hx hb dX6_readLetters_10 rfl (lv_at hl 0 rfl) ?_
      refine va_get (D := G.1) (ci := 4) (v := .int (S0 4 0)) (C := RX6) (T := TX6) (N := 7) hx hb hT iX6 hown hK hP 0 rfl rfl 4 (by decide) (hT _ q_35) (fun _ h9 => h9) rfl dX6_readLetters_11 ?_
      refine lv_aload_n hx hb dX6_readLetters_14 rfl (lv_at hl 0 rfl) ?_
      refine va_get (D := G.1) (ci := 4) (v := .int (S0 1 0)) (C := RX6) (T := TX6) (N := 7) hx hb hT iX6 hown hK hP 0 rfl rfl 1 (by decide) (hT _ q_29) (fun _ h9 => h9) rfl dX6_readLetters_15 ?_
      refine lv_icmp_ge (tgt := 67) hx hb dX6_readLetters_18 (by decide) (fun c_1 => ?_) (fun c_1 => ?_)
      · have hg := hg.1 c_1
        exact hret _ _ (S0) _ _ hg hP hD hS dX6_readLetters_67
      · have hg := hg.2 c_1
        refine lv_aload_n hx hb dX6_readLetters_21 rfl (lv_at hl 0 rfl) ?_
        refine va_get (D := G.1) (ci := 4) (v := .ref (d0 0)) (C := RX6) (T := TX6) (N := 7) hx hb hT iX6 hown hK hP 0 rfl rfl 0 (by decide) (hT _ q_27) (fun _ h9 => h9) rfl dX6_readLetters_22 ?_
        refine lv_aload_n hx hb dX6_readLetters_25 rfl (lv_at hl 0 rfl) ?_
        refine va_get (D := G.1) (ci := 4) (v := .int (S0 4 0)) (C := RX6) (T := TX6) (N := 7) hx hb hT iX6 hown hK hP 0 rfl rfl 4 (by decide) (hT _ q_35) (fun _ h9 => h9) rfl dX6_readLetters_26 ?_
        refine va_iald hx hb hK hP 1 0 rfl rfl hg.1 dX6_readLetters_29 ?_
        have hg := hg.2
        refine lv_bipush (v := 97) hx hb dX6_readLetters_30 (by decide) ?_
        refine lv_icmp_lt (tgt := 67) hx hb dX6_readLetters_32 (by decide) (fun c_2 => ?_) (fun c_2 => ?_)
        · have hg := hg.1 c_2
          exact hret _ _ (S0) _ _ hg hP hD hS dX6_readLetters_67
        · have hg := hg.2 c_2
          refine lv_aload_n hx hb dX6_readLetters_35 rfl (lv_at hl 0 rfl) ?_
          refine va_get (D := G.1) (ci := 4) (v := .ref (d0 0)) (C := RX6) (T := TX6) (N := 7) hx hb hT iX6 hown hK hP 0 rfl rfl 0 (by decide) (hT _ q_27) (fun _ h9 => h9) rfl dX6_readLetters_36 ?_
          refine lv_aload_n hx hb dX6_readLetters_39 rfl (lv_at hl 0 rfl) ?_
          refine va_get (D := G.1) (ci := 4) (v := .int (S0 4 0)) (C := RX6) (T := TX6) (N := 7) hx hb hT iX6 hown hK hP 0 rfl rfl 4 (by decide) (hT _ q_35) (fun _ h9 => h9) rfl dX6_readLetters_40 ?_
          refine va_iald hx hb hK hP 1 0 rfl rfl hg.1 dX6_readLetters_43 ?_
          have hg := hg.2
          refine lv_bipush (v := 122) hx hb dX6_readLetters_44 (by decide) ?_
          refine lv_icmp_gt (tgt := 67) hx hb dX6_readLetters_46 (by decide) (fun c_3 => ?_) (fun c_3 => ?_)
          · have hg := hg.1 c_3
            exact hret _ _ (S0) _ _ hg hP hD hS dX6_readLetters_67
          · have hg := hg.2 c_3
            refine lv_aload_n hx hb dX6_readLetters_49 rfl (lv_at hl 0 rfl) ?_
            refine lv_iconst (v := 0) hx hb dX6_readLetters_50 (by decide) ?_
            refine z_put (D := G.1) (ci := 4) (v := .int 0) (ty := .int) (C := RX6) (T := TX6) (N := 7) hx hb hT iX6 tyX6 tyX6_ok nmX6 hown hK hP hD hS 0 rfl rfl 5 (by decide) (hT _ q_36) (fun _ h9 => h9) rfl (by decide +kernel) rfl rfl (Nat.le_of_ble_eq_true rfl) dX6_readLetters_51 (zst S0 5 0 0) (fun S : ZS => wX6 G o0 d0 S) rfl (fun S0_4 H locs eS0_4 hP hD hS => ?_)
            have hg := hg S0_4 eS0_4
            refine lv_aload_n hx hb dX6_readLetters_54 rfl (lv_at hl 0 rfl) ?_
            refine lv_dup hx hb dX6_readLetters_55 rfl ?_
            refine va_get (D := G.1) (ci := 4) (v := .int (S0_4 4 0)) (C := RX6) (T := TX6) (N := 7) hx hb hT iX6 hown hK hP 0 rfl rfl 4 (by decide) (hT _ q_35) (fun _ h9 => h9) rfl dX6_readLetters_56 ?_
            refine lv_iconst (v := 1) hx hb dX6_readLetters_59 (by decide) ?_
            refine lv_iadd hx hb dX6_readLetters_60 ?_
            refine z_put (D := G.1) (ci := 4) (v := .int ((S0_4 4 0) + 1)) (ty := .int) (C := RX6) (T := TX6) (N := 7) hx hb hT iX6 tyX6 tyX6_ok nmX6 hown hK hP hD hS 0 rfl rfl 4 (by decide) (hT _ q_35) (fun _ h9 => h9) rfl (by decide +kernel) rfl rfl (Nat.le_of_ble_eq_true rfl) dX6_readLetters_61 (zst S0_4 4 0 ((S0_4 4 0) + 1)) (fun S : ZS => wX6 G o0 d0 S) rfl (fun S0_5 H locs eS0_5 hP hD hS => ?_)
            have hg := hg S0_5 eS0_5
            refine lv_goto (tgt := 10) hx hb dX6_readLetters_64 (by decide) ?_
            exact hX10 _ _ _ _ hg hP hD hS (lv_sub hl [0] rfl)
  refine lv_aload_n hx hb dX6_readLetters_0 rfl (lv_at hl 0 rfl) ?_
  refine lv_iconst (v := 1) hx hb dX6_readLetters_1 (by decide) ?_
  refine z_put (D := G.1) (ci := 4) (v := .int 1) (ty := .int) (C := RX6) (T := TX6) (N := 7) hx hb hT iX6 tyX6 tyX6_ok nmX6 hown hK hP hD hS 0 rfl rfl 2 (by decide) (hT _ q_31) (fun _ h9 => h9) rfl (by decide +kernel) rfl rfl (Nat.le_of_ble_eq_true rfl) dX6_readLetters_2 (zst S0 2 0 1) (fun S : ZS => wX6 G o0 d0 S) rfl (fun S0_1 H locs eS0_1 hP hD hS => ?_)
  have hg := hg S0_1 eS0_1
  refine lv_aload_n hx hb dX6_readLetters_5 rfl (lv_at hl 0 rfl) ?_
  refine lv_iload_n hx hb dX6_readLetters_6 rfl (lv_at hl 1 rfl) ?_
  refine z_put (D := G.1) (ci := 4) (v := .int x1) (ty := .int) (C := RX6) (T := TX6) (N := 7) hx hb hT iX6 tyX6 tyX6_ok nmX6 hown hK hP hD hS 0 rfl rfl 5 (by decide) (hT _ q_36) (fun _ h9 => h9) rfl (by decide +kernel) rfl rfl (Nat.le_of_ble_eq_true rfl) dX6_readLetters_7 (zst S0_1 5 0 x1) (fun S : ZS => wX6 G o0 d0 S) rfl (fun S0_2 H locs eS0_2 hP hD hS => ?_)
  have hg := hg S0_2 eS0_2
  obtain ⟨n, hg⟩ := hg
  exact L10 n _ _ _ _ hg hP hD hS (lv_sub hl [0] rfl)
theorem zv_X6_readNumeral : zV yX6_readNumeral RX6 cX6_readNumeral 2 none 1 := ⟨q_335, q_336, q_2, q_337, by decide +kernel⟩
set_option maxHeartbeats 4000000 in
set_option maxRecDepth 100000 in
theorem c_X6_readNumeral (l : Launch) (G : ZG) (o0 : Nat) (d0 : Nat → Nat) (x1 : Int32) (S0 : ZS) (Q : ZS → Prop) (hg : g_X6_readNumeral x1 S0 Q) : Kv l G yX6_readNumeral cX6_readNumeral 2 rm_X6_readNumeral [.ref o0, .int x1] (wX6 G o0 d0 S0) (fun u : ZS => wX6 G o0 d0 u) (fun u => Q u) := by
  refine Kv.of (by decide) (Nat.le_of_ble_eq_true rfl) ?_
  intro p e s m args below meth c A QQ ls Cx hret hl hP hD hS
  obtain ⟨hx, hb, hml, hown, hT, hK, hA⟩ := id Cx
  have hl : lv_has ls 2 [(0, .ref o0), (1, .int x1)] := hl
  have J108 : ∀ (S0 : ZS) (H : Heap) (locs : List Loc) (ls : Array Slot), G_X6_readNumeral_108 x1 Q S0 → va_P G.1 classes (wX6 G o0 d0 S0) H → va_D A (wX6 G o0 d0 S0) → va_S A s.heap H locs → lv_has ls 2 [(0, .ref o0)] → W p l e rm_X6_readNumeral s m args below meth c H locs 0 0 QQ (F0 m 108 ls []) := by
    intro S0 H locs ls hg hP hD hS hl
    refine lv_aload_n hx hb dX6_readNumeral_108 rfl (lv_at hl 0 rfl) ?_
    refine va_get (D := G.1) (ci := 4) (v := .int (S0 5 0)) (C := RX6) (T := TX6) (N := 7) hx hb hT iX6 hown hK hP 0 rfl rfl 5 (by decide) (hT _ q_36) (fun _ h9 => h9) rfl dX6_readNumeral_109 ?_
    refine lv_sipush (v := 999) hx hb dX6_readNumeral_112 (by decide) ?_
    refine lv_icmp_le (tgt := 123) hx hb dX6_readNumeral_115 (by decide) (fun c_1 => ?_) (fun c_1 => ?_)
    · have hg := hg.1 c_1
      exact hret _ _ (S0) _ _ hg hP hD hS dX6_readNumeral_123
    · have hg := hg.2 c_1
      refine lv_aload_n hx hb dX6_readNumeral_118 rfl (lv_at hl 0 rfl) ?_
      refine lv_iconst (v := 5) hx hb dX6_readNumeral_119 (by decide) ?_
      refine z_put (D := G.1) (ci := 4) (v := .int 5) (ty := .int) (C := RX6) (T := TX6) (N := 7) hx hb hT iX6 tyX6 tyX6_ok nmX6 hown hK hP hD hS 0 rfl rfl 2 (by decide) (hT _ q_31) (fun _ h9 => h9) rfl (by decide +kernel) rfl rfl (Nat.le_of_ble_eq_true rfl) dX6_readNumeral_120 (zst S0 2 0 5) (fun S : ZS => wX6 G o0 d0 S) rfl (fun S0_2 H locs eS0_2 hP hD hS => ?_)
      have hg := hg S0_2 eS0_2
      exact hret _ _ (S0_2) _ _ hg hP hD hS dX6_readNumeral_123
  have J95 : ∀ (X10 : ZS → Prop) (hX10 : ∀ (S0 : ZS) (H : Heap) (locs : List Loc) (ls : Array Slot), X10 (S0) → va_P G.1 classes (wX6 G o0 d0 S0) H → va_D A (wX6 G o0 d0 S0) → va_S A s.heap H locs → lv_has ls 2 [(0, .ref o0)] → W p l e rm_X6_readNumeral s m args below meth c H locs 0 0 QQ (F0 m 10 ls [])) (S0 : ZS) (H : Heap) (locs : List Loc) (ls : Array Slot), G_X6_readNumeral_95 x1 Q X10 S0 → va_P G.1 classes (wX6 G o0 d0 S0) H → va_D A (wX6 G o0 d0 S0) → va_S A s.heap H locs → lv_has ls 2 [(0, .ref o0)] → W p l e rm_X6_readNumeral s m args below meth c H locs 0 0 QQ (F0 m 95 ls []) := by
    intro X10 hX10 S0 H locs ls hg hP hD hS hl
    refine lv_aload_n hx hb dX6_readNumeral_95 rfl (lv_at hl 0 rfl) ?_
    refine lv_dup hx hb dX6_readNumeral_96 rfl ?_
    refine va_get (D := G.1) (ci := 4) (v := .int (S0 4 0)) (C := RX6) (T := TX6) (N := 7) hx hb hT iX6 hown hK hP 0 rfl rfl 4 (by decide) (hT _ q_35) (fun _ h9 => h9) rfl dX6_readNumeral_97 ?_
    refine lv_iconst (v := 1) hx hb dX6_readNumeral_100 (by decide) ?_
    refine lv_iadd hx hb dX6_readNumeral_101 ?_
    refine z_put (D := G.1) (ci := 4) (v := .int ((S0 4 0) + 1)) (ty := .int) (C := RX6) (T := TX6) (N := 7) hx hb hT iX6 tyX6 tyX6_ok nmX6 hown hK hP hD hS 0 rfl rfl 4 (by decide) (hT _ q_35) (fun _ h9 => h9) rfl (by decide +kernel) rfl rfl (Nat.le_of_ble_eq_true rfl) dX6_readNumeral_102 (zst S0 4 0 ((S0 4 0) + 1)) (fun S : ZS => wX6 G o0 d0 S) rfl (fun S0_1 H locs eS0_1 hP hD hS => ?_)
    have hg := hg S0_1 eS0_1
    refine lv_goto (tgt := 10) hx hb dX6_readNumeral_105 (by decide) ?_
    exact hX10 _ _ _ _ hg hP hD hS (lv_sub hl [0] rfl)
  have J61 : ∀ (X10 : ZS → Prop) (hX10 : ∀ (S0 : ZS) (H : Heap) (locs : List Loc) (ls : Array Slot), X10 (S0) → va_P G.1 classes (wX6 G o0 d0 S0) H → va_D A (wX6 G o0 d0 S0) → va_S A s.heap H locs → lv_has ls 2 [(0, .ref o0)] → W p l e rm_X6_readNumeral s m args below meth c H locs 0 0 QQ (F0 m 10 ls [])) (S0 : ZS) (H : Heap) (locs : List Loc) (ls : Array Slot), G_X6_readNumeral_61 x1 Q X10 S0 → va_P G.1 classes (wX6 G o0 d0 S0) H → va_D A (wX6 G o0 d0 S0) → va_S A s.heap H locs → lv_has ls 2 [(0, .ref o0)] → W p l e rm_X6_readNumeral s m args below meth c H locs 0 0 QQ (F0 m 61 ls []) := by
    intro X10 hX10 S0 H locs ls hg hP hD hS hl
    refine lv_aload_n hx hb dX6_readNumeral_61 rfl (lv_at hl 0 rfl) ?_
    refine va_get (D := G.1) (ci := 4) (v := .int (S0 5 0)) (C := RX6) (T := TX6) (N := 7) hx hb hT iX6 hown hK hP 0 rfl rfl 5 (by decide) (hT _ q_36) (fun _ h9 => h9) rfl dX6_readNumeral_62 ?_
    refine lv_sipush (v := 999) hx hb dX6_readNumeral_65 (by decide) ?_
    refine lv_icmp_gt (tgt := 95) hx hb dX6_readNumeral_68 (by decide) (fun c_1 => ?_) (fun c_1 => ?_)
    · have hg := hg.1 c_1
      exact J95 _ hX10 _ _ _ _ hg hP hD hS (lv_sub hl [0] rfl)
    · have hg := hg.2 c_1
      refine lv_aload_n hx hb dX6_readNumeral_71 rfl (lv_at hl 0 rfl) ?_
      refine lv_bipush (v := 10) hx hb dX6_readNumeral_72 (by decide) ?_
      refine lv_aload_n hx hb dX6_readNumeral_74 rfl (lv_at hl 0 rfl) ?_
      refine va_get (D := G.1) (ci := 4) (v := .int (S0 5 0)) (C := RX6) (T := TX6) (N := 7) hx hb hT iX6 hown hK hP 0 rfl rfl 5 (by decide) (hT _ q_36) (fun _ h9 => h9) rfl dX6_readNumeral_75 ?_
      refine lv_imul hx hb dX6_readNumeral_78 ?_
      refine lv_aload_n hx hb dX6_readNumeral_79 rfl (lv_at hl 0 rfl) ?_
      refine va_get (D := G.1) (ci := 4) (v := .ref (d0 0)) (C := RX6) (T := TX6) (N := 7) hx hb hT iX6 hown hK hP 0 rfl rfl 0 (by decide) (hT _ q_27) (fun _ h9 => h9) rfl dX6_readNumeral_80 ?_
      refine lv_aload_n hx hb dX6_readNumeral_83 rfl (lv_at hl 0 rfl) ?_
      refine va_get (D := G.1) (ci := 4) (v := .int (S0 4 0)) (C := RX6) (T := TX6) (N := 7) hx hb hT iX6 hown hK hP 0 rfl rfl 4 (by decide) (hT _ q_35) (fun _ h9 => h9) rfl dX6_readNumeral_84 ?_
      refine va_iald hx hb hK hP 1 0 rfl rfl hg.1 dX6_readNumeral_87 ?_
      have hg := hg.2
      refine lv_iadd hx hb dX6_readNumeral_88 ?_
      refine lv_bipush (v := 48) hx hb dX6_readNumeral_89 (by decide) ?_
      refine lv_isub hx hb dX6_readNumeral_91 ?_
      refine z_put (D := G.1) (ci := 4) (v := .int (((10 * (S0 5 0)) + (S0 0 (S0 4 0).toNatClampNeg)) - 48)) (ty := .int) (C := RX6) (T := TX6) (N := 7) hx hb hT iX6 tyX6 tyX6_ok nmX6 hown hK hP hD hS 0 rfl rfl 5 (by decide) (hT _ q_36) (fun _ h9 => h9) rfl (by decide +kernel) rfl rfl (Nat.le_of_ble_eq_true rfl) dX6_readNumeral_92 (zst S0 5 0 (((10 * (S0 5 0)) + (S0 0 (S0 4 0).toNatClampNeg)) - 48)) (fun S : ZS => wX6 G o0 d0 S) rfl (fun S0_2 H locs eS0_2 hP hD hS => ?_)
      have hg := hg S0_2 eS0_2
      exact J95 _ hX10 _ _ _ _ hg hP hD hS (lv_sub hl [0] rfl)
  have L10 : ∀ (n : Nat) (S0 : ZS) (H : Heap) (locs : List Loc) (ls : Array Slot), fx (F_X6_readNumeral_10 x1 Q) n S0 → va_P G.1 classes (wX6 G o0 d0 S0) H → va_D A (wX6 G o0 d0 S0) → va_S A s.heap H locs → lv_has ls 2 [(0, .ref o0)] → W p l e rm_X6_readNumeral s m args below meth c H locs 0 0 QQ (F0 m 10 ls []) := by
    intro n
    induction n with
    | zero => intro S0 H locs ls hg; exact hg.elim
    | succ n ih =>
      have hX10 := ih
      intro S0 H locs ls hg hP hD hS hl
      refine lv_aload_n hx hb dX6_readNumeral_10 rfl (lv_at hl 0 rfl) ?_
      refine va_get (D := G.1) (ci := 4) (v := .int (S0 4 0)) (C := RX6) (T := TX6) (N := 7) hx hb hT iX6 hown hK hP 0 rfl rfl 4 (by decide) (hT _ q_35) (fun _ h9 => h9) rfl dX6_readNumeral_11 ?_
      refine lv_aload_n hx hb dX6_readNumeral_14 rfl (lv_at hl 0 rfl) ?_
      refine va_get (D := G.1) (ci := 4) (v := .int (S0 1 0)) (C := RX6) (T := TX6) (N := 7) hx hb hT iX6 hown hK hP 0 rfl rfl 1 (by decide) (hT _ q_29) (fun _ h9 => h9) rfl dX6_readNumeral_15 ?_
      refine lv_icmp_ge (tgt := 108) hx hb dX6_readNumeral_18 (by decide) (fun c_1 => ?_) (fun c_1 => ?_)
      · have hg := hg.1 c_1
        exact J108 _ _ _ _ hg hP hD hS (lv_sub hl [0] rfl)
      · have hg := hg.2 c_1
        refine lv_aload_n hx hb dX6_readNumeral_21 rfl (lv_at hl 0 rfl) ?_
        refine va_get (D := G.1) (ci := 4) (v := .ref (d0 0)) (C := RX6) (T := TX6) (N := 7) hx hb hT iX6 hown hK hP 0 rfl rfl 0 (by decide) (hT _ q_27) (fun _ h9 => h9) rfl dX6_readNumeral_22 ?_
        refine lv_aload_n hx hb dX6_readNumeral_25 rfl (lv_at hl 0 rfl) ?_
        refine va_get (D := G.1) (ci := 4) (v := .int (S0 4 0)) (C := RX6) (T := TX6) (N := 7) hx hb hT iX6 hown hK hP 0 rfl rfl 4 (by decide) (hT _ q_35) (fun _ h9 => h9) rfl dX6_readNumeral_26 ?_
        refine va_iald hx hb hK hP 1 0 rfl rfl hg.1 dX6_readNumeral_29 ?_
        have hg := hg.2
        refine lv_bipush (v := 48) hx hb dX6_readNumeral_30 (by decide) ?_
        refine lv_icmp_lt (tgt := 108) hx hb dX6_readNumeral_32 (by decide) (fun c_2 => ?_) (fun c_2 => ?_)
        · have hg := hg.1 c_2
          exact J108 _ _ _ _ hg hP hD hS (lv_sub hl [0] rfl)
        · have hg := hg.2 c_2
          refine lv_aload_n hx hb dX6_readNumeral_35 rfl (lv_at hl 0 rfl) ?_
          refine va_get (D := G.1) (ci := 4) (v := .ref (d0 0)) (C := RX6) (T := TX6) (N := 7) hx hb hT iX6 hown hK hP 0 rfl rfl 0 (by decide) (hT _ q_27) (fun _ h9 => h9) rfl dX6_readNumeral_36 ?_
          refine lv_aload_n hx hb dX6_readNumeral_39 rfl (lv_at hl 0 rfl) ?_
          refine va_get (D := G.1) (ci := 4) (v := .int (S0 4 0)) (C := RX6) (T := TX6) (N := 7) hx hb hT iX6 hown hK hP 0 rfl rfl 4 (by decide) (hT _ q_35) (fun _ h9 => h9) rfl dX6_readNumeral_40 ?_
          refine va_iald hx hb hK hP 1 0 rfl rfl hg.1 dX6_readNumeral_43 ?_
          have hg := hg.2
          refine lv_bipush (v := 57) hx hb dX6_readNumeral_44 (by decide) ?_
          refine lv_icmp_gt (tgt := 108) hx hb dX6_readNumeral_46 (by decide) (fun c_3 => ?_) (fun c_3 => ?_)
          · have hg := hg.1 c_3
            exact J108 _ _ _ _ hg hP hD hS (lv_sub hl [0] rfl)
          · have hg := hg.2 c_3
            refine lv_aload_n hx hb dX6_readNumeral_49 rfl (lv_at hl 0 rfl) ?_
            refine va_get (D := G.1) (ci := 4) (v := .int (S0 5 0)) (C := RX6) (T := TX6) (N := 7) hx hb hT iX6 hown hK hP 0 rfl rfl 5 (by decide) (hT _ q_36) (fun _ h9 => h9) rfl dX6_readNumeral_50 ?_
            refine lv_if_ne (tgt := 61) hx hb dX6_readNumeral_53 (by decide) (fun c_4 => ?_) (fun c_4 => ?_)
            · have hg := hg.2 c_4
              exact J61 _ hX10 _ _ _ _ hg hP hD hS (lv_sub hl [0] rfl)
            · have hg := hg.1 c_4
              refine lv_aload_n hx hb dX6_readNumeral_56 rfl (lv_at hl 0 rfl) ?_
              refine lv_iconst (v := 5) hx hb dX6_readNumeral_57 (by decide) ?_
              refine z_put (D := G.1) (ci := 4) (v := .int 5) (ty := .int) (C := RX6) (T := TX6) (N := 7) hx hb hT iX6 tyX6 tyX6_ok nmX6 hown hK hP hD hS 0 rfl rfl 2 (by decide) (hT _ q_31) (fun _ h9 => h9) rfl (by decide +kernel) rfl rfl (Nat.le_of_ble_eq_true rfl) dX6_readNumeral_58 (zst S0 2 0 5) (fun S : ZS => wX6 G o0 d0 S) rfl (fun S0_5 H locs eS0_5 hP hD hS => ?_)
              have hg := hg S0_5 eS0_5
              exact J61 _ hX10 _ _ _ _ hg hP hD hS (lv_sub hl [0] rfl)
  refine lv_aload_n hx hb dX6_readNumeral_0 rfl (lv_at hl 0 rfl) ?_
  refine lv_iconst (v := 2) hx hb dX6_readNumeral_1 (by decide) ?_
  refine z_put (D := G.1) (ci := 4) (v := .int 2) (ty := .int) (C := RX6) (T := TX6) (N := 7) hx hb hT iX6 tyX6 tyX6_ok nmX6 hown hK hP hD hS 0 rfl rfl 2 (by decide) (hT _ q_31) (fun _ h9 => h9) rfl (by decide +kernel) rfl rfl (Nat.le_of_ble_eq_true rfl) dX6_readNumeral_2 (zst S0 2 0 2) (fun S : ZS => wX6 G o0 d0 S) rfl (fun S0_1 H locs eS0_1 hP hD hS => ?_)
  have hg := hg S0_1 eS0_1
  refine lv_aload_n hx hb dX6_readNumeral_5 rfl (lv_at hl 0 rfl) ?_
  refine lv_iload_n hx hb dX6_readNumeral_6 rfl (lv_at hl 1 rfl) ?_
  refine z_put (D := G.1) (ci := 4) (v := .int x1) (ty := .int) (C := RX6) (T := TX6) (N := 7) hx hb hT iX6 tyX6 tyX6_ok nmX6 hown hK hP hD hS 0 rfl rfl 5 (by decide) (hT _ q_36) (fun _ h9 => h9) rfl (by decide +kernel) rfl rfl (Nat.le_of_ble_eq_true rfl) dX6_readNumeral_7 (zst S0_1 5 0 x1) (fun S : ZS => wX6 G o0 d0 S) rfl (fun S0_2 H locs eS0_2 hP hD hS => ?_)
  have hg := hg S0_2 eS0_2
  obtain ⟨n, hg⟩ := hg
  exact L10 n _ _ _ _ hg hP hD hS (lv_sub hl [0] rfl)
theorem zv_X5_isSign : zSt yX5_isSign cX5_isSign 1 (some .boolean) 1 := ⟨q_339, q_10, q_340, by decide +kernel⟩
set_option maxHeartbeats 4000000 in
set_option maxRecDepth 100000 in
theorem c_X5_isSign (l : Launch) (G : ZG) (x0 : Int32) (Q : Int32 → Prop) (hg : g_X5_isSign x0 Q) : Ki l G yX5_isSign cX5_isSign 1 .boolean rm_X5_isSign [.int x0] (([] : va_W)) (fun _ : Unit => ([] : va_W)) (fun r _ => Q r ) := by
  refine Ki.of (by decide) (Nat.le_of_ble_eq_true rfl) ?_
  intro p e s m args below meth c A QQ ls Cx hret hl hP hD hS
  obtain ⟨hx, hb, hml, hown, hT, hK, hA⟩ := id Cx
  have hl : lv_has ls 1 [(0, .int x0)] := hl
  refine lv_iload_n hx hb dX5_isSign_0 rfl (lv_at hl 0 rfl) ?_
  by_cases k37 : x0 = 37
  · have hg := hg.1 k37
    refine lv_lookup (off := 83) (tgt := 84) hx hb dX5_isSign_1 (by decide) (by rw [k37]; rfl) (by decide) ?_
    refine lv_iconst (v := 1) hx hb dX5_isSign_84 (by decide) ?_
    exact hret _ _ _ () _ _ hg rfl hP hD hS dX5_isSign_85
  by_cases k38 : x0 = 38
  · have hg := hg.2.1 k38
    refine lv_lookup (off := 83) (tgt := 84) hx hb dX5_isSign_1 (by decide) (by rw [k38]; rfl) (by decide) ?_
    refine lv_iconst (v := 1) hx hb dX5_isSign_84 (by decide) ?_
    exact hret _ _ _ () _ _ hg rfl hP hD hS dX5_isSign_85
  by_cases k42 : x0 = 42
  · have hg := hg.2.2.1 k42
    refine lv_lookup (off := 83) (tgt := 84) hx hb dX5_isSign_1 (by decide) (by rw [k42]; rfl) (by decide) ?_
    refine lv_iconst (v := 1) hx hb dX5_isSign_84 (by decide) ?_
    exact hret _ _ _ () _ _ hg rfl hP hD hS dX5_isSign_85
  by_cases k43 : x0 = 43
  · have hg := hg.2.2.2.1 k43
    refine lv_lookup (off := 83) (tgt := 84) hx hb dX5_isSign_1 (by decide) (by rw [k43]; rfl) (by decide) ?_
    refine lv_iconst (v := 1) hx hb dX5_isSign_84 (by decide) ?_
    exact hret _ _ _ () _ _ hg rfl hP hD hS dX5_isSign_85
  by_cases k45 : x0 = 45
  · have hg := hg.2.2.2.2.1 k45
    refine lv_lookup (off := 83) (tgt := 84) hx hb dX5_isSign_1 (by decide) (by rw [k45]; rfl) (by decide) ?_
    refine lv_iconst (v := 1) hx hb dX5_isSign_84 (by decide) ?_
    exact hret _ _ _ () _ _ hg rfl hP hD hS dX5_isSign_85
  by_cases k47 : x0 = 47
  · have hg := hg.2.2.2.2.2.1 k47
    refine lv_lookup (off := 83) (tgt := 84) hx hb dX5_isSign_1 (by decide) (by rw [k47]; rfl) (by decide) ?_
    refine lv_iconst (v := 1) hx hb dX5_isSign_84 (by decide) ?_
    exact hret _ _ _ () _ _ hg rfl hP hD hS dX5_isSign_85
  by_cases k60 : x0 = 60
  · have hg := hg.2.2.2.2.2.2.1 k60
    refine lv_lookup (off := 83) (tgt := 84) hx hb dX5_isSign_1 (by decide) (by rw [k60]; rfl) (by decide) ?_
    refine lv_iconst (v := 1) hx hb dX5_isSign_84 (by decide) ?_
    exact hret _ _ _ () _ _ hg rfl hP hD hS dX5_isSign_85
  by_cases k61 : x0 = 61
  · have hg := hg.2.2.2.2.2.2.2.1 k61
    refine lv_lookup (off := 83) (tgt := 84) hx hb dX5_isSign_1 (by decide) (by rw [k61]; rfl) (by decide) ?_
    refine lv_iconst (v := 1) hx hb dX5_isSign_84 (by decide) ?_
    exact hret _ _ _ () _ _ hg rfl hP hD hS dX5_isSign_85
  by_cases k94 : x0 = 94
  · have hg := hg.2.2.2.2.2.2.2.2.1 k94
    refine lv_lookup (off := 83) (tgt := 84) hx hb dX5_isSign_1 (by decide) (by rw [k94]; rfl) (by decide) ?_
    refine lv_iconst (v := 1) hx hb dX5_isSign_84 (by decide) ?_
    exact hret _ _ _ () _ _ hg rfl hP hD hS dX5_isSign_85
  have hg := hg.2.2.2.2.2.2.2.2.2 k37 k38 k42 k43 k45 k47 k60 k61 k94
  refine lv_lookup (off := 85) (tgt := 86) hx hb dX5_isSign_1 (by decide) (by show Op.lookupswitch.offset [(37, 83), (38, 83), (42, 83), (43, 83), (45, 83), (47, 83), (60, 83), (61, 83), (94, 83)] _ _ = _; rw [lv_osw k37 (by decide), lv_osw k38 (by decide), lv_osw k42 (by decide), lv_osw k43 (by decide), lv_osw k45 (by decide), lv_osw k47 (by decide), lv_osw k60 (by decide), lv_osw k61 (by decide), lv_osw k94 (by decide)]; rfl) (by decide) ?_
  refine lv_iconst (v := 0) hx hb dX5_isSign_86 (by decide) ?_
  exact hret _ _ _ () _ _ hg rfl hP hD hS dX5_isSign_87
theorem zv_X6_step : zV yX6_step RX6 cX6_step 2 none 0 := ⟨q_327, q_328, q_2, q_329, by decide +kernel⟩
set_option maxHeartbeats 4000000 in
set_option maxRecDepth 100000 in
theorem c_X6_step (l : Launch) (G : ZG) (o0 : Nat) (d0 : Nat → Nat) (S0 : ZS) (Q : ZS → Prop) (hg : g_X6_step S0 Q) : Kv l G yX6_step cX6_step 2 rm_X6_step [.ref o0] (wX6 G o0 d0 S0) (fun u : ZS => wX6 G o0 d0 u) (fun u => Q u) := by
  refine Kv.of (by decide) (Nat.le_of_ble_eq_true rfl) ?_
  intro p e s m args below meth c A QQ ls Cx hret hl hP hD hS
  obtain ⟨hx, hb, hml, hown, hT, hK, hA⟩ := id Cx
  have hl : lv_has ls 2 [(0, .ref o0)] := hl
  have J131 : ∀ (x1 : Int32) (S0 : ZS) (H : Heap) (locs : List Loc) (ls : Array Slot), G_X6_step_131 Q x1 S0 → va_P G.1 classes (wX6 G o0 d0 S0) H → va_D A (wX6 G o0 d0 S0) → va_S A s.heap H locs → lv_has ls 2 [(0, .ref o0), (1, .int x1)] → W p l e rm_X6_step s m args below meth c H locs 0 0 QQ (F0 m 131 ls []) := by
    intro x1 S0 H locs ls hg hP hD hS hl
    refine lv_iload_n hx hb dX6_step_131 rfl (lv_at hl 1 rfl) ?_
    refine zcSi (As := [.int x1]) (rest := []) Cx (c_X5_isSign l G x1 _ hg) zv_X5_isSign q_338 ⟨⟨rfl, rfl⟩, Nat.le_of_ble_eq_true rfl, Nat.le_of_ble_eq_true rfl⟩ (zJ.none (S := Unit) hP hD hS hA) hS rfl hl.1 rfl (Nat.le_of_ble_eq_true rfl) dX6_step_132 (fun r_1 _u H locs hg hP hD hS => ?_)
    refine lv_if_eq (tgt := 151) hx hb dX6_step_135 (by decide) (fun c_2 => ?_) (fun c_2 => ?_)
    · have hg := hg.1 c_2
      refine lv_aload_n hx hb dX6_step_151 rfl (lv_at hl 0 rfl) ?_
      refine lv_iload_n hx hb dX6_step_152 rfl (lv_at hl 1 rfl) ?_
      refine lv_bipush (v := 59) hx hb dX6_step_153 (by decide) ?_
      refine lv_icmp_ne (tgt := 162) hx hb dX6_step_155 (by decide) (fun c_3 => ?_) (fun c_3 => ?_)
      · have hg := hg.2 c_3
        refine lv_iconst (v := 5) hx hb dX6_step_162 (by decide) ?_
        refine z_put (D := G.1) (ci := 4) (v := .int 5) (ty := .int) (C := RX6) (T := TX6) (N := 7) hx hb hT iX6 tyX6 tyX6_ok nmX6 hown hK hP hD hS 0 rfl rfl 2 (by decide) (hT _ q_31) (fun _ h9 => h9) rfl (by decide +kernel) rfl rfl (Nat.le_of_ble_eq_true rfl) dX6_step_163 (zst S0 2 0 5) (fun S : ZS => wX6 G o0 d0 S) rfl (fun S0_4 H locs eS0_4 hP hD hS => ?_)
        have hg := hg S0_4 eS0_4
        exact hret _ _ (S0_4) _ _ hg hP hD hS dX6_step_166
      · have hg := hg.1 c_3
        refine lv_iconst (v := 4) hx hb dX6_step_158 (by decide) ?_
        refine lv_goto (tgt := 163) hx hb dX6_step_159 (by decide) ?_
        refine z_put (D := G.1) (ci := 4) (v := .int 4) (ty := .int) (C := RX6) (T := TX6) (N := 7) hx hb hT iX6 tyX6 tyX6_ok nmX6 hown hK hP hD hS 0 rfl rfl 2 (by decide) (hT _ q_31) (fun _ h9 => h9) rfl (by decide +kernel) rfl rfl (Nat.le_of_ble_eq_true rfl) dX6_step_163 (zst S0 2 0 4) (fun S : ZS => wX6 G o0 d0 S) rfl (fun S0_5 H locs eS0_5 hP hD hS => ?_)
        have hg := hg S0_5 eS0_5
        exact hret _ _ (S0_5) _ _ hg hP hD hS dX6_step_166
    · have hg := hg.2 c_2
      refine lv_aload_n hx hb dX6_step_138 rfl (lv_at hl 0 rfl) ?_
      refine lv_iconst (v := 3) hx hb dX6_step_139 (by decide) ?_
      refine z_put (D := G.1) (ci := 4) (v := .int 3) (ty := .int) (C := RX6) (T := TX6) (N := 7) hx hb hT iX6 tyX6 tyX6_ok nmX6 hown hK hP hD hS 0 rfl rfl 2 (by decide) (hT _ q_31) (fun _ h9 => h9) rfl (by decide +kernel) rfl rfl (Nat.le_of_ble_eq_true rfl) dX6_step_140 (zst S0 2 0 3) (fun S : ZS => wX6 G o0 d0 S) rfl (fun S0_6 H locs eS0_6 hP hD hS => ?_)
      have hg := hg S0_6 eS0_6
      refine lv_aload_n hx hb dX6_step_143 rfl (lv_at hl 0 rfl) ?_
      refine lv_iload_n hx hb dX6_step_144 rfl (lv_at hl 1 rfl) ?_
      refine z_put (D := G.1) (ci := 4) (v := .int x1) (ty := .int) (C := RX6) (T := TX6) (N := 7) hx hb hT iX6 tyX6 tyX6_ok nmX6 hown hK hP hD hS 0 rfl rfl 5 (by decide) (hT _ q_36) (fun _ h9 => h9) rfl (by decide +kernel) rfl rfl (Nat.le_of_ble_eq_true rfl) dX6_step_145 (zst S0_6 5 0 x1) (fun S : ZS => wX6 G o0 d0 S) rfl (fun S0_7 H locs eS0_7 hP hD hS => ?_)
      have hg := hg S0_7 eS0_7
      refine lv_goto (tgt := 166) hx hb dX6_step_148 (by decide) ?_
      exact hret _ _ (S0_7) _ _ hg hP hD hS dX6_step_166
  have J108 : ∀ (x1 : Int32) (S0 : ZS) (H : Heap) (locs : List Loc) (ls : Array Slot), G_X6_step_108 Q x1 S0 → va_P G.1 classes (wX6 G o0 d0 S0) H → va_D A (wX6 G o0 d0 S0) → va_S A s.heap H locs → lv_has ls 2 [(0, .ref o0), (1, .int x1)] → W p l e rm_X6_step s m args below meth c H locs 0 0 QQ (F0 m 108 ls []) := by
    intro x1 S0 H locs ls hg hP hD hS hl
    refine lv_iload_n hx hb dX6_step_108 rfl (lv_at hl 1 rfl) ?_
    refine lv_bipush (v := 48) hx hb dX6_step_109 (by decide) ?_
    refine lv_icmp_lt (tgt := 131) hx hb dX6_step_111 (by decide) (fun c_1 => ?_) (fun c_1 => ?_)
    · have hg := hg.1 c_1
      exact J131 _ _ _ _ _ hg hP hD hS (lv_sub hl [0, 1] rfl)
    · have hg := hg.2 c_1
      refine lv_iload_n hx hb dX6_step_114 rfl (lv_at hl 1 rfl) ?_
      refine lv_bipush (v := 57) hx hb dX6_step_115 (by decide) ?_
      refine lv_icmp_gt (tgt := 131) hx hb dX6_step_117 (by decide) (fun c_2 => ?_) (fun c_2 => ?_)
      · have hg := hg.1 c_2
        exact J131 _ _ _ _ _ hg hP hD hS (lv_sub hl [0, 1] rfl)
      · have hg := hg.2 c_2
        refine lv_aload_n hx hb dX6_step_120 rfl (lv_at hl 0 rfl) ?_
        refine lv_iload_n hx hb dX6_step_121 rfl (lv_at hl 1 rfl) ?_
        refine lv_bipush (v := 48) hx hb dX6_step_122 (by decide) ?_
        refine lv_isub hx hb dX6_step_124 ?_
        refine zcVv (As := [.int (x1 - 48)]) (rest := []) (C := RX6) Cx (c_X6_readNumeral l G o0 d0 (x1 - 48) S0 _ hg) zv_X6_readNumeral q_334 ⟨⟨rfl, rfl⟩, Nat.le_of_ble_eq_true rfl, Nat.le_of_ble_eq_true rfl⟩ (zJ.all hP hD hS hA) hS 4 rfl rfl rfl rfl hl.1 rfl (Nat.le_of_ble_eq_true rfl) dX6_step_125 (fun S0_3 H locs hg hP hD hS => ?_)
        have hP : va_P G.1 classes (wX6 G o0 d0 S0_3) H := hP
        have hD : va_D A (wX6 G o0 d0 S0_3) := hD
        refine lv_goto (tgt := 166) hx hb dX6_step_128 (by decide) ?_
        exact hret _ _ (S0_3) _ _ hg hP hD hS dX6_step_166
  have J38 : ∀ (S0 : ZS) (H : Heap) (locs : List Loc) (ls : Array Slot), G_X6_step_38 Q S0 → va_P G.1 classes (wX6 G o0 d0 S0) H → va_D A (wX6 G o0 d0 S0) → va_S A s.heap H locs → lv_has ls 2 [(0, .ref o0)] → W p l e rm_X6_step s m args below meth c H locs 0 0 QQ (F0 m 38 ls []) := by
    intro S0 H locs ls hg hP hD hS hl
    refine lv_aload_n hx hb dX6_step_38 rfl (lv_at hl 0 rfl) ?_
    refine lv_aload_n hx hb dX6_step_39 rfl (lv_at hl 0 rfl) ?_
    refine va_get (D := G.1) (ci := 4) (v := .int (S0 4 0)) (C := RX6) (T := TX6) (N := 7) hx hb hT iX6 hown hK hP 0 rfl rfl 4 (by decide) (hT _ q_35) (fun _ h9 => h9) rfl dX6_step_40 ?_
    refine z_put (D := G.1) (ci := 4) (v := .int (S0 4 0)) (ty := .int) (C := RX6) (T := TX6) (N := 7) hx hb hT iX6 tyX6 tyX6_ok nmX6 hown hK hP hD hS 0 rfl rfl 3 (by decide) (hT _ q_33) (fun _ h9 => h9) rfl (by decide +kernel) rfl rfl (Nat.le_of_ble_eq_true rfl) dX6_step_43 (zst S0 3 0 (S0 4 0)) (fun S : ZS => wX6 G o0 d0 S) rfl (fun S0_1 H locs eS0_1 hP hD hS => ?_)
    have hg := hg S0_1 eS0_1
    refine lv_aload_n hx hb dX6_step_46 rfl (lv_at hl 0 rfl) ?_
    refine lv_iconst (v := 0) hx hb dX6_step_47 (by decide) ?_
    refine z_put (D := G.1) (ci := 4) (v := .int 0) (ty := .int) (C := RX6) (T := TX6) (N := 7) hx hb hT iX6 tyX6 tyX6_ok nmX6 hown hK hP hD hS 0 rfl rfl 5 (by decide) (hT _ q_36) (fun _ h9 => h9) rfl (by decide +kernel) rfl rfl (Nat.le_of_ble_eq_true rfl) dX6_step_48 (zst S0_1 5 0 0) (fun S : ZS => wX6 G o0 d0 S) rfl (fun S0_2 H locs eS0_2 hP hD hS => ?_)
    have hg := hg S0_2 eS0_2
    refine lv_aload_n hx hb dX6_step_51 rfl (lv_at hl 0 rfl) ?_
    refine va_get (D := G.1) (ci := 4) (v := .int (S0_2 3 0)) (C := RX6) (T := TX6) (N := 7) hx hb hT iX6 hown hK hP 0 rfl rfl 3 (by decide) (hT _ q_33) (fun _ h9 => h9) rfl dX6_step_52 ?_
    refine lv_aload_n hx hb dX6_step_55 rfl (lv_at hl 0 rfl) ?_
    refine va_get (D := G.1) (ci := 4) (v := .int (S0_2 1 0)) (C := RX6) (T := TX6) (N := 7) hx hb hT iX6 hown hK hP 0 rfl rfl 1 (by decide) (hT _ q_29) (fun _ h9 => h9) rfl dX6_step_56 ?_
    refine lv_icmp_lt (tgt := 68) hx hb dX6_step_59 (by decide) (fun c_3 => ?_) (fun c_3 => ?_)
    · have hg := hg.1 c_3
      refine lv_aload_n hx hb dX6_step_68 rfl (lv_at hl 0 rfl) ?_
      refine lv_dup hx hb dX6_step_69 rfl ?_
      refine va_get (D := G.1) (ci := 4) (v := .int (S0_2 4 0)) (C := RX6) (T := TX6) (N := 7) hx hb hT iX6 hown hK hP 0 rfl rfl 4 (by decide) (hT _ q_35) (fun _ h9 => h9) rfl dX6_step_70 ?_
      refine lv_iconst (v := 1) hx hb dX6_step_73 (by decide) ?_
      refine lv_iadd hx hb dX6_step_74 ?_
      refine z_put (D := G.1) (ci := 4) (v := .int ((S0_2 4 0) + 1)) (ty := .int) (C := RX6) (T := TX6) (N := 7) hx hb hT iX6 tyX6 tyX6_ok nmX6 hown hK hP hD hS 0 rfl rfl 4 (by decide) (hT _ q_35) (fun _ h9 => h9) rfl (by decide +kernel) rfl rfl (Nat.le_of_ble_eq_true rfl) dX6_step_75 (zst S0_2 4 0 ((S0_2 4 0) + 1)) (fun S : ZS => wX6 G o0 d0 S) rfl (fun S0_4 H locs eS0_4 hP hD hS => ?_)
      have hg := hg S0_4 eS0_4
      refine lv_aload_n hx hb dX6_step_78 rfl (lv_at hl 0 rfl) ?_
      refine va_get (D := G.1) (ci := 4) (v := .ref (d0 0)) (C := RX6) (T := TX6) (N := 7) hx hb hT iX6 hown hK hP 0 rfl rfl 0 (by decide) (hT _ q_27) (fun _ h9 => h9) rfl dX6_step_79 ?_
      refine lv_aload_n hx hb dX6_step_82 rfl (lv_at hl 0 rfl) ?_
      refine va_get (D := G.1) (ci := 4) (v := .int (S0_4 3 0)) (C := RX6) (T := TX6) (N := 7) hx hb hT iX6 hown hK hP 0 rfl rfl 3 (by decide) (hT _ q_33) (fun _ h9 => h9) rfl dX6_step_83 ?_
      refine va_iald hx hb hK hP 1 0 rfl rfl hg.1 dX6_step_86 ?_
      have hg := hg.2
      refine lv_topi (fun x1_5 ex1_5 => ?_)
      have hg := hg x1_5 ex1_5
      refine lv_istore_n (lv' := [(1, .int x1_5), (0, .ref o0)]) hx hb dX6_step_87 rfl hl (by decide) rfl (fun ls hl => ?_)
      refine lv_iload_n hx hb dX6_step_88 rfl (lv_at hl 0 rfl) ?_
      refine lv_bipush (v := 97) hx hb dX6_step_89 (by decide) ?_
      refine lv_icmp_lt (tgt := 108) hx hb dX6_step_91 (by decide) (fun c_6 => ?_) (fun c_6 => ?_)
      · have hg := hg.1 c_6
        exact J108 _ _ _ _ _ hg hP hD hS (lv_sub hl [1, 0] rfl)
      · have hg := hg.2 c_6
        refine lv_iload_n hx hb dX6_step_94 rfl (lv_at hl 0 rfl) ?_
        refine lv_bipush (v := 122) hx hb dX6_step_95 (by decide) ?_
        refine lv_icmp_gt (tgt := 108) hx hb dX6_step_97 (by decide) (fun c_7 => ?_) (fun c_7 => ?_)
        · have hg := hg.1 c_7
          exact J108 _ _ _ _ _ hg hP hD hS (lv_sub hl [1, 0] rfl)
        · have hg := hg.2 c_7
          refine lv_aload_n hx hb dX6_step_100 rfl (lv_at hl 1 rfl) ?_
          refine lv_iload_n hx hb dX6_step_101 rfl (lv_at hl 0 rfl) ?_
          refine zcVv (As := [.int x1_5]) (rest := []) (C := RX6) Cx (c_X6_readLetters l G o0 d0 x1_5 S0_4 _ hg) zv_X6_readLetters q_330 ⟨⟨rfl, rfl⟩, Nat.le_of_ble_eq_true rfl, Nat.le_of_ble_eq_true rfl⟩ (zJ.all hP hD hS hA) hS 4 rfl rfl rfl rfl hl.1 rfl (Nat.le_of_ble_eq_true rfl) dX6_step_102 (fun S0_8 H locs hg hP hD hS => ?_)
          have hP : va_P G.1 classes (wX6 G o0 d0 S0_8) H := hP
          have hD : va_D A (wX6 G o0 d0 S0_8) := hD
          refine lv_goto (tgt := 166) hx hb dX6_step_105 (by decide) ?_
          exact hret _ _ (S0_8) _ _ hg hP hD hS dX6_step_166
    · have hg := hg.2 c_3
      refine lv_aload_n hx hb dX6_step_62 rfl (lv_at hl 0 rfl) ?_
      refine lv_iconst (v := 0) hx hb dX6_step_63 (by decide) ?_
      refine z_put (D := G.1) (ci := 4) (v := .int 0) (ty := .int) (C := RX6) (T := TX6) (N := 7) hx hb hT iX6 tyX6 tyX6_ok nmX6 hown hK hP hD hS 0 rfl rfl 2 (by decide) (hT _ q_31) (fun _ h9 => h9) rfl (by decide +kernel) rfl rfl (Nat.le_of_ble_eq_true rfl) dX6_step_64 (zst S0_2 2 0 0) (fun S : ZS => wX6 G o0 d0 S) rfl (fun S0_9 H locs eS0_9 hP hD hS => ?_)
      have hg := hg S0_9 eS0_9
      exact hret _ _ (S0_9) _ _ hg hP hD hS dX6_step_67
  have L0 : ∀ (n : Nat) (S0 : ZS) (H : Heap) (locs : List Loc) (ls : Array Slot), fx (F_X6_step_0 Q) n S0 → va_P G.1 classes (wX6 G o0 d0 S0) H → va_D A (wX6 G o0 d0 S0) → va_S A s.heap H locs → lv_has ls 2 [(0, .ref o0)] → W p l e rm_X6_step s m args below meth c H locs 0 0 QQ (F0 m 0 ls []) := by
    intro n
    induction n with
    | zero => intro S0 H locs ls hg; exact hg.elim
    | succ n ih =>
      have hX0 := ih
      intro S0 H locs ls hg hP hD hS hl
      refine lv_aload_n hx hb dX6_step_0 rfl (lv_at hl 0 rfl) ?_
      refine va_get (D := G.1) (ci := 4) (v := .int (S0 4 0)) (C := RX6) (T := TX6) (N := 7) hx hb hT iX6 hown hK hP 0 rfl rfl 4 (by decide) (hT _ q_35) (fun _ h9 => h9) rfl dX6_step_1 ?_
      refine lv_aload_n hx hb dX6_step_4 rfl (lv_at hl 0 rfl) ?_
      refine va_get (D := G.1) (ci := 4) (v := .int (S0 1 0)) (C := RX6) (T := TX6) (N := 7) hx hb hT iX6 hown hK hP 0 rfl rfl 1 (by decide) (hT _ q_29) (fun _ h9 => h9) rfl dX6_step_5 ?_
      refine lv_icmp_ge (tgt := 38) hx hb dX6_step_8 (by decide) (fun c_1 => ?_) (fun c_1 => ?_)
      · have hg := hg.1 c_1
        exact J38 _ _ _ _ hg hP hD hS (lv_sub hl [0] rfl)
      · have hg := hg.2 c_1
        refine lv_aload_n hx hb dX6_step_11 rfl (lv_at hl 0 rfl) ?_
        refine va_get (D := G.1) (ci := 4) (v := .ref (d0 0)) (C := RX6) (T := TX6) (N := 7) hx hb hT iX6 hown hK hP 0 rfl rfl 0 (by decide) (hT _ q_27) (fun _ h9 => h9) rfl dX6_step_12 ?_
        refine lv_aload_n hx hb dX6_step_15 rfl (lv_at hl 0 rfl) ?_
        refine va_get (D := G.1) (ci := 4) (v := .int (S0 4 0)) (C := RX6) (T := TX6) (N := 7) hx hb hT iX6 hown hK hP 0 rfl rfl 4 (by decide) (hT _ q_35) (fun _ h9 => h9) rfl dX6_step_16 ?_
        refine va_iald hx hb hK hP 1 0 rfl rfl hg.1 dX6_step_19 ?_
        have hg := hg.2
        refine lv_bipush (v := 32) hx hb dX6_step_20 (by decide) ?_
        refine lv_icmp_ne (tgt := 38) hx hb dX6_step_22 (by decide) (fun c_2 => ?_) (fun c_2 => ?_)
        · have hg := hg.2 c_2
          exact J38 _ _ _ _ hg hP hD hS (lv_sub hl [0] rfl)
        · have hg := hg.1 c_2
          refine lv_aload_n hx hb dX6_step_25 rfl (lv_at hl 0 rfl) ?_
          refine lv_dup hx hb dX6_step_26 rfl ?_
          refine va_get (D := G.1) (ci := 4) (v := .int (S0 4 0)) (C := RX6) (T := TX6) (N := 7) hx hb hT iX6 hown hK hP 0 rfl rfl 4 (by decide) (hT _ q_35) (fun _ h9 => h9) rfl dX6_step_27 ?_
          refine lv_iconst (v := 1) hx hb dX6_step_30 (by decide) ?_
          refine lv_iadd hx hb dX6_step_31 ?_
          refine z_put (D := G.1) (ci := 4) (v := .int ((S0 4 0) + 1)) (ty := .int) (C := RX6) (T := TX6) (N := 7) hx hb hT iX6 tyX6 tyX6_ok nmX6 hown hK hP hD hS 0 rfl rfl 4 (by decide) (hT _ q_35) (fun _ h9 => h9) rfl (by decide +kernel) rfl rfl (Nat.le_of_ble_eq_true rfl) dX6_step_32 (zst S0 4 0 ((S0 4 0) + 1)) (fun S : ZS => wX6 G o0 d0 S) rfl (fun S0_3 H locs eS0_3 hP hD hS => ?_)
          have hg := hg S0_3 eS0_3
          refine lv_goto (tgt := 0) hx hb dX6_step_35 (by decide) ?_
          exact hX0 _ _ _ _ hg hP hD hS (lv_sub hl [0] rfl)
  obtain ⟨n, hg⟩ := hg
  exact L0 n _ _ _ _ hg hP hD hS (lv_sub hl [0] rfl)
theorem zv_X6_rewind : zV yX6_rewind RX6 cX6_rewind 1 none 0 := ⟨q_323, q_324, q_2, q_325, by decide +kernel⟩
set_option maxHeartbeats 4000000 in
set_option maxRecDepth 100000 in
theorem c_X6_rewind (l : Launch) (G : ZG) (o0 : Nat) (d0 : Nat → Nat) (S0 : ZS) (Q : ZS → Prop) (hg : g_X6_rewind S0 Q) : Kv l G yX6_rewind cX6_rewind 1 rm_X6_rewind [.ref o0] (wX6 G o0 d0 S0) (fun u : ZS => wX6 G o0 d0 u) (fun u => Q u) := by
  refine Kv.of (by decide) (Nat.le_of_ble_eq_true rfl) ?_
  intro p e s m args below meth c A QQ ls Cx hret hl hP hD hS
  obtain ⟨hx, hb, hml, hown, hT, hK, hA⟩ := id Cx
  have hl : lv_has ls 1 [(0, .ref o0)] := hl
  refine lv_aload_n hx hb dX6_rewind_0 rfl (lv_at hl 0 rfl) ?_
  refine lv_iconst (v := 0) hx hb dX6_rewind_1 (by decide) ?_
  refine z_put (D := G.1) (ci := 4) (v := .int 0) (ty := .boolean) (C := RX6) (T := TX6) (N := 7) hx hb hT iX6 tyX6 tyX6_ok nmX6 hown hK hP hD hS 0 rfl rfl 6 (by decide) (hT _ q_38) (fun _ h9 => h9) rfl (by decide +kernel) rfl rfl (Nat.le_of_ble_eq_true rfl) dX6_rewind_2 (zst S0 6 0 0) (fun S : ZS => wX6 G o0 d0 S) rfl (fun S0_1 H locs eS0_1 hP hD hS => ?_)
  have hg := hg S0_1 eS0_1
  refine lv_aload_n hx hb dX6_rewind_5 rfl (lv_at hl 0 rfl) ?_
  refine lv_iconst (v := 0) hx hb dX6_rewind_6 (by decide) ?_
  refine z_put (D := G.1) (ci := 4) (v := .int 0) (ty := .int) (C := RX6) (T := TX6) (N := 7) hx hb hT iX6 tyX6 tyX6_ok nmX6 hown hK hP hD hS 0 rfl rfl 4 (by decide) (hT _ q_35) (fun _ h9 => h9) rfl (by decide +kernel) rfl rfl (Nat.le_of_ble_eq_true rfl) dX6_rewind_7 (zst S0_1 4 0 0) (fun S : ZS => wX6 G o0 d0 S) rfl (fun S0_2 H locs eS0_2 hP hD hS => ?_)
  have hg := hg S0_2 eS0_2
  refine lv_aload_n hx hb dX6_rewind_10 rfl (lv_at hl 0 rfl) ?_
  refine zcVv (As := []) (rest := []) (C := RX6) Cx (c_X6_step l G o0 d0 S0_2 _ hg) zv_X6_step q_326 ⟨⟨rfl, rfl⟩, Nat.le_of_ble_eq_true rfl, Nat.le_of_ble_eq_true rfl⟩ (zJ.all hP hD hS hA) hS 4 rfl rfl rfl rfl hl.1 rfl (Nat.le_of_ble_eq_true rfl) dX6_rewind_11 (fun S0_3 H locs hg hP hD hS => ?_)
  have hP : va_P G.1 classes (wX6 G o0 d0 S0_3) H := hP
  have hD : va_D A (wX6 G o0 d0 S0_3) := hD
  exact hret _ _ (S0_3) _ _ hg hP hD hS dX6_rewind_14
theorem zv_X6_hasMore : zV yX6_hasMore RX6 cX6_hasMore 1 (some .boolean) 0 := ⟨q_342, q_343, q_2, q_344, by decide +kernel⟩
set_option maxHeartbeats 4000000 in
set_option maxRecDepth 100000 in
theorem c_X6_hasMore (l : Launch) (G : ZG) (o0 : Nat) (d0 : Nat → Nat) (S0 : ZS) (Q : Int32 → Prop) (hg : g_X6_hasMore S0 Q) : Ki l G yX6_hasMore cX6_hasMore 1 .boolean rm_X6_hasMore [.ref o0] (wX6 G o0 d0 S0) (fun _ : Unit => wX6 G o0 d0 S0) (fun r _ => Q r ) := by
  refine Ki.of (by decide) (Nat.le_of_ble_eq_true rfl) ?_
  intro p e s m args below meth c A QQ ls Cx hret hl hP hD hS
  obtain ⟨hx, hb, hml, hown, hT, hK, hA⟩ := id Cx
  have hl : lv_has ls 1 [(0, .ref o0)] := hl
  refine lv_aload_n hx hb dX6_hasMore_0 rfl (lv_at hl 0 rfl) ?_
  refine va_get (D := G.1) (ci := 4) (v := .int (S0 6 0)) (C := RX6) (T := TX6) (N := 7) hx hb hT iX6 hown hK hP 0 rfl rfl 6 (by decide) (hT _ q_38) (fun _ h9 => h9) rfl dX6_hasMore_1 ?_
  refine lv_if_ne (tgt := 18) hx hb dX6_hasMore_4 (by decide) (fun c_1 => ?_) (fun c_1 => ?_)
  · have hg := hg.2 c_1
    refine lv_iconst (v := 0) hx hb dX6_hasMore_18 (by decide) ?_
    exact hret _ _ _ () _ _ hg rfl hP hD hS dX6_hasMore_19
  · have hg := hg.1 c_1
    refine lv_aload_n hx hb dX6_hasMore_7 rfl (lv_at hl 0 rfl) ?_
    refine va_get (D := G.1) (ci := 4) (v := .int (S0 2 0)) (C := RX6) (T := TX6) (N := 7) hx hb hT iX6 hown hK hP 0 rfl rfl 2 (by decide) (hT _ q_31) (fun _ h9 => h9) rfl dX6_hasMore_8 ?_
    refine lv_if_eq (tgt := 18) hx hb dX6_hasMore_11 (by decide) (fun c_2 => ?_) (fun c_2 => ?_)
    · have hg := hg.1 c_2
      refine lv_iconst (v := 0) hx hb dX6_hasMore_18 (by decide) ?_
      exact hret _ _ _ () _ _ hg rfl hP hD hS dX6_hasMore_19
    · have hg := hg.2 c_2
      refine lv_iconst (v := 1) hx hb dX6_hasMore_14 (by decide) ?_
      refine lv_goto (tgt := 19) hx hb dX6_hasMore_15 (by decide) ?_
      exact hret _ _ _ () _ _ hg rfl hP hD hS dX6_hasMore_19
theorem zv_X4_hasName : zV yX4_hasName RX4 cX4_hasName 2 (some .boolean) 1 := ⟨q_361, q_362, q_3, q_363, by decide +kernel⟩
set_option maxHeartbeats 4000000 in
set_option maxRecDepth 100000 in
theorem c_X4_hasName (l : Launch) (G : ZG) (o0 : Nat) (d0 : Nat → Nat) (x1 : Int32) (S0 : ZS) (Q : Int32 → Prop) (hg : g_X4_hasName x1 S0 Q) : Ki l G yX4_hasName cX4_hasName 2 .boolean rm_X4_hasName [.ref o0, .int x1] (wX4 G o0 d0 S0) (fun _ : Unit => wX4 G o0 d0 S0) (fun r _ => Q r ) := by
  refine Ki.of (by decide) (Nat.le_of_ble_eq_true rfl) ?_
  intro p e s m args below meth c A QQ ls Cx hret hl hP hD hS
  obtain ⟨hx, hb, hml, hown, hT, hK, hA⟩ := id Cx
  have hl : lv_has ls 2 [(0, .ref o0), (1, .int x1)] := hl
  refine lv_iload_n hx hb dX4_hasName_0 rfl (lv_at hl 1 rfl) ?_
  refine lv_if_lt (tgt := 16) hx hb dX4_hasName_1 (by decide) (fun c_1 => ?_) (fun c_1 => ?_)
  · have hg := hg.1 c_1
    refine lv_iconst (v := 0) hx hb dX4_hasName_16 (by decide) ?_
    exact hret _ _ _ () _ _ hg rfl hP hD hS dX4_hasName_17
  · have hg := hg.2 c_1
    refine lv_iload_n hx hb dX4_hasName_4 rfl (lv_at hl 1 rfl) ?_
    refine lv_aload_n hx hb dX4_hasName_5 rfl (lv_at hl 0 rfl) ?_
    refine va_get (D := G.1) (ci := 3) (v := .int (S0 1 0)) (C := RX4) (T := TX4) (N := 17) hx hb hT iX4 hown hK hP 0 rfl rfl 1 (by decide) (hT _ q_65) (fun _ h9 => h9) rfl dX4_hasName_6 ?_
    refine lv_icmp_ge (tgt := 16) hx hb dX4_hasName_9 (by decide) (fun c_2 => ?_) (fun c_2 => ?_)
    · have hg := hg.1 c_2
      refine lv_iconst (v := 0) hx hb dX4_hasName_16 (by decide) ?_
      exact hret _ _ _ () _ _ hg rfl hP hD hS dX4_hasName_17
    · have hg := hg.2 c_2
      refine lv_iconst (v := 1) hx hb dX4_hasName_12 (by decide) ?_
      refine lv_goto (tgt := 17) hx hb dX4_hasName_13 (by decide) ?_
      exact hret _ _ _ () _ _ hg rfl hP hD hS dX4_hasName_17
theorem zv_X4_isMade : zV yX4_isMade RX4 cX4_isMade 3 (some .boolean) 2 := ⟨q_357, q_358, q_3, q_359, by decide +kernel⟩
set_option maxHeartbeats 4000000 in
set_option maxRecDepth 100000 in
theorem c_X4_isMade (l : Launch) (G : ZG) (o0 : Nat) (d0 : Nat → Nat) (x1 : Int32) (x2 : Int32) (S0 : ZS) (Q : Int32 → Prop) (hg : g_X4_isMade x1 x2 S0 Q) : Ki l G yX4_isMade cX4_isMade 3 .boolean rm_X4_isMade [.ref o0, .int x1, .int x2] (wX4 G o0 d0 S0) (fun _ : Unit => wX4 G o0 d0 S0) (fun r _ => Q r ) := by
  refine Ki.of (by decide) (Nat.le_of_ble_eq_true rfl) ?_
  intro p e s m args below meth c A QQ ls Cx hret hl hP hD hS
  obtain ⟨hx, hb, hml, hown, hT, hK, hA⟩ := id Cx
  have hl : lv_has ls 3 [(0, .ref o0), (1, .int x1), (2, .int x2)] := hl
  refine lv_aload_n hx hb dX4_isMade_0 rfl (lv_at hl 0 rfl) ?_
  refine lv_iload_n hx hb dX4_isMade_1 rfl (lv_at hl 1 rfl) ?_
  refine zcVi (As := [.int x1]) (rest := []) (C := RX4) Cx (c_X4_hasName l G o0 d0 x1 S0 _ hg) zv_X4_hasName q_360 ⟨⟨rfl, rfl⟩, Nat.le_of_ble_eq_true rfl, Nat.le_of_ble_eq_true rfl⟩ (zJ.all hP hD hS hA) hS 3 rfl rfl rfl rfl hl.1 rfl (Nat.le_of_ble_eq_true rfl) dX4_isMade_2 (fun r_1 _u H locs hg hP hD hS => ?_)
  refine lv_if_eq (tgt := 22) hx hb dX4_isMade_5 (by decide) (fun c_2 => ?_) (fun c_2 => ?_)
  · have hg := hg.1 c_2
    refine lv_iconst (v := 0) hx hb dX4_isMade_22 (by decide) ?_
    exact hret _ _ _ () _ _ hg rfl hP hD hS dX4_isMade_23
  · have hg := hg.2 c_2
    refine lv_aload_n hx hb dX4_isMade_8 rfl (lv_at hl 0 rfl) ?_
    refine va_get (D := G.1) (ci := 3) (v := .ref (d0 3)) (C := RX4) (T := TX4) (N := 17) hx hb hT iX4 hown hK hP 0 rfl rfl 3 (by decide) (hT _ q_71) (fun _ h9 => h9) rfl dX4_isMade_9 ?_
    refine lv_iload_n hx hb dX4_isMade_12 rfl (lv_at hl 1 rfl) ?_
    refine va_iald hx hb hK hP 2 0 rfl rfl hg.1 dX4_isMade_13 ?_
    have hg := hg.2
    refine lv_iload_n hx hb dX4_isMade_14 rfl (lv_at hl 2 rfl) ?_
    refine lv_icmp_ne (tgt := 22) hx hb dX4_isMade_15 (by decide) (fun c_3 => ?_) (fun c_3 => ?_)
    · have hg := hg.2 c_3
      refine lv_iconst (v := 0) hx hb dX4_isMade_22 (by decide) ?_
      exact hret _ _ _ () _ _ hg rfl hP hD hS dX4_isMade_23
    · have hg := hg.1 c_3
      refine lv_iconst (v := 1) hx hb dX4_isMade_18 (by decide) ?_
      refine lv_goto (tgt := 23) hx hb dX4_isMade_19 (by decide) ?_
      exact hret _ _ _ () _ _ hg rfl hP hD hS dX4_isMade_23
theorem zv_X4_admitsJoin : zV yX4_admitsJoin RX4 cX4_admitsJoin 1 (some .boolean) 0 := ⟨q_353, q_354, q_3, q_355, by decide +kernel⟩
set_option maxHeartbeats 4000000 in
set_option maxRecDepth 100000 in
theorem c_X4_admitsJoin (l : Launch) (G : ZG) (o0 : Nat) (d0 : Nat → Nat) (S0 : ZS) (Q : Int32 → Prop) (hg : g_X4_admitsJoin S0 Q) : Ki l G yX4_admitsJoin cX4_admitsJoin 1 .boolean rm_X4_admitsJoin [.ref o0] (wX4 G o0 d0 S0) (fun _ : Unit => wX4 G o0 d0 S0) (fun r _ => Q r ) := by
  refine Ki.of (by decide) (Nat.le_of_ble_eq_true rfl) ?_
  intro p e s m args below meth c A QQ ls Cx hret hl hP hD hS
  obtain ⟨hx, hb, hml, hown, hT, hK, hA⟩ := id Cx
  have hl : lv_has ls 1 [(0, .ref o0)] := hl
  refine lv_aload_n hx hb dX4_admitsJoin_0 rfl (lv_at hl 0 rfl) ?_
  refine va_get (D := G.1) (ci := 3) (v := .int (S0 0 0)) (C := RX4) (T := TX4) (N := 17) hx hb hT iX4 hown hK hP 0 rfl rfl 0 (by decide) (hT _ q_62) (fun _ h9 => h9) rfl dX4_admitsJoin_1 ?_
  refine lv_iconst (v := 1) hx hb dX4_admitsJoin_4 (by decide) ?_
  refine lv_icmp_le (tgt := 40) hx hb dX4_admitsJoin_5 (by decide) (fun c_1 => ?_) (fun c_1 => ?_)
  · have hg := hg.1 c_1
    refine lv_iconst (v := 0) hx hb dX4_admitsJoin_40 (by decide) ?_
    exact hret _ _ _ () _ _ hg rfl hP hD hS dX4_admitsJoin_41
  · have hg := hg.2 c_1
    refine lv_aload_n hx hb dX4_admitsJoin_8 rfl (lv_at hl 0 rfl) ?_
    refine va_get (D := G.1) (ci := 3) (v := .ref (d0 12)) (C := RX4) (T := TX4) (N := 17) hx hb hT iX4 hown hK hP 0 rfl rfl 12 (by decide) (hT _ q_104) (fun _ h9 => h9) rfl dX4_admitsJoin_9 ?_
    refine lv_aload_n hx hb dX4_admitsJoin_12 rfl (lv_at hl 0 rfl) ?_
    refine va_get (D := G.1) (ci := 3) (v := .int (S0 0 0)) (C := RX4) (T := TX4) (N := 17) hx hb hT iX4 hown hK hP 0 rfl rfl 0 (by decide) (hT _ q_62) (fun _ h9 => h9) rfl dX4_admitsJoin_13 ?_
    refine lv_iconst (v := 1) hx hb dX4_admitsJoin_16 (by decide) ?_
    refine lv_isub hx hb dX4_admitsJoin_17 ?_
    refine va_iald hx hb hK hP 11 0 rfl rfl hg.1 dX4_admitsJoin_18 ?_
    have hg := hg.2
    refine lv_if_eq (tgt := 36) hx hb dX4_admitsJoin_19 (by decide) (fun c_2 => ?_) (fun c_2 => ?_)
    · have hg := hg.1 c_2
      refine lv_iconst (v := 1) hx hb dX4_admitsJoin_36 (by decide) ?_
      refine lv_goto (tgt := 41) hx hb dX4_admitsJoin_37 (by decide) ?_
      exact hret _ _ _ () _ _ hg rfl hP hD hS dX4_admitsJoin_41
    · have hg := hg.2 c_2
      refine lv_aload_n hx hb dX4_admitsJoin_22 rfl (lv_at hl 0 rfl) ?_
      refine lv_aload_n hx hb dX4_admitsJoin_23 rfl (lv_at hl 0 rfl) ?_
      refine va_get (D := G.1) (ci := 3) (v := .int (S0 1 0)) (C := RX4) (T := TX4) (N := 17) hx hb hT iX4 hown hK hP 0 rfl rfl 1 (by decide) (hT _ q_65) (fun _ h9 => h9) rfl dX4_admitsJoin_24 ?_
      refine lv_iconst (v := 1) hx hb dX4_admitsJoin_27 (by decide) ?_
      refine lv_isub hx hb dX4_admitsJoin_28 ?_
      refine lv_iconst (v := 3) hx hb dX4_admitsJoin_29 (by decide) ?_
      refine zcVi (As := [.int ((S0 1 0) - 1), .int 3]) (rest := []) (C := RX4) Cx (c_X4_isMade l G o0 d0 ((S0 1 0) - 1) 3 S0 _ hg) zv_X4_isMade q_356 ⟨⟨rfl, rfl⟩, Nat.le_of_ble_eq_true rfl, Nat.le_of_ble_eq_true rfl⟩ (zJ.all hP hD hS hA) hS 3 rfl rfl rfl rfl hl.1 rfl (Nat.le_of_ble_eq_true rfl) dX4_admitsJoin_30 (fun r_3 _u H locs hg hP hD hS => ?_)
      refine lv_if_eq (tgt := 40) hx hb dX4_admitsJoin_33 (by decide) (fun c_4 => ?_) (fun c_4 => ?_)
      · have hg := hg.1 c_4
        refine lv_iconst (v := 0) hx hb dX4_admitsJoin_40 (by decide) ?_
        exact hret _ _ _ () _ _ hg rfl hP hD hS dX4_admitsJoin_41
      · have hg := hg.2 c_4
        refine lv_iconst (v := 1) hx hb dX4_admitsJoin_36 (by decide) ?_
        refine lv_goto (tgt := 41) hx hb dX4_admitsJoin_37 (by decide) ?_
        exact hret _ _ _ () _ _ hg rfl hP hD hS dX4_admitsJoin_41
theorem zv_X4_admits : zV yX4_admits RX4 cX4_admits 3 (some .boolean) 1 := ⟨q_349, q_350, q_3, q_351, by decide +kernel⟩
set_option maxHeartbeats 4000000 in
set_option maxRecDepth 100000 in
theorem c_X4_admits (l : Launch) (G : ZG) (o0 : Nat) (d0 : Nat → Nat) (x1 : Int32) (S0 : ZS) (Q : Int32 → Prop) (hg : g_X4_admits x1 S0 Q) : Ki l G yX4_admits cX4_admits 3 .boolean rm_X4_admits [.ref o0, .int x1] (wX4 G o0 d0 S0) (fun _ : Unit => wX4 G o0 d0 S0) (fun r _ => Q r ) := by
  refine Ki.of (by decide) (Nat.le_of_ble_eq_true rfl) ?_
  intro p e s m args below meth c A QQ ls Cx hret hl hP hD hS
  obtain ⟨hx, hb, hml, hown, hT, hK, hA⟩ := id Cx
  have hl : lv_has ls 3 [(0, .ref o0), (1, .int x1)] := hl
  have J163 : ∀ (x2 : Int32) (H : Heap) (locs : List Loc) (ls : Array Slot), G_X4_admits_163 x1 S0 Q x2 → va_P G.1 classes (wX4 G o0 d0 S0) H → va_D A (wX4 G o0 d0 S0) → va_S A s.heap H locs → lv_has ls 3 [(0, .ref o0), (2, .int x2)] → W p l e rm_X4_admits s m args below meth c H locs 0 0 QQ (F0 m 163 ls []) := by
    intro x2 H locs ls hg hP hD hS hl
    refine lv_iload_n hx hb dX4_admits_163 rfl (lv_at hl 1 rfl) ?_
    refine lv_if_eq (tgt := 180) hx hb dX4_admits_164 (by decide) (fun c_1 => ?_) (fun c_1 => ?_)
    · have hg := hg.1 c_1
      refine lv_iconst (v := 0) hx hb dX4_admits_180 (by decide) ?_
      exact hret _ _ _ () _ _ hg rfl hP hD hS dX4_admits_181
    · have hg := hg.2 c_1
      refine lv_aload_n hx hb dX4_admits_167 rfl (lv_at hl 0 rfl) ?_
      refine va_get (D := G.1) (ci := 3) (v := .int (S0 1 0)) (C := RX4) (T := TX4) (N := 17) hx hb hT iX4 hown hK hP 0 rfl rfl 1 (by decide) (hT _ q_65) (fun _ h9 => h9) rfl dX4_admits_168 ?_
      refine lv_bipush (v := 24) hx hb dX4_admits_171 (by decide) ?_
      refine lv_icmp_ge (tgt := 180) hx hb dX4_admits_173 (by decide) (fun c_2 => ?_) (fun c_2 => ?_)
      · have hg := hg.1 c_2
        refine lv_iconst (v := 0) hx hb dX4_admits_180 (by decide) ?_
        exact hret _ _ _ () _ _ hg rfl hP hD hS dX4_admits_181
      · have hg := hg.2 c_2
        refine lv_iconst (v := 1) hx hb dX4_admits_176 (by decide) ?_
        refine lv_goto (tgt := 181) hx hb dX4_admits_177 (by decide) ?_
        exact hret _ _ _ () _ _ hg rfl hP hD hS dX4_admits_181
  have J27 : ∀ (t0 : Int32) (H : Heap) (locs : List Loc) (ls : Array Slot), G_X4_admits_27 x1 S0 Q t0 → va_P G.1 classes (wX4 G o0 d0 S0) H → va_D A (wX4 G o0 d0 S0) → va_S A s.heap H locs → lv_has ls 3 [(0, .ref o0), (1, .int x1)] → W p l e rm_X4_admits s m args below meth c H locs 0 0 QQ (F0 m 27 ls [.int t0]) := by
    intro t0 H locs ls hg hP hD hS hl
    refine lv_istore_n (lv' := [(2, .int t0), (0, .ref o0), (1, .int x1)]) hx hb dX4_admits_27 rfl hl (by decide) rfl (fun ls hl => ?_)
    refine lv_iload_n hx hb dX4_admits_28 rfl (lv_at hl 2 rfl) ?_
    by_cases k98 : x1 = 98
    · have hg := hg.1 k98
      refine lv_tableIn (tgt := 144) hx hb dX4_admits_29 (by rw [k98]; decide) (by rw [k98]; decide) (by rw [k98]; rfl) (by decide) ?_
      refine lv_iload_n hx hb dX4_admits_144 rfl (lv_at hl 0 rfl) ?_
      refine lv_if_ne (tgt := 161) hx hb dX4_admits_145 (by decide) (fun c_1 => ?_) (fun c_1 => ?_)
      · have hg := hg.2 c_1
        refine lv_iconst (v := 0) hx hb dX4_admits_161 (by decide) ?_
        exact hret _ _ _ () _ _ hg rfl hP hD hS dX4_admits_162
      · have hg := hg.1 c_1
        refine lv_aload_n hx hb dX4_admits_148 rfl (lv_at hl 1 rfl) ?_
        refine va_get (D := G.1) (ci := 3) (v := .int (S0 0 0)) (C := RX4) (T := TX4) (N := 17) hx hb hT iX4 hown hK hP 0 rfl rfl 0 (by decide) (hT _ q_62) (fun _ h9 => h9) rfl dX4_admits_149 ?_
        refine lv_bipush (v := 8) hx hb dX4_admits_152 (by decide) ?_
        refine lv_icmp_ge (tgt := 161) hx hb dX4_admits_154 (by decide) (fun c_2 => ?_) (fun c_2 => ?_)
        · have hg := hg.1 c_2
          refine lv_iconst (v := 0) hx hb dX4_admits_161 (by decide) ?_
          exact hret _ _ _ () _ _ hg rfl hP hD hS dX4_admits_162
        · have hg := hg.2 c_2
          refine lv_iconst (v := 1) hx hb dX4_admits_157 (by decide) ?_
          refine lv_goto (tgt := 162) hx hb dX4_admits_158 (by decide) ?_
          exact hret _ _ _ () _ _ hg rfl hP hD hS dX4_admits_162
    by_cases k99 : x1 = 99
    · have hg := hg.2.2.2.2.2.2.2.2 (by rw [k99]; decide) (by rw [k99]; decide) (by rw [k99]; decide) (by rw [k99]; decide) (by rw [k99]; decide) (by rw [k99]; decide) (by rw [k99]; decide) (by rw [k99]; decide)
      refine lv_tableIn (tgt := 210) hx hb dX4_admits_29 (by rw [k99]; decide) (by rw [k99]; decide) (by rw [k99]; rfl) (by decide) ?_
      refine lv_iconst (v := 0) hx hb dX4_admits_210 (by decide) ?_
      exact hret _ _ _ () _ _ hg rfl hP hD hS dX4_admits_211
    by_cases k100 : x1 = 100
    · have hg := hg.2.2.2.2.2.2.2.2 (by rw [k100]; decide) (by rw [k100]; decide) (by rw [k100]; decide) (by rw [k100]; decide) (by rw [k100]; decide) (by rw [k100]; decide) (by rw [k100]; decide) (by rw [k100]; decide)
      refine lv_tableIn (tgt := 210) hx hb dX4_admits_29 (by rw [k100]; decide) (by rw [k100]; decide) (by rw [k100]; rfl) (by decide) ?_
      refine lv_iconst (v := 0) hx hb dX4_admits_210 (by decide) ?_
      exact hret _ _ _ () _ _ hg rfl hP hD hS dX4_admits_211
    by_cases k101 : x1 = 101
    · have hg := hg.2.2.2.2.2.2.2.2 (by rw [k101]; decide) (by rw [k101]; decide) (by rw [k101]; decide) (by rw [k101]; decide) (by rw [k101]; decide) (by rw [k101]; decide) (by rw [k101]; decide) (by rw [k101]; decide)
      refine lv_tableIn (tgt := 210) hx hb dX4_admits_29 (by rw [k101]; decide) (by rw [k101]; decide) (by rw [k101]; rfl) (by decide) ?_
      refine lv_iconst (v := 0) hx hb dX4_admits_210 (by decide) ?_
      exact hret _ _ _ () _ _ hg rfl hP hD hS dX4_admits_211
    by_cases k102 : x1 = 102
    · have hg := hg.2.2.2.2.2.2.2.2 (by rw [k102]; decide) (by rw [k102]; decide) (by rw [k102]; decide) (by rw [k102]; decide) (by rw [k102]; decide) (by rw [k102]; decide) (by rw [k102]; decide) (by rw [k102]; decide)
      refine lv_tableIn (tgt := 210) hx hb dX4_admits_29 (by rw [k102]; decide) (by rw [k102]; decide) (by rw [k102]; rfl) (by decide) ?_
      refine lv_iconst (v := 0) hx hb dX4_admits_210 (by decide) ?_
      exact hret _ _ _ () _ _ hg rfl hP hD hS dX4_admits_211
    by_cases k103 : x1 = 103
    · have hg := hg.2.1 k103
      refine lv_tableIn (tgt := 208) hx hb dX4_admits_29 (by rw [k103]; decide) (by rw [k103]; decide) (by rw [k103]; rfl) (by decide) ?_
      refine lv_iload_n hx hb dX4_admits_208 rfl (lv_at hl 0 rfl) ?_
      exact hret _ _ _ () _ _ hg.2 hg.1.nar hP hD hS dX4_admits_209
    by_cases k104 : x1 = 104
    · have hg := hg.2.2.2.2.2.2.2.2 (by rw [k104]; decide) (by rw [k104]; decide) (by rw [k104]; decide) (by rw [k104]; decide) (by rw [k104]; decide) (by rw [k104]; decide) (by rw [k104]; decide) (by rw [k104]; decide)
      refine lv_tableIn (tgt := 210) hx hb dX4_admits_29 (by rw [k104]; decide) (by rw [k104]; decide) (by rw [k104]; rfl) (by decide) ?_
      refine lv_iconst (v := 0) hx hb dX4_admits_210 (by decide) ?_
      exact hret _ _ _ () _ _ hg rfl hP hD hS dX4_admits_211
    by_cases k105 : x1 = 105
    · have hg := hg.2.2.1 k105
      refine lv_tableIn (tgt := 163) hx hb dX4_admits_29 (by rw [k105]; decide) (by rw [k105]; decide) (by rw [k105]; rfl) (by decide) ?_
      exact J163 _ _ _ _ hg hP hD hS (lv_sub hl [1, 0] rfl)
    by_cases k106 : x1 = 106
    · have hg := hg.2.2.2.1 k106
      refine lv_tableIn (tgt := 182) hx hb dX4_admits_29 (by rw [k106]; decide) (by rw [k106]; decide) (by rw [k106]; rfl) (by decide) ?_
      refine lv_iload_n hx hb dX4_admits_182 rfl (lv_at hl 0 rfl) ?_
      refine lv_if_eq (tgt := 206) hx hb dX4_admits_183 (by decide) (fun c_3 => ?_) (fun c_3 => ?_)
      · have hg := hg.1 c_3
        refine lv_iconst (v := 0) hx hb dX4_admits_206 (by decide) ?_
        exact hret _ _ _ () _ _ hg rfl hP hD hS dX4_admits_207
      · have hg := hg.2 c_3
        refine lv_aload_n hx hb dX4_admits_186 rfl (lv_at hl 1 rfl) ?_
        refine va_get (D := G.1) (ci := 3) (v := .int (S0 1 0)) (C := RX4) (T := TX4) (N := 17) hx hb hT iX4 hown hK hP 0 rfl rfl 1 (by decide) (hT _ q_65) (fun _ h9 => h9) rfl dX4_admits_187 ?_
        refine lv_bipush (v := 24) hx hb dX4_admits_190 (by decide) ?_
        refine lv_icmp_ge (tgt := 206) hx hb dX4_admits_192 (by decide) (fun c_4 => ?_) (fun c_4 => ?_)
        · have hg := hg.1 c_4
          refine lv_iconst (v := 0) hx hb dX4_admits_206 (by decide) ?_
          exact hret _ _ _ () _ _ hg rfl hP hD hS dX4_admits_207
        · have hg := hg.2 c_4
          refine lv_aload_n hx hb dX4_admits_195 rfl (lv_at hl 1 rfl) ?_
          refine zcVi (As := []) (rest := []) (C := RX4) Cx (c_X4_admitsJoin l G o0 d0 S0 _ hg) zv_X4_admitsJoin q_352 ⟨⟨rfl, rfl⟩, Nat.le_of_ble_eq_true rfl, Nat.le_of_ble_eq_true rfl⟩ (zJ.all hP hD hS hA) hS 3 rfl rfl rfl rfl hl.1 rfl (Nat.le_of_ble_eq_true rfl) dX4_admits_196 (fun r_5 _u H locs hg hP hD hS => ?_)
          refine lv_if_eq (tgt := 206) hx hb dX4_admits_199 (by decide) (fun c_6 => ?_) (fun c_6 => ?_)
          · have hg := hg.1 c_6
            refine lv_iconst (v := 0) hx hb dX4_admits_206 (by decide) ?_
            exact hret _ _ _ () _ _ hg rfl hP hD hS dX4_admits_207
          · have hg := hg.2 c_6
            refine lv_iconst (v := 1) hx hb dX4_admits_202 (by decide) ?_
            refine lv_goto (tgt := 207) hx hb dX4_admits_203 (by decide) ?_
            exact hret _ _ _ () _ _ hg rfl hP hD hS dX4_admits_207
    by_cases k107 : x1 = 107
    · have hg := hg.2.2.2.2.1 k107
      refine lv_tableIn (tgt := 163) hx hb dX4_admits_29 (by rw [k107]; decide) (by rw [k107]; decide) (by rw [k107]; rfl) (by decide) ?_
      exact J163 _ _ _ _ hg hP hD hS (lv_sub hl [1, 0] rfl)
    by_cases k108 : x1 = 108
    · have hg := hg.2.2.2.2.2.2.2.2 (by rw [k108]; decide) (by rw [k108]; decide) (by rw [k108]; decide) (by rw [k108]; decide) (by rw [k108]; decide) (by rw [k108]; decide) (by rw [k108]; decide) (by rw [k108]; decide)
      refine lv_tableIn (tgt := 210) hx hb dX4_admits_29 (by rw [k108]; decide) (by rw [k108]; decide) (by rw [k108]; rfl) (by decide) ?_
      refine lv_iconst (v := 0) hx hb dX4_admits_210 (by decide) ?_
      exact hret _ _ _ () _ _ hg rfl hP hD hS dX4_admits_211
    by_cases k109 : x1 = 109
    · have hg := hg.2.2.2.2.2.2.2.2 (by rw [k109]; decide) (by rw [k109]; decide) (by rw [k109]; decide) (by rw [k109]; decide) (by rw [k109]; decide) (by rw [k109]; decide) (by rw [k109]; decide) (by rw [k109]; decide)
      refine lv_tableIn (tgt := 210) hx hb dX4_admits_29 (by rw [k109]; decide) (by rw [k109]; decide) (by rw [k109]; rfl) (by decide) ?_
      refine lv_iconst (v := 0) hx hb dX4_admits_210 (by decide) ?_
      exact hret _ _ _ () _ _ hg rfl hP hD hS dX4_admits_211
    by_cases k110 : x1 = 110
    · have hg := hg.2.2.2.2.2.2.2.2 (by rw [k110]; decide) (by rw [k110]; decide) (by rw [k110]; decide) (by rw [k110]; decide) (by rw [k110]; decide) (by rw [k110]; decide) (by rw [k110]; decide) (by rw [k110]; decide)
      refine lv_tableIn (tgt := 210) hx hb dX4_admits_29 (by rw [k110]; decide) (by rw [k110]; decide) (by rw [k110]; rfl) (by decide) ?_
      refine lv_iconst (v := 0) hx hb dX4_admits_210 (by decide) ?_
      exact hret _ _ _ () _ _ hg rfl hP hD hS dX4_admits_211
    by_cases k111 : x1 = 111
    · have hg := hg.2.2.2.2.2.1 k111
      refine lv_tableIn (tgt := 163) hx hb dX4_admits_29 (by rw [k111]; decide) (by rw [k111]; decide) (by rw [k111]; rfl) (by decide) ?_
      exact J163 _ _ _ _ hg hP hD hS (lv_sub hl [1, 0] rfl)
    by_cases k112 : x1 = 112
    · have hg := hg.2.2.2.2.2.2.2.2 (by rw [k112]; decide) (by rw [k112]; decide) (by rw [k112]; decide) (by rw [k112]; decide) (by rw [k112]; decide) (by rw [k112]; decide) (by rw [k112]; decide) (by rw [k112]; decide)
      refine lv_tableIn (tgt := 210) hx hb dX4_admits_29 (by rw [k112]; decide) (by rw [k112]; decide) (by rw [k112]; rfl) (by decide) ?_
      refine lv_iconst (v := 0) hx hb dX4_admits_210 (by decide) ?_
      exact hret _ _ _ () _ _ hg rfl hP hD hS dX4_admits_211
    by_cases k113 : x1 = 113
    · have hg := hg.2.2.2.2.2.2.1 k113
      refine lv_tableIn (tgt := 208) hx hb dX4_admits_29 (by rw [k113]; decide) (by rw [k113]; decide) (by rw [k113]; rfl) (by decide) ?_
      refine lv_iload_n hx hb dX4_admits_208 rfl (lv_at hl 0 rfl) ?_
      exact hret _ _ _ () _ _ hg.2 hg.1.nar hP hD hS dX4_admits_209
    by_cases k114 : x1 = 114
    · have hg := hg.2.2.2.2.2.2.2.2 (by rw [k114]; decide) (by rw [k114]; decide) (by rw [k114]; decide) (by rw [k114]; decide) (by rw [k114]; decide) (by rw [k114]; decide) (by rw [k114]; decide) (by rw [k114]; decide)
      refine lv_tableIn (tgt := 210) hx hb dX4_admits_29 (by rw [k114]; decide) (by rw [k114]; decide) (by rw [k114]; rfl) (by decide) ?_
      refine lv_iconst (v := 0) hx hb dX4_admits_210 (by decide) ?_
      exact hret _ _ _ () _ _ hg rfl hP hD hS dX4_admits_211
    by_cases k115 : x1 = 115
    · have hg := hg.2.2.2.2.2.2.2.2 (by rw [k115]; decide) (by rw [k115]; decide) (by rw [k115]; decide) (by rw [k115]; decide) (by rw [k115]; decide) (by rw [k115]; decide) (by rw [k115]; decide) (by rw [k115]; decide)
      refine lv_tableIn (tgt := 210) hx hb dX4_admits_29 (by rw [k115]; decide) (by rw [k115]; decide) (by rw [k115]; rfl) (by decide) ?_
      refine lv_iconst (v := 0) hx hb dX4_admits_210 (by decide) ?_
      exact hret _ _ _ () _ _ hg rfl hP hD hS dX4_admits_211
    by_cases k116 : x1 = 116
    · have hg := hg.2.2.2.2.2.2.2.2 (by rw [k116]; decide) (by rw [k116]; decide) (by rw [k116]; decide) (by rw [k116]; decide) (by rw [k116]; decide) (by rw [k116]; decide) (by rw [k116]; decide) (by rw [k116]; decide)
      refine lv_tableIn (tgt := 210) hx hb dX4_admits_29 (by rw [k116]; decide) (by rw [k116]; decide) (by rw [k116]; rfl) (by decide) ?_
      refine lv_iconst (v := 0) hx hb dX4_admits_210 (by decide) ?_
      exact hret _ _ _ () _ _ hg rfl hP hD hS dX4_admits_211
    by_cases k117 : x1 = 117
    · have hg := hg.2.2.2.2.2.2.2.2 (by rw [k117]; decide) (by rw [k117]; decide) (by rw [k117]; decide) (by rw [k117]; decide) (by rw [k117]; decide) (by rw [k117]; decide) (by rw [k117]; decide) (by rw [k117]; decide)
      refine lv_tableIn (tgt := 210) hx hb dX4_admits_29 (by rw [k117]; decide) (by rw [k117]; decide) (by rw [k117]; rfl) (by decide) ?_
      refine lv_iconst (v := 0) hx hb dX4_admits_210 (by decide) ?_
      exact hret _ _ _ () _ _ hg rfl hP hD hS dX4_admits_211
    by_cases k118 : x1 = 118
    · have hg := hg.2.2.2.2.2.2.2.2 (by rw [k118]; decide) (by rw [k118]; decide) (by rw [k118]; decide) (by rw [k118]; decide) (by rw [k118]; decide) (by rw [k118]; decide) (by rw [k118]; decide) (by rw [k118]; decide)
      refine lv_tableIn (tgt := 210) hx hb dX4_admits_29 (by rw [k118]; decide) (by rw [k118]; decide) (by rw [k118]; rfl) (by decide) ?_
      refine lv_iconst (v := 0) hx hb dX4_admits_210 (by decide) ?_
      exact hret _ _ _ () _ _ hg rfl hP hD hS dX4_admits_211
    by_cases k119 : x1 = 119
    · have hg := hg.2.2.2.2.2.2.2.2 (by rw [k119]; decide) (by rw [k119]; decide) (by rw [k119]; decide) (by rw [k119]; decide) (by rw [k119]; decide) (by rw [k119]; decide) (by rw [k119]; decide) (by rw [k119]; decide)
      refine lv_tableIn (tgt := 210) hx hb dX4_admits_29 (by rw [k119]; decide) (by rw [k119]; decide) (by rw [k119]; rfl) (by decide) ?_
      refine lv_iconst (v := 0) hx hb dX4_admits_210 (by decide) ?_
      exact hret _ _ _ () _ _ hg rfl hP hD hS dX4_admits_211
    by_cases k120 : x1 = 120
    · have hg := hg.2.2.2.2.2.2.2.2 (by rw [k120]; decide) (by rw [k120]; decide) (by rw [k120]; decide) (by rw [k120]; decide) (by rw [k120]; decide) (by rw [k120]; decide) (by rw [k120]; decide) (by rw [k120]; decide)
      refine lv_tableIn (tgt := 210) hx hb dX4_admits_29 (by rw [k120]; decide) (by rw [k120]; decide) (by rw [k120]; rfl) (by decide) ?_
      refine lv_iconst (v := 0) hx hb dX4_admits_210 (by decide) ?_
      exact hret _ _ _ () _ _ hg rfl hP hD hS dX4_admits_211
    by_cases k121 : x1 = 121
    · have hg := hg.2.2.2.2.2.2.2.2 (by rw [k121]; decide) (by rw [k121]; decide) (by rw [k121]; decide) (by rw [k121]; decide) (by rw [k121]; decide) (by rw [k121]; decide) (by rw [k121]; decide) (by rw [k121]; decide)
      refine lv_tableIn (tgt := 210) hx hb dX4_admits_29 (by rw [k121]; decide) (by rw [k121]; decide) (by rw [k121]; rfl) (by decide) ?_
      refine lv_iconst (v := 0) hx hb dX4_admits_210 (by decide) ?_
      exact hret _ _ _ () _ _ hg rfl hP hD hS dX4_admits_211
    by_cases k122 : x1 = 122
    · have hg := hg.2.2.2.2.2.2.2.1 k122
      refine lv_tableIn (tgt := 208) hx hb dX4_admits_29 (by rw [k122]; decide) (by rw [k122]; decide) (by rw [k122]; rfl) (by decide) ?_
      refine lv_iload_n hx hb dX4_admits_208 rfl (lv_at hl 0 rfl) ?_
      exact hret _ _ _ () _ _ hg.2 hg.1.nar hP hD hS dX4_admits_209
    have hg := hg.2.2.2.2.2.2.2.2 k98 k103 k105 k106 k107 k111 k113 k122
    have nk98 := lv_neT k98 (a := 98) (by decide)
    have nk99 := lv_neT k99 (a := 99) (by decide)
    have nk100 := lv_neT k100 (a := 100) (by decide)
    have nk101 := lv_neT k101 (a := 101) (by decide)
    have nk102 := lv_neT k102 (a := 102) (by decide)
    have nk103 := lv_neT k103 (a := 103) (by decide)
    have nk104 := lv_neT k104 (a := 104) (by decide)
    have nk105 := lv_neT k105 (a := 105) (by decide)
    have nk106 := lv_neT k106 (a := 106) (by decide)
    have nk107 := lv_neT k107 (a := 107) (by decide)
    have nk108 := lv_neT k108 (a := 108) (by decide)
    have nk109 := lv_neT k109 (a := 109) (by decide)
    have nk110 := lv_neT k110 (a := 110) (by decide)
    have nk111 := lv_neT k111 (a := 111) (by decide)
    have nk112 := lv_neT k112 (a := 112) (by decide)
    have nk113 := lv_neT k113 (a := 113) (by decide)
    have nk114 := lv_neT k114 (a := 114) (by decide)
    have nk115 := lv_neT k115 (a := 115) (by decide)
    have nk116 := lv_neT k116 (a := 116) (by decide)
    have nk117 := lv_neT k117 (a := 117) (by decide)
    have nk118 := lv_neT k118 (a := 118) (by decide)
    have nk119 := lv_neT k119 (a := 119) (by decide)
    have nk120 := lv_neT k120 (a := 120) (by decide)
    have nk121 := lv_neT k121 (a := 121) (by decide)
    have nk122 := lv_neT k122 (a := 122) (by decide)
    refine lv_tableOut (tgt := 210) hx hb dX4_admits_29 (by omega) (by decide) ?_
    refine lv_iconst (v := 0) hx hb dX4_admits_210 (by decide) ?_
    exact hret _ _ _ () _ _ hg rfl hP hD hS dX4_admits_211
  have J26 : ∀ (H : Heap) (locs : List Loc) (ls : Array Slot), G_X4_admits_26 x1 S0 Q  → va_P G.1 classes (wX4 G o0 d0 S0) H → va_D A (wX4 G o0 d0 S0) → va_S A s.heap H locs → lv_has ls 3 [(0, .ref o0), (1, .int x1)] → W p l e rm_X4_admits s m args below meth c H locs 0 0 QQ (F0 m 26 ls []) := by
    intro  H locs ls hg hP hD hS hl
    refine lv_iconst (v := 0) hx hb dX4_admits_26 (by decide) ?_
    exact J27 _ _ _ _ hg hP hD hS (lv_sub hl [0, 1] rfl)
  refine lv_aload_n hx hb dX4_admits_0 rfl (lv_at hl 0 rfl) ?_
  refine va_get (D := G.1) (ci := 3) (v := .int (S0 0 0)) (C := RX4) (T := TX4) (N := 17) hx hb hT iX4 hown hK hP 0 rfl rfl 0 (by decide) (hT _ q_62) (fun _ h9 => h9) rfl dX4_admits_1 ?_
  refine lv_if_le (tgt := 26) hx hb dX4_admits_4 (by decide) (fun c_1 => ?_) (fun c_1 => ?_)
  · have hg := hg.1 c_1
    exact J26  _ _ _ hg hP hD hS (lv_sub hl [0, 1] rfl)
  · have hg := hg.2 c_1
    refine lv_aload_n hx hb dX4_admits_7 rfl (lv_at hl 0 rfl) ?_
    refine va_get (D := G.1) (ci := 3) (v := .ref (d0 13)) (C := RX4) (T := TX4) (N := 17) hx hb hT iX4 hown hK hP 0 rfl rfl 13 (by decide) (hT _ q_108) (fun _ h9 => h9) rfl dX4_admits_8 ?_
    refine lv_aload_n hx hb dX4_admits_11 rfl (lv_at hl 0 rfl) ?_
    refine va_get (D := G.1) (ci := 3) (v := .int (S0 0 0)) (C := RX4) (T := TX4) (N := 17) hx hb hT iX4 hown hK hP 0 rfl rfl 0 (by decide) (hT _ q_62) (fun _ h9 => h9) rfl dX4_admits_12 ?_
    refine lv_iconst (v := 1) hx hb dX4_admits_15 (by decide) ?_
    refine lv_isub hx hb dX4_admits_16 ?_
    refine va_iald hx hb hK hP 12 0 rfl rfl hg.1 dX4_admits_17 ?_
    have hg := hg.2
    refine lv_iconst (v := (-1)) hx hb dX4_admits_18 (by decide) ?_
    refine lv_icmp_ne (tgt := 26) hx hb dX4_admits_19 (by decide) (fun c_2 => ?_) (fun c_2 => ?_)
    · have hg := hg.2 c_2
      exact J26  _ _ _ hg hP hD hS (lv_sub hl [0, 1] rfl)
    · have hg := hg.1 c_2
      refine lv_iconst (v := 1) hx hb dX4_admits_22 (by decide) ?_
      refine lv_goto (tgt := 27) hx hb dX4_admits_23 (by decide) ?_
      exact J27 _ _ _ _ hg hP hD hS (lv_sub hl [0, 1] rfl)
theorem zv_X4_beginBlock : zV yX4_beginBlock RX4 cX4_beginBlock 2 none 0 := ⟨q_366, q_367, q_3, q_368, by decide +kernel⟩
set_option maxHeartbeats 4000000 in
set_option maxRecDepth 100000 in
theorem c_X4_beginBlock (l : Launch) (G : ZG) (o0 : Nat) (d0 : Nat → Nat) (S0 : ZS) (Q : ZS → Prop) (hg : g_X4_beginBlock S0 Q) : Kv l G yX4_beginBlock cX4_beginBlock 2 rm_X4_beginBlock [.ref o0] (wX4 G o0 d0 S0) (fun u : ZS => wX4 G o0 d0 u) (fun u => Q u) := by
  refine Kv.of (by decide) (Nat.le_of_ble_eq_true rfl) ?_
  intro p e s m args below meth c A QQ ls Cx hret hl hP hD hS
  obtain ⟨hx, hb, hml, hown, hT, hK, hA⟩ := id Cx
  have hl : lv_has ls 2 [(0, .ref o0)] := hl
  refine lv_aload_n hx hb dX4_beginBlock_0 rfl (lv_at hl 0 rfl) ?_
  refine va_get (D := G.1) (ci := 3) (v := .int (S0 0 0)) (C := RX4) (T := TX4) (N := 17) hx hb hT iX4 hown hK hP 0 rfl rfl 0 (by decide) (hT _ q_62) (fun _ h9 => h9) rfl dX4_beginBlock_1 ?_
  refine lv_istore_n (lv' := [(1, .int (S0 0 0)), (0, .ref o0)]) hx hb dX4_beginBlock_4 rfl hl (by decide) rfl (fun ls hl => ?_)
  refine lv_aload_n hx hb dX4_beginBlock_5 rfl (lv_at hl 1 rfl) ?_
  refine va_get (D := G.1) (ci := 3) (v := .ref (d0 11)) (C := RX4) (T := TX4) (N := 17) hx hb hT iX4 hown hK hP 0 rfl rfl 11 (by decide) (hT _ q_101) (fun _ h9 => h9) rfl dX4_beginBlock_6 ?_
  refine lv_iload_n hx hb dX4_beginBlock_9 rfl (lv_at hl 0 rfl) ?_
  refine lv_aload_n hx hb dX4_beginBlock_10 rfl (lv_at hl 1 rfl) ?_
  refine va_get (D := G.1) (ci := 3) (v := .int (S0 1 0)) (C := RX4) (T := TX4) (N := 17) hx hb hT iX4 hown hK hP 0 rfl rfl 1 (by decide) (hT _ q_65) (fun _ h9 => h9) rfl dX4_beginBlock_11 ?_
  refine z_iast hx hb hK hP hD hS 10 0 rfl rfl hg.1 dX4_beginBlock_14 (zst S0 11 (S0 0 0).toNatClampNeg (S0 1 0)) (fun S : ZS => wX4 G o0 d0 S) rfl (fun S0_1 H locs eS0_1 hP hD hS => ?_)
  have hg := hg.2 S0_1 eS0_1
  refine lv_aload_n hx hb dX4_beginBlock_15 rfl (lv_at hl 1 rfl) ?_
  refine va_get (D := G.1) (ci := 3) (v := .ref (d0 12)) (C := RX4) (T := TX4) (N := 17) hx hb hT iX4 hown hK hP 0 rfl rfl 12 (by decide) (hT _ q_104) (fun _ h9 => h9) rfl dX4_beginBlock_16 ?_
  refine lv_iload_n hx hb dX4_beginBlock_19 rfl (lv_at hl 0 rfl) ?_
  refine lv_iconst (v := 0) hx hb dX4_beginBlock_20 (by decide) ?_
  refine z_iast hx hb hK hP hD hS 11 0 rfl rfl hg.1 dX4_beginBlock_21 (zst S0_1 12 (S0 0 0).toNatClampNeg 0) (fun S : ZS => wX4 G o0 d0 S) rfl (fun S0_2 H locs eS0_2 hP hD hS => ?_)
  have hg := hg.2 S0_2 eS0_2
  refine lv_aload_n hx hb dX4_beginBlock_22 rfl (lv_at hl 1 rfl) ?_
  refine va_get (D := G.1) (ci := 3) (v := .ref (d0 13)) (C := RX4) (T := TX4) (N := 17) hx hb hT iX4 hown hK hP 0 rfl rfl 13 (by decide) (hT _ q_108) (fun _ h9 => h9) rfl dX4_beginBlock_23 ?_
  refine lv_iload_n hx hb dX4_beginBlock_26 rfl (lv_at hl 0 rfl) ?_
  refine lv_iconst (v := (-1)) hx hb dX4_beginBlock_27 (by decide) ?_
  refine z_iast hx hb hK hP hD hS 12 0 rfl rfl hg.1 dX4_beginBlock_28 (zst S0_2 13 (S0 0 0).toNatClampNeg (-1)) (fun S : ZS => wX4 G o0 d0 S) rfl (fun S0_3 H locs eS0_3 hP hD hS => ?_)
  have hg := hg.2 S0_3 eS0_3
  refine lv_aload_n hx hb dX4_beginBlock_29 rfl (lv_at hl 1 rfl) ?_
  refine va_get (D := G.1) (ci := 3) (v := .ref (d0 14)) (C := RX4) (T := TX4) (N := 17) hx hb hT iX4 hown hK hP 0 rfl rfl 14 (by decide) (hT _ q_112) (fun _ h9 => h9) rfl dX4_beginBlock_30 ?_
  refine lv_iload_n hx hb dX4_beginBlock_33 rfl (lv_at hl 0 rfl) ?_
  refine lv_bipush (v := (-9)) hx hb dX4_beginBlock_34 (by decide) ?_
  refine z_iast hx hb hK hP hD hS 13 0 rfl rfl hg.1 dX4_beginBlock_36 (zst S0_3 14 (S0 0 0).toNatClampNeg (-9)) (fun S : ZS => wX4 G o0 d0 S) rfl (fun S0_4 H locs eS0_4 hP hD hS => ?_)
  have hg := hg.2 S0_4 eS0_4
  refine lv_aload_n hx hb dX4_beginBlock_37 rfl (lv_at hl 1 rfl) ?_
  refine va_get (D := G.1) (ci := 3) (v := .ref (d0 15)) (C := RX4) (T := TX4) (N := 17) hx hb hT iX4 hown hK hP 0 rfl rfl 15 (by decide) (hT _ q_117) (fun _ h9 => h9) rfl dX4_beginBlock_38 ?_
  refine lv_iconst (v := 2) hx hb dX4_beginBlock_41 (by decide) ?_
  refine lv_iload_n hx hb dX4_beginBlock_42 rfl (lv_at hl 0 rfl) ?_
  refine lv_imul hx hb dX4_beginBlock_43 ?_
  refine lv_bipush (v := (-9)) hx hb dX4_beginBlock_44 (by decide) ?_
  refine z_iast hx hb hK hP hD hS 14 0 rfl rfl hg.1 dX4_beginBlock_46 (zst S0_4 15 (2 * (S0 0 0)).toNatClampNeg (-9)) (fun S : ZS => wX4 G o0 d0 S) rfl (fun S0_5 H locs eS0_5 hP hD hS => ?_)
  have hg := hg.2 S0_5 eS0_5
  refine lv_aload_n hx hb dX4_beginBlock_47 rfl (lv_at hl 1 rfl) ?_
  refine va_get (D := G.1) (ci := 3) (v := .ref (d0 15)) (C := RX4) (T := TX4) (N := 17) hx hb hT iX4 hown hK hP 0 rfl rfl 15 (by decide) (hT _ q_117) (fun _ h9 => h9) rfl dX4_beginBlock_48 ?_
  refine lv_iconst (v := 2) hx hb dX4_beginBlock_51 (by decide) ?_
  refine lv_iload_n hx hb dX4_beginBlock_52 rfl (lv_at hl 0 rfl) ?_
  refine lv_imul hx hb dX4_beginBlock_53 ?_
  refine lv_iconst (v := 1) hx hb dX4_beginBlock_54 (by decide) ?_
  refine lv_iadd hx hb dX4_beginBlock_55 ?_
  refine lv_bipush (v := (-9)) hx hb dX4_beginBlock_56 (by decide) ?_
  refine z_iast hx hb hK hP hD hS 14 0 rfl rfl hg.1 dX4_beginBlock_58 (zst S0_5 15 ((2 * (S0 0 0)) + 1).toNatClampNeg (-9)) (fun S : ZS => wX4 G o0 d0 S) rfl (fun S0_6 H locs eS0_6 hP hD hS => ?_)
  have hg := hg.2 S0_6 eS0_6
  refine lv_aload_n hx hb dX4_beginBlock_59 rfl (lv_at hl 1 rfl) ?_
  refine lv_dup hx hb dX4_beginBlock_60 rfl ?_
  refine va_get (D := G.1) (ci := 3) (v := .int (S0_6 0 0)) (C := RX4) (T := TX4) (N := 17) hx hb hT iX4 hown hK hP 0 rfl rfl 0 (by decide) (hT _ q_62) (fun _ h9 => h9) rfl dX4_beginBlock_61 ?_
  refine lv_iconst (v := 1) hx hb dX4_beginBlock_64 (by decide) ?_
  refine lv_iadd hx hb dX4_beginBlock_65 ?_
  refine z_put (D := G.1) (ci := 3) (v := .int ((S0_6 0 0) + 1)) (ty := .int) (C := RX4) (T := TX4) (N := 17) hx hb hT iX4 tyX4 tyX4_ok nmX4 hown hK hP hD hS 0 rfl rfl 0 (by decide) (hT _ q_62) (fun _ h9 => h9) rfl (by decide +kernel) rfl rfl (Nat.le_of_ble_eq_true rfl) dX4_beginBlock_66 (zst S0_6 0 0 ((S0_6 0 0) + 1)) (fun S : ZS => wX4 G o0 d0 S) rfl (fun S0_7 H locs eS0_7 hP hD hS => ?_)
  have hg := hg S0_7 eS0_7
  exact hret _ _ (S0_7) _ _ hg hP hD hS dX4_beginBlock_69
theorem zv_X4_addName : zV yX4_addName RX4 cX4_addName 3 (some .int) 1 := ⟨q_370, q_371, q_3, q_372, by decide +kernel⟩
set_option maxHeartbeats 4000000 in
set_option maxRecDepth 100000 in
theorem c_X4_addName (l : Launch) (G : ZG) (o0 : Nat) (d0 : Nat → Nat) (x1 : Int32) (S0 : ZS) (Q : Int32 → ZS → Prop) (hg : g_X4_addName x1 S0 Q) : Ki l G yX4_addName cX4_addName 3 .int rm_X4_addName [.ref o0, .int x1] (wX4 G o0 d0 S0) (fun u : ZS => wX4 G o0 d0 u) (fun r u => Q r u) := by
  refine Ki.of (by decide) (Nat.le_of_ble_eq_true rfl) ?_
  intro p e s m args below meth c A QQ ls Cx hret hl hP hD hS
  obtain ⟨hx, hb, hml, hown, hT, hK, hA⟩ := id Cx
  have hl : lv_has ls 3 [(0, .ref o0), (1, .int x1)] := hl
  refine lv_aload_n hx hb dX4_addName_0 rfl (lv_at hl 0 rfl) ?_
  refine va_get (D := G.1) (ci := 3) (v := .int (S0 1 0)) (C := RX4) (T := TX4) (N := 17) hx hb hT iX4 hown hK hP 0 rfl rfl 1 (by decide) (hT _ q_65) (fun _ h9 => h9) rfl dX4_addName_1 ?_
  refine lv_istore_n (lv' := [(2, .int (S0 1 0)), (0, .ref o0), (1, .int x1)]) hx hb dX4_addName_4 rfl hl (by decide) rfl (fun ls hl => ?_)
  refine lv_aload_n hx hb dX4_addName_5 rfl (lv_at hl 1 rfl) ?_
  refine va_get (D := G.1) (ci := 3) (v := .ref (d0 2)) (C := RX4) (T := TX4) (N := 17) hx hb hT iX4 hown hK hP 0 rfl rfl 2 (by decide) (hT _ q_68) (fun _ h9 => h9) rfl dX4_addName_6 ?_
  refine lv_iload_n hx hb dX4_addName_9 rfl (lv_at hl 0 rfl) ?_
  refine lv_aload_n hx hb dX4_addName_10 rfl (lv_at hl 1 rfl) ?_
  refine va_get (D := G.1) (ci := 3) (v := .int (S0 0 0)) (C := RX4) (T := TX4) (N := 17) hx hb hT iX4 hown hK hP 0 rfl rfl 0 (by decide) (hT _ q_62) (fun _ h9 => h9) rfl dX4_addName_11 ?_
  refine lv_iconst (v := 1) hx hb dX4_addName_14 (by decide) ?_
  refine lv_isub hx hb dX4_addName_15 ?_
  refine z_iast hx hb hK hP hD hS 1 0 rfl rfl hg.1 dX4_addName_16 (zst S0 2 (S0 1 0).toNatClampNeg ((S0 0 0) - 1)) (fun S : ZS => wX4 G o0 d0 S) rfl (fun S0_1 H locs eS0_1 hP hD hS => ?_)
  have hg := hg.2 S0_1 eS0_1
  refine lv_aload_n hx hb dX4_addName_17 rfl (lv_at hl 1 rfl) ?_
  refine va_get (D := G.1) (ci := 3) (v := .ref (d0 3)) (C := RX4) (T := TX4) (N := 17) hx hb hT iX4 hown hK hP 0 rfl rfl 3 (by decide) (hT _ q_71) (fun _ h9 => h9) rfl dX4_addName_18 ?_
  refine lv_iload_n hx hb dX4_addName_21 rfl (lv_at hl 0 rfl) ?_
  refine lv_iload_n hx hb dX4_addName_22 rfl (lv_at hl 2 rfl) ?_
  refine z_iast hx hb hK hP hD hS 2 0 rfl rfl hg.1 dX4_addName_23 (zst S0_1 3 (S0 1 0).toNatClampNeg x1) (fun S : ZS => wX4 G o0 d0 S) rfl (fun S0_2 H locs eS0_2 hP hD hS => ?_)
  have hg := hg.2 S0_2 eS0_2
  refine lv_aload_n hx hb dX4_addName_24 rfl (lv_at hl 1 rfl) ?_
  refine va_get (D := G.1) (ci := 3) (v := .ref (d0 4)) (C := RX4) (T := TX4) (N := 17) hx hb hT iX4 hown hK hP 0 rfl rfl 4 (by decide) (hT _ q_75) (fun _ h9 => h9) rfl dX4_addName_25 ?_
  refine lv_iload_n hx hb dX4_addName_28 rfl (lv_at hl 0 rfl) ?_
  refine lv_iconst (v := 0) hx hb dX4_addName_29 (by decide) ?_
  refine z_iast hx hb hK hP hD hS 3 0 rfl rfl hg.1 dX4_addName_30 (zst S0_2 4 (S0 1 0).toNatClampNeg 0) (fun S : ZS => wX4 G o0 d0 S) rfl (fun S0_3 H locs eS0_3 hP hD hS => ?_)
  have hg := hg.2 S0_3 eS0_3
  refine lv_aload_n hx hb dX4_addName_31 rfl (lv_at hl 1 rfl) ?_
  refine va_get (D := G.1) (ci := 3) (v := .ref (d0 5)) (C := RX4) (T := TX4) (N := 17) hx hb hT iX4 hown hK hP 0 rfl rfl 5 (by decide) (hT _ q_78) (fun _ h9 => h9) rfl dX4_addName_32 ?_
  refine lv_iload_n hx hb dX4_addName_35 rfl (lv_at hl 0 rfl) ?_
  refine lv_iconst (v := 0) hx hb dX4_addName_36 (by decide) ?_
  refine z_iast hx hb hK hP hD hS 4 0 rfl rfl hg.1 dX4_addName_37 (zst S0_3 5 (S0 1 0).toNatClampNeg 0) (fun S : ZS => wX4 G o0 d0 S) rfl (fun S0_4 H locs eS0_4 hP hD hS => ?_)
  have hg := hg.2 S0_4 eS0_4
  refine lv_aload_n hx hb dX4_addName_38 rfl (lv_at hl 1 rfl) ?_
  refine va_get (D := G.1) (ci := 3) (v := .ref (d0 6)) (C := RX4) (T := TX4) (N := 17) hx hb hT iX4 hown hK hP 0 rfl rfl 6 (by decide) (hT _ q_83) (fun _ h9 => h9) rfl dX4_addName_39 ?_
  refine lv_iload_n hx hb dX4_addName_42 rfl (lv_at hl 0 rfl) ?_
  refine lv_bipush (v := (-9)) hx hb dX4_addName_43 (by decide) ?_
  refine z_iast hx hb hK hP hD hS 5 0 rfl rfl hg.1 dX4_addName_45 (zst S0_4 6 (S0 1 0).toNatClampNeg (-9)) (fun S : ZS => wX4 G o0 d0 S) rfl (fun S0_5 H locs eS0_5 hP hD hS => ?_)
  have hg := hg.2 S0_5 eS0_5
  refine lv_aload_n hx hb dX4_addName_46 rfl (lv_at hl 1 rfl) ?_
  refine va_get (D := G.1) (ci := 3) (v := .ref (d0 7)) (C := RX4) (T := TX4) (N := 17) hx hb hT iX4 hown hK hP 0 rfl rfl 7 (by decide) (hT _ q_88) (fun _ h9 => h9) rfl dX4_addName_47 ?_
  refine lv_iload_n hx hb dX4_addName_50 rfl (lv_at hl 0 rfl) ?_
  refine lv_bipush (v := (-9)) hx hb dX4_addName_51 (by decide) ?_
  refine z_iast hx hb hK hP hD hS 6 0 rfl rfl hg.1 dX4_addName_53 (zst S0_5 7 (S0 1 0).toNatClampNeg (-9)) (fun S : ZS => wX4 G o0 d0 S) rfl (fun S0_6 H locs eS0_6 hP hD hS => ?_)
  have hg := hg.2 S0_6 eS0_6
  refine lv_aload_n hx hb dX4_addName_54 rfl (lv_at hl 1 rfl) ?_
  refine va_get (D := G.1) (ci := 3) (v := .ref (d0 8)) (C := RX4) (T := TX4) (N := 17) hx hb hT iX4 hown hK hP 0 rfl rfl 8 (by decide) (hT _ q_93) (fun _ h9 => h9) rfl dX4_addName_55 ?_
  refine lv_iload_n hx hb dX4_addName_58 rfl (lv_at hl 0 rfl) ?_
  refine lv_iconst (v := 0) hx hb dX4_addName_59 (by decide) ?_
  refine z_iast hx hb hK hP hD hS 7 0 rfl rfl hg.1 dX4_addName_60 (zst S0_6 8 (S0 1 0).toNatClampNeg 0) (fun S : ZS => wX4 G o0 d0 S) rfl (fun S0_7 H locs eS0_7 hP hD hS => ?_)
  have hg := hg.2 S0_7 eS0_7
  refine lv_aload_n hx hb dX4_addName_61 rfl (lv_at hl 1 rfl) ?_
  refine lv_dup hx hb dX4_addName_62 rfl ?_
  refine va_get (D := G.1) (ci := 3) (v := .int (S0_7 1 0)) (C := RX4) (T := TX4) (N := 17) hx hb hT iX4 hown hK hP 0 rfl rfl 1 (by decide) (hT _ q_65) (fun _ h9 => h9) rfl dX4_addName_63 ?_
  refine lv_iconst (v := 1) hx hb dX4_addName_66 (by decide) ?_
  refine lv_iadd hx hb dX4_addName_67 ?_
  refine z_put (D := G.1) (ci := 3) (v := .int ((S0_7 1 0) + 1)) (ty := .int) (C := RX4) (T := TX4) (N := 17) hx hb hT iX4 tyX4 tyX4_ok nmX4 hown hK hP hD hS 0 rfl rfl 1 (by decide) (hT _ q_65) (fun _ h9 => h9) rfl (by decide +kernel) rfl rfl (Nat.le_of_ble_eq_true rfl) dX4_addName_68 (zst S0_7 1 0 ((S0_7 1 0) + 1)) (fun S : ZS => wX4 G o0 d0 S) rfl (fun S0_8 H locs eS0_8 hP hD hS => ?_)
  have hg := hg S0_8 eS0_8
  refine lv_aload_n hx hb dX4_addName_71 rfl (lv_at hl 1 rfl) ?_
  refine va_get (D := G.1) (ci := 3) (v := .ref (d0 12)) (C := RX4) (T := TX4) (N := 17) hx hb hT iX4 hown hK hP 0 rfl rfl 12 (by decide) (hT _ q_104) (fun _ h9 => h9) rfl dX4_addName_72 ?_
  refine lv_aload_n hx hb dX4_addName_75 rfl (lv_at hl 1 rfl) ?_
  refine va_get (D := G.1) (ci := 3) (v := .int (S0_8 0 0)) (C := RX4) (T := TX4) (N := 17) hx hb hT iX4 hown hK hP 0 rfl rfl 0 (by decide) (hT _ q_62) (fun _ h9 => h9) rfl dX4_addName_76 ?_
  refine lv_iconst (v := 1) hx hb dX4_addName_79 (by decide) ?_
  refine lv_isub hx hb dX4_addName_80 ?_
  refine lv_dup2_11 hx hb dX4_addName_81 rfl rfl ?_
  refine va_iald hx hb hK hP 11 0 rfl rfl hg.1 dX4_addName_82 ?_
  have hg := hg.2
  refine lv_iconst (v := 1) hx hb dX4_addName_83 (by decide) ?_
  refine lv_iadd hx hb dX4_addName_84 ?_
  refine z_iast hx hb hK hP hD hS 11 0 rfl rfl hg.1 dX4_addName_85 (zst S0_8 12 ((S0_8 0 0) - 1).toNatClampNeg ((S0_8 12 ((S0_8 0 0) - 1).toNatClampNeg) + 1)) (fun S : ZS => wX4 G o0 d0 S) rfl (fun S0_9 H locs eS0_9 hP hD hS => ?_)
  have hg := hg.2 S0_9 eS0_9
  refine lv_iload_n hx hb dX4_addName_86 rfl (lv_at hl 0 rfl) ?_
  exact hret _ _ _ (S0_9) _ _ hg rfl hP hD hS dX4_addName_87
theorem zv_X6_take : zV yX6_take RX6 cX6_take 4 (some .int) 2 := ⟨q_377, q_378, q_2, q_379, by decide +kernel⟩
set_option maxHeartbeats 4000000 in
set_option maxRecDepth 100000 in
theorem c_X6_take (l : Launch) (G : ZG) (o0 : Nat) (d0 : Nat → Nat) (x1 : Int32) (x2 : Int32) (S0 : ZS) (Q : Int32 → ZS → Prop) (hg : g_X6_take x1 x2 S0 Q) : Ki l G yX6_take cX6_take 4 .int rm_X6_take [.ref o0, .int x1, .int x2] (wX6 G o0 d0 S0) (fun u : ZS => wX6 G o0 d0 u) (fun r u => Q r u) := by
  refine Ki.of (by decide) (Nat.le_of_ble_eq_true rfl) ?_
  intro p e s m args below meth c A QQ ls Cx hret hl hP hD hS
  obtain ⟨hx, hb, hml, hown, hT, hK, hA⟩ := id Cx
  have hl : lv_has ls 4 [(0, .ref o0), (1, .int x1), (2, .int x2)] := hl
  refine lv_aload_n hx hb dX6_take_0 rfl (lv_at hl 0 rfl) ?_
  refine va_get (D := G.1) (ci := 4) (v := .int (S0 6 0)) (C := RX6) (T := TX6) (N := 7) hx hb hT iX6 hown hK hP 0 rfl rfl 6 (by decide) (hT _ q_38) (fun _ h9 => h9) rfl dX6_take_1 ?_
  refine lv_if_ne (tgt := 23) hx hb dX6_take_4 (by decide) (fun c_1 => ?_) (fun c_1 => ?_)
  · have hg := hg.2 c_1
    refine lv_aload_n hx hb dX6_take_23 rfl (lv_at hl 0 rfl) ?_
    refine lv_iconst (v := 1) hx hb dX6_take_24 (by decide) ?_
    refine z_put (D := G.1) (ci := 4) (v := .int 1) (ty := .boolean) (C := RX6) (T := TX6) (N := 7) hx hb hT iX6 tyX6 tyX6_ok nmX6 hown hK hP hD hS 0 rfl rfl 6 (by decide) (hT _ q_38) (fun _ h9 => h9) rfl (by decide +kernel) rfl rfl (Nat.le_of_ble_eq_true rfl) dX6_take_25 (zst S0 6 0 1) (fun S : ZS => wX6 G o0 d0 S) rfl (fun S0_2 H locs eS0_2 hP hD hS => ?_)
    have hg := hg S0_2 eS0_2
    refine lv_iconst (v := 0) hx hb dX6_take_28 (by decide) ?_
    exact hret _ _ _ (S0_2) _ _ hg rfl hP hD hS dX6_take_29
  · have hg := hg.1 c_1
    refine lv_aload_n hx hb dX6_take_7 rfl (lv_at hl 0 rfl) ?_
    refine va_get (D := G.1) (ci := 4) (v := .int (S0 2 0)) (C := RX6) (T := TX6) (N := 7) hx hb hT iX6 hown hK hP 0 rfl rfl 2 (by decide) (hT _ q_31) (fun _ h9 => h9) rfl dX6_take_8 ?_
    refine lv_iload_n hx hb dX6_take_11 rfl (lv_at hl 1 rfl) ?_
    refine lv_icmp_ne (tgt := 23) hx hb dX6_take_12 (by decide) (fun c_3 => ?_) (fun c_3 => ?_)
    · have hg := hg.2 c_3
      refine lv_aload_n hx hb dX6_take_23 rfl (lv_at hl 0 rfl) ?_
      refine lv_iconst (v := 1) hx hb dX6_take_24 (by decide) ?_
      refine z_put (D := G.1) (ci := 4) (v := .int 1) (ty := .boolean) (C := RX6) (T := TX6) (N := 7) hx hb hT iX6 tyX6 tyX6_ok nmX6 hown hK hP hD hS 0 rfl rfl 6 (by decide) (hT _ q_38) (fun _ h9 => h9) rfl (by decide +kernel) rfl rfl (Nat.le_of_ble_eq_true rfl) dX6_take_25 (zst S0 6 0 1) (fun S : ZS => wX6 G o0 d0 S) rfl (fun S0_4 H locs eS0_4 hP hD hS => ?_)
      have hg := hg S0_4 eS0_4
      refine lv_iconst (v := 0) hx hb dX6_take_28 (by decide) ?_
      exact hret _ _ _ (S0_4) _ _ hg rfl hP hD hS dX6_take_29
    · have hg := hg.1 c_3
      refine lv_aload_n hx hb dX6_take_15 rfl (lv_at hl 0 rfl) ?_
      refine va_get (D := G.1) (ci := 4) (v := .int (S0 5 0)) (C := RX6) (T := TX6) (N := 7) hx hb hT iX6 hown hK hP 0 rfl rfl 5 (by decide) (hT _ q_36) (fun _ h9 => h9) rfl dX6_take_16 ?_
      refine lv_iload_n hx hb dX6_take_19 rfl (lv_at hl 2 rfl) ?_
      refine lv_icmp_lt (tgt := 30) hx hb dX6_take_20 (by decide) (fun c_5 => ?_) (fun c_5 => ?_)
      · have hg := hg.1 c_5
        refine lv_aload_n hx hb dX6_take_30 rfl (lv_at hl 0 rfl) ?_
        refine va_get (D := G.1) (ci := 4) (v := .int (S0 5 0)) (C := RX6) (T := TX6) (N := 7) hx hb hT iX6 hown hK hP 0 rfl rfl 5 (by decide) (hT _ q_36) (fun _ h9 => h9) rfl dX6_take_31 ?_
        refine lv_istore_n (lv' := [(3, .int (S0 5 0)), (0, .ref o0), (1, .int x1), (2, .int x2)]) hx hb dX6_take_34 rfl hl (by decide) rfl (fun ls hl => ?_)
        refine lv_aload_n hx hb dX6_take_35 rfl (lv_at hl 1 rfl) ?_
        refine zcVv (As := []) (rest := []) (C := RX6) Cx (c_X6_step l G o0 d0 S0 _ hg) zv_X6_step q_326 ⟨⟨rfl, rfl⟩, Nat.le_of_ble_eq_true rfl, Nat.le_of_ble_eq_true rfl⟩ (zJ.all hP hD hS hA) hS 4 rfl rfl rfl rfl hl.1 rfl (Nat.le_of_ble_eq_true rfl) dX6_take_36 (fun S0_6 H locs hg hP hD hS => ?_)
        have hP : va_P G.1 classes (wX6 G o0 d0 S0_6) H := hP
        have hD : va_D A (wX6 G o0 d0 S0_6) := hD
        refine lv_iload_n hx hb dX6_take_39 rfl (lv_at hl 0 rfl) ?_
        exact hret _ _ _ (S0_6) _ _ hg rfl hP hD hS dX6_take_40
      · have hg := hg.2 c_5
        refine lv_aload_n hx hb dX6_take_23 rfl (lv_at hl 0 rfl) ?_
        refine lv_iconst (v := 1) hx hb dX6_take_24 (by decide) ?_
        refine z_put (D := G.1) (ci := 4) (v := .int 1) (ty := .boolean) (C := RX6) (T := TX6) (N := 7) hx hb hT iX6 tyX6 tyX6_ok nmX6 hown hK hP hD hS 0 rfl rfl 6 (by decide) (hT _ q_38) (fun _ h9 => h9) rfl (by decide +kernel) rfl rfl (Nat.le_of_ble_eq_true rfl) dX6_take_25 (zst S0 6 0 1) (fun S : ZS => wX6 G o0 d0 S) rfl (fun S0_7 H locs eS0_7 hP hD hS => ?_)
        have hg := hg S0_7 eS0_7
        refine lv_iconst (v := 0) hx hb dX6_take_28 (by decide) ?_
        exact hret _ _ _ (S0_7) _ _ hg rfl hP hD hS dX6_take_29
