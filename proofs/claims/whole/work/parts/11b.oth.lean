theorem zv_X3_readNumber : zSt yX3_readNumber cX3_readNumber 3 none 2 := ⟨q_374, q_9, q_375, by decide +kernel⟩
set_option maxHeartbeats 4000000 in
set_option maxRecDepth 100000 in
theorem c_X3_readNumber (l : Launch) (G : ZG) (o0 : Nat) (d0 : Nat → Nat) (o1 : Nat) (d1 : Nat → Nat) (S0 : ZS) (S1 : ZS) (Q : ZS → ZS → Prop) (hg : g_X3_readNumber S0 S1 Q) : Kv l G yX3_readNumber cX3_readNumber 3 rm_X3_readNumber [.ref o0, .ref o1] (wX6 G o0 d0 S0 ++ (wX4 G o1 d1 S1)) (fun u : ZS × ZS => wX6 G o0 d0 (u.1) ++ (wX4 G o1 d1 (u.2))) (fun u => Q u.1 u.2) := by
  refine Kv.of (by decide) (Nat.le_of_ble_eq_true rfl) ?_
  intro p e s m args below meth c A QQ ls Cx hret hl hP hD hS
  obtain ⟨hx, hb, hml, hown, hT, hK, hA⟩ := id Cx
  have hl : lv_has ls 3 [(0, .ref o0), (1, .ref o1)] := hl
  refine lv_aload_n hx hb dX3_readNumber_0 rfl (lv_at hl 1 rfl) ?_
  refine lv_iconst (v := 0) hx hb dX3_readNumber_1 (by decide) ?_
  refine zcVi (As := [.int 0]) (rest := []) (C := RX4) Cx (c_X4_addName l G o1 d1 0 S1 _ hg) zv_X4_addName q_369 ⟨⟨rfl, rfl⟩, Nat.le_of_ble_eq_true rfl, Nat.le_of_ble_eq_true rfl⟩ (zJ.sub (wr := wX6 G o0 d0 S0) (w2 := (fun u : ZS => wX6 G o0 d0 S0 ++ (wX4 G o1 d1 u))) hP hD hS hA [2, 3, 4, 5, 6, 7, 8, 9, 10, 11, 12, 13, 14, 15, 16, 17] [0, 1] [0, 1, 2, 3, 4, 5, 6, 7, 8, 9, 10, 11, 12, 13, 14, 15, 16, 17] rfl rfl (by decide) (fun u => rfl)) hS 3 rfl rfl rfl rfl hl.1 rfl (Nat.le_of_ble_eq_true rfl) dX3_readNumber_2 (fun r_2 S1_1 H locs hg hP hD hS => ?_)
  have hP : va_P G.1 classes (wX6 G o0 d0 S0 ++ (wX4 G o1 d1 S1_1)) H := hP
  have hD : va_D A (wX6 G o0 d0 S0 ++ (wX4 G o1 d1 S1_1)) := hD
  refine lv_istore_n (lv' := [(2, .int r_2), (0, .ref o0), (1, .ref o1)]) hx hb dX3_readNumber_5 rfl hl (by decide) rfl (fun ls hl => ?_)
  refine lv_aload_n hx hb dX3_readNumber_6 rfl (lv_at hl 2 rfl) ?_
  refine va_get (D := G.1) (ci := 3) (v := .ref (d1 4)) (C := RX4) (T := TX4) (N := 17) hx hb hT iX4 hown hK hP 2 rfl rfl 4 (by decide) (hT _ q_77) (fun _ h9 => h9) rfl dX3_readNumber_7 ?_
  refine lv_iload_n hx hb dX3_readNumber_10 rfl (lv_at hl 0 rfl) ?_
  refine lv_aload_n hx hb dX3_readNumber_11 rfl (lv_at hl 1 rfl) ?_
  refine lv_iconst (v := 2) hx hb dX3_readNumber_12 (by decide) ?_
  refine lv_sipush (v := 1000) hx hb dX3_readNumber_13 (by decide) ?_
  refine zcVi (As := [.int 2, .int 1000]) (rest := [.int r_2, .ref (d1 4)]) (C := RX6) Cx (c_X6_take l G o0 d0 2 1000 S0 _ hg) zv_X6_take q_376 ⟨⟨rfl, rfl⟩, Nat.le_of_ble_eq_true rfl, Nat.le_of_ble_eq_true rfl⟩ (zJ.sub (wr := wX4 G o1 d1 S1_1) (w2 := (fun u : ZS => wX6 G o0 d0 u ++ (wX4 G o1 d1 S1_1))) hP hD hS hA [0, 1] [2, 3, 4, 5, 6, 7, 8, 9, 10, 11, 12, 13, 14, 15, 16, 17] [16, 17, 0, 1, 2, 3, 4, 5, 6, 7, 8, 9, 10, 11, 12, 13, 14, 15] rfl rfl (by decide) (fun u => rfl)) hS 4 rfl rfl rfl rfl hl.1 rfl (Nat.le_of_ble_eq_true rfl) dX3_readNumber_16 (fun r_4 S0_3 H locs hg hP hD hS => ?_)
  have hP : va_P G.1 classes (wX6 G o0 d0 S0_3 ++ (wX4 G o1 d1 S1_1)) H := hP
  have hD : va_D A (wX6 G o0 d0 S0_3 ++ (wX4 G o1 d1 S1_1)) := hD
  refine z_iast hx hb hK hP hD hS 5 0 rfl rfl hg.1 dX3_readNumber_19 (zst S1_1 4 r_2.toNatClampNeg r_4) (fun S : ZS => wX6 G o0 d0 S0_3 ++ (wX4 G o1 d1 S)) rfl (fun S1_5 H locs eS1_5 hP hD hS => ?_)
  have hg := hg.2 S1_5 eS1_5
  exact hret _ _ (S0_3, S1_5) _ _ hg hP hD hS dX3_readNumber_20
theorem zv_X3_readOperation : zSt yX3_readOperation cX3_readOperation 3 none 2 := ⟨q_381, q_9, q_382, by decide +kernel⟩
set_option maxHeartbeats 4000000 in
set_option maxRecDepth 100000 in
theorem c_X3_readOperation (l : Launch) (G : ZG) (o0 : Nat) (d0 : Nat → Nat) (o1 : Nat) (d1 : Nat → Nat) (S0 : ZS) (S1 : ZS) (Q : ZS → ZS → Prop) (hg : g_X3_readOperation S0 S1 Q) : Kv l G yX3_readOperation cX3_readOperation 3 rm_X3_readOperation [.ref o0, .ref o1] (wX6 G o0 d0 S0 ++ (wX4 G o1 d1 S1)) (fun u : ZS × ZS => wX6 G o0 d0 (u.1) ++ (wX4 G o1 d1 (u.2))) (fun u => Q u.1 u.2) := by
  refine Kv.of (by decide) (Nat.le_of_ble_eq_true rfl) ?_
  intro p e s m args below meth c A QQ ls Cx hret hl hP hD hS
  obtain ⟨hx, hb, hml, hown, hT, hK, hA⟩ := id Cx
  have hl : lv_has ls 3 [(0, .ref o0), (1, .ref o1)] := hl
  refine lv_aload_n hx hb dX3_readOperation_0 rfl (lv_at hl 1 rfl) ?_
  refine lv_iconst (v := 2) hx hb dX3_readOperation_1 (by decide) ?_
  refine zcVi (As := [.int 2]) (rest := []) (C := RX4) Cx (c_X4_addName l G o1 d1 2 S1 _ hg) zv_X4_addName q_369 ⟨⟨rfl, rfl⟩, Nat.le_of_ble_eq_true rfl, Nat.le_of_ble_eq_true rfl⟩ (zJ.sub (wr := wX6 G o0 d0 S0) (w2 := (fun u : ZS => wX6 G o0 d0 S0 ++ (wX4 G o1 d1 u))) hP hD hS hA [2, 3, 4, 5, 6, 7, 8, 9, 10, 11, 12, 13, 14, 15, 16, 17] [0, 1] [0, 1, 2, 3, 4, 5, 6, 7, 8, 9, 10, 11, 12, 13, 14, 15, 16, 17] rfl rfl (by decide) (fun u => rfl)) hS 3 rfl rfl rfl rfl hl.1 rfl (Nat.le_of_ble_eq_true rfl) dX3_readOperation_2 (fun r_2 S1_1 H locs hg hP hD hS => ?_)
  have hP : va_P G.1 classes (wX6 G o0 d0 S0 ++ (wX4 G o1 d1 S1_1)) H := hP
  have hD : va_D A (wX6 G o0 d0 S0 ++ (wX4 G o1 d1 S1_1)) := hD
  refine lv_istore_n (lv' := [(2, .int r_2), (0, .ref o0), (1, .ref o1)]) hx hb dX3_readOperation_5 rfl hl (by decide) rfl (fun ls hl => ?_)
  refine lv_aload_n hx hb dX3_readOperation_6 rfl (lv_at hl 2 rfl) ?_
  refine va_get (D := G.1) (ci := 3) (v := .ref (d1 6)) (C := RX4) (T := TX4) (N := 17) hx hb hT iX4 hown hK hP 2 rfl rfl 6 (by decide) (hT _ q_86) (fun _ h9 => h9) rfl dX3_readOperation_7 ?_
  refine lv_iload_n hx hb dX3_readOperation_10 rfl (lv_at hl 0 rfl) ?_
  refine lv_aload_n hx hb dX3_readOperation_11 rfl (lv_at hl 1 rfl) ?_
  refine lv_iconst (v := 2) hx hb dX3_readOperation_12 (by decide) ?_
  refine lv_bipush (v := 24) hx hb dX3_readOperation_13 (by decide) ?_
  refine zcVi (As := [.int 2, .int 24]) (rest := [.int r_2, .ref (d1 6)]) (C := RX6) Cx (c_X6_take l G o0 d0 2 24 S0 _ hg) zv_X6_take q_376 ⟨⟨rfl, rfl⟩, Nat.le_of_ble_eq_true rfl, Nat.le_of_ble_eq_true rfl⟩ (zJ.sub (wr := wX4 G o1 d1 S1_1) (w2 := (fun u : ZS => wX6 G o0 d0 u ++ (wX4 G o1 d1 S1_1))) hP hD hS hA [0, 1] [2, 3, 4, 5, 6, 7, 8, 9, 10, 11, 12, 13, 14, 15, 16, 17] [16, 17, 0, 1, 2, 3, 4, 5, 6, 7, 8, 9, 10, 11, 12, 13, 14, 15] rfl rfl (by decide) (fun u => rfl)) hS 4 rfl rfl rfl rfl hl.1 rfl (Nat.le_of_ble_eq_true rfl) dX3_readOperation_15 (fun r_4 S0_3 H locs hg hP hD hS => ?_)
  have hP : va_P G.1 classes (wX6 G o0 d0 S0_3 ++ (wX4 G o1 d1 S1_1)) H := hP
  have hD : va_D A (wX6 G o0 d0 S0_3 ++ (wX4 G o1 d1 S1_1)) := hD
  refine z_iast hx hb hK hP hD hS 7 0 rfl rfl hg.1 dX3_readOperation_18 (zst S1_1 6 r_2.toNatClampNeg r_4) (fun S : ZS => wX6 G o0 d0 S0_3 ++ (wX4 G o1 d1 S)) rfl (fun S1_5 H locs eS1_5 hP hD hS => ?_)
  have hg := hg.2 S1_5 eS1_5
  refine lv_aload_n hx hb dX3_readOperation_19 rfl (lv_at hl 2 rfl) ?_
  refine va_get (D := G.1) (ci := 3) (v := .ref (d1 5)) (C := RX4) (T := TX4) (N := 17) hx hb hT iX4 hown hK hP 2 rfl rfl 5 (by decide) (hT _ q_81) (fun _ h9 => h9) rfl dX3_readOperation_20 ?_
  refine lv_iload_n hx hb dX3_readOperation_23 rfl (lv_at hl 0 rfl) ?_
  refine lv_aload_n hx hb dX3_readOperation_24 rfl (lv_at hl 1 rfl) ?_
  refine lv_iconst (v := 3) hx hb dX3_readOperation_25 (by decide) ?_
  refine lv_sipush (v := 1000) hx hb dX3_readOperation_26 (by decide) ?_
  refine zcVi (As := [.int 3, .int 1000]) (rest := [.int r_2, .ref (d1 5)]) (C := RX6) Cx (c_X6_take l G o0 d0 3 1000 S0_3 _ hg) zv_X6_take q_376 ⟨⟨rfl, rfl⟩, Nat.le_of_ble_eq_true rfl, Nat.le_of_ble_eq_true rfl⟩ (zJ.sub (wr := wX4 G o1 d1 S1_5) (w2 := (fun u : ZS => wX6 G o0 d0 u ++ (wX4 G o1 d1 S1_5))) hP hD hS hA [0, 1] [2, 3, 4, 5, 6, 7, 8, 9, 10, 11, 12, 13, 14, 15, 16, 17] [16, 17, 0, 1, 2, 3, 4, 5, 6, 7, 8, 9, 10, 11, 12, 13, 14, 15] rfl rfl (by decide) (fun u => rfl)) hS 4 rfl rfl rfl rfl hl.1 rfl (Nat.le_of_ble_eq_true rfl) dX3_readOperation_29 (fun r_7 S0_6 H locs hg hP hD hS => ?_)
  have hP : va_P G.1 classes (wX6 G o0 d0 S0_6 ++ (wX4 G o1 d1 S1_5)) H := hP
  have hD : va_D A (wX6 G o0 d0 S0_6 ++ (wX4 G o1 d1 S1_5)) := hD
  refine z_iast hx hb hK hP hD hS 6 0 rfl rfl hg.1 dX3_readOperation_32 (zst S1_5 5 r_2.toNatClampNeg r_7) (fun S : ZS => wX6 G o0 d0 S0_6 ++ (wX4 G o1 d1 S)) rfl (fun S1_8 H locs eS1_8 hP hD hS => ?_)
  have hg := hg.2 S1_8 eS1_8
  refine lv_aload_n hx hb dX3_readOperation_33 rfl (lv_at hl 2 rfl) ?_
  refine va_get (D := G.1) (ci := 3) (v := .ref (d1 7)) (C := RX4) (T := TX4) (N := 17) hx hb hT iX4 hown hK hP 2 rfl rfl 7 (by decide) (hT _ q_91) (fun _ h9 => h9) rfl dX3_readOperation_34 ?_
  refine lv_iload_n hx hb dX3_readOperation_37 rfl (lv_at hl 0 rfl) ?_
  refine lv_aload_n hx hb dX3_readOperation_38 rfl (lv_at hl 1 rfl) ?_
  refine lv_iconst (v := 2) hx hb dX3_readOperation_39 (by decide) ?_
  refine lv_bipush (v := 24) hx hb dX3_readOperation_40 (by decide) ?_
  refine zcVi (As := [.int 2, .int 24]) (rest := [.int r_2, .ref (d1 7)]) (C := RX6) Cx (c_X6_take l G o0 d0 2 24 S0_6 _ hg) zv_X6_take q_376 ⟨⟨rfl, rfl⟩, Nat.le_of_ble_eq_true rfl, Nat.le_of_ble_eq_true rfl⟩ (zJ.sub (wr := wX4 G o1 d1 S1_8) (w2 := (fun u : ZS => wX6 G o0 d0 u ++ (wX4 G o1 d1 S1_8))) hP hD hS hA [0, 1] [2, 3, 4, 5, 6, 7, 8, 9, 10, 11, 12, 13, 14, 15, 16, 17] [16, 17, 0, 1, 2, 3, 4, 5, 6, 7, 8, 9, 10, 11, 12, 13, 14, 15] rfl rfl (by decide) (fun u => rfl)) hS 4 rfl rfl rfl rfl hl.1 rfl (Nat.le_of_ble_eq_true rfl) dX3_readOperation_42 (fun r_10 S0_9 H locs hg hP hD hS => ?_)
  have hP : va_P G.1 classes (wX6 G o0 d0 S0_9 ++ (wX4 G o1 d1 S1_8)) H := hP
  have hD : va_D A (wX6 G o0 d0 S0_9 ++ (wX4 G o1 d1 S1_8)) := hD
  refine z_iast hx hb hK hP hD hS 8 0 rfl rfl hg.1 dX3_readOperation_45 (zst S1_8 7 r_2.toNatClampNeg r_10) (fun S : ZS => wX6 G o0 d0 S0_9 ++ (wX4 G o1 d1 S)) rfl (fun S1_11 H locs eS1_11 hP hD hS => ?_)
  have hg := hg.2 S1_11 eS1_11
  exact hret _ _ (S0_9, S1_11) _ _ hg hP hD hS dX3_readOperation_46
theorem zv_X4_armFrom : zV yX4_armFrom RX4 cX4_armFrom 4 (some .int) 2 := ⟨q_391, q_392, q_3, q_393, by decide +kernel⟩
set_option maxHeartbeats 4000000 in
set_option maxRecDepth 100000 in
theorem c_X4_armFrom (l : Launch) (G : ZG) (o0 : Nat) (d0 : Nat → Nat) (x1 : Int32) (x2 : Int32) (S0 : ZS) (Q : Int32 → Prop) (hg : g_X4_armFrom x1 x2 S0 Q) : Ki l G yX4_armFrom cX4_armFrom 4 .int rm_X4_armFrom [.ref o0, .int x1, .int x2] (wX4 G o0 d0 S0) (fun _ : Unit => wX4 G o0 d0 S0) (fun r _ => Q r ) := by
  refine Ki.of (by decide) (Nat.le_of_ble_eq_true rfl) ?_
  intro p e s m args below meth c A QQ ls Cx hret hl hP hD hS
  obtain ⟨hx, hb, hml, hown, hT, hK, hA⟩ := id Cx
  have hl : lv_has ls 4 [(0, .ref o0), (1, .int x1), (2, .int x2)] := hl
  have L4 : ∀ (n : Nat) (x3 : Int32) (H : Heap) (locs : List Loc) (ls : Array Slot), fx (F_X4_armFrom_4 x1 x2 S0 Q) n x3 → va_P G.1 classes (wX4 G o0 d0 S0) H → va_D A (wX4 G o0 d0 S0) → va_S A s.heap H locs → lv_has ls 4 [(0, .ref o0), (1, .int x1), (2, .int x2), (3, .int x3)] → W p l e rm_X4_armFrom s m args below meth c H locs 0 0 QQ (F0 m 4 ls []) := by
    intro n
    induction n with
    | zero => intro x3 H locs ls hg; exact hg.elim
    | succ n ih =>
      have hX4 := ih
      intro x3 H locs ls hg hP hD hS hl
      refine lv_iload_n hx hb dX4_armFrom_4 rfl (lv_at hl 3 rfl) ?_
      refine lv_iconst (v := 3) hx hb dX4_armFrom_5 (by decide) ?_
      refine lv_iload_n hx hb dX4_armFrom_6 rfl (lv_at hl 1 rfl) ?_
      refine lv_imul hx hb dX4_armFrom_7 ?_
      refine lv_aload_n hx hb dX4_armFrom_8 rfl (lv_at hl 0 rfl) ?_
      refine va_get (D := G.1) (ci := 3) (v := .ref (d0 8)) (C := RX4) (T := TX4) (N := 17) hx hb hT iX4 hown hK hP 0 rfl rfl 8 (by decide) (hT _ q_93) (fun _ h9 => h9) rfl dX4_armFrom_9 ?_
      refine lv_iload_n hx hb dX4_armFrom_12 rfl (lv_at hl 1 rfl) ?_
      refine va_iald hx hb hK hP 7 0 rfl rfl hg.1 dX4_armFrom_13 ?_
      have hg := hg.2
      refine lv_iadd hx hb dX4_armFrom_14 ?_
      refine lv_icmp_ge (tgt := 36) hx hb dX4_armFrom_15 (by decide) (fun c_1 => ?_) (fun c_1 => ?_)
      · have hg := hg.1 c_1
        refine lv_bipush (v := (-9)) hx hb dX4_armFrom_36 (by decide) ?_
        exact hret _ _ _ () _ _ hg rfl hP hD hS dX4_armFrom_38
      · have hg := hg.2 c_1
        refine lv_aload_n hx hb dX4_armFrom_18 rfl (lv_at hl 0 rfl) ?_
        refine va_get (D := G.1) (ci := 3) (v := .ref (d0 9)) (C := RX4) (T := TX4) (N := 17) hx hb hT iX4 hown hK hP 0 rfl rfl 9 (by decide) (hT _ q_96) (fun _ h9 => h9) rfl dX4_armFrom_19 ?_
        refine lv_iload_n hx hb dX4_armFrom_22 rfl (lv_at hl 3 rfl) ?_
        refine va_iald hx hb hK hP 8 0 rfl rfl hg.1 dX4_armFrom_23 ?_
        have hg := hg.2
        refine lv_iload_n hx hb dX4_armFrom_24 rfl (lv_at hl 2 rfl) ?_
        refine lv_icmp_ne (tgt := 30) hx hb dX4_armFrom_25 (by decide) (fun c_2 => ?_) (fun c_2 => ?_)
        · have hg := hg.2 c_2
          obtain ⟨x3_3, ex3_3⟩ : ∃ y : Int32, y = x3 + 1 := ⟨_, rfl⟩
          have hg := hg x3_3 ex3_3
          refine lv_iinc (v := x3_3) (lv' := [(3, .int x3_3), (0, .ref o0), (1, .int x1), (2, .int x2)]) hx hb dX4_armFrom_30 hl (k := 3) rfl (by rw [ex3_3]; rfl) (by decide) rfl (fun ls hl => ?_)
          refine lv_goto (tgt := 4) hx hb dX4_armFrom_33 (by decide) ?_
          exact hX4 _ _ _ _ hg hP hD hS (lv_sub hl [1, 2, 3, 0] rfl)
        · have hg := hg.1 c_2
          refine lv_iload_n hx hb dX4_armFrom_28 rfl (lv_at hl 3 rfl) ?_
          exact hret _ _ _ () _ _ hg rfl hP hD hS dX4_armFrom_29
  refine lv_iconst (v := 3) hx hb dX4_armFrom_0 (by decide) ?_
  refine lv_iload_n hx hb dX4_armFrom_1 rfl (lv_at hl 1 rfl) ?_
  refine lv_imul hx hb dX4_armFrom_2 ?_
  refine lv_topi (fun x3_1 ex3_1 => ?_)
  have hg := hg x3_1 ex3_1
  refine lv_istore_n (lv' := [(3, .int x3_1), (0, .ref o0), (1, .int x1), (2, .int x2)]) hx hb dX4_armFrom_3 rfl hl (by decide) rfl (fun ls hl => ?_)
  obtain ⟨n, hg⟩ := hg
  exact L4 n _ _ _ _ hg hP hD hS (lv_sub hl [1, 2, 3, 0] rfl)
theorem zv_X4_hasArm : zV yX4_hasArm RX4 cX4_hasArm 3 (some .boolean) 2 := ⟨q_387, q_388, q_3, q_389, by decide +kernel⟩
set_option maxHeartbeats 4000000 in
set_option maxRecDepth 100000 in
theorem c_X4_hasArm (l : Launch) (G : ZG) (o0 : Nat) (d0 : Nat → Nat) (x1 : Int32) (x2 : Int32) (S0 : ZS) (Q : Int32 → Prop) (hg : g_X4_hasArm x1 x2 S0 Q) : Ki l G yX4_hasArm cX4_hasArm 3 .boolean rm_X4_hasArm [.ref o0, .int x1, .int x2] (wX4 G o0 d0 S0) (fun _ : Unit => wX4 G o0 d0 S0) (fun r _ => Q r ) := by
  refine Ki.of (by decide) (Nat.le_of_ble_eq_true rfl) ?_
  intro p e s m args below meth c A QQ ls Cx hret hl hP hD hS
  obtain ⟨hx, hb, hml, hown, hT, hK, hA⟩ := id Cx
  have hl : lv_has ls 3 [(0, .ref o0), (1, .int x1), (2, .int x2)] := hl
  refine lv_aload_n hx hb dX4_hasArm_0 rfl (lv_at hl 0 rfl) ?_
  refine lv_iload_n hx hb dX4_hasArm_1 rfl (lv_at hl 1 rfl) ?_
  refine lv_iload_n hx hb dX4_hasArm_2 rfl (lv_at hl 2 rfl) ?_
  refine zcVi (As := [.int x1, .int x2]) (rest := []) (C := RX4) Cx (c_X4_armFrom l G o0 d0 x1 x2 S0 _ hg) zv_X4_armFrom q_390 ⟨⟨rfl, rfl⟩, Nat.le_of_ble_eq_true rfl, Nat.le_of_ble_eq_true rfl⟩ (zJ.all hP hD hS hA) hS 3 rfl rfl rfl rfl hl.1 rfl (Nat.le_of_ble_eq_true rfl) dX4_hasArm_3 (fun r_1 _u H locs hg hP hD hS => ?_)
  refine lv_bipush (v := (-9)) hx hb dX4_hasArm_6 (by decide) ?_
  refine lv_icmp_eq (tgt := 15) hx hb dX4_hasArm_8 (by decide) (fun c_2 => ?_) (fun c_2 => ?_)
  · have hg := hg.1 c_2
    refine lv_iconst (v := 0) hx hb dX4_hasArm_15 (by decide) ?_
    exact hret _ _ _ () _ _ hg rfl hP hD hS dX4_hasArm_16
  · have hg := hg.2 c_2
    refine lv_iconst (v := 1) hx hb dX4_hasArm_11 (by decide) ?_
    refine lv_goto (tgt := 16) hx hb dX4_hasArm_12 (by decide) ?_
    exact hret _ _ _ () _ _ hg rfl hP hD hS dX4_hasArm_16
theorem zv_X4_addArm : zV yX4_addArm RX4 cX4_addArm 5 none 3 := ⟨q_395, q_396, q_3, q_397, by decide +kernel⟩
set_option maxHeartbeats 4000000 in
set_option maxRecDepth 100000 in
theorem c_X4_addArm (l : Launch) (G : ZG) (o0 : Nat) (d0 : Nat → Nat) (x1 : Int32) (x2 : Int32) (x3 : Int32) (S0 : ZS) (Q : ZS → Prop) (hg : g_X4_addArm x1 x2 x3 S0 Q) : Kv l G yX4_addArm cX4_addArm 5 rm_X4_addArm [.ref o0, .int x1, .int x2, .int x3] (wX4 G o0 d0 S0) (fun u : ZS => wX4 G o0 d0 u) (fun u => Q u) := by
  refine Kv.of (by decide) (Nat.le_of_ble_eq_true rfl) ?_
  intro p e s m args below meth c A QQ ls Cx hret hl hP hD hS
  obtain ⟨hx, hb, hml, hown, hT, hK, hA⟩ := id Cx
  have hl : lv_has ls 5 [(0, .ref o0), (1, .int x1), (2, .int x2), (3, .int x3)] := hl
  refine lv_iconst (v := 3) hx hb dX4_addArm_0 (by decide) ?_
  refine lv_iload_n hx hb dX4_addArm_1 rfl (lv_at hl 1 rfl) ?_
  refine lv_imul hx hb dX4_addArm_2 ?_
  refine lv_aload_n hx hb dX4_addArm_3 rfl (lv_at hl 0 rfl) ?_
  refine va_get (D := G.1) (ci := 3) (v := .ref (d0 8)) (C := RX4) (T := TX4) (N := 17) hx hb hT iX4 hown hK hP 0 rfl rfl 8 (by decide) (hT _ q_93) (fun _ h9 => h9) rfl dX4_addArm_4 ?_
  refine lv_iload_n hx hb dX4_addArm_7 rfl (lv_at hl 1 rfl) ?_
  refine va_iald hx hb hK hP 7 0 rfl rfl hg.1 dX4_addArm_8 ?_
  have hg := hg.2
  refine lv_iadd hx hb dX4_addArm_9 ?_
  refine lv_topi (fun x4_1 ex4_1 => ?_)
  have hg := hg x4_1 ex4_1
  refine lv_istore (lv' := [(4, .int x4_1), (0, .ref o0), (1, .int x1), (2, .int x2), (3, .int x3)]) hx hb dX4_addArm_10 hl (by decide) rfl (fun ls hl => ?_)
  refine lv_aload_n hx hb dX4_addArm_12 rfl (lv_at hl 1 rfl) ?_
  refine va_get (D := G.1) (ci := 3) (v := .ref (d0 9)) (C := RX4) (T := TX4) (N := 17) hx hb hT iX4 hown hK hP 0 rfl rfl 9 (by decide) (hT _ q_96) (fun _ h9 => h9) rfl dX4_addArm_13 ?_
  refine lv_iload hx hb dX4_addArm_16 (lv_at hl 0 rfl) ?_
  refine lv_iload_n hx hb dX4_addArm_18 rfl (lv_at hl 3 rfl) ?_
  refine z_iast hx hb hK hP hD hS 8 0 rfl rfl hg.1 dX4_addArm_19 (zst S0 9 x4_1.toNatClampNeg x2) (fun S : ZS => wX4 G o0 d0 S) rfl (fun S0_2 H locs eS0_2 hP hD hS => ?_)
  have hg := hg.2 S0_2 eS0_2
  refine lv_aload_n hx hb dX4_addArm_20 rfl (lv_at hl 1 rfl) ?_
  refine va_get (D := G.1) (ci := 3) (v := .ref (d0 10)) (C := RX4) (T := TX4) (N := 17) hx hb hT iX4 hown hK hP 0 rfl rfl 10 (by decide) (hT _ q_98) (fun _ h9 => h9) rfl dX4_addArm_21 ?_
  refine lv_iload hx hb dX4_addArm_24 (lv_at hl 0 rfl) ?_
  refine lv_iload_n hx hb dX4_addArm_26 rfl (lv_at hl 4 rfl) ?_
  refine z_iast hx hb hK hP hD hS 9 0 rfl rfl hg.1 dX4_addArm_27 (zst S0_2 10 x4_1.toNatClampNeg x3) (fun S : ZS => wX4 G o0 d0 S) rfl (fun S0_3 H locs eS0_3 hP hD hS => ?_)
  have hg := hg.2 S0_3 eS0_3
  refine lv_aload_n hx hb dX4_addArm_28 rfl (lv_at hl 1 rfl) ?_
  refine va_get (D := G.1) (ci := 3) (v := .ref (d0 8)) (C := RX4) (T := TX4) (N := 17) hx hb hT iX4 hown hK hP 0 rfl rfl 8 (by decide) (hT _ q_93) (fun _ h9 => h9) rfl dX4_addArm_29 ?_
  refine lv_iload_n hx hb dX4_addArm_32 rfl (lv_at hl 2 rfl) ?_
  refine lv_dup2_11 hx hb dX4_addArm_33 rfl rfl ?_
  refine va_iald hx hb hK hP 7 0 rfl rfl hg.1 dX4_addArm_34 ?_
  have hg := hg.2
  refine lv_iconst (v := 1) hx hb dX4_addArm_35 (by decide) ?_
  refine lv_iadd hx hb dX4_addArm_36 ?_
  refine z_iast hx hb hK hP hD hS 7 0 rfl rfl hg.1 dX4_addArm_37 (zst S0_3 8 x1.toNatClampNeg ((S0_3 8 x1.toNatClampNeg) + 1)) (fun S : ZS => wX4 G o0 d0 S) rfl (fun S0_4 H locs eS0_4 hP hD hS => ?_)
  have hg := hg.2 S0_4 eS0_4
  exact hret _ _ (S0_4) _ _ hg hP hD hS dX4_addArm_38
theorem zv_X3_readArms : zSt yX3_readArms cX3_readArms 6 none 2 := ⟨q_384, q_9, q_385, by decide +kernel⟩
set_option maxHeartbeats 4000000 in
set_option maxRecDepth 100000 in
theorem c_X3_readArms (l : Launch) (G : ZG) (o0 : Nat) (d0 : Nat → Nat) (o1 : Nat) (d1 : Nat → Nat) (S0 : ZS) (S1 : ZS) (Q : ZS → ZS → Prop) (hg : g_X3_readArms S0 S1 Q) : Kv l G yX3_readArms cX3_readArms 6 rm_X3_readArms [.ref o0, .ref o1] (wX6 G o0 d0 S0 ++ (wX4 G o1 d1 S1)) (fun u : ZS × ZS => wX6 G o0 d0 (u.1) ++ (wX4 G o1 d1 (u.2))) (fun u => Q u.1 u.2) := by
  refine Kv.of (by decide) (Nat.le_of_ble_eq_true rfl) ?_
  intro p e s m args below meth c A QQ ls Cx hret hl hP hD hS
  obtain ⟨hx, hb, hml, hown, hT, hK, hA⟩ := id Cx
  have hl : lv_has ls 6 [(0, .ref o0), (1, .ref o1)] := hl
  have J50 : ∀ (X8 : Int32 × Int32 × ZS × ZS → Prop) (hX8 : ∀ (x2 : Int32) (x3 : Int32) (S0 : ZS) (S1 : ZS) (H : Heap) (locs : List Loc) (ls : Array Slot), X8 (x2, x3, S0, S1) → va_P G.1 classes (wX6 G o0 d0 S0 ++ (wX4 G o1 d1 S1)) H → va_D A (wX6 G o0 d0 S0 ++ (wX4 G o1 d1 S1)) → va_S A s.heap H locs → lv_has ls 6 [(0, .ref o0), (1, .ref o1), (2, .int x2), (3, .int x3)] → W p l e rm_X3_readArms s m args below meth c H locs 0 0 QQ (F0 m 8 ls [])) (x2 : Int32) (x3 : Int32) (S0 : ZS) (S1 : ZS) (H : Heap) (locs : List Loc) (ls : Array Slot), G_X3_readArms_50 Q X8 x2 x3 S0 S1 → va_P G.1 classes (wX6 G o0 d0 S0 ++ (wX4 G o1 d1 S1)) H → va_D A (wX6 G o0 d0 S0 ++ (wX4 G o1 d1 S1)) → va_S A s.heap H locs → lv_has ls 6 [(0, .ref o0), (1, .ref o1), (2, .int x2), (3, .int x3)] → W p l e rm_X3_readArms s m args below meth c H locs 0 0 QQ (F0 m 50 ls []) := by
    intro X8 hX8 x2 x3 S0 S1 H locs ls hg hP hD hS hl
    refine lv_aload_n hx hb dX3_readArms_50 rfl (lv_at hl 0 rfl) ?_
    refine lv_iconst (v := 2) hx hb dX3_readArms_51 (by decide) ?_
    refine lv_bipush (v := 8) hx hb dX3_readArms_52 (by decide) ?_
    refine zcVi (As := [.int 2, .int 8]) (rest := []) (C := RX6) Cx (c_X6_take l G o0 d0 2 8 S0 _ hg) zv_X6_take q_376 ⟨⟨rfl, rfl⟩, Nat.le_of_ble_eq_true rfl, Nat.le_of_ble_eq_true rfl⟩ (zJ.sub (wr := wX4 G o1 d1 S1) (w2 := (fun u : ZS => wX6 G o0 d0 u ++ (wX4 G o1 d1 S1))) hP hD hS hA [0, 1] [2, 3, 4, 5, 6, 7, 8, 9, 10, 11, 12, 13, 14, 15, 16, 17] [16, 17, 0, 1, 2, 3, 4, 5, 6, 7, 8, 9, 10, 11, 12, 13, 14, 15] rfl rfl (by decide) (fun u => rfl)) hS 4 rfl rfl rfl rfl hl.1 rfl (Nat.le_of_ble_eq_true rfl) dX3_readArms_54 (fun r_2 S0_1 H locs hg hP hD hS => ?_)
    have hP : va_P G.1 classes (wX6 G o0 d0 S0_1 ++ (wX4 G o1 d1 S1)) H := hP
    have hD : va_D A (wX6 G o0 d0 S0_1 ++ (wX4 G o1 d1 S1)) := hD
    refine lv_istore (lv' := [(4, .int r_2), (0, .ref o0), (1, .ref o1), (2, .int x2), (3, .int x3)]) hx hb dX3_readArms_57 hl (by decide) rfl (fun ls hl => ?_)
    refine lv_aload_n hx hb dX3_readArms_59 rfl (lv_at hl 1 rfl) ?_
    refine lv_iconst (v := 2) hx hb dX3_readArms_60 (by decide) ?_
    refine lv_bipush (v := 24) hx hb dX3_readArms_61 (by decide) ?_
    refine zcVi (As := [.int 2, .int 24]) (rest := []) (C := RX6) Cx (c_X6_take l G o0 d0 2 24 S0_1 _ hg) zv_X6_take q_376 ⟨⟨rfl, rfl⟩, Nat.le_of_ble_eq_true rfl, Nat.le_of_ble_eq_true rfl⟩ (zJ.sub (wr := wX4 G o1 d1 S1) (w2 := (fun u : ZS => wX6 G o0 d0 u ++ (wX4 G o1 d1 S1))) hP hD hS hA [0, 1] [2, 3, 4, 5, 6, 7, 8, 9, 10, 11, 12, 13, 14, 15, 16, 17] [16, 17, 0, 1, 2, 3, 4, 5, 6, 7, 8, 9, 10, 11, 12, 13, 14, 15] rfl rfl (by decide) (fun u => rfl)) hS 4 rfl rfl rfl rfl hl.1 rfl (Nat.le_of_ble_eq_true rfl) dX3_readArms_63 (fun r_4 S0_3 H locs hg hP hD hS => ?_)
    have hP : va_P G.1 classes (wX6 G o0 d0 S0_3 ++ (wX4 G o1 d1 S1)) H := hP
    have hD : va_D A (wX6 G o0 d0 S0_3 ++ (wX4 G o1 d1 S1)) := hD
    refine lv_istore (lv' := [(5, .int r_4), (4, .int r_2), (0, .ref o0), (1, .ref o1), (2, .int x2), (3, .int x3)]) hx hb dX3_readArms_66 hl (by decide) rfl (fun ls hl => ?_)
    refine lv_aload_n hx hb dX3_readArms_68 rfl (lv_at hl 3 rfl) ?_
    refine lv_iload_n hx hb dX3_readArms_69 rfl (lv_at hl 4 rfl) ?_
    refine lv_iload hx hb dX3_readArms_70 (lv_at hl 1 rfl) ?_
    refine lv_iload hx hb dX3_readArms_72 (lv_at hl 0 rfl) ?_
    refine zcVv (As := [.int x2, .int r_2, .int r_4]) (rest := []) (C := RX4) Cx (c_X4_addArm l G o1 d1 x2 r_2 r_4 S1 _ hg) zv_X4_addArm q_394 ⟨⟨rfl, rfl⟩, Nat.le_of_ble_eq_true rfl, Nat.le_of_ble_eq_true rfl⟩ (zJ.sub (wr := wX6 G o0 d0 S0_3) (w2 := (fun u : ZS => wX6 G o0 d0 S0_3 ++ (wX4 G o1 d1 u))) hP hD hS hA [2, 3, 4, 5, 6, 7, 8, 9, 10, 11, 12, 13, 14, 15, 16, 17] [0, 1] [0, 1, 2, 3, 4, 5, 6, 7, 8, 9, 10, 11, 12, 13, 14, 15, 16, 17] rfl rfl (by decide) (fun u => rfl)) hS 3 rfl rfl rfl rfl hl.1 rfl (Nat.le_of_ble_eq_true rfl) dX3_readArms_74 (fun S1_5 H locs hg hP hD hS => ?_)
    have hP : va_P G.1 classes (wX6 G o0 d0 S0_3 ++ (wX4 G o1 d1 S1_5)) H := hP
    have hD : va_D A (wX6 G o0 d0 S0_3 ++ (wX4 G o1 d1 S1_5)) := hD
    obtain ⟨x3_6, ex3_6⟩ : ∃ y : Int32, y = x3 + 1 := ⟨_, rfl⟩
    have hg := hg x3_6 ex3_6
    refine lv_iinc (v := x3_6) (lv' := [(3, .int x3_6), (5, .int r_4), (4, .int r_2), (0, .ref o0), (1, .ref o1), (2, .int x2)]) hx hb dX3_readArms_77 hl (k := 5) rfl (by rw [ex3_6]; rfl) (by decide) rfl (fun ls hl => ?_)
    refine lv_goto (tgt := 8) hx hb dX3_readArms_80 (by decide) ?_
    exact hX8 _ _ _ _ _ _ _ hg hP hD hS (lv_sub hl [3, 4, 5, 0] rfl)
  have J25 : ∀ (X8 : Int32 × Int32 × ZS × ZS → Prop) (hX8 : ∀ (x2 : Int32) (x3 : Int32) (S0 : ZS) (S1 : ZS) (H : Heap) (locs : List Loc) (ls : Array Slot), X8 (x2, x3, S0, S1) → va_P G.1 classes (wX6 G o0 d0 S0 ++ (wX4 G o1 d1 S1)) H → va_D A (wX6 G o0 d0 S0 ++ (wX4 G o1 d1 S1)) → va_S A s.heap H locs → lv_has ls 6 [(0, .ref o0), (1, .ref o1), (2, .int x2), (3, .int x3)] → W p l e rm_X3_readArms s m args below meth c H locs 0 0 QQ (F0 m 8 ls [])) (x2 : Int32) (x3 : Int32) (S0 : ZS) (S1 : ZS) (H : Heap) (locs : List Loc) (ls : Array Slot), G_X3_readArms_25 Q X8 x2 x3 S0 S1 → va_P G.1 classes (wX6 G o0 d0 S0 ++ (wX4 G o1 d1 S1)) H → va_D A (wX6 G o0 d0 S0 ++ (wX4 G o1 d1 S1)) → va_S A s.heap H locs → lv_has ls 6 [(0, .ref o0), (1, .ref o1), (2, .int x2), (3, .int x3)] → W p l e rm_X3_readArms s m args below meth c H locs 0 0 QQ (F0 m 25 ls []) := by
    intro X8 hX8 x2 x3 S0 S1 H locs ls hg hP hD hS hl
    refine lv_aload_n hx hb dX3_readArms_25 rfl (lv_at hl 0 rfl) ?_
    refine va_get (D := G.1) (ci := 4) (v := .int (S0 2 0)) (C := RX6) (T := TX6) (N := 7) hx hb hT iX6 hown hK hP 0 rfl rfl 2 (by decide) (hT _ q_32) (fun _ h9 => h9) rfl dX3_readArms_26 ?_
    refine lv_iconst (v := 2) hx hb dX3_readArms_29 (by decide) ?_
    refine lv_icmp_ne (tgt := 50) hx hb dX3_readArms_30 (by decide) (fun c_1 => ?_) (fun c_1 => ?_)
    · have hg := hg.2 c_1
      exact J50 _ hX8 _ _ _ _ _ _ _ hg hP hD hS (lv_sub hl [0, 1, 2, 3] rfl)
    · have hg := hg.1 c_1
      refine lv_aload_n hx hb dX3_readArms_33 rfl (lv_at hl 1 rfl) ?_
      refine lv_iload_n hx hb dX3_readArms_34 rfl (lv_at hl 2 rfl) ?_
      refine lv_aload_n hx hb dX3_readArms_35 rfl (lv_at hl 0 rfl) ?_
      refine va_get (D := G.1) (ci := 4) (v := .int (S0 5 0)) (C := RX6) (T := TX6) (N := 7) hx hb hT iX6 hown hK hP 0 rfl rfl 5 (by decide) (hT _ q_37) (fun _ h9 => h9) rfl dX3_readArms_36 ?_
      refine zcVi (As := [.int x2, .int (S0 5 0)]) (rest := []) (C := RX4) Cx (c_X4_hasArm l G o1 d1 x2 (S0 5 0) S1 _ hg) zv_X4_hasArm q_386 ⟨⟨rfl, rfl⟩, Nat.le_of_ble_eq_true rfl, Nat.le_of_ble_eq_true rfl⟩ (zJ.sub (wr := wX6 G o0 d0 S0) (w2 := (fun u : Unit => wX6 G o0 d0 S0 ++ (wX4 G o1 d1 S1))) hP hD hS hA [2, 3, 4, 5, 6, 7, 8, 9, 10, 11, 12, 13, 14, 15, 16, 17] [0, 1] [0, 1, 2, 3, 4, 5, 6, 7, 8, 9, 10, 11, 12, 13, 14, 15, 16, 17] rfl rfl (by decide) (fun u => rfl)) hS 3 rfl rfl rfl rfl hl.1 rfl (Nat.le_of_ble_eq_true rfl) dX3_readArms_39 (fun r_2 _u H locs hg hP hD hS => ?_)
      refine lv_if_eq (tgt := 50) hx hb dX3_readArms_42 (by decide) (fun c_3 => ?_) (fun c_3 => ?_)
      · have hg := hg.1 c_3
        exact J50 _ hX8 _ _ _ _ _ _ _ hg hP hD hS (lv_sub hl [0, 1, 2, 3] rfl)
      · have hg := hg.2 c_3
        refine lv_aload_n hx hb dX3_readArms_45 rfl (lv_at hl 0 rfl) ?_
        refine lv_iconst (v := 1) hx hb dX3_readArms_46 (by decide) ?_
        refine z_put (D := G.1) (ci := 4) (v := .int 1) (ty := .boolean) (C := RX6) (T := TX6) (N := 7) hx hb hT iX6 tyX6 tyX6_ok nmX6 hown hK hP hD hS 0 rfl rfl 6 (by decide) (hT _ q_39) (fun _ h9 => h9) rfl (by decide +kernel) rfl rfl (Nat.le_of_ble_eq_true rfl) dX3_readArms_47 (zst S0 6 0 1) (fun S : ZS => wX6 G o0 d0 S ++ (wX4 G o1 d1 S1)) rfl (fun S0_4 H locs eS0_4 hP hD hS => ?_)
        have hg := hg S0_4 eS0_4
        exact J50 _ hX8 _ _ _ _ _ _ _ hg hP hD hS (lv_sub hl [0, 1, 2, 3] rfl)
  have L8 : ∀ (n : Nat) (x2 : Int32) (x3 : Int32) (S0 : ZS) (S1 : ZS) (H : Heap) (locs : List Loc) (ls : Array Slot), fx (F_X3_readArms_8 Q) n (x2, x3, S0, S1) → va_P G.1 classes (wX6 G o0 d0 S0 ++ (wX4 G o1 d1 S1)) H → va_D A (wX6 G o0 d0 S0 ++ (wX4 G o1 d1 S1)) → va_S A s.heap H locs → lv_has ls 6 [(0, .ref o0), (1, .ref o1), (2, .int x2), (3, .int x3)] → W p l e rm_X3_readArms s m args below meth c H locs 0 0 QQ (F0 m 8 ls []) := by
    intro n
    induction n with
    | zero => intro x2 x3 S0 S1 H locs ls hg; exact hg.elim
    | succ n ih =>
      have hX8 := ih
      intro x2 x3 S0 S1 H locs ls hg hP hD hS hl
      refine lv_iload_n hx hb dX3_readArms_8 rfl (lv_at hl 3 rfl) ?_
      refine lv_iconst (v := 3) hx hb dX3_readArms_9 (by decide) ?_
      refine lv_icmp_ge (tgt := 83) hx hb dX3_readArms_10 (by decide) (fun c_1 => ?_) (fun c_1 => ?_)
      · have hg := hg.1 c_1
        exact hret _ _ (S0, S1) _ _ hg hP hD hS dX3_readArms_83
      · have hg := hg.2 c_1
        refine lv_iload_n hx hb dX3_readArms_13 rfl (lv_at hl 3 rfl) ?_
        refine lv_if_eq (tgt := 25) hx hb dX3_readArms_14 (by decide) (fun c_2 => ?_) (fun c_2 => ?_)
        · have hg := hg.1 c_2
          exact J25 _ hX8 _ _ _ _ _ _ _ hg hP hD hS (lv_sub hl [0, 1, 2, 3] rfl)
        · have hg := hg.2 c_2
          refine lv_aload_n hx hb dX3_readArms_17 rfl (lv_at hl 0 rfl) ?_
          refine va_get (D := G.1) (ci := 4) (v := .int (S0 2 0)) (C := RX6) (T := TX6) (N := 7) hx hb hT iX6 hown hK hP 0 rfl rfl 2 (by decide) (hT _ q_32) (fun _ h9 => h9) rfl dX3_readArms_18 ?_
          refine lv_iconst (v := 4) hx hb dX3_readArms_21 (by decide) ?_
          refine lv_icmp_eq (tgt := 83) hx hb dX3_readArms_22 (by decide) (fun c_3 => ?_) (fun c_3 => ?_)
          · have hg := hg.1 c_3
            exact hret _ _ (S0, S1) _ _ hg hP hD hS dX3_readArms_83
          · have hg := hg.2 c_3
            exact J25 _ hX8 _ _ _ _ _ _ _ hg hP hD hS (lv_sub hl [0, 1, 2, 3] rfl)
  refine lv_aload_n hx hb dX3_readArms_0 rfl (lv_at hl 1 rfl) ?_
  refine lv_iconst (v := 3) hx hb dX3_readArms_1 (by decide) ?_
  refine zcVi (As := [.int 3]) (rest := []) (C := RX4) Cx (c_X4_addName l G o1 d1 3 S1 _ hg) zv_X4_addName q_369 ⟨⟨rfl, rfl⟩, Nat.le_of_ble_eq_true rfl, Nat.le_of_ble_eq_true rfl⟩ (zJ.sub (wr := wX6 G o0 d0 S0) (w2 := (fun u : ZS => wX6 G o0 d0 S0 ++ (wX4 G o1 d1 u))) hP hD hS hA [2, 3, 4, 5, 6, 7, 8, 9, 10, 11, 12, 13, 14, 15, 16, 17] [0, 1] [0, 1, 2, 3, 4, 5, 6, 7, 8, 9, 10, 11, 12, 13, 14, 15, 16, 17] rfl rfl (by decide) (fun u => rfl)) hS 3 rfl rfl rfl rfl hl.1 rfl (Nat.le_of_ble_eq_true rfl) dX3_readArms_2 (fun r_2 S1_1 H locs hg hP hD hS => ?_)
  have hP : va_P G.1 classes (wX6 G o0 d0 S0 ++ (wX4 G o1 d1 S1_1)) H := hP
  have hD : va_D A (wX6 G o0 d0 S0 ++ (wX4 G o1 d1 S1_1)) := hD
  refine lv_istore_n (lv' := [(2, .int r_2), (0, .ref o0), (1, .ref o1)]) hx hb dX3_readArms_5 rfl hl (by decide) rfl (fun ls hl => ?_)
  refine lv_iconst (v := 0) hx hb dX3_readArms_6 (by decide) ?_
  refine lv_istore_n (lv' := [(3, .int 0), (2, .int r_2), (0, .ref o0), (1, .ref o1)]) hx hb dX3_readArms_7 rfl hl (by decide) rfl (fun ls hl => ?_)
  obtain ⟨n, hg⟩ := hg
  exact L8 n _ _ _ _ _ _ _ hg hP hD hS (lv_sub hl [2, 3, 1, 0] rfl)
theorem zv_X4_endBlock : zV yX4_endBlock RX4 cX4_endBlock 2 (some .int) 1 := ⟨q_402, q_403, q_3, q_404, by decide +kernel⟩
set_option maxHeartbeats 4000000 in
set_option maxRecDepth 100000 in
theorem c_X4_endBlock (l : Launch) (G : ZG) (o0 : Nat) (d0 : Nat → Nat) (x1 : Int32) (S0 : ZS) (Q : Int32 → ZS → Prop) (hg : g_X4_endBlock x1 S0 Q) : Ki l G yX4_endBlock cX4_endBlock 2 .int rm_X4_endBlock [.ref o0, .int x1] (wX4 G o0 d0 S0) (fun u : ZS => wX4 G o0 d0 u) (fun r u => Q r u) := by
  refine Ki.of (by decide) (Nat.le_of_ble_eq_true rfl) ?_
  intro p e s m args below meth c A QQ ls Cx hret hl hP hD hS
  obtain ⟨hx, hb, hml, hown, hT, hK, hA⟩ := id Cx
  have hl : lv_has ls 2 [(0, .ref o0), (1, .int x1)] := hl
  refine lv_aload_n hx hb dX4_endBlock_0 rfl (lv_at hl 0 rfl) ?_
  refine va_get (D := G.1) (ci := 3) (v := .ref (d0 13)) (C := RX4) (T := TX4) (N := 17) hx hb hT iX4 hown hK hP 0 rfl rfl 13 (by decide) (hT _ q_108) (fun _ h9 => h9) rfl dX4_endBlock_1 ?_
  refine lv_aload_n hx hb dX4_endBlock_4 rfl (lv_at hl 0 rfl) ?_
  refine va_get (D := G.1) (ci := 3) (v := .int (S0 0 0)) (C := RX4) (T := TX4) (N := 17) hx hb hT iX4 hown hK hP 0 rfl rfl 0 (by decide) (hT _ q_62) (fun _ h9 => h9) rfl dX4_endBlock_5 ?_
  refine lv_iconst (v := 1) hx hb dX4_endBlock_8 (by decide) ?_
  refine lv_isub hx hb dX4_endBlock_9 ?_
  refine lv_iload_n hx hb dX4_endBlock_10 rfl (lv_at hl 1 rfl) ?_
  refine z_iast hx hb hK hP hD hS 12 0 rfl rfl hg.1 dX4_endBlock_11 (zst S0 13 ((S0 0 0) - 1).toNatClampNeg x1) (fun S : ZS => wX4 G o0 d0 S) rfl (fun S0_1 H locs eS0_1 hP hD hS => ?_)
  have hg := hg.2 S0_1 eS0_1
  refine lv_aload_n hx hb dX4_endBlock_12 rfl (lv_at hl 0 rfl) ?_
  refine va_get (D := G.1) (ci := 3) (v := .int (S0_1 0 0)) (C := RX4) (T := TX4) (N := 17) hx hb hT iX4 hown hK hP 0 rfl rfl 0 (by decide) (hT _ q_62) (fun _ h9 => h9) rfl dX4_endBlock_13 ?_
  refine lv_iconst (v := 1) hx hb dX4_endBlock_16 (by decide) ?_
  refine lv_isub hx hb dX4_endBlock_17 ?_
  exact hret _ _ _ (S0_1) _ _ hg rfl hP hD hS dX4_endBlock_18
theorem zv_X3_readGoing : zSt yX3_readGoing cX3_readGoing 3 none 2 := ⟨q_399, q_9, q_400, by decide +kernel⟩
set_option maxHeartbeats 4000000 in
set_option maxRecDepth 100000 in
theorem c_X3_readGoing (l : Launch) (G : ZG) (o0 : Nat) (d0 : Nat → Nat) (o1 : Nat) (d1 : Nat → Nat) (S0 : ZS) (S1 : ZS) (Q : ZS → ZS → Prop) (hg : g_X3_readGoing S0 S1 Q) : Kv l G yX3_readGoing cX3_readGoing 3 rm_X3_readGoing [.ref o0, .ref o1] (wX6 G o0 d0 S0 ++ (wX4 G o1 d1 S1)) (fun u : ZS × ZS => wX6 G o0 d0 (u.1) ++ (wX4 G o1 d1 (u.2))) (fun u => Q u.1 u.2) := by
  refine Kv.of (by decide) (Nat.le_of_ble_eq_true rfl) ?_
  intro p e s m args below meth c A QQ ls Cx hret hl hP hD hS
  obtain ⟨hx, hb, hml, hown, hT, hK, hA⟩ := id Cx
  have hl : lv_has ls 3 [(0, .ref o0), (1, .ref o1)] := hl
  refine lv_aload_n hx hb dX3_readGoing_0 rfl (lv_at hl 1 rfl) ?_
  refine lv_iconst (v := 0) hx hb dX3_readGoing_1 (by decide) ?_
  refine zcVi (As := [.int 0]) (rest := []) (C := RX4) Cx (c_X4_endBlock l G o1 d1 0 S1 _ hg) zv_X4_endBlock q_401 ⟨⟨rfl, rfl⟩, Nat.le_of_ble_eq_true rfl, Nat.le_of_ble_eq_true rfl⟩ (zJ.sub (wr := wX6 G o0 d0 S0) (w2 := (fun u : ZS => wX6 G o0 d0 S0 ++ (wX4 G o1 d1 u))) hP hD hS hA [2, 3, 4, 5, 6, 7, 8, 9, 10, 11, 12, 13, 14, 15, 16, 17] [0, 1] [0, 1, 2, 3, 4, 5, 6, 7, 8, 9, 10, 11, 12, 13, 14, 15, 16, 17] rfl rfl (by decide) (fun u => rfl)) hS 3 rfl rfl rfl rfl hl.1 rfl (Nat.le_of_ble_eq_true rfl) dX3_readGoing_2 (fun r_2 S1_1 H locs hg hP hD hS => ?_)
  have hP : va_P G.1 classes (wX6 G o0 d0 S0 ++ (wX4 G o1 d1 S1_1)) H := hP
  have hD : va_D A (wX6 G o0 d0 S0 ++ (wX4 G o1 d1 S1_1)) := hD
  refine lv_istore_n (lv' := [(2, .int r_2), (0, .ref o0), (1, .ref o1)]) hx hb dX3_readGoing_5 rfl hl (by decide) rfl (fun ls hl => ?_)
  refine lv_aload_n hx hb dX3_readGoing_6 rfl (lv_at hl 2 rfl) ?_
  refine va_get (D := G.1) (ci := 3) (v := .ref (d1 15)) (C := RX4) (T := TX4) (N := 17) hx hb hT iX4 hown hK hP 2 rfl rfl 15 (by decide) (hT _ q_119) (fun _ h9 => h9) rfl dX3_readGoing_7 ?_
  refine lv_iconst (v := 2) hx hb dX3_readGoing_10 (by decide) ?_
  refine lv_iload_n hx hb dX3_readGoing_11 rfl (lv_at hl 0 rfl) ?_
  refine lv_imul hx hb dX3_readGoing_12 ?_
  refine lv_aload_n hx hb dX3_readGoing_13 rfl (lv_at hl 1 rfl) ?_
  refine lv_iconst (v := 2) hx hb dX3_readGoing_14 (by decide) ?_
  refine lv_bipush (v := 8) hx hb dX3_readGoing_15 (by decide) ?_
  refine zcVi (As := [.int 2, .int 8]) (rest := [.int (2 * r_2), .ref (d1 15)]) (C := RX6) Cx (c_X6_take l G o0 d0 2 8 S0 _ hg) zv_X6_take q_376 ⟨⟨rfl, rfl⟩, Nat.le_of_ble_eq_true rfl, Nat.le_of_ble_eq_true rfl⟩ (zJ.sub (wr := wX4 G o1 d1 S1_1) (w2 := (fun u : ZS => wX6 G o0 d0 u ++ (wX4 G o1 d1 S1_1))) hP hD hS hA [0, 1] [2, 3, 4, 5, 6, 7, 8, 9, 10, 11, 12, 13, 14, 15, 16, 17] [16, 17, 0, 1, 2, 3, 4, 5, 6, 7, 8, 9, 10, 11, 12, 13, 14, 15] rfl rfl (by decide) (fun u => rfl)) hS 4 rfl rfl rfl rfl hl.1 rfl (Nat.le_of_ble_eq_true rfl) dX3_readGoing_17 (fun r_4 S0_3 H locs hg hP hD hS => ?_)
  have hP : va_P G.1 classes (wX6 G o0 d0 S0_3 ++ (wX4 G o1 d1 S1_1)) H := hP
  have hD : va_D A (wX6 G o0 d0 S0_3 ++ (wX4 G o1 d1 S1_1)) := hD
  refine z_iast hx hb hK hP hD hS 16 0 rfl rfl hg.1 dX3_readGoing_20 (zst S1_1 15 (2 * r_2).toNatClampNeg r_4) (fun S : ZS => wX6 G o0 d0 S0_3 ++ (wX4 G o1 d1 S)) rfl (fun S1_5 H locs eS1_5 hP hD hS => ?_)
  have hg := hg.2 S1_5 eS1_5
  exact hret _ _ (S0_3, S1_5) _ _ hg hP hD hS dX3_readGoing_21
theorem zv_X3_readChoice : zSt yX3_readChoice cX3_readChoice 4 none 2 := ⟨q_406, q_9, q_407, by decide +kernel⟩
set_option maxHeartbeats 4000000 in
set_option maxRecDepth 100000 in
theorem c_X3_readChoice (l : Launch) (G : ZG) (o0 : Nat) (d0 : Nat → Nat) (o1 : Nat) (d1 : Nat → Nat) (S0 : ZS) (S1 : ZS) (Q : ZS → ZS → Prop) (hg : g_X3_readChoice S0 S1 Q) : Kv l G yX3_readChoice cX3_readChoice 4 rm_X3_readChoice [.ref o0, .ref o1] (wX6 G o0 d0 S0 ++ (wX4 G o1 d1 S1)) (fun u : ZS × ZS => wX6 G o0 d0 (u.1) ++ (wX4 G o1 d1 (u.2))) (fun u => Q u.1 u.2) := by
  refine Kv.of (by decide) (Nat.le_of_ble_eq_true rfl) ?_
  intro p e s m args below meth c A QQ ls Cx hret hl hP hD hS
  obtain ⟨hx, hb, hml, hown, hT, hK, hA⟩ := id Cx
  have hl : lv_has ls 4 [(0, .ref o0), (1, .ref o1)] := hl
  have J48 : ∀ (x2 : Int32) (x3 : Int32) (S0 : ZS) (S1 : ZS) (H : Heap) (locs : List Loc) (ls : Array Slot), G_X3_readChoice_48 Q x2 x3 S0 S1 → va_P G.1 classes (wX6 G o0 d0 S0 ++ (wX4 G o1 d1 S1)) H → va_D A (wX6 G o0 d0 S0 ++ (wX4 G o1 d1 S1)) → va_S A s.heap H locs → lv_has ls 4 [(0, .ref o0), (1, .ref o1), (2, .int x2), (3, .int x3)] → W p l e rm_X3_readChoice s m args below meth c H locs 0 0 QQ (F0 m 48 ls []) := by
    intro x2 x3 S0 S1 H locs ls hg hP hD hS hl
    refine lv_aload_n hx hb dX3_readChoice_48 rfl (lv_at hl 1 rfl) ?_
    refine va_get (D := G.1) (ci := 3) (v := .ref (d1 15)) (C := RX4) (T := TX4) (N := 17) hx hb hT iX4 hown hK hP 2 rfl rfl 15 (by decide) (hT _ q_119) (fun _ h9 => h9) rfl dX3_readChoice_49 ?_
    refine lv_iconst (v := 2) hx hb dX3_readChoice_52 (by decide) ?_
    refine lv_iload_n hx hb dX3_readChoice_53 rfl (lv_at hl 2 rfl) ?_
    refine lv_imul hx hb dX3_readChoice_54 ?_
    refine lv_iload_n hx hb dX3_readChoice_55 rfl (lv_at hl 3 rfl) ?_
    refine z_iast hx hb hK hP hD hS 16 0 rfl rfl hg.1 dX3_readChoice_56 (zst S1 15 (2 * x2).toNatClampNeg x3) (fun S : ZS => wX6 G o0 d0 S0 ++ (wX4 G o1 d1 S)) rfl (fun S1_1 H locs eS1_1 hP hD hS => ?_)
    have hg := hg.2 S1_1 eS1_1
    refine lv_aload_n hx hb dX3_readChoice_57 rfl (lv_at hl 1 rfl) ?_
    refine va_get (D := G.1) (ci := 3) (v := .ref (d1 15)) (C := RX4) (T := TX4) (N := 17) hx hb hT iX4 hown hK hP 2 rfl rfl 15 (by decide) (hT _ q_119) (fun _ h9 => h9) rfl dX3_readChoice_58 ?_
    refine lv_iconst (v := 2) hx hb dX3_readChoice_61 (by decide) ?_
    refine lv_iload_n hx hb dX3_readChoice_62 rfl (lv_at hl 2 rfl) ?_
    refine lv_imul hx hb dX3_readChoice_63 ?_
    refine lv_iconst (v := 1) hx hb dX3_readChoice_64 (by decide) ?_
    refine lv_iadd hx hb dX3_readChoice_65 ?_
    refine lv_aload_n hx hb dX3_readChoice_66 rfl (lv_at hl 0 rfl) ?_
    refine lv_iconst (v := 2) hx hb dX3_readChoice_67 (by decide) ?_
    refine lv_bipush (v := 8) hx hb dX3_readChoice_68 (by decide) ?_
    refine zcVi (As := [.int 2, .int 8]) (rest := [.int ((2 * x2) + 1), .ref (d1 15)]) (C := RX6) Cx (c_X6_take l G o0 d0 2 8 S0 _ hg) zv_X6_take q_376 ⟨⟨rfl, rfl⟩, Nat.le_of_ble_eq_true rfl, Nat.le_of_ble_eq_true rfl⟩ (zJ.sub (wr := wX4 G o1 d1 S1_1) (w2 := (fun u : ZS => wX6 G o0 d0 u ++ (wX4 G o1 d1 S1_1))) hP hD hS hA [0, 1] [2, 3, 4, 5, 6, 7, 8, 9, 10, 11, 12, 13, 14, 15, 16, 17] [16, 17, 0, 1, 2, 3, 4, 5, 6, 7, 8, 9, 10, 11, 12, 13, 14, 15] rfl rfl (by decide) (fun u => rfl)) hS 4 rfl rfl rfl rfl hl.1 rfl (Nat.le_of_ble_eq_true rfl) dX3_readChoice_70 (fun r_3 S0_2 H locs hg hP hD hS => ?_)
    have hP : va_P G.1 classes (wX6 G o0 d0 S0_2 ++ (wX4 G o1 d1 S1_1)) H := hP
    have hD : va_D A (wX6 G o0 d0 S0_2 ++ (wX4 G o1 d1 S1_1)) := hD
    refine z_iast hx hb hK hP hD hS 16 0 rfl rfl hg.1 dX3_readChoice_73 (zst S1_1 15 ((2 * x2) + 1).toNatClampNeg r_3) (fun S : ZS => wX6 G o0 d0 S0_2 ++ (wX4 G o1 d1 S)) rfl (fun S1_4 H locs eS1_4 hP hD hS => ?_)
    have hg := hg.2 S1_4 eS1_4
    exact hret _ _ (S0_2, S1_4) _ _ hg hP hD hS dX3_readChoice_74
  refine lv_aload_n hx hb dX3_readChoice_0 rfl (lv_at hl 1 rfl) ?_
  refine lv_iconst (v := 1) hx hb dX3_readChoice_1 (by decide) ?_
  refine zcVi (As := [.int 1]) (rest := []) (C := RX4) Cx (c_X4_endBlock l G o1 d1 1 S1 _ hg) zv_X4_endBlock q_401 ⟨⟨rfl, rfl⟩, Nat.le_of_ble_eq_true rfl, Nat.le_of_ble_eq_true rfl⟩ (zJ.sub (wr := wX6 G o0 d0 S0) (w2 := (fun u : ZS => wX6 G o0 d0 S0 ++ (wX4 G o1 d1 u))) hP hD hS hA [2, 3, 4, 5, 6, 7, 8, 9, 10, 11, 12, 13, 14, 15, 16, 17] [0, 1] [0, 1, 2, 3, 4, 5, 6, 7, 8, 9, 10, 11, 12, 13, 14, 15, 16, 17] rfl rfl (by decide) (fun u => rfl)) hS 3 rfl rfl rfl rfl hl.1 rfl (Nat.le_of_ble_eq_true rfl) dX3_readChoice_2 (fun r_2 S1_1 H locs hg hP hD hS => ?_)
  have hP : va_P G.1 classes (wX6 G o0 d0 S0 ++ (wX4 G o1 d1 S1_1)) H := hP
  have hD : va_D A (wX6 G o0 d0 S0 ++ (wX4 G o1 d1 S1_1)) := hD
  refine lv_istore_n (lv' := [(2, .int r_2), (0, .ref o0), (1, .ref o1)]) hx hb dX3_readChoice_5 rfl hl (by decide) rfl (fun ls hl => ?_)
  refine lv_aload_n hx hb dX3_readChoice_6 rfl (lv_at hl 2 rfl) ?_
  refine va_get (D := G.1) (ci := 3) (v := .ref (d1 14)) (C := RX4) (T := TX4) (N := 17) hx hb hT iX4 hown hK hP 2 rfl rfl 14 (by decide) (hT _ q_115) (fun _ h9 => h9) rfl dX3_readChoice_7 ?_
  refine lv_iload_n hx hb dX3_readChoice_10 rfl (lv_at hl 0 rfl) ?_
  refine lv_aload_n hx hb dX3_readChoice_11 rfl (lv_at hl 1 rfl) ?_
  refine lv_iconst (v := 2) hx hb dX3_readChoice_12 (by decide) ?_
  refine lv_bipush (v := 24) hx hb dX3_readChoice_13 (by decide) ?_
  refine zcVi (As := [.int 2, .int 24]) (rest := [.int r_2, .ref (d1 14)]) (C := RX6) Cx (c_X6_take l G o0 d0 2 24 S0 _ hg) zv_X6_take q_376 ⟨⟨rfl, rfl⟩, Nat.le_of_ble_eq_true rfl, Nat.le_of_ble_eq_true rfl⟩ (zJ.sub (wr := wX4 G o1 d1 S1_1) (w2 := (fun u : ZS => wX6 G o0 d0 u ++ (wX4 G o1 d1 S1_1))) hP hD hS hA [0, 1] [2, 3, 4, 5, 6, 7, 8, 9, 10, 11, 12, 13, 14, 15, 16, 17] [16, 17, 0, 1, 2, 3, 4, 5, 6, 7, 8, 9, 10, 11, 12, 13, 14, 15] rfl rfl (by decide) (fun u => rfl)) hS 4 rfl rfl rfl rfl hl.1 rfl (Nat.le_of_ble_eq_true rfl) dX3_readChoice_15 (fun r_4 S0_3 H locs hg hP hD hS => ?_)
  have hP : va_P G.1 classes (wX6 G o0 d0 S0_3 ++ (wX4 G o1 d1 S1_1)) H := hP
  have hD : va_D A (wX6 G o0 d0 S0_3 ++ (wX4 G o1 d1 S1_1)) := hD
  refine z_iast hx hb hK hP hD hS 15 0 rfl rfl hg.1 dX3_readChoice_18 (zst S1_1 14 r_2.toNatClampNeg r_4) (fun S : ZS => wX6 G o0 d0 S0_3 ++ (wX4 G o1 d1 S)) rfl (fun S1_5 H locs eS1_5 hP hD hS => ?_)
  have hg := hg.2 S1_5 eS1_5
  refine lv_aload_n hx hb dX3_readChoice_19 rfl (lv_at hl 1 rfl) ?_
  refine lv_iconst (v := 2) hx hb dX3_readChoice_20 (by decide) ?_
  refine lv_bipush (v := 8) hx hb dX3_readChoice_21 (by decide) ?_
  refine zcVi (As := [.int 2, .int 8]) (rest := []) (C := RX6) Cx (c_X6_take l G o0 d0 2 8 S0_3 _ hg) zv_X6_take q_376 ⟨⟨rfl, rfl⟩, Nat.le_of_ble_eq_true rfl, Nat.le_of_ble_eq_true rfl⟩ (zJ.sub (wr := wX4 G o1 d1 S1_5) (w2 := (fun u : ZS => wX6 G o0 d0 u ++ (wX4 G o1 d1 S1_5))) hP hD hS hA [0, 1] [2, 3, 4, 5, 6, 7, 8, 9, 10, 11, 12, 13, 14, 15, 16, 17] [16, 17, 0, 1, 2, 3, 4, 5, 6, 7, 8, 9, 10, 11, 12, 13, 14, 15] rfl rfl (by decide) (fun u => rfl)) hS 4 rfl rfl rfl rfl hl.1 rfl (Nat.le_of_ble_eq_true rfl) dX3_readChoice_23 (fun r_7 S0_6 H locs hg hP hD hS => ?_)
  have hP : va_P G.1 classes (wX6 G o0 d0 S0_6 ++ (wX4 G o1 d1 S1_5)) H := hP
  have hD : va_D A (wX6 G o0 d0 S0_6 ++ (wX4 G o1 d1 S1_5)) := hD
  refine lv_istore_n (lv' := [(3, .int r_7), (2, .int r_2), (0, .ref o0), (1, .ref o1)]) hx hb dX3_readChoice_26 rfl hl (by decide) rfl (fun ls hl => ?_)
  refine lv_aload_n hx hb dX3_readChoice_27 rfl (lv_at hl 2 rfl) ?_
  refine va_get (D := G.1) (ci := 4) (v := .int (S0_6 2 0)) (C := RX6) (T := TX6) (N := 7) hx hb hT iX6 hown hK hP 0 rfl rfl 2 (by decide) (hT _ q_32) (fun _ h9 => h9) rfl dX3_readChoice_28 ?_
  refine lv_iconst (v := 2) hx hb dX3_readChoice_31 (by decide) ?_
  refine lv_icmp_ne (tgt := 48) hx hb dX3_readChoice_32 (by decide) (fun c_8 => ?_) (fun c_8 => ?_)
  · have hg := hg.2 c_8
    exact J48 _ _ _ _ _ _ _ hg hP hD hS (lv_sub hl [2, 3, 1, 0] rfl)
  · have hg := hg.1 c_8
    refine lv_aload_n hx hb dX3_readChoice_35 rfl (lv_at hl 2 rfl) ?_
    refine va_get (D := G.1) (ci := 4) (v := .int (S0_6 5 0)) (C := RX6) (T := TX6) (N := 7) hx hb hT iX6 hown hK hP 0 rfl rfl 5 (by decide) (hT _ q_37) (fun _ h9 => h9) rfl dX3_readChoice_36 ?_
    refine lv_iload_n hx hb dX3_readChoice_39 rfl (lv_at hl 0 rfl) ?_
    refine lv_icmp_ne (tgt := 48) hx hb dX3_readChoice_40 (by decide) (fun c_9 => ?_) (fun c_9 => ?_)
    · have hg := hg.2 c_9
      exact J48 _ _ _ _ _ _ _ hg hP hD hS (lv_sub hl [2, 3, 1, 0] rfl)
    · have hg := hg.1 c_9
      refine lv_aload_n hx hb dX3_readChoice_43 rfl (lv_at hl 2 rfl) ?_
      refine lv_iconst (v := 1) hx hb dX3_readChoice_44 (by decide) ?_
      refine z_put (D := G.1) (ci := 4) (v := .int 1) (ty := .boolean) (C := RX6) (T := TX6) (N := 7) hx hb hT iX6 tyX6 tyX6_ok nmX6 hown hK hP hD hS 0 rfl rfl 6 (by decide) (hT _ q_39) (fun _ h9 => h9) rfl (by decide +kernel) rfl rfl (Nat.le_of_ble_eq_true rfl) dX3_readChoice_45 (zst S0_6 6 0 1) (fun S : ZS => wX6 G o0 d0 S ++ (wX4 G o1 d1 S1_5)) rfl (fun S0_10 H locs eS0_10 hP hD hS => ?_)
      have hg := hg S0_10 eS0_10
      exact J48 _ _ _ _ _ _ _ hg hP hD hS (lv_sub hl [2, 3, 1, 0] rfl)
theorem zv_X3_readReturn : zSt yX3_readReturn cX3_readReturn 3 none 2 := ⟨q_409, q_9, q_410, by decide +kernel⟩
set_option maxHeartbeats 4000000 in
set_option maxRecDepth 100000 in
theorem c_X3_readReturn (l : Launch) (G : ZG) (o0 : Nat) (d0 : Nat → Nat) (o1 : Nat) (d1 : Nat → Nat) (S0 : ZS) (S1 : ZS) (Q : ZS → ZS → Prop) (hg : g_X3_readReturn S0 S1 Q) : Kv l G yX3_readReturn cX3_readReturn 3 rm_X3_readReturn [.ref o0, .ref o1] (wX6 G o0 d0 S0 ++ (wX4 G o1 d1 S1)) (fun u : ZS × ZS => wX6 G o0 d0 (u.1) ++ (wX4 G o1 d1 (u.2))) (fun u => Q u.1 u.2) := by
  refine Kv.of (by decide) (Nat.le_of_ble_eq_true rfl) ?_
  intro p e s m args below meth c A QQ ls Cx hret hl hP hD hS
  obtain ⟨hx, hb, hml, hown, hT, hK, hA⟩ := id Cx
  have hl : lv_has ls 3 [(0, .ref o0), (1, .ref o1)] := hl
  refine lv_aload_n hx hb dX3_readReturn_0 rfl (lv_at hl 1 rfl) ?_
  refine lv_iconst (v := 2) hx hb dX3_readReturn_1 (by decide) ?_
  refine zcVi (As := [.int 2]) (rest := []) (C := RX4) Cx (c_X4_endBlock l G o1 d1 2 S1 _ hg) zv_X4_endBlock q_401 ⟨⟨rfl, rfl⟩, Nat.le_of_ble_eq_true rfl, Nat.le_of_ble_eq_true rfl⟩ (zJ.sub (wr := wX6 G o0 d0 S0) (w2 := (fun u : ZS => wX6 G o0 d0 S0 ++ (wX4 G o1 d1 u))) hP hD hS hA [2, 3, 4, 5, 6, 7, 8, 9, 10, 11, 12, 13, 14, 15, 16, 17] [0, 1] [0, 1, 2, 3, 4, 5, 6, 7, 8, 9, 10, 11, 12, 13, 14, 15, 16, 17] rfl rfl (by decide) (fun u => rfl)) hS 3 rfl rfl rfl rfl hl.1 rfl (Nat.le_of_ble_eq_true rfl) dX3_readReturn_2 (fun r_2 S1_1 H locs hg hP hD hS => ?_)
  have hP : va_P G.1 classes (wX6 G o0 d0 S0 ++ (wX4 G o1 d1 S1_1)) H := hP
  have hD : va_D A (wX6 G o0 d0 S0 ++ (wX4 G o1 d1 S1_1)) := hD
  refine lv_istore_n (lv' := [(2, .int r_2), (0, .ref o0), (1, .ref o1)]) hx hb dX3_readReturn_5 rfl hl (by decide) rfl (fun ls hl => ?_)
  refine lv_aload_n hx hb dX3_readReturn_6 rfl (lv_at hl 2 rfl) ?_
  refine va_get (D := G.1) (ci := 3) (v := .ref (d1 14)) (C := RX4) (T := TX4) (N := 17) hx hb hT iX4 hown hK hP 2 rfl rfl 14 (by decide) (hT _ q_115) (fun _ h9 => h9) rfl dX3_readReturn_7 ?_
  refine lv_iload_n hx hb dX3_readReturn_10 rfl (lv_at hl 0 rfl) ?_
  refine lv_aload_n hx hb dX3_readReturn_11 rfl (lv_at hl 1 rfl) ?_
  refine lv_iconst (v := 2) hx hb dX3_readReturn_12 (by decide) ?_
  refine lv_bipush (v := 24) hx hb dX3_readReturn_13 (by decide) ?_
  refine zcVi (As := [.int 2, .int 24]) (rest := [.int r_2, .ref (d1 14)]) (C := RX6) Cx (c_X6_take l G o0 d0 2 24 S0 _ hg) zv_X6_take q_376 ⟨⟨rfl, rfl⟩, Nat.le_of_ble_eq_true rfl, Nat.le_of_ble_eq_true rfl⟩ (zJ.sub (wr := wX4 G o1 d1 S1_1) (w2 := (fun u : ZS => wX6 G o0 d0 u ++ (wX4 G o1 d1 S1_1))) hP hD hS hA [0, 1] [2, 3, 4, 5, 6, 7, 8, 9, 10, 11, 12, 13, 14, 15, 16, 17] [16, 17, 0, 1, 2, 3, 4, 5, 6, 7, 8, 9, 10, 11, 12, 13, 14, 15] rfl rfl (by decide) (fun u => rfl)) hS 4 rfl rfl rfl rfl hl.1 rfl (Nat.le_of_ble_eq_true rfl) dX3_readReturn_15 (fun r_4 S0_3 H locs hg hP hD hS => ?_)
  have hP : va_P G.1 classes (wX6 G o0 d0 S0_3 ++ (wX4 G o1 d1 S1_1)) H := hP
  have hD : va_D A (wX6 G o0 d0 S0_3 ++ (wX4 G o1 d1 S1_1)) := hD
  refine z_iast hx hb hK hP hD hS 15 0 rfl rfl hg.1 dX3_readReturn_18 (zst S1_1 14 r_2.toNatClampNeg r_4) (fun S : ZS => wX6 G o0 d0 S0_3 ++ (wX4 G o1 d1 S)) rfl (fun S1_5 H locs eS1_5 hP hD hS => ?_)
  have hg := hg.2 S1_5 eS1_5
  exact hret _ _ (S0_3, S1_5) _ _ hg hP hD hS dX3_readReturn_19
theorem zv_X3_readItem : zSt yX3_readItem cX3_readItem 3 none 2 := ⟨q_346, q_9, q_347, by decide +kernel⟩
set_option maxHeartbeats 4000000 in
set_option maxRecDepth 100000 in
theorem c_X3_readItem (l : Launch) (G : ZG) (o0 : Nat) (d0 : Nat → Nat) (o1 : Nat) (d1 : Nat → Nat) (S0 : ZS) (S1 : ZS) (Q : ZS → ZS → Prop) (hg : g_X3_readItem S0 S1 Q) : Kv l G yX3_readItem cX3_readItem 3 rm_X3_readItem [.ref o0, .ref o1] (wX6 G o0 d0 S0 ++ (wX4 G o1 d1 S1)) (fun u : ZS × ZS => wX6 G o0 d0 (u.1) ++ (wX4 G o1 d1 (u.2))) (fun u => Q u.1 u.2) := by
  refine Kv.of (by decide) (Nat.le_of_ble_eq_true rfl) ?_
  intro p e s m args below meth c A QQ ls Cx hret hl hP hD hS
  obtain ⟨hx, hb, hml, hown, hT, hK, hA⟩ := id Cx
  have hl : lv_has ls 3 [(0, .ref o0), (1, .ref o1)] := hl
  have J177 : ∀ (S0 : ZS) (S1 : ZS) (H : Heap) (locs : List Loc) (ls : Array Slot), G_X3_readItem_177 Q S0 S1 → va_P G.1 classes (wX6 G o0 d0 S0 ++ (wX4 G o1 d1 S1)) H → va_D A (wX6 G o0 d0 S0 ++ (wX4 G o1 d1 S1)) → va_S A s.heap H locs → lv_has ls 3 [(0, .ref o0)] → W p l e rm_X3_readItem s m args below meth c H locs 0 0 QQ (F0 m 177 ls []) := by
    intro S0 S1 H locs ls hg hP hD hS hl
    refine lv_aload_n hx hb dX3_readItem_177 rfl (lv_at hl 0 rfl) ?_
    refine lv_iconst (v := 4) hx hb dX3_readItem_178 (by decide) ?_
    refine lv_sipush (v := 1000) hx hb dX3_readItem_179 (by decide) ?_
    refine zcVi (As := [.int 4, .int 1000]) (rest := []) (C := RX6) Cx (c_X6_take l G o0 d0 4 1000 S0 _ hg) zv_X6_take q_376 ⟨⟨rfl, rfl⟩, Nat.le_of_ble_eq_true rfl, Nat.le_of_ble_eq_true rfl⟩ (zJ.sub (wr := wX4 G o1 d1 S1) (w2 := (fun u : ZS => wX6 G o0 d0 u ++ (wX4 G o1 d1 S1))) hP hD hS hA [0, 1] [2, 3, 4, 5, 6, 7, 8, 9, 10, 11, 12, 13, 14, 15, 16, 17] [16, 17, 0, 1, 2, 3, 4, 5, 6, 7, 8, 9, 10, 11, 12, 13, 14, 15] rfl rfl (by decide) (fun u => rfl)) hS 4 rfl rfl rfl rfl hl.1 rfl (Nat.le_of_ble_eq_true rfl) dX3_readItem_182 (fun r_2 S0_1 H locs hg hP hD hS => ?_)
    have hP : va_P G.1 classes (wX6 G o0 d0 S0_1 ++ (wX4 G o1 d1 S1)) H := hP
    have hD : va_D A (wX6 G o0 d0 S0_1 ++ (wX4 G o1 d1 S1)) := hD
    refine lv_pop hx hb dX3_readItem_185 rfl ?_
    exact hret _ _ (S0_1, S1) _ _ hg hP hD hS dX3_readItem_186
  have J172 : ∀ (S0 : ZS) (S1 : ZS) (H : Heap) (locs : List Loc) (ls : Array Slot), G_X3_readItem_172 Q S0 S1 → va_P G.1 classes (wX6 G o0 d0 S0 ++ (wX4 G o1 d1 S1)) H → va_D A (wX6 G o0 d0 S0 ++ (wX4 G o1 d1 S1)) → va_S A s.heap H locs → lv_has ls 3 [(0, .ref o0), (1, .ref o1)] → W p l e rm_X3_readItem s m args below meth c H locs 0 0 QQ (F0 m 172 ls []) := by
    intro S0 S1 H locs ls hg hP hD hS hl
    refine lv_aload_n hx hb dX3_readItem_172 rfl (lv_at hl 0 rfl) ?_
    refine lv_aload_n hx hb dX3_readItem_173 rfl (lv_at hl 1 rfl) ?_
    refine zcSv (As := [.ref o0, .ref o1]) (rest := []) Cx (c_X3_readReturn l G o0 d0 o1 d1 S0 S1 _ hg) zv_X3_readReturn q_408 ⟨⟨rfl, rfl⟩, Nat.le_of_ble_eq_true rfl, Nat.le_of_ble_eq_true rfl⟩ (zJ.all hP hD hS hA) hS rfl hl.1 rfl (Nat.le_of_ble_eq_true rfl) dX3_readItem_174 (fun u H locs hg hP hD hS => ?_)
    obtain ⟨S0_1, S1_2⟩ := u
    have hP : va_P G.1 classes (wX6 G o0 d0 S0_1 ++ (wX4 G o1 d1 S1_2)) H := hP
    have hD : va_D A (wX6 G o0 d0 S0_1 ++ (wX4 G o1 d1 S1_2)) := hD
    exact J177 _ _ _ _ _ hg hP hD hS (lv_sub hl [0] rfl)
  have J16 : ∀ (t0 : Int32) (S0 : ZS) (S1 : ZS) (H : Heap) (locs : List Loc) (ls : Array Slot), G_X3_readItem_16 Q t0 S0 S1 → va_P G.1 classes (wX6 G o0 d0 S0 ++ (wX4 G o1 d1 S1)) H → va_D A (wX6 G o0 d0 S0 ++ (wX4 G o1 d1 S1)) → va_S A s.heap H locs → lv_has ls 3 [(0, .ref o0), (1, .ref o1)] → W p l e rm_X3_readItem s m args below meth c H locs 0 0 QQ (F0 m 16 ls [.int t0]) := by
    intro t0 S0 S1 H locs ls hg hP hD hS hl
    refine lv_istore_n (lv' := [(2, .int t0), (0, .ref o0), (1, .ref o1)]) hx hb dX3_readItem_16 rfl hl (by decide) rfl (fun ls hl => ?_)
    refine lv_aload_n hx hb dX3_readItem_17 rfl (lv_at hl 2 rfl) ?_
    refine lv_iload_n hx hb dX3_readItem_18 rfl (lv_at hl 0 rfl) ?_
    refine zcVi (As := [.int t0]) (rest := []) (C := RX4) Cx (c_X4_admits l G o1 d1 t0 S1 _ hg) zv_X4_admits q_348 ⟨⟨rfl, rfl⟩, Nat.le_of_ble_eq_true rfl, Nat.le_of_ble_eq_true rfl⟩ (zJ.sub (wr := wX6 G o0 d0 S0) (w2 := (fun u : Unit => wX6 G o0 d0 S0 ++ (wX4 G o1 d1 S1))) hP hD hS hA [2, 3, 4, 5, 6, 7, 8, 9, 10, 11, 12, 13, 14, 15, 16, 17] [0, 1] [0, 1, 2, 3, 4, 5, 6, 7, 8, 9, 10, 11, 12, 13, 14, 15, 16, 17] rfl rfl (by decide) (fun u => rfl)) hS 3 rfl rfl rfl rfl hl.1 rfl (Nat.le_of_ble_eq_true rfl) dX3_readItem_19 (fun r_1 _u H locs hg hP hD hS => ?_)
    refine lv_if_ne (tgt := 31) hx hb dX3_readItem_22 (by decide) (fun c_2 => ?_) (fun c_2 => ?_)
    · have hg := hg.2 c_2
      refine lv_aload_n hx hb dX3_readItem_31 rfl (lv_at hl 1 rfl) ?_
      refine zcVv (As := []) (rest := []) (C := RX6) Cx (c_X6_step l G o0 d0 S0 _ hg) zv_X6_step q_364 ⟨⟨rfl, rfl⟩, Nat.le_of_ble_eq_true rfl, Nat.le_of_ble_eq_true rfl⟩ (zJ.sub (wr := wX4 G o1 d1 S1) (w2 := (fun u : ZS => wX6 G o0 d0 u ++ (wX4 G o1 d1 S1))) hP hD hS hA [0, 1] [2, 3, 4, 5, 6, 7, 8, 9, 10, 11, 12, 13, 14, 15, 16, 17] [16, 17, 0, 1, 2, 3, 4, 5, 6, 7, 8, 9, 10, 11, 12, 13, 14, 15] rfl rfl (by decide) (fun u => rfl)) hS 4 rfl rfl rfl rfl hl.1 rfl (Nat.le_of_ble_eq_true rfl) dX3_readItem_32 (fun S0_3 H locs hg hP hD hS => ?_)
      have hP : va_P G.1 classes (wX6 G o0 d0 S0_3 ++ (wX4 G o1 d1 S1)) H := hP
      have hD : va_D A (wX6 G o0 d0 S0_3 ++ (wX4 G o1 d1 S1)) := hD
      refine lv_iload_n hx hb dX3_readItem_35 rfl (lv_at hl 0 rfl) ?_
      by_cases k98 : t0 = 98
      · have hg := hg.1 k98
        refine lv_tableIn (tgt := 116) hx hb dX3_readItem_36 (by rw [k98]; decide) (by rw [k98]; decide) (by rw [k98]; rfl) (by decide) ?_
        refine lv_aload_n hx hb dX3_readItem_116 rfl (lv_at hl 2 rfl) ?_
        refine zcVv (As := []) (rest := []) (C := RX4) Cx (c_X4_beginBlock l G o1 d1 S1 _ hg) zv_X4_beginBlock q_365 ⟨⟨rfl, rfl⟩, Nat.le_of_ble_eq_true rfl, Nat.le_of_ble_eq_true rfl⟩ (zJ.sub (wr := wX6 G o0 d0 S0_3) (w2 := (fun u : ZS => wX6 G o0 d0 S0_3 ++ (wX4 G o1 d1 u))) hP hD hS hA [2, 3, 4, 5, 6, 7, 8, 9, 10, 11, 12, 13, 14, 15, 16, 17] [0, 1] [0, 1, 2, 3, 4, 5, 6, 7, 8, 9, 10, 11, 12, 13, 14, 15, 16, 17] rfl rfl (by decide) (fun u => rfl)) hS 3 rfl rfl rfl rfl hl.1 rfl (Nat.le_of_ble_eq_true rfl) dX3_readItem_117 (fun S1_4 H locs hg hP hD hS => ?_)
        have hP : va_P G.1 classes (wX6 G o0 d0 S0_3 ++ (wX4 G o1 d1 S1_4)) H := hP
        have hD : va_D A (wX6 G o0 d0 S0_3 ++ (wX4 G o1 d1 S1_4)) := hD
        refine lv_goto (tgt := 177) hx hb dX3_readItem_120 (by decide) ?_
        exact J177 _ _ _ _ _ hg hP hD hS (lv_sub hl [1] rfl)
      by_cases k99 : t0 = 99
      · have hg := hg.2.2.2.2.2.2.2 (by rw [k99]; decide) (by rw [k99]; decide) (by rw [k99]; decide) (by rw [k99]; decide) (by rw [k99]; decide) (by rw [k99]; decide) (by rw [k99]; decide)
        refine lv_tableIn (tgt := 172) hx hb dX3_readItem_36 (by rw [k99]; decide) (by rw [k99]; decide) (by rw [k99]; rfl) (by decide) ?_
        exact J172 _ _ _ _ _ hg hP hD hS (lv_sub hl [1, 2] rfl)
      by_cases k100 : t0 = 100
      · have hg := hg.2.2.2.2.2.2.2 (by rw [k100]; decide) (by rw [k100]; decide) (by rw [k100]; decide) (by rw [k100]; decide) (by rw [k100]; decide) (by rw [k100]; decide) (by rw [k100]; decide)
        refine lv_tableIn (tgt := 172) hx hb dX3_readItem_36 (by rw [k100]; decide) (by rw [k100]; decide) (by rw [k100]; rfl) (by decide) ?_
        exact J172 _ _ _ _ _ hg hP hD hS (lv_sub hl [1, 2] rfl)
      by_cases k101 : t0 = 101
      · have hg := hg.2.2.2.2.2.2.2 (by rw [k101]; decide) (by rw [k101]; decide) (by rw [k101]; decide) (by rw [k101]; decide) (by rw [k101]; decide) (by rw [k101]; decide) (by rw [k101]; decide)
        refine lv_tableIn (tgt := 172) hx hb dX3_readItem_36 (by rw [k101]; decide) (by rw [k101]; decide) (by rw [k101]; rfl) (by decide) ?_
        exact J172 _ _ _ _ _ hg hP hD hS (lv_sub hl [1, 2] rfl)
      by_cases k102 : t0 = 102
      · have hg := hg.2.2.2.2.2.2.2 (by rw [k102]; decide) (by rw [k102]; decide) (by rw [k102]; decide) (by rw [k102]; decide) (by rw [k102]; decide) (by rw [k102]; decide) (by rw [k102]; decide)
        refine lv_tableIn (tgt := 172) hx hb dX3_readItem_36 (by rw [k102]; decide) (by rw [k102]; decide) (by rw [k102]; rfl) (by decide) ?_
        exact J172 _ _ _ _ _ hg hP hD hS (lv_sub hl [1, 2] rfl)
      by_cases k103 : t0 = 103
      · have hg := hg.2.1 k103
        refine lv_tableIn (tgt := 156) hx hb dX3_readItem_36 (by rw [k103]; decide) (by rw [k103]; decide) (by rw [k103]; rfl) (by decide) ?_
        refine lv_aload_n hx hb dX3_readItem_156 rfl (lv_at hl 1 rfl) ?_
        refine lv_aload_n hx hb dX3_readItem_157 rfl (lv_at hl 2 rfl) ?_
        refine zcSv (As := [.ref o0, .ref o1]) (rest := []) Cx (c_X3_readGoing l G o0 d0 o1 d1 S0_3 S1 _ hg) zv_X3_readGoing q_398 ⟨⟨rfl, rfl⟩, Nat.le_of_ble_eq_true rfl, Nat.le_of_ble_eq_true rfl⟩ (zJ.all hP hD hS hA) hS rfl hl.1 rfl (Nat.le_of_ble_eq_true rfl) dX3_readItem_158 (fun u H locs hg hP hD hS => ?_)
        obtain ⟨S0_5, S1_6⟩ := u
        have hP : va_P G.1 classes (wX6 G o0 d0 S0_5 ++ (wX4 G o1 d1 S1_6)) H := hP
        have hD : va_D A (wX6 G o0 d0 S0_5 ++ (wX4 G o1 d1 S1_6)) := hD
        refine lv_goto (tgt := 177) hx hb dX3_readItem_161 (by decide) ?_
        exact J177 _ _ _ _ _ hg hP hD hS (lv_sub hl [1] rfl)
      by_cases k104 : t0 = 104
      · have hg := hg.2.2.2.2.2.2.2 (by rw [k104]; decide) (by rw [k104]; decide) (by rw [k104]; decide) (by rw [k104]; decide) (by rw [k104]; decide) (by rw [k104]; decide) (by rw [k104]; decide)
        refine lv_tableIn (tgt := 172) hx hb dX3_readItem_36 (by rw [k104]; decide) (by rw [k104]; decide) (by rw [k104]; rfl) (by decide) ?_
        exact J172 _ _ _ _ _ hg hP hD hS (lv_sub hl [1, 2] rfl)
      by_cases k105 : t0 = 105
      · have hg := hg.2.2.1 k105
        refine lv_tableIn (tgt := 123) hx hb dX3_readItem_36 (by rw [k105]; decide) (by rw [k105]; decide) (by rw [k105]; rfl) (by decide) ?_
        refine lv_aload_n hx hb dX3_readItem_123 rfl (lv_at hl 2 rfl) ?_
        refine lv_iconst (v := 1) hx hb dX3_readItem_124 (by decide) ?_
        refine zcVi (As := [.int 1]) (rest := []) (C := RX4) Cx (c_X4_addName l G o1 d1 1 S1 _ hg) zv_X4_addName q_369 ⟨⟨rfl, rfl⟩, Nat.le_of_ble_eq_true rfl, Nat.le_of_ble_eq_true rfl⟩ (zJ.sub (wr := wX6 G o0 d0 S0_3) (w2 := (fun u : ZS => wX6 G o0 d0 S0_3 ++ (wX4 G o1 d1 u))) hP hD hS hA [2, 3, 4, 5, 6, 7, 8, 9, 10, 11, 12, 13, 14, 15, 16, 17] [0, 1] [0, 1, 2, 3, 4, 5, 6, 7, 8, 9, 10, 11, 12, 13, 14, 15, 16, 17] rfl rfl (by decide) (fun u => rfl)) hS 3 rfl rfl rfl rfl hl.1 rfl (Nat.le_of_ble_eq_true rfl) dX3_readItem_125 (fun r_8 S1_7 H locs hg hP hD hS => ?_)
        have hP : va_P G.1 classes (wX6 G o0 d0 S0_3 ++ (wX4 G o1 d1 S1_7)) H := hP
        have hD : va_D A (wX6 G o0 d0 S0_3 ++ (wX4 G o1 d1 S1_7)) := hD
        refine lv_pop hx hb dX3_readItem_128 rfl ?_
        refine lv_goto (tgt := 177) hx hb dX3_readItem_129 (by decide) ?_
        exact J177 _ _ _ _ _ hg hP hD hS (lv_sub hl [1] rfl)
      by_cases k106 : t0 = 106
      · have hg := hg.2.2.2.1 k106
        refine lv_tableIn (tgt := 148) hx hb dX3_readItem_36 (by rw [k106]; decide) (by rw [k106]; decide) (by rw [k106]; rfl) (by decide) ?_
        refine lv_aload_n hx hb dX3_readItem_148 rfl (lv_at hl 1 rfl) ?_
        refine lv_aload_n hx hb dX3_readItem_149 rfl (lv_at hl 2 rfl) ?_
        refine zcSv (As := [.ref o0, .ref o1]) (rest := []) Cx (c_X3_readArms l G o0 d0 o1 d1 S0_3 S1 _ hg) zv_X3_readArms q_383 ⟨⟨rfl, rfl⟩, Nat.le_of_ble_eq_true rfl, Nat.le_of_ble_eq_true rfl⟩ (zJ.all hP hD hS hA) hS rfl hl.1 rfl (Nat.le_of_ble_eq_true rfl) dX3_readItem_150 (fun u H locs hg hP hD hS => ?_)
        obtain ⟨S0_9, S1_10⟩ := u
        have hP : va_P G.1 classes (wX6 G o0 d0 S0_9 ++ (wX4 G o1 d1 S1_10)) H := hP
        have hD : va_D A (wX6 G o0 d0 S0_9 ++ (wX4 G o1 d1 S1_10)) := hD
        refine lv_goto (tgt := 177) hx hb dX3_readItem_153 (by decide) ?_
        exact J177 _ _ _ _ _ hg hP hD hS (lv_sub hl [1] rfl)
      by_cases k107 : t0 = 107
      · have hg := hg.2.2.2.2.1 k107
        refine lv_tableIn (tgt := 132) hx hb dX3_readItem_36 (by rw [k107]; decide) (by rw [k107]; decide) (by rw [k107]; rfl) (by decide) ?_
        refine lv_aload_n hx hb dX3_readItem_132 rfl (lv_at hl 1 rfl) ?_
        refine lv_aload_n hx hb dX3_readItem_133 rfl (lv_at hl 2 rfl) ?_
        refine zcSv (As := [.ref o0, .ref o1]) (rest := []) Cx (c_X3_readNumber l G o0 d0 o1 d1 S0_3 S1 _ hg) zv_X3_readNumber q_373 ⟨⟨rfl, rfl⟩, Nat.le_of_ble_eq_true rfl, Nat.le_of_ble_eq_true rfl⟩ (zJ.all hP hD hS hA) hS rfl hl.1 rfl (Nat.le_of_ble_eq_true rfl) dX3_readItem_134 (fun u H locs hg hP hD hS => ?_)
        obtain ⟨S0_11, S1_12⟩ := u
        have hP : va_P G.1 classes (wX6 G o0 d0 S0_11 ++ (wX4 G o1 d1 S1_12)) H := hP
        have hD : va_D A (wX6 G o0 d0 S0_11 ++ (wX4 G o1 d1 S1_12)) := hD
        refine lv_goto (tgt := 177) hx hb dX3_readItem_137 (by decide) ?_
        exact J177 _ _ _ _ _ hg hP hD hS (lv_sub hl [1] rfl)
      by_cases k108 : t0 = 108
      · have hg := hg.2.2.2.2.2.2.2 (by rw [k108]; decide) (by rw [k108]; decide) (by rw [k108]; decide) (by rw [k108]; decide) (by rw [k108]; decide) (by rw [k108]; decide) (by rw [k108]; decide)
        refine lv_tableIn (tgt := 172) hx hb dX3_readItem_36 (by rw [k108]; decide) (by rw [k108]; decide) (by rw [k108]; rfl) (by decide) ?_
        exact J172 _ _ _ _ _ hg hP hD hS (lv_sub hl [1, 2] rfl)
      by_cases k109 : t0 = 109
      · have hg := hg.2.2.2.2.2.2.2 (by rw [k109]; decide) (by rw [k109]; decide) (by rw [k109]; decide) (by rw [k109]; decide) (by rw [k109]; decide) (by rw [k109]; decide) (by rw [k109]; decide)
        refine lv_tableIn (tgt := 172) hx hb dX3_readItem_36 (by rw [k109]; decide) (by rw [k109]; decide) (by rw [k109]; rfl) (by decide) ?_
        exact J172 _ _ _ _ _ hg hP hD hS (lv_sub hl [1, 2] rfl)
      by_cases k110 : t0 = 110
      · have hg := hg.2.2.2.2.2.2.2 (by rw [k110]; decide) (by rw [k110]; decide) (by rw [k110]; decide) (by rw [k110]; decide) (by rw [k110]; decide) (by rw [k110]; decide) (by rw [k110]; decide)
        refine lv_tableIn (tgt := 172) hx hb dX3_readItem_36 (by rw [k110]; decide) (by rw [k110]; decide) (by rw [k110]; rfl) (by decide) ?_
        exact J172 _ _ _ _ _ hg hP hD hS (lv_sub hl [1, 2] rfl)
      by_cases k111 : t0 = 111
      · have hg := hg.2.2.2.2.2.1 k111
        refine lv_tableIn (tgt := 140) hx hb dX3_readItem_36 (by rw [k111]; decide) (by rw [k111]; decide) (by rw [k111]; rfl) (by decide) ?_
        refine lv_aload_n hx hb dX3_readItem_140 rfl (lv_at hl 1 rfl) ?_
        refine lv_aload_n hx hb dX3_readItem_141 rfl (lv_at hl 2 rfl) ?_
        refine zcSv (As := [.ref o0, .ref o1]) (rest := []) Cx (c_X3_readOperation l G o0 d0 o1 d1 S0_3 S1 _ hg) zv_X3_readOperation q_380 ⟨⟨rfl, rfl⟩, Nat.le_of_ble_eq_true rfl, Nat.le_of_ble_eq_true rfl⟩ (zJ.all hP hD hS hA) hS rfl hl.1 rfl (Nat.le_of_ble_eq_true rfl) dX3_readItem_142 (fun u H locs hg hP hD hS => ?_)
        obtain ⟨S0_13, S1_14⟩ := u
        have hP : va_P G.1 classes (wX6 G o0 d0 S0_13 ++ (wX4 G o1 d1 S1_14)) H := hP
        have hD : va_D A (wX6 G o0 d0 S0_13 ++ (wX4 G o1 d1 S1_14)) := hD
        refine lv_goto (tgt := 177) hx hb dX3_readItem_145 (by decide) ?_
        exact J177 _ _ _ _ _ hg hP hD hS (lv_sub hl [1] rfl)
      by_cases k112 : t0 = 112
      · have hg := hg.2.2.2.2.2.2.2 (by rw [k112]; decide) (by rw [k112]; decide) (by rw [k112]; decide) (by rw [k112]; decide) (by rw [k112]; decide) (by rw [k112]; decide) (by rw [k112]; decide)
        refine lv_tableIn (tgt := 172) hx hb dX3_readItem_36 (by rw [k112]; decide) (by rw [k112]; decide) (by rw [k112]; rfl) (by decide) ?_
        exact J172 _ _ _ _ _ hg hP hD hS (lv_sub hl [1, 2] rfl)
      by_cases k113 : t0 = 113
      · have hg := hg.2.2.2.2.2.2.1 k113
        refine lv_tableIn (tgt := 164) hx hb dX3_readItem_36 (by rw [k113]; decide) (by rw [k113]; decide) (by rw [k113]; rfl) (by decide) ?_
        refine lv_aload_n hx hb dX3_readItem_164 rfl (lv_at hl 1 rfl) ?_
        refine lv_aload_n hx hb dX3_readItem_165 rfl (lv_at hl 2 rfl) ?_
        refine zcSv (As := [.ref o0, .ref o1]) (rest := []) Cx (c_X3_readChoice l G o0 d0 o1 d1 S0_3 S1 _ hg) zv_X3_readChoice q_405 ⟨⟨rfl, rfl⟩, Nat.le_of_ble_eq_true rfl, Nat.le_of_ble_eq_true rfl⟩ (zJ.all hP hD hS hA) hS rfl hl.1 rfl (Nat.le_of_ble_eq_true rfl) dX3_readItem_166 (fun u H locs hg hP hD hS => ?_)
        obtain ⟨S0_15, S1_16⟩ := u
        have hP : va_P G.1 classes (wX6 G o0 d0 S0_15 ++ (wX4 G o1 d1 S1_16)) H := hP
        have hD : va_D A (wX6 G o0 d0 S0_15 ++ (wX4 G o1 d1 S1_16)) := hD
        refine lv_goto (tgt := 177) hx hb dX3_readItem_169 (by decide) ?_
        exact J177 _ _ _ _ _ hg hP hD hS (lv_sub hl [1] rfl)
      have hg := hg.2.2.2.2.2.2.2 k98 k103 k105 k106 k107 k111 k113
      have nk98 := lv_neT k98 (a := 98) (by decide)
      have nk99 := lv_neT k99 (a := 99) (by decide)
      have nk100 := lv_neT k100 (a := 100) (by decide)
      have nk101 := lv_neT k101 (a := 101) (by decide)
      have nk102 := lv_neT k102 (a := 102) (by decide)
      have nk103 := lv_neT k103 (a := 103) (by decide)
      have nk104 := lv_neT k104 (a := 104) (by decide)
      have nk105 := lv_neT k105 (a := 105) (by decide)
      have nk106 := lv_neT k106 (a := 106) (by decide)
      have nk107 := lv_neT k107 (a := 107) (by decide)
      have nk108 := lv_neT k108 (a := 108) (by decide)
      have nk109 := lv_neT k109 (a := 109) (by decide)
      have nk110 := lv_neT k110 (a := 110) (by decide)
      have nk111 := lv_neT k111 (a := 111) (by decide)
      have nk112 := lv_neT k112 (a := 112) (by decide)
      have nk113 := lv_neT k113 (a := 113) (by decide)
      refine lv_tableOut (tgt := 172) hx hb dX3_readItem_36 (by omega) (by decide) ?_
      exact J172 _ _ _ _ _ hg hP hD hS (lv_sub hl [1, 2] rfl)
    · have hg := hg.1 c_2
      refine lv_aload_n hx hb dX3_readItem_25 rfl (lv_at hl 1 rfl) ?_
      refine lv_iconst (v := 1) hx hb dX3_readItem_26 (by decide) ?_
      refine z_put (D := G.1) (ci := 4) (v := .int 1) (ty := .boolean) (C := RX6) (T := TX6) (N := 7) hx hb hT iX6 tyX6 tyX6_ok nmX6 hown hK hP hD hS 0 rfl rfl 6 (by decide) (hT _ q_39) (fun _ h9 => h9) rfl (by decide +kernel) rfl rfl (Nat.le_of_ble_eq_true rfl) dX3_readItem_27 (zst S0 6 0 1) (fun S : ZS => wX6 G o0 d0 S ++ (wX4 G o1 d1 S1)) rfl (fun S0_17 H locs eS0_17 hP hD hS => ?_)
      have hg := hg S0_17 eS0_17
      exact hret _ _ (S0_17, S1) _ _ hg hP hD hS dX3_readItem_30
  refine lv_aload_n hx hb dX3_readItem_0 rfl (lv_at hl 0 rfl) ?_
  refine va_get (D := G.1) (ci := 4) (v := .int (S0 2 0)) (C := RX6) (T := TX6) (N := 7) hx hb hT iX6 hown hK hP 0 rfl rfl 2 (by decide) (hT _ q_32) (fun _ h9 => h9) rfl dX3_readItem_1 ?_
  refine lv_iconst (v := 1) hx hb dX3_readItem_4 (by decide) ?_
  refine lv_icmp_ne (tgt := 15) hx hb dX3_readItem_5 (by decide) (fun c_1 => ?_) (fun c_1 => ?_)
  · have hg := hg.2 c_1
    refine lv_iconst (v := 0) hx hb dX3_readItem_15 (by decide) ?_
    exact J16 _ _ _ _ _ _ hg hP hD hS (lv_sub hl [0, 1] rfl)
  · have hg := hg.1 c_1
    refine lv_aload_n hx hb dX3_readItem_8 rfl (lv_at hl 0 rfl) ?_
    refine va_get (D := G.1) (ci := 4) (v := .int (S0 5 0)) (C := RX6) (T := TX6) (N := 7) hx hb hT iX6 hown hK hP 0 rfl rfl 5 (by decide) (hT _ q_37) (fun _ h9 => h9) rfl dX3_readItem_9 ?_
    refine lv_goto (tgt := 16) hx hb dX3_readItem_12 (by decide) ?_
    exact J16 _ _ _ _ _ _ hg hP hD hS (lv_sub hl [0, 1] rfl)
theorem zv_X4_isWhole : zV yX4_isWhole RX4 cX4_isWhole 1 (some .boolean) 0 := ⟨q_412, q_413, q_3, q_414, by decide +kernel⟩
set_option maxHeartbeats 4000000 in
set_option maxRecDepth 100000 in
theorem c_X4_isWhole (l : Launch) (G : ZG) (o0 : Nat) (d0 : Nat → Nat) (S0 : ZS) (Q : Int32 → Prop) (hg : g_X4_isWhole S0 Q) : Ki l G yX4_isWhole cX4_isWhole 1 .boolean rm_X4_isWhole [.ref o0] (wX4 G o0 d0 S0) (fun _ : Unit => wX4 G o0 d0 S0) (fun r _ => Q r ) := by
  refine Ki.of (by decide) (Nat.le_of_ble_eq_true rfl) ?_
  intro p e s m args below meth c A QQ ls Cx hret hl hP hD hS
  obtain ⟨hx, hb, hml, hown, hT, hK, hA⟩ := id Cx
  have hl : lv_has ls 1 [(0, .ref o0)] := hl
  refine lv_aload_n hx hb dX4_isWhole_0 rfl (lv_at hl 0 rfl) ?_
  refine va_get (D := G.1) (ci := 3) (v := .int (S0 0 0)) (C := RX4) (T := TX4) (N := 17) hx hb hT iX4 hown hK hP 0 rfl rfl 0 (by decide) (hT _ q_62) (fun _ h9 => h9) rfl dX4_isWhole_1 ?_
  refine lv_if_le (tgt := 26) hx hb dX4_isWhole_4 (by decide) (fun c_1 => ?_) (fun c_1 => ?_)
  · have hg := hg.1 c_1
    refine lv_iconst (v := 0) hx hb dX4_isWhole_26 (by decide) ?_
    exact hret _ _ _ () _ _ hg rfl hP hD hS dX4_isWhole_27
  · have hg := hg.2 c_1
    refine lv_aload_n hx hb dX4_isWhole_7 rfl (lv_at hl 0 rfl) ?_
    refine va_get (D := G.1) (ci := 3) (v := .ref (d0 13)) (C := RX4) (T := TX4) (N := 17) hx hb hT iX4 hown hK hP 0 rfl rfl 13 (by decide) (hT _ q_108) (fun _ h9 => h9) rfl dX4_isWhole_8 ?_
    refine lv_aload_n hx hb dX4_isWhole_11 rfl (lv_at hl 0 rfl) ?_
    refine va_get (D := G.1) (ci := 3) (v := .int (S0 0 0)) (C := RX4) (T := TX4) (N := 17) hx hb hT iX4 hown hK hP 0 rfl rfl 0 (by decide) (hT _ q_62) (fun _ h9 => h9) rfl dX4_isWhole_12 ?_
    refine lv_iconst (v := 1) hx hb dX4_isWhole_15 (by decide) ?_
    refine lv_isub hx hb dX4_isWhole_16 ?_
    refine va_iald hx hb hK hP 12 0 rfl rfl hg.1 dX4_isWhole_17 ?_
    have hg := hg.2
    refine lv_iconst (v := (-1)) hx hb dX4_isWhole_18 (by decide) ?_
    refine lv_icmp_eq (tgt := 26) hx hb dX4_isWhole_19 (by decide) (fun c_2 => ?_) (fun c_2 => ?_)
    · have hg := hg.1 c_2
      refine lv_iconst (v := 0) hx hb dX4_isWhole_26 (by decide) ?_
      exact hret _ _ _ () _ _ hg rfl hP hD hS dX4_isWhole_27
    · have hg := hg.2 c_2
      refine lv_iconst (v := 1) hx hb dX4_isWhole_22 (by decide) ?_
      refine lv_goto (tgt := 27) hx hb dX4_isWhole_23 (by decide) ?_
      exact hret _ _ _ () _ _ hg rfl hP hD hS dX4_isWhole_27
theorem zv_X4_hasBlock : zV yX4_hasBlock RX4 cX4_hasBlock 2 (some .boolean) 1 := ⟨q_424, q_425, q_3, q_426, by decide +kernel⟩
set_option maxHeartbeats 4000000 in
set_option maxRecDepth 100000 in
theorem c_X4_hasBlock (l : Launch) (G : ZG) (o0 : Nat) (d0 : Nat → Nat) (x1 : Int32) (S0 : ZS) (Q : Int32 → Prop) (hg : g_X4_hasBlock x1 S0 Q) : Ki l G yX4_hasBlock cX4_hasBlock 2 .boolean rm_X4_hasBlock [.ref o0, .int x1] (wX4 G o0 d0 S0) (fun _ : Unit => wX4 G o0 d0 S0) (fun r _ => Q r ) := by
  refine Ki.of (by decide) (Nat.le_of_ble_eq_true rfl) ?_
  intro p e s m args below meth c A QQ ls Cx hret hl hP hD hS
  obtain ⟨hx, hb, hml, hown, hT, hK, hA⟩ := id Cx
  have hl : lv_has ls 2 [(0, .ref o0), (1, .int x1)] := hl
  refine lv_iload_n hx hb dX4_hasBlock_0 rfl (lv_at hl 1 rfl) ?_
  refine lv_if_lt (tgt := 16) hx hb dX4_hasBlock_1 (by decide) (fun c_1 => ?_) (fun c_1 => ?_)
  · have hg := hg.1 c_1
    refine lv_iconst (v := 0) hx hb dX4_hasBlock_16 (by decide) ?_
    exact hret _ _ _ () _ _ hg rfl hP hD hS dX4_hasBlock_17
  · have hg := hg.2 c_1
    refine lv_iload_n hx hb dX4_hasBlock_4 rfl (lv_at hl 1 rfl) ?_
    refine lv_aload_n hx hb dX4_hasBlock_5 rfl (lv_at hl 0 rfl) ?_
    refine va_get (D := G.1) (ci := 3) (v := .int (S0 0 0)) (C := RX4) (T := TX4) (N := 17) hx hb hT iX4 hown hK hP 0 rfl rfl 0 (by decide) (hT _ q_62) (fun _ h9 => h9) rfl dX4_hasBlock_6 ?_
    refine lv_icmp_ge (tgt := 16) hx hb dX4_hasBlock_9 (by decide) (fun c_2 => ?_) (fun c_2 => ?_)
    · have hg := hg.1 c_2
      refine lv_iconst (v := 0) hx hb dX4_hasBlock_16 (by decide) ?_
      exact hret _ _ _ () _ _ hg rfl hP hD hS dX4_hasBlock_17
    · have hg := hg.2 c_2
      refine lv_iconst (v := 1) hx hb dX4_hasBlock_12 (by decide) ?_
      refine lv_goto (tgt := 17) hx hb dX4_hasBlock_13 (by decide) ?_
      exact hret _ _ _ () _ _ hg rfl hP hD hS dX4_hasBlock_17
theorem zv_X4_endsTellOfWhatIsThere : zV yX4_endsTellOfWhatIsThere RX4 cX4_endsTellOfWhatIsThere 2 (some .boolean) 0 := ⟨q_420, q_421, q_3, q_422, by decide +kernel⟩
set_option maxHeartbeats 4000000 in
set_option maxRecDepth 100000 in
theorem c_X4_endsTellOfWhatIsThere (l : Launch) (G : ZG) (o0 : Nat) (d0 : Nat → Nat) (S0 : ZS) (Q : Int32 → Prop) (hg : g_X4_endsTellOfWhatIsThere S0 Q) : Ki l G yX4_endsTellOfWhatIsThere cX4_endsTellOfWhatIsThere 2 .boolean rm_X4_endsTellOfWhatIsThere [.ref o0] (wX4 G o0 d0 S0) (fun _ : Unit => wX4 G o0 d0 S0) (fun r _ => Q r ) := by
  refine Ki.of (by decide) (Nat.le_of_ble_eq_true rfl) ?_
  intro p e s m args below meth c A QQ ls Cx hret hl hP hD hS
  obtain ⟨hx, hb, hml, hown, hT, hK, hA⟩ := id Cx
  have hl : lv_has ls 2 [(0, .ref o0)] := hl
  have L44 : ∀ (n : Nat) (x1 : Int32) (H : Heap) (locs : List Loc) (ls : Array Slot), fx (F_X4_endsTellOfWhatIsThere_44 S0 Q) n x1 → va_P G.1 classes (wX4 G o0 d0 S0) H → va_D A (wX4 G o0 d0 S0) → va_S A s.heap H locs → lv_has ls 2 [(0, .ref o0), (1, .int x1)] → W p l e rm_X4_endsTellOfWhatIsThere s m args below meth c H locs 0 0 QQ (F0 m 44 ls []) := by
    intro n
    induction n with
    | zero => intro x1 H locs ls hg; exact hg.elim
    | succ n ih =>
      have hX44 := ih
      intro x1 H locs ls hg hP hD hS hl
      refine lv_iload_n hx hb dX4_endsTellOfWhatIsThere_44 rfl (lv_at hl 1 rfl) ?_
      refine lv_iconst (v := 2) hx hb dX4_endsTellOfWhatIsThere_45 (by decide) ?_
      refine lv_aload_n hx hb dX4_endsTellOfWhatIsThere_46 rfl (lv_at hl 0 rfl) ?_
      refine va_get (D := G.1) (ci := 3) (v := .int (S0 0 0)) (C := RX4) (T := TX4) (N := 17) hx hb hT iX4 hown hK hP 0 rfl rfl 0 (by decide) (hT _ q_62) (fun _ h9 => h9) rfl dX4_endsTellOfWhatIsThere_47 ?_
      refine lv_imul hx hb dX4_endsTellOfWhatIsThere_50 ?_
      refine lv_icmp_ge (tgt := 95) hx hb dX4_endsTellOfWhatIsThere_51 (by decide) (fun c_1 => ?_) (fun c_1 => ?_)
      · have hg := hg.1 c_1
        refine lv_iconst (v := 1) hx hb dX4_endsTellOfWhatIsThere_95 (by decide) ?_
        exact hret _ _ _ () _ _ hg rfl hP hD hS dX4_endsTellOfWhatIsThere_96
      · have hg := hg.2 c_1
        refine lv_aload_n hx hb dX4_endsTellOfWhatIsThere_54 rfl (lv_at hl 0 rfl) ?_
        refine va_get (D := G.1) (ci := 3) (v := .ref (d0 15)) (C := RX4) (T := TX4) (N := 17) hx hb hT iX4 hown hK hP 0 rfl rfl 15 (by decide) (hT _ q_117) (fun _ h9 => h9) rfl dX4_endsTellOfWhatIsThere_55 ?_
        refine lv_iload_n hx hb dX4_endsTellOfWhatIsThere_58 rfl (lv_at hl 1 rfl) ?_
        refine va_iald hx hb hK hP 14 0 rfl rfl hg.1 dX4_endsTellOfWhatIsThere_59 ?_
        have hg := hg.2
        refine lv_bipush (v := (-9)) hx hb dX4_endsTellOfWhatIsThere_60 (by decide) ?_
        refine lv_icmp_eq (tgt := 89) hx hb dX4_endsTellOfWhatIsThere_62 (by decide) (fun c_2 => ?_) (fun c_2 => ?_)
        · have hg := hg.1 c_2
          obtain ⟨x1_3, ex1_3⟩ : ∃ y : Int32, y = x1 + 1 := ⟨_, rfl⟩
          have hg := hg x1_3 ex1_3
          refine lv_iinc (v := x1_3) (lv' := [(1, .int x1_3), (0, .ref o0)]) hx hb dX4_endsTellOfWhatIsThere_89 hl (k := 1) rfl (by rw [ex1_3]; rfl) (by decide) rfl (fun ls hl => ?_)
          refine lv_goto (tgt := 44) hx hb dX4_endsTellOfWhatIsThere_92 (by decide) ?_
          exact hX44 _ _ _ _ hg hP hD hS (lv_sub hl [1, 0] rfl)
        · have hg := hg.2 c_2
          refine lv_aload_n hx hb dX4_endsTellOfWhatIsThere_65 rfl (lv_at hl 0 rfl) ?_
          refine va_get (D := G.1) (ci := 3) (v := .ref (d0 15)) (C := RX4) (T := TX4) (N := 17) hx hb hT iX4 hown hK hP 0 rfl rfl 15 (by decide) (hT _ q_117) (fun _ h9 => h9) rfl dX4_endsTellOfWhatIsThere_66 ?_
          refine lv_iload_n hx hb dX4_endsTellOfWhatIsThere_69 rfl (lv_at hl 1 rfl) ?_
          refine va_iald hx hb hK hP 14 0 rfl rfl hg.1 dX4_endsTellOfWhatIsThere_70 ?_
          have hg := hg.2
          refine lv_if_eq (tgt := 87) hx hb dX4_endsTellOfWhatIsThere_71 (by decide) (fun c_4 => ?_) (fun c_4 => ?_)
          · have hg := hg.1 c_4
            refine lv_iconst (v := 0) hx hb dX4_endsTellOfWhatIsThere_87 (by decide) ?_
            exact hret _ _ _ () _ _ hg rfl hP hD hS dX4_endsTellOfWhatIsThere_88
          · have hg := hg.2 c_4
            refine lv_aload_n hx hb dX4_endsTellOfWhatIsThere_74 rfl (lv_at hl 0 rfl) ?_
            refine lv_aload_n hx hb dX4_endsTellOfWhatIsThere_75 rfl (lv_at hl 0 rfl) ?_
            refine va_get (D := G.1) (ci := 3) (v := .ref (d0 15)) (C := RX4) (T := TX4) (N := 17) hx hb hT iX4 hown hK hP 0 rfl rfl 15 (by decide) (hT _ q_117) (fun _ h9 => h9) rfl dX4_endsTellOfWhatIsThere_76 ?_
            refine lv_iload_n hx hb dX4_endsTellOfWhatIsThere_79 rfl (lv_at hl 1 rfl) ?_
            refine va_iald hx hb hK hP 14 0 rfl rfl hg.1 dX4_endsTellOfWhatIsThere_80 ?_
            have hg := hg.2
            refine zcVi (As := [.int (S0 15 x1.toNatClampNeg)]) (rest := []) (C := RX4) Cx (c_X4_hasBlock l G o0 d0 (S0 15 x1.toNatClampNeg) S0 _ hg) zv_X4_hasBlock q_423 ⟨⟨rfl, rfl⟩, Nat.le_of_ble_eq_true rfl, Nat.le_of_ble_eq_true rfl⟩ (zJ.all hP hD hS hA) hS 3 rfl rfl rfl rfl hl.1 rfl (Nat.le_of_ble_eq_true rfl) dX4_endsTellOfWhatIsThere_81 (fun r_5 _u H locs hg hP hD hS => ?_)
            refine lv_if_ne (tgt := 89) hx hb dX4_endsTellOfWhatIsThere_84 (by decide) (fun c_6 => ?_) (fun c_6 => ?_)
            · have hg := hg.2 c_6
              obtain ⟨x1_7, ex1_7⟩ : ∃ y : Int32, y = x1 + 1 := ⟨_, rfl⟩
              have hg := hg x1_7 ex1_7
              refine lv_iinc (v := x1_7) (lv' := [(1, .int x1_7), (0, .ref o0)]) hx hb dX4_endsTellOfWhatIsThere_89 hl (k := 1) rfl (by rw [ex1_7]; rfl) (by decide) rfl (fun ls hl => ?_)
              refine lv_goto (tgt := 44) hx hb dX4_endsTellOfWhatIsThere_92 (by decide) ?_
              exact hX44 _ _ _ _ hg hP hD hS (lv_sub hl [1, 0] rfl)
            · have hg := hg.1 c_6
              refine lv_iconst (v := 0) hx hb dX4_endsTellOfWhatIsThere_87 (by decide) ?_
              exact hret _ _ _ () _ _ hg rfl hP hD hS dX4_endsTellOfWhatIsThere_88
  have L2 : ∀ (n : Nat) (x1 : Int32) (H : Heap) (locs : List Loc) (ls : Array Slot), fx (F_X4_endsTellOfWhatIsThere_2 S0 Q) n x1 → va_P G.1 classes (wX4 G o0 d0 S0) H → va_D A (wX4 G o0 d0 S0) → va_S A s.heap H locs → lv_has ls 2 [(0, .ref o0), (1, .int x1)] → W p l e rm_X4_endsTellOfWhatIsThere s m args below meth c H locs 0 0 QQ (F0 m 2 ls []) := by
    intro n
    induction n with
    | zero => intro x1 H locs ls hg; exact hg.elim
    | succ n ih =>
      have hX2 := ih
      intro x1 H locs ls hg hP hD hS hl
      refine lv_iload_n hx hb dX4_endsTellOfWhatIsThere_2 rfl (lv_at hl 1 rfl) ?_
      refine lv_aload_n hx hb dX4_endsTellOfWhatIsThere_3 rfl (lv_at hl 0 rfl) ?_
      refine va_get (D := G.1) (ci := 3) (v := .int (S0 0 0)) (C := RX4) (T := TX4) (N := 17) hx hb hT iX4 hown hK hP 0 rfl rfl 0 (by decide) (hT _ q_62) (fun _ h9 => h9) rfl dX4_endsTellOfWhatIsThere_4 ?_
      refine lv_icmp_ge (tgt := 42) hx hb dX4_endsTellOfWhatIsThere_7 (by decide) (fun c_1 => ?_) (fun c_1 => ?_)
      · have hg := hg.1 c_1
        refine lv_iconst (v := 0) hx hb dX4_endsTellOfWhatIsThere_42 (by decide) ?_
        refine lv_istore_n (lv' := [(1, .int 0), (0, .ref o0)]) hx hb dX4_endsTellOfWhatIsThere_43 rfl hl (by decide) rfl (fun ls hl => ?_)
        obtain ⟨n, hg⟩ := hg
        exact L44 n _ _ _ _ hg hP hD hS (lv_sub hl [1, 0] rfl)
      · have hg := hg.2 c_1
        refine lv_aload_n hx hb dX4_endsTellOfWhatIsThere_10 rfl (lv_at hl 0 rfl) ?_
        refine va_get (D := G.1) (ci := 3) (v := .ref (d0 14)) (C := RX4) (T := TX4) (N := 17) hx hb hT iX4 hown hK hP 0 rfl rfl 14 (by decide) (hT _ q_112) (fun _ h9 => h9) rfl dX4_endsTellOfWhatIsThere_11 ?_
        refine lv_iload_n hx hb dX4_endsTellOfWhatIsThere_14 rfl (lv_at hl 1 rfl) ?_
        refine va_iald hx hb hK hP 13 0 rfl rfl hg.1 dX4_endsTellOfWhatIsThere_15 ?_
        have hg := hg.2
        refine lv_bipush (v := (-9)) hx hb dX4_endsTellOfWhatIsThere_16 (by decide) ?_
        refine lv_icmp_eq (tgt := 36) hx hb dX4_endsTellOfWhatIsThere_18 (by decide) (fun c_2 => ?_) (fun c_2 => ?_)
        · have hg := hg.1 c_2
          obtain ⟨x1_3, ex1_3⟩ : ∃ y : Int32, y = x1 + 1 := ⟨_, rfl⟩
          have hg := hg x1_3 ex1_3
          refine lv_iinc (v := x1_3) (lv' := [(1, .int x1_3), (0, .ref o0)]) hx hb dX4_endsTellOfWhatIsThere_36 hl (k := 1) rfl (by rw [ex1_3]; rfl) (by decide) rfl (fun ls hl => ?_)
          refine lv_goto (tgt := 2) hx hb dX4_endsTellOfWhatIsThere_39 (by decide) ?_
          exact hX2 _ _ _ _ hg hP hD hS (lv_sub hl [1, 0] rfl)
        · have hg := hg.2 c_2
          refine lv_aload_n hx hb dX4_endsTellOfWhatIsThere_21 rfl (lv_at hl 0 rfl) ?_
          refine lv_aload_n hx hb dX4_endsTellOfWhatIsThere_22 rfl (lv_at hl 0 rfl) ?_
          refine va_get (D := G.1) (ci := 3) (v := .ref (d0 14)) (C := RX4) (T := TX4) (N := 17) hx hb hT iX4 hown hK hP 0 rfl rfl 14 (by decide) (hT _ q_112) (fun _ h9 => h9) rfl dX4_endsTellOfWhatIsThere_23 ?_
          refine lv_iload_n hx hb dX4_endsTellOfWhatIsThere_26 rfl (lv_at hl 1 rfl) ?_
          refine va_iald hx hb hK hP 13 0 rfl rfl hg.1 dX4_endsTellOfWhatIsThere_27 ?_
          have hg := hg.2
          refine zcVi (As := [.int (S0 14 x1.toNatClampNeg)]) (rest := []) (C := RX4) Cx (c_X4_hasName l G o0 d0 (S0 14 x1.toNatClampNeg) S0 _ hg) zv_X4_hasName q_360 ⟨⟨rfl, rfl⟩, Nat.le_of_ble_eq_true rfl, Nat.le_of_ble_eq_true rfl⟩ (zJ.all hP hD hS hA) hS 3 rfl rfl rfl rfl hl.1 rfl (Nat.le_of_ble_eq_true rfl) dX4_endsTellOfWhatIsThere_28 (fun r_4 _u H locs hg hP hD hS => ?_)
          refine lv_if_ne (tgt := 36) hx hb dX4_endsTellOfWhatIsThere_31 (by decide) (fun c_5 => ?_) (fun c_5 => ?_)
          · have hg := hg.2 c_5
            obtain ⟨x1_6, ex1_6⟩ : ∃ y : Int32, y = x1 + 1 := ⟨_, rfl⟩
            have hg := hg x1_6 ex1_6
            refine lv_iinc (v := x1_6) (lv' := [(1, .int x1_6), (0, .ref o0)]) hx hb dX4_endsTellOfWhatIsThere_36 hl (k := 1) rfl (by rw [ex1_6]; rfl) (by decide) rfl (fun ls hl => ?_)
            refine lv_goto (tgt := 2) hx hb dX4_endsTellOfWhatIsThere_39 (by decide) ?_
            exact hX2 _ _ _ _ hg hP hD hS (lv_sub hl [1, 0] rfl)
          · have hg := hg.1 c_5
            refine lv_iconst (v := 0) hx hb dX4_endsTellOfWhatIsThere_34 (by decide) ?_
            exact hret _ _ _ () _ _ hg rfl hP hD hS dX4_endsTellOfWhatIsThere_35
  refine lv_iconst (v := 0) hx hb dX4_endsTellOfWhatIsThere_0 (by decide) ?_
  refine lv_istore_n (lv' := [(1, .int 0), (0, .ref o0)]) hx hb dX4_endsTellOfWhatIsThere_1 rfl hl (by decide) rfl (fun ls hl => ?_)
  obtain ⟨n, hg⟩ := hg
  exact L2 n _ _ _ _ hg hP hD hS (lv_sub hl [1, 0] rfl)
theorem zv_X4_namesTellOfWhatIsThere : zV yX4_namesTellOfWhatIsThere RX4 cX4_namesTellOfWhatIsThere 3 (some .boolean) 0 := ⟨q_428, q_429, q_3, q_430, by decide +kernel⟩
set_option maxHeartbeats 4000000 in
set_option maxRecDepth 100000 in
theorem c_X4_namesTellOfWhatIsThere (l : Launch) (G : ZG) (o0 : Nat) (d0 : Nat → Nat) (S0 : ZS) (Q : Int32 → Prop) (hg : g_X4_namesTellOfWhatIsThere S0 Q) : Ki l G yX4_namesTellOfWhatIsThere cX4_namesTellOfWhatIsThere 3 .boolean rm_X4_namesTellOfWhatIsThere [.ref o0] (wX4 G o0 d0 S0) (fun _ : Unit => wX4 G o0 d0 S0) (fun r _ => Q r ) := by
  refine Ki.of (by decide) (Nat.le_of_ble_eq_true rfl) ?_
  intro p e s m args below meth c A QQ ls Cx hret hl hP hD hS
  obtain ⟨hx, hb, hml, hown, hT, hK, hA⟩ := id Cx
  have hl : lv_has ls 3 [(0, .ref o0)] := hl
  have L52 : ∀ (X2 : Int32 → Prop) (hX2 : ∀ (x1 : Int32) (H : Heap) (locs : List Loc) (ls : Array Slot), X2 (x1) → va_P G.1 classes (wX4 G o0 d0 S0) H → va_D A (wX4 G o0 d0 S0) → va_S A s.heap H locs → lv_has ls 3 [(0, .ref o0), (1, .int x1)] → W p l e rm_X4_namesTellOfWhatIsThere s m args below meth c H locs 0 0 QQ (F0 m 2 ls [])) (n : Nat) (x1 : Int32) (x2 : Int32) (H : Heap) (locs : List Loc) (ls : Array Slot), fx (F_X4_namesTellOfWhatIsThere_52 S0 Q X2) n (x1, x2) → va_P G.1 classes (wX4 G o0 d0 S0) H → va_D A (wX4 G o0 d0 S0) → va_S A s.heap H locs → lv_has ls 3 [(0, .ref o0), (1, .int x1), (2, .int x2)] → W p l e rm_X4_namesTellOfWhatIsThere s m args below meth c H locs 0 0 QQ (F0 m 52 ls []) := by
    intro X2 hX2 n
    induction n with
    | zero => intro x1 x2 H locs ls hg; exact hg.elim
    | succ n ih =>
      have hX52 := ih
      intro x1 x2 H locs ls hg hP hD hS hl
      refine lv_iload_n hx hb dX4_namesTellOfWhatIsThere_52 rfl (lv_at hl 2 rfl) ?_
      refine lv_iconst (v := 3) hx hb dX4_namesTellOfWhatIsThere_53 (by decide) ?_
      refine lv_iload_n hx hb dX4_namesTellOfWhatIsThere_54 rfl (lv_at hl 1 rfl) ?_
      refine lv_imul hx hb dX4_namesTellOfWhatIsThere_55 ?_
      refine lv_aload_n hx hb dX4_namesTellOfWhatIsThere_56 rfl (lv_at hl 0 rfl) ?_
      refine va_get (D := G.1) (ci := 3) (v := .ref (d0 8)) (C := RX4) (T := TX4) (N := 17) hx hb hT iX4 hown hK hP 0 rfl rfl 8 (by decide) (hT _ q_93) (fun _ h9 => h9) rfl dX4_namesTellOfWhatIsThere_57 ?_
      refine lv_iload_n hx hb dX4_namesTellOfWhatIsThere_60 rfl (lv_at hl 1 rfl) ?_
      refine va_iald hx hb hK hP 7 0 rfl rfl hg.1 dX4_namesTellOfWhatIsThere_61 ?_
      have hg := hg.2
      refine lv_iadd hx hb dX4_namesTellOfWhatIsThere_62 ?_
      refine lv_icmp_ge (tgt := 100) hx hb dX4_namesTellOfWhatIsThere_63 (by decide) (fun c_1 => ?_) (fun c_1 => ?_)
      · have hg := hg.1 c_1
        obtain ⟨x1_2, ex1_2⟩ : ∃ y : Int32, y = x1 + 1 := ⟨_, rfl⟩
        have hg := hg x1_2 ex1_2
        refine lv_iinc (v := x1_2) (lv' := [(1, .int x1_2), (0, .ref o0), (2, .int x2)]) hx hb dX4_namesTellOfWhatIsThere_100 hl (k := 1) rfl (by rw [ex1_2]; rfl) (by decide) rfl (fun ls hl => ?_)
        refine lv_goto (tgt := 2) hx hb dX4_namesTellOfWhatIsThere_103 (by decide) ?_
        exact hX2 _ _ _ _ hg hP hD hS (lv_sub hl [1, 0] rfl)
      · have hg := hg.2 c_1
        refine lv_aload_n hx hb dX4_namesTellOfWhatIsThere_66 rfl (lv_at hl 0 rfl) ?_
        refine lv_aload_n hx hb dX4_namesTellOfWhatIsThere_67 rfl (lv_at hl 0 rfl) ?_
        refine va_get (D := G.1) (ci := 3) (v := .ref (d0 9)) (C := RX4) (T := TX4) (N := 17) hx hb hT iX4 hown hK hP 0 rfl rfl 9 (by decide) (hT _ q_96) (fun _ h9 => h9) rfl dX4_namesTellOfWhatIsThere_68 ?_
        refine lv_iload_n hx hb dX4_namesTellOfWhatIsThere_71 rfl (lv_at hl 2 rfl) ?_
        refine va_iald hx hb hK hP 8 0 rfl rfl hg.1 dX4_namesTellOfWhatIsThere_72 ?_
        have hg := hg.2
        refine zcVi (As := [.int (S0 9 x2.toNatClampNeg)]) (rest := []) (C := RX4) Cx (c_X4_hasBlock l G o0 d0 (S0 9 x2.toNatClampNeg) S0 _ hg) zv_X4_hasBlock q_423 ⟨⟨rfl, rfl⟩, Nat.le_of_ble_eq_true rfl, Nat.le_of_ble_eq_true rfl⟩ (zJ.all hP hD hS hA) hS 3 rfl rfl rfl rfl hl.1 rfl (Nat.le_of_ble_eq_true rfl) dX4_namesTellOfWhatIsThere_73 (fun r_3 _u H locs hg hP hD hS => ?_)
        refine lv_if_eq (tgt := 92) hx hb dX4_namesTellOfWhatIsThere_76 (by decide) (fun c_4 => ?_) (fun c_4 => ?_)
        · have hg := hg.1 c_4
          refine lv_iconst (v := 0) hx hb dX4_namesTellOfWhatIsThere_92 (by decide) ?_
          exact hret _ _ _ () _ _ hg rfl hP hD hS dX4_namesTellOfWhatIsThere_93
        · have hg := hg.2 c_4
          refine lv_aload_n hx hb dX4_namesTellOfWhatIsThere_79 rfl (lv_at hl 0 rfl) ?_
          refine lv_aload_n hx hb dX4_namesTellOfWhatIsThere_80 rfl (lv_at hl 0 rfl) ?_
          refine va_get (D := G.1) (ci := 3) (v := .ref (d0 10)) (C := RX4) (T := TX4) (N := 17) hx hb hT iX4 hown hK hP 0 rfl rfl 10 (by decide) (hT _ q_98) (fun _ h9 => h9) rfl dX4_namesTellOfWhatIsThere_81 ?_
          refine lv_iload_n hx hb dX4_namesTellOfWhatIsThere_84 rfl (lv_at hl 2 rfl) ?_
          refine va_iald hx hb hK hP 9 0 rfl rfl hg.1 dX4_namesTellOfWhatIsThere_85 ?_
          have hg := hg.2
          refine zcVi (As := [.int (S0 10 x2.toNatClampNeg)]) (rest := []) (C := RX4) Cx (c_X4_hasName l G o0 d0 (S0 10 x2.toNatClampNeg) S0 _ hg) zv_X4_hasName q_360 ⟨⟨rfl, rfl⟩, Nat.le_of_ble_eq_true rfl, Nat.le_of_ble_eq_true rfl⟩ (zJ.all hP hD hS hA) hS 3 rfl rfl rfl rfl hl.1 rfl (Nat.le_of_ble_eq_true rfl) dX4_namesTellOfWhatIsThere_86 (fun r_5 _u H locs hg hP hD hS => ?_)
          refine lv_if_ne (tgt := 94) hx hb dX4_namesTellOfWhatIsThere_89 (by decide) (fun c_6 => ?_) (fun c_6 => ?_)
          · have hg := hg.2 c_6
            obtain ⟨x2_7, ex2_7⟩ : ∃ y : Int32, y = x2 + 1 := ⟨_, rfl⟩
            have hg := hg x2_7 ex2_7
            refine lv_iinc (v := x2_7) (lv' := [(2, .int x2_7), (0, .ref o0), (1, .int x1)]) hx hb dX4_namesTellOfWhatIsThere_94 hl (k := 2) rfl (by rw [ex2_7]; rfl) (by decide) rfl (fun ls hl => ?_)
            refine lv_goto (tgt := 52) hx hb dX4_namesTellOfWhatIsThere_97 (by decide) ?_
            exact hX52 _ _ _ _ _ hg hP hD hS (lv_sub hl [1, 2, 0] rfl)
          · have hg := hg.1 c_6
            refine lv_iconst (v := 0) hx hb dX4_namesTellOfWhatIsThere_92 (by decide) ?_
            exact hret _ _ _ () _ _ hg rfl hP hD hS dX4_namesTellOfWhatIsThere_93
  have J48 : ∀ (X2 : Int32 → Prop) (hX2 : ∀ (x1 : Int32) (H : Heap) (locs : List Loc) (ls : Array Slot), X2 (x1) → va_P G.1 classes (wX4 G o0 d0 S0) H → va_D A (wX4 G o0 d0 S0) → va_S A s.heap H locs → lv_has ls 3 [(0, .ref o0), (1, .int x1)] → W p l e rm_X4_namesTellOfWhatIsThere s m args below meth c H locs 0 0 QQ (F0 m 2 ls [])) (x1 : Int32) (H : Heap) (locs : List Loc) (ls : Array Slot), G_X4_namesTellOfWhatIsThere_48 S0 Q X2 x1 → va_P G.1 classes (wX4 G o0 d0 S0) H → va_D A (wX4 G o0 d0 S0) → va_S A s.heap H locs → lv_has ls 3 [(0, .ref o0), (1, .int x1)] → W p l e rm_X4_namesTellOfWhatIsThere s m args below meth c H locs 0 0 QQ (F0 m 48 ls []) := by
    intro X2 hX2 x1 H locs ls hg hP hD hS hl
    refine lv_iconst (v := 3) hx hb dX4_namesTellOfWhatIsThere_48 (by decide) ?_
    refine lv_iload_n hx hb dX4_namesTellOfWhatIsThere_49 rfl (lv_at hl 1 rfl) ?_
    refine lv_imul hx hb dX4_namesTellOfWhatIsThere_50 ?_
    refine lv_topi (fun x2_1 ex2_1 => ?_)
    have hg := hg x2_1 ex2_1
    refine lv_istore_n (lv' := [(2, .int x2_1), (0, .ref o0), (1, .int x1)]) hx hb dX4_namesTellOfWhatIsThere_51 rfl hl (by decide) rfl (fun ls hl => ?_)
    obtain ⟨n, hg⟩ := hg
    exact L52 _ hX2 n _ _ _ _ _ hg hP hD hS (lv_sub hl [1, 2, 0] rfl)
  have L2 : ∀ (n : Nat) (x1 : Int32) (H : Heap) (locs : List Loc) (ls : Array Slot), fx (F_X4_namesTellOfWhatIsThere_2 S0 Q) n x1 → va_P G.1 classes (wX4 G o0 d0 S0) H → va_D A (wX4 G o0 d0 S0) → va_S A s.heap H locs → lv_has ls 3 [(0, .ref o0), (1, .int x1)] → W p l e rm_X4_namesTellOfWhatIsThere s m args below meth c H locs 0 0 QQ (F0 m 2 ls []) := by
    intro n
    induction n with
    | zero => intro x1 H locs ls hg; exact hg.elim
    | succ n ih =>
      have hX2 := ih
      intro x1 H locs ls hg hP hD hS hl
      refine lv_iload_n hx hb dX4_namesTellOfWhatIsThere_2 rfl (lv_at hl 1 rfl) ?_
      refine lv_aload_n hx hb dX4_namesTellOfWhatIsThere_3 rfl (lv_at hl 0 rfl) ?_
      refine va_get (D := G.1) (ci := 3) (v := .int (S0 1 0)) (C := RX4) (T := TX4) (N := 17) hx hb hT iX4 hown hK hP 0 rfl rfl 1 (by decide) (hT _ q_65) (fun _ h9 => h9) rfl dX4_namesTellOfWhatIsThere_4 ?_
      refine lv_icmp_ge (tgt := 106) hx hb dX4_namesTellOfWhatIsThere_7 (by decide) (fun c_1 => ?_) (fun c_1 => ?_)
      · have hg := hg.1 c_1
        refine lv_iconst (v := 1) hx hb dX4_namesTellOfWhatIsThere_106 (by decide) ?_
        exact hret _ _ _ () _ _ hg rfl hP hD hS dX4_namesTellOfWhatIsThere_107
      · have hg := hg.2 c_1
        refine lv_aload_n hx hb dX4_namesTellOfWhatIsThere_10 rfl (lv_at hl 0 rfl) ?_
        refine va_get (D := G.1) (ci := 3) (v := .ref (d0 3)) (C := RX4) (T := TX4) (N := 17) hx hb hT iX4 hown hK hP 0 rfl rfl 3 (by decide) (hT _ q_71) (fun _ h9 => h9) rfl dX4_namesTellOfWhatIsThere_11 ?_
        refine lv_iload_n hx hb dX4_namesTellOfWhatIsThere_14 rfl (lv_at hl 1 rfl) ?_
        refine va_iald hx hb hK hP 2 0 rfl rfl hg.1 dX4_namesTellOfWhatIsThere_15 ?_
        have hg := hg.2
        refine lv_iconst (v := 2) hx hb dX4_namesTellOfWhatIsThere_16 (by decide) ?_
        refine lv_icmp_ne (tgt := 48) hx hb dX4_namesTellOfWhatIsThere_17 (by decide) (fun c_2 => ?_) (fun c_2 => ?_)
        · have hg := hg.2 c_2
          exact J48 _ hX2 _ _ _ _ hg hP hD hS (lv_sub hl [0, 1] rfl)
        · have hg := hg.1 c_2
          refine lv_aload_n hx hb dX4_namesTellOfWhatIsThere_20 rfl (lv_at hl 0 rfl) ?_
          refine lv_aload_n hx hb dX4_namesTellOfWhatIsThere_21 rfl (lv_at hl 0 rfl) ?_
          refine va_get (D := G.1) (ci := 3) (v := .ref (d0 6)) (C := RX4) (T := TX4) (N := 17) hx hb hT iX4 hown hK hP 0 rfl rfl 6 (by decide) (hT _ q_83) (fun _ h9 => h9) rfl dX4_namesTellOfWhatIsThere_22 ?_
          refine lv_iload_n hx hb dX4_namesTellOfWhatIsThere_25 rfl (lv_at hl 1 rfl) ?_
          refine va_iald hx hb hK hP 5 0 rfl rfl hg.1 dX4_namesTellOfWhatIsThere_26 ?_
          have hg := hg.2
          refine zcVi (As := [.int (S0 6 x1.toNatClampNeg)]) (rest := []) (C := RX4) Cx (c_X4_hasName l G o0 d0 (S0 6 x1.toNatClampNeg) S0 _ hg) zv_X4_hasName q_360 ⟨⟨rfl, rfl⟩, Nat.le_of_ble_eq_true rfl, Nat.le_of_ble_eq_true rfl⟩ (zJ.all hP hD hS hA) hS 3 rfl rfl rfl rfl hl.1 rfl (Nat.le_of_ble_eq_true rfl) dX4_namesTellOfWhatIsThere_27 (fun r_3 _u H locs hg hP hD hS => ?_)
          refine lv_if_eq (tgt := 46) hx hb dX4_namesTellOfWhatIsThere_30 (by decide) (fun c_4 => ?_) (fun c_4 => ?_)
          · have hg := hg.1 c_4
            refine lv_iconst (v := 0) hx hb dX4_namesTellOfWhatIsThere_46 (by decide) ?_
            exact hret _ _ _ () _ _ hg rfl hP hD hS dX4_namesTellOfWhatIsThere_47
          · have hg := hg.2 c_4
            refine lv_aload_n hx hb dX4_namesTellOfWhatIsThere_33 rfl (lv_at hl 0 rfl) ?_
            refine lv_aload_n hx hb dX4_namesTellOfWhatIsThere_34 rfl (lv_at hl 0 rfl) ?_
            refine va_get (D := G.1) (ci := 3) (v := .ref (d0 7)) (C := RX4) (T := TX4) (N := 17) hx hb hT iX4 hown hK hP 0 rfl rfl 7 (by decide) (hT _ q_88) (fun _ h9 => h9) rfl dX4_namesTellOfWhatIsThere_35 ?_
            refine lv_iload_n hx hb dX4_namesTellOfWhatIsThere_38 rfl (lv_at hl 1 rfl) ?_
            refine va_iald hx hb hK hP 6 0 rfl rfl hg.1 dX4_namesTellOfWhatIsThere_39 ?_
            have hg := hg.2
            refine zcVi (As := [.int (S0 7 x1.toNatClampNeg)]) (rest := []) (C := RX4) Cx (c_X4_hasName l G o0 d0 (S0 7 x1.toNatClampNeg) S0 _ hg) zv_X4_hasName q_360 ⟨⟨rfl, rfl⟩, Nat.le_of_ble_eq_true rfl, Nat.le_of_ble_eq_true rfl⟩ (zJ.all hP hD hS hA) hS 3 rfl rfl rfl rfl hl.1 rfl (Nat.le_of_ble_eq_true rfl) dX4_namesTellOfWhatIsThere_40 (fun r_5 _u H locs hg hP hD hS => ?_)
            refine lv_if_ne (tgt := 48) hx hb dX4_namesTellOfWhatIsThere_43 (by decide) (fun c_6 => ?_) (fun c_6 => ?_)
            · have hg := hg.2 c_6
              exact J48 _ hX2 _ _ _ _ hg hP hD hS (lv_sub hl [0, 1] rfl)
            · have hg := hg.1 c_6
              refine lv_iconst (v := 0) hx hb dX4_namesTellOfWhatIsThere_46 (by decide) ?_
              exact hret _ _ _ () _ _ hg rfl hP hD hS dX4_namesTellOfWhatIsThere_47
  refine lv_iconst (v := 0) hx hb dX4_namesTellOfWhatIsThere_0 (by decide) ?_
  refine lv_istore_n (lv' := [(1, .int 0), (0, .ref o0)]) hx hb dX4_namesTellOfWhatIsThere_1 rfl hl (by decide) rfl (fun ls hl => ?_)
  obtain ⟨n, hg⟩ := hg
  exact L2 n _ _ _ _ hg hP hD hS (lv_sub hl [1, 0] rfl)
theorem zv_X4_isIn : zSt yX4_isIn cX4_isIn 2 (some .boolean) 2 := ⟨q_440, q_3, q_441, by decide +kernel⟩
set_option maxHeartbeats 4000000 in
set_option maxRecDepth 100000 in
theorem c_X4_isIn (l : Launch) (G : ZG) (x0 : Int32) (x1 : Int32) (Q : Int32 → Prop) (hg : g_X4_isIn x0 x1 Q) : Ki l G yX4_isIn cX4_isIn 2 .boolean rm_X4_isIn [.int x0, .int x1] (([] : va_W)) (fun _ : Unit => ([] : va_W)) (fun r _ => Q r ) := by
  refine Ki.of (by decide) (Nat.le_of_ble_eq_true rfl) ?_
  intro p e s m args below meth c A QQ ls Cx hret hl hP hD hS
  obtain ⟨hx, hb, hml, hown, hT, hK, hA⟩ := id Cx
  have hl : lv_has ls 2 [(0, .int x0), (1, .int x1)] := hl
  refine lv_iload_n hx hb dX4_isIn_0 rfl (lv_at hl 0 rfl) ?_
  refine lv_iload_n hx hb dX4_isIn_1 rfl (lv_at hl 1 rfl) ?_
  refine lv_ishr hx hb dX4_isIn_2 ?_
  refine lv_iconst (v := 1) hx hb dX4_isIn_3 (by decide) ?_
  refine lv_iand hx hb dX4_isIn_4 ?_
  refine lv_iconst (v := 1) hx hb dX4_isIn_5 (by decide) ?_
  refine lv_icmp_ne (tgt := 13) hx hb dX4_isIn_6 (by decide) (fun c_1 => ?_) (fun c_1 => ?_)
  · have hg := hg.2 c_1
    refine lv_iconst (v := 0) hx hb dX4_isIn_13 (by decide) ?_
    exact hret _ _ _ () _ _ hg rfl hP hD hS dX4_isIn_14
  · have hg := hg.1 c_1
    refine lv_iconst (v := 1) hx hb dX4_isIn_9 (by decide) ?_
    refine lv_goto (tgt := 14) hx hb dX4_isIn_10 (by decide) ?_
    exact hret _ _ _ () _ _ hg rfl hP hD hS dX4_isIn_14
theorem zv_X4_reachedWithout : zV yX4_reachedWithout RX4 cX4_reachedWithout 6 (some .int) 1 := ⟨q_436, q_437, q_3, q_438, by decide +kernel⟩
set_option maxHeartbeats 4000000 in
set_option maxRecDepth 100000 in
theorem c_X4_reachedWithout (l : Launch) (G : ZG) (o0 : Nat) (d0 : Nat → Nat) (x1 : Int32) (S0 : ZS) (Q : Int32 → Prop) (hg : g_X4_reachedWithout x1 S0 Q) : Ki l G yX4_reachedWithout cX4_reachedWithout 6 .int rm_X4_reachedWithout [.ref o0, .int x1] (wX4 G o0 d0 S0) (fun _ : Unit => wX4 G o0 d0 S0) (fun r _ => Q r ) := by
  refine Ki.of (by decide) (Nat.le_of_ble_eq_true rfl) ?_
  intro p e s m args below meth c A QQ ls Cx hret hl hP hD hS
  obtain ⟨hx, hb, hml, hown, hT, hK, hA⟩ := id Cx
  have hl : lv_has ls 6 [(0, .ref o0), (1, .int x1)] := hl
  have L25 : ∀ (X13 : Int32 × Int32 × Int32 → Prop) (hX13 : ∀ (x2 : Int32) (x3 : Int32) (x4 : Int32) (H : Heap) (locs : List Loc) (ls : Array Slot), X13 (x2, x3, x4) → va_P G.1 classes (wX4 G o0 d0 S0) H → va_D A (wX4 G o0 d0 S0) → va_S A s.heap H locs → lv_has ls 6 [(0, .ref o0), (2, .int x2), (3, .int x3), (4, .int x4)] → W p l e rm_X4_reachedWithout s m args below meth c H locs 0 0 QQ (F0 m 13 ls [])) (n : Nat) (x2 : Int32) (x3 : Int32) (x4 : Int32) (x5 : Int32) (H : Heap) (locs : List Loc) (ls : Array Slot), fx (F_X4_reachedWithout_25 x1 S0 Q X13) n (x2, x3, x4, x5) → va_P G.1 classes (wX4 G o0 d0 S0) H → va_D A (wX4 G o0 d0 S0) → va_S A s.heap H locs → lv_has ls 6 [(0, .ref o0), (2, .int x2), (3, .int x3), (4, .int x4), (5, .int x5)] → W p l e rm_X4_reachedWithout s m args below meth c H locs 0 0 QQ (F0 m 25 ls []) := by
    intro X13 hX13 n
    induction n with
    | zero => intro x2 x3 x4 x5 H locs ls hg; exact hg.elim
    | succ n ih =>
      have hX25 := ih
      intro x2 x3 x4 x5 H locs ls hg hP hD hS hl
      refine lv_iload hx hb dX4_reachedWithout_25 (lv_at hl 4 rfl) ?_
      refine lv_iconst (v := 2) hx hb dX4_reachedWithout_27 (by decide) ?_
      refine lv_aload_n hx hb dX4_reachedWithout_28 rfl (lv_at hl 0 rfl) ?_
      refine va_get (D := G.1) (ci := 3) (v := .int (S0 0 0)) (C := RX4) (T := TX4) (N := 17) hx hb hT iX4 hown hK hP 0 rfl rfl 0 (by decide) (hT _ q_62) (fun _ h9 => h9) rfl dX4_reachedWithout_29 ?_
      refine lv_imul hx hb dX4_reachedWithout_32 ?_
      refine lv_icmp_ge (tgt := 79) hx hb dX4_reachedWithout_33 (by decide) (fun c_1 => ?_) (fun c_1 => ?_)
      · have hg := hg.1 c_1
        obtain ⟨x4_2, ex4_2⟩ : ∃ y : Int32, y = x4 + 1 := ⟨_, rfl⟩
        have hg := hg x4_2 ex4_2
        refine lv_iinc (v := x4_2) (lv' := [(4, .int x4_2), (0, .ref o0), (2, .int x2), (3, .int x3), (5, .int x5)]) hx hb dX4_reachedWithout_79 hl (k := 3) rfl (by rw [ex4_2]; rfl) (by decide) rfl (fun ls hl => ?_)
        refine lv_goto (tgt := 13) hx hb dX4_reachedWithout_82 (by decide) ?_
        exact hX13 _ _ _ _ _ _ hg hP hD hS (lv_sub hl [1, 2, 3, 0] rfl)
      · have hg := hg.2 c_1
        refine lv_aload_n hx hb dX4_reachedWithout_36 rfl (lv_at hl 0 rfl) ?_
        refine va_get (D := G.1) (ci := 3) (v := .ref (d0 15)) (C := RX4) (T := TX4) (N := 17) hx hb hT iX4 hown hK hP 0 rfl rfl 15 (by decide) (hT _ q_117) (fun _ h9 => h9) rfl dX4_reachedWithout_37 ?_
        refine lv_iload hx hb dX4_reachedWithout_40 (lv_at hl 4 rfl) ?_
        refine va_iald hx hb hK hP 14 0 rfl rfl hg.1 dX4_reachedWithout_42 ?_
        have hg := hg.2
        refine lv_bipush (v := (-9)) hx hb dX4_reachedWithout_43 (by decide) ?_
        refine lv_icmp_eq (tgt := 73) hx hb dX4_reachedWithout_45 (by decide) (fun c_3 => ?_) (fun c_3 => ?_)
        · have hg := hg.1 c_3
          obtain ⟨x5_4, ex5_4⟩ : ∃ y : Int32, y = x5 + 1 := ⟨_, rfl⟩
          have hg := hg x5_4 ex5_4
          refine lv_iinc (v := x5_4) (lv' := [(5, .int x5_4), (0, .ref o0), (2, .int x2), (3, .int x3), (4, .int x4)]) hx hb dX4_reachedWithout_73 hl (k := 4) rfl (by rw [ex5_4]; rfl) (by decide) rfl (fun ls hl => ?_)
          refine lv_goto (tgt := 25) hx hb dX4_reachedWithout_76 (by decide) ?_
          exact hX25 _ _ _ _ _ _ _ hg hP hD hS (lv_sub hl [1, 2, 3, 4, 0] rfl)
        · have hg := hg.2 c_3
          refine lv_iload_n hx hb dX4_reachedWithout_48 rfl (lv_at hl 2 rfl) ?_
          refine lv_iload hx hb dX4_reachedWithout_49 (lv_at hl 4 rfl) ?_
          refine lv_iconst (v := 2) hx hb dX4_reachedWithout_51 (by decide) ?_
          refine lv_idiv hx hb dX4_reachedWithout_52 (by decide) ?_
          refine zcSi (As := [.int x3, .int (x5 / 2)]) (rest := []) Cx (c_X4_isIn l G x3 (x5 / 2) _ hg) zv_X4_isIn q_439 ⟨⟨rfl, rfl⟩, Nat.le_of_ble_eq_true rfl, Nat.le_of_ble_eq_true rfl⟩ (zJ.none (S := Unit) hP hD hS hA) hS rfl hl.1 rfl (Nat.le_of_ble_eq_true rfl) dX4_reachedWithout_53 (fun r_5 _u H locs hg hP hD hS => ?_)
          refine lv_if_eq (tgt := 73) hx hb dX4_reachedWithout_56 (by decide) (fun c_6 => ?_) (fun c_6 => ?_)
          · have hg := hg.1 c_6
            obtain ⟨x5_7, ex5_7⟩ : ∃ y : Int32, y = x5 + 1 := ⟨_, rfl⟩
            have hg := hg x5_7 ex5_7
            refine lv_iinc (v := x5_7) (lv' := [(5, .int x5_7), (0, .ref o0), (2, .int x2), (3, .int x3), (4, .int x4)]) hx hb dX4_reachedWithout_73 hl (k := 4) rfl (by rw [ex5_7]; rfl) (by decide) rfl (fun ls hl => ?_)
            refine lv_goto (tgt := 25) hx hb dX4_reachedWithout_76 (by decide) ?_
            exact hX25 _ _ _ _ _ _ _ hg hP hD hS (lv_sub hl [1, 2, 3, 4, 0] rfl)
          · have hg := hg.2 c_6
            refine lv_iload_n hx hb dX4_reachedWithout_59 rfl (lv_at hl 2 rfl) ?_
            refine lv_iconst (v := 1) hx hb dX4_reachedWithout_60 (by decide) ?_
            refine lv_aload_n hx hb dX4_reachedWithout_61 rfl (lv_at hl 0 rfl) ?_
            refine va_get (D := G.1) (ci := 3) (v := .ref (d0 15)) (C := RX4) (T := TX4) (N := 17) hx hb hT iX4 hown hK hP 0 rfl rfl 15 (by decide) (hT _ q_117) (fun _ h9 => h9) rfl dX4_reachedWithout_62 ?_
            refine lv_iload hx hb dX4_reachedWithout_65 (lv_at hl 4 rfl) ?_
            refine va_iald hx hb hK hP 14 0 rfl rfl hg.1 dX4_reachedWithout_67 ?_
            have hg := hg.2
            refine lv_ishl hx hb dX4_reachedWithout_68 ?_
            refine lv_iload_n hx hb dX4_reachedWithout_69 rfl (lv_at hl 1 rfl) ?_
            refine lv_iand hx hb dX4_reachedWithout_70 ?_
            refine lv_ior hx hb dX4_reachedWithout_71 ?_
            refine lv_topi (fun x3_8 ex3_8 => ?_)
            have hg := hg x3_8 ex3_8
            refine lv_istore_n (lv' := [(3, .int x3_8), (0, .ref o0), (2, .int x2), (4, .int x4), (5, .int x5)]) hx hb dX4_reachedWithout_72 rfl hl (by decide) rfl (fun ls hl => ?_)
            obtain ⟨x5_9, ex5_9⟩ : ∃ y : Int32, y = x5 + 1 := ⟨_, rfl⟩
            have hg := hg x5_9 ex5_9
            refine lv_iinc (v := x5_9) (lv' := [(5, .int x5_9), (3, .int x3_8), (0, .ref o0), (2, .int x2), (4, .int x4)]) hx hb dX4_reachedWithout_73 hl (k := 4) rfl (by rw [ex5_9]; rfl) (by decide) rfl (fun ls hl => ?_)
            refine lv_goto (tgt := 25) hx hb dX4_reachedWithout_76 (by decide) ?_
            exact hX25 _ _ _ _ _ _ _ hg hP hD hS (lv_sub hl [2, 3, 1, 4, 0] rfl)
  have L13 : ∀ (n : Nat) (x2 : Int32) (x3 : Int32) (x4 : Int32) (H : Heap) (locs : List Loc) (ls : Array Slot), fx (F_X4_reachedWithout_13 x1 S0 Q) n (x2, x3, x4) → va_P G.1 classes (wX4 G o0 d0 S0) H → va_D A (wX4 G o0 d0 S0) → va_S A s.heap H locs → lv_has ls 6 [(0, .ref o0), (2, .int x2), (3, .int x3), (4, .int x4)] → W p l e rm_X4_reachedWithout s m args below meth c H locs 0 0 QQ (F0 m 13 ls []) := by
    intro n
    induction n with
    | zero => intro x2 x3 x4 H locs ls hg; exact hg.elim
    | succ n ih =>
      have hX13 := ih
      intro x2 x3 x4 H locs ls hg hP hD hS hl
      refine lv_iload hx hb dX4_reachedWithout_13 (lv_at hl 3 rfl) ?_
      refine lv_aload_n hx hb dX4_reachedWithout_15 rfl (lv_at hl 0 rfl) ?_
      refine va_get (D := G.1) (ci := 3) (v := .int (S0 0 0)) (C := RX4) (T := TX4) (N := 17) hx hb hT iX4 hown hK hP 0 rfl rfl 0 (by decide) (hT _ q_62) (fun _ h9 => h9) rfl dX4_reachedWithout_16 ?_
      refine lv_icmp_ge (tgt := 85) hx hb dX4_reachedWithout_19 (by decide) (fun c_1 => ?_) (fun c_1 => ?_)
      · have hg := hg.1 c_1
        refine lv_iload_n hx hb dX4_reachedWithout_85 rfl (lv_at hl 2 rfl) ?_
        exact hret _ _ _ () _ _ hg rfl hP hD hS dX4_reachedWithout_86
      · have hg := hg.2 c_1
        refine lv_iconst (v := 0) hx hb dX4_reachedWithout_22 (by decide) ?_
        refine lv_istore (lv' := [(5, .int 0), (0, .ref o0), (2, .int x2), (3, .int x3), (4, .int x4)]) hx hb dX4_reachedWithout_23 hl (by decide) rfl (fun ls hl => ?_)
        obtain ⟨n, hg⟩ := hg
        exact L25 _ hX13 n _ _ _ _ _ _ _ hg hP hD hS (lv_sub hl [1, 2, 3, 4, 0] rfl)
  refine lv_iconst (v := 1) hx hb dX4_reachedWithout_0 (by decide) ?_
  refine lv_iload_n hx hb dX4_reachedWithout_1 rfl (lv_at hl 1 rfl) ?_
  refine lv_ishl hx hb dX4_reachedWithout_2 ?_
  refine lv_iconst (v := (-1)) hx hb dX4_reachedWithout_3 (by decide) ?_
  refine lv_ixor hx hb dX4_reachedWithout_4 ?_
  refine lv_topi (fun x2_1 ex2_1 => ?_)
  have hg := hg x2_1 ex2_1
  refine lv_istore_n (lv' := [(2, .int x2_1), (0, .ref o0), (1, .int x1)]) hx hb dX4_reachedWithout_5 rfl hl (by decide) rfl (fun ls hl => ?_)
  refine lv_iconst (v := 1) hx hb dX4_reachedWithout_6 (by decide) ?_
  refine lv_iload_n hx hb dX4_reachedWithout_7 rfl (lv_at hl 0 rfl) ?_
  refine lv_iand hx hb dX4_reachedWithout_8 ?_
  refine lv_topi (fun x3_2 ex3_2 => ?_)
  have hg := hg x3_2 ex3_2
  refine lv_istore_n (lv' := [(3, .int x3_2), (2, .int x2_1), (0, .ref o0), (1, .int x1)]) hx hb dX4_reachedWithout_9 rfl hl (by decide) rfl (fun ls hl => ?_)
  refine lv_iconst (v := 0) hx hb dX4_reachedWithout_10 (by decide) ?_
  refine lv_istore (lv' := [(4, .int 0), (3, .int x3_2), (2, .int x2_1), (0, .ref o0), (1, .int x1)]) hx hb dX4_reachedWithout_11 hl (by decide) rfl (fun ls hl => ?_)
  obtain ⟨n, hg⟩ := hg
  exact L13 n _ _ _ _ _ _ hg hP hD hS (lv_sub hl [3, 2, 1, 0] rfl)
theorem zv_X4_findDominators : zV yX4_findDominators RX4 cX4_findDominators 4 none 0 := ⟨q_432, q_433, q_3, q_434, by decide +kernel⟩
set_option maxHeartbeats 4000000 in
set_option maxRecDepth 100000 in
theorem c_X4_findDominators (l : Launch) (G : ZG) (o0 : Nat) (d0 : Nat → Nat) (S0 : ZS) (Q : ZS → Prop) (hg : g_X4_findDominators S0 Q) : Kv l G yX4_findDominators cX4_findDominators 4 rm_X4_findDominators [.ref o0] (wX4 G o0 d0 S0) (fun u : ZS => wX4 G o0 d0 u) (fun u => Q u) := by
  refine Kv.of (by decide) (Nat.le_of_ble_eq_true rfl) ?_
  intro p e s m args below meth c A QQ ls Cx hret hl hP hD hS
  obtain ⟨hx, hb, hml, hown, hT, hK, hA⟩ := id Cx
  have hl : lv_has ls 4 [(0, .ref o0)] := hl
  have L41 : ∀ (X25 : Int32 × ZS → Prop) (hX25 : ∀ (x1 : Int32) (S0 : ZS) (H : Heap) (locs : List Loc) (ls : Array Slot), X25 (x1, S0) → va_P G.1 classes (wX4 G o0 d0 S0) H → va_D A (wX4 G o0 d0 S0) → va_S A s.heap H locs → lv_has ls 4 [(0, .ref o0), (1, .int x1)] → W p l e rm_X4_findDominators s m args below meth c H locs 0 0 QQ (F0 m 25 ls [])) (n : Nat) (x1 : Int32) (x2 : Int32) (x3 : Int32) (S0 : ZS) (H : Heap) (locs : List Loc) (ls : Array Slot), fx (F_X4_findDominators_41 Q X25) n (x1, x2, x3, S0) → va_P G.1 classes (wX4 G o0 d0 S0) H → va_D A (wX4 G o0 d0 S0) → va_S A s.heap H locs → lv_has ls 4 [(0, .ref o0), (1, .int x1), (2, .int x2), (3, .int x3)] → W p l e rm_X4_findDominators s m args below meth c H locs 0 0 QQ (F0 m 41 ls []) := by
    intro X25 hX25 n
    induction n with
    | zero => intro x1 x2 x3 S0 H locs ls hg; exact hg.elim
    | succ n ih =>
      have hX41 := ih
      intro x1 x2 x3 S0 H locs ls hg hP hD hS hl
      refine lv_iload_n hx hb dX4_findDominators_41 rfl (lv_at hl 3 rfl) ?_
      refine lv_aload_n hx hb dX4_findDominators_42 rfl (lv_at hl 0 rfl) ?_
      refine va_get (D := G.1) (ci := 3) (v := .int (S0 0 0)) (C := RX4) (T := TX4) (N := 17) hx hb hT iX4 hown hK hP 0 rfl rfl 0 (by decide) (hT _ q_62) (fun _ h9 => h9) rfl dX4_findDominators_43 ?_
      refine lv_icmp_ge (tgt := 75) hx hb dX4_findDominators_46 (by decide) (fun c_1 => ?_) (fun c_1 => ?_)
      · have hg := hg.1 c_1
        obtain ⟨x1_2, ex1_2⟩ : ∃ y : Int32, y = x1 + 1 := ⟨_, rfl⟩
        have hg := hg x1_2 ex1_2
        refine lv_iinc (v := x1_2) (lv' := [(1, .int x1_2), (0, .ref o0), (2, .int x2), (3, .int x3)]) hx hb dX4_findDominators_75 hl (k := 1) rfl (by rw [ex1_2]; rfl) (by decide) rfl (fun ls hl => ?_)
        refine lv_goto (tgt := 25) hx hb dX4_findDominators_78 (by decide) ?_
        exact hX25 _ _ _ _ _ hg hP hD hS (lv_sub hl [1, 0] rfl)
      · have hg := hg.2 c_1
        refine lv_iload_n hx hb dX4_findDominators_49 rfl (lv_at hl 2 rfl) ?_
        refine lv_iload_n hx hb dX4_findDominators_50 rfl (lv_at hl 3 rfl) ?_
        refine zcSi (As := [.int x2, .int x3]) (rest := []) Cx (c_X4_isIn l G x2 x3 _ hg) zv_X4_isIn q_439 ⟨⟨rfl, rfl⟩, Nat.le_of_ble_eq_true rfl, Nat.le_of_ble_eq_true rfl⟩ (zJ.none (S := Unit) hP hD hS hA) hS rfl hl.1 rfl (Nat.le_of_ble_eq_true rfl) dX4_findDominators_51 (fun r_3 _u H locs hg hP hD hS => ?_)
        refine lv_if_ne (tgt := 69) hx hb dX4_findDominators_54 (by decide) (fun c_4 => ?_) (fun c_4 => ?_)
        · have hg := hg.2 c_4
          obtain ⟨x3_5, ex3_5⟩ : ∃ y : Int32, y = x3 + 1 := ⟨_, rfl⟩
          have hg := hg x3_5 ex3_5
          refine lv_iinc (v := x3_5) (lv' := [(3, .int x3_5), (0, .ref o0), (1, .int x1), (2, .int x2)]) hx hb dX4_findDominators_69 hl (k := 3) rfl (by rw [ex3_5]; rfl) (by decide) rfl (fun ls hl => ?_)
          refine lv_goto (tgt := 41) hx hb dX4_findDominators_72 (by decide) ?_
          exact hX41 _ _ _ _ _ _ _ hg hP hD hS (lv_sub hl [1, 2, 3, 0] rfl)
        · have hg := hg.1 c_4
          refine lv_aload_n hx hb dX4_findDominators_57 rfl (lv_at hl 0 rfl) ?_
          refine va_get (D := G.1) (ci := 3) (v := .ref (d0 16)) (C := RX4) (T := TX4) (N := 17) hx hb hT iX4 hown hK hP 0 rfl rfl 16 (by decide) (hT _ q_120) (fun _ h9 => h9) rfl dX4_findDominators_58 ?_
          refine lv_iload_n hx hb dX4_findDominators_61 rfl (lv_at hl 3 rfl) ?_
          refine lv_dup2_11 hx hb dX4_findDominators_62 rfl rfl ?_
          refine va_iald hx hb hK hP 15 0 rfl rfl hg.1 dX4_findDominators_63 ?_
          have hg := hg.2
          refine lv_iconst (v := 1) hx hb dX4_findDominators_64 (by decide) ?_
          refine lv_iload_n hx hb dX4_findDominators_65 rfl (lv_at hl 1 rfl) ?_
          refine lv_ishl hx hb dX4_findDominators_66 ?_
          refine lv_ior hx hb dX4_findDominators_67 ?_
          refine z_iast hx hb hK hP hD hS 15 0 rfl rfl hg.1 dX4_findDominators_68 (zst S0 16 x3.toNatClampNeg ((S0 16 x3.toNatClampNeg) ||| (1 <<< (x1 &&& 31)))) (fun S : ZS => wX4 G o0 d0 S) rfl (fun S0_6 H locs eS0_6 hP hD hS => ?_)
          have hg := hg.2 S0_6 eS0_6
          obtain ⟨x3_7, ex3_7⟩ : ∃ y : Int32, y = x3 + 1 := ⟨_, rfl⟩
          have hg := hg x3_7 ex3_7
          refine lv_iinc (v := x3_7) (lv' := [(3, .int x3_7), (0, .ref o0), (1, .int x1), (2, .int x2)]) hx hb dX4_findDominators_69 hl (k := 3) rfl (by rw [ex3_7]; rfl) (by decide) rfl (fun ls hl => ?_)
          refine lv_goto (tgt := 41) hx hb dX4_findDominators_72 (by decide) ?_
          exact hX41 _ _ _ _ _ _ _ hg hP hD hS (lv_sub hl [1, 2, 3, 0] rfl)
  have L25 : ∀ (n : Nat) (x1 : Int32) (S0 : ZS) (H : Heap) (locs : List Loc) (ls : Array Slot), fx (F_X4_findDominators_25 Q) n (x1, S0) → va_P G.1 classes (wX4 G o0 d0 S0) H → va_D A (wX4 G o0 d0 S0) → va_S A s.heap H locs → lv_has ls 4 [(0, .ref o0), (1, .int x1)] → W p l e rm_X4_findDominators s m args below meth c H locs 0 0 QQ (F0 m 25 ls []) := by
    intro n
    induction n with
    | zero => intro x1 S0 H locs ls hg; exact hg.elim
    | succ n ih =>
      have hX25 := ih
      intro x1 S0 H locs ls hg hP hD hS hl
      refine lv_iload_n hx hb dX4_findDominators_25 rfl (lv_at hl 1 rfl) ?_
      refine lv_aload_n hx hb dX4_findDominators_26 rfl (lv_at hl 0 rfl) ?_
      refine va_get (D := G.1) (ci := 3) (v := .int (S0 0 0)) (C := RX4) (T := TX4) (N := 17) hx hb hT iX4 hown hK hP 0 rfl rfl 0 (by decide) (hT _ q_62) (fun _ h9 => h9) rfl dX4_findDominators_27 ?_
      refine lv_icmp_ge (tgt := 81) hx hb dX4_findDominators_30 (by decide) (fun c_1 => ?_) (fun c_1 => ?_)
      · have hg := hg.1 c_1
        exact hret _ _ (S0) _ _ hg hP hD hS dX4_findDominators_81
      · have hg := hg.2 c_1
        refine lv_aload_n hx hb dX4_findDominators_33 rfl (lv_at hl 0 rfl) ?_
        refine lv_iload_n hx hb dX4_findDominators_34 rfl (lv_at hl 1 rfl) ?_
        refine zcVi (As := [.int x1]) (rest := []) (C := RX4) Cx (c_X4_reachedWithout l G o0 d0 x1 S0 _ hg) zv_X4_reachedWithout q_435 ⟨⟨rfl, rfl⟩, Nat.le_of_ble_eq_true rfl, Nat.le_of_ble_eq_true rfl⟩ (zJ.all hP hD hS hA) hS 3 rfl rfl rfl rfl hl.1 rfl (Nat.le_of_ble_eq_true rfl) dX4_findDominators_35 (fun r_2 _u H locs hg hP hD hS => ?_)
        refine lv_istore_n (lv' := [(2, .int r_2), (0, .ref o0), (1, .int x1)]) hx hb dX4_findDominators_38 rfl hl (by decide) rfl (fun ls hl => ?_)
        refine lv_iconst (v := 0) hx hb dX4_findDominators_39 (by decide) ?_
        refine lv_istore_n (lv' := [(3, .int 0), (2, .int r_2), (0, .ref o0), (1, .int x1)]) hx hb dX4_findDominators_40 rfl hl (by decide) rfl (fun ls hl => ?_)
        obtain ⟨n, hg⟩ := hg
        exact L41 _ hX25 n _ _ _ _ _ _ _ hg hP hD hS (lv_sub hl [2, 3, 1, 0] rfl)
  have L2 : ∀ (n : Nat) (x1 : Int32) (S0 : ZS) (H : Heap) (locs : List Loc) (ls : Array Slot), fx (F_X4_findDominators_2 Q) n (x1, S0) → va_P G.1 classes (wX4 G o0 d0 S0) H → va_D A (wX4 G o0 d0 S0) → va_S A s.heap H locs → lv_has ls 4 [(0, .ref o0), (1, .int x1)] → W p l e rm_X4_findDominators s m args below meth c H locs 0 0 QQ (F0 m 2 ls []) := by
    intro n
    induction n with
    | zero => intro x1 S0 H locs ls hg; exact hg.elim
    | succ n ih =>
      have hX2 := ih
      intro x1 S0 H locs ls hg hP hD hS hl
      refine lv_iload_n hx hb dX4_findDominators_2 rfl (lv_at hl 1 rfl) ?_
      refine lv_aload_n hx hb dX4_findDominators_3 rfl (lv_at hl 0 rfl) ?_
      refine va_get (D := G.1) (ci := 3) (v := .int (S0 0 0)) (C := RX4) (T := TX4) (N := 17) hx hb hT iX4 hown hK hP 0 rfl rfl 0 (by decide) (hT _ q_62) (fun _ h9 => h9) rfl dX4_findDominators_4 ?_
      refine lv_icmp_ge (tgt := 23) hx hb dX4_findDominators_7 (by decide) (fun c_1 => ?_) (fun c_1 => ?_)
      · have hg := hg.1 c_1
        refine lv_iconst (v := 0) hx hb dX4_findDominators_23 (by decide) ?_
        refine lv_istore_n (lv' := [(1, .int 0), (0, .ref o0)]) hx hb dX4_findDominators_24 rfl hl (by decide) rfl (fun ls hl => ?_)
        obtain ⟨n, hg⟩ := hg
        exact L25 n _ _ _ _ _ hg hP hD hS (lv_sub hl [1, 0] rfl)
      · have hg := hg.2 c_1
        refine lv_aload_n hx hb dX4_findDominators_10 rfl (lv_at hl 0 rfl) ?_
        refine va_get (D := G.1) (ci := 3) (v := .ref (d0 16)) (C := RX4) (T := TX4) (N := 17) hx hb hT iX4 hown hK hP 0 rfl rfl 16 (by decide) (hT _ q_120) (fun _ h9 => h9) rfl dX4_findDominators_11 ?_
        refine lv_iload_n hx hb dX4_findDominators_14 rfl (lv_at hl 1 rfl) ?_
        refine lv_iconst (v := 0) hx hb dX4_findDominators_15 (by decide) ?_
        refine z_iast hx hb hK hP hD hS 15 0 rfl rfl hg.1 dX4_findDominators_16 (zst S0 16 x1.toNatClampNeg 0) (fun S : ZS => wX4 G o0 d0 S) rfl (fun S0_2 H locs eS0_2 hP hD hS => ?_)
        have hg := hg.2 S0_2 eS0_2
        obtain ⟨x1_3, ex1_3⟩ : ∃ y : Int32, y = x1 + 1 := ⟨_, rfl⟩
        have hg := hg x1_3 ex1_3
        refine lv_iinc (v := x1_3) (lv' := [(1, .int x1_3), (0, .ref o0)]) hx hb dX4_findDominators_17 hl (k := 1) rfl (by rw [ex1_3]; rfl) (by decide) rfl (fun ls hl => ?_)
        refine lv_goto (tgt := 2) hx hb dX4_findDominators_20 (by decide) ?_
        exact hX2 _ _ _ _ _ hg hP hD hS (lv_sub hl [1, 0] rfl)
  refine lv_iconst (v := 0) hx hb dX4_findDominators_0 (by decide) ?_
  refine lv_istore_n (lv' := [(1, .int 0), (0, .ref o0)]) hx hb dX4_findDominators_1 rfl hl (by decide) rfl (fun ls hl => ?_)
  obtain ⟨n, hg⟩ := hg
  exact L2 n _ _ _ _ _ hg hP hD hS (lv_sub hl [1, 0] rfl)
theorem zv_X4_dominates : zV yX4_dominates RX4 cX4_dominates 3 (some .boolean) 2 := ⟨q_443, q_444, q_3, q_445, by decide +kernel⟩
set_option maxHeartbeats 4000000 in
set_option maxRecDepth 100000 in
theorem c_X4_dominates (l : Launch) (G : ZG) (o0 : Nat) (d0 : Nat → Nat) (x1 : Int32) (x2 : Int32) (S0 : ZS) (Q : Int32 → Prop) (hg : g_X4_dominates x1 x2 S0 Q) : Ki l G yX4_dominates cX4_dominates 3 .boolean rm_X4_dominates [.ref o0, .int x1, .int x2] (wX4 G o0 d0 S0) (fun _ : Unit => wX4 G o0 d0 S0) (fun r _ => Q r ) := by
  refine Ki.of (by decide) (Nat.le_of_ble_eq_true rfl) ?_
  intro p e s m args below meth c A QQ ls Cx hret hl hP hD hS
  obtain ⟨hx, hb, hml, hown, hT, hK, hA⟩ := id Cx
  have hl : lv_has ls 3 [(0, .ref o0), (1, .int x1), (2, .int x2)] := hl
  refine lv_aload_n hx hb dX4_dominates_0 rfl (lv_at hl 0 rfl) ?_
  refine va_get (D := G.1) (ci := 3) (v := .ref (d0 16)) (C := RX4) (T := TX4) (N := 17) hx hb hT iX4 hown hK hP 0 rfl rfl 16 (by decide) (hT _ q_120) (fun _ h9 => h9) rfl dX4_dominates_1 ?_
  refine lv_iload_n hx hb dX4_dominates_4 rfl (lv_at hl 2 rfl) ?_
  refine va_iald hx hb hK hP 15 0 rfl rfl hg.1 dX4_dominates_5 ?_
  have hg := hg.2
  refine lv_iload_n hx hb dX4_dominates_6 rfl (lv_at hl 1 rfl) ?_
  refine zcSi (As := [.int (S0 16 x2.toNatClampNeg), .int x1]) (rest := []) Cx (c_X4_isIn l G (S0 16 x2.toNatClampNeg) x1 _ hg) zv_X4_isIn q_439 ⟨⟨rfl, rfl⟩, Nat.le_of_ble_eq_true rfl, Nat.le_of_ble_eq_true rfl⟩ (zJ.none (S := Unit) hP hD hS hA) hS rfl hl.1 rfl (Nat.le_of_ble_eq_true rfl) dX4_dominates_7 (fun r_1 _u H locs hg hP hD hS => ?_)
  exact hret _ _ _ () _ _ hg.2 hg.1.nar hP hD hS dX4_dominates_10
theorem zv_X4_isAhead : zV yX4_isAhead RX4 cX4_isAhead 3 (some .boolean) 2 := ⟨q_447, q_448, q_3, q_449, by decide +kernel⟩
set_option maxHeartbeats 4000000 in
set_option maxRecDepth 100000 in
theorem c_X4_isAhead (l : Launch) (G : ZG) (o0 : Nat) (d0 : Nat → Nat) (x1 : Int32) (x2 : Int32) (S0 : ZS) (Q : Int32 → Prop) (hg : g_X4_isAhead x1 x2 S0 Q) : Ki l G yX4_isAhead cX4_isAhead 3 .boolean rm_X4_isAhead [.ref o0, .int x1, .int x2] (wX4 G o0 d0 S0) (fun _ : Unit => wX4 G o0 d0 S0) (fun r _ => Q r ) := by
  refine Ki.of (by decide) (Nat.le_of_ble_eq_true rfl) ?_
  intro p e s m args below meth c A QQ ls Cx hret hl hP hD hS
  obtain ⟨hx, hb, hml, hown, hT, hK, hA⟩ := id Cx
  have hl : lv_has ls 3 [(0, .ref o0), (1, .int x1), (2, .int x2)] := hl
  refine lv_aload_n hx hb dX4_isAhead_0 rfl (lv_at hl 0 rfl) ?_
  refine va_get (D := G.1) (ci := 3) (v := .ref (d0 2)) (C := RX4) (T := TX4) (N := 17) hx hb hT iX4 hown hK hP 0 rfl rfl 2 (by decide) (hT _ q_68) (fun _ h9 => h9) rfl dX4_isAhead_1 ?_
  refine lv_iload_n hx hb dX4_isAhead_4 rfl (lv_at hl 1 rfl) ?_
  refine va_iald hx hb hK hP 1 0 rfl rfl hg.1 dX4_isAhead_5 ?_
  have hg := hg.2
  refine lv_aload_n hx hb dX4_isAhead_6 rfl (lv_at hl 0 rfl) ?_
  refine va_get (D := G.1) (ci := 3) (v := .ref (d0 2)) (C := RX4) (T := TX4) (N := 17) hx hb hT iX4 hown hK hP 0 rfl rfl 2 (by decide) (hT _ q_68) (fun _ h9 => h9) rfl dX4_isAhead_7 ?_
  refine lv_iload_n hx hb dX4_isAhead_10 rfl (lv_at hl 2 rfl) ?_
  refine va_iald hx hb hK hP 1 0 rfl rfl hg.1 dX4_isAhead_11 ?_
  have hg := hg.2
  refine lv_icmp_ne (tgt := 28) hx hb dX4_isAhead_12 (by decide) (fun c_1 => ?_) (fun c_1 => ?_)
  · have hg := hg.2 c_1
    refine lv_aload_n hx hb dX4_isAhead_28 rfl (lv_at hl 0 rfl) ?_
    refine lv_aload_n hx hb dX4_isAhead_29 rfl (lv_at hl 0 rfl) ?_
    refine va_get (D := G.1) (ci := 3) (v := .ref (d0 2)) (C := RX4) (T := TX4) (N := 17) hx hb hT iX4 hown hK hP 0 rfl rfl 2 (by decide) (hT _ q_68) (fun _ h9 => h9) rfl dX4_isAhead_30 ?_
    refine lv_iload_n hx hb dX4_isAhead_33 rfl (lv_at hl 1 rfl) ?_
    refine va_iald hx hb hK hP 1 0 rfl rfl hg.1 dX4_isAhead_34 ?_
    have hg := hg.2
    refine lv_aload_n hx hb dX4_isAhead_35 rfl (lv_at hl 0 rfl) ?_
    refine va_get (D := G.1) (ci := 3) (v := .ref (d0 2)) (C := RX4) (T := TX4) (N := 17) hx hb hT iX4 hown hK hP 0 rfl rfl 2 (by decide) (hT _ q_68) (fun _ h9 => h9) rfl dX4_isAhead_36 ?_
    refine lv_iload_n hx hb dX4_isAhead_39 rfl (lv_at hl 2 rfl) ?_
    refine va_iald hx hb hK hP 1 0 rfl rfl hg.1 dX4_isAhead_40 ?_
    have hg := hg.2
    refine zcVi (As := [.int (S0 2 x1.toNatClampNeg), .int (S0 2 x2.toNatClampNeg)]) (rest := []) (C := RX4) Cx (c_X4_dominates l G o0 d0 (S0 2 x1.toNatClampNeg) (S0 2 x2.toNatClampNeg) S0 _ hg) zv_X4_dominates q_442 ⟨⟨rfl, rfl⟩, Nat.le_of_ble_eq_true rfl, Nat.le_of_ble_eq_true rfl⟩ (zJ.all hP hD hS hA) hS 3 rfl rfl rfl rfl hl.1 rfl (Nat.le_of_ble_eq_true rfl) dX4_isAhead_41 (fun r_2 _u H locs hg hP hD hS => ?_)
    exact hret _ _ _ () _ _ hg.2 hg.1.nar hP hD hS dX4_isAhead_44
  · have hg := hg.1 c_1
    refine lv_iload_n hx hb dX4_isAhead_15 rfl (lv_at hl 1 rfl) ?_
    refine lv_iload_n hx hb dX4_isAhead_16 rfl (lv_at hl 2 rfl) ?_
    refine lv_icmp_ge (tgt := 24) hx hb dX4_isAhead_17 (by decide) (fun c_3 => ?_) (fun c_3 => ?_)
    · have hg := hg.1 c_3
      refine lv_iconst (v := 0) hx hb dX4_isAhead_24 (by decide) ?_
      refine lv_goto (tgt := 44) hx hb dX4_isAhead_25 (by decide) ?_
      exact hret _ _ _ () _ _ hg rfl hP hD hS dX4_isAhead_44
    · have hg := hg.2 c_3
      refine lv_iconst (v := 1) hx hb dX4_isAhead_20 (by decide) ?_
      refine lv_goto (tgt := 44) hx hb dX4_isAhead_21 (by decide) ?_
      exact hret _ _ _ () _ _ hg rfl hP hD hS dX4_isAhead_44
theorem zv_X4_comingTo : zV yX4_comingTo RX4 cX4_comingTo 4 (some .int) 1 := ⟨q_455, q_456, q_3, q_457, by decide +kernel⟩
set_option maxHeartbeats 4000000 in
set_option maxRecDepth 100000 in
theorem c_X4_comingTo (l : Launch) (G : ZG) (o0 : Nat) (d0 : Nat → Nat) (x1 : Int32) (S0 : ZS) (Q : Int32 → Prop) (hg : g_X4_comingTo x1 S0 Q) : Ki l G yX4_comingTo cX4_comingTo 4 .int rm_X4_comingTo [.ref o0, .int x1] (wX4 G o0 d0 S0) (fun _ : Unit => wX4 G o0 d0 S0) (fun r _ => Q r ) := by
  refine Ki.of (by decide) (Nat.le_of_ble_eq_true rfl) ?_
  intro p e s m args below meth c A QQ ls Cx hret hl hP hD hS
  obtain ⟨hx, hb, hml, hown, hT, hK, hA⟩ := id Cx
  have hl : lv_has ls 4 [(0, .ref o0), (1, .int x1)] := hl
  have L4 : ∀ (n : Nat) (x2 : Int32) (x3 : Int32) (H : Heap) (locs : List Loc) (ls : Array Slot), fx (F_X4_comingTo_4 x1 S0 Q) n (x2, x3) → va_P G.1 classes (wX4 G o0 d0 S0) H → va_D A (wX4 G o0 d0 S0) → va_S A s.heap H locs → lv_has ls 4 [(0, .ref o0), (1, .int x1), (2, .int x2), (3, .int x3)] → W p l e rm_X4_comingTo s m args below meth c H locs 0 0 QQ (F0 m 4 ls []) := by
    intro n
    induction n with
    | zero => intro x2 x3 H locs ls hg; exact hg.elim
    | succ n ih =>
      have hX4 := ih
      intro x2 x3 H locs ls hg hP hD hS hl
      refine lv_iload_n hx hb dX4_comingTo_4 rfl (lv_at hl 3 rfl) ?_
      refine lv_iconst (v := 2) hx hb dX4_comingTo_5 (by decide) ?_
      refine lv_aload_n hx hb dX4_comingTo_6 rfl (lv_at hl 0 rfl) ?_
      refine va_get (D := G.1) (ci := 3) (v := .int (S0 0 0)) (C := RX4) (T := TX4) (N := 17) hx hb hT iX4 hown hK hP 0 rfl rfl 0 (by decide) (hT _ q_62) (fun _ h9 => h9) rfl dX4_comingTo_7 ?_
      refine lv_imul hx hb dX4_comingTo_10 ?_
      refine lv_icmp_ge (tgt := 38) hx hb dX4_comingTo_11 (by decide) (fun c_1 => ?_) (fun c_1 => ?_)
      · have hg := hg.1 c_1
        refine lv_iload_n hx hb dX4_comingTo_38 rfl (lv_at hl 2 rfl) ?_
        exact hret _ _ _ () _ _ hg rfl hP hD hS dX4_comingTo_39
      · have hg := hg.2 c_1
        refine lv_aload_n hx hb dX4_comingTo_14 rfl (lv_at hl 0 rfl) ?_
        refine va_get (D := G.1) (ci := 3) (v := .ref (d0 15)) (C := RX4) (T := TX4) (N := 17) hx hb hT iX4 hown hK hP 0 rfl rfl 15 (by decide) (hT _ q_117) (fun _ h9 => h9) rfl dX4_comingTo_15 ?_
        refine lv_iload_n hx hb dX4_comingTo_18 rfl (lv_at hl 3 rfl) ?_
        refine va_iald hx hb hK hP 14 0 rfl rfl hg.1 dX4_comingTo_19 ?_
        have hg := hg.2
        refine lv_iload_n hx hb dX4_comingTo_20 rfl (lv_at hl 1 rfl) ?_
        refine lv_icmp_ne (tgt := 32) hx hb dX4_comingTo_21 (by decide) (fun c_2 => ?_) (fun c_2 => ?_)
        · have hg := hg.2 c_2
          obtain ⟨x3_3, ex3_3⟩ : ∃ y : Int32, y = x3 + 1 := ⟨_, rfl⟩
          have hg := hg x3_3 ex3_3
          refine lv_iinc (v := x3_3) (lv' := [(3, .int x3_3), (0, .ref o0), (1, .int x1), (2, .int x2)]) hx hb dX4_comingTo_32 hl (k := 3) rfl (by rw [ex3_3]; rfl) (by decide) rfl (fun ls hl => ?_)
          refine lv_goto (tgt := 4) hx hb dX4_comingTo_35 (by decide) ?_
          exact hX4 _ _ _ _ _ hg hP hD hS (lv_sub hl [1, 2, 3, 0] rfl)
        · have hg := hg.1 c_2
          refine lv_iload_n hx hb dX4_comingTo_24 rfl (lv_at hl 2 rfl) ?_
          refine lv_iconst (v := 1) hx hb dX4_comingTo_25 (by decide) ?_
          refine lv_iload_n hx hb dX4_comingTo_26 rfl (lv_at hl 3 rfl) ?_
          refine lv_iconst (v := 2) hx hb dX4_comingTo_27 (by decide) ?_
          refine lv_idiv hx hb dX4_comingTo_28 (by decide) ?_
          refine lv_ishl hx hb dX4_comingTo_29 ?_
          refine lv_ior hx hb dX4_comingTo_30 ?_
          refine lv_topi (fun x2_4 ex2_4 => ?_)
          have hg := hg x2_4 ex2_4
          refine lv_istore_n (lv' := [(2, .int x2_4), (0, .ref o0), (1, .int x1), (3, .int x3)]) hx hb dX4_comingTo_31 rfl hl (by decide) rfl (fun ls hl => ?_)
          obtain ⟨x3_5, ex3_5⟩ : ∃ y : Int32, y = x3 + 1 := ⟨_, rfl⟩
          have hg := hg x3_5 ex3_5
          refine lv_iinc (v := x3_5) (lv' := [(3, .int x3_5), (2, .int x2_4), (0, .ref o0), (1, .int x1)]) hx hb dX4_comingTo_32 hl (k := 3) rfl (by rw [ex3_5]; rfl) (by decide) rfl (fun ls hl => ?_)
          refine lv_goto (tgt := 4) hx hb dX4_comingTo_35 (by decide) ?_
          exact hX4 _ _ _ _ _ hg hP hD hS (lv_sub hl [2, 3, 1, 0] rfl)
  refine lv_iconst (v := 0) hx hb dX4_comingTo_0 (by decide) ?_
  refine lv_istore_n (lv' := [(2, .int 0), (0, .ref o0), (1, .int x1)]) hx hb dX4_comingTo_1 rfl hl (by decide) rfl (fun ls hl => ?_)
  refine lv_iconst (v := 0) hx hb dX4_comingTo_2 (by decide) ?_
  refine lv_istore_n (lv' := [(3, .int 0), (2, .int 0), (0, .ref o0), (1, .int x1)]) hx hb dX4_comingTo_3 rfl hl (by decide) rfl (fun ls hl => ?_)
  obtain ⟨n, hg⟩ := hg
  exact L4 n _ _ _ _ _ hg hP hD hS (lv_sub hl [2, 3, 1, 0] rfl)
theorem zv_X4_armsFit : zV yX4_armsFit RX4 cX4_armsFit 4 (some .boolean) 1 := ⟨q_451, q_452, q_3, q_453, by decide +kernel⟩
set_option maxHeartbeats 4000000 in
set_option maxRecDepth 100000 in
theorem c_X4_armsFit (l : Launch) (G : ZG) (o0 : Nat) (d0 : Nat → Nat) (x1 : Int32) (S0 : ZS) (Q : Int32 → Prop) (hg : g_X4_armsFit x1 S0 Q) : Ki l G yX4_armsFit cX4_armsFit 4 .boolean rm_X4_armsFit [.ref o0, .int x1] (wX4 G o0 d0 S0) (fun _ : Unit => wX4 G o0 d0 S0) (fun r _ => Q r ) := by
  refine Ki.of (by decide) (Nat.le_of_ble_eq_true rfl) ?_
  intro p e s m args below meth c A QQ ls Cx hret hl hP hD hS
  obtain ⟨hx, hb, hml, hown, hT, hK, hA⟩ := id Cx
  have hl : lv_has ls 4 [(0, .ref o0), (1, .int x1)] := hl
  have L6 : ∀ (n : Nat) (x2 : Int32) (x3 : Int32) (H : Heap) (locs : List Loc) (ls : Array Slot), fx (F_X4_armsFit_6 x1 S0 Q) n (x2, x3) → va_P G.1 classes (wX4 G o0 d0 S0) H → va_D A (wX4 G o0 d0 S0) → va_S A s.heap H locs → lv_has ls 4 [(0, .ref o0), (1, .int x1), (2, .int x2), (3, .int x3)] → W p l e rm_X4_armsFit s m args below meth c H locs 0 0 QQ (F0 m 6 ls []) := by
    intro n
    induction n with
    | zero => intro x2 x3 H locs ls hg; exact hg.elim
    | succ n ih =>
      have hX6 := ih
      intro x2 x3 H locs ls hg hP hD hS hl
      refine lv_iload_n hx hb dX4_armsFit_6 rfl (lv_at hl 3 rfl) ?_
      refine lv_iconst (v := 3) hx hb dX4_armsFit_7 (by decide) ?_
      refine lv_iload_n hx hb dX4_armsFit_8 rfl (lv_at hl 1 rfl) ?_
      refine lv_imul hx hb dX4_armsFit_9 ?_
      refine lv_aload_n hx hb dX4_armsFit_10 rfl (lv_at hl 0 rfl) ?_
      refine va_get (D := G.1) (ci := 3) (v := .ref (d0 8)) (C := RX4) (T := TX4) (N := 17) hx hb hT iX4 hown hK hP 0 rfl rfl 8 (by decide) (hT _ q_93) (fun _ h9 => h9) rfl dX4_armsFit_11 ?_
      refine lv_iload_n hx hb dX4_armsFit_14 rfl (lv_at hl 1 rfl) ?_
      refine va_iald hx hb hK hP 7 0 rfl rfl hg.1 dX4_armsFit_15 ?_
      have hg := hg.2
      refine lv_iadd hx hb dX4_armsFit_16 ?_
      refine lv_icmp_ge (tgt := 63) hx hb dX4_armsFit_17 (by decide) (fun c_1 => ?_) (fun c_1 => ?_)
      · have hg := hg.1 c_1
        refine lv_iload_n hx hb dX4_armsFit_63 rfl (lv_at hl 2 rfl) ?_
        refine lv_aload_n hx hb dX4_armsFit_64 rfl (lv_at hl 0 rfl) ?_
        refine lv_aload_n hx hb dX4_armsFit_65 rfl (lv_at hl 0 rfl) ?_
        refine va_get (D := G.1) (ci := 3) (v := .ref (d0 2)) (C := RX4) (T := TX4) (N := 17) hx hb hT iX4 hown hK hP 0 rfl rfl 2 (by decide) (hT _ q_68) (fun _ h9 => h9) rfl dX4_armsFit_66 ?_
        refine lv_iload_n hx hb dX4_armsFit_69 rfl (lv_at hl 1 rfl) ?_
        refine va_iald hx hb hK hP 1 0 rfl rfl hg.1 dX4_armsFit_70 ?_
        have hg := hg.2
        refine zcVi (As := [.int (S0 2 x1.toNatClampNeg)]) (rest := [.int x2]) (C := RX4) Cx (c_X4_comingTo l G o0 d0 (S0 2 x1.toNatClampNeg) S0 _ hg) zv_X4_comingTo q_454 ⟨⟨rfl, rfl⟩, Nat.le_of_ble_eq_true rfl, Nat.le_of_ble_eq_true rfl⟩ (zJ.all hP hD hS hA) hS 3 rfl rfl rfl rfl hl.1 rfl (Nat.le_of_ble_eq_true rfl) dX4_armsFit_71 (fun r_2 _u H locs hg hP hD hS => ?_)
        refine lv_icmp_ne (tgt := 81) hx hb dX4_armsFit_74 (by decide) (fun c_3 => ?_) (fun c_3 => ?_)
        · have hg := hg.2 c_3
          refine lv_iconst (v := 0) hx hb dX4_armsFit_81 (by decide) ?_
          exact hret _ _ _ () _ _ hg rfl hP hD hS dX4_armsFit_82
        · have hg := hg.1 c_3
          refine lv_iconst (v := 1) hx hb dX4_armsFit_77 (by decide) ?_
          refine lv_goto (tgt := 82) hx hb dX4_armsFit_78 (by decide) ?_
          exact hret _ _ _ () _ _ hg rfl hP hD hS dX4_armsFit_82
      · have hg := hg.2 c_1
        refine lv_aload_n hx hb dX4_armsFit_20 rfl (lv_at hl 0 rfl) ?_
        refine lv_aload_n hx hb dX4_armsFit_21 rfl (lv_at hl 0 rfl) ?_
        refine va_get (D := G.1) (ci := 3) (v := .ref (d0 2)) (C := RX4) (T := TX4) (N := 17) hx hb hT iX4 hown hK hP 0 rfl rfl 2 (by decide) (hT _ q_68) (fun _ h9 => h9) rfl dX4_armsFit_22 ?_
        refine lv_aload_n hx hb dX4_armsFit_25 rfl (lv_at hl 0 rfl) ?_
        refine va_get (D := G.1) (ci := 3) (v := .ref (d0 10)) (C := RX4) (T := TX4) (N := 17) hx hb hT iX4 hown hK hP 0 rfl rfl 10 (by decide) (hT _ q_98) (fun _ h9 => h9) rfl dX4_armsFit_26 ?_
        refine lv_iload_n hx hb dX4_armsFit_29 rfl (lv_at hl 3 rfl) ?_
        refine va_iald hx hb hK hP 9 0 rfl rfl hg.1 dX4_armsFit_30 ?_
        have hg := hg.2
        refine va_iald hx hb hK hP 1 0 rfl rfl hg.1 dX4_armsFit_31 ?_
        have hg := hg.2
        refine lv_aload_n hx hb dX4_armsFit_32 rfl (lv_at hl 0 rfl) ?_
        refine va_get (D := G.1) (ci := 3) (v := .ref (d0 9)) (C := RX4) (T := TX4) (N := 17) hx hb hT iX4 hown hK hP 0 rfl rfl 9 (by decide) (hT _ q_96) (fun _ h9 => h9) rfl dX4_armsFit_33 ?_
        refine lv_iload_n hx hb dX4_armsFit_36 rfl (lv_at hl 3 rfl) ?_
        refine va_iald hx hb hK hP 8 0 rfl rfl hg.1 dX4_armsFit_37 ?_
        have hg := hg.2
        refine zcVi (As := [.int (S0 2 (S0 10 x3.toNatClampNeg).toNatClampNeg), .int (S0 9 x3.toNatClampNeg)]) (rest := []) (C := RX4) Cx (c_X4_dominates l G o0 d0 (S0 2 (S0 10 x3.toNatClampNeg).toNatClampNeg) (S0 9 x3.toNatClampNeg) S0 _ hg) zv_X4_dominates q_442 ⟨⟨rfl, rfl⟩, Nat.le_of_ble_eq_true rfl, Nat.le_of_ble_eq_true rfl⟩ (zJ.all hP hD hS hA) hS 3 rfl rfl rfl rfl hl.1 rfl (Nat.le_of_ble_eq_true rfl) dX4_armsFit_38 (fun r_4 _u H locs hg hP hD hS => ?_)
        refine lv_if_ne (tgt := 46) hx hb dX4_armsFit_41 (by decide) (fun c_5 => ?_) (fun c_5 => ?_)
        · have hg := hg.2 c_5
          refine lv_iload_n hx hb dX4_armsFit_46 rfl (lv_at hl 2 rfl) ?_
          refine lv_iconst (v := 1) hx hb dX4_armsFit_47 (by decide) ?_
          refine lv_aload_n hx hb dX4_armsFit_48 rfl (lv_at hl 0 rfl) ?_
          refine va_get (D := G.1) (ci := 3) (v := .ref (d0 9)) (C := RX4) (T := TX4) (N := 17) hx hb hT iX4 hown hK hP 0 rfl rfl 9 (by decide) (hT _ q_96) (fun _ h9 => h9) rfl dX4_armsFit_49 ?_
          refine lv_iload_n hx hb dX4_armsFit_52 rfl (lv_at hl 3 rfl) ?_
          refine va_iald hx hb hK hP 8 0 rfl rfl hg.1 dX4_armsFit_53 ?_
          have hg := hg.2
          refine lv_ishl hx hb dX4_armsFit_54 ?_
          refine lv_ior hx hb dX4_armsFit_55 ?_
          refine lv_topi (fun x2_6 ex2_6 => ?_)
          have hg := hg x2_6 ex2_6
          refine lv_istore_n (lv' := [(2, .int x2_6), (0, .ref o0), (1, .int x1), (3, .int x3)]) hx hb dX4_armsFit_56 rfl hl (by decide) rfl (fun ls hl => ?_)
          obtain ⟨x3_7, ex3_7⟩ : ∃ y : Int32, y = x3 + 1 := ⟨_, rfl⟩
          have hg := hg x3_7 ex3_7
          refine lv_iinc (v := x3_7) (lv' := [(3, .int x3_7), (2, .int x2_6), (0, .ref o0), (1, .int x1)]) hx hb dX4_armsFit_57 hl (k := 3) rfl (by rw [ex3_7]; rfl) (by decide) rfl (fun ls hl => ?_)
          refine lv_goto (tgt := 6) hx hb dX4_armsFit_60 (by decide) ?_
          exact hX6 _ _ _ _ _ hg hP hD hS (lv_sub hl [2, 3, 1, 0] rfl)
        · have hg := hg.1 c_5
          refine lv_iconst (v := 0) hx hb dX4_armsFit_44 (by decide) ?_
          exact hret _ _ _ () _ _ hg rfl hP hD hS dX4_armsFit_45
  refine lv_iconst (v := 0) hx hb dX4_armsFit_0 (by decide) ?_
  refine lv_istore_n (lv' := [(2, .int 0), (0, .ref o0), (1, .int x1)]) hx hb dX4_armsFit_1 rfl hl (by decide) rfl (fun ls hl => ?_)
  refine lv_iconst (v := 3) hx hb dX4_armsFit_2 (by decide) ?_
  refine lv_iload_n hx hb dX4_armsFit_3 rfl (lv_at hl 2 rfl) ?_
  refine lv_imul hx hb dX4_armsFit_4 ?_
  refine lv_topi (fun x3_1 ex3_1 => ?_)
  have hg := hg x3_1 ex3_1
  refine lv_istore_n (lv' := [(3, .int x3_1), (2, .int 0), (0, .ref o0), (1, .int x1)]) hx hb dX4_armsFit_5 rfl hl (by decide) rfl (fun ls hl => ?_)
  obtain ⟨n, hg⟩ := hg
  exact L6 n _ _ _ _ _ hg hP hD hS (lv_sub hl [2, 3, 1, 0] rfl)
theorem zv_X4_isStrict : zV yX4_isStrict RX4 cX4_isStrict 2 (some .boolean) 0 := ⟨q_416, q_417, q_3, q_418, by decide +kernel⟩
set_option maxHeartbeats 4000000 in
set_option maxRecDepth 100000 in
theorem c_X4_isStrict (l : Launch) (G : ZG) (o0 : Nat) (d0 : Nat → Nat) (S0 : ZS) (Q : Int32 → ZS → Prop) (hg : g_X4_isStrict S0 Q) : Ki l G yX4_isStrict cX4_isStrict 2 .boolean rm_X4_isStrict [.ref o0] (wX4 G o0 d0 S0) (fun u : ZS => wX4 G o0 d0 u) (fun r u => Q r u) := by
  refine Ki.of (by decide) (Nat.le_of_ble_eq_true rfl) ?_
  intro p e s m args below meth c A QQ ls Cx hret hl hP hD hS
  obtain ⟨hx, hb, hml, hown, hT, hK, hA⟩ := id Cx
  have hl : lv_has ls 2 [(0, .ref o0)] := hl
  have J118 : ∀ (X70 : Int32 × ZS → Prop) (hX70 : ∀ (x1 : Int32) (S0 : ZS) (H : Heap) (locs : List Loc) (ls : Array Slot), X70 (x1, S0) → va_P G.1 classes (wX4 G o0 d0 S0) H → va_D A (wX4 G o0 d0 S0) → va_S A s.heap H locs → lv_has ls 2 [(0, .ref o0), (1, .int x1)] → W p l e rm_X4_isStrict s m args below meth c H locs 0 0 QQ (F0 m 70 ls [])) (x1 : Int32) (S0 : ZS) (H : Heap) (locs : List Loc) (ls : Array Slot), G_X4_isStrict_118 Q X70 x1 S0 → va_P G.1 classes (wX4 G o0 d0 S0) H → va_D A (wX4 G o0 d0 S0) → va_S A s.heap H locs → lv_has ls 2 [(0, .ref o0), (1, .int x1)] → W p l e rm_X4_isStrict s m args below meth c H locs 0 0 QQ (F0 m 118 ls []) := by
    intro X70 hX70 x1 S0 H locs ls hg hP hD hS hl
    refine lv_aload_n hx hb dX4_isStrict_118 rfl (lv_at hl 0 rfl) ?_
    refine va_get (D := G.1) (ci := 3) (v := .ref (d0 3)) (C := RX4) (T := TX4) (N := 17) hx hb hT iX4 hown hK hP 0 rfl rfl 3 (by decide) (hT _ q_71) (fun _ h9 => h9) rfl dX4_isStrict_119 ?_
    refine lv_iload_n hx hb dX4_isStrict_122 rfl (lv_at hl 1 rfl) ?_
    refine va_iald hx hb hK hP 2 0 rfl rfl hg.1 dX4_isStrict_123 ?_
    have hg := hg.2
    refine lv_iconst (v := 3) hx hb dX4_isStrict_124 (by decide) ?_
    refine lv_icmp_ne (tgt := 138) hx hb dX4_isStrict_125 (by decide) (fun c_1 => ?_) (fun c_1 => ?_)
    · have hg := hg.2 c_1
      obtain ⟨x1_2, ex1_2⟩ : ∃ y : Int32, y = x1 + 1 := ⟨_, rfl⟩
      have hg := hg x1_2 ex1_2
      refine lv_iinc (v := x1_2) (lv' := [(1, .int x1_2), (0, .ref o0)]) hx hb dX4_isStrict_138 hl (k := 1) rfl (by rw [ex1_2]; rfl) (by decide) rfl (fun ls hl => ?_)
      refine lv_goto (tgt := 70) hx hb dX4_isStrict_141 (by decide) ?_
      exact hX70 _ _ _ _ _ hg hP hD hS (lv_sub hl [1, 0] rfl)
    · have hg := hg.1 c_1
      refine lv_aload_n hx hb dX4_isStrict_128 rfl (lv_at hl 0 rfl) ?_
      refine lv_iload_n hx hb dX4_isStrict_129 rfl (lv_at hl 1 rfl) ?_
      refine zcVi (As := [.int x1]) (rest := []) (C := RX4) Cx (c_X4_armsFit l G o0 d0 x1 S0 _ hg) zv_X4_armsFit q_450 ⟨⟨rfl, rfl⟩, Nat.le_of_ble_eq_true rfl, Nat.le_of_ble_eq_true rfl⟩ (zJ.all hP hD hS hA) hS 3 rfl rfl rfl rfl hl.1 rfl (Nat.le_of_ble_eq_true rfl) dX4_isStrict_130 (fun r_3 _u H locs hg hP hD hS => ?_)
      refine lv_if_ne (tgt := 138) hx hb dX4_isStrict_133 (by decide) (fun c_4 => ?_) (fun c_4 => ?_)
      · have hg := hg.2 c_4
        obtain ⟨x1_5, ex1_5⟩ : ∃ y : Int32, y = x1 + 1 := ⟨_, rfl⟩
        have hg := hg x1_5 ex1_5
        refine lv_iinc (v := x1_5) (lv' := [(1, .int x1_5), (0, .ref o0)]) hx hb dX4_isStrict_138 hl (k := 1) rfl (by rw [ex1_5]; rfl) (by decide) rfl (fun ls hl => ?_)
        refine lv_goto (tgt := 70) hx hb dX4_isStrict_141 (by decide) ?_
        exact hX70 _ _ _ _ _ hg hP hD hS (lv_sub hl [1, 0] rfl)
      · have hg := hg.1 c_4
        refine lv_iconst (v := 0) hx hb dX4_isStrict_136 (by decide) ?_
        exact hret _ _ _ (S0) _ _ hg rfl hP hD hS dX4_isStrict_137
  have L70 : ∀ (n : Nat) (x1 : Int32) (S0 : ZS) (H : Heap) (locs : List Loc) (ls : Array Slot), fx (F_X4_isStrict_70 Q) n (x1, S0) → va_P G.1 classes (wX4 G o0 d0 S0) H → va_D A (wX4 G o0 d0 S0) → va_S A s.heap H locs → lv_has ls 2 [(0, .ref o0), (1, .int x1)] → W p l e rm_X4_isStrict s m args below meth c H locs 0 0 QQ (F0 m 70 ls []) := by
    intro n
    induction n with
    | zero => intro x1 S0 H locs ls hg; exact hg.elim
    | succ n ih =>
      have hX70 := ih
      intro x1 S0 H locs ls hg hP hD hS hl
      refine lv_iload_n hx hb dX4_isStrict_70 rfl (lv_at hl 1 rfl) ?_
      refine lv_aload_n hx hb dX4_isStrict_71 rfl (lv_at hl 0 rfl) ?_
      refine va_get (D := G.1) (ci := 3) (v := .int (S0 1 0)) (C := RX4) (T := TX4) (N := 17) hx hb hT iX4 hown hK hP 0 rfl rfl 1 (by decide) (hT _ q_65) (fun _ h9 => h9) rfl dX4_isStrict_72 ?_
      refine lv_icmp_ge (tgt := 144) hx hb dX4_isStrict_75 (by decide) (fun c_1 => ?_) (fun c_1 => ?_)
      · have hg := hg.1 c_1
        refine lv_iconst (v := 1) hx hb dX4_isStrict_144 (by decide) ?_
        exact hret _ _ _ (S0) _ _ hg rfl hP hD hS dX4_isStrict_145
      · have hg := hg.2 c_1
        refine lv_aload_n hx hb dX4_isStrict_78 rfl (lv_at hl 0 rfl) ?_
        refine va_get (D := G.1) (ci := 3) (v := .ref (d0 3)) (C := RX4) (T := TX4) (N := 17) hx hb hT iX4 hown hK hP 0 rfl rfl 3 (by decide) (hT _ q_71) (fun _ h9 => h9) rfl dX4_isStrict_79 ?_
        refine lv_iload_n hx hb dX4_isStrict_82 rfl (lv_at hl 1 rfl) ?_
        refine va_iald hx hb hK hP 2 0 rfl rfl hg.1 dX4_isStrict_83 ?_
        have hg := hg.2
        refine lv_iconst (v := 2) hx hb dX4_isStrict_84 (by decide) ?_
        refine lv_icmp_ne (tgt := 118) hx hb dX4_isStrict_85 (by decide) (fun c_2 => ?_) (fun c_2 => ?_)
        · have hg := hg.2 c_2
          exact J118 _ hX70 _ _ _ _ _ hg hP hD hS (lv_sub hl [0, 1] rfl)
        · have hg := hg.1 c_2
          refine lv_aload_n hx hb dX4_isStrict_88 rfl (lv_at hl 0 rfl) ?_
          refine lv_aload_n hx hb dX4_isStrict_89 rfl (lv_at hl 0 rfl) ?_
          refine va_get (D := G.1) (ci := 3) (v := .ref (d0 6)) (C := RX4) (T := TX4) (N := 17) hx hb hT iX4 hown hK hP 0 rfl rfl 6 (by decide) (hT _ q_83) (fun _ h9 => h9) rfl dX4_isStrict_90 ?_
          refine lv_iload_n hx hb dX4_isStrict_93 rfl (lv_at hl 1 rfl) ?_
          refine va_iald hx hb hK hP 5 0 rfl rfl hg.1 dX4_isStrict_94 ?_
          have hg := hg.2
          refine lv_iload_n hx hb dX4_isStrict_95 rfl (lv_at hl 1 rfl) ?_
          refine zcVi (As := [.int (S0 6 x1.toNatClampNeg), .int x1]) (rest := []) (C := RX4) Cx (c_X4_isAhead l G o0 d0 (S0 6 x1.toNatClampNeg) x1 S0 _ hg) zv_X4_isAhead q_446 ⟨⟨rfl, rfl⟩, Nat.le_of_ble_eq_true rfl, Nat.le_of_ble_eq_true rfl⟩ (zJ.all hP hD hS hA) hS 3 rfl rfl rfl rfl hl.1 rfl (Nat.le_of_ble_eq_true rfl) dX4_isStrict_96 (fun r_3 _u H locs hg hP hD hS => ?_)
          refine lv_if_eq (tgt := 116) hx hb dX4_isStrict_99 (by decide) (fun c_4 => ?_) (fun c_4 => ?_)
          · have hg := hg.1 c_4
            refine lv_iconst (v := 0) hx hb dX4_isStrict_116 (by decide) ?_
            exact hret _ _ _ (S0) _ _ hg rfl hP hD hS dX4_isStrict_117
          · have hg := hg.2 c_4
            refine lv_aload_n hx hb dX4_isStrict_102 rfl (lv_at hl 0 rfl) ?_
            refine lv_aload_n hx hb dX4_isStrict_103 rfl (lv_at hl 0 rfl) ?_
            refine va_get (D := G.1) (ci := 3) (v := .ref (d0 7)) (C := RX4) (T := TX4) (N := 17) hx hb hT iX4 hown hK hP 0 rfl rfl 7 (by decide) (hT _ q_88) (fun _ h9 => h9) rfl dX4_isStrict_104 ?_
            refine lv_iload_n hx hb dX4_isStrict_107 rfl (lv_at hl 1 rfl) ?_
            refine va_iald hx hb hK hP 6 0 rfl rfl hg.1 dX4_isStrict_108 ?_
            have hg := hg.2
            refine lv_iload_n hx hb dX4_isStrict_109 rfl (lv_at hl 1 rfl) ?_
            refine zcVi (As := [.int (S0 7 x1.toNatClampNeg), .int x1]) (rest := []) (C := RX4) Cx (c_X4_isAhead l G o0 d0 (S0 7 x1.toNatClampNeg) x1 S0 _ hg) zv_X4_isAhead q_446 ⟨⟨rfl, rfl⟩, Nat.le_of_ble_eq_true rfl, Nat.le_of_ble_eq_true rfl⟩ (zJ.all hP hD hS hA) hS 3 rfl rfl rfl rfl hl.1 rfl (Nat.le_of_ble_eq_true rfl) dX4_isStrict_110 (fun r_5 _u H locs hg hP hD hS => ?_)
            refine lv_if_ne (tgt := 118) hx hb dX4_isStrict_113 (by decide) (fun c_6 => ?_) (fun c_6 => ?_)
            · have hg := hg.2 c_6
              exact J118 _ hX70 _ _ _ _ _ hg hP hD hS (lv_sub hl [0, 1] rfl)
            · have hg := hg.1 c_6
              refine lv_iconst (v := 0) hx hb dX4_isStrict_116 (by decide) ?_
              exact hret _ _ _ (S0) _ _ hg rfl hP hD hS dX4_isStrict_117
  have L22 : ∀ (n : Nat) (x1 : Int32) (S0 : ZS) (H : Heap) (locs : List Loc) (ls : Array Slot), fx (F_X4_isStrict_22 Q) n (x1, S0) → va_P G.1 classes (wX4 G o0 d0 S0) H → va_D A (wX4 G o0 d0 S0) → va_S A s.heap H locs → lv_has ls 2 [(0, .ref o0), (1, .int x1)] → W p l e rm_X4_isStrict s m args below meth c H locs 0 0 QQ (F0 m 22 ls []) := by
    intro n
    induction n with
    | zero => intro x1 S0 H locs ls hg; exact hg.elim
    | succ n ih =>
      have hX22 := ih
      intro x1 S0 H locs ls hg hP hD hS hl
      refine lv_iload_n hx hb dX4_isStrict_22 rfl (lv_at hl 1 rfl) ?_
      refine lv_aload_n hx hb dX4_isStrict_23 rfl (lv_at hl 0 rfl) ?_
      refine va_get (D := G.1) (ci := 3) (v := .int (S0 0 0)) (C := RX4) (T := TX4) (N := 17) hx hb hT iX4 hown hK hP 0 rfl rfl 0 (by decide) (hT _ q_62) (fun _ h9 => h9) rfl dX4_isStrict_24 ?_
      refine lv_icmp_ge (tgt := 68) hx hb dX4_isStrict_27 (by decide) (fun c_1 => ?_) (fun c_1 => ?_)
      · have hg := hg.1 c_1
        refine lv_iconst (v := 0) hx hb dX4_isStrict_68 (by decide) ?_
        refine lv_istore_n (lv' := [(1, .int 0), (0, .ref o0)]) hx hb dX4_isStrict_69 rfl hl (by decide) rfl (fun ls hl => ?_)
        obtain ⟨n, hg⟩ := hg
        exact L70 n _ _ _ _ _ hg hP hD hS (lv_sub hl [1, 0] rfl)
      · have hg := hg.2 c_1
        refine lv_aload_n hx hb dX4_isStrict_30 rfl (lv_at hl 0 rfl) ?_
        refine va_get (D := G.1) (ci := 3) (v := .ref (d0 14)) (C := RX4) (T := TX4) (N := 17) hx hb hT iX4 hown hK hP 0 rfl rfl 14 (by decide) (hT _ q_112) (fun _ h9 => h9) rfl dX4_isStrict_31 ?_
        refine lv_iload_n hx hb dX4_isStrict_34 rfl (lv_at hl 1 rfl) ?_
        refine va_iald hx hb hK hP 13 0 rfl rfl hg.1 dX4_isStrict_35 ?_
        have hg := hg.2
        refine lv_bipush (v := (-9)) hx hb dX4_isStrict_36 (by decide) ?_
        refine lv_icmp_eq (tgt := 62) hx hb dX4_isStrict_38 (by decide) (fun c_2 => ?_) (fun c_2 => ?_)
        · have hg := hg.1 c_2
          obtain ⟨x1_3, ex1_3⟩ : ∃ y : Int32, y = x1 + 1 := ⟨_, rfl⟩
          have hg := hg x1_3 ex1_3
          refine lv_iinc (v := x1_3) (lv' := [(1, .int x1_3), (0, .ref o0)]) hx hb dX4_isStrict_62 hl (k := 1) rfl (by rw [ex1_3]; rfl) (by decide) rfl (fun ls hl => ?_)
          refine lv_goto (tgt := 22) hx hb dX4_isStrict_65 (by decide) ?_
          exact hX22 _ _ _ _ _ hg hP hD hS (lv_sub hl [1, 0] rfl)
        · have hg := hg.2 c_2
          refine lv_aload_n hx hb dX4_isStrict_41 rfl (lv_at hl 0 rfl) ?_
          refine lv_aload_n hx hb dX4_isStrict_42 rfl (lv_at hl 0 rfl) ?_
          refine va_get (D := G.1) (ci := 3) (v := .ref (d0 2)) (C := RX4) (T := TX4) (N := 17) hx hb hT iX4 hown hK hP 0 rfl rfl 2 (by decide) (hT _ q_68) (fun _ h9 => h9) rfl dX4_isStrict_43 ?_
          refine lv_aload_n hx hb dX4_isStrict_46 rfl (lv_at hl 0 rfl) ?_
          refine va_get (D := G.1) (ci := 3) (v := .ref (d0 14)) (C := RX4) (T := TX4) (N := 17) hx hb hT iX4 hown hK hP 0 rfl rfl 14 (by decide) (hT _ q_112) (fun _ h9 => h9) rfl dX4_isStrict_47 ?_
          refine lv_iload_n hx hb dX4_isStrict_50 rfl (lv_at hl 1 rfl) ?_
          refine va_iald hx hb hK hP 13 0 rfl rfl hg.1 dX4_isStrict_51 ?_
          have hg := hg.2
          refine va_iald hx hb hK hP 1 0 rfl rfl hg.1 dX4_isStrict_52 ?_
          have hg := hg.2
          refine lv_iload_n hx hb dX4_isStrict_53 rfl (lv_at hl 1 rfl) ?_
          refine zcVi (As := [.int (S0 2 (S0 14 x1.toNatClampNeg).toNatClampNeg), .int x1]) (rest := []) (C := RX4) Cx (c_X4_dominates l G o0 d0 (S0 2 (S0 14 x1.toNatClampNeg).toNatClampNeg) x1 S0 _ hg) zv_X4_dominates q_442 ⟨⟨rfl, rfl⟩, Nat.le_of_ble_eq_true rfl, Nat.le_of_ble_eq_true rfl⟩ (zJ.all hP hD hS hA) hS 3 rfl rfl rfl rfl hl.1 rfl (Nat.le_of_ble_eq_true rfl) dX4_isStrict_54 (fun r_4 _u H locs hg hP hD hS => ?_)
          refine lv_if_ne (tgt := 62) hx hb dX4_isStrict_57 (by decide) (fun c_5 => ?_) (fun c_5 => ?_)
          · have hg := hg.2 c_5
            obtain ⟨x1_6, ex1_6⟩ : ∃ y : Int32, y = x1 + 1 := ⟨_, rfl⟩
            have hg := hg x1_6 ex1_6
            refine lv_iinc (v := x1_6) (lv' := [(1, .int x1_6), (0, .ref o0)]) hx hb dX4_isStrict_62 hl (k := 1) rfl (by rw [ex1_6]; rfl) (by decide) rfl (fun ls hl => ?_)
            refine lv_goto (tgt := 22) hx hb dX4_isStrict_65 (by decide) ?_
            exact hX22 _ _ _ _ _ hg hP hD hS (lv_sub hl [1, 0] rfl)
          · have hg := hg.1 c_5
            refine lv_iconst (v := 0) hx hb dX4_isStrict_60 (by decide) ?_
            exact hret _ _ _ (S0) _ _ hg rfl hP hD hS dX4_isStrict_61
  refine lv_aload_n hx hb dX4_isStrict_0 rfl (lv_at hl 0 rfl) ?_
  refine zcVi (As := []) (rest := []) (C := RX4) Cx (c_X4_endsTellOfWhatIsThere l G o0 d0 S0 _ hg) zv_X4_endsTellOfWhatIsThere q_419 ⟨⟨rfl, rfl⟩, Nat.le_of_ble_eq_true rfl, Nat.le_of_ble_eq_true rfl⟩ (zJ.all hP hD hS hA) hS 3 rfl rfl rfl rfl hl.1 rfl (Nat.le_of_ble_eq_true rfl) dX4_isStrict_1 (fun r_1 _u H locs hg hP hD hS => ?_)
  refine lv_if_eq (tgt := 14) hx hb dX4_isStrict_4 (by decide) (fun c_2 => ?_) (fun c_2 => ?_)
  · have hg := hg.1 c_2
    refine lv_iconst (v := 0) hx hb dX4_isStrict_14 (by decide) ?_
    exact hret _ _ _ (S0) _ _ hg rfl hP hD hS dX4_isStrict_15
  · have hg := hg.2 c_2
    refine lv_aload_n hx hb dX4_isStrict_7 rfl (lv_at hl 0 rfl) ?_
    refine zcVi (As := []) (rest := []) (C := RX4) Cx (c_X4_namesTellOfWhatIsThere l G o0 d0 S0 _ hg) zv_X4_namesTellOfWhatIsThere q_427 ⟨⟨rfl, rfl⟩, Nat.le_of_ble_eq_true rfl, Nat.le_of_ble_eq_true rfl⟩ (zJ.all hP hD hS hA) hS 3 rfl rfl rfl rfl hl.1 rfl (Nat.le_of_ble_eq_true rfl) dX4_isStrict_8 (fun r_3 _u H locs hg hP hD hS => ?_)
    refine lv_if_ne (tgt := 16) hx hb dX4_isStrict_11 (by decide) (fun c_4 => ?_) (fun c_4 => ?_)
    · have hg := hg.2 c_4
      refine lv_aload_n hx hb dX4_isStrict_16 rfl (lv_at hl 0 rfl) ?_
      refine zcVv (As := []) (rest := []) (C := RX4) Cx (c_X4_findDominators l G o0 d0 S0 _ hg) zv_X4_findDominators q_431 ⟨⟨rfl, rfl⟩, Nat.le_of_ble_eq_true rfl, Nat.le_of_ble_eq_true rfl⟩ (zJ.all hP hD hS hA) hS 3 rfl rfl rfl rfl hl.1 rfl (Nat.le_of_ble_eq_true rfl) dX4_isStrict_17 (fun S0_5 H locs hg hP hD hS => ?_)
      have hP : va_P G.1 classes (wX4 G o0 d0 S0_5) H := hP
      have hD : va_D A (wX4 G o0 d0 S0_5) := hD
      refine lv_iconst (v := 0) hx hb dX4_isStrict_20 (by decide) ?_
      refine lv_istore_n (lv' := [(1, .int 0), (0, .ref o0)]) hx hb dX4_isStrict_21 rfl hl (by decide) rfl (fun ls hl => ?_)
      obtain ⟨n, hg⟩ := hg
      exact L22 n _ _ _ _ _ hg hP hD hS (lv_sub hl [1, 0] rfl)
    · have hg := hg.1 c_4
      refine lv_iconst (v := 0) hx hb dX4_isStrict_14 (by decide) ?_
      exact hret _ _ _ (S0) _ _ hg rfl hP hD hS dX4_isStrict_15
theorem zv_X3_faultOf : zSt yX3_faultOf cX3_faultOf 3 (some .int) 2 := ⟨q_316, q_9, q_317, by decide +kernel⟩
set_option maxHeartbeats 4000000 in
set_option maxRecDepth 100000 in
theorem c_X3_faultOf (l : Launch) (G : ZG) (o0 : Nat) (d0 : Nat → Nat) (o1 : Nat) (d1 : Nat → Nat) (S0 : ZS) (S1 : ZS) (Q : Int32 → ZS → ZS → Prop) (hg : g_X3_faultOf S0 S1 Q) : Ki l G yX3_faultOf cX3_faultOf 3 .int rm_X3_faultOf [.ref o0, .ref o1] (wX6 G o0 d0 S0 ++ (wX4 G o1 d1 S1)) (fun u : ZS × ZS => wX6 G o0 d0 (u.1) ++ (wX4 G o1 d1 (u.2))) (fun r u => Q r u.1 u.2) := by
  refine Ki.of (by decide) (Nat.le_of_ble_eq_true rfl) ?_
  intro p e s m args below meth c A QQ ls Cx hret hl hP hD hS
  obtain ⟨hx, hb, hml, hown, hT, hK, hA⟩ := id Cx
  have hl : lv_has ls 3 [(0, .ref o0), (1, .ref o1)] := hl
  have J61 : ∀ (t0 : Int32) (S0 : ZS) (S1 : ZS) (H : Heap) (locs : List Loc) (ls : Array Slot), G_X3_faultOf_61 Q t0 S0 S1 → va_P G.1 classes (wX6 G o0 d0 S0 ++ (wX4 G o1 d1 S1)) H → va_D A (wX6 G o0 d0 S0 ++ (wX4 G o1 d1 S1)) → va_S A s.heap H locs → lv_has ls 3 [(0, .ref o0)] → W p l e rm_X3_faultOf s m args below meth c H locs 0 0 QQ (F0 m 61 ls [.int t0]) := by
    intro t0 S0 S1 H locs ls hg hP hD hS hl
    refine lv_istore_n (lv' := [(2, .int t0), (0, .ref o0)]) hx hb dX3_faultOf_61 rfl hl (by decide) rfl (fun ls hl => ?_)
    refine lv_iload_n hx hb dX3_faultOf_62 rfl (lv_at hl 0 rfl) ?_
    refine lv_if_eq (tgt := 70) hx hb dX3_faultOf_63 (by decide) (fun c_1 => ?_) (fun c_1 => ?_)
    · have hg := hg.1 c_1
      refine lv_aload_n hx hb dX3_faultOf_70 rfl (lv_at hl 1 rfl) ?_
      refine va_get (D := G.1) (ci := 4) (v := .int (S0 3 0)) (C := RX6) (T := TX6) (N := 7) hx hb hT iX6 hown hK hP 0 rfl rfl 3 (by decide) (hT _ q_34) (fun _ h9 => h9) rfl dX3_faultOf_71 ?_
      exact hret _ _ _ (S0, S1) _ _ hg rfl hP hD hS dX3_faultOf_74
    · have hg := hg.2 c_1
      refine lv_iconst (v := (-1)) hx hb dX3_faultOf_66 (by decide) ?_
      refine lv_goto (tgt := 74) hx hb dX3_faultOf_67 (by decide) ?_
      exact hret _ _ _ (S0, S1) _ _ hg rfl hP hD hS dX3_faultOf_74
  have J60 : ∀ (S0 : ZS) (S1 : ZS) (H : Heap) (locs : List Loc) (ls : Array Slot), G_X3_faultOf_60 Q S0 S1 → va_P G.1 classes (wX6 G o0 d0 S0 ++ (wX4 G o1 d1 S1)) H → va_D A (wX6 G o0 d0 S0 ++ (wX4 G o1 d1 S1)) → va_S A s.heap H locs → lv_has ls 3 [(0, .ref o0)] → W p l e rm_X3_faultOf s m args below meth c H locs 0 0 QQ (F0 m 60 ls []) := by
    intro S0 S1 H locs ls hg hP hD hS hl
    refine lv_iconst (v := 0) hx hb dX3_faultOf_60 (by decide) ?_
    exact J61 _ _ _ _ _ _ hg hP hD hS (lv_sub hl [0] rfl)
  have J35 : ∀ (S0 : ZS) (S1 : ZS) (H : Heap) (locs : List Loc) (ls : Array Slot), G_X3_faultOf_35 Q S0 S1 → va_P G.1 classes (wX6 G o0 d0 S0 ++ (wX4 G o1 d1 S1)) H → va_D A (wX6 G o0 d0 S0 ++ (wX4 G o1 d1 S1)) → va_S A s.heap H locs → lv_has ls 3 [(0, .ref o0), (1, .ref o1)] → W p l e rm_X3_faultOf s m args below meth c H locs 0 0 QQ (F0 m 35 ls []) := by
    intro S0 S1 H locs ls hg hP hD hS hl
    refine lv_aload_n hx hb dX3_faultOf_35 rfl (lv_at hl 0 rfl) ?_
    refine va_get (D := G.1) (ci := 4) (v := .int (S0 6 0)) (C := RX6) (T := TX6) (N := 7) hx hb hT iX6 hown hK hP 0 rfl rfl 6 (by decide) (hT _ q_39) (fun _ h9 => h9) rfl dX3_faultOf_36 ?_
    refine lv_if_ne (tgt := 60) hx hb dX3_faultOf_39 (by decide) (fun c_1 => ?_) (fun c_1 => ?_)
    · have hg := hg.2 c_1
      exact J60 _ _ _ _ _ hg hP hD hS (lv_sub hl [0] rfl)
    · have hg := hg.1 c_1
      refine lv_aload_n hx hb dX3_faultOf_42 rfl (lv_at hl 1 rfl) ?_
      refine zcVi (As := []) (rest := []) (C := RX4) Cx (c_X4_isWhole l G o1 d1 S1 _ hg) zv_X4_isWhole q_411 ⟨⟨rfl, rfl⟩, Nat.le_of_ble_eq_true rfl, Nat.le_of_ble_eq_true rfl⟩ (zJ.sub (wr := wX6 G o0 d0 S0) (w2 := (fun u : Unit => wX6 G o0 d0 S0 ++ (wX4 G o1 d1 S1))) hP hD hS hA [2, 3, 4, 5, 6, 7, 8, 9, 10, 11, 12, 13, 14, 15, 16, 17] [0, 1] [0, 1, 2, 3, 4, 5, 6, 7, 8, 9, 10, 11, 12, 13, 14, 15, 16, 17] rfl rfl (by decide) (fun u => rfl)) hS 3 rfl rfl rfl rfl hl.1 rfl (Nat.le_of_ble_eq_true rfl) dX3_faultOf_43 (fun r_2 _u H locs hg hP hD hS => ?_)
      refine lv_if_eq (tgt := 60) hx hb dX3_faultOf_46 (by decide) (fun c_3 => ?_) (fun c_3 => ?_)
      · have hg := hg.1 c_3
        exact J60 _ _ _ _ _ hg hP hD hS (lv_sub hl [0] rfl)
      · have hg := hg.2 c_3
        refine lv_aload_n hx hb dX3_faultOf_49 rfl (lv_at hl 1 rfl) ?_
        refine zcVi (As := []) (rest := []) (C := RX4) Cx (c_X4_isStrict l G o1 d1 S1 _ hg) zv_X4_isStrict q_415 ⟨⟨rfl, rfl⟩, Nat.le_of_ble_eq_true rfl, Nat.le_of_ble_eq_true rfl⟩ (zJ.sub (wr := wX6 G o0 d0 S0) (w2 := (fun u : ZS => wX6 G o0 d0 S0 ++ (wX4 G o1 d1 u))) hP hD hS hA [2, 3, 4, 5, 6, 7, 8, 9, 10, 11, 12, 13, 14, 15, 16, 17] [0, 1] [0, 1, 2, 3, 4, 5, 6, 7, 8, 9, 10, 11, 12, 13, 14, 15, 16, 17] rfl rfl (by decide) (fun u => rfl)) hS 3 rfl rfl rfl rfl hl.1 rfl (Nat.le_of_ble_eq_true rfl) dX3_faultOf_50 (fun r_5 S1_4 H locs hg hP hD hS => ?_)
        have hP : va_P G.1 classes (wX6 G o0 d0 S0 ++ (wX4 G o1 d1 S1_4)) H := hP
        have hD : va_D A (wX6 G o0 d0 S0 ++ (wX4 G o1 d1 S1_4)) := hD
        refine lv_if_eq (tgt := 60) hx hb dX3_faultOf_53 (by decide) (fun c_6 => ?_) (fun c_6 => ?_)
        · have hg := hg.1 c_6
          exact J60 _ _ _ _ _ hg hP hD hS (lv_sub hl [0] rfl)
        · have hg := hg.2 c_6
          refine lv_iconst (v := 1) hx hb dX3_faultOf_56 (by decide) ?_
          refine lv_goto (tgt := 61) hx hb dX3_faultOf_57 (by decide) ?_
          exact J61 _ _ _ _ _ _ hg hP hD hS (lv_sub hl [0] rfl)
  have L10 : ∀ (n : Nat) (x2 : Int32) (S0 : ZS) (S1 : ZS) (H : Heap) (locs : List Loc) (ls : Array Slot), fx (F_X3_faultOf_10 Q) n (x2, S0, S1) → va_P G.1 classes (wX6 G o0 d0 S0 ++ (wX4 G o1 d1 S1)) H → va_D A (wX6 G o0 d0 S0 ++ (wX4 G o1 d1 S1)) → va_S A s.heap H locs → lv_has ls 3 [(0, .ref o0), (1, .ref o1), (2, .int x2)] → W p l e rm_X3_faultOf s m args below meth c H locs 0 0 QQ (F0 m 10 ls []) := by
    intro n
    induction n with
    | zero => intro x2 S0 S1 H locs ls hg; exact hg.elim
    | succ n ih =>
      have hX10 := ih
      intro x2 S0 S1 H locs ls hg hP hD hS hl
      refine lv_iload_n hx hb dX3_faultOf_10 rfl (lv_at hl 2 rfl) ?_
      refine lv_sipush (v := 150) hx hb dX3_faultOf_11 (by decide) ?_
      refine lv_icmp_ge (tgt := 35) hx hb dX3_faultOf_14 (by decide) (fun c_1 => ?_) (fun c_1 => ?_)
      · have hg := hg.1 c_1
        exact J35 _ _ _ _ _ hg hP hD hS (lv_sub hl [0, 1] rfl)
      · have hg := hg.2 c_1
        refine lv_aload_n hx hb dX3_faultOf_17 rfl (lv_at hl 0 rfl) ?_
        refine zcVi (As := []) (rest := []) (C := RX6) Cx (c_X6_hasMore l G o0 d0 S0 _ hg) zv_X6_hasMore q_341 ⟨⟨rfl, rfl⟩, Nat.le_of_ble_eq_true rfl, Nat.le_of_ble_eq_true rfl⟩ (zJ.sub (wr := wX4 G o1 d1 S1) (w2 := (fun u : Unit => wX6 G o0 d0 S0 ++ (wX4 G o1 d1 S1))) hP hD hS hA [0, 1] [2, 3, 4, 5, 6, 7, 8, 9, 10, 11, 12, 13, 14, 15, 16, 17] [16, 17, 0, 1, 2, 3, 4, 5, 6, 7, 8, 9, 10, 11, 12, 13, 14, 15] rfl rfl (by decide) (fun u => rfl)) hS 4 rfl rfl rfl rfl hl.1 rfl (Nat.le_of_ble_eq_true rfl) dX3_faultOf_18 (fun r_2 _u H locs hg hP hD hS => ?_)
        refine lv_if_eq (tgt := 35) hx hb dX3_faultOf_21 (by decide) (fun c_3 => ?_) (fun c_3 => ?_)
        · have hg := hg.1 c_3
          exact J35 _ _ _ _ _ hg hP hD hS (lv_sub hl [0, 1] rfl)
        · have hg := hg.2 c_3
          refine lv_aload_n hx hb dX3_faultOf_24 rfl (lv_at hl 0 rfl) ?_
          refine lv_aload_n hx hb dX3_faultOf_25 rfl (lv_at hl 1 rfl) ?_
          refine zcSv (As := [.ref o0, .ref o1]) (rest := []) Cx (c_X3_readItem l G o0 d0 o1 d1 S0 S1 _ hg) zv_X3_readItem q_345 ⟨⟨rfl, rfl⟩, Nat.le_of_ble_eq_true rfl, Nat.le_of_ble_eq_true rfl⟩ (zJ.all hP hD hS hA) hS rfl hl.1 rfl (Nat.le_of_ble_eq_true rfl) dX3_faultOf_26 (fun u H locs hg hP hD hS => ?_)
          obtain ⟨S0_4, S1_5⟩ := u
          have hP : va_P G.1 classes (wX6 G o0 d0 S0_4 ++ (wX4 G o1 d1 S1_5)) H := hP
          have hD : va_D A (wX6 G o0 d0 S0_4 ++ (wX4 G o1 d1 S1_5)) := hD
          obtain ⟨x2_6, ex2_6⟩ : ∃ y : Int32, y = x2 + 1 := ⟨_, rfl⟩
          have hg := hg x2_6 ex2_6
          refine lv_iinc (v := x2_6) (lv' := [(2, .int x2_6), (0, .ref o0), (1, .ref o1)]) hx hb dX3_faultOf_29 hl (k := 2) rfl (by rw [ex2_6]; rfl) (by decide) rfl (fun ls hl => ?_)
          refine lv_goto (tgt := 10) hx hb dX3_faultOf_32 (by decide) ?_
          exact hX10 _ _ _ _ _ _ hg hP hD hS (lv_sub hl [1, 2, 0] rfl)
  refine lv_aload_n hx hb dX3_faultOf_0 rfl (lv_at hl 1 rfl) ?_
  refine zcVv (As := []) (rest := []) (C := RX4) Cx (c_X4_empty l G o1 d1 S1 _ hg) zv_X4_empty q_318 ⟨⟨rfl, rfl⟩, Nat.le_of_ble_eq_true rfl, Nat.le_of_ble_eq_true rfl⟩ (zJ.sub (wr := wX6 G o0 d0 S0) (w2 := (fun u : ZS => wX6 G o0 d0 S0 ++ (wX4 G o1 d1 u))) hP hD hS hA [2, 3, 4, 5, 6, 7, 8, 9, 10, 11, 12, 13, 14, 15, 16, 17] [0, 1] [0, 1, 2, 3, 4, 5, 6, 7, 8, 9, 10, 11, 12, 13, 14, 15, 16, 17] rfl rfl (by decide) (fun u => rfl)) hS 3 rfl rfl rfl rfl hl.1 rfl (Nat.le_of_ble_eq_true rfl) dX3_faultOf_1 (fun S1_1 H locs hg hP hD hS => ?_)
  have hP : va_P G.1 classes (wX6 G o0 d0 S0 ++ (wX4 G o1 d1 S1_1)) H := hP
  have hD : va_D A (wX6 G o0 d0 S0 ++ (wX4 G o1 d1 S1_1)) := hD
  refine lv_aload_n hx hb dX3_faultOf_4 rfl (lv_at hl 0 rfl) ?_
  refine zcVv (As := []) (rest := []) (C := RX6) Cx (c_X6_rewind l G o0 d0 S0 _ hg) zv_X6_rewind q_322 ⟨⟨rfl, rfl⟩, Nat.le_of_ble_eq_true rfl, Nat.le_of_ble_eq_true rfl⟩ (zJ.sub (wr := wX4 G o1 d1 S1_1) (w2 := (fun u : ZS => wX6 G o0 d0 u ++ (wX4 G o1 d1 S1_1))) hP hD hS hA [0, 1] [2, 3, 4, 5, 6, 7, 8, 9, 10, 11, 12, 13, 14, 15, 16, 17] [16, 17, 0, 1, 2, 3, 4, 5, 6, 7, 8, 9, 10, 11, 12, 13, 14, 15] rfl rfl (by decide) (fun u => rfl)) hS 4 rfl rfl rfl rfl hl.1 rfl (Nat.le_of_ble_eq_true rfl) dX3_faultOf_5 (fun S0_2 H locs hg hP hD hS => ?_)
  have hP : va_P G.1 classes (wX6 G o0 d0 S0_2 ++ (wX4 G o1 d1 S1_1)) H := hP
  have hD : va_D A (wX6 G o0 d0 S0_2 ++ (wX4 G o1 d1 S1_1)) := hD
  refine lv_iconst (v := 0) hx hb dX3_faultOf_8 (by decide) ?_
  refine lv_istore_n (lv' := [(2, .int 0), (0, .ref o0), (1, .ref o1)]) hx hb dX3_faultOf_9 rfl hl (by decide) rfl (fun ls hl => ?_)
  obtain ⟨n, hg⟩ := hg
  exact L10 n _ _ _ _ _ _ hg hP hD hS (lv_sub hl [1, 2, 0] rfl)
theorem zv_X4_edges : zV yX4_edges RX4 cX4_edges 3 (some .int) 0 := ⟨q_623, q_624, q_3, q_625, by decide +kernel⟩
set_option maxHeartbeats 4000000 in
set_option maxRecDepth 100000 in
theorem c_X4_edges (l : Launch) (G : ZG) (o0 : Nat) (d0 : Nat → Nat) (S0 : ZS) (Q : Int32 → Prop) (hg : g_X4_edges S0 Q) : Ki l G yX4_edges cX4_edges 3 .int rm_X4_edges [.ref o0] (wX4 G o0 d0 S0) (fun _ : Unit => wX4 G o0 d0 S0) (fun r _ => Q r ) := by
  refine Ki.of (by decide) (Nat.le_of_ble_eq_true rfl) ?_
  intro p e s m args below meth c A QQ ls Cx hret hl hP hD hS
  obtain ⟨hx, hb, hml, hown, hT, hK, hA⟩ := id Cx
  have hl : lv_has ls 3 [(0, .ref o0)] := hl
  have L4 : ∀ (n : Nat) (x1 : Int32) (x2 : Int32) (H : Heap) (locs : List Loc) (ls : Array Slot), fx (F_X4_edges_4 S0 Q) n (x1, x2) → va_P G.1 classes (wX4 G o0 d0 S0) H → va_D A (wX4 G o0 d0 S0) → va_S A s.heap H locs → lv_has ls 3 [(0, .ref o0), (1, .int x1), (2, .int x2)] → W p l e rm_X4_edges s m args below meth c H locs 0 0 QQ (F0 m 4 ls []) := by
    intro n
    induction n with
    | zero => intro x1 x2 H locs ls hg; exact hg.elim
    | succ n ih =>
      have hX4 := ih
      intro x1 x2 H locs ls hg hP hD hS hl
      refine lv_iload_n hx hb dX4_edges_4 rfl (lv_at hl 2 rfl) ?_
      refine lv_iconst (v := 2) hx hb dX4_edges_5 (by decide) ?_
      refine lv_aload_n hx hb dX4_edges_6 rfl (lv_at hl 0 rfl) ?_
      refine va_get (D := G.1) (ci := 3) (v := .int (S0 0 0)) (C := RX4) (T := TX4) (N := 17) hx hb hT iX4 hown hK hP 0 rfl rfl 0 (by decide) (hT _ q_62) (fun _ h9 => h9) rfl dX4_edges_7 ?_
      refine lv_imul hx hb dX4_edges_10 ?_
      refine lv_icmp_ge (tgt := 39) hx hb dX4_edges_11 (by decide) (fun c_1 => ?_) (fun c_1 => ?_)
      · have hg := hg.1 c_1
        refine lv_iload_n hx hb dX4_edges_39 rfl (lv_at hl 1 rfl) ?_
        exact hret _ _ _ () _ _ hg rfl hP hD hS dX4_edges_40
      · have hg := hg.2 c_1
        refine lv_iload_n hx hb dX4_edges_14 rfl (lv_at hl 1 rfl) ?_
        refine lv_aload_n hx hb dX4_edges_15 rfl (lv_at hl 0 rfl) ?_
        refine va_get (D := G.1) (ci := 3) (v := .ref (d0 15)) (C := RX4) (T := TX4) (N := 17) hx hb hT iX4 hown hK hP 0 rfl rfl 15 (by decide) (hT _ q_117) (fun _ h9 => h9) rfl dX4_edges_16 ?_
        refine lv_iload_n hx hb dX4_edges_19 rfl (lv_at hl 2 rfl) ?_
        refine va_iald hx hb hK hP 14 0 rfl rfl hg.1 dX4_edges_20 ?_
        have hg := hg.2
        refine lv_bipush (v := (-9)) hx hb dX4_edges_21 (by decide) ?_
        refine lv_icmp_ne (tgt := 30) hx hb dX4_edges_23 (by decide) (fun c_2 => ?_) (fun c_2 => ?_)
        · have hg := hg.2 c_2
          refine lv_iconst (v := 1) hx hb dX4_edges_30 (by decide) ?_
          refine lv_iadd hx hb dX4_edges_31 ?_
          refine lv_topi (fun x1_3 ex1_3 => ?_)
          have hg := hg x1_3 ex1_3
          refine lv_istore_n (lv' := [(1, .int x1_3), (0, .ref o0), (2, .int x2)]) hx hb dX4_edges_32 rfl hl (by decide) rfl (fun ls hl => ?_)
          obtain ⟨x2_4, ex2_4⟩ : ∃ y : Int32, y = x2 + 1 := ⟨_, rfl⟩
          have hg := hg x2_4 ex2_4
          refine lv_iinc (v := x2_4) (lv' := [(2, .int x2_4), (1, .int x1_3), (0, .ref o0)]) hx hb dX4_edges_33 hl (k := 2) rfl (by rw [ex2_4]; rfl) (by decide) rfl (fun ls hl => ?_)
          refine lv_goto (tgt := 4) hx hb dX4_edges_36 (by decide) ?_
          exact hX4 _ _ _ _ _ hg hP hD hS (lv_sub hl [2, 1, 0] rfl)
        · have hg := hg.1 c_2
          refine lv_iconst (v := 0) hx hb dX4_edges_26 (by decide) ?_
          refine lv_goto (tgt := 31) hx hb dX4_edges_27 (by decide) ?_
          refine lv_iadd hx hb dX4_edges_31 ?_
          refine lv_topi (fun x1_5 ex1_5 => ?_)
          have hg := hg x1_5 ex1_5
          refine lv_istore_n (lv' := [(1, .int x1_5), (0, .ref o0), (2, .int x2)]) hx hb dX4_edges_32 rfl hl (by decide) rfl (fun ls hl => ?_)
          obtain ⟨x2_6, ex2_6⟩ : ∃ y : Int32, y = x2 + 1 := ⟨_, rfl⟩
          have hg := hg x2_6 ex2_6
          refine lv_iinc (v := x2_6) (lv' := [(2, .int x2_6), (1, .int x1_5), (0, .ref o0)]) hx hb dX4_edges_33 hl (k := 2) rfl (by rw [ex2_6]; rfl) (by decide) rfl (fun ls hl => ?_)
          refine lv_goto (tgt := 4) hx hb dX4_edges_36 (by decide) ?_
          exact hX4 _ _ _ _ _ hg hP hD hS (lv_sub hl [2, 1, 0] rfl)
  refine lv_iconst (v := 0) hx hb dX4_edges_0 (by decide) ?_
  refine lv_istore_n (lv' := [(1, .int 0), (0, .ref o0)]) hx hb dX4_edges_1 rfl hl (by decide) rfl (fun ls hl => ?_)
  refine lv_iconst (v := 0) hx hb dX4_edges_2 (by decide) ?_
  refine lv_istore_n (lv' := [(2, .int 0), (1, .int 0), (0, .ref o0)]) hx hb dX4_edges_3 rfl hl (by decide) rfl (fun ls hl => ?_)
  obtain ⟨n, hg⟩ := hg
  exact L4 n _ _ _ _ _ hg hP hD hS (lv_sub hl [2, 1, 0] rfl)
theorem zv_X7_takeJoins : zV yX7_takeJoins RX7 cX7_takeJoins 7 none 3 := ⟨q_526, q_527, q_6, q_528, by decide +kernel⟩
set_option maxHeartbeats 4000000 in
set_option maxRecDepth 100000 in
theorem c_X7_takeJoins (l : Launch) (G : ZG) (o0 : Nat) (d0 : Nat → Nat) (o1 : Nat) (d1 : Nat → Nat) (x2 : Int32) (x3 : Int32) (S0 : ZS) (S1 : ZS) (Q : ZS → Prop) (hg : g_X7_takeJoins x2 x3 S0 S1 Q) : Kv l G yX7_takeJoins cX7_takeJoins 7 rm_X7_takeJoins [.ref o0, .ref o1, .int x2, .int x3] (wX7 G o0 d0 S0 ++ (wX4 G o1 d1 S1)) (fun u : ZS => wX7 G o0 d0 u ++ (wX4 G o1 d1 S1)) (fun u => Q u) := by
  refine Kv.of (by decide) (Nat.le_of_ble_eq_true rfl) ?_
  intro p e s m args below meth c A QQ ls Cx hret hl hP hD hS
  obtain ⟨hx, hb, hml, hown, hT, hK, hA⟩ := id Cx
  have hl : lv_has ls 7 [(0, .ref o0), (1, .ref o1), (2, .int x2), (3, .int x3)] := hl
  have L83 : ∀ (n : Nat) (x4 : Int32) (x5 : Int32) (S0 : ZS) (H : Heap) (locs : List Loc) (ls : Array Slot), fx (F_X7_takeJoins_83 x2 x3 S1 Q) n (x4, x5, S0) → va_P G.1 classes (wX7 G o0 d0 S0 ++ (wX4 G o1 d1 S1)) H → va_D A (wX7 G o0 d0 S0 ++ (wX4 G o1 d1 S1)) → va_S A s.heap H locs → lv_has ls 7 [(0, .ref o0), (1, .ref o1), (4, .int x4), (5, .int x5)] → W p l e rm_X7_takeJoins s m args below meth c H locs 0 0 QQ (F0 m 83 ls []) := by
    intro n
    induction n with
    | zero => intro x4 x5 S0 H locs ls hg; exact hg.elim
    | succ n ih =>
      have hX83 := ih
      intro x4 x5 S0 H locs ls hg hP hD hS hl
      refine lv_iload hx hb dX7_takeJoins_83 (lv_at hl 3 rfl) ?_
      refine lv_iload hx hb dX7_takeJoins_85 (lv_at hl 2 rfl) ?_
      refine lv_icmp_ge (tgt := 121) hx hb dX7_takeJoins_87 (by decide) (fun c_1 => ?_) (fun c_1 => ?_)
      · have hg := hg.1 c_1
        exact hret _ _ (S0) _ _ hg hP hD hS dX7_takeJoins_121
      · have hg := hg.2 c_1
        refine lv_aload_n hx hb dX7_takeJoins_90 rfl (lv_at hl 1 rfl) ?_
        refine va_get (D := G.1) (ci := 3) (v := .ref (d1 3)) (C := RX4) (T := TX4) (N := 17) hx hb hT iX4 hown hK hP 4 rfl rfl 3 (by decide) (hT _ q_73) (fun _ h9 => h9) rfl dX7_takeJoins_91 ?_
        refine lv_iload hx hb dX7_takeJoins_94 (lv_at hl 3 rfl) ?_
        refine va_iald hx hb hK hP 6 0 rfl rfl hg.1 dX7_takeJoins_96 ?_
        have hg := hg.2
        refine lv_iconst (v := 3) hx hb dX7_takeJoins_97 (by decide) ?_
        refine lv_icmp_ne (tgt := 115) hx hb dX7_takeJoins_98 (by decide) (fun c_2 => ?_) (fun c_2 => ?_)
        · have hg := hg.2 c_2
          obtain ⟨x5_3, ex5_3⟩ : ∃ y : Int32, y = x5 + 1 := ⟨_, rfl⟩
          have hg := hg x5_3 ex5_3
          refine lv_iinc (v := x5_3) (lv' := [(5, .int x5_3), (0, .ref o0), (1, .ref o1), (4, .int x4)]) hx hb dX7_takeJoins_115 hl (k := 3) rfl (by rw [ex5_3]; rfl) (by decide) rfl (fun ls hl => ?_)
          refine lv_goto (tgt := 83) hx hb dX7_takeJoins_118 (by decide) ?_
          exact hX83 _ _ _ _ _ _ hg hP hD hS (lv_sub hl [1, 2, 3, 0] rfl)
        · have hg := hg.1 c_2
          refine lv_aload_n hx hb dX7_takeJoins_101 rfl (lv_at hl 0 rfl) ?_
          refine va_get (D := G.1) (ci := 5) (v := .ref (d0 2)) (C := RX7) (T := TX7) (N := 5) hx hb hT iX7 hown hK hP 0 rfl rfl 2 (by decide) (hT _ q_226) (fun _ h9 => h9) rfl dX7_takeJoins_102 ?_
          refine lv_iload hx hb dX7_takeJoins_105 (lv_at hl 3 rfl) ?_
          refine lv_aload_n hx hb dX7_takeJoins_107 rfl (lv_at hl 0 rfl) ?_
          refine va_get (D := G.1) (ci := 5) (v := .ref (d0 3)) (C := RX7) (T := TX7) (N := 5) hx hb hT iX7 hown hK hP 0 rfl rfl 3 (by decide) (hT _ q_228) (fun _ h9 => h9) rfl dX7_takeJoins_108 ?_
          refine lv_iload hx hb dX7_takeJoins_111 (lv_at hl 3 rfl) ?_
          refine va_iald hx hb hK hP 2 0 rfl rfl hg.1 dX7_takeJoins_113 ?_
          have hg := hg.2
          refine z_iast hx hb hK hP hD hS 1 0 rfl rfl hg.1 dX7_takeJoins_114 (zst S0 2 x5.toNatClampNeg (S0 3 x5.toNatClampNeg)) (fun S : ZS => wX7 G o0 d0 S ++ (wX4 G o1 d1 S1)) rfl (fun S0_4 H locs eS0_4 hP hD hS => ?_)
          have hg := hg.2 S0_4 eS0_4
          obtain ⟨x5_5, ex5_5⟩ : ∃ y : Int32, y = x5 + 1 := ⟨_, rfl⟩
          have hg := hg x5_5 ex5_5
          refine lv_iinc (v := x5_5) (lv' := [(5, .int x5_5), (0, .ref o0), (1, .ref o1), (4, .int x4)]) hx hb dX7_takeJoins_115 hl (k := 3) rfl (by rw [ex5_5]; rfl) (by decide) rfl (fun ls hl => ?_)
          refine lv_goto (tgt := 83) hx hb dX7_takeJoins_118 (by decide) ?_
          exact hX83 _ _ _ _ _ _ hg hP hD hS (lv_sub hl [1, 2, 3, 0] rfl)
  have L23 : ∀ (n : Nat) (x4 : Int32) (x5 : Int32) (S0 : ZS) (H : Heap) (locs : List Loc) (ls : Array Slot), fx (F_X7_takeJoins_23 x2 x3 S1 Q) n (x4, x5, S0) → va_P G.1 classes (wX7 G o0 d0 S0 ++ (wX4 G o1 d1 S1)) H → va_D A (wX7 G o0 d0 S0 ++ (wX4 G o1 d1 S1)) → va_S A s.heap H locs → lv_has ls 7 [(0, .ref o0), (1, .ref o1), (2, .int x2), (3, .int x3), (4, .int x4), (5, .int x5)] → W p l e rm_X7_takeJoins s m args below meth c H locs 0 0 QQ (F0 m 23 ls []) := by
    intro n
    induction n with
    | zero => intro x4 x5 S0 H locs ls hg; exact hg.elim
    | succ n ih =>
      have hX23 := ih
      intro x4 x5 S0 H locs ls hg hP hD hS hl
      refine lv_iload hx hb dX7_takeJoins_23 (lv_at hl 5 rfl) ?_
      refine lv_iload hx hb dX7_takeJoins_25 (lv_at hl 4 rfl) ?_
      refine lv_icmp_ge (tgt := 75) hx hb dX7_takeJoins_27 (by decide) (fun c_1 => ?_) (fun c_1 => ?_)
      · have hg := hg.1 c_1
        refine lv_aload_n hx hb dX7_takeJoins_75 rfl (lv_at hl 1 rfl) ?_
        refine va_get (D := G.1) (ci := 3) (v := .ref (d1 11)) (C := RX4) (T := TX4) (N := 17) hx hb hT iX4 hown hK hP 4 rfl rfl 11 (by decide) (hT _ q_102) (fun _ h9 => h9) rfl dX7_takeJoins_76 ?_
        refine lv_iload_n hx hb dX7_takeJoins_79 rfl (lv_at hl 2 rfl) ?_
        refine va_iald hx hb hK hP 14 0 rfl rfl hg.1 dX7_takeJoins_80 ?_
        have hg := hg.2
        refine lv_topi (fun x5_2 ex5_2 => ?_)
        have hg := hg x5_2 ex5_2
        refine lv_istore (lv' := [(5, .int x5_2), (0, .ref o0), (1, .ref o1), (2, .int x2), (3, .int x3), (4, .int x4)]) hx hb dX7_takeJoins_81 hl (by decide) rfl (fun ls hl => ?_)
        obtain ⟨n, hg⟩ := hg
        exact L83 n _ _ _ _ _ _ hg hP hD hS (lv_sub hl [1, 2, 5, 0] rfl)
      · have hg := hg.2 c_1
        refine lv_aload_n hx hb dX7_takeJoins_30 rfl (lv_at hl 1 rfl) ?_
        refine lv_iload hx hb dX7_takeJoins_31 (lv_at hl 5 rfl) ?_
        refine lv_iload_n hx hb dX7_takeJoins_33 rfl (lv_at hl 3 rfl) ?_
        refine zcVi (As := [.int x5, .int x3]) (rest := []) (C := RX4) Cx (c_X4_armFrom l G o1 d1 x5 x3 S1 _ hg) zv_X4_armFrom q_529 ⟨⟨rfl, rfl⟩, Nat.le_of_ble_eq_true rfl, Nat.le_of_ble_eq_true rfl⟩ (zJ.sub (wr := wX7 G o0 d0 S0) (w2 := (fun u : Unit => wX7 G o0 d0 S0 ++ (wX4 G o1 d1 S1))) hP hD hS hA [4, 5, 6, 7, 8, 9, 10, 11, 12, 13, 14, 15, 16, 17, 18, 19] [0, 1, 2, 3] [0, 1, 2, 3, 4, 5, 6, 7, 8, 9, 10, 11, 12, 13, 14, 15, 16, 17, 18, 19] rfl rfl (by decide) (fun u => rfl)) hS 3 rfl rfl rfl rfl hl.1 rfl (Nat.le_of_ble_eq_true rfl) dX7_takeJoins_34 (fun r_3 _u H locs hg hP hD hS => ?_)
        refine lv_istore (lv' := [(6, .int r_3), (0, .ref o0), (1, .ref o1), (2, .int x2), (3, .int x3), (4, .int x4), (5, .int x5)]) hx hb dX7_takeJoins_37 hl (by decide) rfl (fun ls hl => ?_)
        refine lv_aload_n hx hb dX7_takeJoins_39 rfl (lv_at hl 1 rfl) ?_
        refine va_get (D := G.1) (ci := 5) (v := .ref (d0 3)) (C := RX7) (T := TX7) (N := 5) hx hb hT iX7 hown hK hP 0 rfl rfl 3 (by decide) (hT _ q_228) (fun _ h9 => h9) rfl dX7_takeJoins_40 ?_
        refine lv_iload hx hb dX7_takeJoins_43 (lv_at hl 6 rfl) ?_
        refine lv_iload hx hb dX7_takeJoins_45 (lv_at hl 0 rfl) ?_
        refine lv_bipush (v := (-9)) hx hb dX7_takeJoins_47 (by decide) ?_
        refine lv_icmp_ne (tgt := 56) hx hb dX7_takeJoins_49 (by decide) (fun c_4 => ?_) (fun c_4 => ?_)
        · have hg := hg.2 c_4
          refine lv_aload_n hx hb dX7_takeJoins_56 rfl (lv_at hl 1 rfl) ?_
          refine va_get (D := G.1) (ci := 5) (v := .ref (d0 2)) (C := RX7) (T := TX7) (N := 5) hx hb hT iX7 hown hK hP 0 rfl rfl 2 (by decide) (hT _ q_226) (fun _ h9 => h9) rfl dX7_takeJoins_57 ?_
          refine lv_aload_n hx hb dX7_takeJoins_60 rfl (lv_at hl 2 rfl) ?_
          refine va_get (D := G.1) (ci := 3) (v := .ref (d1 10)) (C := RX4) (T := TX4) (N := 17) hx hb hT iX4 hown hK hP 4 rfl rfl 10 (by decide) (hT _ q_99) (fun _ h9 => h9) rfl dX7_takeJoins_61 ?_
          refine lv_iload hx hb dX7_takeJoins_64 (lv_at hl 0 rfl) ?_
          refine va_iald hx hb hK hP 13 0 rfl rfl hg.1 dX7_takeJoins_66 ?_
          have hg := hg.2
          refine va_iald hx hb hK hP 1 0 rfl rfl hg.1 dX7_takeJoins_67 ?_
          have hg := hg.2
          refine z_iast hx hb hK hP hD hS 2 0 rfl rfl hg.1 dX7_takeJoins_68 (zst S0 3 x5.toNatClampNeg (S0 2 (S1 10 r_3.toNatClampNeg).toNatClampNeg)) (fun S : ZS => wX7 G o0 d0 S ++ (wX4 G o1 d1 S1)) rfl (fun S0_5 H locs eS0_5 hP hD hS => ?_)
          have hg := hg.2 S0_5 eS0_5
          obtain ⟨x5_6, ex5_6⟩ : ∃ y : Int32, y = x5 + 1 := ⟨_, rfl⟩
          have hg := hg x5_6 ex5_6
          refine lv_iinc (v := x5_6) (lv' := [(5, .int x5_6), (6, .int r_3), (0, .ref o0), (1, .ref o1), (2, .int x2), (3, .int x3), (4, .int x4)]) hx hb dX7_takeJoins_69 hl (k := 6) rfl (by rw [ex5_6]; rfl) (by decide) rfl (fun ls hl => ?_)
          refine lv_goto (tgt := 23) hx hb dX7_takeJoins_72 (by decide) ?_
          exact hX23 _ _ _ _ _ _ hg hP hD hS (lv_sub hl [2, 3, 4, 5, 6, 0] rfl)
        · have hg := hg.1 c_4
          refine lv_iconst (v := 0) hx hb dX7_takeJoins_52 (by decide) ?_
          refine lv_goto (tgt := 68) hx hb dX7_takeJoins_53 (by decide) ?_
          refine z_iast hx hb hK hP hD hS 2 0 rfl rfl hg.1 dX7_takeJoins_68 (zst S0 3 x5.toNatClampNeg 0) (fun S : ZS => wX7 G o0 d0 S ++ (wX4 G o1 d1 S1)) rfl (fun S0_7 H locs eS0_7 hP hD hS => ?_)
          have hg := hg.2 S0_7 eS0_7
          obtain ⟨x5_8, ex5_8⟩ : ∃ y : Int32, y = x5 + 1 := ⟨_, rfl⟩
          have hg := hg x5_8 ex5_8
          refine lv_iinc (v := x5_8) (lv' := [(5, .int x5_8), (6, .int r_3), (0, .ref o0), (1, .ref o1), (2, .int x2), (3, .int x3), (4, .int x4)]) hx hb dX7_takeJoins_69 hl (k := 6) rfl (by rw [ex5_8]; rfl) (by decide) rfl (fun ls hl => ?_)
          refine lv_goto (tgt := 23) hx hb dX7_takeJoins_72 (by decide) ?_
          exact hX23 _ _ _ _ _ _ hg hP hD hS (lv_sub hl [2, 3, 4, 5, 6, 0] rfl)
  refine lv_aload_n hx hb dX7_takeJoins_0 rfl (lv_at hl 1 rfl) ?_
  refine va_get (D := G.1) (ci := 3) (v := .ref (d1 11)) (C := RX4) (T := TX4) (N := 17) hx hb hT iX4 hown hK hP 4 rfl rfl 11 (by decide) (hT _ q_102) (fun _ h9 => h9) rfl dX7_takeJoins_1 ?_
  refine lv_iload_n hx hb dX7_takeJoins_4 rfl (lv_at hl 2 rfl) ?_
  refine va_iald hx hb hK hP 14 0 rfl rfl hg.1 dX7_takeJoins_5 ?_
  have hg := hg.2
  refine lv_aload_n hx hb dX7_takeJoins_6 rfl (lv_at hl 1 rfl) ?_
  refine va_get (D := G.1) (ci := 3) (v := .ref (d1 12)) (C := RX4) (T := TX4) (N := 17) hx hb hT iX4 hown hK hP 4 rfl rfl 12 (by decide) (hT _ q_105) (fun _ h9 => h9) rfl dX7_takeJoins_7 ?_
  refine lv_iload_n hx hb dX7_takeJoins_10 rfl (lv_at hl 2 rfl) ?_
  refine va_iald hx hb hK hP 15 0 rfl rfl hg.1 dX7_takeJoins_11 ?_
  have hg := hg.2
  refine lv_iadd hx hb dX7_takeJoins_12 ?_
  refine lv_topi (fun x4_1 ex4_1 => ?_)
  have hg := hg x4_1 ex4_1
  refine lv_istore (lv' := [(4, .int x4_1), (0, .ref o0), (1, .ref o1), (2, .int x2), (3, .int x3)]) hx hb dX7_takeJoins_13 hl (by decide) rfl (fun ls hl => ?_)
  refine lv_aload_n hx hb dX7_takeJoins_15 rfl (lv_at hl 2 rfl) ?_
  refine va_get (D := G.1) (ci := 3) (v := .ref (d1 11)) (C := RX4) (T := TX4) (N := 17) hx hb hT iX4 hown hK hP 4 rfl rfl 11 (by decide) (hT _ q_102) (fun _ h9 => h9) rfl dX7_takeJoins_16 ?_
  refine lv_iload_n hx hb dX7_takeJoins_19 rfl (lv_at hl 3 rfl) ?_
  refine va_iald hx hb hK hP 14 0 rfl rfl hg.1 dX7_takeJoins_20 ?_
  have hg := hg.2
  refine lv_topi (fun x5_2 ex5_2 => ?_)
  have hg := hg x5_2 ex5_2
  refine lv_istore (lv' := [(5, .int x5_2), (4, .int x4_1), (0, .ref o0), (1, .ref o1), (2, .int x2), (3, .int x3)]) hx hb dX7_takeJoins_21 hl (by decide) rfl (fun ls hl => ?_)
  obtain ⟨n, hg⟩ := hg
  exact L23 n _ _ _ _ _ _ hg hP hD hS (lv_sub hl [2, 3, 4, 5, 1, 0] rfl)
theorem zv_X7_makeNames : zV yX7_makeNames RX7 cX7_makeNames 7 (some .int) 3 := ⟨q_531, q_532, q_6, q_533, by decide +kernel⟩
set_option maxHeartbeats 4000000 in
set_option maxRecDepth 100000 in
theorem c_X7_makeNames (l : Launch) (G : ZG) (o0 : Nat) (d0 : Nat → Nat) (o1 : Nat) (d1 : Nat → Nat) (o2 : Nat) (d2 : Nat → Nat) (x3 : Int32) (S0 : ZS) (S1 : ZS) (S2 : ZS) (Q : Int32 → ZS → Prop) (hg : g_X7_makeNames x3 S0 S1 S2 Q) : Ki l G yX7_makeNames cX7_makeNames 7 .int rm_X7_makeNames [.ref o0, .ref o1, .ref o2, .int x3] (wX7 G o0 d0 S0 ++ (wX4 G o1 d1 S1 ++ (wX2 G o2 d2 S2))) (fun u : ZS => wX7 G o0 d0 u ++ (wX4 G o1 d1 S1 ++ (wX2 G o2 d2 S2))) (fun r u => Q r u) := by
  refine Ki.of (by decide) (Nat.le_of_ble_eq_true rfl) ?_
  intro p e s m args below meth c A QQ ls Cx hret hl hP hD hS
  obtain ⟨hx, hb, hml, hown, hT, hK, hA⟩ := id Cx
  have hl : lv_has ls 7 [(0, .ref o0), (1, .ref o1), (2, .ref o2), (3, .int x3)] := hl
  have L8 : ∀ (n : Nat) (x4 : Int32) (S0 : ZS) (H : Heap) (locs : List Loc) (ls : Array Slot), fx (F_X7_makeNames_8 x3 S1 S2 Q) n (x4, S0) → va_P G.1 classes (wX7 G o0 d0 S0 ++ (wX4 G o1 d1 S1 ++ (wX2 G o2 d2 S2))) H → va_D A (wX7 G o0 d0 S0 ++ (wX4 G o1 d1 S1 ++ (wX2 G o2 d2 S2))) → va_S A s.heap H locs → lv_has ls 7 [(0, .ref o0), (1, .ref o1), (2, .ref o2), (3, .int x3), (4, .int x4)] → W p l e rm_X7_makeNames s m args below meth c H locs 0 0 QQ (F0 m 8 ls []) := by
    intro n
    induction n with
    | zero => intro x4 S0 H locs ls hg; exact hg.elim
    | succ n ih =>
      have hX8 := ih
      intro x4 S0 H locs ls hg hP hD hS hl
      refine lv_iload hx hb dX7_makeNames_8 (lv_at hl 4 rfl) ?_
      refine lv_aload_n hx hb dX7_makeNames_10 rfl (lv_at hl 1 rfl) ?_
      refine va_get (D := G.1) (ci := 3) (v := .ref (d1 11)) (C := RX4) (T := TX4) (N := 17) hx hb hT iX4 hown hK hP 4 rfl rfl 11 (by decide) (hT _ q_102) (fun _ h9 => h9) rfl dX7_makeNames_11 ?_
      refine lv_iload_n hx hb dX7_makeNames_14 rfl (lv_at hl 3 rfl) ?_
      refine va_iald hx hb hK hP 14 0 rfl rfl hg.1 dX7_makeNames_15 ?_
      have hg := hg.2
      refine lv_aload_n hx hb dX7_makeNames_16 rfl (lv_at hl 1 rfl) ?_
      refine va_get (D := G.1) (ci := 3) (v := .ref (d1 12)) (C := RX4) (T := TX4) (N := 17) hx hb hT iX4 hown hK hP 4 rfl rfl 12 (by decide) (hT _ q_105) (fun _ h9 => h9) rfl dX7_makeNames_17 ?_
      refine lv_iload_n hx hb dX7_makeNames_20 rfl (lv_at hl 3 rfl) ?_
      refine va_iald hx hb hK hP 15 0 rfl rfl hg.1 dX7_makeNames_21 ?_
      have hg := hg.2
      refine lv_iadd hx hb dX7_makeNames_22 ?_
      refine lv_icmp_ge (tgt := 164) hx hb dX7_makeNames_23 (by decide) (fun c_1 => ?_) (fun c_1 => ?_)
      · have hg := hg.1 c_1
        refine lv_bipush (v := (-9)) hx hb dX7_makeNames_164 (by decide) ?_
        exact hret _ _ _ (S0) _ _ hg rfl hP hD hS dX7_makeNames_166
      · have hg := hg.2 c_1
        refine lv_aload_n hx hb dX7_makeNames_26 rfl (lv_at hl 1 rfl) ?_
        refine va_get (D := G.1) (ci := 3) (v := .ref (d1 3)) (C := RX4) (T := TX4) (N := 17) hx hb hT iX4 hown hK hP 4 rfl rfl 3 (by decide) (hT _ q_73) (fun _ h9 => h9) rfl dX7_makeNames_27 ?_
        refine lv_iload hx hb dX7_makeNames_30 (lv_at hl 4 rfl) ?_
        refine va_iald hx hb hK hP 6 0 rfl rfl hg.1 dX7_makeNames_32 ?_
        have hg := hg.2
        refine lv_if_ne (tgt := 53) hx hb dX7_makeNames_33 (by decide) (fun c_2 => ?_) (fun c_2 => ?_)
        · have hg := hg.2 c_2
          refine lv_aload_n hx hb dX7_makeNames_53 rfl (lv_at hl 1 rfl) ?_
          refine va_get (D := G.1) (ci := 3) (v := .ref (d1 3)) (C := RX4) (T := TX4) (N := 17) hx hb hT iX4 hown hK hP 4 rfl rfl 3 (by decide) (hT _ q_73) (fun _ h9 => h9) rfl dX7_makeNames_54 ?_
          refine lv_iload hx hb dX7_makeNames_57 (lv_at hl 4 rfl) ?_
          refine va_iald hx hb hK hP 6 0 rfl rfl hg.1 dX7_makeNames_59 ?_
          have hg := hg.2
          refine lv_iconst (v := 1) hx hb dX7_makeNames_60 (by decide) ?_
          refine lv_icmp_ne (tgt := 80) hx hb dX7_makeNames_61 (by decide) (fun c_3 => ?_) (fun c_3 => ?_)
          · have hg := hg.2 c_3
            refine lv_aload_n hx hb dX7_makeNames_80 rfl (lv_at hl 1 rfl) ?_
            refine va_get (D := G.1) (ci := 3) (v := .ref (d1 3)) (C := RX4) (T := TX4) (N := 17) hx hb hT iX4 hown hK hP 4 rfl rfl 3 (by decide) (hT _ q_73) (fun _ h9 => h9) rfl dX7_makeNames_81 ?_
            refine lv_iload hx hb dX7_makeNames_84 (lv_at hl 4 rfl) ?_
            refine va_iald hx hb hK hP 6 0 rfl rfl hg.1 dX7_makeNames_86 ?_
            have hg := hg.2
            refine lv_iconst (v := 2) hx hb dX7_makeNames_87 (by decide) ?_
            refine lv_icmp_ne (tgt := 158) hx hb dX7_makeNames_88 (by decide) (fun c_4 => ?_) (fun c_4 => ?_)
            · have hg := hg.2 c_4
              obtain ⟨x4_5, ex4_5⟩ : ∃ y : Int32, y = x4 + 1 := ⟨_, rfl⟩
              have hg := hg x4_5 ex4_5
              refine lv_iinc (v := x4_5) (lv' := [(4, .int x4_5), (0, .ref o0), (1, .ref o1), (2, .ref o2), (3, .int x3)]) hx hb dX7_makeNames_158 hl (k := 4) rfl (by rw [ex4_5]; rfl) (by decide) rfl (fun ls hl => ?_)
              refine lv_goto (tgt := 8) hx hb dX7_makeNames_161 (by decide) ?_
              exact hX8 _ _ _ _ _ hg hP hD hS (lv_sub hl [1, 2, 3, 4, 0] rfl)
            · have hg := hg.1 c_4
              refine lv_aload_n hx hb dX7_makeNames_91 rfl (lv_at hl 0 rfl) ?_
              refine va_get (D := G.1) (ci := 5) (v := .ref (d0 2)) (C := RX7) (T := TX7) (N := 5) hx hb hT iX7 hown hK hP 0 rfl rfl 2 (by decide) (hT _ q_226) (fun _ h9 => h9) rfl dX7_makeNames_92 ?_
              refine lv_aload_n hx hb dX7_makeNames_95 rfl (lv_at hl 1 rfl) ?_
              refine va_get (D := G.1) (ci := 3) (v := .ref (d1 6)) (C := RX4) (T := TX4) (N := 17) hx hb hT iX4 hown hK hP 4 rfl rfl 6 (by decide) (hT _ q_85) (fun _ h9 => h9) rfl dX7_makeNames_96 ?_
              refine lv_iload hx hb dX7_makeNames_99 (lv_at hl 4 rfl) ?_
              refine va_iald hx hb hK hP 9 0 rfl rfl hg.1 dX7_makeNames_101 ?_
              have hg := hg.2
              refine va_iald hx hb hK hP 1 0 rfl rfl hg.1 dX7_makeNames_102 ?_
              have hg := hg.2
              refine lv_topi (fun x5_6 ex5_6 => ?_)
              have hg := hg x5_6 ex5_6
              refine lv_istore (lv' := [(5, .int x5_6), (0, .ref o0), (1, .ref o1), (2, .ref o2), (3, .int x3), (4, .int x4)]) hx hb dX7_makeNames_103 hl (by decide) rfl (fun ls hl => ?_)
              refine lv_aload_n hx hb dX7_makeNames_105 rfl (lv_at hl 1 rfl) ?_
              refine va_get (D := G.1) (ci := 5) (v := .ref (d0 2)) (C := RX7) (T := TX7) (N := 5) hx hb hT iX7 hown hK hP 0 rfl rfl 2 (by decide) (hT _ q_226) (fun _ h9 => h9) rfl dX7_makeNames_106 ?_
              refine lv_aload_n hx hb dX7_makeNames_109 rfl (lv_at hl 2 rfl) ?_
              refine va_get (D := G.1) (ci := 3) (v := .ref (d1 7)) (C := RX4) (T := TX4) (N := 17) hx hb hT iX4 hown hK hP 4 rfl rfl 7 (by decide) (hT _ q_90) (fun _ h9 => h9) rfl dX7_makeNames_110 ?_
              refine lv_iload hx hb dX7_makeNames_113 (lv_at hl 5 rfl) ?_
              refine va_iald hx hb hK hP 10 0 rfl rfl hg.1 dX7_makeNames_115 ?_
              have hg := hg.2
              refine va_iald hx hb hK hP 1 0 rfl rfl hg.1 dX7_makeNames_116 ?_
              have hg := hg.2
              refine lv_topi (fun x6_7 ex6_7 => ?_)
              have hg := hg x6_7 ex6_7
              refine lv_istore (lv' := [(6, .int x6_7), (5, .int x5_6), (0, .ref o0), (1, .ref o1), (2, .ref o2), (3, .int x3), (4, .int x4)]) hx hb dX7_makeNames_117 hl (by decide) rfl (fun ls hl => ?_)
              refine lv_aload_n hx hb dX7_makeNames_119 rfl (lv_at hl 3 rfl) ?_
              refine va_get (D := G.1) (ci := 3) (v := .ref (d1 5)) (C := RX4) (T := TX4) (N := 17) hx hb hT iX4 hown hK hP 4 rfl rfl 5 (by decide) (hT _ q_80) (fun _ h9 => h9) rfl dX7_makeNames_120 ?_
              refine lv_iload hx hb dX7_makeNames_123 (lv_at hl 6 rfl) ?_
              refine va_iald hx hb hK hP 8 0 rfl rfl hg.1 dX7_makeNames_125 ?_
              have hg := hg.2
              refine lv_iload hx hb dX7_makeNames_126 (lv_at hl 0 rfl) ?_
              refine zcSi (As := [.int (S1 5 x4.toNatClampNeg), .int x6_7]) (rest := []) Cx (c_X5_traps l G (S1 5 x4.toNatClampNeg) x6_7 _ hg) zv_X5_traps q_535 ⟨⟨rfl, rfl⟩, Nat.le_of_ble_eq_true rfl, Nat.le_of_ble_eq_true rfl⟩ (zJ.none (S := Unit) hP hD hS hA) hS rfl hl.1 rfl (Nat.le_of_ble_eq_true rfl) dX7_makeNames_128 (fun r_8 _u H locs hg hP hD hS => ?_)
              refine lv_if_eq (tgt := 137) hx hb dX7_makeNames_131 (by decide) (fun c_9 => ?_) (fun c_9 => ?_)
              · have hg := hg.1 c_9
                refine lv_aload_n hx hb dX7_makeNames_137 rfl (lv_at hl 2 rfl) ?_
                refine va_get (D := G.1) (ci := 5) (v := .ref (d0 2)) (C := RX7) (T := TX7) (N := 5) hx hb hT iX7 hown hK hP 0 rfl rfl 2 (by decide) (hT _ q_226) (fun _ h9 => h9) rfl dX7_makeNames_138 ?_
                refine lv_iload hx hb dX7_makeNames_141 (lv_at hl 6 rfl) ?_
                refine lv_aload_n hx hb dX7_makeNames_143 rfl (lv_at hl 3 rfl) ?_
                refine va_get (D := G.1) (ci := 3) (v := .ref (d1 5)) (C := RX4) (T := TX4) (N := 17) hx hb hT iX4 hown hK hP 4 rfl rfl 5 (by decide) (hT _ q_80) (fun _ h9 => h9) rfl dX7_makeNames_144 ?_
                refine lv_iload hx hb dX7_makeNames_147 (lv_at hl 6 rfl) ?_
                refine va_iald hx hb hK hP 8 0 rfl rfl hg.1 dX7_makeNames_149 ?_
                have hg := hg.2
                refine lv_iload hx hb dX7_makeNames_150 (lv_at hl 1 rfl) ?_
                refine lv_iload hx hb dX7_makeNames_152 (lv_at hl 0 rfl) ?_
                refine zcSi (As := [.int (S1 5 x4.toNatClampNeg), .int x5_6, .int x6_7]) (rest := [.int x4, .ref (d0 2)]) Cx (c_X5_result l G (S1 5 x4.toNatClampNeg) x5_6 x6_7 _ hg) zv_X5_result q_536 ⟨⟨rfl, rfl⟩, Nat.le_of_ble_eq_true rfl, Nat.le_of_ble_eq_true rfl⟩ (zJ.none (S := Unit) hP hD hS hA) hS rfl hl.1 rfl (Nat.le_of_ble_eq_true rfl) dX7_makeNames_154 (fun r_10 _u H locs hg hP hD hS => ?_)
                refine z_iast hx hb hK hP hD hS 1 0 rfl rfl hg.1 dX7_makeNames_157 (zst S0 2 x4.toNatClampNeg r_10) (fun S : ZS => wX7 G o0 d0 S ++ (wX4 G o1 d1 S1 ++ (wX2 G o2 d2 S2))) rfl (fun S0_11 H locs eS0_11 hP hD hS => ?_)
                have hg := hg.2 S0_11 eS0_11
                obtain ⟨x4_12, ex4_12⟩ : ∃ y : Int32, y = x4 + 1 := ⟨_, rfl⟩
                have hg := hg x4_12 ex4_12
                refine lv_iinc (v := x4_12) (lv' := [(4, .int x4_12), (6, .int x6_7), (5, .int x5_6), (0, .ref o0), (1, .ref o1), (2, .ref o2), (3, .int x3)]) hx hb dX7_makeNames_158 hl (k := 6) rfl (by rw [ex4_12]; rfl) (by decide) rfl (fun ls hl => ?_)
                refine lv_goto (tgt := 8) hx hb dX7_makeNames_161 (by decide) ?_
                exact hX8 _ _ _ _ _ hg hP hD hS (lv_sub hl [3, 4, 5, 6, 0] rfl)
              · have hg := hg.2 c_9
                refine lv_iload hx hb dX7_makeNames_134 (lv_at hl 6 rfl) ?_
                exact hret _ _ _ (S0) _ _ hg rfl hP hD hS dX7_makeNames_136
          · have hg := hg.1 c_3
            refine lv_aload_n hx hb dX7_makeNames_64 rfl (lv_at hl 0 rfl) ?_
            refine va_get (D := G.1) (ci := 5) (v := .ref (d0 2)) (C := RX7) (T := TX7) (N := 5) hx hb hT iX7 hown hK hP 0 rfl rfl 2 (by decide) (hT _ q_226) (fun _ h9 => h9) rfl dX7_makeNames_65 ?_
            refine lv_iload hx hb dX7_makeNames_68 (lv_at hl 4 rfl) ?_
            refine lv_aload_n hx hb dX7_makeNames_70 rfl (lv_at hl 2 rfl) ?_
            refine lv_iload hx hb dX7_makeNames_71 (lv_at hl 4 rfl) ?_
            refine zcVi (As := [.int x4]) (rest := [.int x4, .ref (d0 2)]) (C := RX2) Cx (c_X2_inputOf l G o2 d2 x4 S2 _ hg) zv_X2_inputOf q_534 ⟨⟨rfl, rfl⟩, Nat.le_of_ble_eq_true rfl, Nat.le_of_ble_eq_true rfl⟩ (zJ.sub (wr := wX7 G o0 d0 S0 ++ (wX4 G o1 d1 S1)) (w2 := (fun u : Unit => wX7 G o0 d0 S0 ++ (wX4 G o1 d1 S1 ++ (wX2 G o2 d2 S2)))) hP hD hS hA [20, 21, 22, 23, 24, 25] [0, 1, 2, 3, 4, 5, 6, 7, 8, 9, 10, 11, 12, 13, 14, 15, 16, 17, 18, 19] [0, 1, 2, 3, 4, 5, 6, 7, 8, 9, 10, 11, 12, 13, 14, 15, 16, 17, 18, 19, 20, 21, 22, 23, 24, 25] rfl rfl (by decide) (fun u => rfl)) hS 2 rfl rfl rfl rfl hl.1 rfl (Nat.le_of_ble_eq_true rfl) dX7_makeNames_73 (fun r_13 _u H locs hg hP hD hS => ?_)
            refine z_iast hx hb hK hP hD hS 1 0 rfl rfl hg.1 dX7_makeNames_76 (zst S0 2 x4.toNatClampNeg r_13) (fun S : ZS => wX7 G o0 d0 S ++ (wX4 G o1 d1 S1 ++ (wX2 G o2 d2 S2))) rfl (fun S0_14 H locs eS0_14 hP hD hS => ?_)
            have hg := hg.2 S0_14 eS0_14
            refine lv_goto (tgt := 158) hx hb dX7_makeNames_77 (by decide) ?_
            obtain ⟨x4_15, ex4_15⟩ : ∃ y : Int32, y = x4 + 1 := ⟨_, rfl⟩
            have hg := hg x4_15 ex4_15
            refine lv_iinc (v := x4_15) (lv' := [(4, .int x4_15), (0, .ref o0), (1, .ref o1), (2, .ref o2), (3, .int x3)]) hx hb dX7_makeNames_158 hl (k := 4) rfl (by rw [ex4_15]; rfl) (by decide) rfl (fun ls hl => ?_)
            refine lv_goto (tgt := 8) hx hb dX7_makeNames_161 (by decide) ?_
            exact hX8 _ _ _ _ _ hg hP hD hS (lv_sub hl [1, 2, 3, 4, 0] rfl)
        · have hg := hg.1 c_2
          refine lv_aload_n hx hb dX7_makeNames_36 rfl (lv_at hl 0 rfl) ?_
          refine va_get (D := G.1) (ci := 5) (v := .ref (d0 2)) (C := RX7) (T := TX7) (N := 5) hx hb hT iX7 hown hK hP 0 rfl rfl 2 (by decide) (hT _ q_226) (fun _ h9 => h9) rfl dX7_makeNames_37 ?_
          refine lv_iload hx hb dX7_makeNames_40 (lv_at hl 4 rfl) ?_
          refine lv_aload_n hx hb dX7_makeNames_42 rfl (lv_at hl 2 rfl) ?_
          refine va_get (D := G.1) (ci := 2) (v := .ref (d2 3)) (C := RX2) (T := TX2) (N := 5) hx hb hT iX2 hown hK hP 20 rfl rfl 3 (by decide) (hT _ q_176) (fun _ h9 => h9) rfl dX7_makeNames_43 ?_
          refine lv_iload hx hb dX7_makeNames_46 (lv_at hl 4 rfl) ?_
          refine va_iald hx hb hK hP 24 0 rfl rfl hg.1 dX7_makeNames_48 ?_
          have hg := hg.2
          refine z_iast hx hb hK hP hD hS 1 0 rfl rfl hg.1 dX7_makeNames_49 (zst S0 2 x4.toNatClampNeg (S2 3 x4.toNatClampNeg)) (fun S : ZS => wX7 G o0 d0 S ++ (wX4 G o1 d1 S1 ++ (wX2 G o2 d2 S2))) rfl (fun S0_16 H locs eS0_16 hP hD hS => ?_)
          have hg := hg.2 S0_16 eS0_16
          refine lv_goto (tgt := 158) hx hb dX7_makeNames_50 (by decide) ?_
          obtain ⟨x4_17, ex4_17⟩ : ∃ y : Int32, y = x4 + 1 := ⟨_, rfl⟩
          have hg := hg x4_17 ex4_17
          refine lv_iinc (v := x4_17) (lv' := [(4, .int x4_17), (0, .ref o0), (1, .ref o1), (2, .ref o2), (3, .int x3)]) hx hb dX7_makeNames_158 hl (k := 4) rfl (by rw [ex4_17]; rfl) (by decide) rfl (fun ls hl => ?_)
          refine lv_goto (tgt := 8) hx hb dX7_makeNames_161 (by decide) ?_
          exact hX8 _ _ _ _ _ hg hP hD hS (lv_sub hl [1, 2, 3, 4, 0] rfl)
  refine lv_aload_n hx hb dX7_makeNames_0 rfl (lv_at hl 1 rfl) ?_
  refine va_get (D := G.1) (ci := 3) (v := .ref (d1 11)) (C := RX4) (T := TX4) (N := 17) hx hb hT iX4 hown hK hP 4 rfl rfl 11 (by decide) (hT _ q_102) (fun _ h9 => h9) rfl dX7_makeNames_1 ?_
  refine lv_iload_n hx hb dX7_makeNames_4 rfl (lv_at hl 3 rfl) ?_
  refine va_iald hx hb hK hP 14 0 rfl rfl hg.1 dX7_makeNames_5 ?_
  have hg := hg.2
  refine lv_topi (fun x4_1 ex4_1 => ?_)
  have hg := hg x4_1 ex4_1
  refine lv_istore (lv' := [(4, .int x4_1), (0, .ref o0), (1, .ref o1), (2, .ref o2), (3, .int x3)]) hx hb dX7_makeNames_6 hl (by decide) rfl (fun ls hl => ?_)
  obtain ⟨n, hg⟩ := hg
  exact L8 n _ _ _ _ _ hg hP hD hS (lv_sub hl [1, 2, 3, 4, 0] rfl)
theorem zv_X7_next : zV yX7_next RX7 cX7_next 5 (some .int) 3 := ⟨q_538, q_539, q_6, q_540, by decide +kernel⟩
set_option maxHeartbeats 4000000 in
set_option maxRecDepth 100000 in
theorem c_X7_next (l : Launch) (G : ZG) (o0 : Nat) (d0 : Nat → Nat) (o1 : Nat) (d1 : Nat → Nat) (o2 : Nat) (d2 : Nat → Nat) (x3 : Int32) (S0 : ZS) (S1 : ZS) (S2 : ZS) (Q : Int32 → Prop) (hg : g_X7_next x3 S0 S1 S2 Q) : Ki l G yX7_next cX7_next 5 .int rm_X7_next [.ref o0, .ref o1, .ref o2, .int x3] (wX7 G o0 d0 S0 ++ (wX4 G o1 d1 S1 ++ (wX2 G o2 d2 S2))) (fun _ : Unit => wX7 G o0 d0 S0 ++ (wX4 G o1 d1 S1 ++ (wX2 G o2 d2 S2))) (fun r _ => Q r ) := by
  refine Ki.of (by decide) (Nat.le_of_ble_eq_true rfl) ?_
  intro p e s m args below meth c A QQ ls Cx hret hl hP hD hS
  obtain ⟨hx, hb, hml, hown, hT, hK, hA⟩ := id Cx
  have hl : lv_has ls 5 [(0, .ref o0), (1, .ref o1), (2, .ref o2), (3, .int x3)] := hl
  have J28 : ∀ (t0 : Int32) (H : Heap) (locs : List Loc) (ls : Array Slot), G_X7_next_28 x3 S0 S1 S2 Q t0 → va_P G.1 classes (wX7 G o0 d0 S0 ++ (wX4 G o1 d1 S1 ++ (wX2 G o2 d2 S2))) H → va_D A (wX7 G o0 d0 S0 ++ (wX4 G o1 d1 S1 ++ (wX2 G o2 d2 S2))) → va_S A s.heap H locs → lv_has ls 5 [(2, .ref o2), (3, .int x3)] → W p l e rm_X7_next s m args below meth c H locs 0 0 QQ (F0 m 28 ls [.int t0]) := by
    intro t0 H locs ls hg hP hD hS hl
    refine lv_istore (lv' := [(4, .int t0), (2, .ref o2), (3, .int x3)]) hx hb dX7_next_28 hl (by decide) rfl (fun ls hl => ?_)
    refine lv_aload_n hx hb dX7_next_30 rfl (lv_at hl 1 rfl) ?_
    refine va_get (D := G.1) (ci := 2) (v := .ref (d2 4)) (C := RX2) (T := TX2) (N := 5) hx hb hT iX2 hown hK hP 20 rfl rfl 4 (by decide) (hT _ q_179) (fun _ h9 => h9) rfl dX7_next_31 ?_
    refine lv_iconst (v := 2) hx hb dX7_next_34 (by decide) ?_
    refine lv_iload_n hx hb dX7_next_35 rfl (lv_at hl 2 rfl) ?_
    refine lv_imul hx hb dX7_next_36 ?_
    refine lv_iload hx hb dX7_next_37 (lv_at hl 0 rfl) ?_
    refine lv_iadd hx hb dX7_next_39 ?_
    refine va_iald hx hb hK hP 25 0 rfl rfl hg.1 dX7_next_40 ?_
    have hg := hg.2
    exact hret _ _ _ () _ _ hg rfl hP hD hS dX7_next_41
  refine lv_aload_n hx hb dX7_next_0 rfl (lv_at hl 1 rfl) ?_
  refine va_get (D := G.1) (ci := 3) (v := .ref (d1 13)) (C := RX4) (T := TX4) (N := 17) hx hb hT iX4 hown hK hP 4 rfl rfl 13 (by decide) (hT _ q_109) (fun _ h9 => h9) rfl dX7_next_1 ?_
  refine lv_iload_n hx hb dX7_next_4 rfl (lv_at hl 3 rfl) ?_
  refine va_iald hx hb hK hP 16 0 rfl rfl hg.1 dX7_next_5 ?_
  have hg := hg.2
  refine lv_iconst (v := 1) hx hb dX7_next_6 (by decide) ?_
  refine lv_icmp_ne (tgt := 27) hx hb dX7_next_7 (by decide) (fun c_1 => ?_) (fun c_1 => ?_)
  · have hg := hg.2 c_1
    refine lv_iconst (v := 0) hx hb dX7_next_27 (by decide) ?_
    exact J28 _ _ _ _ hg hP hD hS (lv_sub hl [2, 3] rfl)
  · have hg := hg.1 c_1
    refine lv_aload_n hx hb dX7_next_10 rfl (lv_at hl 0 rfl) ?_
    refine va_get (D := G.1) (ci := 5) (v := .ref (d0 2)) (C := RX7) (T := TX7) (N := 5) hx hb hT iX7 hown hK hP 0 rfl rfl 2 (by decide) (hT _ q_226) (fun _ h9 => h9) rfl dX7_next_11 ?_
    refine lv_aload_n hx hb dX7_next_14 rfl (lv_at hl 1 rfl) ?_
    refine va_get (D := G.1) (ci := 3) (v := .ref (d1 14)) (C := RX4) (T := TX4) (N := 17) hx hb hT iX4 hown hK hP 4 rfl rfl 14 (by decide) (hT _ q_113) (fun _ h9 => h9) rfl dX7_next_15 ?_
    refine lv_iload_n hx hb dX7_next_18 rfl (lv_at hl 3 rfl) ?_
    refine va_iald hx hb hK hP 17 0 rfl rfl hg.1 dX7_next_19 ?_
    have hg := hg.2
    refine va_iald hx hb hK hP 1 0 rfl rfl hg.1 dX7_next_20 ?_
    have hg := hg.2
    refine zcSi (As := [.int (S0 2 (S1 14 x3.toNatClampNeg).toNatClampNeg)]) (rest := []) Cx (c_X5_side l G (S0 2 (S1 14 x3.toNatClampNeg).toNatClampNeg) _ hg) zv_X5_side q_541 ⟨⟨rfl, rfl⟩, Nat.le_of_ble_eq_true rfl, Nat.le_of_ble_eq_true rfl⟩ (zJ.none (S := Unit) hP hD hS hA) hS rfl hl.1 rfl (Nat.le_of_ble_eq_true rfl) dX7_next_21 (fun r_2 _u H locs hg hP hD hS => ?_)
    refine lv_goto (tgt := 28) hx hb dX7_next_24 (by decide) ?_
    exact J28 _ _ _ _ hg hP hD hS (lv_sub hl [2, 3] rfl)
theorem zv_X7_start : zV yX7_start RX7 cX7_start 7 none 2 := ⟨q_520, q_521, q_6, q_522, by decide +kernel⟩
set_option maxHeartbeats 4000000 in
set_option maxRecDepth 100000 in
theorem c_X7_start (l : Launch) (G : ZG) (o0 : Nat) (d0 : Nat → Nat) (o1 : Nat) (d1 : Nat → Nat) (o2 : Nat) (d2 : Nat → Nat) (S0 : ZS) (S1 : ZS) (S2 : ZS) (Q : ZS → Prop) (hg : g_X7_start S0 S1 S2 Q) : Kv l G yX7_start cX7_start 7 rm_X7_start [.ref o0, .ref o1, .ref o2] (wX7 G o0 d0 S0 ++ (wX4 G o1 d1 S1 ++ (wX2 G o2 d2 S2))) (fun u : ZS => wX7 G o0 d0 u ++ (wX4 G o1 d1 S1 ++ (wX2 G o2 d2 S2))) (fun u => Q u) := by
  refine Kv.of (by decide) (Nat.le_of_ble_eq_true rfl) ?_
  intro p e s m args below meth c A QQ ls Cx hret hl hP hD hS
  obtain ⟨hx, hb, hml, hown, hT, hK, hA⟩ := id Cx
  have hl : lv_has ls 7 [(0, .ref o0), (1, .ref o1), (2, .ref o2)] := hl
  have L35 : ∀ (n : Nat) (x3 : Int32) (x4 : Int32) (x5 : Int32) (S0 : ZS) (H : Heap) (locs : List Loc) (ls : Array Slot), fx (F_X7_start_35 S1 S2 Q) n (x3, x4, x5, S0) → va_P G.1 classes (wX7 G o0 d0 S0 ++ (wX4 G o1 d1 S1 ++ (wX2 G o2 d2 S2))) H → va_D A (wX7 G o0 d0 S0 ++ (wX4 G o1 d1 S1 ++ (wX2 G o2 d2 S2))) → va_S A s.heap H locs → lv_has ls 7 [(0, .ref o0), (1, .ref o1), (2, .ref o2), (3, .int x3), (4, .int x4), (5, .int x5)] → W p l e rm_X7_start s m args below meth c H locs 0 0 QQ (F0 m 35 ls []) := by
    intro n
    induction n with
    | zero => intro x3 x4 x5 S0 H locs ls hg; exact hg.elim
    | succ n ih =>
      have hX35 := ih
      intro x3 x4 x5 S0 H locs ls hg hP hD hS hl
      refine lv_iload hx hb dX7_start_35 (lv_at hl 5 rfl) ?_
      refine lv_bipush (v := 60) hx hb dX7_start_37 (by decide) ?_
      refine lv_icmp_ge (tgt := 151) hx hb dX7_start_39 (by decide) (fun c_1 => ?_) (fun c_1 => ?_)
      · have hg := hg.1 c_1
        exact hret _ _ (S0) _ _ hg hP hD hS dX7_start_151
      · have hg := hg.2 c_1
        refine lv_aload_n hx hb dX7_start_42 rfl (lv_at hl 1 rfl) ?_
        refine lv_iload hx hb dX7_start_43 (lv_at hl 4 rfl) ?_
        refine zcVi (As := [.int x4]) (rest := []) (C := RX4) Cx (c_X4_hasBlock l G o1 d1 x4 S1 _ hg) zv_X4_hasBlock q_524 ⟨⟨rfl, rfl⟩, Nat.le_of_ble_eq_true rfl, Nat.le_of_ble_eq_true rfl⟩ (zJ.sub (wr := wX7 G o0 d0 S0 ++ (wX2 G o2 d2 S2)) (w2 := (fun u : Unit => wX7 G o0 d0 S0 ++ (wX4 G o1 d1 S1 ++ (wX2 G o2 d2 S2)))) hP hD hS hA [4, 5, 6, 7, 8, 9, 10, 11, 12, 13, 14, 15, 16, 17, 18, 19] [0, 1, 2, 3, 20, 21, 22, 23, 24, 25] [0, 1, 2, 3, 10, 11, 12, 13, 14, 15, 16, 17, 18, 19, 20, 21, 22, 23, 24, 25, 4, 5, 6, 7, 8, 9] rfl rfl (by decide) (fun u => rfl)) hS 3 rfl rfl rfl rfl hl.1 rfl (Nat.le_of_ble_eq_true rfl) dX7_start_45 (fun r_2 _u H locs hg hP hD hS => ?_)
        refine lv_if_eq (tgt := 151) hx hb dX7_start_48 (by decide) (fun c_3 => ?_) (fun c_3 => ?_)
        · have hg := hg.1 c_3
          exact hret _ _ (S0) _ _ hg hP hD hS dX7_start_151
        · have hg := hg.2 c_3
          refine lv_aload_n hx hb dX7_start_51 rfl (lv_at hl 0 rfl) ?_
          refine va_get (D := G.1) (ci := 5) (v := .ref (d0 4)) (C := RX7) (T := TX7) (N := 5) hx hb hT iX7 hown hK hP 0 rfl rfl 4 (by decide) (hT _ q_229) (fun _ h9 => h9) rfl dX7_start_52 ?_
          refine lv_iload hx hb dX7_start_55 (lv_at hl 4 rfl) ?_
          refine lv_dup2_11 hx hb dX7_start_57 rfl rfl ?_
          refine va_iald hx hb hK hP 3 0 rfl rfl hg.1 dX7_start_58 ?_
          have hg := hg.2
          refine lv_iconst (v := 1) hx hb dX7_start_59 (by decide) ?_
          refine lv_iadd hx hb dX7_start_60 ?_
          refine z_iast hx hb hK hP hD hS 3 0 rfl rfl hg.1 dX7_start_61 (zst S0 4 x4.toNatClampNeg ((S0 4 x4.toNatClampNeg) + 1)) (fun S : ZS => wX7 G o0 d0 S ++ (wX4 G o1 d1 S1 ++ (wX2 G o2 d2 S2))) rfl (fun S0_4 H locs eS0_4 hP hD hS => ?_)
          have hg := hg.2 S0_4 eS0_4
          refine lv_aload_n hx hb dX7_start_62 rfl (lv_at hl 0 rfl) ?_
          refine lv_aload_n hx hb dX7_start_63 rfl (lv_at hl 1 rfl) ?_
          refine lv_iload hx hb dX7_start_64 (lv_at hl 4 rfl) ?_
          refine lv_iload_n hx hb dX7_start_66 rfl (lv_at hl 3 rfl) ?_
          refine zcVv (As := [.ref o1, .int x4, .int x3]) (rest := []) (C := RX7) Cx (c_X7_takeJoins l G o0 d0 o1 d1 x4 x3 S0_4 S1 _ hg) zv_X7_takeJoins q_525 ⟨⟨rfl, rfl⟩, Nat.le_of_ble_eq_true rfl, Nat.le_of_ble_eq_true rfl⟩ (zJ.sub (wr := wX2 G o2 d2 S2) (w2 := (fun u : ZS => wX7 G o0 d0 u ++ (wX4 G o1 d1 S1 ++ (wX2 G o2 d2 S2)))) hP hD hS hA [0, 1, 2, 3, 4, 5, 6, 7, 8, 9, 10, 11, 12, 13, 14, 15, 16, 17, 18, 19] [20, 21, 22, 23, 24, 25] [6, 7, 8, 9, 10, 11, 12, 13, 14, 15, 16, 17, 18, 19, 20, 21, 22, 23, 24, 25, 0, 1, 2, 3, 4, 5] rfl rfl (by decide) (fun u => rfl)) hS 5 rfl rfl rfl rfl hl.1 rfl (Nat.le_of_ble_eq_true rfl) dX7_start_67 (fun S0_5 H locs hg hP hD hS => ?_)
          have hP : va_P G.1 classes (wX7 G o0 d0 S0_5 ++ (wX4 G o1 d1 S1 ++ (wX2 G o2 d2 S2))) H := hP
          have hD : va_D A (wX7 G o0 d0 S0_5 ++ (wX4 G o1 d1 S1 ++ (wX2 G o2 d2 S2))) := hD
          refine lv_aload_n hx hb dX7_start_70 rfl (lv_at hl 0 rfl) ?_
          refine lv_aload_n hx hb dX7_start_71 rfl (lv_at hl 1 rfl) ?_
          refine lv_aload_n hx hb dX7_start_72 rfl (lv_at hl 2 rfl) ?_
          refine lv_iload hx hb dX7_start_73 (lv_at hl 4 rfl) ?_
          refine zcVi (As := [.ref o1, .ref o2, .int x4]) (rest := []) (C := RX7) Cx (c_X7_makeNames l G o0 d0 o1 d1 o2 d2 x4 S0_5 S1 S2 _ hg) zv_X7_makeNames q_530 ⟨⟨rfl, rfl⟩, Nat.le_of_ble_eq_true rfl, Nat.le_of_ble_eq_true rfl⟩ (zJ.all hP hD hS hA) hS 5 rfl rfl rfl rfl hl.1 rfl (Nat.le_of_ble_eq_true rfl) dX7_start_75 (fun r_7 S0_6 H locs hg hP hD hS => ?_)
          have hP : va_P G.1 classes (wX7 G o0 d0 S0_6 ++ (wX4 G o1 d1 S1 ++ (wX2 G o2 d2 S2))) H := hP
          have hD : va_D A (wX7 G o0 d0 S0_6 ++ (wX4 G o1 d1 S1 ++ (wX2 G o2 d2 S2))) := hD
          refine lv_istore (lv' := [(6, .int r_7), (0, .ref o0), (1, .ref o1), (2, .ref o2), (3, .int x3), (4, .int x4), (5, .int x5)]) hx hb dX7_start_78 hl (by decide) rfl (fun ls hl => ?_)
          refine lv_iload hx hb dX7_start_80 (lv_at hl 0 rfl) ?_
          refine lv_bipush (v := (-9)) hx hb dX7_start_82 (by decide) ?_
          refine lv_icmp_eq (tgt := 99) hx hb dX7_start_84 (by decide) (fun c_8 => ?_) (fun c_8 => ?_)
          · have hg := hg.1 c_8
            refine lv_aload_n hx hb dX7_start_99 rfl (lv_at hl 2 rfl) ?_
            refine va_get (D := G.1) (ci := 3) (v := .ref (d1 13)) (C := RX4) (T := TX4) (N := 17) hx hb hT iX4 hown hK hP 4 rfl rfl 13 (by decide) (hT _ q_109) (fun _ h9 => h9) rfl dX7_start_100 ?_
            refine lv_iload hx hb dX7_start_103 (lv_at hl 5 rfl) ?_
            refine va_iald hx hb hK hP 16 0 rfl rfl hg.1 dX7_start_105 ?_
            have hg := hg.2
            refine lv_iconst (v := 2) hx hb dX7_start_106 (by decide) ?_
            refine lv_icmp_ne (tgt := 132) hx hb dX7_start_107 (by decide) (fun c_9 => ?_) (fun c_9 => ?_)
            · have hg := hg.2 c_9
              refine lv_iload hx hb dX7_start_132 (lv_at hl 5 rfl) ?_
              refine lv_istore_n (lv' := [(3, .int x4), (6, .int r_7), (0, .ref o0), (1, .ref o1), (2, .ref o2), (4, .int x4), (5, .int x5)]) hx hb dX7_start_134 rfl hl (by decide) rfl (fun ls hl => ?_)
              refine lv_aload_n hx hb dX7_start_135 rfl (lv_at hl 2 rfl) ?_
              refine lv_aload_n hx hb dX7_start_136 rfl (lv_at hl 3 rfl) ?_
              refine lv_aload_n hx hb dX7_start_137 rfl (lv_at hl 4 rfl) ?_
              refine lv_iload hx hb dX7_start_138 (lv_at hl 5 rfl) ?_
              refine zcVi (As := [.ref o1, .ref o2, .int x4]) (rest := []) (C := RX7) Cx (c_X7_next l G o0 d0 o1 d1 o2 d2 x4 S0_6 S1 S2 _ hg) zv_X7_next q_537 ⟨⟨rfl, rfl⟩, Nat.le_of_ble_eq_true rfl, Nat.le_of_ble_eq_true rfl⟩ (zJ.all hP hD hS hA) hS 5 rfl rfl rfl rfl hl.1 rfl (Nat.le_of_ble_eq_true rfl) dX7_start_140 (fun r_10 _u H locs hg hP hD hS => ?_)
              refine lv_istore (lv' := [(4, .int r_10), (3, .int x4), (6, .int r_7), (0, .ref o0), (1, .ref o1), (2, .ref o2), (5, .int x5)]) hx hb dX7_start_143 hl (by decide) rfl (fun ls hl => ?_)
              obtain ⟨x5_11, ex5_11⟩ : ∃ y : Int32, y = x5 + 1 := ⟨_, rfl⟩
              have hg := hg x5_11 ex5_11
              refine lv_iinc (v := x5_11) (lv' := [(5, .int x5_11), (4, .int r_10), (3, .int x4), (6, .int r_7), (0, .ref o0), (1, .ref o1), (2, .ref o2)]) hx hb dX7_start_145 hl (k := 6) rfl (by rw [ex5_11]; rfl) (by decide) rfl (fun ls hl => ?_)
              refine lv_goto (tgt := 35) hx hb dX7_start_148 (by decide) ?_
              exact hX35 _ _ _ _ _ _ _ hg hP hD hS (lv_sub hl [4, 5, 6, 2, 1, 0] rfl)
            · have hg := hg.1 c_9
              refine lv_aload_n hx hb dX7_start_110 rfl (lv_at hl 1 rfl) ?_
              refine lv_iconst (v := 0) hx hb dX7_start_111 (by decide) ?_
              refine z_put (D := G.1) (ci := 5) (v := .int 0) (ty := .int) (C := RX7) (T := TX7) (N := 5) hx hb hT iX7 tyX7 tyX7_ok nmX7 hown hK hP hD hS 0 rfl rfl 0 (by decide) (hT _ q_222) (fun _ h9 => h9) rfl (by decide +kernel) rfl rfl (Nat.le_of_ble_eq_true rfl) dX7_start_112 (zst S0_6 0 0 0) (fun S : ZS => wX7 G o0 d0 S ++ (wX4 G o1 d1 S1 ++ (wX2 G o2 d2 S2))) rfl (fun S0_12 H locs eS0_12 hP hD hS => ?_)
              have hg := hg S0_12 eS0_12
              refine lv_aload_n hx hb dX7_start_115 rfl (lv_at hl 1 rfl) ?_
              refine lv_aload_n hx hb dX7_start_116 rfl (lv_at hl 1 rfl) ?_
              refine va_get (D := G.1) (ci := 5) (v := .ref (d0 2)) (C := RX7) (T := TX7) (N := 5) hx hb hT iX7 hown hK hP 0 rfl rfl 2 (by decide) (hT _ q_226) (fun _ h9 => h9) rfl dX7_start_117 ?_
              refine lv_aload_n hx hb dX7_start_120 rfl (lv_at hl 2 rfl) ?_
              refine va_get (D := G.1) (ci := 3) (v := .ref (d1 14)) (C := RX4) (T := TX4) (N := 17) hx hb hT iX4 hown hK hP 4 rfl rfl 14 (by decide) (hT _ q_113) (fun _ h9 => h9) rfl dX7_start_121 ?_
              refine lv_iload hx hb dX7_start_124 (lv_at hl 5 rfl) ?_
              refine va_iald hx hb hK hP 17 0 rfl rfl hg.1 dX7_start_126 ?_
              have hg := hg.2
              refine va_iald hx hb hK hP 1 0 rfl rfl hg.1 dX7_start_127 ?_
              have hg := hg.2
              refine z_put (D := G.1) (ci := 5) (v := .int (S0_12 2 (S1 14 x4.toNatClampNeg).toNatClampNeg)) (ty := .int) (C := RX7) (T := TX7) (N := 5) hx hb hT iX7 tyX7 tyX7_ok nmX7 hown hK hP hD hS 0 rfl rfl 1 (by decide) (hT _ q_224) (fun _ h9 => h9) rfl (by decide +kernel) rfl rfl (Nat.le_of_ble_eq_true rfl) dX7_start_128 (zst S0_12 1 0 (S0_12 2 (S1 14 x4.toNatClampNeg).toNatClampNeg)) (fun S : ZS => wX7 G o0 d0 S ++ (wX4 G o1 d1 S1 ++ (wX2 G o2 d2 S2))) rfl (fun S0_13 H locs eS0_13 hP hD hS => ?_)
              have hg := hg S0_13 eS0_13
              exact hret _ _ (S0_13) _ _ hg hP hD hS dX7_start_131
          · have hg := hg.2 c_8
            refine lv_aload_n hx hb dX7_start_87 rfl (lv_at hl 1 rfl) ?_
            refine lv_iconst (v := 1) hx hb dX7_start_88 (by decide) ?_
            refine z_put (D := G.1) (ci := 5) (v := .int 1) (ty := .int) (C := RX7) (T := TX7) (N := 5) hx hb hT iX7 tyX7 tyX7_ok nmX7 hown hK hP hD hS 0 rfl rfl 0 (by decide) (hT _ q_222) (fun _ h9 => h9) rfl (by decide +kernel) rfl rfl (Nat.le_of_ble_eq_true rfl) dX7_start_89 (zst S0_6 0 0 1) (fun S : ZS => wX7 G o0 d0 S ++ (wX4 G o1 d1 S1 ++ (wX2 G o2 d2 S2))) rfl (fun S0_14 H locs eS0_14 hP hD hS => ?_)
            have hg := hg S0_14 eS0_14
            refine lv_aload_n hx hb dX7_start_92 rfl (lv_at hl 1 rfl) ?_
            refine lv_iload hx hb dX7_start_93 (lv_at hl 0 rfl) ?_
            refine z_put (D := G.1) (ci := 5) (v := .int r_7) (ty := .int) (C := RX7) (T := TX7) (N := 5) hx hb hT iX7 tyX7 tyX7_ok nmX7 hown hK hP hD hS 0 rfl rfl 1 (by decide) (hT _ q_224) (fun _ h9 => h9) rfl (by decide +kernel) rfl rfl (Nat.le_of_ble_eq_true rfl) dX7_start_95 (zst S0_14 1 0 r_7) (fun S : ZS => wX7 G o0 d0 S ++ (wX4 G o1 d1 S1 ++ (wX2 G o2 d2 S2))) rfl (fun S0_15 H locs eS0_15 hP hD hS => ?_)
            have hg := hg S0_15 eS0_15
            exact hret _ _ (S0_15) _ _ hg hP hD hS dX7_start_98
  refine lv_aload_n hx hb dX7_start_0 rfl (lv_at hl 0 rfl) ?_
  refine lv_iconst (v := 2) hx hb dX7_start_1 (by decide) ?_
  refine z_put (D := G.1) (ci := 5) (v := .int 2) (ty := .int) (C := RX7) (T := TX7) (N := 5) hx hb hT iX7 tyX7 tyX7_ok nmX7 hown hK hP hD hS 0 rfl rfl 0 (by decide) (hT _ q_222) (fun _ h9 => h9) rfl (by decide +kernel) rfl rfl (Nat.le_of_ble_eq_true rfl) dX7_start_2 (zst S0 0 0 2) (fun S : ZS => wX7 G o0 d0 S ++ (wX4 G o1 d1 S1 ++ (wX2 G o2 d2 S2))) rfl (fun S0_1 H locs eS0_1 hP hD hS => ?_)
  have hg := hg S0_1 eS0_1
  refine lv_aload_n hx hb dX7_start_5 rfl (lv_at hl 0 rfl) ?_
  refine lv_iconst (v := 0) hx hb dX7_start_6 (by decide) ?_
  refine z_put (D := G.1) (ci := 5) (v := .int 0) (ty := .int) (C := RX7) (T := TX7) (N := 5) hx hb hT iX7 tyX7 tyX7_ok nmX7 hown hK hP hD hS 0 rfl rfl 1 (by decide) (hT _ q_224) (fun _ h9 => h9) rfl (by decide +kernel) rfl rfl (Nat.le_of_ble_eq_true rfl) dX7_start_7 (zst S0_1 1 0 0) (fun S : ZS => wX7 G o0 d0 S ++ (wX4 G o1 d1 S1 ++ (wX2 G o2 d2 S2))) rfl (fun S0_2 H locs eS0_2 hP hD hS => ?_)
  have hg := hg S0_2 eS0_2
  refine lv_aload_n hx hb dX7_start_10 rfl (lv_at hl 0 rfl) ?_
  refine va_get (D := G.1) (ci := 5) (v := .ref (d0 2)) (C := RX7) (T := TX7) (N := 5) hx hb hT iX7 hown hK hP 0 rfl rfl 2 (by decide) (hT _ q_226) (fun _ h9 => h9) rfl dX7_start_11 ?_
  refine lv_iconst (v := 0) hx hb dX7_start_14 (by decide) ?_
  refine zcSv (As := [.ref (d0 2), .int 0]) (rest := []) Cx (c_J7_fill_53178 l G (d0 2) 24 0 (S0_2 2) _ hg) zv_J7_fill_53178 q_523 ⟨⟨rfl, rfl⟩, Nat.le_of_ble_eq_true rfl, Nat.le_of_ble_eq_true rfl⟩ (zJ.sub (wr := [0, 2, 3, 4, 5, 6, 7, 8, 9, 10, 11, 12, 13, 14, 15, 16, 17, 18, 19, 20, 21, 22, 23, 24, 25].filterMap (fun i => (wX7 G o0 d0 S0_2 ++ (wX4 G o1 d1 S1 ++ (wX2 G o2 d2 S2)))[i]?)) (w2 := (fun u : ZR => wX7 G o0 d0 ((zrp S0_2 2 u)) ++ (wX4 G o1 d1 S1 ++ (wX2 G o2 d2 S2)))) hP hD hS hA [1] [0, 2, 3, 4, 5, 6, 7, 8, 9, 10, 11, 12, 13, 14, 15, 16, 17, 18, 19, 20, 21, 22, 23, 24, 25] [0, 25, 1, 2, 3, 4, 5, 6, 7, 8, 9, 10, 11, 12, 13, 14, 15, 16, 17, 18, 19, 20, 21, 22, 23, 24] rfl rfl (by decide) (fun u => rfl)) hS rfl hl.1 rfl (Nat.le_of_ble_eq_true rfl) dX7_start_15 (fun f_3 H locs hg hP hD hS => ?_)
  have hP : va_P G.1 classes (wX7 G o0 d0 ((zrp S0_2 2 f_3)) ++ (wX4 G o1 d1 S1 ++ (wX2 G o2 d2 S2))) H := hP
  have hD : va_D A (wX7 G o0 d0 ((zrp S0_2 2 f_3)) ++ (wX4 G o1 d1 S1 ++ (wX2 G o2 d2 S2))) := hD
  refine lv_aload_n hx hb dX7_start_18 rfl (lv_at hl 0 rfl) ?_
  refine va_get (D := G.1) (ci := 5) (v := .ref (d0 4)) (C := RX7) (T := TX7) (N := 5) hx hb hT iX7 hown hK hP 0 rfl rfl 4 (by decide) (hT _ q_229) (fun _ h9 => h9) rfl dX7_start_19 ?_
  refine lv_iconst (v := 0) hx hb dX7_start_22 (by decide) ?_
  refine zcSv (As := [.ref (d0 4), .int 0]) (rest := []) Cx (c_J7_fill_53178 l G (d0 4) 8 0 ((zrp S0_2 2 f_3) 4) _ hg) zv_J7_fill_53178 q_523 ⟨⟨rfl, rfl⟩, Nat.le_of_ble_eq_true rfl, Nat.le_of_ble_eq_true rfl⟩ (zJ.sub (wr := [0, 1, 2, 4, 5, 6, 7, 8, 9, 10, 11, 12, 13, 14, 15, 16, 17, 18, 19, 20, 21, 22, 23, 24, 25].filterMap (fun i => (wX7 G o0 d0 ((zrp S0_2 2 f_3)) ++ (wX4 G o1 d1 S1 ++ (wX2 G o2 d2 S2)))[i]?)) (w2 := (fun u : ZR => wX7 G o0 d0 ((zrp (zrp S0_2 2 f_3) 4 u)) ++ (wX4 G o1 d1 S1 ++ (wX2 G o2 d2 S2)))) hP hD hS hA [3] [0, 1, 2, 4, 5, 6, 7, 8, 9, 10, 11, 12, 13, 14, 15, 16, 17, 18, 19, 20, 21, 22, 23, 24, 25] [0, 1, 2, 25, 3, 4, 5, 6, 7, 8, 9, 10, 11, 12, 13, 14, 15, 16, 17, 18, 19, 20, 21, 22, 23, 24] rfl rfl (by decide) (fun u => rfl)) hS rfl hl.1 rfl (Nat.le_of_ble_eq_true rfl) dX7_start_23 (fun f_4 H locs hg hP hD hS => ?_)
  have hP : va_P G.1 classes (wX7 G o0 d0 ((zrp (zrp S0_2 2 f_3) 4 f_4)) ++ (wX4 G o1 d1 S1 ++ (wX2 G o2 d2 S2))) H := hP
  have hD : va_D A (wX7 G o0 d0 ((zrp (zrp S0_2 2 f_3) 4 f_4)) ++ (wX4 G o1 d1 S1 ++ (wX2 G o2 d2 S2))) := hD
  refine lv_bipush (v := (-9)) hx hb dX7_start_26 (by decide) ?_
  refine lv_istore_n (lv' := [(3, .int (-9)), (0, .ref o0), (1, .ref o1), (2, .ref o2)]) hx hb dX7_start_28 rfl hl (by decide) rfl (fun ls hl => ?_)
  refine lv_iconst (v := 0) hx hb dX7_start_29 (by decide) ?_
  refine lv_istore (lv' := [(4, .int 0), (3, .int (-9)), (0, .ref o0), (1, .ref o1), (2, .ref o2)]) hx hb dX7_start_30 hl (by decide) rfl (fun ls hl => ?_)
  refine lv_iconst (v := 0) hx hb dX7_start_32 (by decide) ?_
  refine lv_istore (lv' := [(5, .int 0), (4, .int 0), (3, .int (-9)), (0, .ref o0), (1, .ref o1), (2, .ref o2)]) hx hb dX7_start_33 hl (by decide) rfl (fun ls hl => ?_)
  obtain ⟨n, hg⟩ := hg
  exact L35 n _ _ _ _ _ _ _ hg hP hD hS (lv_sub hl [3, 4, 5, 2, 1, 0] rfl)
