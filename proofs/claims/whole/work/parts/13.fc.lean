theorem zv_X8_type : zV yX8_type RX8 cX8_type 2 (some .int) 1 := ⟨q_304, q_305, q_1, q_306, by decide +kernel⟩
set_option maxHeartbeats 4000000 in
set_option maxRecDepth 100000 in
theorem c_X8_type (l : Launch) (G : ZG) (o0 : Nat) (d0 : Nat → Nat) (i0 i1 : Nat) (d1 : Nat → Nat) (d2 : Nat → Nat) (d3 : Nat → Nat) (d4 : Nat → Nat) (d5 : Nat → Nat) (d6 : Nat → Nat) (d7 : Nat → Nat) (d8 : Nat → Nat) (d9 : Nat → Nat) (d10 : Nat → Nat) (d11 : Nat → Nat) (x1 : Int32) (S0 : ZS) (S1 : ZS) (S2 : ZS) (S3 : ZS) (S4 : ZS) (S5 : ZS) (S6 : ZS) (S7 : ZS) (S8 : ZS) (S9 : ZS) (S10 : ZS) (S11 : ZS) (Q : Int32 → ZS → Prop) (hg : g_X8_type x1 S0 S1 S2 S3 S4 S5 S6 S7 S8 S9 S10 S11 Q) : Ki l G yX8_type cX8_type 2 .int rm_X8_type [.ref o0, .int x1] (wX8 G o0 d0 i0 i1 S0 ++ (wX6 G (d0 0) d1 S1 ++ (wX4 G (d0 1) d2 S2 ++ (wX4 G (d0 2) d3 S3 ++ (wX2 G (d0 3) d4 S4 ++ (wX0 G (d0 4) d5 S5 ++ (wX0 G (d0 5) d6 S6 ++ (wX0 G (d0 6) d7 S7 ++ (wX7 G (d0 7) d8 S8 ++ (wX1 G (d0 8) d9 S9 ++ (wX2 G i0 d10 S10 ++ (wX2 G i1 d11 S11)))))))))))) (fun u : ZS => wX8 G o0 d0 i0 i1 S0 ++ (wX6 G (d0 0) d1 u ++ (wX4 G (d0 1) d2 S2 ++ (wX4 G (d0 2) d3 S3 ++ (wX2 G (d0 3) d4 S4 ++ (wX0 G (d0 4) d5 S5 ++ (wX0 G (d0 5) d6 S6 ++ (wX0 G (d0 6) d7 S7 ++ (wX7 G (d0 7) d8 S8 ++ (wX1 G (d0 8) d9 S9 ++ (wX2 G i0 d10 S10 ++ (wX2 G i1 d11 S11)))))))))))) (fun r u => Q r u) := by
  refine Ki.of (by decide) (Nat.le_of_ble_eq_true rfl) ?_
  intro p e s m args below meth c A QQ ls Cx hret hl hP hD hS
  obtain ⟨hx, hb, hml, hown, hT, hK, hA⟩ := id Cx
  have hl : lv_has ls 2 [(0, .ref o0), (1, .int x1)] := hl
  refine lv_iload_n hx hb dX8_type_0 rfl (lv_at hl 1 rfl) ?_
  refine lv_if_lt (tgt := 11) hx hb dX8_type_1 (by decide) (fun c_1 => ?_) (fun c_1 => ?_)
  · have hg := hg.1 c_1
    refine lv_iconst (v := (-1)) hx hb dX8_type_11 (by decide) ?_
    exact hret _ _ _ (S1) _ _ hg rfl hP hD hS dX8_type_12
  · have hg := hg.2 c_1
    refine lv_iload_n hx hb dX8_type_4 rfl (lv_at hl 1 rfl) ?_
    refine lv_sipush (v := 255) hx hb dX8_type_5 (by decide) ?_
    refine lv_icmp_le (tgt := 13) hx hb dX8_type_8 (by decide) (fun c_2 => ?_) (fun c_2 => ?_)
    · have hg := hg.1 c_2
      refine lv_aload_n hx hb dX8_type_13 rfl (lv_at hl 0 rfl) ?_
      refine va_get (D := G.1) (ci := 6) (v := .ref (d0 0)) (C := RX8) (T := TX8) (N := 12) hx hb hT iX8 hown hK hP 0 rfl rfl 0 (by decide) (hT _ q_266) (fun _ h9 => h9) rfl dX8_type_14 ?_
      refine va_get (D := G.1) (ci := 4) (v := .int (S1 1 0)) (C := RX6) (T := TX6) (N := 7) hx hb hT iX6 hown hK hP 3 rfl rfl 1 (by decide) (hT _ q_30) (fun _ h9 => h9) rfl dX8_type_17 ?_
      refine lv_sipush (v := 150) hx hb dX8_type_20 (by decide) ?_
      refine lv_icmp_lt (tgt := 29) hx hb dX8_type_23 (by decide) (fun c_3 => ?_) (fun c_3 => ?_)
      · have hg := hg.1 c_3
        refine lv_aload_n hx hb dX8_type_29 rfl (lv_at hl 0 rfl) ?_
        refine va_get (D := G.1) (ci := 6) (v := .ref (d0 0)) (C := RX8) (T := TX8) (N := 12) hx hb hT iX8 hown hK hP 0 rfl rfl 0 (by decide) (hT _ q_266) (fun _ h9 => h9) rfl dX8_type_30 ?_
        refine va_get (D := G.1) (ci := 4) (v := .ref (d1 0)) (C := RX6) (T := TX6) (N := 7) hx hb hT iX6 hown hK hP 3 rfl rfl 0 (by decide) (hT _ q_28) (fun _ h9 => h9) rfl dX8_type_33 ?_
        refine lv_aload_n hx hb dX8_type_36 rfl (lv_at hl 0 rfl) ?_
        refine va_get (D := G.1) (ci := 6) (v := .ref (d0 0)) (C := RX8) (T := TX8) (N := 12) hx hb hT iX8 hown hK hP 0 rfl rfl 0 (by decide) (hT _ q_266) (fun _ h9 => h9) rfl dX8_type_37 ?_
        refine va_get (D := G.1) (ci := 4) (v := .int (S1 1 0)) (C := RX6) (T := TX6) (N := 7) hx hb hT iX6 hown hK hP 3 rfl rfl 1 (by decide) (hT _ q_30) (fun _ h9 => h9) rfl dX8_type_40 ?_
        refine lv_iload_n hx hb dX8_type_43 rfl (lv_at hl 1 rfl) ?_
        refine z_iast hx hb hK hP hD hS 4 0 rfl rfl hg.1 dX8_type_44 (zst S1 0 (S1 1 0).toNatClampNeg x1) (fun S : ZS => wX8 G o0 d0 i0 i1 S0 ++ (wX6 G (d0 0) d1 S ++ (wX4 G (d0 1) d2 S2 ++ (wX4 G (d0 2) d3 S3 ++ (wX2 G (d0 3) d4 S4 ++ (wX0 G (d0 4) d5 S5 ++ (wX0 G (d0 5) d6 S6 ++ (wX0 G (d0 6) d7 S7 ++ (wX7 G (d0 7) d8 S8 ++ (wX1 G (d0 8) d9 S9 ++ (wX2 G i0 d10 S10 ++ (wX2 G i1 d11 S11)))))))))))) rfl (fun S1_4 H locs eS1_4 hP hD hS => ?_)
        have hg := hg.2 S1_4 eS1_4
        refine lv_aload_n hx hb dX8_type_45 rfl (lv_at hl 0 rfl) ?_
        refine va_get (D := G.1) (ci := 6) (v := .ref (d0 0)) (C := RX8) (T := TX8) (N := 12) hx hb hT iX8 hown hK hP 0 rfl rfl 0 (by decide) (hT _ q_266) (fun _ h9 => h9) rfl dX8_type_46 ?_
        refine lv_dup hx hb dX8_type_49 rfl ?_
        refine va_get (D := G.1) (ci := 4) (v := .int (S1_4 1 0)) (C := RX6) (T := TX6) (N := 7) hx hb hT iX6 hown hK hP 3 rfl rfl 1 (by decide) (hT _ q_30) (fun _ h9 => h9) rfl dX8_type_50 ?_
        refine lv_iconst (v := 1) hx hb dX8_type_53 (by decide) ?_
        refine lv_iadd hx hb dX8_type_54 ?_
        refine z_put (D := G.1) (ci := 4) (v := .int ((S1_4 1 0) + 1)) (ty := .int) (C := RX6) (T := TX6) (N := 7) hx hb hT iX6 tyX6 tyX6_ok nmX6 hown hK hP hD hS 3 rfl rfl 1 (by decide) (hT _ q_30) (fun _ h9 => h9) rfl (by decide +kernel) rfl rfl (Nat.le_of_ble_eq_true rfl) dX8_type_55 (zst S1_4 1 0 ((S1_4 1 0) + 1)) (fun S : ZS => wX8 G o0 d0 i0 i1 S0 ++ (wX6 G (d0 0) d1 S ++ (wX4 G (d0 1) d2 S2 ++ (wX4 G (d0 2) d3 S3 ++ (wX2 G (d0 3) d4 S4 ++ (wX0 G (d0 4) d5 S5 ++ (wX0 G (d0 5) d6 S6 ++ (wX0 G (d0 6) d7 S7 ++ (wX7 G (d0 7) d8 S8 ++ (wX1 G (d0 8) d9 S9 ++ (wX2 G i0 d10 S10 ++ (wX2 G i1 d11 S11)))))))))))) rfl (fun S1_5 H locs eS1_5 hP hD hS => ?_)
        have hg := hg S1_5 eS1_5
        refine lv_aload_n hx hb dX8_type_58 rfl (lv_at hl 0 rfl) ?_
        refine va_get (D := G.1) (ci := 6) (v := .ref (d0 0)) (C := RX8) (T := TX8) (N := 12) hx hb hT iX8 hown hK hP 0 rfl rfl 0 (by decide) (hT _ q_266) (fun _ h9 => h9) rfl dX8_type_59 ?_
        refine va_get (D := G.1) (ci := 4) (v := .int (S1_5 1 0)) (C := RX6) (T := TX6) (N := 7) hx hb hT iX6 hown hK hP 3 rfl rfl 1 (by decide) (hT _ q_30) (fun _ h9 => h9) rfl dX8_type_62 ?_
        exact hret _ _ _ (S1_5) _ _ hg rfl hP hD hS dX8_type_65
      · have hg := hg.2 c_3
        refine lv_bipush (v := (-3)) hx hb dX8_type_26 (by decide) ?_
        exact hret _ _ _ (S1) _ _ hg rfl hP hD hS dX8_type_28
    · have hg := hg.2 c_2
      refine lv_iconst (v := (-1)) hx hb dX8_type_11 (by decide) ?_
      exact hret _ _ _ (S1) _ _ hg rfl hP hD hS dX8_type_12
theorem zv_X8_clear : zV yX8_clear RX8 cX8_clear 2 (some .int) 0 := ⟨q_308, q_309, q_1, q_310, by decide +kernel⟩
set_option maxHeartbeats 4000000 in
set_option maxRecDepth 100000 in
theorem c_X8_clear (l : Launch) (G : ZG) (o0 : Nat) (d0 : Nat → Nat) (i0 i1 : Nat) (d1 : Nat → Nat) (d2 : Nat → Nat) (d3 : Nat → Nat) (d4 : Nat → Nat) (d5 : Nat → Nat) (d6 : Nat → Nat) (d7 : Nat → Nat) (d8 : Nat → Nat) (d9 : Nat → Nat) (d10 : Nat → Nat) (d11 : Nat → Nat) (S0 : ZS) (S1 : ZS) (S2 : ZS) (S3 : ZS) (S4 : ZS) (S5 : ZS) (S6 : ZS) (S7 : ZS) (S8 : ZS) (S9 : ZS) (S10 : ZS) (S11 : ZS) (Q : Int32 → ZS → Prop) (hg : g_X8_clear S0 S1 S2 S3 S4 S5 S6 S7 S8 S9 S10 S11 Q) : Ki l G yX8_clear cX8_clear 2 .int rm_X8_clear [.ref o0] (wX8 G o0 d0 i0 i1 S0 ++ (wX6 G (d0 0) d1 S1 ++ (wX4 G (d0 1) d2 S2 ++ (wX4 G (d0 2) d3 S3 ++ (wX2 G (d0 3) d4 S4 ++ (wX0 G (d0 4) d5 S5 ++ (wX0 G (d0 5) d6 S6 ++ (wX0 G (d0 6) d7 S7 ++ (wX7 G (d0 7) d8 S8 ++ (wX1 G (d0 8) d9 S9 ++ (wX2 G i0 d10 S10 ++ (wX2 G i1 d11 S11)))))))))))) (fun u : ZS => wX8 G o0 d0 i0 i1 S0 ++ (wX6 G (d0 0) d1 u ++ (wX4 G (d0 1) d2 S2 ++ (wX4 G (d0 2) d3 S3 ++ (wX2 G (d0 3) d4 S4 ++ (wX0 G (d0 4) d5 S5 ++ (wX0 G (d0 5) d6 S6 ++ (wX0 G (d0 6) d7 S7 ++ (wX7 G (d0 7) d8 S8 ++ (wX1 G (d0 8) d9 S9 ++ (wX2 G i0 d10 S10 ++ (wX2 G i1 d11 S11)))))))))))) (fun r u => Q r u) := by
  refine Ki.of (by decide) (Nat.le_of_ble_eq_true rfl) ?_
  intro p e s m args below meth c A QQ ls Cx hret hl hP hD hS
  obtain ⟨hx, hb, hml, hown, hT, hK, hA⟩ := id Cx
  have hl : lv_has ls 2 [(0, .ref o0)] := hl
  refine lv_aload_n hx hb dX8_clear_0 rfl (lv_at hl 0 rfl) ?_
  refine va_get (D := G.1) (ci := 6) (v := .ref (d0 0)) (C := RX8) (T := TX8) (N := 12) hx hb hT iX8 hown hK hP 0 rfl rfl 0 (by decide) (hT _ q_266) (fun _ h9 => h9) rfl dX8_clear_1 ?_
  refine va_get (D := G.1) (ci := 4) (v := .int (S1 1 0)) (C := RX6) (T := TX6) (N := 7) hx hb hT iX6 hown hK hP 3 rfl rfl 1 (by decide) (hT _ q_30) (fun _ h9 => h9) rfl dX8_clear_4 ?_
  refine lv_istore_n (lv' := [(1, .int (S1 1 0)), (0, .ref o0)]) hx hb dX8_clear_7 rfl hl (by decide) rfl (fun ls hl => ?_)
  refine lv_aload_n hx hb dX8_clear_8 rfl (lv_at hl 1 rfl) ?_
  refine va_get (D := G.1) (ci := 6) (v := .ref (d0 0)) (C := RX8) (T := TX8) (N := 12) hx hb hT iX8 hown hK hP 0 rfl rfl 0 (by decide) (hT _ q_266) (fun _ h9 => h9) rfl dX8_clear_9 ?_
  refine lv_iconst (v := 0) hx hb dX8_clear_12 (by decide) ?_
  refine z_put (D := G.1) (ci := 4) (v := .int 0) (ty := .int) (C := RX6) (T := TX6) (N := 7) hx hb hT iX6 tyX6 tyX6_ok nmX6 hown hK hP hD hS 3 rfl rfl 1 (by decide) (hT _ q_30) (fun _ h9 => h9) rfl (by decide +kernel) rfl rfl (Nat.le_of_ble_eq_true rfl) dX8_clear_13 (zst S1 1 0 0) (fun S : ZS => wX8 G o0 d0 i0 i1 S0 ++ (wX6 G (d0 0) d1 S ++ (wX4 G (d0 1) d2 S2 ++ (wX4 G (d0 2) d3 S3 ++ (wX2 G (d0 3) d4 S4 ++ (wX0 G (d0 4) d5 S5 ++ (wX0 G (d0 5) d6 S6 ++ (wX0 G (d0 6) d7 S7 ++ (wX7 G (d0 7) d8 S8 ++ (wX1 G (d0 8) d9 S9 ++ (wX2 G i0 d10 S10 ++ (wX2 G i1 d11 S11)))))))))))) rfl (fun S1_1 H locs eS1_1 hP hD hS => ?_)
  have hg := hg S1_1 eS1_1
  refine lv_iload_n hx hb dX8_clear_16 rfl (lv_at hl 0 rfl) ?_
  exact hret _ _ _ (S1_1) _ _ hg rfl hP hD hS dX8_clear_17
theorem zv_X8_settle : zV yX8_settle RX8 cX8_settle 1 none 0 := ⟨q_471, qp_0, q_1, q_472, by decide +kernel⟩
set_option maxHeartbeats 4000000 in
set_option maxRecDepth 100000 in
theorem c_X8_settle (l : Launch) (G : ZG) (o0 : Nat) (d0 : Nat → Nat) (i0 i1 : Nat) (d1 : Nat → Nat) (d2 : Nat → Nat) (d3 : Nat → Nat) (d4 : Nat → Nat) (d5 : Nat → Nat) (d6 : Nat → Nat) (d7 : Nat → Nat) (d8 : Nat → Nat) (d9 : Nat → Nat) (d10 : Nat → Nat) (d11 : Nat → Nat) (S0 : ZS) (S1 : ZS) (S2 : ZS) (S3 : ZS) (S4 : ZS) (S5 : ZS) (S6 : ZS) (S7 : ZS) (S8 : ZS) (S9 : ZS) (S10 : ZS) (S11 : ZS) (Q : ZS → ZS → ZS → Prop) (hg : g_X8_settle S0 S1 S2 S3 S4 S5 S6 S7 S8 S9 S10 S11 Q) : Kv l G yX8_settle cX8_settle 1 rm_X8_settle [.ref o0] (wX8 G o0 d0 i0 i1 S0 ++ (wX6 G (d0 0) d1 S1 ++ (wX4 G (d0 1) d2 S2 ++ (wX4 G (d0 2) d3 S3 ++ (wX2 G (d0 3) d4 S4 ++ (wX0 G (d0 4) d5 S5 ++ (wX0 G (d0 5) d6 S6 ++ (wX0 G (d0 6) d7 S7 ++ (wX7 G (d0 7) d8 S8 ++ (wX1 G (d0 8) d9 S9 ++ (wX2 G i0 d10 S10 ++ (wX2 G i1 d11 S11)))))))))))) (fun u : ZS × ZS × ZS => wX8 G o0 d0 i0 i1 S0 ++ (wX6 G (d0 0) d1 S1 ++ (wX4 G (d0 1) d2 S2 ++ (wX4 G (d0 2) d3 S3 ++ (wX2 G (d0 3) d4 S4 ++ (wX0 G (d0 4) d5 (u.1) ++ (wX0 G (d0 5) d6 (u.2.1) ++ (wX0 G (d0 6) d7 S7 ++ (wX7 G (d0 7) d8 (u.2.2) ++ (wX1 G (d0 8) d9 S9 ++ (wX2 G i0 d10 S10 ++ (wX2 G i1 d11 S11)))))))))))) (fun u => Q u.1 u.2.1 u.2.2) := by
  refine Kv.of (by decide) (Nat.le_of_ble_eq_true rfl) ?_
  intro p e s m args below meth c A QQ ls Cx hret hl hP hD hS
  obtain ⟨hx, hb, hml, hown, hT, hK, hA⟩ := id Cx
  have hl : lv_has ls 1 [(0, .ref o0)] := hl
  refine lv_aload_n hx hb dX8_settle_0 rfl (lv_at hl 0 rfl) ?_
  refine va_get (D := G.1) (ci := 6) (v := .ref (d0 4)) (C := RX8) (T := TX8) (N := 12) hx hb hT iX8 hown hK hP 0 rfl rfl 4 (by decide) (hT _ q_270) (fun _ h9 => h9) rfl dX8_settle_1 ?_
  refine lv_aload_n hx hb dX8_settle_4 rfl (lv_at hl 0 rfl) ?_
  refine va_get (D := G.1) (ci := 6) (v := .ref (d0 1)) (C := RX8) (T := TX8) (N := 12) hx hb hT iX8 hown hK hP 0 rfl rfl 1 (by decide) (hT _ q_267) (fun _ h9 => h9) rfl dX8_settle_5 ?_
  refine lv_aload_n hx hb dX8_settle_8 rfl (lv_at hl 0 rfl) ?_
  refine va_get (D := G.1) (ci := 6) (v := .ref (d0 3)) (C := RX8) (T := TX8) (N := 12) hx hb hT iX8 hown hK hP 0 rfl rfl 3 (by decide) (hT _ q_269) (fun _ h9 => h9) rfl dX8_settle_9 ?_
  refine lv_iconst (v := 0) hx hb dX8_settle_12 (by decide) ?_
  refine lv_bipush (v := (-9)) hx hb dX8_settle_13 (by decide) ?_
  refine zcVv (As := [.ref (d0 1), .ref (d0 3), .int 0, .int (-9)]) (rest := []) (C := RX0) Cx (c_X0_climb l G (d0 4) d5 (d0 1) d2 (d0 3) d4 0 (-9) S5 S2 S4 _ hg) zv_X0_climb q_473 ⟨⟨rfl, rfl⟩, Nat.le_of_ble_eq_true rfl, Nat.le_of_ble_eq_true rfl⟩ (zJ.sub (wr := wX8 G o0 d0 i0 i1 S0 ++ (wX6 G (d0 0) d1 S1 ++ (wX4 G (d0 2) d3 S3 ++ (wX0 G (d0 5) d6 S6 ++ (wX0 G (d0 6) d7 S7 ++ (wX7 G (d0 7) d8 S8 ++ (wX1 G (d0 8) d9 S9 ++ (wX2 G i0 d10 S10 ++ (wX2 G i1 d11 S11))))))))) (w2 := (fun u : ZS => wX8 G o0 d0 i0 i1 S0 ++ (wX6 G (d0 0) d1 S1 ++ (wX4 G (d0 1) d2 S2 ++ (wX4 G (d0 2) d3 S3 ++ (wX2 G (d0 3) d4 S4 ++ (wX0 G (d0 4) d5 u ++ (wX0 G (d0 5) d6 S6 ++ (wX0 G (d0 6) d7 S7 ++ (wX7 G (d0 7) d8 S8 ++ (wX1 G (d0 8) d9 S9 ++ (wX2 G i0 d10 S10 ++ (wX2 G i1 d11 S11))))))))))))) hP hD hS hA [43, 44, 45, 46, 47, 5, 6, 7, 8, 9, 10, 11, 12, 13, 14, 15, 16, 17, 18, 19, 20, 37, 38, 39, 40, 41, 42] [0, 1, 2, 3, 4, 21, 22, 23, 24, 25, 26, 27, 28, 29, 30, 31, 32, 33, 34, 35, 36, 48, 49, 50, 51, 52, 53, 54, 55, 56, 57, 58, 59, 60, 61, 62, 63, 64, 65, 66, 67, 68, 69, 70, 71, 72, 73, 74, 75, 76, 77, 78] [0, 1, 2, 3, 4, 57, 58, 59, 60, 61, 62, 63, 64, 65, 66, 67, 68, 69, 70, 71, 72, 5, 6, 7, 8, 9, 10, 11, 12, 13, 14, 15, 16, 17, 18, 19, 20, 73, 74, 75, 76, 77, 78, 52, 53, 54, 55, 56, 21, 22, 23, 24, 25, 26, 27, 28, 29, 30, 31, 32, 33, 34, 35, 36, 37, 38, 39, 40, 41, 42, 43, 44, 45, 46, 47, 48, 49, 50, 51] rfl rfl (by decide) (fun u => rfl)) hS 0 rfl rfl rfl rfl hl.1 rfl (Nat.le_of_ble_eq_true rfl) dX8_settle_15 (fun S5_1 H locs hg hP hD hS => ?_)
  have hP : va_P G.1 classes (wX8 G o0 d0 i0 i1 S0 ++ (wX6 G (d0 0) d1 S1 ++ (wX4 G (d0 1) d2 S2 ++ (wX4 G (d0 2) d3 S3 ++ (wX2 G (d0 3) d4 S4 ++ (wX0 G (d0 4) d5 S5_1 ++ (wX0 G (d0 5) d6 S6 ++ (wX0 G (d0 6) d7 S7 ++ (wX7 G (d0 7) d8 S8 ++ (wX1 G (d0 8) d9 S9 ++ (wX2 G i0 d10 S10 ++ (wX2 G i1 d11 S11)))))))))))) H := hP
  have hD : va_D A (wX8 G o0 d0 i0 i1 S0 ++ (wX6 G (d0 0) d1 S1 ++ (wX4 G (d0 1) d2 S2 ++ (wX4 G (d0 2) d3 S3 ++ (wX2 G (d0 3) d4 S4 ++ (wX0 G (d0 4) d5 S5_1 ++ (wX0 G (d0 5) d6 S6 ++ (wX0 G (d0 6) d7 S7 ++ (wX7 G (d0 7) d8 S8 ++ (wX1 G (d0 8) d9 S9 ++ (wX2 G i0 d10 S10 ++ (wX2 G i1 d11 S11)))))))))))) := hD
  refine lv_aload_n hx hb dX8_settle_18 rfl (lv_at hl 0 rfl) ?_
  refine va_get (D := G.1) (ci := 6) (v := .ref (d0 5)) (C := RX8) (T := TX8) (N := 12) hx hb hT iX8 hown hK hP 0 rfl rfl 5 (by decide) (hT _ q_271) (fun _ h9 => h9) rfl dX8_settle_19 ?_
  refine lv_aload_n hx hb dX8_settle_22 rfl (lv_at hl 0 rfl) ?_
  refine va_get (D := G.1) (ci := 6) (v := .ref (d0 1)) (C := RX8) (T := TX8) (N := 12) hx hb hT iX8 hown hK hP 0 rfl rfl 1 (by decide) (hT _ q_267) (fun _ h9 => h9) rfl dX8_settle_23 ?_
  refine lv_aload_n hx hb dX8_settle_26 rfl (lv_at hl 0 rfl) ?_
  refine va_get (D := G.1) (ci := 6) (v := .ref (d0 3)) (C := RX8) (T := TX8) (N := 12) hx hb hT iX8 hown hK hP 0 rfl rfl 3 (by decide) (hT _ q_269) (fun _ h9 => h9) rfl dX8_settle_27 ?_
  refine lv_iconst (v := 1) hx hb dX8_settle_30 (by decide) ?_
  refine lv_bipush (v := (-9)) hx hb dX8_settle_31 (by decide) ?_
  refine zcVv (As := [.ref (d0 1), .ref (d0 3), .int 1, .int (-9)]) (rest := []) (C := RX0) Cx (c_X0_climb l G (d0 5) d6 (d0 1) d2 (d0 3) d4 1 (-9) S6 S2 S4 _ hg) zv_X0_climb q_473 ⟨⟨rfl, rfl⟩, Nat.le_of_ble_eq_true rfl, Nat.le_of_ble_eq_true rfl⟩ (zJ.sub (wr := wX8 G o0 d0 i0 i1 S0 ++ (wX6 G (d0 0) d1 S1 ++ (wX4 G (d0 2) d3 S3 ++ (wX0 G (d0 4) d5 S5_1 ++ (wX0 G (d0 6) d7 S7 ++ (wX7 G (d0 7) d8 S8 ++ (wX1 G (d0 8) d9 S9 ++ (wX2 G i0 d10 S10 ++ (wX2 G i1 d11 S11))))))))) (w2 := (fun u : ZS => wX8 G o0 d0 i0 i1 S0 ++ (wX6 G (d0 0) d1 S1 ++ (wX4 G (d0 1) d2 S2 ++ (wX4 G (d0 2) d3 S3 ++ (wX2 G (d0 3) d4 S4 ++ (wX0 G (d0 4) d5 S5_1 ++ (wX0 G (d0 5) d6 u ++ (wX0 G (d0 6) d7 S7 ++ (wX7 G (d0 7) d8 S8 ++ (wX1 G (d0 8) d9 S9 ++ (wX2 G i0 d10 S10 ++ (wX2 G i1 d11 S11))))))))))))) hP hD hS hA [48, 49, 50, 51, 52, 5, 6, 7, 8, 9, 10, 11, 12, 13, 14, 15, 16, 17, 18, 19, 20, 37, 38, 39, 40, 41, 42] [0, 1, 2, 3, 4, 21, 22, 23, 24, 25, 26, 27, 28, 29, 30, 31, 32, 33, 34, 35, 36, 43, 44, 45, 46, 47, 53, 54, 55, 56, 57, 58, 59, 60, 61, 62, 63, 64, 65, 66, 67, 68, 69, 70, 71, 72, 73, 74, 75, 76, 77, 78] [0, 1, 2, 3, 4, 57, 58, 59, 60, 61, 62, 63, 64, 65, 66, 67, 68, 69, 70, 71, 72, 5, 6, 7, 8, 9, 10, 11, 12, 13, 14, 15, 16, 17, 18, 19, 20, 73, 74, 75, 76, 77, 78, 21, 22, 23, 24, 25, 52, 53, 54, 55, 56, 26, 27, 28, 29, 30, 31, 32, 33, 34, 35, 36, 37, 38, 39, 40, 41, 42, 43, 44, 45, 46, 47, 48, 49, 50, 51] rfl rfl (by decide) (fun u => rfl)) hS 0 rfl rfl rfl rfl hl.1 rfl (Nat.le_of_ble_eq_true rfl) dX8_settle_33 (fun S6_2 H locs hg hP hD hS => ?_)
  have hP : va_P G.1 classes (wX8 G o0 d0 i0 i1 S0 ++ (wX6 G (d0 0) d1 S1 ++ (wX4 G (d0 1) d2 S2 ++ (wX4 G (d0 2) d3 S3 ++ (wX2 G (d0 3) d4 S4 ++ (wX0 G (d0 4) d5 S5_1 ++ (wX0 G (d0 5) d6 S6_2 ++ (wX0 G (d0 6) d7 S7 ++ (wX7 G (d0 7) d8 S8 ++ (wX1 G (d0 8) d9 S9 ++ (wX2 G i0 d10 S10 ++ (wX2 G i1 d11 S11)))))))))))) H := hP
  have hD : va_D A (wX8 G o0 d0 i0 i1 S0 ++ (wX6 G (d0 0) d1 S1 ++ (wX4 G (d0 1) d2 S2 ++ (wX4 G (d0 2) d3 S3 ++ (wX2 G (d0 3) d4 S4 ++ (wX0 G (d0 4) d5 S5_1 ++ (wX0 G (d0 5) d6 S6_2 ++ (wX0 G (d0 6) d7 S7 ++ (wX7 G (d0 7) d8 S8 ++ (wX1 G (d0 8) d9 S9 ++ (wX2 G i0 d10 S10 ++ (wX2 G i1 d11 S11)))))))))))) := hD
  refine lv_aload_n hx hb dX8_settle_36 rfl (lv_at hl 0 rfl) ?_
  refine va_get (D := G.1) (ci := 6) (v := .ref (d0 7)) (C := RX8) (T := TX8) (N := 12) hx hb hT iX8 hown hK hP 0 rfl rfl 7 (by decide) (hT _ q_273) (fun _ h9 => h9) rfl dX8_settle_37 ?_
  refine lv_aload_n hx hb dX8_settle_40 rfl (lv_at hl 0 rfl) ?_
  refine va_get (D := G.1) (ci := 6) (v := .ref (d0 1)) (C := RX8) (T := TX8) (N := 12) hx hb hT iX8 hown hK hP 0 rfl rfl 1 (by decide) (hT _ q_267) (fun _ h9 => h9) rfl dX8_settle_41 ?_
  refine lv_aload_n hx hb dX8_settle_44 rfl (lv_at hl 0 rfl) ?_
  refine va_get (D := G.1) (ci := 6) (v := .ref (d0 3)) (C := RX8) (T := TX8) (N := 12) hx hb hT iX8 hown hK hP 0 rfl rfl 3 (by decide) (hT _ q_269) (fun _ h9 => h9) rfl dX8_settle_45 ?_
  refine zcVv (As := [.ref (d0 1), .ref (d0 3)]) (rest := []) (C := RX7) Cx (c_X7_start l G (d0 7) d8 (d0 1) d2 (d0 3) d4 S8 S2 S4 _ hg) zv_X7_start q_519 ⟨⟨rfl, rfl⟩, Nat.le_of_ble_eq_true rfl, Nat.le_of_ble_eq_true rfl⟩ (zJ.sub (wr := wX8 G o0 d0 i0 i1 S0 ++ (wX6 G (d0 0) d1 S1 ++ (wX4 G (d0 2) d3 S3 ++ (wX0 G (d0 4) d5 S5_1 ++ (wX0 G (d0 5) d6 S6_2 ++ (wX0 G (d0 6) d7 S7 ++ (wX1 G (d0 8) d9 S9 ++ (wX2 G i0 d10 S10 ++ (wX2 G i1 d11 S11))))))))) (w2 := (fun u : ZS => wX8 G o0 d0 i0 i1 S0 ++ (wX6 G (d0 0) d1 S1 ++ (wX4 G (d0 1) d2 S2 ++ (wX4 G (d0 2) d3 S3 ++ (wX2 G (d0 3) d4 S4 ++ (wX0 G (d0 4) d5 S5_1 ++ (wX0 G (d0 5) d6 S6_2 ++ (wX0 G (d0 6) d7 S7 ++ (wX7 G (d0 7) d8 u ++ (wX1 G (d0 8) d9 S9 ++ (wX2 G i0 d10 S10 ++ (wX2 G i1 d11 S11))))))))))))) hP hD hS hA [58, 59, 60, 61, 5, 6, 7, 8, 9, 10, 11, 12, 13, 14, 15, 16, 17, 18, 19, 20, 37, 38, 39, 40, 41, 42] [0, 1, 2, 3, 4, 21, 22, 23, 24, 25, 26, 27, 28, 29, 30, 31, 32, 33, 34, 35, 36, 43, 44, 45, 46, 47, 48, 49, 50, 51, 52, 53, 54, 55, 56, 57, 62, 63, 64, 65, 66, 67, 68, 69, 70, 71, 72, 73, 74, 75, 76, 77, 78] [0, 1, 2, 3, 4, 57, 58, 59, 60, 61, 62, 63, 64, 65, 66, 67, 68, 69, 70, 71, 72, 5, 6, 7, 8, 9, 10, 11, 12, 13, 14, 15, 16, 17, 18, 19, 20, 73, 74, 75, 76, 77, 78, 21, 22, 23, 24, 25, 26, 27, 28, 29, 30, 31, 32, 33, 34, 35, 53, 54, 55, 56, 36, 37, 38, 39, 40, 41, 42, 43, 44, 45, 46, 47, 48, 49, 50, 51, 52] rfl rfl (by decide) (fun u => rfl)) hS 5 rfl rfl rfl rfl hl.1 rfl (Nat.le_of_ble_eq_true rfl) dX8_settle_48 (fun S8_3 H locs hg hP hD hS => ?_)
  have hP : va_P G.1 classes (wX8 G o0 d0 i0 i1 S0 ++ (wX6 G (d0 0) d1 S1 ++ (wX4 G (d0 1) d2 S2 ++ (wX4 G (d0 2) d3 S3 ++ (wX2 G (d0 3) d4 S4 ++ (wX0 G (d0 4) d5 S5_1 ++ (wX0 G (d0 5) d6 S6_2 ++ (wX0 G (d0 6) d7 S7 ++ (wX7 G (d0 7) d8 S8_3 ++ (wX1 G (d0 8) d9 S9 ++ (wX2 G i0 d10 S10 ++ (wX2 G i1 d11 S11)))))))))))) H := hP
  have hD : va_D A (wX8 G o0 d0 i0 i1 S0 ++ (wX6 G (d0 0) d1 S1 ++ (wX4 G (d0 1) d2 S2 ++ (wX4 G (d0 2) d3 S3 ++ (wX2 G (d0 3) d4 S4 ++ (wX0 G (d0 4) d5 S5_1 ++ (wX0 G (d0 5) d6 S6_2 ++ (wX0 G (d0 6) d7 S7 ++ (wX7 G (d0 7) d8 S8_3 ++ (wX1 G (d0 8) d9 S9 ++ (wX2 G i0 d10 S10 ++ (wX2 G i1 d11 S11)))))))))))) := hD
  exact hret _ _ (S5_1, S6_2, S8_3) _ _ hg hP hD hS dX8_settle_51
theorem zv_X8_name : zV yX8_name RX8 cX8_name 3 (some .int) 2 := ⟨q_543, q_544, q_1, q_545, by decide +kernel⟩
set_option maxHeartbeats 4000000 in
set_option maxRecDepth 100000 in
theorem c_X8_name (l : Launch) (G : ZG) (o0 : Nat) (d0 : Nat → Nat) (i0 i1 : Nat) (d1 : Nat → Nat) (d2 : Nat → Nat) (d3 : Nat → Nat) (d4 : Nat → Nat) (d5 : Nat → Nat) (d6 : Nat → Nat) (d7 : Nat → Nat) (d8 : Nat → Nat) (d9 : Nat → Nat) (d10 : Nat → Nat) (d11 : Nat → Nat) (x1 : Int32) (x2 : Int32) (S0 : ZS) (S1 : ZS) (S2 : ZS) (S3 : ZS) (S4 : ZS) (S5 : ZS) (S6 : ZS) (S7 : ZS) (S8 : ZS) (S9 : ZS) (S10 : ZS) (S11 : ZS) (Q : Int32 → Prop) (hg : g_X8_name x1 x2 S0 S1 S2 S3 S4 S5 S6 S7 S8 S9 S10 S11 Q) : Ki l G yX8_name cX8_name 3 .int rm_X8_name [.ref o0, .int x1, .int x2] (wX8 G o0 d0 i0 i1 S0 ++ (wX6 G (d0 0) d1 S1 ++ (wX4 G (d0 1) d2 S2 ++ (wX4 G (d0 2) d3 S3 ++ (wX2 G (d0 3) d4 S4 ++ (wX0 G (d0 4) d5 S5 ++ (wX0 G (d0 5) d6 S6 ++ (wX0 G (d0 6) d7 S7 ++ (wX7 G (d0 7) d8 S8 ++ (wX1 G (d0 8) d9 S9 ++ (wX2 G i0 d10 S10 ++ (wX2 G i1 d11 S11)))))))))))) (fun _ : Unit => wX8 G o0 d0 i0 i1 S0 ++ (wX6 G (d0 0) d1 S1 ++ (wX4 G (d0 1) d2 S2 ++ (wX4 G (d0 2) d3 S3 ++ (wX2 G (d0 3) d4 S4 ++ (wX0 G (d0 4) d5 S5 ++ (wX0 G (d0 5) d6 S6 ++ (wX0 G (d0 6) d7 S7 ++ (wX7 G (d0 7) d8 S8 ++ (wX1 G (d0 8) d9 S9 ++ (wX2 G i0 d10 S10 ++ (wX2 G i1 d11 S11)))))))))))) (fun r _ => Q r ) := by
  refine Ki.of (by decide) (Nat.le_of_ble_eq_true rfl) ?_
  intro p e s m args below meth c A QQ ls Cx hret hl hP hD hS
  obtain ⟨hx, hb, hml, hown, hT, hK, hA⟩ := id Cx
  have hl : lv_has ls 3 [(0, .ref o0), (1, .int x1), (2, .int x2)] := hl
  refine lv_aload_n hx hb dX8_name_0 rfl (lv_at hl 0 rfl) ?_
  refine va_get (D := G.1) (ci := 6) (v := .ref (d0 1)) (C := RX8) (T := TX8) (N := 12) hx hb hT iX8 hown hK hP 0 rfl rfl 1 (by decide) (hT _ q_267) (fun _ h9 => h9) rfl dX8_name_1 ?_
  refine lv_iload_n hx hb dX8_name_4 rfl (lv_at hl 1 rfl) ?_
  refine zcVi (As := [.int x1]) (rest := []) (C := RX4) Cx (c_X4_hasName l G (d0 1) d2 x1 S2 _ hg) zv_X4_hasName q_546 ⟨⟨rfl, rfl⟩, Nat.le_of_ble_eq_true rfl, Nat.le_of_ble_eq_true rfl⟩ (zJ.sub (wr := wX8 G o0 d0 i0 i1 S0 ++ (wX6 G (d0 0) d1 S1 ++ (wX4 G (d0 2) d3 S3 ++ (wX2 G (d0 3) d4 S4 ++ (wX0 G (d0 4) d5 S5 ++ (wX0 G (d0 5) d6 S6 ++ (wX0 G (d0 6) d7 S7 ++ (wX7 G (d0 7) d8 S8 ++ (wX1 G (d0 8) d9 S9 ++ (wX2 G i0 d10 S10 ++ (wX2 G i1 d11 S11))))))))))) (w2 := (fun u : Unit => wX8 G o0 d0 i0 i1 S0 ++ (wX6 G (d0 0) d1 S1 ++ (wX4 G (d0 1) d2 S2 ++ (wX4 G (d0 2) d3 S3 ++ (wX2 G (d0 3) d4 S4 ++ (wX0 G (d0 4) d5 S5 ++ (wX0 G (d0 5) d6 S6 ++ (wX0 G (d0 6) d7 S7 ++ (wX7 G (d0 7) d8 S8 ++ (wX1 G (d0 8) d9 S9 ++ (wX2 G i0 d10 S10 ++ (wX2 G i1 d11 S11))))))))))))) hP hD hS hA [5, 6, 7, 8, 9, 10, 11, 12, 13, 14, 15, 16, 17, 18, 19, 20] [0, 1, 2, 3, 4, 21, 22, 23, 24, 25, 26, 27, 28, 29, 30, 31, 32, 33, 34, 35, 36, 37, 38, 39, 40, 41, 42, 43, 44, 45, 46, 47, 48, 49, 50, 51, 52, 53, 54, 55, 56, 57, 58, 59, 60, 61, 62, 63, 64, 65, 66, 67, 68, 69, 70, 71, 72, 73, 74, 75, 76, 77, 78] [0, 1, 2, 3, 4, 63, 64, 65, 66, 67, 68, 69, 70, 71, 72, 73, 74, 75, 76, 77, 78, 5, 6, 7, 8, 9, 10, 11, 12, 13, 14, 15, 16, 17, 18, 19, 20, 21, 22, 23, 24, 25, 26, 27, 28, 29, 30, 31, 32, 33, 34, 35, 36, 37, 38, 39, 40, 41, 42, 43, 44, 45, 46, 47, 48, 49, 50, 51, 52, 53, 54, 55, 56, 57, 58, 59, 60, 61, 62] rfl rfl (by decide) (fun u => rfl)) hS 3 rfl rfl rfl rfl hl.1 rfl (Nat.le_of_ble_eq_true rfl) dX8_name_5 (fun r_1 _u H locs hg hP hD hS => ?_)
  refine lv_if_eq (tgt := 21) hx hb dX8_name_8 (by decide) (fun c_2 => ?_) (fun c_2 => ?_)
  · have hg := hg.1 c_2
    refine lv_iconst (v := (-1)) hx hb dX8_name_21 (by decide) ?_
    exact hret _ _ _ () _ _ hg rfl hP hD hS dX8_name_22
  · have hg := hg.2 c_2
    refine lv_iload_n hx hb dX8_name_11 rfl (lv_at hl 2 rfl) ?_
    refine lv_if_lt (tgt := 21) hx hb dX8_name_12 (by decide) (fun c_3 => ?_) (fun c_3 => ?_)
    · have hg := hg.1 c_3
      refine lv_iconst (v := (-1)) hx hb dX8_name_21 (by decide) ?_
      exact hret _ _ _ () _ _ hg rfl hP hD hS dX8_name_22
    · have hg := hg.2 c_3
      refine lv_iload_n hx hb dX8_name_15 rfl (lv_at hl 2 rfl) ?_
      refine lv_bipush (v := 7) hx hb dX8_name_16 (by decide) ?_
      refine lv_icmp_le (tgt := 23) hx hb dX8_name_18 (by decide) (fun c_4 => ?_) (fun c_4 => ?_)
      · have hg := hg.1 c_4
        refine lv_iload_n hx hb dX8_name_23 rfl (lv_at hl 2 rfl) ?_
        by_cases k0 : x2 = 0
        · have hg := hg.1 k0
          refine lv_tableIn (tgt := 68) hx hb dX8_name_24 (by rw [k0]; decide) (by rw [k0]; decide) (by rw [k0]; rfl) (by decide) ?_
          refine lv_aload_n hx hb dX8_name_68 rfl (lv_at hl 0 rfl) ?_
          refine va_get (D := G.1) (ci := 6) (v := .ref (d0 1)) (C := RX8) (T := TX8) (N := 12) hx hb hT iX8 hown hK hP 0 rfl rfl 1 (by decide) (hT _ q_267) (fun _ h9 => h9) rfl dX8_name_69 ?_
          refine va_get (D := G.1) (ci := 3) (v := .ref (d2 2)) (C := RX4) (T := TX4) (N := 17) hx hb hT iX4 hown hK hP 5 rfl rfl 2 (by decide) (hT _ q_70) (fun _ h9 => h9) rfl dX8_name_72 ?_
          refine lv_iload_n hx hb dX8_name_75 rfl (lv_at hl 1 rfl) ?_
          refine va_iald hx hb hK hP 6 0 rfl rfl hg.1 dX8_name_76 ?_
          have hg := hg.2
          exact hret _ _ _ () _ _ hg rfl hP hD hS dX8_name_77
        by_cases k1 : x2 = 1
        · have hg := hg.2.1 k1
          refine lv_tableIn (tgt := 78) hx hb dX8_name_24 (by rw [k1]; decide) (by rw [k1]; decide) (by rw [k1]; rfl) (by decide) ?_
          refine lv_aload_n hx hb dX8_name_78 rfl (lv_at hl 0 rfl) ?_
          refine va_get (D := G.1) (ci := 6) (v := .ref (d0 1)) (C := RX8) (T := TX8) (N := 12) hx hb hT iX8 hown hK hP 0 rfl rfl 1 (by decide) (hT _ q_267) (fun _ h9 => h9) rfl dX8_name_79 ?_
          refine va_get (D := G.1) (ci := 3) (v := .ref (d2 3)) (C := RX4) (T := TX4) (N := 17) hx hb hT iX4 hown hK hP 5 rfl rfl 3 (by decide) (hT _ q_74) (fun _ h9 => h9) rfl dX8_name_82 ?_
          refine lv_iload_n hx hb dX8_name_85 rfl (lv_at hl 1 rfl) ?_
          refine va_iald hx hb hK hP 7 0 rfl rfl hg.1 dX8_name_86 ?_
          have hg := hg.2
          exact hret _ _ _ () _ _ hg rfl hP hD hS dX8_name_87
        by_cases k2 : x2 = 2
        · have hg := hg.2.2.1 k2
          refine lv_tableIn (tgt := 88) hx hb dX8_name_24 (by rw [k2]; decide) (by rw [k2]; decide) (by rw [k2]; rfl) (by decide) ?_
          refine lv_aload_n hx hb dX8_name_88 rfl (lv_at hl 0 rfl) ?_
          refine va_get (D := G.1) (ci := 6) (v := .ref (d0 1)) (C := RX8) (T := TX8) (N := 12) hx hb hT iX8 hown hK hP 0 rfl rfl 1 (by decide) (hT _ q_267) (fun _ h9 => h9) rfl dX8_name_89 ?_
          refine va_get (D := G.1) (ci := 3) (v := .ref (d2 3)) (C := RX4) (T := TX4) (N := 17) hx hb hT iX4 hown hK hP 5 rfl rfl 3 (by decide) (hT _ q_74) (fun _ h9 => h9) rfl dX8_name_92 ?_
          refine lv_iload_n hx hb dX8_name_95 rfl (lv_at hl 1 rfl) ?_
          refine va_iald hx hb hK hP 7 0 rfl rfl hg.1 dX8_name_96 ?_
          have hg := hg.2
          refine lv_iconst (v := 2) hx hb dX8_name_97 (by decide) ?_
          refine lv_icmp_ne (tgt := 113) hx hb dX8_name_98 (by decide) (fun c_5 => ?_) (fun c_5 => ?_)
          · have hg := hg.2 c_5
            refine lv_aload_n hx hb dX8_name_113 rfl (lv_at hl 0 rfl) ?_
            refine va_get (D := G.1) (ci := 6) (v := .ref (d0 1)) (C := RX8) (T := TX8) (N := 12) hx hb hT iX8 hown hK hP 0 rfl rfl 1 (by decide) (hT _ q_267) (fun _ h9 => h9) rfl dX8_name_114 ?_
            refine va_get (D := G.1) (ci := 3) (v := .ref (d2 8)) (C := RX4) (T := TX4) (N := 17) hx hb hT iX4 hown hK hP 5 rfl rfl 8 (by decide) (hT _ q_95) (fun _ h9 => h9) rfl dX8_name_117 ?_
            refine lv_iload_n hx hb dX8_name_120 rfl (lv_at hl 1 rfl) ?_
            refine va_iald hx hb hK hP 12 0 rfl rfl hg.1 dX8_name_121 ?_
            have hg := hg.2
            exact hret _ _ _ () _ _ hg rfl hP hD hS dX8_name_122
          · have hg := hg.1 c_5
            refine lv_aload_n hx hb dX8_name_101 rfl (lv_at hl 0 rfl) ?_
            refine va_get (D := G.1) (ci := 6) (v := .ref (d0 1)) (C := RX8) (T := TX8) (N := 12) hx hb hT iX8 hown hK hP 0 rfl rfl 1 (by decide) (hT _ q_267) (fun _ h9 => h9) rfl dX8_name_102 ?_
            refine va_get (D := G.1) (ci := 3) (v := .ref (d2 5)) (C := RX4) (T := TX4) (N := 17) hx hb hT iX4 hown hK hP 5 rfl rfl 5 (by decide) (hT _ q_82) (fun _ h9 => h9) rfl dX8_name_105 ?_
            refine lv_iload_n hx hb dX8_name_108 rfl (lv_at hl 1 rfl) ?_
            refine va_iald hx hb hK hP 9 0 rfl rfl hg.1 dX8_name_109 ?_
            have hg := hg.2
            refine lv_goto (tgt := 122) hx hb dX8_name_110 (by decide) ?_
            exact hret _ _ _ () _ _ hg rfl hP hD hS dX8_name_122
        by_cases k3 : x2 = 3
        · have hg := hg.2.2.2.1 k3
          refine lv_tableIn (tgt := 123) hx hb dX8_name_24 (by rw [k3]; decide) (by rw [k3]; decide) (by rw [k3]; rfl) (by decide) ?_
          refine lv_aload_n hx hb dX8_name_123 rfl (lv_at hl 0 rfl) ?_
          refine va_get (D := G.1) (ci := 6) (v := .ref (d0 1)) (C := RX8) (T := TX8) (N := 12) hx hb hT iX8 hown hK hP 0 rfl rfl 1 (by decide) (hT _ q_267) (fun _ h9 => h9) rfl dX8_name_124 ?_
          refine va_get (D := G.1) (ci := 3) (v := .ref (d2 6)) (C := RX4) (T := TX4) (N := 17) hx hb hT iX4 hown hK hP 5 rfl rfl 6 (by decide) (hT _ q_87) (fun _ h9 => h9) rfl dX8_name_127 ?_
          refine lv_iload_n hx hb dX8_name_130 rfl (lv_at hl 1 rfl) ?_
          refine va_iald hx hb hK hP 10 0 rfl rfl hg.1 dX8_name_131 ?_
          have hg := hg.2
          exact hret _ _ _ () _ _ hg rfl hP hD hS dX8_name_132
        by_cases k4 : x2 = 4
        · have hg := hg.2.2.2.2.1 k4
          refine lv_tableIn (tgt := 133) hx hb dX8_name_24 (by rw [k4]; decide) (by rw [k4]; decide) (by rw [k4]; rfl) (by decide) ?_
          refine lv_aload_n hx hb dX8_name_133 rfl (lv_at hl 0 rfl) ?_
          refine va_get (D := G.1) (ci := 6) (v := .ref (d0 1)) (C := RX8) (T := TX8) (N := 12) hx hb hT iX8 hown hK hP 0 rfl rfl 1 (by decide) (hT _ q_267) (fun _ h9 => h9) rfl dX8_name_134 ?_
          refine va_get (D := G.1) (ci := 3) (v := .ref (d2 7)) (C := RX4) (T := TX4) (N := 17) hx hb hT iX4 hown hK hP 5 rfl rfl 7 (by decide) (hT _ q_92) (fun _ h9 => h9) rfl dX8_name_137 ?_
          refine lv_iload_n hx hb dX8_name_140 rfl (lv_at hl 1 rfl) ?_
          refine va_iald hx hb hK hP 11 0 rfl rfl hg.1 dX8_name_141 ?_
          have hg := hg.2
          exact hret _ _ _ () _ _ hg rfl hP hD hS dX8_name_142
        by_cases k5 : x2 = 5
        · have hg := hg.2.2.2.2.2.1 k5
          refine lv_tableIn (tgt := 143) hx hb dX8_name_24 (by rw [k5]; decide) (by rw [k5]; decide) (by rw [k5]; rfl) (by decide) ?_
          refine lv_aload_n hx hb dX8_name_143 rfl (lv_at hl 0 rfl) ?_
          refine va_get (D := G.1) (ci := 6) (v := .ref (d0 3)) (C := RX8) (T := TX8) (N := 12) hx hb hT iX8 hown hK hP 0 rfl rfl 3 (by decide) (hT _ q_269) (fun _ h9 => h9) rfl dX8_name_144 ?_
          refine va_get (D := G.1) (ci := 2) (v := .ref (d4 0)) (C := RX2) (T := TX2) (N := 5) hx hb hT iX2 hown hK hP 37 rfl rfl 0 (by decide) (hT _ q_166) (fun _ h9 => h9) rfl dX8_name_147 ?_
          refine lv_iload_n hx hb dX8_name_150 rfl (lv_at hl 1 rfl) ?_
          refine va_iald hx hb hK hP 38 0 rfl rfl hg.1 dX8_name_151 ?_
          have hg := hg.2
          exact hret _ _ _ () _ _ hg rfl hP hD hS dX8_name_152
        by_cases k6 : x2 = 6
        · have hg := hg.2.2.2.2.2.2.1 k6
          refine lv_tableIn (tgt := 153) hx hb dX8_name_24 (by rw [k6]; decide) (by rw [k6]; decide) (by rw [k6]; rfl) (by decide) ?_
          refine lv_aload_n hx hb dX8_name_153 rfl (lv_at hl 0 rfl) ?_
          refine va_get (D := G.1) (ci := 6) (v := .ref (d0 4)) (C := RX8) (T := TX8) (N := 12) hx hb hT iX8 hown hK hP 0 rfl rfl 4 (by decide) (hT _ q_270) (fun _ h9 => h9) rfl dX8_name_154 ?_
          refine va_get (D := G.1) (ci := 0) (v := .ref (d5 0)) (C := RX0) (T := TX0) (N := 4) hx hb hT iX0 hown hK hP 43 rfl rfl 0 (by decide) (hT _ q_200) (fun _ h9 => h9) rfl dX8_name_157 ?_
          refine lv_iload_n hx hb dX8_name_160 rfl (lv_at hl 1 rfl) ?_
          refine va_iald hx hb hK hP 44 0 rfl rfl hg.1 dX8_name_161 ?_
          have hg := hg.2
          exact hret _ _ _ () _ _ hg rfl hP hD hS dX8_name_162
        have hg := hg.2.2.2.2.2.2.2 k0 k1 k2 k3 k4 k5 k6
        have nk0 := lv_neT k0 (a := 0) (by decide)
        have nk1 := lv_neT k1 (a := 1) (by decide)
        have nk2 := lv_neT k2 (a := 2) (by decide)
        have nk3 := lv_neT k3 (a := 3) (by decide)
        have nk4 := lv_neT k4 (a := 4) (by decide)
        have nk5 := lv_neT k5 (a := 5) (by decide)
        have nk6 := lv_neT k6 (a := 6) (by decide)
        refine lv_tableOut (tgt := 163) hx hb dX8_name_24 (by omega) (by decide) ?_
        refine lv_aload_n hx hb dX8_name_163 rfl (lv_at hl 0 rfl) ?_
        refine va_get (D := G.1) (ci := 6) (v := .ref (d0 5)) (C := RX8) (T := TX8) (N := 12) hx hb hT iX8 hown hK hP 0 rfl rfl 5 (by decide) (hT _ q_271) (fun _ h9 => h9) rfl dX8_name_164 ?_
        refine va_get (D := G.1) (ci := 0) (v := .ref (d6 0)) (C := RX0) (T := TX0) (N := 4) hx hb hT iX0 hown hK hP 48 rfl rfl 0 (by decide) (hT _ q_200) (fun _ h9 => h9) rfl dX8_name_167 ?_
        refine lv_iload_n hx hb dX8_name_170 rfl (lv_at hl 1 rfl) ?_
        refine va_iald hx hb hK hP 49 0 rfl rfl hg.1 dX8_name_171 ?_
        have hg := hg.2
        exact hret _ _ _ () _ _ hg rfl hP hD hS dX8_name_172
      · have hg := hg.2 c_4
        refine lv_iconst (v := (-1)) hx hb dX8_name_21 (by decide) ?_
        exact hret _ _ _ () _ _ hg rfl hP hD hS dX8_name_22
theorem zv_X8_found : zV yX8_found RX8 cX8_found 2 (some .int) 1 := ⟨q_548, q_549, q_1, q_550, by decide +kernel⟩
set_option maxHeartbeats 4000000 in
set_option maxRecDepth 100000 in
theorem c_X8_found (l : Launch) (G : ZG) (o0 : Nat) (d0 : Nat → Nat) (i0 i1 : Nat) (d1 : Nat → Nat) (d2 : Nat → Nat) (d3 : Nat → Nat) (d4 : Nat → Nat) (d5 : Nat → Nat) (d6 : Nat → Nat) (d7 : Nat → Nat) (d8 : Nat → Nat) (d9 : Nat → Nat) (d10 : Nat → Nat) (d11 : Nat → Nat) (x1 : Int32) (S0 : ZS) (S1 : ZS) (S2 : ZS) (S3 : ZS) (S4 : ZS) (S5 : ZS) (S6 : ZS) (S7 : ZS) (S8 : ZS) (S9 : ZS) (S10 : ZS) (S11 : ZS) (Q : Int32 → ZS → Prop) (hg : g_X8_found x1 S0 S1 S2 S3 S4 S5 S6 S7 S8 S9 S10 S11 Q) : Ki l G yX8_found cX8_found 2 .int rm_X8_found [.ref o0, .int x1] (wX8 G o0 d0 i0 i1 S0 ++ (wX6 G (d0 0) d1 S1 ++ (wX4 G (d0 1) d2 S2 ++ (wX4 G (d0 2) d3 S3 ++ (wX2 G (d0 3) d4 S4 ++ (wX0 G (d0 4) d5 S5 ++ (wX0 G (d0 5) d6 S6 ++ (wX0 G (d0 6) d7 S7 ++ (wX7 G (d0 7) d8 S8 ++ (wX1 G (d0 8) d9 S9 ++ (wX2 G i0 d10 S10 ++ (wX2 G i1 d11 S11)))))))))))) (fun u : ZS => wX8 G o0 d0 i0 i1 u ++ (wX6 G (d0 0) d1 S1 ++ (wX4 G (d0 1) d2 S2 ++ (wX4 G (d0 2) d3 S3 ++ (wX2 G (d0 3) d4 S4 ++ (wX0 G (d0 4) d5 S5 ++ (wX0 G (d0 5) d6 S6 ++ (wX0 G (d0 6) d7 S7 ++ (wX7 G (d0 7) d8 S8 ++ (wX1 G (d0 8) d9 S9 ++ (wX2 G i0 d10 S10 ++ (wX2 G i1 d11 S11)))))))))))) (fun r u => Q r u) := by
  refine Ki.of (by decide) (Nat.le_of_ble_eq_true rfl) ?_
  intro p e s m args below meth c A QQ ls Cx hret hl hP hD hS
  obtain ⟨hx, hb, hml, hown, hT, hK, hA⟩ := id Cx
  have hl : lv_has ls 2 [(0, .ref o0), (1, .int x1)] := hl
  refine lv_aload_n hx hb dX8_found_0 rfl (lv_at hl 0 rfl) ?_
  refine va_get (D := G.1) (ci := 6) (v := .ref (d0 1)) (C := RX8) (T := TX8) (N := 12) hx hb hT iX8 hown hK hP 0 rfl rfl 1 (by decide) (hT _ q_267) (fun _ h9 => h9) rfl dX8_found_1 ?_
  refine lv_iload_n hx hb dX8_found_4 rfl (lv_at hl 1 rfl) ?_
  refine zcVi (As := [.int x1]) (rest := []) (C := RX4) Cx (c_X4_hasName l G (d0 1) d2 x1 S2 _ hg) zv_X4_hasName q_546 ⟨⟨rfl, rfl⟩, Nat.le_of_ble_eq_true rfl, Nat.le_of_ble_eq_true rfl⟩ (zJ.sub (wr := wX8 G o0 d0 i0 i1 S0 ++ (wX6 G (d0 0) d1 S1 ++ (wX4 G (d0 2) d3 S3 ++ (wX2 G (d0 3) d4 S4 ++ (wX0 G (d0 4) d5 S5 ++ (wX0 G (d0 5) d6 S6 ++ (wX0 G (d0 6) d7 S7 ++ (wX7 G (d0 7) d8 S8 ++ (wX1 G (d0 8) d9 S9 ++ (wX2 G i0 d10 S10 ++ (wX2 G i1 d11 S11))))))))))) (w2 := (fun u : Unit => wX8 G o0 d0 i0 i1 S0 ++ (wX6 G (d0 0) d1 S1 ++ (wX4 G (d0 1) d2 S2 ++ (wX4 G (d0 2) d3 S3 ++ (wX2 G (d0 3) d4 S4 ++ (wX0 G (d0 4) d5 S5 ++ (wX0 G (d0 5) d6 S6 ++ (wX0 G (d0 6) d7 S7 ++ (wX7 G (d0 7) d8 S8 ++ (wX1 G (d0 8) d9 S9 ++ (wX2 G i0 d10 S10 ++ (wX2 G i1 d11 S11))))))))))))) hP hD hS hA [5, 6, 7, 8, 9, 10, 11, 12, 13, 14, 15, 16, 17, 18, 19, 20] [0, 1, 2, 3, 4, 21, 22, 23, 24, 25, 26, 27, 28, 29, 30, 31, 32, 33, 34, 35, 36, 37, 38, 39, 40, 41, 42, 43, 44, 45, 46, 47, 48, 49, 50, 51, 52, 53, 54, 55, 56, 57, 58, 59, 60, 61, 62, 63, 64, 65, 66, 67, 68, 69, 70, 71, 72, 73, 74, 75, 76, 77, 78] [0, 1, 2, 3, 4, 63, 64, 65, 66, 67, 68, 69, 70, 71, 72, 73, 74, 75, 76, 77, 78, 5, 6, 7, 8, 9, 10, 11, 12, 13, 14, 15, 16, 17, 18, 19, 20, 21, 22, 23, 24, 25, 26, 27, 28, 29, 30, 31, 32, 33, 34, 35, 36, 37, 38, 39, 40, 41, 42, 43, 44, 45, 46, 47, 48, 49, 50, 51, 52, 53, 54, 55, 56, 57, 58, 59, 60, 61, 62] rfl rfl (by decide) (fun u => rfl)) hS 3 rfl rfl rfl rfl hl.1 rfl (Nat.le_of_ble_eq_true rfl) dX8_found_5 (fun r_1 _u H locs hg hP hD hS => ?_)
  refine lv_if_ne (tgt := 13) hx hb dX8_found_8 (by decide) (fun c_2 => ?_) (fun c_2 => ?_)
  · have hg := hg.2 c_2
    refine lv_aload_n hx hb dX8_found_13 rfl (lv_at hl 0 rfl) ?_
    refine va_get (D := G.1) (ci := 6) (v := .ref (d0 4)) (C := RX8) (T := TX8) (N := 12) hx hb hT iX8 hown hK hP 0 rfl rfl 4 (by decide) (hT _ q_270) (fun _ h9 => h9) rfl dX8_found_14 ?_
    refine va_get (D := G.1) (ci := 0) (v := .ref (d5 0)) (C := RX0) (T := TX0) (N := 4) hx hb hT iX0 hown hK hP 43 rfl rfl 0 (by decide) (hT _ q_200) (fun _ h9 => h9) rfl dX8_found_17 ?_
    refine lv_iload_n hx hb dX8_found_20 rfl (lv_at hl 1 rfl) ?_
    refine va_iald hx hb hK hP 44 0 rfl rfl hg.1 dX8_found_21 ?_
    have hg := hg.2
    refine lv_iconst (v := 1) hx hb dX8_found_22 (by decide) ?_
    refine lv_icmp_eq (tgt := 29) hx hb dX8_found_23 (by decide) (fun c_3 => ?_) (fun c_3 => ?_)
    · have hg := hg.1 c_3
      refine lv_aload_n hx hb dX8_found_29 rfl (lv_at hl 0 rfl) ?_
      refine lv_aload_n hx hb dX8_found_30 rfl (lv_at hl 0 rfl) ?_
      refine va_get (D := G.1) (ci := 6) (v := .ref (d0 4)) (C := RX8) (T := TX8) (N := 12) hx hb hT iX8 hown hK hP 0 rfl rfl 4 (by decide) (hT _ q_270) (fun _ h9 => h9) rfl dX8_found_31 ?_
      refine va_get (D := G.1) (ci := 0) (v := .ref (d5 1)) (C := RX0) (T := TX0) (N := 4) hx hb hT iX0 hown hK hP 43 rfl rfl 1 (by decide) (hT _ q_202) (fun _ h9 => h9) rfl dX8_found_34 ?_
      refine lv_iload_n hx hb dX8_found_37 rfl (lv_at hl 1 rfl) ?_
      refine va_iald hx hb hK hP 45 0 rfl rfl hg.1 dX8_found_38 ?_
      have hg := hg.2
      refine z_put (D := G.1) (ci := 6) (v := .int (S5 1 x1.toNatClampNeg)) (ty := .int) (C := RX8) (T := TX8) (N := 12) hx hb hT iX8 tyX8 tyX8_ok nmX8 hown hK hP hD hS 0 rfl rfl 11 (by decide) (hT _ q_277) (fun _ h9 => h9) rfl (by decide +kernel) rfl rfl (Nat.le_of_ble_eq_true rfl) dX8_found_39 (zst S0 11 0 (S5 1 x1.toNatClampNeg)) (fun S : ZS => wX8 G o0 d0 i0 i1 S ++ (wX6 G (d0 0) d1 S1 ++ (wX4 G (d0 1) d2 S2 ++ (wX4 G (d0 2) d3 S3 ++ (wX2 G (d0 3) d4 S4 ++ (wX0 G (d0 4) d5 S5 ++ (wX0 G (d0 5) d6 S6 ++ (wX0 G (d0 6) d7 S7 ++ (wX7 G (d0 7) d8 S8 ++ (wX1 G (d0 8) d9 S9 ++ (wX2 G i0 d10 S10 ++ (wX2 G i1 d11 S11)))))))))))) rfl (fun S0_4 H locs eS0_4 hP hD hS => ?_)
      have hg := hg S0_4 eS0_4
      refine lv_iconst (v := 1) hx hb dX8_found_42 (by decide) ?_
      exact hret _ _ _ (S0_4) _ _ hg rfl hP hD hS dX8_found_43
    · have hg := hg.2 c_3
      refine lv_bipush (v := (-2)) hx hb dX8_found_26 (by decide) ?_
      exact hret _ _ _ (S0) _ _ hg rfl hP hD hS dX8_found_28
  · have hg := hg.1 c_2
    refine lv_iconst (v := (-1)) hx hb dX8_found_11 (by decide) ?_
    exact hret _ _ _ (S0) _ _ hg rfl hP hD hS dX8_found_12
theorem zv_X8_block : zV yX8_block RX8 cX8_block 3 (some .int) 2 := ⟨q_552, q_553, q_1, q_554, by decide +kernel⟩
set_option maxHeartbeats 4000000 in
set_option maxRecDepth 100000 in
theorem c_X8_block (l : Launch) (G : ZG) (o0 : Nat) (d0 : Nat → Nat) (i0 i1 : Nat) (d1 : Nat → Nat) (d2 : Nat → Nat) (d3 : Nat → Nat) (d4 : Nat → Nat) (d5 : Nat → Nat) (d6 : Nat → Nat) (d7 : Nat → Nat) (d8 : Nat → Nat) (d9 : Nat → Nat) (d10 : Nat → Nat) (d11 : Nat → Nat) (x1 : Int32) (x2 : Int32) (S0 : ZS) (S1 : ZS) (S2 : ZS) (S3 : ZS) (S4 : ZS) (S5 : ZS) (S6 : ZS) (S7 : ZS) (S8 : ZS) (S9 : ZS) (S10 : ZS) (S11 : ZS) (Q : Int32 → Prop) (hg : g_X8_block x1 x2 S0 S1 S2 S3 S4 S5 S6 S7 S8 S9 S10 S11 Q) : Ki l G yX8_block cX8_block 3 .int rm_X8_block [.ref o0, .int x1, .int x2] (wX8 G o0 d0 i0 i1 S0 ++ (wX6 G (d0 0) d1 S1 ++ (wX4 G (d0 1) d2 S2 ++ (wX4 G (d0 2) d3 S3 ++ (wX2 G (d0 3) d4 S4 ++ (wX0 G (d0 4) d5 S5 ++ (wX0 G (d0 5) d6 S6 ++ (wX0 G (d0 6) d7 S7 ++ (wX7 G (d0 7) d8 S8 ++ (wX1 G (d0 8) d9 S9 ++ (wX2 G i0 d10 S10 ++ (wX2 G i1 d11 S11)))))))))))) (fun _ : Unit => wX8 G o0 d0 i0 i1 S0 ++ (wX6 G (d0 0) d1 S1 ++ (wX4 G (d0 1) d2 S2 ++ (wX4 G (d0 2) d3 S3 ++ (wX2 G (d0 3) d4 S4 ++ (wX0 G (d0 4) d5 S5 ++ (wX0 G (d0 5) d6 S6 ++ (wX0 G (d0 6) d7 S7 ++ (wX7 G (d0 7) d8 S8 ++ (wX1 G (d0 8) d9 S9 ++ (wX2 G i0 d10 S10 ++ (wX2 G i1 d11 S11)))))))))))) (fun r _ => Q r ) := by
  refine Ki.of (by decide) (Nat.le_of_ble_eq_true rfl) ?_
  intro p e s m args below meth c A QQ ls Cx hret hl hP hD hS
  obtain ⟨hx, hb, hml, hown, hT, hK, hA⟩ := id Cx
  have hl : lv_has ls 3 [(0, .ref o0), (1, .int x1), (2, .int x2)] := hl
  refine lv_aload_n hx hb dX8_block_0 rfl (lv_at hl 0 rfl) ?_
  refine va_get (D := G.1) (ci := 6) (v := .ref (d0 1)) (C := RX8) (T := TX8) (N := 12) hx hb hT iX8 hown hK hP 0 rfl rfl 1 (by decide) (hT _ q_267) (fun _ h9 => h9) rfl dX8_block_1 ?_
  refine lv_iload_n hx hb dX8_block_4 rfl (lv_at hl 1 rfl) ?_
  refine zcVi (As := [.int x1]) (rest := []) (C := RX4) Cx (c_X4_hasBlock l G (d0 1) d2 x1 S2 _ hg) zv_X4_hasBlock q_555 ⟨⟨rfl, rfl⟩, Nat.le_of_ble_eq_true rfl, Nat.le_of_ble_eq_true rfl⟩ (zJ.sub (wr := wX8 G o0 d0 i0 i1 S0 ++ (wX6 G (d0 0) d1 S1 ++ (wX4 G (d0 2) d3 S3 ++ (wX2 G (d0 3) d4 S4 ++ (wX0 G (d0 4) d5 S5 ++ (wX0 G (d0 5) d6 S6 ++ (wX0 G (d0 6) d7 S7 ++ (wX7 G (d0 7) d8 S8 ++ (wX1 G (d0 8) d9 S9 ++ (wX2 G i0 d10 S10 ++ (wX2 G i1 d11 S11))))))))))) (w2 := (fun u : Unit => wX8 G o0 d0 i0 i1 S0 ++ (wX6 G (d0 0) d1 S1 ++ (wX4 G (d0 1) d2 S2 ++ (wX4 G (d0 2) d3 S3 ++ (wX2 G (d0 3) d4 S4 ++ (wX0 G (d0 4) d5 S5 ++ (wX0 G (d0 5) d6 S6 ++ (wX0 G (d0 6) d7 S7 ++ (wX7 G (d0 7) d8 S8 ++ (wX1 G (d0 8) d9 S9 ++ (wX2 G i0 d10 S10 ++ (wX2 G i1 d11 S11))))))))))))) hP hD hS hA [5, 6, 7, 8, 9, 10, 11, 12, 13, 14, 15, 16, 17, 18, 19, 20] [0, 1, 2, 3, 4, 21, 22, 23, 24, 25, 26, 27, 28, 29, 30, 31, 32, 33, 34, 35, 36, 37, 38, 39, 40, 41, 42, 43, 44, 45, 46, 47, 48, 49, 50, 51, 52, 53, 54, 55, 56, 57, 58, 59, 60, 61, 62, 63, 64, 65, 66, 67, 68, 69, 70, 71, 72, 73, 74, 75, 76, 77, 78] [0, 1, 2, 3, 4, 63, 64, 65, 66, 67, 68, 69, 70, 71, 72, 73, 74, 75, 76, 77, 78, 5, 6, 7, 8, 9, 10, 11, 12, 13, 14, 15, 16, 17, 18, 19, 20, 21, 22, 23, 24, 25, 26, 27, 28, 29, 30, 31, 32, 33, 34, 35, 36, 37, 38, 39, 40, 41, 42, 43, 44, 45, 46, 47, 48, 49, 50, 51, 52, 53, 54, 55, 56, 57, 58, 59, 60, 61, 62] rfl rfl (by decide) (fun u => rfl)) hS 3 rfl rfl rfl rfl hl.1 rfl (Nat.le_of_ble_eq_true rfl) dX8_block_5 (fun r_1 _u H locs hg hP hD hS => ?_)
  refine lv_if_eq (tgt := 21) hx hb dX8_block_8 (by decide) (fun c_2 => ?_) (fun c_2 => ?_)
  · have hg := hg.1 c_2
    refine lv_iconst (v := (-1)) hx hb dX8_block_21 (by decide) ?_
    exact hret _ _ _ () _ _ hg rfl hP hD hS dX8_block_22
  · have hg := hg.2 c_2
    refine lv_iload_n hx hb dX8_block_11 rfl (lv_at hl 2 rfl) ?_
    refine lv_if_lt (tgt := 21) hx hb dX8_block_12 (by decide) (fun c_3 => ?_) (fun c_3 => ?_)
    · have hg := hg.1 c_3
      refine lv_iconst (v := (-1)) hx hb dX8_block_21 (by decide) ?_
      exact hret _ _ _ () _ _ hg rfl hP hD hS dX8_block_22
    · have hg := hg.2 c_3
      refine lv_iload_n hx hb dX8_block_15 rfl (lv_at hl 2 rfl) ?_
      refine lv_bipush (v := 8) hx hb dX8_block_16 (by decide) ?_
      refine lv_icmp_le (tgt := 23) hx hb dX8_block_18 (by decide) (fun c_4 => ?_) (fun c_4 => ?_)
      · have hg := hg.1 c_4
        refine lv_iload_n hx hb dX8_block_23 rfl (lv_at hl 2 rfl) ?_
        by_cases k0 : x2 = 0
        · have hg := hg.1 k0
          refine lv_tableIn (tgt := 72) hx hb dX8_block_24 (by rw [k0]; decide) (by rw [k0]; decide) (by rw [k0]; rfl) (by decide) ?_
          refine lv_aload_n hx hb dX8_block_72 rfl (lv_at hl 0 rfl) ?_
          refine va_get (D := G.1) (ci := 6) (v := .ref (d0 4)) (C := RX8) (T := TX8) (N := 12) hx hb hT iX8 hown hK hP 0 rfl rfl 4 (by decide) (hT _ q_270) (fun _ h9 => h9) rfl dX8_block_73 ?_
          refine va_get (D := G.1) (ci := 0) (v := .ref (d5 2)) (C := RX0) (T := TX0) (N := 4) hx hb hT iX0 hown hK hP 43 rfl rfl 2 (by decide) (hT _ q_204) (fun _ h9 => h9) rfl dX8_block_76 ?_
          refine lv_iload_n hx hb dX8_block_79 rfl (lv_at hl 1 rfl) ?_
          refine va_iald hx hb hK hP 46 0 rfl rfl hg.1 dX8_block_80 ?_
          have hg := hg.2
          exact hret _ _ _ () _ _ hg rfl hP hD hS dX8_block_81
        by_cases k1 : x2 = 1
        · have hg := hg.2.1 k1
          refine lv_tableIn (tgt := 82) hx hb dX8_block_24 (by rw [k1]; decide) (by rw [k1]; decide) (by rw [k1]; rfl) (by decide) ?_
          refine lv_aload_n hx hb dX8_block_82 rfl (lv_at hl 0 rfl) ?_
          refine va_get (D := G.1) (ci := 6) (v := .ref (d0 1)) (C := RX8) (T := TX8) (N := 12) hx hb hT iX8 hown hK hP 0 rfl rfl 1 (by decide) (hT _ q_267) (fun _ h9 => h9) rfl dX8_block_83 ?_
          refine va_get (D := G.1) (ci := 3) (v := .ref (d2 12)) (C := RX4) (T := TX4) (N := 17) hx hb hT iX4 hown hK hP 5 rfl rfl 12 (by decide) (hT _ q_107) (fun _ h9 => h9) rfl dX8_block_86 ?_
          refine lv_iload_n hx hb dX8_block_89 rfl (lv_at hl 1 rfl) ?_
          refine va_iald hx hb hK hP 16 0 rfl rfl hg.1 dX8_block_90 ?_
          have hg := hg.2
          exact hret _ _ _ () _ _ hg rfl hP hD hS dX8_block_91
        by_cases k2 : x2 = 2
        · have hg := hg.2.2.1 k2
          refine lv_tableIn (tgt := 92) hx hb dX8_block_24 (by rw [k2]; decide) (by rw [k2]; decide) (by rw [k2]; rfl) (by decide) ?_
          refine lv_aload_n hx hb dX8_block_92 rfl (lv_at hl 0 rfl) ?_
          refine va_get (D := G.1) (ci := 6) (v := .ref (d0 1)) (C := RX8) (T := TX8) (N := 12) hx hb hT iX8 hown hK hP 0 rfl rfl 1 (by decide) (hT _ q_267) (fun _ h9 => h9) rfl dX8_block_93 ?_
          refine va_get (D := G.1) (ci := 3) (v := .ref (d2 13)) (C := RX4) (T := TX4) (N := 17) hx hb hT iX4 hown hK hP 5 rfl rfl 13 (by decide) (hT _ q_110) (fun _ h9 => h9) rfl dX8_block_96 ?_
          refine lv_iload_n hx hb dX8_block_99 rfl (lv_at hl 1 rfl) ?_
          refine va_iald hx hb hK hP 17 0 rfl rfl hg.1 dX8_block_100 ?_
          have hg := hg.2
          exact hret _ _ _ () _ _ hg rfl hP hD hS dX8_block_101
        by_cases k3 : x2 = 3
        · have hg := hg.2.2.2.1 k3
          refine lv_tableIn (tgt := 102) hx hb dX8_block_24 (by rw [k3]; decide) (by rw [k3]; decide) (by rw [k3]; rfl) (by decide) ?_
          refine lv_aload_n hx hb dX8_block_102 rfl (lv_at hl 0 rfl) ?_
          refine va_get (D := G.1) (ci := 6) (v := .ref (d0 1)) (C := RX8) (T := TX8) (N := 12) hx hb hT iX8 hown hK hP 0 rfl rfl 1 (by decide) (hT _ q_267) (fun _ h9 => h9) rfl dX8_block_103 ?_
          refine va_get (D := G.1) (ci := 3) (v := .ref (d2 14)) (C := RX4) (T := TX4) (N := 17) hx hb hT iX4 hown hK hP 5 rfl rfl 14 (by decide) (hT _ q_114) (fun _ h9 => h9) rfl dX8_block_106 ?_
          refine lv_iload_n hx hb dX8_block_109 rfl (lv_at hl 1 rfl) ?_
          refine va_iald hx hb hK hP 18 0 rfl rfl hg.1 dX8_block_110 ?_
          have hg := hg.2
          exact hret _ _ _ () _ _ hg rfl hP hD hS dX8_block_111
        by_cases k4 : x2 = 4
        · have hg := hg.2.2.2.2.1 k4
          refine lv_tableIn (tgt := 112) hx hb dX8_block_24 (by rw [k4]; decide) (by rw [k4]; decide) (by rw [k4]; rfl) (by decide) ?_
          refine lv_aload_n hx hb dX8_block_112 rfl (lv_at hl 0 rfl) ?_
          refine va_get (D := G.1) (ci := 6) (v := .ref (d0 3)) (C := RX8) (T := TX8) (N := 12) hx hb hT iX8 hown hK hP 0 rfl rfl 3 (by decide) (hT _ q_269) (fun _ h9 => h9) rfl dX8_block_113 ?_
          refine va_get (D := G.1) (ci := 2) (v := .ref (d4 4)) (C := RX2) (T := TX2) (N := 5) hx hb hT iX2 hown hK hP 37 rfl rfl 4 (by decide) (hT _ q_181) (fun _ h9 => h9) rfl dX8_block_116 ?_
          refine lv_iconst (v := 2) hx hb dX8_block_119 (by decide) ?_
          refine lv_iload_n hx hb dX8_block_120 rfl (lv_at hl 1 rfl) ?_
          refine lv_imul hx hb dX8_block_121 ?_
          refine va_iald hx hb hK hP 42 0 rfl rfl hg.1 dX8_block_122 ?_
          have hg := hg.2
          exact hret _ _ _ () _ _ hg rfl hP hD hS dX8_block_123
        by_cases k5 : x2 = 5
        · have hg := hg.2.2.2.2.2.1 k5
          refine lv_tableIn (tgt := 124) hx hb dX8_block_24 (by rw [k5]; decide) (by rw [k5]; decide) (by rw [k5]; rfl) (by decide) ?_
          refine lv_aload_n hx hb dX8_block_124 rfl (lv_at hl 0 rfl) ?_
          refine va_get (D := G.1) (ci := 6) (v := .ref (d0 3)) (C := RX8) (T := TX8) (N := 12) hx hb hT iX8 hown hK hP 0 rfl rfl 3 (by decide) (hT _ q_269) (fun _ h9 => h9) rfl dX8_block_125 ?_
          refine va_get (D := G.1) (ci := 2) (v := .ref (d4 4)) (C := RX2) (T := TX2) (N := 5) hx hb hT iX2 hown hK hP 37 rfl rfl 4 (by decide) (hT _ q_181) (fun _ h9 => h9) rfl dX8_block_128 ?_
          refine lv_iconst (v := 2) hx hb dX8_block_131 (by decide) ?_
          refine lv_iload_n hx hb dX8_block_132 rfl (lv_at hl 1 rfl) ?_
          refine lv_imul hx hb dX8_block_133 ?_
          refine lv_iconst (v := 1) hx hb dX8_block_134 (by decide) ?_
          refine lv_iadd hx hb dX8_block_135 ?_
          refine va_iald hx hb hK hP 42 0 rfl rfl hg.1 dX8_block_136 ?_
          have hg := hg.2
          exact hret _ _ _ () _ _ hg rfl hP hD hS dX8_block_137
        by_cases k6 : x2 = 6
        · have hg := hg.2.2.2.2.2.2.1 k6
          refine lv_tableIn (tgt := 138) hx hb dX8_block_24 (by rw [k6]; decide) (by rw [k6]; decide) (by rw [k6]; rfl) (by decide) ?_
          refine lv_aload_n hx hb dX8_block_138 rfl (lv_at hl 0 rfl) ?_
          refine va_get (D := G.1) (ci := 6) (v := .ref (d0 4)) (C := RX8) (T := TX8) (N := 12) hx hb hT iX8 hown hK hP 0 rfl rfl 4 (by decide) (hT _ q_270) (fun _ h9 => h9) rfl dX8_block_139 ?_
          refine va_get (D := G.1) (ci := 0) (v := .ref (d5 3)) (C := RX0) (T := TX0) (N := 4) hx hb hT iX0 hown hK hP 43 rfl rfl 3 (by decide) (hT _ q_206) (fun _ h9 => h9) rfl dX8_block_142 ?_
          refine lv_iconst (v := 2) hx hb dX8_block_145 (by decide) ?_
          refine lv_iload_n hx hb dX8_block_146 rfl (lv_at hl 1 rfl) ?_
          refine lv_imul hx hb dX8_block_147 ?_
          refine va_iald hx hb hK hP 47 0 rfl rfl hg.1 dX8_block_148 ?_
          have hg := hg.2
          exact hret _ _ _ () _ _ hg rfl hP hD hS dX8_block_149
        by_cases k7 : x2 = 7
        · have hg := hg.2.2.2.2.2.2.2.1 k7
          refine lv_tableIn (tgt := 150) hx hb dX8_block_24 (by rw [k7]; decide) (by rw [k7]; decide) (by rw [k7]; rfl) (by decide) ?_
          refine lv_aload_n hx hb dX8_block_150 rfl (lv_at hl 0 rfl) ?_
          refine va_get (D := G.1) (ci := 6) (v := .ref (d0 4)) (C := RX8) (T := TX8) (N := 12) hx hb hT iX8 hown hK hP 0 rfl rfl 4 (by decide) (hT _ q_270) (fun _ h9 => h9) rfl dX8_block_151 ?_
          refine va_get (D := G.1) (ci := 0) (v := .ref (d5 3)) (C := RX0) (T := TX0) (N := 4) hx hb hT iX0 hown hK hP 43 rfl rfl 3 (by decide) (hT _ q_206) (fun _ h9 => h9) rfl dX8_block_154 ?_
          refine lv_iconst (v := 2) hx hb dX8_block_157 (by decide) ?_
          refine lv_iload_n hx hb dX8_block_158 rfl (lv_at hl 1 rfl) ?_
          refine lv_imul hx hb dX8_block_159 ?_
          refine lv_iconst (v := 1) hx hb dX8_block_160 (by decide) ?_
          refine lv_iadd hx hb dX8_block_161 ?_
          refine va_iald hx hb hK hP 47 0 rfl rfl hg.1 dX8_block_162 ?_
          have hg := hg.2
          exact hret _ _ _ () _ _ hg rfl hP hD hS dX8_block_163
        have hg := hg.2.2.2.2.2.2.2.2 k0 k1 k2 k3 k4 k5 k6 k7
        have nk0 := lv_neT k0 (a := 0) (by decide)
        have nk1 := lv_neT k1 (a := 1) (by decide)
        have nk2 := lv_neT k2 (a := 2) (by decide)
        have nk3 := lv_neT k3 (a := 3) (by decide)
        have nk4 := lv_neT k4 (a := 4) (by decide)
        have nk5 := lv_neT k5 (a := 5) (by decide)
        have nk6 := lv_neT k6 (a := 6) (by decide)
        have nk7 := lv_neT k7 (a := 7) (by decide)
        refine lv_tableOut (tgt := 164) hx hb dX8_block_24 (by omega) (by decide) ?_
        refine lv_aload_n hx hb dX8_block_164 rfl (lv_at hl 0 rfl) ?_
        refine va_get (D := G.1) (ci := 6) (v := .ref (d0 1)) (C := RX8) (T := TX8) (N := 12) hx hb hT iX8 hown hK hP 0 rfl rfl 1 (by decide) (hT _ q_267) (fun _ h9 => h9) rfl dX8_block_165 ?_
        refine va_get (D := G.1) (ci := 3) (v := .ref (d2 16)) (C := RX4) (T := TX4) (N := 17) hx hb hT iX4 hown hK hP 5 rfl rfl 16 (by decide) (hT _ q_121) (fun _ h9 => h9) rfl dX8_block_168 ?_
        refine lv_iload_n hx hb dX8_block_171 rfl (lv_at hl 1 rfl) ?_
        refine va_iald hx hb hK hP 20 0 rfl rfl hg.1 dX8_block_172 ?_
        have hg := hg.2
        exact hret _ _ _ () _ _ hg rfl hP hD hS dX8_block_173
      · have hg := hg.2 c_4
        refine lv_iconst (v := (-1)) hx hb dX8_block_21 (by decide) ?_
        exact hret _ _ _ () _ _ hg rfl hP hD hS dX8_block_22
theorem zv_X8_knows : zV yX8_knows RX8 cX8_knows 3 (some .int) 2 := ⟨q_557, q_558, q_1, q_559, by decide +kernel⟩
set_option maxHeartbeats 4000000 in
set_option maxRecDepth 100000 in
theorem c_X8_knows (l : Launch) (G : ZG) (o0 : Nat) (d0 : Nat → Nat) (i0 i1 : Nat) (d1 : Nat → Nat) (d2 : Nat → Nat) (d3 : Nat → Nat) (d4 : Nat → Nat) (d5 : Nat → Nat) (d6 : Nat → Nat) (d7 : Nat → Nat) (d8 : Nat → Nat) (d9 : Nat → Nat) (d10 : Nat → Nat) (d11 : Nat → Nat) (x1 : Int32) (x2 : Int32) (S0 : ZS) (S1 : ZS) (S2 : ZS) (S3 : ZS) (S4 : ZS) (S5 : ZS) (S6 : ZS) (S7 : ZS) (S8 : ZS) (S9 : ZS) (S10 : ZS) (S11 : ZS) (Q : Int32 → ZS → ZS → ZS → ZS → ZS → Prop) (hg : g_X8_knows x1 x2 S0 S1 S2 S3 S4 S5 S6 S7 S8 S9 S10 S11 Q) : Ki l G yX8_knows cX8_knows 3 .int rm_X8_knows [.ref o0, .int x1, .int x2] (wX8 G o0 d0 i0 i1 S0 ++ (wX6 G (d0 0) d1 S1 ++ (wX4 G (d0 1) d2 S2 ++ (wX4 G (d0 2) d3 S3 ++ (wX2 G (d0 3) d4 S4 ++ (wX0 G (d0 4) d5 S5 ++ (wX0 G (d0 5) d6 S6 ++ (wX0 G (d0 6) d7 S7 ++ (wX7 G (d0 7) d8 S8 ++ (wX1 G (d0 8) d9 S9 ++ (wX2 G i0 d10 S10 ++ (wX2 G i1 d11 S11)))))))))))) (fun u : ZS × ZS × ZS × ZS × ZS => wX8 G o0 d0 i0 i1 S0 ++ (wX6 G (d0 0) d1 S1 ++ (wX4 G (d0 1) d2 S2 ++ (wX4 G (d0 2) d3 S3 ++ (wX2 G (d0 3) d4 (u.1) ++ (wX0 G (d0 4) d5 (u.2.1) ++ (wX0 G (d0 5) d6 (u.2.2.1) ++ (wX0 G (d0 6) d7 S7 ++ (wX7 G (d0 7) d8 (u.2.2.2.1) ++ (wX1 G (d0 8) d9 (u.2.2.2.2) ++ (wX2 G i0 d10 S10 ++ (wX2 G i1 d11 S11)))))))))))) (fun r u => Q r u.1 u.2.1 u.2.2.1 u.2.2.2.1 u.2.2.2.2) := by
  refine Ki.of (by decide) (Nat.le_of_ble_eq_true rfl) ?_
  intro p e s m args below meth c A QQ ls Cx hret hl hP hD hS
  obtain ⟨hx, hb, hml, hown, hT, hK, hA⟩ := id Cx
  have hl : lv_has ls 3 [(0, .ref o0), (1, .int x1), (2, .int x2)] := hl
  refine lv_aload_n hx hb dX8_knows_0 rfl (lv_at hl 0 rfl) ?_
  refine va_get (D := G.1) (ci := 6) (v := .ref (d0 1)) (C := RX8) (T := TX8) (N := 12) hx hb hT iX8 hown hK hP 0 rfl rfl 1 (by decide) (hT _ q_267) (fun _ h9 => h9) rfl dX8_knows_1 ?_
  refine lv_iload_n hx hb dX8_knows_4 rfl (lv_at hl 1 rfl) ?_
  refine lv_iconst (v := 1) hx hb dX8_knows_5 (by decide) ?_
  refine zcVi (As := [.int x1, .int 1]) (rest := []) (C := RX4) Cx (c_X4_isMade l G (d0 1) d2 x1 1 S2 _ hg) zv_X4_isMade q_560 ⟨⟨rfl, rfl⟩, Nat.le_of_ble_eq_true rfl, Nat.le_of_ble_eq_true rfl⟩ (zJ.sub (wr := wX8 G o0 d0 i0 i1 S0 ++ (wX6 G (d0 0) d1 S1 ++ (wX4 G (d0 2) d3 S3 ++ (wX2 G (d0 3) d4 S4 ++ (wX0 G (d0 4) d5 S5 ++ (wX0 G (d0 5) d6 S6 ++ (wX0 G (d0 6) d7 S7 ++ (wX7 G (d0 7) d8 S8 ++ (wX1 G (d0 8) d9 S9 ++ (wX2 G i0 d10 S10 ++ (wX2 G i1 d11 S11))))))))))) (w2 := (fun u : Unit => wX8 G o0 d0 i0 i1 S0 ++ (wX6 G (d0 0) d1 S1 ++ (wX4 G (d0 1) d2 S2 ++ (wX4 G (d0 2) d3 S3 ++ (wX2 G (d0 3) d4 S4 ++ (wX0 G (d0 4) d5 S5 ++ (wX0 G (d0 5) d6 S6 ++ (wX0 G (d0 6) d7 S7 ++ (wX7 G (d0 7) d8 S8 ++ (wX1 G (d0 8) d9 S9 ++ (wX2 G i0 d10 S10 ++ (wX2 G i1 d11 S11))))))))))))) hP hD hS hA [5, 6, 7, 8, 9, 10, 11, 12, 13, 14, 15, 16, 17, 18, 19, 20] [0, 1, 2, 3, 4, 21, 22, 23, 24, 25, 26, 27, 28, 29, 30, 31, 32, 33, 34, 35, 36, 37, 38, 39, 40, 41, 42, 43, 44, 45, 46, 47, 48, 49, 50, 51, 52, 53, 54, 55, 56, 57, 58, 59, 60, 61, 62, 63, 64, 65, 66, 67, 68, 69, 70, 71, 72, 73, 74, 75, 76, 77, 78] [0, 1, 2, 3, 4, 63, 64, 65, 66, 67, 68, 69, 70, 71, 72, 73, 74, 75, 76, 77, 78, 5, 6, 7, 8, 9, 10, 11, 12, 13, 14, 15, 16, 17, 18, 19, 20, 21, 22, 23, 24, 25, 26, 27, 28, 29, 30, 31, 32, 33, 34, 35, 36, 37, 38, 39, 40, 41, 42, 43, 44, 45, 46, 47, 48, 49, 50, 51, 52, 53, 54, 55, 56, 57, 58, 59, 60, 61, 62] rfl rfl (by decide) (fun u => rfl)) hS 3 rfl rfl rfl rfl hl.1 rfl (Nat.le_of_ble_eq_true rfl) dX8_knows_6 (fun r_1 _u H locs hg hP hD hS => ?_)
  refine lv_if_ne (tgt := 14) hx hb dX8_knows_9 (by decide) (fun c_2 => ?_) (fun c_2 => ?_)
  · have hg := hg.2 c_2
    refine lv_aload_n hx hb dX8_knows_14 rfl (lv_at hl 0 rfl) ?_
    refine va_get (D := G.1) (ci := 6) (v := .ref (d0 8)) (C := RX8) (T := TX8) (N := 12) hx hb hT iX8 hown hK hP 0 rfl rfl 8 (by decide) (hT _ q_274) (fun _ h9 => h9) rfl dX8_knows_15 ?_
    refine lv_iconst (v := 0) hx hb dX8_knows_18 (by decide) ?_
    refine lv_iload_n hx hb dX8_knows_19 rfl (lv_at hl 1 rfl) ?_
    refine lv_aload_n hx hb dX8_knows_20 rfl (lv_at hl 0 rfl) ?_
    refine va_get (D := G.1) (ci := 6) (v := .ref (d0 3)) (C := RX8) (T := TX8) (N := 12) hx hb hT iX8 hown hK hP 0 rfl rfl 3 (by decide) (hT _ q_269) (fun _ h9 => h9) rfl dX8_knows_21 ?_
    refine zcVv (As := [.int 0, .int x1, .ref (d0 3)]) (rest := []) (C := RX1) Cx (c_X1_note l G (d0 8) d9 (d0 3) d4 0 x1 S9 S4 _ hg) zv_X1_note q_561 ⟨⟨rfl, rfl⟩, Nat.le_of_ble_eq_true rfl, Nat.le_of_ble_eq_true rfl⟩ (zJ.sub (wr := wX8 G o0 d0 i0 i1 S0 ++ (wX6 G (d0 0) d1 S1 ++ (wX4 G (d0 1) d2 S2 ++ (wX4 G (d0 2) d3 S3 ++ (wX0 G (d0 4) d5 S5 ++ (wX0 G (d0 5) d6 S6 ++ (wX0 G (d0 6) d7 S7 ++ (wX7 G (d0 7) d8 S8 ++ (wX2 G i0 d10 S10 ++ (wX2 G i1 d11 S11)))))))))) (w2 := (fun u : ZS => wX8 G o0 d0 i0 i1 S0 ++ (wX6 G (d0 0) d1 S1 ++ (wX4 G (d0 1) d2 S2 ++ (wX4 G (d0 2) d3 S3 ++ (wX2 G (d0 3) d4 S4 ++ (wX0 G (d0 4) d5 S5 ++ (wX0 G (d0 5) d6 S6 ++ (wX0 G (d0 6) d7 S7 ++ (wX7 G (d0 7) d8 S8 ++ (wX1 G (d0 8) d9 u ++ (wX2 G i0 d10 S10 ++ (wX2 G i1 d11 S11))))))))))))) hP hD hS hA [62, 63, 64, 65, 66, 37, 38, 39, 40, 41, 42] [0, 1, 2, 3, 4, 5, 6, 7, 8, 9, 10, 11, 12, 13, 14, 15, 16, 17, 18, 19, 20, 21, 22, 23, 24, 25, 26, 27, 28, 29, 30, 31, 32, 33, 34, 35, 36, 43, 44, 45, 46, 47, 48, 49, 50, 51, 52, 53, 54, 55, 56, 57, 58, 59, 60, 61, 67, 68, 69, 70, 71, 72, 73, 74, 75, 76, 77, 78] [0, 1, 2, 3, 4, 5, 6, 7, 8, 9, 10, 11, 12, 13, 14, 15, 16, 17, 18, 19, 20, 21, 22, 23, 24, 25, 26, 27, 28, 29, 30, 31, 32, 33, 34, 35, 36, 73, 74, 75, 76, 77, 78, 37, 38, 39, 40, 41, 42, 43, 44, 45, 46, 47, 48, 49, 50, 51, 52, 53, 54, 55, 68, 69, 70, 71, 72, 56, 57, 58, 59, 60, 61, 62, 63, 64, 65, 66, 67] rfl rfl (by decide) (fun u => rfl)) hS 1 rfl rfl rfl rfl hl.1 rfl (Nat.le_of_ble_eq_true rfl) dX8_knows_24 (fun S9_3 H locs hg hP hD hS => ?_)
    have hP : va_P G.1 classes (wX8 G o0 d0 i0 i1 S0 ++ (wX6 G (d0 0) d1 S1 ++ (wX4 G (d0 1) d2 S2 ++ (wX4 G (d0 2) d3 S3 ++ (wX2 G (d0 3) d4 S4 ++ (wX0 G (d0 4) d5 S5 ++ (wX0 G (d0 5) d6 S6 ++ (wX0 G (d0 6) d7 S7 ++ (wX7 G (d0 7) d8 S8 ++ (wX1 G (d0 8) d9 S9_3 ++ (wX2 G i0 d10 S10 ++ (wX2 G i1 d11 S11)))))))))))) H := hP
    have hD : va_D A (wX8 G o0 d0 i0 i1 S0 ++ (wX6 G (d0 0) d1 S1 ++ (wX4 G (d0 1) d2 S2 ++ (wX4 G (d0 2) d3 S3 ++ (wX2 G (d0 3) d4 S4 ++ (wX0 G (d0 4) d5 S5 ++ (wX0 G (d0 5) d6 S6 ++ (wX0 G (d0 6) d7 S7 ++ (wX7 G (d0 7) d8 S8 ++ (wX1 G (d0 8) d9 S9_3 ++ (wX2 G i0 d10 S10 ++ (wX2 G i1 d11 S11)))))))))))) := hD
    refine lv_aload_n hx hb dX8_knows_27 rfl (lv_at hl 0 rfl) ?_
    refine va_get (D := G.1) (ci := 6) (v := .ref (d0 3)) (C := RX8) (T := TX8) (N := 12) hx hb hT iX8 hown hK hP 0 rfl rfl 3 (by decide) (hT _ q_269) (fun _ h9 => h9) rfl dX8_knows_28 ?_
    refine va_get (D := G.1) (ci := 2) (v := .ref (d4 0)) (C := RX2) (T := TX2) (N := 5) hx hb hT iX2 hown hK hP 37 rfl rfl 0 (by decide) (hT _ q_166) (fun _ h9 => h9) rfl dX8_knows_31 ?_
    refine lv_iload_n hx hb dX8_knows_34 rfl (lv_at hl 1 rfl) ?_
    refine lv_iconst (v := 1) hx hb dX8_knows_35 (by decide) ?_
    refine z_iast hx hb hK hP hD hS 38 0 rfl rfl hg.1 dX8_knows_36 (zst S4 0 x1.toNatClampNeg 1) (fun S : ZS => wX8 G o0 d0 i0 i1 S0 ++ (wX6 G (d0 0) d1 S1 ++ (wX4 G (d0 1) d2 S2 ++ (wX4 G (d0 2) d3 S3 ++ (wX2 G (d0 3) d4 S ++ (wX0 G (d0 4) d5 S5 ++ (wX0 G (d0 5) d6 S6 ++ (wX0 G (d0 6) d7 S7 ++ (wX7 G (d0 7) d8 S8 ++ (wX1 G (d0 8) d9 S9_3 ++ (wX2 G i0 d10 S10 ++ (wX2 G i1 d11 S11)))))))))))) rfl (fun S4_4 H locs eS4_4 hP hD hS => ?_)
    have hg := hg.2 S4_4 eS4_4
    refine lv_aload_n hx hb dX8_knows_37 rfl (lv_at hl 0 rfl) ?_
    refine va_get (D := G.1) (ci := 6) (v := .ref (d0 3)) (C := RX8) (T := TX8) (N := 12) hx hb hT iX8 hown hK hP 0 rfl rfl 3 (by decide) (hT _ q_269) (fun _ h9 => h9) rfl dX8_knows_38 ?_
    refine va_get (D := G.1) (ci := 2) (v := .ref (d4 1)) (C := RX2) (T := TX2) (N := 5) hx hb hT iX2 hown hK hP 37 rfl rfl 1 (by decide) (hT _ q_169) (fun _ h9 => h9) rfl dX8_knows_41 ?_
    refine lv_iload_n hx hb dX8_knows_44 rfl (lv_at hl 1 rfl) ?_
    refine lv_iload_n hx hb dX8_knows_45 rfl (lv_at hl 2 rfl) ?_
    refine z_iast hx hb hK hP hD hS 39 0 rfl rfl hg.1 dX8_knows_46 (zst S4_4 1 x1.toNatClampNeg x2) (fun S : ZS => wX8 G o0 d0 i0 i1 S0 ++ (wX6 G (d0 0) d1 S1 ++ (wX4 G (d0 1) d2 S2 ++ (wX4 G (d0 2) d3 S3 ++ (wX2 G (d0 3) d4 S ++ (wX0 G (d0 4) d5 S5 ++ (wX0 G (d0 5) d6 S6 ++ (wX0 G (d0 6) d7 S7 ++ (wX7 G (d0 7) d8 S8 ++ (wX1 G (d0 8) d9 S9_3 ++ (wX2 G i0 d10 S10 ++ (wX2 G i1 d11 S11)))))))))))) rfl (fun S4_5 H locs eS4_5 hP hD hS => ?_)
    have hg := hg.2 S4_5 eS4_5
    refine lv_aload_n hx hb dX8_knows_47 rfl (lv_at hl 0 rfl) ?_
    refine zcVv (As := []) (rest := []) (C := RX8) Cx (c_X8_settle l G o0 d0 i0 i1 d1 d2 d3 d4 d5 d6 d7 d8 d9 d10 d11 S0 S1 S2 S3 S4_5 S5 S6 S7 S8 S9_3 S10 S11 _ hg) zv_X8_settle q_469 ⟨⟨rfl, rfl⟩, Nat.le_of_ble_eq_true rfl, Nat.le_of_ble_eq_true rfl⟩ (zJ.all hP hD hS hA) hS 6 rfl rfl rfl rfl hl.1 rfl (Nat.le_of_ble_eq_true rfl) dX8_knows_48 (fun u H locs hg hP hD hS => ?_)
    obtain ⟨S5_6, S6_7, S8_8⟩ := u
    have hP : va_P G.1 classes (wX8 G o0 d0 i0 i1 S0 ++ (wX6 G (d0 0) d1 S1 ++ (wX4 G (d0 1) d2 S2 ++ (wX4 G (d0 2) d3 S3 ++ (wX2 G (d0 3) d4 S4_5 ++ (wX0 G (d0 4) d5 S5_6 ++ (wX0 G (d0 5) d6 S6_7 ++ (wX0 G (d0 6) d7 S7 ++ (wX7 G (d0 7) d8 S8_8 ++ (wX1 G (d0 8) d9 S9_3 ++ (wX2 G i0 d10 S10 ++ (wX2 G i1 d11 S11)))))))))))) H := hP
    have hD : va_D A (wX8 G o0 d0 i0 i1 S0 ++ (wX6 G (d0 0) d1 S1 ++ (wX4 G (d0 1) d2 S2 ++ (wX4 G (d0 2) d3 S3 ++ (wX2 G (d0 3) d4 S4_5 ++ (wX0 G (d0 4) d5 S5_6 ++ (wX0 G (d0 5) d6 S6_7 ++ (wX0 G (d0 6) d7 S7 ++ (wX7 G (d0 7) d8 S8_8 ++ (wX1 G (d0 8) d9 S9_3 ++ (wX2 G i0 d10 S10 ++ (wX2 G i1 d11 S11)))))))))))) := hD
    refine lv_aload_n hx hb dX8_knows_51 rfl (lv_at hl 0 rfl) ?_
    refine va_get (D := G.1) (ci := 6) (v := .ref (d0 4)) (C := RX8) (T := TX8) (N := 12) hx hb hT iX8 hown hK hP 0 rfl rfl 4 (by decide) (hT _ q_270) (fun _ h9 => h9) rfl dX8_knows_52 ?_
    refine lv_iconst (v := 1) hx hb dX8_knows_55 (by decide) ?_
    refine lv_aload_n hx hb dX8_knows_56 rfl (lv_at hl 0 rfl) ?_
    refine va_get (D := G.1) (ci := 6) (v := .ref (d0 1)) (C := RX8) (T := TX8) (N := 12) hx hb hT iX8 hown hK hP 0 rfl rfl 1 (by decide) (hT _ q_267) (fun _ h9 => h9) rfl dX8_knows_57 ?_
    refine zcVi (As := [.int 1, .ref (d0 1)]) (rest := []) (C := RX0) Cx (c_X0_namesThatAre l G (d0 4) d5 (d0 1) d2 1 S5_6 S2 _ hg) zv_X0_namesThatAre q_569 ⟨⟨rfl, rfl⟩, Nat.le_of_ble_eq_true rfl, Nat.le_of_ble_eq_true rfl⟩ (zJ.sub (wr := wX8 G o0 d0 i0 i1 S0 ++ (wX6 G (d0 0) d1 S1 ++ (wX4 G (d0 2) d3 S3 ++ (wX2 G (d0 3) d4 S4_5 ++ (wX0 G (d0 5) d6 S6_7 ++ (wX0 G (d0 6) d7 S7 ++ (wX7 G (d0 7) d8 S8_8 ++ (wX1 G (d0 8) d9 S9_3 ++ (wX2 G i0 d10 S10 ++ (wX2 G i1 d11 S11)))))))))) (w2 := (fun u : Unit => wX8 G o0 d0 i0 i1 S0 ++ (wX6 G (d0 0) d1 S1 ++ (wX4 G (d0 1) d2 S2 ++ (wX4 G (d0 2) d3 S3 ++ (wX2 G (d0 3) d4 S4_5 ++ (wX0 G (d0 4) d5 S5_6 ++ (wX0 G (d0 5) d6 S6_7 ++ (wX0 G (d0 6) d7 S7 ++ (wX7 G (d0 7) d8 S8_8 ++ (wX1 G (d0 8) d9 S9_3 ++ (wX2 G i0 d10 S10 ++ (wX2 G i1 d11 S11))))))))))))) hP hD hS hA [43, 44, 45, 46, 47, 5, 6, 7, 8, 9, 10, 11, 12, 13, 14, 15, 16, 17, 18, 19, 20] [0, 1, 2, 3, 4, 21, 22, 23, 24, 25, 26, 27, 28, 29, 30, 31, 32, 33, 34, 35, 36, 37, 38, 39, 40, 41, 42, 48, 49, 50, 51, 52, 53, 54, 55, 56, 57, 58, 59, 60, 61, 62, 63, 64, 65, 66, 67, 68, 69, 70, 71, 72, 73, 74, 75, 76, 77, 78] [0, 1, 2, 3, 4, 63, 64, 65, 66, 67, 68, 69, 70, 71, 72, 73, 74, 75, 76, 77, 78, 5, 6, 7, 8, 9, 10, 11, 12, 13, 14, 15, 16, 17, 18, 19, 20, 21, 22, 23, 24, 25, 26, 58, 59, 60, 61, 62, 27, 28, 29, 30, 31, 32, 33, 34, 35, 36, 37, 38, 39, 40, 41, 42, 43, 44, 45, 46, 47, 48, 49, 50, 51, 52, 53, 54, 55, 56, 57] rfl rfl (by decide) (fun u => rfl)) hS 0 rfl rfl rfl rfl hl.1 rfl (Nat.le_of_ble_eq_true rfl) dX8_knows_60 (fun r_9 _u H locs hg hP hD hS => ?_)
    exact hret _ _ _ (S4_5, S5_6, S6_7, S8_8, S9_3) _ _ hg rfl hP hD hS dX8_knows_63
  · have hg := hg.1 c_2
    refine lv_iconst (v := (-1)) hx hb dX8_knows_12 (by decide) ?_
    exact hret _ _ _ (S4, S5, S6, S8, S9) _ _ hg rfl hP hD hS dX8_knows_13
theorem zv_X8_forgets : zV yX8_forgets RX8 cX8_forgets 2 (some .int) 1 := ⟨q_574, q_575, q_1, q_576, by decide +kernel⟩
set_option maxHeartbeats 4000000 in
set_option maxRecDepth 100000 in
theorem c_X8_forgets (l : Launch) (G : ZG) (o0 : Nat) (d0 : Nat → Nat) (i0 i1 : Nat) (d1 : Nat → Nat) (d2 : Nat → Nat) (d3 : Nat → Nat) (d4 : Nat → Nat) (d5 : Nat → Nat) (d6 : Nat → Nat) (d7 : Nat → Nat) (d8 : Nat → Nat) (d9 : Nat → Nat) (d10 : Nat → Nat) (d11 : Nat → Nat) (x1 : Int32) (S0 : ZS) (S1 : ZS) (S2 : ZS) (S3 : ZS) (S4 : ZS) (S5 : ZS) (S6 : ZS) (S7 : ZS) (S8 : ZS) (S9 : ZS) (S10 : ZS) (S11 : ZS) (Q : Int32 → ZS → ZS → ZS → ZS → ZS → Prop) (hg : g_X8_forgets x1 S0 S1 S2 S3 S4 S5 S6 S7 S8 S9 S10 S11 Q) : Ki l G yX8_forgets cX8_forgets 2 .int rm_X8_forgets [.ref o0, .int x1] (wX8 G o0 d0 i0 i1 S0 ++ (wX6 G (d0 0) d1 S1 ++ (wX4 G (d0 1) d2 S2 ++ (wX4 G (d0 2) d3 S3 ++ (wX2 G (d0 3) d4 S4 ++ (wX0 G (d0 4) d5 S5 ++ (wX0 G (d0 5) d6 S6 ++ (wX0 G (d0 6) d7 S7 ++ (wX7 G (d0 7) d8 S8 ++ (wX1 G (d0 8) d9 S9 ++ (wX2 G i0 d10 S10 ++ (wX2 G i1 d11 S11)))))))))))) (fun u : ZS × ZS × ZS × ZS × ZS => wX8 G o0 d0 i0 i1 S0 ++ (wX6 G (d0 0) d1 S1 ++ (wX4 G (d0 1) d2 S2 ++ (wX4 G (d0 2) d3 S3 ++ (wX2 G (d0 3) d4 (u.1) ++ (wX0 G (d0 4) d5 (u.2.1) ++ (wX0 G (d0 5) d6 (u.2.2.1) ++ (wX0 G (d0 6) d7 S7 ++ (wX7 G (d0 7) d8 (u.2.2.2.1) ++ (wX1 G (d0 8) d9 (u.2.2.2.2) ++ (wX2 G i0 d10 S10 ++ (wX2 G i1 d11 S11)))))))))))) (fun r u => Q r u.1 u.2.1 u.2.2.1 u.2.2.2.1 u.2.2.2.2) := by
  refine Ki.of (by decide) (Nat.le_of_ble_eq_true rfl) ?_
  intro p e s m args below meth c A QQ ls Cx hret hl hP hD hS
  obtain ⟨hx, hb, hml, hown, hT, hK, hA⟩ := id Cx
  have hl : lv_has ls 2 [(0, .ref o0), (1, .int x1)] := hl
  refine lv_aload_n hx hb dX8_forgets_0 rfl (lv_at hl 0 rfl) ?_
  refine va_get (D := G.1) (ci := 6) (v := .ref (d0 1)) (C := RX8) (T := TX8) (N := 12) hx hb hT iX8 hown hK hP 0 rfl rfl 1 (by decide) (hT _ q_267) (fun _ h9 => h9) rfl dX8_forgets_1 ?_
  refine lv_iload_n hx hb dX8_forgets_4 rfl (lv_at hl 1 rfl) ?_
  refine lv_iconst (v := 1) hx hb dX8_forgets_5 (by decide) ?_
  refine zcVi (As := [.int x1, .int 1]) (rest := []) (C := RX4) Cx (c_X4_isMade l G (d0 1) d2 x1 1 S2 _ hg) zv_X4_isMade q_560 ⟨⟨rfl, rfl⟩, Nat.le_of_ble_eq_true rfl, Nat.le_of_ble_eq_true rfl⟩ (zJ.sub (wr := wX8 G o0 d0 i0 i1 S0 ++ (wX6 G (d0 0) d1 S1 ++ (wX4 G (d0 2) d3 S3 ++ (wX2 G (d0 3) d4 S4 ++ (wX0 G (d0 4) d5 S5 ++ (wX0 G (d0 5) d6 S6 ++ (wX0 G (d0 6) d7 S7 ++ (wX7 G (d0 7) d8 S8 ++ (wX1 G (d0 8) d9 S9 ++ (wX2 G i0 d10 S10 ++ (wX2 G i1 d11 S11))))))))))) (w2 := (fun u : Unit => wX8 G o0 d0 i0 i1 S0 ++ (wX6 G (d0 0) d1 S1 ++ (wX4 G (d0 1) d2 S2 ++ (wX4 G (d0 2) d3 S3 ++ (wX2 G (d0 3) d4 S4 ++ (wX0 G (d0 4) d5 S5 ++ (wX0 G (d0 5) d6 S6 ++ (wX0 G (d0 6) d7 S7 ++ (wX7 G (d0 7) d8 S8 ++ (wX1 G (d0 8) d9 S9 ++ (wX2 G i0 d10 S10 ++ (wX2 G i1 d11 S11))))))))))))) hP hD hS hA [5, 6, 7, 8, 9, 10, 11, 12, 13, 14, 15, 16, 17, 18, 19, 20] [0, 1, 2, 3, 4, 21, 22, 23, 24, 25, 26, 27, 28, 29, 30, 31, 32, 33, 34, 35, 36, 37, 38, 39, 40, 41, 42, 43, 44, 45, 46, 47, 48, 49, 50, 51, 52, 53, 54, 55, 56, 57, 58, 59, 60, 61, 62, 63, 64, 65, 66, 67, 68, 69, 70, 71, 72, 73, 74, 75, 76, 77, 78] [0, 1, 2, 3, 4, 63, 64, 65, 66, 67, 68, 69, 70, 71, 72, 73, 74, 75, 76, 77, 78, 5, 6, 7, 8, 9, 10, 11, 12, 13, 14, 15, 16, 17, 18, 19, 20, 21, 22, 23, 24, 25, 26, 27, 28, 29, 30, 31, 32, 33, 34, 35, 36, 37, 38, 39, 40, 41, 42, 43, 44, 45, 46, 47, 48, 49, 50, 51, 52, 53, 54, 55, 56, 57, 58, 59, 60, 61, 62] rfl rfl (by decide) (fun u => rfl)) hS 3 rfl rfl rfl rfl hl.1 rfl (Nat.le_of_ble_eq_true rfl) dX8_forgets_6 (fun r_1 _u H locs hg hP hD hS => ?_)
  refine lv_if_ne (tgt := 14) hx hb dX8_forgets_9 (by decide) (fun c_2 => ?_) (fun c_2 => ?_)
  · have hg := hg.2 c_2
    refine lv_aload_n hx hb dX8_forgets_14 rfl (lv_at hl 0 rfl) ?_
    refine va_get (D := G.1) (ci := 6) (v := .ref (d0 3)) (C := RX8) (T := TX8) (N := 12) hx hb hT iX8 hown hK hP 0 rfl rfl 3 (by decide) (hT _ q_269) (fun _ h9 => h9) rfl dX8_forgets_15 ?_
    refine va_get (D := G.1) (ci := 2) (v := .ref (d4 0)) (C := RX2) (T := TX2) (N := 5) hx hb hT iX2 hown hK hP 37 rfl rfl 0 (by decide) (hT _ q_166) (fun _ h9 => h9) rfl dX8_forgets_18 ?_
    refine lv_iload_n hx hb dX8_forgets_21 rfl (lv_at hl 1 rfl) ?_
    refine va_iald hx hb hK hP 38 0 rfl rfl hg.1 dX8_forgets_22 ?_
    have hg := hg.2
    refine lv_if_ne (tgt := 29) hx hb dX8_forgets_23 (by decide) (fun c_3 => ?_) (fun c_3 => ?_)
    · have hg := hg.2 c_3
      refine lv_aload_n hx hb dX8_forgets_29 rfl (lv_at hl 0 rfl) ?_
      refine va_get (D := G.1) (ci := 6) (v := .ref (d0 8)) (C := RX8) (T := TX8) (N := 12) hx hb hT iX8 hown hK hP 0 rfl rfl 8 (by decide) (hT _ q_274) (fun _ h9 => h9) rfl dX8_forgets_30 ?_
      refine lv_iconst (v := 0) hx hb dX8_forgets_33 (by decide) ?_
      refine lv_iload_n hx hb dX8_forgets_34 rfl (lv_at hl 1 rfl) ?_
      refine lv_aload_n hx hb dX8_forgets_35 rfl (lv_at hl 0 rfl) ?_
      refine va_get (D := G.1) (ci := 6) (v := .ref (d0 3)) (C := RX8) (T := TX8) (N := 12) hx hb hT iX8 hown hK hP 0 rfl rfl 3 (by decide) (hT _ q_269) (fun _ h9 => h9) rfl dX8_forgets_36 ?_
      refine zcVv (As := [.int 0, .int x1, .ref (d0 3)]) (rest := []) (C := RX1) Cx (c_X1_note l G (d0 8) d9 (d0 3) d4 0 x1 S9 S4 _ hg) zv_X1_note q_561 ⟨⟨rfl, rfl⟩, Nat.le_of_ble_eq_true rfl, Nat.le_of_ble_eq_true rfl⟩ (zJ.sub (wr := wX8 G o0 d0 i0 i1 S0 ++ (wX6 G (d0 0) d1 S1 ++ (wX4 G (d0 1) d2 S2 ++ (wX4 G (d0 2) d3 S3 ++ (wX0 G (d0 4) d5 S5 ++ (wX0 G (d0 5) d6 S6 ++ (wX0 G (d0 6) d7 S7 ++ (wX7 G (d0 7) d8 S8 ++ (wX2 G i0 d10 S10 ++ (wX2 G i1 d11 S11)))))))))) (w2 := (fun u : ZS => wX8 G o0 d0 i0 i1 S0 ++ (wX6 G (d0 0) d1 S1 ++ (wX4 G (d0 1) d2 S2 ++ (wX4 G (d0 2) d3 S3 ++ (wX2 G (d0 3) d4 S4 ++ (wX0 G (d0 4) d5 S5 ++ (wX0 G (d0 5) d6 S6 ++ (wX0 G (d0 6) d7 S7 ++ (wX7 G (d0 7) d8 S8 ++ (wX1 G (d0 8) d9 u ++ (wX2 G i0 d10 S10 ++ (wX2 G i1 d11 S11))))))))))))) hP hD hS hA [62, 63, 64, 65, 66, 37, 38, 39, 40, 41, 42] [0, 1, 2, 3, 4, 5, 6, 7, 8, 9, 10, 11, 12, 13, 14, 15, 16, 17, 18, 19, 20, 21, 22, 23, 24, 25, 26, 27, 28, 29, 30, 31, 32, 33, 34, 35, 36, 43, 44, 45, 46, 47, 48, 49, 50, 51, 52, 53, 54, 55, 56, 57, 58, 59, 60, 61, 67, 68, 69, 70, 71, 72, 73, 74, 75, 76, 77, 78] [0, 1, 2, 3, 4, 5, 6, 7, 8, 9, 10, 11, 12, 13, 14, 15, 16, 17, 18, 19, 20, 21, 22, 23, 24, 25, 26, 27, 28, 29, 30, 31, 32, 33, 34, 35, 36, 73, 74, 75, 76, 77, 78, 37, 38, 39, 40, 41, 42, 43, 44, 45, 46, 47, 48, 49, 50, 51, 52, 53, 54, 55, 68, 69, 70, 71, 72, 56, 57, 58, 59, 60, 61, 62, 63, 64, 65, 66, 67] rfl rfl (by decide) (fun u => rfl)) hS 1 rfl rfl rfl rfl hl.1 rfl (Nat.le_of_ble_eq_true rfl) dX8_forgets_39 (fun S9_4 H locs hg hP hD hS => ?_)
      have hP : va_P G.1 classes (wX8 G o0 d0 i0 i1 S0 ++ (wX6 G (d0 0) d1 S1 ++ (wX4 G (d0 1) d2 S2 ++ (wX4 G (d0 2) d3 S3 ++ (wX2 G (d0 3) d4 S4 ++ (wX0 G (d0 4) d5 S5 ++ (wX0 G (d0 5) d6 S6 ++ (wX0 G (d0 6) d7 S7 ++ (wX7 G (d0 7) d8 S8 ++ (wX1 G (d0 8) d9 S9_4 ++ (wX2 G i0 d10 S10 ++ (wX2 G i1 d11 S11)))))))))))) H := hP
      have hD : va_D A (wX8 G o0 d0 i0 i1 S0 ++ (wX6 G (d0 0) d1 S1 ++ (wX4 G (d0 1) d2 S2 ++ (wX4 G (d0 2) d3 S3 ++ (wX2 G (d0 3) d4 S4 ++ (wX0 G (d0 4) d5 S5 ++ (wX0 G (d0 5) d6 S6 ++ (wX0 G (d0 6) d7 S7 ++ (wX7 G (d0 7) d8 S8 ++ (wX1 G (d0 8) d9 S9_4 ++ (wX2 G i0 d10 S10 ++ (wX2 G i1 d11 S11)))))))))))) := hD
      refine lv_aload_n hx hb dX8_forgets_42 rfl (lv_at hl 0 rfl) ?_
      refine va_get (D := G.1) (ci := 6) (v := .ref (d0 3)) (C := RX8) (T := TX8) (N := 12) hx hb hT iX8 hown hK hP 0 rfl rfl 3 (by decide) (hT _ q_269) (fun _ h9 => h9) rfl dX8_forgets_43 ?_
      refine va_get (D := G.1) (ci := 2) (v := .ref (d4 0)) (C := RX2) (T := TX2) (N := 5) hx hb hT iX2 hown hK hP 37 rfl rfl 0 (by decide) (hT _ q_166) (fun _ h9 => h9) rfl dX8_forgets_46 ?_
      refine lv_iload_n hx hb dX8_forgets_49 rfl (lv_at hl 1 rfl) ?_
      refine lv_iconst (v := 0) hx hb dX8_forgets_50 (by decide) ?_
      refine z_iast hx hb hK hP hD hS 38 0 rfl rfl hg.1 dX8_forgets_51 (zst S4 0 x1.toNatClampNeg 0) (fun S : ZS => wX8 G o0 d0 i0 i1 S0 ++ (wX6 G (d0 0) d1 S1 ++ (wX4 G (d0 1) d2 S2 ++ (wX4 G (d0 2) d3 S3 ++ (wX2 G (d0 3) d4 S ++ (wX0 G (d0 4) d5 S5 ++ (wX0 G (d0 5) d6 S6 ++ (wX0 G (d0 6) d7 S7 ++ (wX7 G (d0 7) d8 S8 ++ (wX1 G (d0 8) d9 S9_4 ++ (wX2 G i0 d10 S10 ++ (wX2 G i1 d11 S11)))))))))))) rfl (fun S4_5 H locs eS4_5 hP hD hS => ?_)
      have hg := hg.2 S4_5 eS4_5
      refine lv_aload_n hx hb dX8_forgets_52 rfl (lv_at hl 0 rfl) ?_
      refine zcVv (As := []) (rest := []) (C := RX8) Cx (c_X8_settle l G o0 d0 i0 i1 d1 d2 d3 d4 d5 d6 d7 d8 d9 d10 d11 S0 S1 S2 S3 S4_5 S5 S6 S7 S8 S9_4 S10 S11 _ hg) zv_X8_settle q_469 ⟨⟨rfl, rfl⟩, Nat.le_of_ble_eq_true rfl, Nat.le_of_ble_eq_true rfl⟩ (zJ.all hP hD hS hA) hS 6 rfl rfl rfl rfl hl.1 rfl (Nat.le_of_ble_eq_true rfl) dX8_forgets_53 (fun u H locs hg hP hD hS => ?_)
      obtain ⟨S5_6, S6_7, S8_8⟩ := u
      have hP : va_P G.1 classes (wX8 G o0 d0 i0 i1 S0 ++ (wX6 G (d0 0) d1 S1 ++ (wX4 G (d0 1) d2 S2 ++ (wX4 G (d0 2) d3 S3 ++ (wX2 G (d0 3) d4 S4_5 ++ (wX0 G (d0 4) d5 S5_6 ++ (wX0 G (d0 5) d6 S6_7 ++ (wX0 G (d0 6) d7 S7 ++ (wX7 G (d0 7) d8 S8_8 ++ (wX1 G (d0 8) d9 S9_4 ++ (wX2 G i0 d10 S10 ++ (wX2 G i1 d11 S11)))))))))))) H := hP
      have hD : va_D A (wX8 G o0 d0 i0 i1 S0 ++ (wX6 G (d0 0) d1 S1 ++ (wX4 G (d0 1) d2 S2 ++ (wX4 G (d0 2) d3 S3 ++ (wX2 G (d0 3) d4 S4_5 ++ (wX0 G (d0 4) d5 S5_6 ++ (wX0 G (d0 5) d6 S6_7 ++ (wX0 G (d0 6) d7 S7 ++ (wX7 G (d0 7) d8 S8_8 ++ (wX1 G (d0 8) d9 S9_4 ++ (wX2 G i0 d10 S10 ++ (wX2 G i1 d11 S11)))))))))))) := hD
      refine lv_aload_n hx hb dX8_forgets_56 rfl (lv_at hl 0 rfl) ?_
      refine va_get (D := G.1) (ci := 6) (v := .ref (d0 4)) (C := RX8) (T := TX8) (N := 12) hx hb hT iX8 hown hK hP 0 rfl rfl 4 (by decide) (hT _ q_270) (fun _ h9 => h9) rfl dX8_forgets_57 ?_
      refine lv_iconst (v := 1) hx hb dX8_forgets_60 (by decide) ?_
      refine lv_aload_n hx hb dX8_forgets_61 rfl (lv_at hl 0 rfl) ?_
      refine va_get (D := G.1) (ci := 6) (v := .ref (d0 1)) (C := RX8) (T := TX8) (N := 12) hx hb hT iX8 hown hK hP 0 rfl rfl 1 (by decide) (hT _ q_267) (fun _ h9 => h9) rfl dX8_forgets_62 ?_
      refine zcVi (As := [.int 1, .ref (d0 1)]) (rest := []) (C := RX0) Cx (c_X0_namesThatAre l G (d0 4) d5 (d0 1) d2 1 S5_6 S2 _ hg) zv_X0_namesThatAre q_569 ⟨⟨rfl, rfl⟩, Nat.le_of_ble_eq_true rfl, Nat.le_of_ble_eq_true rfl⟩ (zJ.sub (wr := wX8 G o0 d0 i0 i1 S0 ++ (wX6 G (d0 0) d1 S1 ++ (wX4 G (d0 2) d3 S3 ++ (wX2 G (d0 3) d4 S4_5 ++ (wX0 G (d0 5) d6 S6_7 ++ (wX0 G (d0 6) d7 S7 ++ (wX7 G (d0 7) d8 S8_8 ++ (wX1 G (d0 8) d9 S9_4 ++ (wX2 G i0 d10 S10 ++ (wX2 G i1 d11 S11)))))))))) (w2 := (fun u : Unit => wX8 G o0 d0 i0 i1 S0 ++ (wX6 G (d0 0) d1 S1 ++ (wX4 G (d0 1) d2 S2 ++ (wX4 G (d0 2) d3 S3 ++ (wX2 G (d0 3) d4 S4_5 ++ (wX0 G (d0 4) d5 S5_6 ++ (wX0 G (d0 5) d6 S6_7 ++ (wX0 G (d0 6) d7 S7 ++ (wX7 G (d0 7) d8 S8_8 ++ (wX1 G (d0 8) d9 S9_4 ++ (wX2 G i0 d10 S10 ++ (wX2 G i1 d11 S11))))))))))))) hP hD hS hA [43, 44, 45, 46, 47, 5, 6, 7, 8, 9, 10, 11, 12, 13, 14, 15, 16, 17, 18, 19, 20] [0, 1, 2, 3, 4, 21, 22, 23, 24, 25, 26, 27, 28, 29, 30, 31, 32, 33, 34, 35, 36, 37, 38, 39, 40, 41, 42, 48, 49, 50, 51, 52, 53, 54, 55, 56, 57, 58, 59, 60, 61, 62, 63, 64, 65, 66, 67, 68, 69, 70, 71, 72, 73, 74, 75, 76, 77, 78] [0, 1, 2, 3, 4, 63, 64, 65, 66, 67, 68, 69, 70, 71, 72, 73, 74, 75, 76, 77, 78, 5, 6, 7, 8, 9, 10, 11, 12, 13, 14, 15, 16, 17, 18, 19, 20, 21, 22, 23, 24, 25, 26, 58, 59, 60, 61, 62, 27, 28, 29, 30, 31, 32, 33, 34, 35, 36, 37, 38, 39, 40, 41, 42, 43, 44, 45, 46, 47, 48, 49, 50, 51, 52, 53, 54, 55, 56, 57] rfl rfl (by decide) (fun u => rfl)) hS 0 rfl rfl rfl rfl hl.1 rfl (Nat.le_of_ble_eq_true rfl) dX8_forgets_65 (fun r_9 _u H locs hg hP hD hS => ?_)
      exact hret _ _ _ (S4_5, S5_6, S6_7, S8_8, S9_4) _ _ hg rfl hP hD hS dX8_forgets_68
    · have hg := hg.1 c_3
      refine lv_bipush (v := (-2)) hx hb dX8_forgets_26 (by decide) ?_
      exact hret _ _ _ (S4, S5, S6, S8, S9) _ _ hg rfl hP hD hS dX8_forgets_28
  · have hg := hg.1 c_2
    refine lv_iconst (v := (-1)) hx hb dX8_forgets_12 (by decide) ?_
    exact hret _ _ _ (S4, S5, S6, S8, S9) _ _ hg rfl hP hD hS dX8_forgets_13
theorem zv_X8_gives : zV yX8_gives RX8 cX8_gives 3 (some .int) 2 := ⟨q_578, q_579, q_1, q_580, by decide +kernel⟩
set_option maxHeartbeats 4000000 in
set_option maxRecDepth 100000 in
theorem c_X8_gives (l : Launch) (G : ZG) (o0 : Nat) (d0 : Nat → Nat) (i0 i1 : Nat) (d1 : Nat → Nat) (d2 : Nat → Nat) (d3 : Nat → Nat) (d4 : Nat → Nat) (d5 : Nat → Nat) (d6 : Nat → Nat) (d7 : Nat → Nat) (d8 : Nat → Nat) (d9 : Nat → Nat) (d10 : Nat → Nat) (d11 : Nat → Nat) (x1 : Int32) (x2 : Int32) (S0 : ZS) (S1 : ZS) (S2 : ZS) (S3 : ZS) (S4 : ZS) (S5 : ZS) (S6 : ZS) (S7 : ZS) (S8 : ZS) (S9 : ZS) (S10 : ZS) (S11 : ZS) (Q : Int32 → ZS → ZS → ZS → ZS → ZS → ZS → Prop) (hg : g_X8_gives x1 x2 S0 S1 S2 S3 S4 S5 S6 S7 S8 S9 S10 S11 Q) : Ki l G yX8_gives cX8_gives 3 .int rm_X8_gives [.ref o0, .int x1, .int x2] (wX8 G o0 d0 i0 i1 S0 ++ (wX6 G (d0 0) d1 S1 ++ (wX4 G (d0 1) d2 S2 ++ (wX4 G (d0 2) d3 S3 ++ (wX2 G (d0 3) d4 S4 ++ (wX0 G (d0 4) d5 S5 ++ (wX0 G (d0 5) d6 S6 ++ (wX0 G (d0 6) d7 S7 ++ (wX7 G (d0 7) d8 S8 ++ (wX1 G (d0 8) d9 S9 ++ (wX2 G i0 d10 S10 ++ (wX2 G i1 d11 S11)))))))))))) (fun u : ZS × ZS × ZS × ZS × ZS × ZS => wX8 G o0 d0 i0 i1 (u.1) ++ (wX6 G (d0 0) d1 S1 ++ (wX4 G (d0 1) d2 S2 ++ (wX4 G (d0 2) d3 S3 ++ (wX2 G (d0 3) d4 (u.2.1) ++ (wX0 G (d0 4) d5 (u.2.2.1) ++ (wX0 G (d0 5) d6 (u.2.2.2.1) ++ (wX0 G (d0 6) d7 S7 ++ (wX7 G (d0 7) d8 (u.2.2.2.2.1) ++ (wX1 G (d0 8) d9 (u.2.2.2.2.2) ++ (wX2 G i0 d10 S10 ++ (wX2 G i1 d11 S11)))))))))))) (fun r u => Q r u.1 u.2.1 u.2.2.1 u.2.2.2.1 u.2.2.2.2.1 u.2.2.2.2.2) := by
  refine Ki.of (by decide) (Nat.le_of_ble_eq_true rfl) ?_
  intro p e s m args below meth c A QQ ls Cx hret hl hP hD hS
  obtain ⟨hx, hb, hml, hown, hT, hK, hA⟩ := id Cx
  have hl : lv_has ls 3 [(0, .ref o0), (1, .int x1), (2, .int x2)] := hl
  refine lv_aload_n hx hb dX8_gives_0 rfl (lv_at hl 0 rfl) ?_
  refine va_get (D := G.1) (ci := 6) (v := .ref (d0 1)) (C := RX8) (T := TX8) (N := 12) hx hb hT iX8 hown hK hP 0 rfl rfl 1 (by decide) (hT _ q_267) (fun _ h9 => h9) rfl dX8_gives_1 ?_
  refine lv_iload_n hx hb dX8_gives_4 rfl (lv_at hl 1 rfl) ?_
  refine lv_iconst (v := 1) hx hb dX8_gives_5 (by decide) ?_
  refine zcVi (As := [.int x1, .int 1]) (rest := []) (C := RX4) Cx (c_X4_isMade l G (d0 1) d2 x1 1 S2 _ hg) zv_X4_isMade q_560 ⟨⟨rfl, rfl⟩, Nat.le_of_ble_eq_true rfl, Nat.le_of_ble_eq_true rfl⟩ (zJ.sub (wr := wX8 G o0 d0 i0 i1 S0 ++ (wX6 G (d0 0) d1 S1 ++ (wX4 G (d0 2) d3 S3 ++ (wX2 G (d0 3) d4 S4 ++ (wX0 G (d0 4) d5 S5 ++ (wX0 G (d0 5) d6 S6 ++ (wX0 G (d0 6) d7 S7 ++ (wX7 G (d0 7) d8 S8 ++ (wX1 G (d0 8) d9 S9 ++ (wX2 G i0 d10 S10 ++ (wX2 G i1 d11 S11))))))))))) (w2 := (fun u : Unit => wX8 G o0 d0 i0 i1 S0 ++ (wX6 G (d0 0) d1 S1 ++ (wX4 G (d0 1) d2 S2 ++ (wX4 G (d0 2) d3 S3 ++ (wX2 G (d0 3) d4 S4 ++ (wX0 G (d0 4) d5 S5 ++ (wX0 G (d0 5) d6 S6 ++ (wX0 G (d0 6) d7 S7 ++ (wX7 G (d0 7) d8 S8 ++ (wX1 G (d0 8) d9 S9 ++ (wX2 G i0 d10 S10 ++ (wX2 G i1 d11 S11))))))))))))) hP hD hS hA [5, 6, 7, 8, 9, 10, 11, 12, 13, 14, 15, 16, 17, 18, 19, 20] [0, 1, 2, 3, 4, 21, 22, 23, 24, 25, 26, 27, 28, 29, 30, 31, 32, 33, 34, 35, 36, 37, 38, 39, 40, 41, 42, 43, 44, 45, 46, 47, 48, 49, 50, 51, 52, 53, 54, 55, 56, 57, 58, 59, 60, 61, 62, 63, 64, 65, 66, 67, 68, 69, 70, 71, 72, 73, 74, 75, 76, 77, 78] [0, 1, 2, 3, 4, 63, 64, 65, 66, 67, 68, 69, 70, 71, 72, 73, 74, 75, 76, 77, 78, 5, 6, 7, 8, 9, 10, 11, 12, 13, 14, 15, 16, 17, 18, 19, 20, 21, 22, 23, 24, 25, 26, 27, 28, 29, 30, 31, 32, 33, 34, 35, 36, 37, 38, 39, 40, 41, 42, 43, 44, 45, 46, 47, 48, 49, 50, 51, 52, 53, 54, 55, 56, 57, 58, 59, 60, 61, 62] rfl rfl (by decide) (fun u => rfl)) hS 3 rfl rfl rfl rfl hl.1 rfl (Nat.le_of_ble_eq_true rfl) dX8_gives_6 (fun r_1 _u H locs hg hP hD hS => ?_)
  refine lv_if_ne (tgt := 14) hx hb dX8_gives_9 (by decide) (fun c_2 => ?_) (fun c_2 => ?_)
  · have hg := hg.2 c_2
    refine lv_aload_n hx hb dX8_gives_14 rfl (lv_at hl 0 rfl) ?_
    refine va_get (D := G.1) (ci := 6) (v := .ref (d0 8)) (C := RX8) (T := TX8) (N := 12) hx hb hT iX8 hown hK hP 0 rfl rfl 8 (by decide) (hT _ q_274) (fun _ h9 => h9) rfl dX8_gives_15 ?_
    refine lv_iconst (v := 1) hx hb dX8_gives_18 (by decide) ?_
    refine lv_iload_n hx hb dX8_gives_19 rfl (lv_at hl 1 rfl) ?_
    refine lv_aload_n hx hb dX8_gives_20 rfl (lv_at hl 0 rfl) ?_
    refine va_get (D := G.1) (ci := 6) (v := .ref (d0 3)) (C := RX8) (T := TX8) (N := 12) hx hb hT iX8 hown hK hP 0 rfl rfl 3 (by decide) (hT _ q_269) (fun _ h9 => h9) rfl dX8_gives_21 ?_
    refine zcVv (As := [.int 1, .int x1, .ref (d0 3)]) (rest := []) (C := RX1) Cx (c_X1_note l G (d0 8) d9 (d0 3) d4 1 x1 S9 S4 _ hg) zv_X1_note q_561 ⟨⟨rfl, rfl⟩, Nat.le_of_ble_eq_true rfl, Nat.le_of_ble_eq_true rfl⟩ (zJ.sub (wr := wX8 G o0 d0 i0 i1 S0 ++ (wX6 G (d0 0) d1 S1 ++ (wX4 G (d0 1) d2 S2 ++ (wX4 G (d0 2) d3 S3 ++ (wX0 G (d0 4) d5 S5 ++ (wX0 G (d0 5) d6 S6 ++ (wX0 G (d0 6) d7 S7 ++ (wX7 G (d0 7) d8 S8 ++ (wX2 G i0 d10 S10 ++ (wX2 G i1 d11 S11)))))))))) (w2 := (fun u : ZS => wX8 G o0 d0 i0 i1 S0 ++ (wX6 G (d0 0) d1 S1 ++ (wX4 G (d0 1) d2 S2 ++ (wX4 G (d0 2) d3 S3 ++ (wX2 G (d0 3) d4 S4 ++ (wX0 G (d0 4) d5 S5 ++ (wX0 G (d0 5) d6 S6 ++ (wX0 G (d0 6) d7 S7 ++ (wX7 G (d0 7) d8 S8 ++ (wX1 G (d0 8) d9 u ++ (wX2 G i0 d10 S10 ++ (wX2 G i1 d11 S11))))))))))))) hP hD hS hA [62, 63, 64, 65, 66, 37, 38, 39, 40, 41, 42] [0, 1, 2, 3, 4, 5, 6, 7, 8, 9, 10, 11, 12, 13, 14, 15, 16, 17, 18, 19, 20, 21, 22, 23, 24, 25, 26, 27, 28, 29, 30, 31, 32, 33, 34, 35, 36, 43, 44, 45, 46, 47, 48, 49, 50, 51, 52, 53, 54, 55, 56, 57, 58, 59, 60, 61, 67, 68, 69, 70, 71, 72, 73, 74, 75, 76, 77, 78] [0, 1, 2, 3, 4, 5, 6, 7, 8, 9, 10, 11, 12, 13, 14, 15, 16, 17, 18, 19, 20, 21, 22, 23, 24, 25, 26, 27, 28, 29, 30, 31, 32, 33, 34, 35, 36, 73, 74, 75, 76, 77, 78, 37, 38, 39, 40, 41, 42, 43, 44, 45, 46, 47, 48, 49, 50, 51, 52, 53, 54, 55, 68, 69, 70, 71, 72, 56, 57, 58, 59, 60, 61, 62, 63, 64, 65, 66, 67] rfl rfl (by decide) (fun u => rfl)) hS 1 rfl rfl rfl rfl hl.1 rfl (Nat.le_of_ble_eq_true rfl) dX8_gives_24 (fun S9_3 H locs hg hP hD hS => ?_)
    have hP : va_P G.1 classes (wX8 G o0 d0 i0 i1 S0 ++ (wX6 G (d0 0) d1 S1 ++ (wX4 G (d0 1) d2 S2 ++ (wX4 G (d0 2) d3 S3 ++ (wX2 G (d0 3) d4 S4 ++ (wX0 G (d0 4) d5 S5 ++ (wX0 G (d0 5) d6 S6 ++ (wX0 G (d0 6) d7 S7 ++ (wX7 G (d0 7) d8 S8 ++ (wX1 G (d0 8) d9 S9_3 ++ (wX2 G i0 d10 S10 ++ (wX2 G i1 d11 S11)))))))))))) H := hP
    have hD : va_D A (wX8 G o0 d0 i0 i1 S0 ++ (wX6 G (d0 0) d1 S1 ++ (wX4 G (d0 1) d2 S2 ++ (wX4 G (d0 2) d3 S3 ++ (wX2 G (d0 3) d4 S4 ++ (wX0 G (d0 4) d5 S5 ++ (wX0 G (d0 5) d6 S6 ++ (wX0 G (d0 6) d7 S7 ++ (wX7 G (d0 7) d8 S8 ++ (wX1 G (d0 8) d9 S9_3 ++ (wX2 G i0 d10 S10 ++ (wX2 G i1 d11 S11)))))))))))) := hD
    refine lv_aload_n hx hb dX8_gives_27 rfl (lv_at hl 0 rfl) ?_
    refine lv_aload_n hx hb dX8_gives_28 rfl (lv_at hl 0 rfl) ?_
    refine va_get (D := G.1) (ci := 6) (v := .ref (d0 3)) (C := RX8) (T := TX8) (N := 12) hx hb hT iX8 hown hK hP 0 rfl rfl 3 (by decide) (hT _ q_269) (fun _ h9 => h9) rfl dX8_gives_29 ?_
    refine va_get (D := G.1) (ci := 2) (v := .ref (d4 2)) (C := RX2) (T := TX2) (N := 5) hx hb hT iX2 hown hK hP 37 rfl rfl 2 (by decide) (hT _ q_172) (fun _ h9 => h9) rfl dX8_gives_32 ?_
    refine lv_iload_n hx hb dX8_gives_35 rfl (lv_at hl 1 rfl) ?_
    refine va_iald hx hb hK hP 40 0 rfl rfl hg.1 dX8_gives_36 ?_
    have hg := hg.2
    refine z_put (D := G.1) (ci := 6) (v := .int (S4 2 x1.toNatClampNeg)) (ty := .int) (C := RX8) (T := TX8) (N := 12) hx hb hT iX8 tyX8 tyX8_ok nmX8 hown hK hP hD hS 0 rfl rfl 11 (by decide) (hT _ q_277) (fun _ h9 => h9) rfl (by decide +kernel) rfl rfl (Nat.le_of_ble_eq_true rfl) dX8_gives_37 (zst S0 11 0 (S4 2 x1.toNatClampNeg)) (fun S : ZS => wX8 G o0 d0 i0 i1 S ++ (wX6 G (d0 0) d1 S1 ++ (wX4 G (d0 1) d2 S2 ++ (wX4 G (d0 2) d3 S3 ++ (wX2 G (d0 3) d4 S4 ++ (wX0 G (d0 4) d5 S5 ++ (wX0 G (d0 5) d6 S6 ++ (wX0 G (d0 6) d7 S7 ++ (wX7 G (d0 7) d8 S8 ++ (wX1 G (d0 8) d9 S9_3 ++ (wX2 G i0 d10 S10 ++ (wX2 G i1 d11 S11)))))))))))) rfl (fun S0_4 H locs eS0_4 hP hD hS => ?_)
    have hg := hg S0_4 eS0_4
    refine lv_aload_n hx hb dX8_gives_40 rfl (lv_at hl 0 rfl) ?_
    refine va_get (D := G.1) (ci := 6) (v := .ref (d0 3)) (C := RX8) (T := TX8) (N := 12) hx hb hT iX8 hown hK hP 0 rfl rfl 3 (by decide) (hT _ q_269) (fun _ h9 => h9) rfl dX8_gives_41 ?_
    refine va_get (D := G.1) (ci := 2) (v := .ref (d4 2)) (C := RX2) (T := TX2) (N := 5) hx hb hT iX2 hown hK hP 37 rfl rfl 2 (by decide) (hT _ q_172) (fun _ h9 => h9) rfl dX8_gives_44 ?_
    refine lv_iload_n hx hb dX8_gives_47 rfl (lv_at hl 1 rfl) ?_
    refine lv_iload_n hx hb dX8_gives_48 rfl (lv_at hl 2 rfl) ?_
    refine z_iast hx hb hK hP hD hS 40 0 rfl rfl hg.1 dX8_gives_49 (zst S4 2 x1.toNatClampNeg x2) (fun S : ZS => wX8 G o0 d0 i0 i1 S0_4 ++ (wX6 G (d0 0) d1 S1 ++ (wX4 G (d0 1) d2 S2 ++ (wX4 G (d0 2) d3 S3 ++ (wX2 G (d0 3) d4 S ++ (wX0 G (d0 4) d5 S5 ++ (wX0 G (d0 5) d6 S6 ++ (wX0 G (d0 6) d7 S7 ++ (wX7 G (d0 7) d8 S8 ++ (wX1 G (d0 8) d9 S9_3 ++ (wX2 G i0 d10 S10 ++ (wX2 G i1 d11 S11)))))))))))) rfl (fun S4_5 H locs eS4_5 hP hD hS => ?_)
    have hg := hg.2 S4_5 eS4_5
    refine lv_aload_n hx hb dX8_gives_50 rfl (lv_at hl 0 rfl) ?_
    refine zcVv (As := []) (rest := []) (C := RX8) Cx (c_X8_settle l G o0 d0 i0 i1 d1 d2 d3 d4 d5 d6 d7 d8 d9 d10 d11 S0_4 S1 S2 S3 S4_5 S5 S6 S7 S8 S9_3 S10 S11 _ hg) zv_X8_settle q_469 ⟨⟨rfl, rfl⟩, Nat.le_of_ble_eq_true rfl, Nat.le_of_ble_eq_true rfl⟩ (zJ.all hP hD hS hA) hS 6 rfl rfl rfl rfl hl.1 rfl (Nat.le_of_ble_eq_true rfl) dX8_gives_51 (fun u H locs hg hP hD hS => ?_)
    obtain ⟨S5_6, S6_7, S8_8⟩ := u
    have hP : va_P G.1 classes (wX8 G o0 d0 i0 i1 S0_4 ++ (wX6 G (d0 0) d1 S1 ++ (wX4 G (d0 1) d2 S2 ++ (wX4 G (d0 2) d3 S3 ++ (wX2 G (d0 3) d4 S4_5 ++ (wX0 G (d0 4) d5 S5_6 ++ (wX0 G (d0 5) d6 S6_7 ++ (wX0 G (d0 6) d7 S7 ++ (wX7 G (d0 7) d8 S8_8 ++ (wX1 G (d0 8) d9 S9_3 ++ (wX2 G i0 d10 S10 ++ (wX2 G i1 d11 S11)))))))))))) H := hP
    have hD : va_D A (wX8 G o0 d0 i0 i1 S0_4 ++ (wX6 G (d0 0) d1 S1 ++ (wX4 G (d0 1) d2 S2 ++ (wX4 G (d0 2) d3 S3 ++ (wX2 G (d0 3) d4 S4_5 ++ (wX0 G (d0 4) d5 S5_6 ++ (wX0 G (d0 5) d6 S6_7 ++ (wX0 G (d0 6) d7 S7 ++ (wX7 G (d0 7) d8 S8_8 ++ (wX1 G (d0 8) d9 S9_3 ++ (wX2 G i0 d10 S10 ++ (wX2 G i1 d11 S11)))))))))))) := hD
    refine lv_iconst (v := 1) hx hb dX8_gives_54 (by decide) ?_
    exact hret _ _ _ (S0_4, S4_5, S5_6, S6_7, S8_8, S9_3) _ _ hg rfl hP hD hS dX8_gives_55
  · have hg := hg.1 c_2
    refine lv_iconst (v := (-1)) hx hb dX8_gives_12 (by decide) ?_
    exact hret _ _ _ (S0, S4, S5, S6, S8, S9) _ _ hg rfl hP hD hS dX8_gives_13
theorem zv_X8_patches : zV yX8_patches RX8 cX8_patches 4 (some .int) 2 := ⟨q_582, q_583, q_1, q_584, by decide +kernel⟩
set_option maxHeartbeats 4000000 in
set_option maxRecDepth 100000 in
theorem c_X8_patches (l : Launch) (G : ZG) (o0 : Nat) (d0 : Nat → Nat) (i0 i1 : Nat) (d1 : Nat → Nat) (d2 : Nat → Nat) (d3 : Nat → Nat) (d4 : Nat → Nat) (d5 : Nat → Nat) (d6 : Nat → Nat) (d7 : Nat → Nat) (d8 : Nat → Nat) (d9 : Nat → Nat) (d10 : Nat → Nat) (d11 : Nat → Nat) (x1 : Int32) (x2 : Int32) (S0 : ZS) (S1 : ZS) (S2 : ZS) (S3 : ZS) (S4 : ZS) (S5 : ZS) (S6 : ZS) (S7 : ZS) (S8 : ZS) (S9 : ZS) (S10 : ZS) (S11 : ZS) (Q : Int32 → ZS → ZS → ZS → ZS → ZS → Prop) (hg : g_X8_patches x1 x2 S0 S1 S2 S3 S4 S5 S6 S7 S8 S9 S10 S11 Q) : Ki l G yX8_patches cX8_patches 4 .int rm_X8_patches [.ref o0, .int x1, .int x2] (wX8 G o0 d0 i0 i1 S0 ++ (wX6 G (d0 0) d1 S1 ++ (wX4 G (d0 1) d2 S2 ++ (wX4 G (d0 2) d3 S3 ++ (wX2 G (d0 3) d4 S4 ++ (wX0 G (d0 4) d5 S5 ++ (wX0 G (d0 5) d6 S6 ++ (wX0 G (d0 6) d7 S7 ++ (wX7 G (d0 7) d8 S8 ++ (wX1 G (d0 8) d9 S9 ++ (wX2 G i0 d10 S10 ++ (wX2 G i1 d11 S11)))))))))))) (fun u : ZS × ZS × ZS × ZS × ZS => wX8 G o0 d0 i0 i1 S0 ++ (wX6 G (d0 0) d1 S1 ++ (wX4 G (d0 1) d2 S2 ++ (wX4 G (d0 2) d3 S3 ++ (wX2 G (d0 3) d4 (u.1) ++ (wX0 G (d0 4) d5 (u.2.1) ++ (wX0 G (d0 5) d6 (u.2.2.1) ++ (wX0 G (d0 6) d7 S7 ++ (wX7 G (d0 7) d8 (u.2.2.2.1) ++ (wX1 G (d0 8) d9 (u.2.2.2.2) ++ (wX2 G i0 d10 S10 ++ (wX2 G i1 d11 S11)))))))))))) (fun r u => Q r u.1 u.2.1 u.2.2.1 u.2.2.2.1 u.2.2.2.2) := by
  refine Ki.of (by decide) (Nat.le_of_ble_eq_true rfl) ?_
  intro p e s m args below meth c A QQ ls Cx hret hl hP hD hS
  obtain ⟨hx, hb, hml, hown, hT, hK, hA⟩ := id Cx
  have hl : lv_has ls 4 [(0, .ref o0), (1, .int x1), (2, .int x2)] := hl
  refine lv_aload_n hx hb dX8_patches_0 rfl (lv_at hl 0 rfl) ?_
  refine va_get (D := G.1) (ci := 6) (v := .ref (d0 1)) (C := RX8) (T := TX8) (N := 12) hx hb hT iX8 hown hK hP 0 rfl rfl 1 (by decide) (hT _ q_267) (fun _ h9 => h9) rfl dX8_patches_1 ?_
  refine lv_iload_n hx hb dX8_patches_4 rfl (lv_at hl 1 rfl) ?_
  refine lv_iconst (v := 0) hx hb dX8_patches_5 (by decide) ?_
  refine zcVi (As := [.int x1, .int 0]) (rest := []) (C := RX4) Cx (c_X4_isMade l G (d0 1) d2 x1 0 S2 _ hg) zv_X4_isMade q_560 ⟨⟨rfl, rfl⟩, Nat.le_of_ble_eq_true rfl, Nat.le_of_ble_eq_true rfl⟩ (zJ.sub (wr := wX8 G o0 d0 i0 i1 S0 ++ (wX6 G (d0 0) d1 S1 ++ (wX4 G (d0 2) d3 S3 ++ (wX2 G (d0 3) d4 S4 ++ (wX0 G (d0 4) d5 S5 ++ (wX0 G (d0 5) d6 S6 ++ (wX0 G (d0 6) d7 S7 ++ (wX7 G (d0 7) d8 S8 ++ (wX1 G (d0 8) d9 S9 ++ (wX2 G i0 d10 S10 ++ (wX2 G i1 d11 S11))))))))))) (w2 := (fun u : Unit => wX8 G o0 d0 i0 i1 S0 ++ (wX6 G (d0 0) d1 S1 ++ (wX4 G (d0 1) d2 S2 ++ (wX4 G (d0 2) d3 S3 ++ (wX2 G (d0 3) d4 S4 ++ (wX0 G (d0 4) d5 S5 ++ (wX0 G (d0 5) d6 S6 ++ (wX0 G (d0 6) d7 S7 ++ (wX7 G (d0 7) d8 S8 ++ (wX1 G (d0 8) d9 S9 ++ (wX2 G i0 d10 S10 ++ (wX2 G i1 d11 S11))))))))))))) hP hD hS hA [5, 6, 7, 8, 9, 10, 11, 12, 13, 14, 15, 16, 17, 18, 19, 20] [0, 1, 2, 3, 4, 21, 22, 23, 24, 25, 26, 27, 28, 29, 30, 31, 32, 33, 34, 35, 36, 37, 38, 39, 40, 41, 42, 43, 44, 45, 46, 47, 48, 49, 50, 51, 52, 53, 54, 55, 56, 57, 58, 59, 60, 61, 62, 63, 64, 65, 66, 67, 68, 69, 70, 71, 72, 73, 74, 75, 76, 77, 78] [0, 1, 2, 3, 4, 63, 64, 65, 66, 67, 68, 69, 70, 71, 72, 73, 74, 75, 76, 77, 78, 5, 6, 7, 8, 9, 10, 11, 12, 13, 14, 15, 16, 17, 18, 19, 20, 21, 22, 23, 24, 25, 26, 27, 28, 29, 30, 31, 32, 33, 34, 35, 36, 37, 38, 39, 40, 41, 42, 43, 44, 45, 46, 47, 48, 49, 50, 51, 52, 53, 54, 55, 56, 57, 58, 59, 60, 61, 62] rfl rfl (by decide) (fun u => rfl)) hS 3 rfl rfl rfl rfl hl.1 rfl (Nat.le_of_ble_eq_true rfl) dX8_patches_6 (fun r_1 _u H locs hg hP hD hS => ?_)
  refine lv_if_eq (tgt := 23) hx hb dX8_patches_9 (by decide) (fun c_2 => ?_) (fun c_2 => ?_)
  · have hg := hg.1 c_2
    refine lv_iconst (v := (-1)) hx hb dX8_patches_23 (by decide) ?_
    exact hret _ _ _ (S4, S5, S6, S8, S9) _ _ hg rfl hP hD hS dX8_patches_24
  · have hg := hg.2 c_2
    refine lv_iload_n hx hb dX8_patches_12 rfl (lv_at hl 2 rfl) ?_
    refine lv_if_lt (tgt := 23) hx hb dX8_patches_13 (by decide) (fun c_3 => ?_) (fun c_3 => ?_)
    · have hg := hg.1 c_3
      refine lv_iconst (v := (-1)) hx hb dX8_patches_23 (by decide) ?_
      exact hret _ _ _ (S4, S5, S6, S8, S9) _ _ hg rfl hP hD hS dX8_patches_24
    · have hg := hg.2 c_3
      refine lv_iload_n hx hb dX8_patches_16 rfl (lv_at hl 2 rfl) ?_
      refine lv_sipush (v := 999) hx hb dX8_patches_17 (by decide) ?_
      refine lv_icmp_le (tgt := 25) hx hb dX8_patches_20 (by decide) (fun c_4 => ?_) (fun c_4 => ?_)
      · have hg := hg.1 c_4
        refine lv_aload_n hx hb dX8_patches_25 rfl (lv_at hl 0 rfl) ?_
        refine va_get (D := G.1) (ci := 6) (v := .ref (d0 3)) (C := RX8) (T := TX8) (N := 12) hx hb hT iX8 hown hK hP 0 rfl rfl 3 (by decide) (hT _ q_269) (fun _ h9 => h9) rfl dX8_patches_26 ?_
        refine va_get (D := G.1) (ci := 2) (v := .ref (d4 3)) (C := RX2) (T := TX2) (N := 5) hx hb hT iX2 hown hK hP 37 rfl rfl 3 (by decide) (hT _ q_177) (fun _ h9 => h9) rfl dX8_patches_29 ?_
        refine lv_iload_n hx hb dX8_patches_32 rfl (lv_at hl 1 rfl) ?_
        refine va_iald hx hb hK hP 41 0 rfl rfl hg.1 dX8_patches_33 ?_
        have hg := hg.2
        refine lv_topi (fun x3_5 ex3_5 => ?_)
        have hg := hg x3_5 ex3_5
        refine lv_istore_n (lv' := [(3, .int x3_5), (0, .ref o0), (1, .int x1), (2, .int x2)]) hx hb dX8_patches_34 rfl hl (by decide) rfl (fun ls hl => ?_)
        refine lv_iload_n hx hb dX8_patches_35 rfl (lv_at hl 0 rfl) ?_
        refine lv_iload_n hx hb dX8_patches_36 rfl (lv_at hl 3 rfl) ?_
        refine lv_icmp_ne (tgt := 43) hx hb dX8_patches_37 (by decide) (fun c_6 => ?_) (fun c_6 => ?_)
        · have hg := hg.2 c_6
          refine lv_aload_n hx hb dX8_patches_43 rfl (lv_at hl 1 rfl) ?_
          refine va_get (D := G.1) (ci := 6) (v := .ref (d0 8)) (C := RX8) (T := TX8) (N := 12) hx hb hT iX8 hown hK hP 0 rfl rfl 8 (by decide) (hT _ q_274) (fun _ h9 => h9) rfl dX8_patches_44 ?_
          refine lv_iconst (v := 2) hx hb dX8_patches_47 (by decide) ?_
          refine lv_iload_n hx hb dX8_patches_48 rfl (lv_at hl 2 rfl) ?_
          refine lv_aload_n hx hb dX8_patches_49 rfl (lv_at hl 1 rfl) ?_
          refine va_get (D := G.1) (ci := 6) (v := .ref (d0 3)) (C := RX8) (T := TX8) (N := 12) hx hb hT iX8 hown hK hP 0 rfl rfl 3 (by decide) (hT _ q_269) (fun _ h9 => h9) rfl dX8_patches_50 ?_
          refine zcVv (As := [.int 2, .int x1, .ref (d0 3)]) (rest := []) (C := RX1) Cx (c_X1_note l G (d0 8) d9 (d0 3) d4 2 x1 S9 S4 _ hg) zv_X1_note q_561 ⟨⟨rfl, rfl⟩, Nat.le_of_ble_eq_true rfl, Nat.le_of_ble_eq_true rfl⟩ (zJ.sub (wr := wX8 G o0 d0 i0 i1 S0 ++ (wX6 G (d0 0) d1 S1 ++ (wX4 G (d0 1) d2 S2 ++ (wX4 G (d0 2) d3 S3 ++ (wX0 G (d0 4) d5 S5 ++ (wX0 G (d0 5) d6 S6 ++ (wX0 G (d0 6) d7 S7 ++ (wX7 G (d0 7) d8 S8 ++ (wX2 G i0 d10 S10 ++ (wX2 G i1 d11 S11)))))))))) (w2 := (fun u : ZS => wX8 G o0 d0 i0 i1 S0 ++ (wX6 G (d0 0) d1 S1 ++ (wX4 G (d0 1) d2 S2 ++ (wX4 G (d0 2) d3 S3 ++ (wX2 G (d0 3) d4 S4 ++ (wX0 G (d0 4) d5 S5 ++ (wX0 G (d0 5) d6 S6 ++ (wX0 G (d0 6) d7 S7 ++ (wX7 G (d0 7) d8 S8 ++ (wX1 G (d0 8) d9 u ++ (wX2 G i0 d10 S10 ++ (wX2 G i1 d11 S11))))))))))))) hP hD hS hA [62, 63, 64, 65, 66, 37, 38, 39, 40, 41, 42] [0, 1, 2, 3, 4, 5, 6, 7, 8, 9, 10, 11, 12, 13, 14, 15, 16, 17, 18, 19, 20, 21, 22, 23, 24, 25, 26, 27, 28, 29, 30, 31, 32, 33, 34, 35, 36, 43, 44, 45, 46, 47, 48, 49, 50, 51, 52, 53, 54, 55, 56, 57, 58, 59, 60, 61, 67, 68, 69, 70, 71, 72, 73, 74, 75, 76, 77, 78] [0, 1, 2, 3, 4, 5, 6, 7, 8, 9, 10, 11, 12, 13, 14, 15, 16, 17, 18, 19, 20, 21, 22, 23, 24, 25, 26, 27, 28, 29, 30, 31, 32, 33, 34, 35, 36, 73, 74, 75, 76, 77, 78, 37, 38, 39, 40, 41, 42, 43, 44, 45, 46, 47, 48, 49, 50, 51, 52, 53, 54, 55, 68, 69, 70, 71, 72, 56, 57, 58, 59, 60, 61, 62, 63, 64, 65, 66, 67] rfl rfl (by decide) (fun u => rfl)) hS 1 rfl rfl rfl rfl hl.1 rfl (Nat.le_of_ble_eq_true rfl) dX8_patches_53 (fun S9_7 H locs hg hP hD hS => ?_)
          have hP : va_P G.1 classes (wX8 G o0 d0 i0 i1 S0 ++ (wX6 G (d0 0) d1 S1 ++ (wX4 G (d0 1) d2 S2 ++ (wX4 G (d0 2) d3 S3 ++ (wX2 G (d0 3) d4 S4 ++ (wX0 G (d0 4) d5 S5 ++ (wX0 G (d0 5) d6 S6 ++ (wX0 G (d0 6) d7 S7 ++ (wX7 G (d0 7) d8 S8 ++ (wX1 G (d0 8) d9 S9_7 ++ (wX2 G i0 d10 S10 ++ (wX2 G i1 d11 S11)))))))))))) H := hP
          have hD : va_D A (wX8 G o0 d0 i0 i1 S0 ++ (wX6 G (d0 0) d1 S1 ++ (wX4 G (d0 1) d2 S2 ++ (wX4 G (d0 2) d3 S3 ++ (wX2 G (d0 3) d4 S4 ++ (wX0 G (d0 4) d5 S5 ++ (wX0 G (d0 5) d6 S6 ++ (wX0 G (d0 6) d7 S7 ++ (wX7 G (d0 7) d8 S8 ++ (wX1 G (d0 8) d9 S9_7 ++ (wX2 G i0 d10 S10 ++ (wX2 G i1 d11 S11)))))))))))) := hD
          refine lv_aload_n hx hb dX8_patches_56 rfl (lv_at hl 1 rfl) ?_
          refine va_get (D := G.1) (ci := 6) (v := .ref (d0 3)) (C := RX8) (T := TX8) (N := 12) hx hb hT iX8 hown hK hP 0 rfl rfl 3 (by decide) (hT _ q_269) (fun _ h9 => h9) rfl dX8_patches_57 ?_
          refine va_get (D := G.1) (ci := 2) (v := .ref (d4 3)) (C := RX2) (T := TX2) (N := 5) hx hb hT iX2 hown hK hP 37 rfl rfl 3 (by decide) (hT _ q_177) (fun _ h9 => h9) rfl dX8_patches_60 ?_
          refine lv_iload_n hx hb dX8_patches_63 rfl (lv_at hl 2 rfl) ?_
          refine lv_iload_n hx hb dX8_patches_64 rfl (lv_at hl 3 rfl) ?_
          refine z_iast hx hb hK hP hD hS 41 0 rfl rfl hg.1 dX8_patches_65 (zst S4 3 x1.toNatClampNeg x2) (fun S : ZS => wX8 G o0 d0 i0 i1 S0 ++ (wX6 G (d0 0) d1 S1 ++ (wX4 G (d0 1) d2 S2 ++ (wX4 G (d0 2) d3 S3 ++ (wX2 G (d0 3) d4 S ++ (wX0 G (d0 4) d5 S5 ++ (wX0 G (d0 5) d6 S6 ++ (wX0 G (d0 6) d7 S7 ++ (wX7 G (d0 7) d8 S8 ++ (wX1 G (d0 8) d9 S9_7 ++ (wX2 G i0 d10 S10 ++ (wX2 G i1 d11 S11)))))))))))) rfl (fun S4_8 H locs eS4_8 hP hD hS => ?_)
          have hg := hg.2 S4_8 eS4_8
          refine lv_aload_n hx hb dX8_patches_66 rfl (lv_at hl 1 rfl) ?_
          refine zcVv (As := []) (rest := []) (C := RX8) Cx (c_X8_settle l G o0 d0 i0 i1 d1 d2 d3 d4 d5 d6 d7 d8 d9 d10 d11 S0 S1 S2 S3 S4_8 S5 S6 S7 S8 S9_7 S10 S11 _ hg) zv_X8_settle q_469 ⟨⟨rfl, rfl⟩, Nat.le_of_ble_eq_true rfl, Nat.le_of_ble_eq_true rfl⟩ (zJ.all hP hD hS hA) hS 6 rfl rfl rfl rfl hl.1 rfl (Nat.le_of_ble_eq_true rfl) dX8_patches_67 (fun u H locs hg hP hD hS => ?_)
          obtain ⟨S5_9, S6_10, S8_11⟩ := u
          have hP : va_P G.1 classes (wX8 G o0 d0 i0 i1 S0 ++ (wX6 G (d0 0) d1 S1 ++ (wX4 G (d0 1) d2 S2 ++ (wX4 G (d0 2) d3 S3 ++ (wX2 G (d0 3) d4 S4_8 ++ (wX0 G (d0 4) d5 S5_9 ++ (wX0 G (d0 5) d6 S6_10 ++ (wX0 G (d0 6) d7 S7 ++ (wX7 G (d0 7) d8 S8_11 ++ (wX1 G (d0 8) d9 S9_7 ++ (wX2 G i0 d10 S10 ++ (wX2 G i1 d11 S11)))))))))))) H := hP
          have hD : va_D A (wX8 G o0 d0 i0 i1 S0 ++ (wX6 G (d0 0) d1 S1 ++ (wX4 G (d0 1) d2 S2 ++ (wX4 G (d0 2) d3 S3 ++ (wX2 G (d0 3) d4 S4_8 ++ (wX0 G (d0 4) d5 S5_9 ++ (wX0 G (d0 5) d6 S6_10 ++ (wX0 G (d0 6) d7 S7 ++ (wX7 G (d0 7) d8 S8_11 ++ (wX1 G (d0 8) d9 S9_7 ++ (wX2 G i0 d10 S10 ++ (wX2 G i1 d11 S11)))))))))))) := hD
          refine lv_iload_n hx hb dX8_patches_70 rfl (lv_at hl 0 rfl) ?_
          exact hret _ _ _ (S4_8, S5_9, S6_10, S8_11, S9_7) _ _ hg rfl hP hD hS dX8_patches_71
        · have hg := hg.1 c_6
          refine lv_bipush (v := (-2)) hx hb dX8_patches_40 (by decide) ?_
          exact hret _ _ _ (S4, S5, S6, S8, S9) _ _ hg rfl hP hD hS dX8_patches_42
      · have hg := hg.2 c_4
        refine lv_iconst (v := (-1)) hx hb dX8_patches_23 (by decide) ?_
        exact hret _ _ _ (S4, S5, S6, S8, S9) _ _ hg rfl hP hD hS dX8_patches_24
theorem zv_X8_turned : zV yX8_turned RX8 cX8_turned 2 (some .int) 1 := ⟨q_586, q_587, q_1, q_588, by decide +kernel⟩
set_option maxHeartbeats 4000000 in
set_option maxRecDepth 100000 in
theorem c_X8_turned (l : Launch) (G : ZG) (o0 : Nat) (d0 : Nat → Nat) (i0 i1 : Nat) (d1 : Nat → Nat) (d2 : Nat → Nat) (d3 : Nat → Nat) (d4 : Nat → Nat) (d5 : Nat → Nat) (d6 : Nat → Nat) (d7 : Nat → Nat) (d8 : Nat → Nat) (d9 : Nat → Nat) (d10 : Nat → Nat) (d11 : Nat → Nat) (x1 : Int32) (S0 : ZS) (S1 : ZS) (S2 : ZS) (S3 : ZS) (S4 : ZS) (S5 : ZS) (S6 : ZS) (S7 : ZS) (S8 : ZS) (S9 : ZS) (S10 : ZS) (S11 : ZS) (Q : Int32 → ZS → ZS → ZS → ZS → ZS → Prop) (hg : g_X8_turned x1 S0 S1 S2 S3 S4 S5 S6 S7 S8 S9 S10 S11 Q) : Ki l G yX8_turned cX8_turned 2 .int rm_X8_turned [.ref o0, .int x1] (wX8 G o0 d0 i0 i1 S0 ++ (wX6 G (d0 0) d1 S1 ++ (wX4 G (d0 1) d2 S2 ++ (wX4 G (d0 2) d3 S3 ++ (wX2 G (d0 3) d4 S4 ++ (wX0 G (d0 4) d5 S5 ++ (wX0 G (d0 5) d6 S6 ++ (wX0 G (d0 6) d7 S7 ++ (wX7 G (d0 7) d8 S8 ++ (wX1 G (d0 8) d9 S9 ++ (wX2 G i0 d10 S10 ++ (wX2 G i1 d11 S11)))))))))))) (fun u : ZS × ZS × ZS × ZS × ZS => wX8 G o0 d0 i0 i1 S0 ++ (wX6 G (d0 0) d1 S1 ++ (wX4 G (d0 1) d2 S2 ++ (wX4 G (d0 2) d3 S3 ++ (wX2 G (d0 3) d4 (u.1) ++ (wX0 G (d0 4) d5 (u.2.1) ++ (wX0 G (d0 5) d6 (u.2.2.1) ++ (wX0 G (d0 6) d7 S7 ++ (wX7 G (d0 7) d8 (u.2.2.2.1) ++ (wX1 G (d0 8) d9 (u.2.2.2.2) ++ (wX2 G i0 d10 S10 ++ (wX2 G i1 d11 S11)))))))))))) (fun r u => Q r u.1 u.2.1 u.2.2.1 u.2.2.2.1 u.2.2.2.2) := by
  refine Ki.of (by decide) (Nat.le_of_ble_eq_true rfl) ?_
  intro p e s m args below meth c A QQ ls Cx hret hl hP hD hS
  obtain ⟨hx, hb, hml, hown, hT, hK, hA⟩ := id Cx
  have hl : lv_has ls 2 [(0, .ref o0), (1, .int x1)] := hl
  refine lv_aload_n hx hb dX8_turned_0 rfl (lv_at hl 0 rfl) ?_
  refine va_get (D := G.1) (ci := 6) (v := .ref (d0 1)) (C := RX8) (T := TX8) (N := 12) hx hb hT iX8 hown hK hP 0 rfl rfl 1 (by decide) (hT _ q_267) (fun _ h9 => h9) rfl dX8_turned_1 ?_
  refine lv_iload_n hx hb dX8_turned_4 rfl (lv_at hl 1 rfl) ?_
  refine zcVi (As := [.int x1]) (rest := []) (C := RX4) Cx (c_X4_hasBlock l G (d0 1) d2 x1 S2 _ hg) zv_X4_hasBlock q_555 ⟨⟨rfl, rfl⟩, Nat.le_of_ble_eq_true rfl, Nat.le_of_ble_eq_true rfl⟩ (zJ.sub (wr := wX8 G o0 d0 i0 i1 S0 ++ (wX6 G (d0 0) d1 S1 ++ (wX4 G (d0 2) d3 S3 ++ (wX2 G (d0 3) d4 S4 ++ (wX0 G (d0 4) d5 S5 ++ (wX0 G (d0 5) d6 S6 ++ (wX0 G (d0 6) d7 S7 ++ (wX7 G (d0 7) d8 S8 ++ (wX1 G (d0 8) d9 S9 ++ (wX2 G i0 d10 S10 ++ (wX2 G i1 d11 S11))))))))))) (w2 := (fun u : Unit => wX8 G o0 d0 i0 i1 S0 ++ (wX6 G (d0 0) d1 S1 ++ (wX4 G (d0 1) d2 S2 ++ (wX4 G (d0 2) d3 S3 ++ (wX2 G (d0 3) d4 S4 ++ (wX0 G (d0 4) d5 S5 ++ (wX0 G (d0 5) d6 S6 ++ (wX0 G (d0 6) d7 S7 ++ (wX7 G (d0 7) d8 S8 ++ (wX1 G (d0 8) d9 S9 ++ (wX2 G i0 d10 S10 ++ (wX2 G i1 d11 S11))))))))))))) hP hD hS hA [5, 6, 7, 8, 9, 10, 11, 12, 13, 14, 15, 16, 17, 18, 19, 20] [0, 1, 2, 3, 4, 21, 22, 23, 24, 25, 26, 27, 28, 29, 30, 31, 32, 33, 34, 35, 36, 37, 38, 39, 40, 41, 42, 43, 44, 45, 46, 47, 48, 49, 50, 51, 52, 53, 54, 55, 56, 57, 58, 59, 60, 61, 62, 63, 64, 65, 66, 67, 68, 69, 70, 71, 72, 73, 74, 75, 76, 77, 78] [0, 1, 2, 3, 4, 63, 64, 65, 66, 67, 68, 69, 70, 71, 72, 73, 74, 75, 76, 77, 78, 5, 6, 7, 8, 9, 10, 11, 12, 13, 14, 15, 16, 17, 18, 19, 20, 21, 22, 23, 24, 25, 26, 27, 28, 29, 30, 31, 32, 33, 34, 35, 36, 37, 38, 39, 40, 41, 42, 43, 44, 45, 46, 47, 48, 49, 50, 51, 52, 53, 54, 55, 56, 57, 58, 59, 60, 61, 62] rfl rfl (by decide) (fun u => rfl)) hS 3 rfl rfl rfl rfl hl.1 rfl (Nat.le_of_ble_eq_true rfl) dX8_turned_5 (fun r_1 _u H locs hg hP hD hS => ?_)
  refine lv_if_ne (tgt := 13) hx hb dX8_turned_8 (by decide) (fun c_2 => ?_) (fun c_2 => ?_)
  · have hg := hg.2 c_2
    refine lv_aload_n hx hb dX8_turned_13 rfl (lv_at hl 0 rfl) ?_
    refine va_get (D := G.1) (ci := 6) (v := .ref (d0 1)) (C := RX8) (T := TX8) (N := 12) hx hb hT iX8 hown hK hP 0 rfl rfl 1 (by decide) (hT _ q_267) (fun _ h9 => h9) rfl dX8_turned_14 ?_
    refine va_get (D := G.1) (ci := 3) (v := .ref (d2 13)) (C := RX4) (T := TX4) (N := 17) hx hb hT iX4 hown hK hP 5 rfl rfl 13 (by decide) (hT _ q_110) (fun _ h9 => h9) rfl dX8_turned_17 ?_
    refine lv_iload_n hx hb dX8_turned_20 rfl (lv_at hl 1 rfl) ?_
    refine va_iald hx hb hK hP 17 0 rfl rfl hg.1 dX8_turned_21 ?_
    have hg := hg.2
    refine lv_iconst (v := 1) hx hb dX8_turned_22 (by decide) ?_
    refine lv_icmp_eq (tgt := 29) hx hb dX8_turned_23 (by decide) (fun c_3 => ?_) (fun c_3 => ?_)
    · have hg := hg.1 c_3
      refine lv_aload_n hx hb dX8_turned_29 rfl (lv_at hl 0 rfl) ?_
      refine va_get (D := G.1) (ci := 6) (v := .ref (d0 8)) (C := RX8) (T := TX8) (N := 12) hx hb hT iX8 hown hK hP 0 rfl rfl 8 (by decide) (hT _ q_274) (fun _ h9 => h9) rfl dX8_turned_30 ?_
      refine lv_iconst (v := 3) hx hb dX8_turned_33 (by decide) ?_
      refine lv_iload_n hx hb dX8_turned_34 rfl (lv_at hl 1 rfl) ?_
      refine lv_aload_n hx hb dX8_turned_35 rfl (lv_at hl 0 rfl) ?_
      refine va_get (D := G.1) (ci := 6) (v := .ref (d0 3)) (C := RX8) (T := TX8) (N := 12) hx hb hT iX8 hown hK hP 0 rfl rfl 3 (by decide) (hT _ q_269) (fun _ h9 => h9) rfl dX8_turned_36 ?_
      refine zcVv (As := [.int 3, .int x1, .ref (d0 3)]) (rest := []) (C := RX1) Cx (c_X1_note l G (d0 8) d9 (d0 3) d4 3 x1 S9 S4 _ hg) zv_X1_note q_561 ⟨⟨rfl, rfl⟩, Nat.le_of_ble_eq_true rfl, Nat.le_of_ble_eq_true rfl⟩ (zJ.sub (wr := wX8 G o0 d0 i0 i1 S0 ++ (wX6 G (d0 0) d1 S1 ++ (wX4 G (d0 1) d2 S2 ++ (wX4 G (d0 2) d3 S3 ++ (wX0 G (d0 4) d5 S5 ++ (wX0 G (d0 5) d6 S6 ++ (wX0 G (d0 6) d7 S7 ++ (wX7 G (d0 7) d8 S8 ++ (wX2 G i0 d10 S10 ++ (wX2 G i1 d11 S11)))))))))) (w2 := (fun u : ZS => wX8 G o0 d0 i0 i1 S0 ++ (wX6 G (d0 0) d1 S1 ++ (wX4 G (d0 1) d2 S2 ++ (wX4 G (d0 2) d3 S3 ++ (wX2 G (d0 3) d4 S4 ++ (wX0 G (d0 4) d5 S5 ++ (wX0 G (d0 5) d6 S6 ++ (wX0 G (d0 6) d7 S7 ++ (wX7 G (d0 7) d8 S8 ++ (wX1 G (d0 8) d9 u ++ (wX2 G i0 d10 S10 ++ (wX2 G i1 d11 S11))))))))))))) hP hD hS hA [62, 63, 64, 65, 66, 37, 38, 39, 40, 41, 42] [0, 1, 2, 3, 4, 5, 6, 7, 8, 9, 10, 11, 12, 13, 14, 15, 16, 17, 18, 19, 20, 21, 22, 23, 24, 25, 26, 27, 28, 29, 30, 31, 32, 33, 34, 35, 36, 43, 44, 45, 46, 47, 48, 49, 50, 51, 52, 53, 54, 55, 56, 57, 58, 59, 60, 61, 67, 68, 69, 70, 71, 72, 73, 74, 75, 76, 77, 78] [0, 1, 2, 3, 4, 5, 6, 7, 8, 9, 10, 11, 12, 13, 14, 15, 16, 17, 18, 19, 20, 21, 22, 23, 24, 25, 26, 27, 28, 29, 30, 31, 32, 33, 34, 35, 36, 73, 74, 75, 76, 77, 78, 37, 38, 39, 40, 41, 42, 43, 44, 45, 46, 47, 48, 49, 50, 51, 52, 53, 54, 55, 68, 69, 70, 71, 72, 56, 57, 58, 59, 60, 61, 62, 63, 64, 65, 66, 67] rfl rfl (by decide) (fun u => rfl)) hS 1 rfl rfl rfl rfl hl.1 rfl (Nat.le_of_ble_eq_true rfl) dX8_turned_39 (fun S9_4 H locs hg hP hD hS => ?_)
      have hP : va_P G.1 classes (wX8 G o0 d0 i0 i1 S0 ++ (wX6 G (d0 0) d1 S1 ++ (wX4 G (d0 1) d2 S2 ++ (wX4 G (d0 2) d3 S3 ++ (wX2 G (d0 3) d4 S4 ++ (wX0 G (d0 4) d5 S5 ++ (wX0 G (d0 5) d6 S6 ++ (wX0 G (d0 6) d7 S7 ++ (wX7 G (d0 7) d8 S8 ++ (wX1 G (d0 8) d9 S9_4 ++ (wX2 G i0 d10 S10 ++ (wX2 G i1 d11 S11)))))))))))) H := hP
      have hD : va_D A (wX8 G o0 d0 i0 i1 S0 ++ (wX6 G (d0 0) d1 S1 ++ (wX4 G (d0 1) d2 S2 ++ (wX4 G (d0 2) d3 S3 ++ (wX2 G (d0 3) d4 S4 ++ (wX0 G (d0 4) d5 S5 ++ (wX0 G (d0 5) d6 S6 ++ (wX0 G (d0 6) d7 S7 ++ (wX7 G (d0 7) d8 S8 ++ (wX1 G (d0 8) d9 S9_4 ++ (wX2 G i0 d10 S10 ++ (wX2 G i1 d11 S11)))))))))))) := hD
      refine lv_aload_n hx hb dX8_turned_42 rfl (lv_at hl 0 rfl) ?_
      refine va_get (D := G.1) (ci := 6) (v := .ref (d0 3)) (C := RX8) (T := TX8) (N := 12) hx hb hT iX8 hown hK hP 0 rfl rfl 3 (by decide) (hT _ q_269) (fun _ h9 => h9) rfl dX8_turned_43 ?_
      refine lv_iload_n hx hb dX8_turned_46 rfl (lv_at hl 1 rfl) ?_
      refine zcVv (As := [.int x1]) (rest := []) (C := RX2) Cx (c_X2_turn l G (d0 3) d4 x1 S4 _ hg) zv_X2_turn q_589 ⟨⟨rfl, rfl⟩, Nat.le_of_ble_eq_true rfl, Nat.le_of_ble_eq_true rfl⟩ (zJ.sub (wr := wX8 G o0 d0 i0 i1 S0 ++ (wX6 G (d0 0) d1 S1 ++ (wX4 G (d0 1) d2 S2 ++ (wX4 G (d0 2) d3 S3 ++ (wX0 G (d0 4) d5 S5 ++ (wX0 G (d0 5) d6 S6 ++ (wX0 G (d0 6) d7 S7 ++ (wX7 G (d0 7) d8 S8 ++ (wX1 G (d0 8) d9 S9_4 ++ (wX2 G i0 d10 S10 ++ (wX2 G i1 d11 S11))))))))))) (w2 := (fun u : ZS => wX8 G o0 d0 i0 i1 S0 ++ (wX6 G (d0 0) d1 S1 ++ (wX4 G (d0 1) d2 S2 ++ (wX4 G (d0 2) d3 S3 ++ (wX2 G (d0 3) d4 u ++ (wX0 G (d0 4) d5 S5 ++ (wX0 G (d0 5) d6 S6 ++ (wX0 G (d0 6) d7 S7 ++ (wX7 G (d0 7) d8 S8 ++ (wX1 G (d0 8) d9 S9_4 ++ (wX2 G i0 d10 S10 ++ (wX2 G i1 d11 S11))))))))))))) hP hD hS hA [37, 38, 39, 40, 41, 42] [0, 1, 2, 3, 4, 5, 6, 7, 8, 9, 10, 11, 12, 13, 14, 15, 16, 17, 18, 19, 20, 21, 22, 23, 24, 25, 26, 27, 28, 29, 30, 31, 32, 33, 34, 35, 36, 43, 44, 45, 46, 47, 48, 49, 50, 51, 52, 53, 54, 55, 56, 57, 58, 59, 60, 61, 62, 63, 64, 65, 66, 67, 68, 69, 70, 71, 72, 73, 74, 75, 76, 77, 78] [0, 1, 2, 3, 4, 5, 6, 7, 8, 9, 10, 11, 12, 13, 14, 15, 16, 17, 18, 19, 20, 21, 22, 23, 24, 25, 26, 27, 28, 29, 30, 31, 32, 33, 34, 35, 36, 73, 74, 75, 76, 77, 78, 37, 38, 39, 40, 41, 42, 43, 44, 45, 46, 47, 48, 49, 50, 51, 52, 53, 54, 55, 56, 57, 58, 59, 60, 61, 62, 63, 64, 65, 66, 67, 68, 69, 70, 71, 72] rfl rfl (by decide) (fun u => rfl)) hS 2 rfl rfl rfl rfl hl.1 rfl (Nat.le_of_ble_eq_true rfl) dX8_turned_47 (fun S4_5 H locs hg hP hD hS => ?_)
      have hP : va_P G.1 classes (wX8 G o0 d0 i0 i1 S0 ++ (wX6 G (d0 0) d1 S1 ++ (wX4 G (d0 1) d2 S2 ++ (wX4 G (d0 2) d3 S3 ++ (wX2 G (d0 3) d4 S4_5 ++ (wX0 G (d0 4) d5 S5 ++ (wX0 G (d0 5) d6 S6 ++ (wX0 G (d0 6) d7 S7 ++ (wX7 G (d0 7) d8 S8 ++ (wX1 G (d0 8) d9 S9_4 ++ (wX2 G i0 d10 S10 ++ (wX2 G i1 d11 S11)))))))))))) H := hP
      have hD : va_D A (wX8 G o0 d0 i0 i1 S0 ++ (wX6 G (d0 0) d1 S1 ++ (wX4 G (d0 1) d2 S2 ++ (wX4 G (d0 2) d3 S3 ++ (wX2 G (d0 3) d4 S4_5 ++ (wX0 G (d0 4) d5 S5 ++ (wX0 G (d0 5) d6 S6 ++ (wX0 G (d0 6) d7 S7 ++ (wX7 G (d0 7) d8 S8 ++ (wX1 G (d0 8) d9 S9_4 ++ (wX2 G i0 d10 S10 ++ (wX2 G i1 d11 S11)))))))))))) := hD
      refine lv_aload_n hx hb dX8_turned_50 rfl (lv_at hl 0 rfl) ?_
      refine zcVv (As := []) (rest := []) (C := RX8) Cx (c_X8_settle l G o0 d0 i0 i1 d1 d2 d3 d4 d5 d6 d7 d8 d9 d10 d11 S0 S1 S2 S3 S4_5 S5 S6 S7 S8 S9_4 S10 S11 _ hg) zv_X8_settle q_469 ⟨⟨rfl, rfl⟩, Nat.le_of_ble_eq_true rfl, Nat.le_of_ble_eq_true rfl⟩ (zJ.all hP hD hS hA) hS 6 rfl rfl rfl rfl hl.1 rfl (Nat.le_of_ble_eq_true rfl) dX8_turned_51 (fun u H locs hg hP hD hS => ?_)
      obtain ⟨S5_6, S6_7, S8_8⟩ := u
      have hP : va_P G.1 classes (wX8 G o0 d0 i0 i1 S0 ++ (wX6 G (d0 0) d1 S1 ++ (wX4 G (d0 1) d2 S2 ++ (wX4 G (d0 2) d3 S3 ++ (wX2 G (d0 3) d4 S4_5 ++ (wX0 G (d0 4) d5 S5_6 ++ (wX0 G (d0 5) d6 S6_7 ++ (wX0 G (d0 6) d7 S7 ++ (wX7 G (d0 7) d8 S8_8 ++ (wX1 G (d0 8) d9 S9_4 ++ (wX2 G i0 d10 S10 ++ (wX2 G i1 d11 S11)))))))))))) H := hP
      have hD : va_D A (wX8 G o0 d0 i0 i1 S0 ++ (wX6 G (d0 0) d1 S1 ++ (wX4 G (d0 1) d2 S2 ++ (wX4 G (d0 2) d3 S3 ++ (wX2 G (d0 3) d4 S4_5 ++ (wX0 G (d0 4) d5 S5_6 ++ (wX0 G (d0 5) d6 S6_7 ++ (wX0 G (d0 6) d7 S7 ++ (wX7 G (d0 7) d8 S8_8 ++ (wX1 G (d0 8) d9 S9_4 ++ (wX2 G i0 d10 S10 ++ (wX2 G i1 d11 S11)))))))))))) := hD
      refine lv_aload_n hx hb dX8_turned_54 rfl (lv_at hl 0 rfl) ?_
      refine va_get (D := G.1) (ci := 6) (v := .ref (d0 4)) (C := RX8) (T := TX8) (N := 12) hx hb hT iX8 hown hK hP 0 rfl rfl 4 (by decide) (hT _ q_270) (fun _ h9 => h9) rfl dX8_turned_55 ?_
      refine lv_aload_n hx hb dX8_turned_58 rfl (lv_at hl 0 rfl) ?_
      refine va_get (D := G.1) (ci := 6) (v := .ref (d0 1)) (C := RX8) (T := TX8) (N := 12) hx hb hT iX8 hown hK hP 0 rfl rfl 1 (by decide) (hT _ q_267) (fun _ h9 => h9) rfl dX8_turned_59 ?_
      refine zcVi (As := [.ref (d0 1)]) (rest := []) (C := RX0) Cx (c_X0_liveBlocks l G (d0 4) d5 (d0 1) d2 S5_6 S2 _ hg) zv_X0_liveBlocks q_593 ⟨⟨rfl, rfl⟩, Nat.le_of_ble_eq_true rfl, Nat.le_of_ble_eq_true rfl⟩ (zJ.sub (wr := wX8 G o0 d0 i0 i1 S0 ++ (wX6 G (d0 0) d1 S1 ++ (wX4 G (d0 2) d3 S3 ++ (wX2 G (d0 3) d4 S4_5 ++ (wX0 G (d0 5) d6 S6_7 ++ (wX0 G (d0 6) d7 S7 ++ (wX7 G (d0 7) d8 S8_8 ++ (wX1 G (d0 8) d9 S9_4 ++ (wX2 G i0 d10 S10 ++ (wX2 G i1 d11 S11)))))))))) (w2 := (fun u : Unit => wX8 G o0 d0 i0 i1 S0 ++ (wX6 G (d0 0) d1 S1 ++ (wX4 G (d0 1) d2 S2 ++ (wX4 G (d0 2) d3 S3 ++ (wX2 G (d0 3) d4 S4_5 ++ (wX0 G (d0 4) d5 S5_6 ++ (wX0 G (d0 5) d6 S6_7 ++ (wX0 G (d0 6) d7 S7 ++ (wX7 G (d0 7) d8 S8_8 ++ (wX1 G (d0 8) d9 S9_4 ++ (wX2 G i0 d10 S10 ++ (wX2 G i1 d11 S11))))))))))))) hP hD hS hA [43, 44, 45, 46, 47, 5, 6, 7, 8, 9, 10, 11, 12, 13, 14, 15, 16, 17, 18, 19, 20] [0, 1, 2, 3, 4, 21, 22, 23, 24, 25, 26, 27, 28, 29, 30, 31, 32, 33, 34, 35, 36, 37, 38, 39, 40, 41, 42, 48, 49, 50, 51, 52, 53, 54, 55, 56, 57, 58, 59, 60, 61, 62, 63, 64, 65, 66, 67, 68, 69, 70, 71, 72, 73, 74, 75, 76, 77, 78] [0, 1, 2, 3, 4, 63, 64, 65, 66, 67, 68, 69, 70, 71, 72, 73, 74, 75, 76, 77, 78, 5, 6, 7, 8, 9, 10, 11, 12, 13, 14, 15, 16, 17, 18, 19, 20, 21, 22, 23, 24, 25, 26, 58, 59, 60, 61, 62, 27, 28, 29, 30, 31, 32, 33, 34, 35, 36, 37, 38, 39, 40, 41, 42, 43, 44, 45, 46, 47, 48, 49, 50, 51, 52, 53, 54, 55, 56, 57] rfl rfl (by decide) (fun u => rfl)) hS 0 rfl rfl rfl rfl hl.1 rfl (Nat.le_of_ble_eq_true rfl) dX8_turned_62 (fun r_9 _u H locs hg hP hD hS => ?_)
      exact hret _ _ _ (S4_5, S5_6, S6_7, S8_8, S9_4) _ _ hg rfl hP hD hS dX8_turned_65
    · have hg := hg.2 c_3
      refine lv_bipush (v := (-2)) hx hb dX8_turned_26 (by decide) ?_
      exact hret _ _ _ (S4, S5, S6, S8, S9) _ _ hg rfl hP hD hS dX8_turned_28
  · have hg := hg.1 c_2
    refine lv_iconst (v := (-1)) hx hb dX8_turned_11 (by decide) ?_
    exact hret _ _ _ (S4, S5, S6, S8, S9) _ _ hg rfl hP hD hS dX8_turned_12
theorem zv_X8_undo : zV yX8_undo RX8 cX8_undo 1 (some .int) 0 := ⟨q_598, q_599, q_1, q_600, by decide +kernel⟩
set_option maxHeartbeats 4000000 in
set_option maxRecDepth 100000 in
theorem c_X8_undo (l : Launch) (G : ZG) (o0 : Nat) (d0 : Nat → Nat) (i0 i1 : Nat) (d1 : Nat → Nat) (d2 : Nat → Nat) (d3 : Nat → Nat) (d4 : Nat → Nat) (d5 : Nat → Nat) (d6 : Nat → Nat) (d7 : Nat → Nat) (d8 : Nat → Nat) (d9 : Nat → Nat) (d10 : Nat → Nat) (d11 : Nat → Nat) (S0 : ZS) (S1 : ZS) (S2 : ZS) (S3 : ZS) (S4 : ZS) (S5 : ZS) (S6 : ZS) (S7 : ZS) (S8 : ZS) (S9 : ZS) (S10 : ZS) (S11 : ZS) (Q : Int32 → ZS → ZS → ZS → ZS → ZS → Prop) (hg : g_X8_undo S0 S1 S2 S3 S4 S5 S6 S7 S8 S9 S10 S11 Q) : Ki l G yX8_undo cX8_undo 1 .int rm_X8_undo [.ref o0] (wX8 G o0 d0 i0 i1 S0 ++ (wX6 G (d0 0) d1 S1 ++ (wX4 G (d0 1) d2 S2 ++ (wX4 G (d0 2) d3 S3 ++ (wX2 G (d0 3) d4 S4 ++ (wX0 G (d0 4) d5 S5 ++ (wX0 G (d0 5) d6 S6 ++ (wX0 G (d0 6) d7 S7 ++ (wX7 G (d0 7) d8 S8 ++ (wX1 G (d0 8) d9 S9 ++ (wX2 G i0 d10 S10 ++ (wX2 G i1 d11 S11)))))))))))) (fun u : ZS × ZS × ZS × ZS × ZS => wX8 G o0 d0 i0 i1 S0 ++ (wX6 G (d0 0) d1 S1 ++ (wX4 G (d0 1) d2 S2 ++ (wX4 G (d0 2) d3 S3 ++ (wX2 G (d0 3) d4 (u.1) ++ (wX0 G (d0 4) d5 (u.2.1) ++ (wX0 G (d0 5) d6 (u.2.2.1) ++ (wX0 G (d0 6) d7 S7 ++ (wX7 G (d0 7) d8 (u.2.2.2.1) ++ (wX1 G (d0 8) d9 (u.2.2.2.2) ++ (wX2 G i0 d10 S10 ++ (wX2 G i1 d11 S11)))))))))))) (fun r u => Q r u.1 u.2.1 u.2.2.1 u.2.2.2.1 u.2.2.2.2) := by
  refine Ki.of (by decide) (Nat.le_of_ble_eq_true rfl) ?_
  intro p e s m args below meth c A QQ ls Cx hret hl hP hD hS
  obtain ⟨hx, hb, hml, hown, hT, hK, hA⟩ := id Cx
  have hl : lv_has ls 1 [(0, .ref o0)] := hl
  refine lv_aload_n hx hb dX8_undo_0 rfl (lv_at hl 0 rfl) ?_
  refine va_get (D := G.1) (ci := 6) (v := .ref (d0 8)) (C := RX8) (T := TX8) (N := 12) hx hb hT iX8 hown hK hP 0 rfl rfl 8 (by decide) (hT _ q_274) (fun _ h9 => h9) rfl dX8_undo_1 ?_
  refine va_get (D := G.1) (ci := 1) (v := .int (S9 0 0)) (C := RX1) (T := TX1) (N := 5) hx hb hT iX1 hown hK hP 62 rfl rfl 0 (by decide) (hT _ q_249) (fun _ h9 => h9) rfl dX8_undo_4 ?_
  refine lv_if_ne (tgt := 13) hx hb dX8_undo_7 (by decide) (fun c_1 => ?_) (fun c_1 => ?_)
  · have hg := hg.2 c_1
    refine lv_aload_n hx hb dX8_undo_13 rfl (lv_at hl 0 rfl) ?_
    refine va_get (D := G.1) (ci := 6) (v := .ref (d0 8)) (C := RX8) (T := TX8) (N := 12) hx hb hT iX8 hown hK hP 0 rfl rfl 8 (by decide) (hT _ q_274) (fun _ h9 => h9) rfl dX8_undo_14 ?_
    refine lv_aload_n hx hb dX8_undo_17 rfl (lv_at hl 0 rfl) ?_
    refine va_get (D := G.1) (ci := 6) (v := .ref (d0 3)) (C := RX8) (T := TX8) (N := 12) hx hb hT iX8 hown hK hP 0 rfl rfl 3 (by decide) (hT _ q_269) (fun _ h9 => h9) rfl dX8_undo_18 ?_
    refine zcVv (As := [.ref (d0 3)]) (rest := []) (C := RX1) Cx (c_X1_takeBack l G (d0 8) d9 (d0 3) d4 S9 S4 _ hg) zv_X1_takeBack q_601 ⟨⟨rfl, rfl⟩, Nat.le_of_ble_eq_true rfl, Nat.le_of_ble_eq_true rfl⟩ (zJ.sub (wr := wX8 G o0 d0 i0 i1 S0 ++ (wX6 G (d0 0) d1 S1 ++ (wX4 G (d0 1) d2 S2 ++ (wX4 G (d0 2) d3 S3 ++ (wX0 G (d0 4) d5 S5 ++ (wX0 G (d0 5) d6 S6 ++ (wX0 G (d0 6) d7 S7 ++ (wX7 G (d0 7) d8 S8 ++ (wX2 G i0 d10 S10 ++ (wX2 G i1 d11 S11)))))))))) (w2 := (fun u : ZS × ZS => wX8 G o0 d0 i0 i1 S0 ++ (wX6 G (d0 0) d1 S1 ++ (wX4 G (d0 1) d2 S2 ++ (wX4 G (d0 2) d3 S3 ++ (wX2 G (d0 3) d4 (u.2) ++ (wX0 G (d0 4) d5 S5 ++ (wX0 G (d0 5) d6 S6 ++ (wX0 G (d0 6) d7 S7 ++ (wX7 G (d0 7) d8 S8 ++ (wX1 G (d0 8) d9 (u.1) ++ (wX2 G i0 d10 S10 ++ (wX2 G i1 d11 S11))))))))))))) hP hD hS hA [62, 63, 64, 65, 66, 37, 38, 39, 40, 41, 42] [0, 1, 2, 3, 4, 5, 6, 7, 8, 9, 10, 11, 12, 13, 14, 15, 16, 17, 18, 19, 20, 21, 22, 23, 24, 25, 26, 27, 28, 29, 30, 31, 32, 33, 34, 35, 36, 43, 44, 45, 46, 47, 48, 49, 50, 51, 52, 53, 54, 55, 56, 57, 58, 59, 60, 61, 67, 68, 69, 70, 71, 72, 73, 74, 75, 76, 77, 78] [0, 1, 2, 3, 4, 5, 6, 7, 8, 9, 10, 11, 12, 13, 14, 15, 16, 17, 18, 19, 20, 21, 22, 23, 24, 25, 26, 27, 28, 29, 30, 31, 32, 33, 34, 35, 36, 73, 74, 75, 76, 77, 78, 37, 38, 39, 40, 41, 42, 43, 44, 45, 46, 47, 48, 49, 50, 51, 52, 53, 54, 55, 68, 69, 70, 71, 72, 56, 57, 58, 59, 60, 61, 62, 63, 64, 65, 66, 67] rfl rfl (by decide) (fun u => rfl)) hS 1 rfl rfl rfl rfl hl.1 rfl (Nat.le_of_ble_eq_true rfl) dX8_undo_21 (fun u H locs hg hP hD hS => ?_)
    obtain ⟨S9_2, S4_3⟩ := u
    have hP : va_P G.1 classes (wX8 G o0 d0 i0 i1 S0 ++ (wX6 G (d0 0) d1 S1 ++ (wX4 G (d0 1) d2 S2 ++ (wX4 G (d0 2) d3 S3 ++ (wX2 G (d0 3) d4 S4_3 ++ (wX0 G (d0 4) d5 S5 ++ (wX0 G (d0 5) d6 S6 ++ (wX0 G (d0 6) d7 S7 ++ (wX7 G (d0 7) d8 S8 ++ (wX1 G (d0 8) d9 S9_2 ++ (wX2 G i0 d10 S10 ++ (wX2 G i1 d11 S11)))))))))))) H := hP
    have hD : va_D A (wX8 G o0 d0 i0 i1 S0 ++ (wX6 G (d0 0) d1 S1 ++ (wX4 G (d0 1) d2 S2 ++ (wX4 G (d0 2) d3 S3 ++ (wX2 G (d0 3) d4 S4_3 ++ (wX0 G (d0 4) d5 S5 ++ (wX0 G (d0 5) d6 S6 ++ (wX0 G (d0 6) d7 S7 ++ (wX7 G (d0 7) d8 S8 ++ (wX1 G (d0 8) d9 S9_2 ++ (wX2 G i0 d10 S10 ++ (wX2 G i1 d11 S11)))))))))))) := hD
    refine lv_aload_n hx hb dX8_undo_24 rfl (lv_at hl 0 rfl) ?_
    refine zcVv (As := []) (rest := []) (C := RX8) Cx (c_X8_settle l G o0 d0 i0 i1 d1 d2 d3 d4 d5 d6 d7 d8 d9 d10 d11 S0 S1 S2 S3 S4_3 S5 S6 S7 S8 S9_2 S10 S11 _ hg) zv_X8_settle q_469 ⟨⟨rfl, rfl⟩, Nat.le_of_ble_eq_true rfl, Nat.le_of_ble_eq_true rfl⟩ (zJ.all hP hD hS hA) hS 6 rfl rfl rfl rfl hl.1 rfl (Nat.le_of_ble_eq_true rfl) dX8_undo_25 (fun u H locs hg hP hD hS => ?_)
    obtain ⟨S5_4, S6_5, S8_6⟩ := u
    have hP : va_P G.1 classes (wX8 G o0 d0 i0 i1 S0 ++ (wX6 G (d0 0) d1 S1 ++ (wX4 G (d0 1) d2 S2 ++ (wX4 G (d0 2) d3 S3 ++ (wX2 G (d0 3) d4 S4_3 ++ (wX0 G (d0 4) d5 S5_4 ++ (wX0 G (d0 5) d6 S6_5 ++ (wX0 G (d0 6) d7 S7 ++ (wX7 G (d0 7) d8 S8_6 ++ (wX1 G (d0 8) d9 S9_2 ++ (wX2 G i0 d10 S10 ++ (wX2 G i1 d11 S11)))))))))))) H := hP
    have hD : va_D A (wX8 G o0 d0 i0 i1 S0 ++ (wX6 G (d0 0) d1 S1 ++ (wX4 G (d0 1) d2 S2 ++ (wX4 G (d0 2) d3 S3 ++ (wX2 G (d0 3) d4 S4_3 ++ (wX0 G (d0 4) d5 S5_4 ++ (wX0 G (d0 5) d6 S6_5 ++ (wX0 G (d0 6) d7 S7 ++ (wX7 G (d0 7) d8 S8_6 ++ (wX1 G (d0 8) d9 S9_2 ++ (wX2 G i0 d10 S10 ++ (wX2 G i1 d11 S11)))))))))))) := hD
    refine lv_aload_n hx hb dX8_undo_28 rfl (lv_at hl 0 rfl) ?_
    refine va_get (D := G.1) (ci := 6) (v := .ref (d0 8)) (C := RX8) (T := TX8) (N := 12) hx hb hT iX8 hown hK hP 0 rfl rfl 8 (by decide) (hT _ q_274) (fun _ h9 => h9) rfl dX8_undo_29 ?_
    refine va_get (D := G.1) (ci := 1) (v := .int (S9_2 0 0)) (C := RX1) (T := TX1) (N := 5) hx hb hT iX1 hown hK hP 62 rfl rfl 0 (by decide) (hT _ q_249) (fun _ h9 => h9) rfl dX8_undo_32 ?_
    exact hret _ _ _ (S4_3, S5_4, S6_5, S8_6, S9_2) _ _ hg rfl hP hD hS dX8_undo_35
  · have hg := hg.1 c_1
    refine lv_bipush (v := (-2)) hx hb dX8_undo_10 (by decide) ?_
    exact hret _ _ _ (S4, S5, S6, S8, S9) _ _ hg rfl hP hD hS dX8_undo_12
theorem zv_X8_run : zV yX8_run RX8 cX8_run 1 (some .int) 0 := ⟨q_607, q_608, q_1, q_609, by decide +kernel⟩
set_option maxHeartbeats 4000000 in
set_option maxRecDepth 100000 in
theorem c_X8_run (l : Launch) (G : ZG) (o0 : Nat) (d0 : Nat → Nat) (i0 i1 : Nat) (d1 : Nat → Nat) (d2 : Nat → Nat) (d3 : Nat → Nat) (d4 : Nat → Nat) (d5 : Nat → Nat) (d6 : Nat → Nat) (d7 : Nat → Nat) (d8 : Nat → Nat) (d9 : Nat → Nat) (d10 : Nat → Nat) (d11 : Nat → Nat) (S0 : ZS) (S1 : ZS) (S2 : ZS) (S3 : ZS) (S4 : ZS) (S5 : ZS) (S6 : ZS) (S7 : ZS) (S8 : ZS) (S9 : ZS) (S10 : ZS) (S11 : ZS) (Q : Int32 → ZS → Prop) (hg : g_X8_run S0 S1 S2 S3 S4 S5 S6 S7 S8 S9 S10 S11 Q) : Ki l G yX8_run cX8_run 1 .int rm_X8_run [.ref o0] (wX8 G o0 d0 i0 i1 S0 ++ (wX6 G (d0 0) d1 S1 ++ (wX4 G (d0 1) d2 S2 ++ (wX4 G (d0 2) d3 S3 ++ (wX2 G (d0 3) d4 S4 ++ (wX0 G (d0 4) d5 S5 ++ (wX0 G (d0 5) d6 S6 ++ (wX0 G (d0 6) d7 S7 ++ (wX7 G (d0 7) d8 S8 ++ (wX1 G (d0 8) d9 S9 ++ (wX2 G i0 d10 S10 ++ (wX2 G i1 d11 S11)))))))))))) (fun u : ZS => wX8 G o0 d0 i0 i1 u ++ (wX6 G (d0 0) d1 S1 ++ (wX4 G (d0 1) d2 S2 ++ (wX4 G (d0 2) d3 S3 ++ (wX2 G (d0 3) d4 S4 ++ (wX0 G (d0 4) d5 S5 ++ (wX0 G (d0 5) d6 S6 ++ (wX0 G (d0 6) d7 S7 ++ (wX7 G (d0 7) d8 S8 ++ (wX1 G (d0 8) d9 S9 ++ (wX2 G i0 d10 S10 ++ (wX2 G i1 d11 S11)))))))))))) (fun r u => Q r u) := by
  refine Ki.of (by decide) (Nat.le_of_ble_eq_true rfl) ?_
  intro p e s m args below meth c A QQ ls Cx hret hl hP hD hS
  obtain ⟨hx, hb, hml, hown, hT, hK, hA⟩ := id Cx
  have hl : lv_has ls 1 [(0, .ref o0)] := hl
  refine lv_aload_n hx hb dX8_run_0 rfl (lv_at hl 0 rfl) ?_
  refine va_get (D := G.1) (ci := 6) (v := .ref (d0 1)) (C := RX8) (T := TX8) (N := 12) hx hb hT iX8 hown hK hP 0 rfl rfl 1 (by decide) (hT _ q_267) (fun _ h9 => h9) rfl dX8_run_1 ?_
  refine va_get (D := G.1) (ci := 3) (v := .int (S2 0 0)) (C := RX4) (T := TX4) (N := 17) hx hb hT iX4 hown hK hP 5 rfl rfl 0 (by decide) (hT _ q_64) (fun _ h9 => h9) rfl dX8_run_4 ?_
  refine lv_if_ne (tgt := 13) hx hb dX8_run_7 (by decide) (fun c_1 => ?_) (fun c_1 => ?_)
  · have hg := hg.2 c_1
    refine lv_aload_n hx hb dX8_run_13 rfl (lv_at hl 0 rfl) ?_
    refine lv_aload_n hx hb dX8_run_14 rfl (lv_at hl 0 rfl) ?_
    refine va_get (D := G.1) (ci := 6) (v := .ref (d0 7)) (C := RX8) (T := TX8) (N := 12) hx hb hT iX8 hown hK hP 0 rfl rfl 7 (by decide) (hT _ q_273) (fun _ h9 => h9) rfl dX8_run_15 ?_
    refine va_get (D := G.1) (ci := 5) (v := .int (S8 1 0)) (C := RX7) (T := TX7) (N := 5) hx hb hT iX7 hown hK hP 58 rfl rfl 1 (by decide) (hT _ q_225) (fun _ h9 => h9) rfl dX8_run_18 ?_
    refine z_put (D := G.1) (ci := 6) (v := .int (S8 1 0)) (ty := .int) (C := RX8) (T := TX8) (N := 12) hx hb hT iX8 tyX8 tyX8_ok nmX8 hown hK hP hD hS 0 rfl rfl 11 (by decide) (hT _ q_277) (fun _ h9 => h9) rfl (by decide +kernel) rfl rfl (Nat.le_of_ble_eq_true rfl) dX8_run_21 (zst S0 11 0 (S8 1 0)) (fun S : ZS => wX8 G o0 d0 i0 i1 S ++ (wX6 G (d0 0) d1 S1 ++ (wX4 G (d0 1) d2 S2 ++ (wX4 G (d0 2) d3 S3 ++ (wX2 G (d0 3) d4 S4 ++ (wX0 G (d0 4) d5 S5 ++ (wX0 G (d0 5) d6 S6 ++ (wX0 G (d0 6) d7 S7 ++ (wX7 G (d0 7) d8 S8 ++ (wX1 G (d0 8) d9 S9 ++ (wX2 G i0 d10 S10 ++ (wX2 G i1 d11 S11)))))))))))) rfl (fun S0_2 H locs eS0_2 hP hD hS => ?_)
    have hg := hg S0_2 eS0_2
    refine lv_aload_n hx hb dX8_run_24 rfl (lv_at hl 0 rfl) ?_
    refine va_get (D := G.1) (ci := 6) (v := .ref (d0 7)) (C := RX8) (T := TX8) (N := 12) hx hb hT iX8 hown hK hP 0 rfl rfl 7 (by decide) (hT _ q_273) (fun _ h9 => h9) rfl dX8_run_25 ?_
    refine va_get (D := G.1) (ci := 5) (v := .int (S8 0 0)) (C := RX7) (T := TX7) (N := 5) hx hb hT iX7 hown hK hP 58 rfl rfl 0 (by decide) (hT _ q_223) (fun _ h9 => h9) rfl dX8_run_28 ?_
    exact hret _ _ _ (S0_2) _ _ hg rfl hP hD hS dX8_run_31
  · have hg := hg.1 c_1
    refine lv_bipush (v := (-2)) hx hb dX8_run_10 (by decide) ?_
    exact hret _ _ _ (S0) _ _ hg rfl hP hD hS dX8_run_12
theorem zv_X8_visits : zV yX8_visits RX8 cX8_visits 2 (some .int) 1 := ⟨q_611, q_612, q_1, q_613, by decide +kernel⟩
set_option maxHeartbeats 4000000 in
set_option maxRecDepth 100000 in
theorem c_X8_visits (l : Launch) (G : ZG) (o0 : Nat) (d0 : Nat → Nat) (i0 i1 : Nat) (d1 : Nat → Nat) (d2 : Nat → Nat) (d3 : Nat → Nat) (d4 : Nat → Nat) (d5 : Nat → Nat) (d6 : Nat → Nat) (d7 : Nat → Nat) (d8 : Nat → Nat) (d9 : Nat → Nat) (d10 : Nat → Nat) (d11 : Nat → Nat) (x1 : Int32) (S0 : ZS) (S1 : ZS) (S2 : ZS) (S3 : ZS) (S4 : ZS) (S5 : ZS) (S6 : ZS) (S7 : ZS) (S8 : ZS) (S9 : ZS) (S10 : ZS) (S11 : ZS) (Q : Int32 → Prop) (hg : g_X8_visits x1 S0 S1 S2 S3 S4 S5 S6 S7 S8 S9 S10 S11 Q) : Ki l G yX8_visits cX8_visits 2 .int rm_X8_visits [.ref o0, .int x1] (wX8 G o0 d0 i0 i1 S0 ++ (wX6 G (d0 0) d1 S1 ++ (wX4 G (d0 1) d2 S2 ++ (wX4 G (d0 2) d3 S3 ++ (wX2 G (d0 3) d4 S4 ++ (wX0 G (d0 4) d5 S5 ++ (wX0 G (d0 5) d6 S6 ++ (wX0 G (d0 6) d7 S7 ++ (wX7 G (d0 7) d8 S8 ++ (wX1 G (d0 8) d9 S9 ++ (wX2 G i0 d10 S10 ++ (wX2 G i1 d11 S11)))))))))))) (fun _ : Unit => wX8 G o0 d0 i0 i1 S0 ++ (wX6 G (d0 0) d1 S1 ++ (wX4 G (d0 1) d2 S2 ++ (wX4 G (d0 2) d3 S3 ++ (wX2 G (d0 3) d4 S4 ++ (wX0 G (d0 4) d5 S5 ++ (wX0 G (d0 5) d6 S6 ++ (wX0 G (d0 6) d7 S7 ++ (wX7 G (d0 7) d8 S8 ++ (wX1 G (d0 8) d9 S9 ++ (wX2 G i0 d10 S10 ++ (wX2 G i1 d11 S11)))))))))))) (fun r _ => Q r ) := by
  refine Ki.of (by decide) (Nat.le_of_ble_eq_true rfl) ?_
  intro p e s m args below meth c A QQ ls Cx hret hl hP hD hS
  obtain ⟨hx, hb, hml, hown, hT, hK, hA⟩ := id Cx
  have hl : lv_has ls 2 [(0, .ref o0), (1, .int x1)] := hl
  refine lv_aload_n hx hb dX8_visits_0 rfl (lv_at hl 0 rfl) ?_
  refine va_get (D := G.1) (ci := 6) (v := .ref (d0 1)) (C := RX8) (T := TX8) (N := 12) hx hb hT iX8 hown hK hP 0 rfl rfl 1 (by decide) (hT _ q_267) (fun _ h9 => h9) rfl dX8_visits_1 ?_
  refine lv_iload_n hx hb dX8_visits_4 rfl (lv_at hl 1 rfl) ?_
  refine zcVi (As := [.int x1]) (rest := []) (C := RX4) Cx (c_X4_hasBlock l G (d0 1) d2 x1 S2 _ hg) zv_X4_hasBlock q_555 ⟨⟨rfl, rfl⟩, Nat.le_of_ble_eq_true rfl, Nat.le_of_ble_eq_true rfl⟩ (zJ.sub (wr := wX8 G o0 d0 i0 i1 S0 ++ (wX6 G (d0 0) d1 S1 ++ (wX4 G (d0 2) d3 S3 ++ (wX2 G (d0 3) d4 S4 ++ (wX0 G (d0 4) d5 S5 ++ (wX0 G (d0 5) d6 S6 ++ (wX0 G (d0 6) d7 S7 ++ (wX7 G (d0 7) d8 S8 ++ (wX1 G (d0 8) d9 S9 ++ (wX2 G i0 d10 S10 ++ (wX2 G i1 d11 S11))))))))))) (w2 := (fun u : Unit => wX8 G o0 d0 i0 i1 S0 ++ (wX6 G (d0 0) d1 S1 ++ (wX4 G (d0 1) d2 S2 ++ (wX4 G (d0 2) d3 S3 ++ (wX2 G (d0 3) d4 S4 ++ (wX0 G (d0 4) d5 S5 ++ (wX0 G (d0 5) d6 S6 ++ (wX0 G (d0 6) d7 S7 ++ (wX7 G (d0 7) d8 S8 ++ (wX1 G (d0 8) d9 S9 ++ (wX2 G i0 d10 S10 ++ (wX2 G i1 d11 S11))))))))))))) hP hD hS hA [5, 6, 7, 8, 9, 10, 11, 12, 13, 14, 15, 16, 17, 18, 19, 20] [0, 1, 2, 3, 4, 21, 22, 23, 24, 25, 26, 27, 28, 29, 30, 31, 32, 33, 34, 35, 36, 37, 38, 39, 40, 41, 42, 43, 44, 45, 46, 47, 48, 49, 50, 51, 52, 53, 54, 55, 56, 57, 58, 59, 60, 61, 62, 63, 64, 65, 66, 67, 68, 69, 70, 71, 72, 73, 74, 75, 76, 77, 78] [0, 1, 2, 3, 4, 63, 64, 65, 66, 67, 68, 69, 70, 71, 72, 73, 74, 75, 76, 77, 78, 5, 6, 7, 8, 9, 10, 11, 12, 13, 14, 15, 16, 17, 18, 19, 20, 21, 22, 23, 24, 25, 26, 27, 28, 29, 30, 31, 32, 33, 34, 35, 36, 37, 38, 39, 40, 41, 42, 43, 44, 45, 46, 47, 48, 49, 50, 51, 52, 53, 54, 55, 56, 57, 58, 59, 60, 61, 62] rfl rfl (by decide) (fun u => rfl)) hS 3 rfl rfl rfl rfl hl.1 rfl (Nat.le_of_ble_eq_true rfl) dX8_visits_5 (fun r_1 _u H locs hg hP hD hS => ?_)
  refine lv_if_eq (tgt := 23) hx hb dX8_visits_8 (by decide) (fun c_2 => ?_) (fun c_2 => ?_)
  · have hg := hg.1 c_2
    refine lv_iconst (v := (-1)) hx hb dX8_visits_23 (by decide) ?_
    exact hret _ _ _ () _ _ hg rfl hP hD hS dX8_visits_24
  · have hg := hg.2 c_2
    refine lv_aload_n hx hb dX8_visits_11 rfl (lv_at hl 0 rfl) ?_
    refine va_get (D := G.1) (ci := 6) (v := .ref (d0 7)) (C := RX8) (T := TX8) (N := 12) hx hb hT iX8 hown hK hP 0 rfl rfl 7 (by decide) (hT _ q_273) (fun _ h9 => h9) rfl dX8_visits_12 ?_
    refine va_get (D := G.1) (ci := 5) (v := .ref (d8 4)) (C := RX7) (T := TX7) (N := 5) hx hb hT iX7 hown hK hP 58 rfl rfl 4 (by decide) (hT _ q_230) (fun _ h9 => h9) rfl dX8_visits_15 ?_
    refine lv_iload_n hx hb dX8_visits_18 rfl (lv_at hl 1 rfl) ?_
    refine va_iald hx hb hK hP 61 0 rfl rfl hg.1 dX8_visits_19 ?_
    have hg := hg.2
    refine lv_goto (tgt := 24) hx hb dX8_visits_20 (by decide) ?_
    exact hret _ _ _ () _ _ hg rfl hP hD hS dX8_visits_24
theorem zv_X8_last : zV yX8_last RX8 cX8_last 2 (some .int) 1 := ⟨q_615, q_616, q_1, q_617, by decide +kernel⟩
set_option maxHeartbeats 4000000 in
set_option maxRecDepth 100000 in
theorem c_X8_last (l : Launch) (G : ZG) (o0 : Nat) (d0 : Nat → Nat) (i0 i1 : Nat) (d1 : Nat → Nat) (d2 : Nat → Nat) (d3 : Nat → Nat) (d4 : Nat → Nat) (d5 : Nat → Nat) (d6 : Nat → Nat) (d7 : Nat → Nat) (d8 : Nat → Nat) (d9 : Nat → Nat) (d10 : Nat → Nat) (d11 : Nat → Nat) (x1 : Int32) (S0 : ZS) (S1 : ZS) (S2 : ZS) (S3 : ZS) (S4 : ZS) (S5 : ZS) (S6 : ZS) (S7 : ZS) (S8 : ZS) (S9 : ZS) (S10 : ZS) (S11 : ZS) (Q : Int32 → ZS → Prop) (hg : g_X8_last x1 S0 S1 S2 S3 S4 S5 S6 S7 S8 S9 S10 S11 Q) : Ki l G yX8_last cX8_last 2 .int rm_X8_last [.ref o0, .int x1] (wX8 G o0 d0 i0 i1 S0 ++ (wX6 G (d0 0) d1 S1 ++ (wX4 G (d0 1) d2 S2 ++ (wX4 G (d0 2) d3 S3 ++ (wX2 G (d0 3) d4 S4 ++ (wX0 G (d0 4) d5 S5 ++ (wX0 G (d0 5) d6 S6 ++ (wX0 G (d0 6) d7 S7 ++ (wX7 G (d0 7) d8 S8 ++ (wX1 G (d0 8) d9 S9 ++ (wX2 G i0 d10 S10 ++ (wX2 G i1 d11 S11)))))))))))) (fun u : ZS => wX8 G o0 d0 i0 i1 u ++ (wX6 G (d0 0) d1 S1 ++ (wX4 G (d0 1) d2 S2 ++ (wX4 G (d0 2) d3 S3 ++ (wX2 G (d0 3) d4 S4 ++ (wX0 G (d0 4) d5 S5 ++ (wX0 G (d0 5) d6 S6 ++ (wX0 G (d0 6) d7 S7 ++ (wX7 G (d0 7) d8 S8 ++ (wX1 G (d0 8) d9 S9 ++ (wX2 G i0 d10 S10 ++ (wX2 G i1 d11 S11)))))))))))) (fun r u => Q r u) := by
  refine Ki.of (by decide) (Nat.le_of_ble_eq_true rfl) ?_
  intro p e s m args below meth c A QQ ls Cx hret hl hP hD hS
  obtain ⟨hx, hb, hml, hown, hT, hK, hA⟩ := id Cx
  have hl : lv_has ls 2 [(0, .ref o0), (1, .int x1)] := hl
  refine lv_aload_n hx hb dX8_last_0 rfl (lv_at hl 0 rfl) ?_
  refine va_get (D := G.1) (ci := 6) (v := .ref (d0 1)) (C := RX8) (T := TX8) (N := 12) hx hb hT iX8 hown hK hP 0 rfl rfl 1 (by decide) (hT _ q_267) (fun _ h9 => h9) rfl dX8_last_1 ?_
  refine lv_iload_n hx hb dX8_last_4 rfl (lv_at hl 1 rfl) ?_
  refine zcVi (As := [.int x1]) (rest := []) (C := RX4) Cx (c_X4_hasName l G (d0 1) d2 x1 S2 _ hg) zv_X4_hasName q_546 ⟨⟨rfl, rfl⟩, Nat.le_of_ble_eq_true rfl, Nat.le_of_ble_eq_true rfl⟩ (zJ.sub (wr := wX8 G o0 d0 i0 i1 S0 ++ (wX6 G (d0 0) d1 S1 ++ (wX4 G (d0 2) d3 S3 ++ (wX2 G (d0 3) d4 S4 ++ (wX0 G (d0 4) d5 S5 ++ (wX0 G (d0 5) d6 S6 ++ (wX0 G (d0 6) d7 S7 ++ (wX7 G (d0 7) d8 S8 ++ (wX1 G (d0 8) d9 S9 ++ (wX2 G i0 d10 S10 ++ (wX2 G i1 d11 S11))))))))))) (w2 := (fun u : Unit => wX8 G o0 d0 i0 i1 S0 ++ (wX6 G (d0 0) d1 S1 ++ (wX4 G (d0 1) d2 S2 ++ (wX4 G (d0 2) d3 S3 ++ (wX2 G (d0 3) d4 S4 ++ (wX0 G (d0 4) d5 S5 ++ (wX0 G (d0 5) d6 S6 ++ (wX0 G (d0 6) d7 S7 ++ (wX7 G (d0 7) d8 S8 ++ (wX1 G (d0 8) d9 S9 ++ (wX2 G i0 d10 S10 ++ (wX2 G i1 d11 S11))))))))))))) hP hD hS hA [5, 6, 7, 8, 9, 10, 11, 12, 13, 14, 15, 16, 17, 18, 19, 20] [0, 1, 2, 3, 4, 21, 22, 23, 24, 25, 26, 27, 28, 29, 30, 31, 32, 33, 34, 35, 36, 37, 38, 39, 40, 41, 42, 43, 44, 45, 46, 47, 48, 49, 50, 51, 52, 53, 54, 55, 56, 57, 58, 59, 60, 61, 62, 63, 64, 65, 66, 67, 68, 69, 70, 71, 72, 73, 74, 75, 76, 77, 78] [0, 1, 2, 3, 4, 63, 64, 65, 66, 67, 68, 69, 70, 71, 72, 73, 74, 75, 76, 77, 78, 5, 6, 7, 8, 9, 10, 11, 12, 13, 14, 15, 16, 17, 18, 19, 20, 21, 22, 23, 24, 25, 26, 27, 28, 29, 30, 31, 32, 33, 34, 35, 36, 37, 38, 39, 40, 41, 42, 43, 44, 45, 46, 47, 48, 49, 50, 51, 52, 53, 54, 55, 56, 57, 58, 59, 60, 61, 62] rfl rfl (by decide) (fun u => rfl)) hS 3 rfl rfl rfl rfl hl.1 rfl (Nat.le_of_ble_eq_true rfl) dX8_last_5 (fun r_1 _u H locs hg hP hD hS => ?_)
  refine lv_if_ne (tgt := 13) hx hb dX8_last_8 (by decide) (fun c_2 => ?_) (fun c_2 => ?_)
  · have hg := hg.2 c_2
    refine lv_aload_n hx hb dX8_last_13 rfl (lv_at hl 0 rfl) ?_
    refine lv_aload_n hx hb dX8_last_14 rfl (lv_at hl 0 rfl) ?_
    refine va_get (D := G.1) (ci := 6) (v := .ref (d0 7)) (C := RX8) (T := TX8) (N := 12) hx hb hT iX8 hown hK hP 0 rfl rfl 7 (by decide) (hT _ q_273) (fun _ h9 => h9) rfl dX8_last_15 ?_
    refine va_get (D := G.1) (ci := 5) (v := .ref (d8 2)) (C := RX7) (T := TX7) (N := 5) hx hb hT iX7 hown hK hP 58 rfl rfl 2 (by decide) (hT _ q_227) (fun _ h9 => h9) rfl dX8_last_18 ?_
    refine lv_iload_n hx hb dX8_last_21 rfl (lv_at hl 1 rfl) ?_
    refine va_iald hx hb hK hP 59 0 rfl rfl hg.1 dX8_last_22 ?_
    have hg := hg.2
    refine z_put (D := G.1) (ci := 6) (v := .int (S8 2 x1.toNatClampNeg)) (ty := .int) (C := RX8) (T := TX8) (N := 12) hx hb hT iX8 tyX8 tyX8_ok nmX8 hown hK hP hD hS 0 rfl rfl 11 (by decide) (hT _ q_277) (fun _ h9 => h9) rfl (by decide +kernel) rfl rfl (Nat.le_of_ble_eq_true rfl) dX8_last_23 (zst S0 11 0 (S8 2 x1.toNatClampNeg)) (fun S : ZS => wX8 G o0 d0 i0 i1 S ++ (wX6 G (d0 0) d1 S1 ++ (wX4 G (d0 1) d2 S2 ++ (wX4 G (d0 2) d3 S3 ++ (wX2 G (d0 3) d4 S4 ++ (wX0 G (d0 4) d5 S5 ++ (wX0 G (d0 5) d6 S6 ++ (wX0 G (d0 6) d7 S7 ++ (wX7 G (d0 7) d8 S8 ++ (wX1 G (d0 8) d9 S9 ++ (wX2 G i0 d10 S10 ++ (wX2 G i1 d11 S11)))))))))))) rfl (fun S0_3 H locs eS0_3 hP hD hS => ?_)
    have hg := hg S0_3 eS0_3
    refine lv_iconst (v := 1) hx hb dX8_last_26 (by decide) ?_
    exact hret _ _ _ (S0_3) _ _ hg rfl hP hD hS dX8_last_27
  · have hg := hg.1 c_2
    refine lv_iconst (v := (-1)) hx hb dX8_last_11 (by decide) ?_
    exact hret _ _ _ (S0) _ _ hg rfl hP hD hS dX8_last_12
theorem zv_X8_count : zV yX8_count RX8 cX8_count 2 (some .int) 1 := ⟨q_619, q_620, q_1, q_621, by decide +kernel⟩
set_option maxHeartbeats 4000000 in
set_option maxRecDepth 100000 in
theorem c_X8_count (l : Launch) (G : ZG) (o0 : Nat) (d0 : Nat → Nat) (i0 i1 : Nat) (d1 : Nat → Nat) (d2 : Nat → Nat) (d3 : Nat → Nat) (d4 : Nat → Nat) (d5 : Nat → Nat) (d6 : Nat → Nat) (d7 : Nat → Nat) (d8 : Nat → Nat) (d9 : Nat → Nat) (d10 : Nat → Nat) (d11 : Nat → Nat) (x1 : Int32) (S0 : ZS) (S1 : ZS) (S2 : ZS) (S3 : ZS) (S4 : ZS) (S5 : ZS) (S6 : ZS) (S7 : ZS) (S8 : ZS) (S9 : ZS) (S10 : ZS) (S11 : ZS) (Q : Int32 → Prop) (hg : g_X8_count x1 S0 S1 S2 S3 S4 S5 S6 S7 S8 S9 S10 S11 Q) : Ki l G yX8_count cX8_count 2 .int rm_X8_count [.ref o0, .int x1] (wX8 G o0 d0 i0 i1 S0 ++ (wX6 G (d0 0) d1 S1 ++ (wX4 G (d0 1) d2 S2 ++ (wX4 G (d0 2) d3 S3 ++ (wX2 G (d0 3) d4 S4 ++ (wX0 G (d0 4) d5 S5 ++ (wX0 G (d0 5) d6 S6 ++ (wX0 G (d0 6) d7 S7 ++ (wX7 G (d0 7) d8 S8 ++ (wX1 G (d0 8) d9 S9 ++ (wX2 G i0 d10 S10 ++ (wX2 G i1 d11 S11)))))))))))) (fun _ : Unit => wX8 G o0 d0 i0 i1 S0 ++ (wX6 G (d0 0) d1 S1 ++ (wX4 G (d0 1) d2 S2 ++ (wX4 G (d0 2) d3 S3 ++ (wX2 G (d0 3) d4 S4 ++ (wX0 G (d0 4) d5 S5 ++ (wX0 G (d0 5) d6 S6 ++ (wX0 G (d0 6) d7 S7 ++ (wX7 G (d0 7) d8 S8 ++ (wX1 G (d0 8) d9 S9 ++ (wX2 G i0 d10 S10 ++ (wX2 G i1 d11 S11)))))))))))) (fun r _ => Q r ) := by
  refine Ki.of (by decide) (Nat.le_of_ble_eq_true rfl) ?_
  intro p e s m args below meth c A QQ ls Cx hret hl hP hD hS
  obtain ⟨hx, hb, hml, hown, hT, hK, hA⟩ := id Cx
  have hl : lv_has ls 2 [(0, .ref o0), (1, .int x1)] := hl
  refine lv_iload_n hx hb dX8_count_0 rfl (lv_at hl 1 rfl) ?_
  by_cases k0 : x1 = 0
  · have hg := hg.1 k0
    refine lv_tableIn (tgt := 68) hx hb dX8_count_1 (by rw [k0]; decide) (by rw [k0]; decide) (by rw [k0]; rfl) (by decide) ?_
    refine lv_aload_n hx hb dX8_count_68 rfl (lv_at hl 0 rfl) ?_
    refine va_get (D := G.1) (ci := 6) (v := .ref (d0 1)) (C := RX8) (T := TX8) (N := 12) hx hb hT iX8 hown hK hP 0 rfl rfl 1 (by decide) (hT _ q_267) (fun _ h9 => h9) rfl dX8_count_69 ?_
    refine va_get (D := G.1) (ci := 3) (v := .int (S2 1 0)) (C := RX4) (T := TX4) (N := 17) hx hb hT iX4 hown hK hP 5 rfl rfl 1 (by decide) (hT _ q_66) (fun _ h9 => h9) rfl dX8_count_72 ?_
    exact hret _ _ _ () _ _ hg rfl hP hD hS dX8_count_75
  by_cases k1 : x1 = 1
  · have hg := hg.2.1 k1
    refine lv_tableIn (tgt := 76) hx hb dX8_count_1 (by rw [k1]; decide) (by rw [k1]; decide) (by rw [k1]; rfl) (by decide) ?_
    refine lv_aload_n hx hb dX8_count_76 rfl (lv_at hl 0 rfl) ?_
    refine va_get (D := G.1) (ci := 6) (v := .ref (d0 1)) (C := RX8) (T := TX8) (N := 12) hx hb hT iX8 hown hK hP 0 rfl rfl 1 (by decide) (hT _ q_267) (fun _ h9 => h9) rfl dX8_count_77 ?_
    refine va_get (D := G.1) (ci := 3) (v := .int (S2 0 0)) (C := RX4) (T := TX4) (N := 17) hx hb hT iX4 hown hK hP 5 rfl rfl 0 (by decide) (hT _ q_64) (fun _ h9 => h9) rfl dX8_count_80 ?_
    exact hret _ _ _ () _ _ hg rfl hP hD hS dX8_count_83
  by_cases k2 : x1 = 2
  · have hg := hg.2.2.1 k2
    refine lv_tableIn (tgt := 84) hx hb dX8_count_1 (by rw [k2]; decide) (by rw [k2]; decide) (by rw [k2]; rfl) (by decide) ?_
    refine lv_aload_n hx hb dX8_count_84 rfl (lv_at hl 0 rfl) ?_
    refine va_get (D := G.1) (ci := 6) (v := .ref (d0 1)) (C := RX8) (T := TX8) (N := 12) hx hb hT iX8 hown hK hP 0 rfl rfl 1 (by decide) (hT _ q_267) (fun _ h9 => h9) rfl dX8_count_85 ?_
    refine zcVi (As := []) (rest := []) (C := RX4) Cx (c_X4_edges l G (d0 1) d2 S2 _ hg) zv_X4_edges q_622 ⟨⟨rfl, rfl⟩, Nat.le_of_ble_eq_true rfl, Nat.le_of_ble_eq_true rfl⟩ (zJ.sub (wr := wX8 G o0 d0 i0 i1 S0 ++ (wX6 G (d0 0) d1 S1 ++ (wX4 G (d0 2) d3 S3 ++ (wX2 G (d0 3) d4 S4 ++ (wX0 G (d0 4) d5 S5 ++ (wX0 G (d0 5) d6 S6 ++ (wX0 G (d0 6) d7 S7 ++ (wX7 G (d0 7) d8 S8 ++ (wX1 G (d0 8) d9 S9 ++ (wX2 G i0 d10 S10 ++ (wX2 G i1 d11 S11))))))))))) (w2 := (fun u : Unit => wX8 G o0 d0 i0 i1 S0 ++ (wX6 G (d0 0) d1 S1 ++ (wX4 G (d0 1) d2 S2 ++ (wX4 G (d0 2) d3 S3 ++ (wX2 G (d0 3) d4 S4 ++ (wX0 G (d0 4) d5 S5 ++ (wX0 G (d0 5) d6 S6 ++ (wX0 G (d0 6) d7 S7 ++ (wX7 G (d0 7) d8 S8 ++ (wX1 G (d0 8) d9 S9 ++ (wX2 G i0 d10 S10 ++ (wX2 G i1 d11 S11))))))))))))) hP hD hS hA [5, 6, 7, 8, 9, 10, 11, 12, 13, 14, 15, 16, 17, 18, 19, 20] [0, 1, 2, 3, 4, 21, 22, 23, 24, 25, 26, 27, 28, 29, 30, 31, 32, 33, 34, 35, 36, 37, 38, 39, 40, 41, 42, 43, 44, 45, 46, 47, 48, 49, 50, 51, 52, 53, 54, 55, 56, 57, 58, 59, 60, 61, 62, 63, 64, 65, 66, 67, 68, 69, 70, 71, 72, 73, 74, 75, 76, 77, 78] [0, 1, 2, 3, 4, 63, 64, 65, 66, 67, 68, 69, 70, 71, 72, 73, 74, 75, 76, 77, 78, 5, 6, 7, 8, 9, 10, 11, 12, 13, 14, 15, 16, 17, 18, 19, 20, 21, 22, 23, 24, 25, 26, 27, 28, 29, 30, 31, 32, 33, 34, 35, 36, 37, 38, 39, 40, 41, 42, 43, 44, 45, 46, 47, 48, 49, 50, 51, 52, 53, 54, 55, 56, 57, 58, 59, 60, 61, 62] rfl rfl (by decide) (fun u => rfl)) hS 3 rfl rfl rfl rfl hl.1 rfl (Nat.le_of_ble_eq_true rfl) dX8_count_88 (fun r_1 _u H locs hg hP hD hS => ?_)
    exact hret _ _ _ () _ _ hg rfl hP hD hS dX8_count_91
  by_cases k3 : x1 = 3
  · have hg := hg.2.2.2.1 k3
    refine lv_tableIn (tgt := 92) hx hb dX8_count_1 (by rw [k3]; decide) (by rw [k3]; decide) (by rw [k3]; rfl) (by decide) ?_
    refine lv_aload_n hx hb dX8_count_92 rfl (lv_at hl 0 rfl) ?_
    refine va_get (D := G.1) (ci := 6) (v := .ref (d0 4)) (C := RX8) (T := TX8) (N := 12) hx hb hT iX8 hown hK hP 0 rfl rfl 4 (by decide) (hT _ q_270) (fun _ h9 => h9) rfl dX8_count_93 ?_
    refine lv_aload_n hx hb dX8_count_96 rfl (lv_at hl 0 rfl) ?_
    refine va_get (D := G.1) (ci := 6) (v := .ref (d0 1)) (C := RX8) (T := TX8) (N := 12) hx hb hT iX8 hown hK hP 0 rfl rfl 1 (by decide) (hT _ q_267) (fun _ h9 => h9) rfl dX8_count_97 ?_
    refine zcVi (As := [.ref (d0 1)]) (rest := []) (C := RX0) Cx (c_X0_liveBlocks l G (d0 4) d5 (d0 1) d2 S5 S2 _ hg) zv_X0_liveBlocks q_593 ⟨⟨rfl, rfl⟩, Nat.le_of_ble_eq_true rfl, Nat.le_of_ble_eq_true rfl⟩ (zJ.sub (wr := wX8 G o0 d0 i0 i1 S0 ++ (wX6 G (d0 0) d1 S1 ++ (wX4 G (d0 2) d3 S3 ++ (wX2 G (d0 3) d4 S4 ++ (wX0 G (d0 5) d6 S6 ++ (wX0 G (d0 6) d7 S7 ++ (wX7 G (d0 7) d8 S8 ++ (wX1 G (d0 8) d9 S9 ++ (wX2 G i0 d10 S10 ++ (wX2 G i1 d11 S11)))))))))) (w2 := (fun u : Unit => wX8 G o0 d0 i0 i1 S0 ++ (wX6 G (d0 0) d1 S1 ++ (wX4 G (d0 1) d2 S2 ++ (wX4 G (d0 2) d3 S3 ++ (wX2 G (d0 3) d4 S4 ++ (wX0 G (d0 4) d5 S5 ++ (wX0 G (d0 5) d6 S6 ++ (wX0 G (d0 6) d7 S7 ++ (wX7 G (d0 7) d8 S8 ++ (wX1 G (d0 8) d9 S9 ++ (wX2 G i0 d10 S10 ++ (wX2 G i1 d11 S11))))))))))))) hP hD hS hA [43, 44, 45, 46, 47, 5, 6, 7, 8, 9, 10, 11, 12, 13, 14, 15, 16, 17, 18, 19, 20] [0, 1, 2, 3, 4, 21, 22, 23, 24, 25, 26, 27, 28, 29, 30, 31, 32, 33, 34, 35, 36, 37, 38, 39, 40, 41, 42, 48, 49, 50, 51, 52, 53, 54, 55, 56, 57, 58, 59, 60, 61, 62, 63, 64, 65, 66, 67, 68, 69, 70, 71, 72, 73, 74, 75, 76, 77, 78] [0, 1, 2, 3, 4, 63, 64, 65, 66, 67, 68, 69, 70, 71, 72, 73, 74, 75, 76, 77, 78, 5, 6, 7, 8, 9, 10, 11, 12, 13, 14, 15, 16, 17, 18, 19, 20, 21, 22, 23, 24, 25, 26, 58, 59, 60, 61, 62, 27, 28, 29, 30, 31, 32, 33, 34, 35, 36, 37, 38, 39, 40, 41, 42, 43, 44, 45, 46, 47, 48, 49, 50, 51, 52, 53, 54, 55, 56, 57] rfl rfl (by decide) (fun u => rfl)) hS 0 rfl rfl rfl rfl hl.1 rfl (Nat.le_of_ble_eq_true rfl) dX8_count_100 (fun r_2 _u H locs hg hP hD hS => ?_)
    exact hret _ _ _ () _ _ hg rfl hP hD hS dX8_count_103
  by_cases k4 : x1 = 4
  · have hg := hg.2.2.2.2.1 k4
    refine lv_tableIn (tgt := 104) hx hb dX8_count_1 (by rw [k4]; decide) (by rw [k4]; decide) (by rw [k4]; rfl) (by decide) ?_
    refine lv_aload_n hx hb dX8_count_104 rfl (lv_at hl 0 rfl) ?_
    refine va_get (D := G.1) (ci := 6) (v := .ref (d0 4)) (C := RX8) (T := TX8) (N := 12) hx hb hT iX8 hown hK hP 0 rfl rfl 4 (by decide) (hT _ q_270) (fun _ h9 => h9) rfl dX8_count_105 ?_
    refine zcVi (As := []) (rest := []) (C := RX0) Cx (c_X0_liveEdges l G (d0 4) d5 S5 _ hg) zv_X0_liveEdges q_626 ⟨⟨rfl, rfl⟩, Nat.le_of_ble_eq_true rfl, Nat.le_of_ble_eq_true rfl⟩ (zJ.sub (wr := wX8 G o0 d0 i0 i1 S0 ++ (wX6 G (d0 0) d1 S1 ++ (wX4 G (d0 1) d2 S2 ++ (wX4 G (d0 2) d3 S3 ++ (wX2 G (d0 3) d4 S4 ++ (wX0 G (d0 5) d6 S6 ++ (wX0 G (d0 6) d7 S7 ++ (wX7 G (d0 7) d8 S8 ++ (wX1 G (d0 8) d9 S9 ++ (wX2 G i0 d10 S10 ++ (wX2 G i1 d11 S11))))))))))) (w2 := (fun u : Unit => wX8 G o0 d0 i0 i1 S0 ++ (wX6 G (d0 0) d1 S1 ++ (wX4 G (d0 1) d2 S2 ++ (wX4 G (d0 2) d3 S3 ++ (wX2 G (d0 3) d4 S4 ++ (wX0 G (d0 4) d5 S5 ++ (wX0 G (d0 5) d6 S6 ++ (wX0 G (d0 6) d7 S7 ++ (wX7 G (d0 7) d8 S8 ++ (wX1 G (d0 8) d9 S9 ++ (wX2 G i0 d10 S10 ++ (wX2 G i1 d11 S11))))))))))))) hP hD hS hA [43, 44, 45, 46, 47] [0, 1, 2, 3, 4, 5, 6, 7, 8, 9, 10, 11, 12, 13, 14, 15, 16, 17, 18, 19, 20, 21, 22, 23, 24, 25, 26, 27, 28, 29, 30, 31, 32, 33, 34, 35, 36, 37, 38, 39, 40, 41, 42, 48, 49, 50, 51, 52, 53, 54, 55, 56, 57, 58, 59, 60, 61, 62, 63, 64, 65, 66, 67, 68, 69, 70, 71, 72, 73, 74, 75, 76, 77, 78] [0, 1, 2, 3, 4, 5, 6, 7, 8, 9, 10, 11, 12, 13, 14, 15, 16, 17, 18, 19, 20, 21, 22, 23, 24, 25, 26, 27, 28, 29, 30, 31, 32, 33, 34, 35, 36, 37, 38, 39, 40, 41, 42, 74, 75, 76, 77, 78, 43, 44, 45, 46, 47, 48, 49, 50, 51, 52, 53, 54, 55, 56, 57, 58, 59, 60, 61, 62, 63, 64, 65, 66, 67, 68, 69, 70, 71, 72, 73] rfl rfl (by decide) (fun u => rfl)) hS 0 rfl rfl rfl rfl hl.1 rfl (Nat.le_of_ble_eq_true rfl) dX8_count_108 (fun r_3 _u H locs hg hP hD hS => ?_)
    exact hret _ _ _ () _ _ hg rfl hP hD hS dX8_count_111
  by_cases k5 : x1 = 5
  · have hg := hg.2.2.2.2.2.1 k5
    refine lv_tableIn (tgt := 112) hx hb dX8_count_1 (by rw [k5]; decide) (by rw [k5]; decide) (by rw [k5]; rfl) (by decide) ?_
    refine lv_aload_n hx hb dX8_count_112 rfl (lv_at hl 0 rfl) ?_
    refine va_get (D := G.1) (ci := 6) (v := .ref (d0 4)) (C := RX8) (T := TX8) (N := 12) hx hb hT iX8 hown hK hP 0 rfl rfl 4 (by decide) (hT _ q_270) (fun _ h9 => h9) rfl dX8_count_113 ?_
    refine lv_iconst (v := 1) hx hb dX8_count_116 (by decide) ?_
    refine lv_aload_n hx hb dX8_count_117 rfl (lv_at hl 0 rfl) ?_
    refine va_get (D := G.1) (ci := 6) (v := .ref (d0 1)) (C := RX8) (T := TX8) (N := 12) hx hb hT iX8 hown hK hP 0 rfl rfl 1 (by decide) (hT _ q_267) (fun _ h9 => h9) rfl dX8_count_118 ?_
    refine zcVi (As := [.int 1, .ref (d0 1)]) (rest := []) (C := RX0) Cx (c_X0_namesThatAre l G (d0 4) d5 (d0 1) d2 1 S5 S2 _ hg) zv_X0_namesThatAre q_569 ⟨⟨rfl, rfl⟩, Nat.le_of_ble_eq_true rfl, Nat.le_of_ble_eq_true rfl⟩ (zJ.sub (wr := wX8 G o0 d0 i0 i1 S0 ++ (wX6 G (d0 0) d1 S1 ++ (wX4 G (d0 2) d3 S3 ++ (wX2 G (d0 3) d4 S4 ++ (wX0 G (d0 5) d6 S6 ++ (wX0 G (d0 6) d7 S7 ++ (wX7 G (d0 7) d8 S8 ++ (wX1 G (d0 8) d9 S9 ++ (wX2 G i0 d10 S10 ++ (wX2 G i1 d11 S11)))))))))) (w2 := (fun u : Unit => wX8 G o0 d0 i0 i1 S0 ++ (wX6 G (d0 0) d1 S1 ++ (wX4 G (d0 1) d2 S2 ++ (wX4 G (d0 2) d3 S3 ++ (wX2 G (d0 3) d4 S4 ++ (wX0 G (d0 4) d5 S5 ++ (wX0 G (d0 5) d6 S6 ++ (wX0 G (d0 6) d7 S7 ++ (wX7 G (d0 7) d8 S8 ++ (wX1 G (d0 8) d9 S9 ++ (wX2 G i0 d10 S10 ++ (wX2 G i1 d11 S11))))))))))))) hP hD hS hA [43, 44, 45, 46, 47, 5, 6, 7, 8, 9, 10, 11, 12, 13, 14, 15, 16, 17, 18, 19, 20] [0, 1, 2, 3, 4, 21, 22, 23, 24, 25, 26, 27, 28, 29, 30, 31, 32, 33, 34, 35, 36, 37, 38, 39, 40, 41, 42, 48, 49, 50, 51, 52, 53, 54, 55, 56, 57, 58, 59, 60, 61, 62, 63, 64, 65, 66, 67, 68, 69, 70, 71, 72, 73, 74, 75, 76, 77, 78] [0, 1, 2, 3, 4, 63, 64, 65, 66, 67, 68, 69, 70, 71, 72, 73, 74, 75, 76, 77, 78, 5, 6, 7, 8, 9, 10, 11, 12, 13, 14, 15, 16, 17, 18, 19, 20, 21, 22, 23, 24, 25, 26, 58, 59, 60, 61, 62, 27, 28, 29, 30, 31, 32, 33, 34, 35, 36, 37, 38, 39, 40, 41, 42, 43, 44, 45, 46, 47, 48, 49, 50, 51, 52, 53, 54, 55, 56, 57] rfl rfl (by decide) (fun u => rfl)) hS 0 rfl rfl rfl rfl hl.1 rfl (Nat.le_of_ble_eq_true rfl) dX8_count_121 (fun r_4 _u H locs hg hP hD hS => ?_)
    exact hret _ _ _ () _ _ hg rfl hP hD hS dX8_count_124
  by_cases k6 : x1 = 6
  · have hg := hg.2.2.2.2.2.2.1 k6
    refine lv_tableIn (tgt := 125) hx hb dX8_count_1 (by rw [k6]; decide) (by rw [k6]; decide) (by rw [k6]; rfl) (by decide) ?_
    refine lv_aload_n hx hb dX8_count_125 rfl (lv_at hl 0 rfl) ?_
    refine va_get (D := G.1) (ci := 6) (v := .ref (d0 4)) (C := RX8) (T := TX8) (N := 12) hx hb hT iX8 hown hK hP 0 rfl rfl 4 (by decide) (hT _ q_270) (fun _ h9 => h9) rfl dX8_count_126 ?_
    refine lv_iconst (v := 0) hx hb dX8_count_129 (by decide) ?_
    refine lv_aload_n hx hb dX8_count_130 rfl (lv_at hl 0 rfl) ?_
    refine va_get (D := G.1) (ci := 6) (v := .ref (d0 1)) (C := RX8) (T := TX8) (N := 12) hx hb hT iX8 hown hK hP 0 rfl rfl 1 (by decide) (hT _ q_267) (fun _ h9 => h9) rfl dX8_count_131 ?_
    refine zcVi (As := [.int 0, .ref (d0 1)]) (rest := []) (C := RX0) Cx (c_X0_namesThatAre l G (d0 4) d5 (d0 1) d2 0 S5 S2 _ hg) zv_X0_namesThatAre q_569 ⟨⟨rfl, rfl⟩, Nat.le_of_ble_eq_true rfl, Nat.le_of_ble_eq_true rfl⟩ (zJ.sub (wr := wX8 G o0 d0 i0 i1 S0 ++ (wX6 G (d0 0) d1 S1 ++ (wX4 G (d0 2) d3 S3 ++ (wX2 G (d0 3) d4 S4 ++ (wX0 G (d0 5) d6 S6 ++ (wX0 G (d0 6) d7 S7 ++ (wX7 G (d0 7) d8 S8 ++ (wX1 G (d0 8) d9 S9 ++ (wX2 G i0 d10 S10 ++ (wX2 G i1 d11 S11)))))))))) (w2 := (fun u : Unit => wX8 G o0 d0 i0 i1 S0 ++ (wX6 G (d0 0) d1 S1 ++ (wX4 G (d0 1) d2 S2 ++ (wX4 G (d0 2) d3 S3 ++ (wX2 G (d0 3) d4 S4 ++ (wX0 G (d0 4) d5 S5 ++ (wX0 G (d0 5) d6 S6 ++ (wX0 G (d0 6) d7 S7 ++ (wX7 G (d0 7) d8 S8 ++ (wX1 G (d0 8) d9 S9 ++ (wX2 G i0 d10 S10 ++ (wX2 G i1 d11 S11))))))))))))) hP hD hS hA [43, 44, 45, 46, 47, 5, 6, 7, 8, 9, 10, 11, 12, 13, 14, 15, 16, 17, 18, 19, 20] [0, 1, 2, 3, 4, 21, 22, 23, 24, 25, 26, 27, 28, 29, 30, 31, 32, 33, 34, 35, 36, 37, 38, 39, 40, 41, 42, 48, 49, 50, 51, 52, 53, 54, 55, 56, 57, 58, 59, 60, 61, 62, 63, 64, 65, 66, 67, 68, 69, 70, 71, 72, 73, 74, 75, 76, 77, 78] [0, 1, 2, 3, 4, 63, 64, 65, 66, 67, 68, 69, 70, 71, 72, 73, 74, 75, 76, 77, 78, 5, 6, 7, 8, 9, 10, 11, 12, 13, 14, 15, 16, 17, 18, 19, 20, 21, 22, 23, 24, 25, 26, 58, 59, 60, 61, 62, 27, 28, 29, 30, 31, 32, 33, 34, 35, 36, 37, 38, 39, 40, 41, 42, 43, 44, 45, 46, 47, 48, 49, 50, 51, 52, 53, 54, 55, 56, 57] rfl rfl (by decide) (fun u => rfl)) hS 0 rfl rfl rfl rfl hl.1 rfl (Nat.le_of_ble_eq_true rfl) dX8_count_134 (fun r_5 _u H locs hg hP hD hS => ?_)
    exact hret _ _ _ () _ _ hg rfl hP hD hS dX8_count_137
  by_cases k7 : x1 = 7
  · have hg := hg.2.2.2.2.2.2.2.1 k7
    refine lv_tableIn (tgt := 138) hx hb dX8_count_1 (by rw [k7]; decide) (by rw [k7]; decide) (by rw [k7]; rfl) (by decide) ?_
    refine lv_aload_n hx hb dX8_count_138 rfl (lv_at hl 0 rfl) ?_
    refine va_get (D := G.1) (ci := 6) (v := .ref (d0 4)) (C := RX8) (T := TX8) (N := 12) hx hb hT iX8 hown hK hP 0 rfl rfl 4 (by decide) (hT _ q_270) (fun _ h9 => h9) rfl dX8_count_139 ?_
    refine lv_aload_n hx hb dX8_count_142 rfl (lv_at hl 0 rfl) ?_
    refine va_get (D := G.1) (ci := 6) (v := .ref (d0 1)) (C := RX8) (T := TX8) (N := 12) hx hb hT iX8 hown hK hP 0 rfl rfl 1 (by decide) (hT _ q_267) (fun _ h9 => h9) rfl dX8_count_143 ?_
    refine zcVi (As := [.ref (d0 1)]) (rest := []) (C := RX0) Cx (c_X0_foldedNames l G (d0 4) d5 (d0 1) d2 S5 S2 _ hg) zv_X0_foldedNames q_630 ⟨⟨rfl, rfl⟩, Nat.le_of_ble_eq_true rfl, Nat.le_of_ble_eq_true rfl⟩ (zJ.sub (wr := wX8 G o0 d0 i0 i1 S0 ++ (wX6 G (d0 0) d1 S1 ++ (wX4 G (d0 2) d3 S3 ++ (wX2 G (d0 3) d4 S4 ++ (wX0 G (d0 5) d6 S6 ++ (wX0 G (d0 6) d7 S7 ++ (wX7 G (d0 7) d8 S8 ++ (wX1 G (d0 8) d9 S9 ++ (wX2 G i0 d10 S10 ++ (wX2 G i1 d11 S11)))))))))) (w2 := (fun u : Unit => wX8 G o0 d0 i0 i1 S0 ++ (wX6 G (d0 0) d1 S1 ++ (wX4 G (d0 1) d2 S2 ++ (wX4 G (d0 2) d3 S3 ++ (wX2 G (d0 3) d4 S4 ++ (wX0 G (d0 4) d5 S5 ++ (wX0 G (d0 5) d6 S6 ++ (wX0 G (d0 6) d7 S7 ++ (wX7 G (d0 7) d8 S8 ++ (wX1 G (d0 8) d9 S9 ++ (wX2 G i0 d10 S10 ++ (wX2 G i1 d11 S11))))))))))))) hP hD hS hA [43, 44, 45, 46, 47, 5, 6, 7, 8, 9, 10, 11, 12, 13, 14, 15, 16, 17, 18, 19, 20] [0, 1, 2, 3, 4, 21, 22, 23, 24, 25, 26, 27, 28, 29, 30, 31, 32, 33, 34, 35, 36, 37, 38, 39, 40, 41, 42, 48, 49, 50, 51, 52, 53, 54, 55, 56, 57, 58, 59, 60, 61, 62, 63, 64, 65, 66, 67, 68, 69, 70, 71, 72, 73, 74, 75, 76, 77, 78] [0, 1, 2, 3, 4, 63, 64, 65, 66, 67, 68, 69, 70, 71, 72, 73, 74, 75, 76, 77, 78, 5, 6, 7, 8, 9, 10, 11, 12, 13, 14, 15, 16, 17, 18, 19, 20, 21, 22, 23, 24, 25, 26, 58, 59, 60, 61, 62, 27, 28, 29, 30, 31, 32, 33, 34, 35, 36, 37, 38, 39, 40, 41, 42, 43, 44, 45, 46, 47, 48, 49, 50, 51, 52, 53, 54, 55, 56, 57] rfl rfl (by decide) (fun u => rfl)) hS 0 rfl rfl rfl rfl hl.1 rfl (Nat.le_of_ble_eq_true rfl) dX8_count_146 (fun r_6 _u H locs hg hP hD hS => ?_)
    exact hret _ _ _ () _ _ hg rfl hP hD hS dX8_count_149
  by_cases k8 : x1 = 8
  · have hg := hg.2.2.2.2.2.2.2.2.1 k8
    refine lv_tableIn (tgt := 150) hx hb dX8_count_1 (by rw [k8]; decide) (by rw [k8]; decide) (by rw [k8]; rfl) (by decide) ?_
    refine lv_aload_n hx hb dX8_count_150 rfl (lv_at hl 0 rfl) ?_
    refine va_get (D := G.1) (ci := 6) (v := .ref (d0 4)) (C := RX8) (T := TX8) (N := 12) hx hb hT iX8 hown hK hP 0 rfl rfl 4 (by decide) (hT _ q_270) (fun _ h9 => h9) rfl dX8_count_151 ?_
    refine lv_aload_n hx hb dX8_count_154 rfl (lv_at hl 0 rfl) ?_
    refine va_get (D := G.1) (ci := 6) (v := .ref (d0 1)) (C := RX8) (T := TX8) (N := 12) hx hb hT iX8 hown hK hP 0 rfl rfl 1 (by decide) (hT _ q_267) (fun _ h9 => h9) rfl dX8_count_155 ?_
    refine zcVi (As := [.ref (d0 1)]) (rest := []) (C := RX0) Cx (c_X0_foldedEnds l G (d0 4) d5 (d0 1) d2 S5 S2 _ hg) zv_X0_foldedEnds q_634 ⟨⟨rfl, rfl⟩, Nat.le_of_ble_eq_true rfl, Nat.le_of_ble_eq_true rfl⟩ (zJ.sub (wr := wX8 G o0 d0 i0 i1 S0 ++ (wX6 G (d0 0) d1 S1 ++ (wX4 G (d0 2) d3 S3 ++ (wX2 G (d0 3) d4 S4 ++ (wX0 G (d0 5) d6 S6 ++ (wX0 G (d0 6) d7 S7 ++ (wX7 G (d0 7) d8 S8 ++ (wX1 G (d0 8) d9 S9 ++ (wX2 G i0 d10 S10 ++ (wX2 G i1 d11 S11)))))))))) (w2 := (fun u : Unit => wX8 G o0 d0 i0 i1 S0 ++ (wX6 G (d0 0) d1 S1 ++ (wX4 G (d0 1) d2 S2 ++ (wX4 G (d0 2) d3 S3 ++ (wX2 G (d0 3) d4 S4 ++ (wX0 G (d0 4) d5 S5 ++ (wX0 G (d0 5) d6 S6 ++ (wX0 G (d0 6) d7 S7 ++ (wX7 G (d0 7) d8 S8 ++ (wX1 G (d0 8) d9 S9 ++ (wX2 G i0 d10 S10 ++ (wX2 G i1 d11 S11))))))))))))) hP hD hS hA [43, 44, 45, 46, 47, 5, 6, 7, 8, 9, 10, 11, 12, 13, 14, 15, 16, 17, 18, 19, 20] [0, 1, 2, 3, 4, 21, 22, 23, 24, 25, 26, 27, 28, 29, 30, 31, 32, 33, 34, 35, 36, 37, 38, 39, 40, 41, 42, 48, 49, 50, 51, 52, 53, 54, 55, 56, 57, 58, 59, 60, 61, 62, 63, 64, 65, 66, 67, 68, 69, 70, 71, 72, 73, 74, 75, 76, 77, 78] [0, 1, 2, 3, 4, 63, 64, 65, 66, 67, 68, 69, 70, 71, 72, 73, 74, 75, 76, 77, 78, 5, 6, 7, 8, 9, 10, 11, 12, 13, 14, 15, 16, 17, 18, 19, 20, 21, 22, 23, 24, 25, 26, 58, 59, 60, 61, 62, 27, 28, 29, 30, 31, 32, 33, 34, 35, 36, 37, 38, 39, 40, 41, 42, 43, 44, 45, 46, 47, 48, 49, 50, 51, 52, 53, 54, 55, 56, 57] rfl rfl (by decide) (fun u => rfl)) hS 0 rfl rfl rfl rfl hl.1 rfl (Nat.le_of_ble_eq_true rfl) dX8_count_158 (fun r_7 _u H locs hg hP hD hS => ?_)
    exact hret _ _ _ () _ _ hg rfl hP hD hS dX8_count_161
  by_cases k9 : x1 = 9
  · have hg := hg.2.2.2.2.2.2.2.2.2.1 k9
    refine lv_tableIn (tgt := 162) hx hb dX8_count_1 (by rw [k9]; decide) (by rw [k9]; decide) (by rw [k9]; rfl) (by decide) ?_
    refine lv_aload_n hx hb dX8_count_162 rfl (lv_at hl 0 rfl) ?_
    refine va_get (D := G.1) (ci := 6) (v := .ref (d0 4)) (C := RX8) (T := TX8) (N := 12) hx hb hT iX8 hown hK hP 0 rfl rfl 4 (by decide) (hT _ q_270) (fun _ h9 => h9) rfl dX8_count_163 ?_
    refine lv_aload_n hx hb dX8_count_166 rfl (lv_at hl 0 rfl) ?_
    refine va_get (D := G.1) (ci := 6) (v := .ref (d0 1)) (C := RX8) (T := TX8) (N := 12) hx hb hT iX8 hown hK hP 0 rfl rfl 1 (by decide) (hT _ q_267) (fun _ h9 => h9) rfl dX8_count_167 ?_
    refine zcVi (As := [.ref (d0 1)]) (rest := []) (C := RX0) Cx (c_X0_stayingNames l G (d0 4) d5 (d0 1) d2 S5 S2 _ hg) zv_X0_stayingNames q_638 ⟨⟨rfl, rfl⟩, Nat.le_of_ble_eq_true rfl, Nat.le_of_ble_eq_true rfl⟩ (zJ.sub (wr := wX8 G o0 d0 i0 i1 S0 ++ (wX6 G (d0 0) d1 S1 ++ (wX4 G (d0 2) d3 S3 ++ (wX2 G (d0 3) d4 S4 ++ (wX0 G (d0 5) d6 S6 ++ (wX0 G (d0 6) d7 S7 ++ (wX7 G (d0 7) d8 S8 ++ (wX1 G (d0 8) d9 S9 ++ (wX2 G i0 d10 S10 ++ (wX2 G i1 d11 S11)))))))))) (w2 := (fun u : Unit => wX8 G o0 d0 i0 i1 S0 ++ (wX6 G (d0 0) d1 S1 ++ (wX4 G (d0 1) d2 S2 ++ (wX4 G (d0 2) d3 S3 ++ (wX2 G (d0 3) d4 S4 ++ (wX0 G (d0 4) d5 S5 ++ (wX0 G (d0 5) d6 S6 ++ (wX0 G (d0 6) d7 S7 ++ (wX7 G (d0 7) d8 S8 ++ (wX1 G (d0 8) d9 S9 ++ (wX2 G i0 d10 S10 ++ (wX2 G i1 d11 S11))))))))))))) hP hD hS hA [43, 44, 45, 46, 47, 5, 6, 7, 8, 9, 10, 11, 12, 13, 14, 15, 16, 17, 18, 19, 20] [0, 1, 2, 3, 4, 21, 22, 23, 24, 25, 26, 27, 28, 29, 30, 31, 32, 33, 34, 35, 36, 37, 38, 39, 40, 41, 42, 48, 49, 50, 51, 52, 53, 54, 55, 56, 57, 58, 59, 60, 61, 62, 63, 64, 65, 66, 67, 68, 69, 70, 71, 72, 73, 74, 75, 76, 77, 78] [0, 1, 2, 3, 4, 63, 64, 65, 66, 67, 68, 69, 70, 71, 72, 73, 74, 75, 76, 77, 78, 5, 6, 7, 8, 9, 10, 11, 12, 13, 14, 15, 16, 17, 18, 19, 20, 21, 22, 23, 24, 25, 26, 58, 59, 60, 61, 62, 27, 28, 29, 30, 31, 32, 33, 34, 35, 36, 37, 38, 39, 40, 41, 42, 43, 44, 45, 46, 47, 48, 49, 50, 51, 52, 53, 54, 55, 56, 57] rfl rfl (by decide) (fun u => rfl)) hS 0 rfl rfl rfl rfl hl.1 rfl (Nat.le_of_ble_eq_true rfl) dX8_count_170 (fun r_8 _u H locs hg hP hD hS => ?_)
    exact hret _ _ _ () _ _ hg rfl hP hD hS dX8_count_173
  by_cases k10 : x1 = 10
  · have hg := hg.2.2.2.2.2.2.2.2.2.2.1 k10
    refine lv_tableIn (tgt := 174) hx hb dX8_count_1 (by rw [k10]; decide) (by rw [k10]; decide) (by rw [k10]; rfl) (by decide) ?_
    refine lv_aload_n hx hb dX8_count_174 rfl (lv_at hl 0 rfl) ?_
    refine va_get (D := G.1) (ci := 6) (v := .ref (d0 4)) (C := RX8) (T := TX8) (N := 12) hx hb hT iX8 hown hK hP 0 rfl rfl 4 (by decide) (hT _ q_270) (fun _ h9 => h9) rfl dX8_count_175 ?_
    refine lv_aload_n hx hb dX8_count_178 rfl (lv_at hl 0 rfl) ?_
    refine va_get (D := G.1) (ci := 6) (v := .ref (d0 5)) (C := RX8) (T := TX8) (N := 12) hx hb hT iX8 hown hK hP 0 rfl rfl 5 (by decide) (hT _ q_271) (fun _ h9 => h9) rfl dX8_count_179 ?_
    refine lv_aload_n hx hb dX8_count_182 rfl (lv_at hl 0 rfl) ?_
    refine va_get (D := G.1) (ci := 6) (v := .ref (d0 1)) (C := RX8) (T := TX8) (N := 12) hx hb hT iX8 hown hK hP 0 rfl rfl 1 (by decide) (hT _ q_267) (fun _ h9 => h9) rfl dX8_count_183 ?_
    refine zcVi (As := [.ref (d0 5), .ref (d0 1)]) (rest := []) (C := RX0) Cx (c_X0_gainOver l G (d0 4) d5 (d0 5) d6 (d0 1) d2 S5 S6 S2 _ hg) zv_X0_gainOver q_642 ⟨⟨rfl, rfl⟩, Nat.le_of_ble_eq_true rfl, Nat.le_of_ble_eq_true rfl⟩ (zJ.sub (wr := wX8 G o0 d0 i0 i1 S0 ++ (wX6 G (d0 0) d1 S1 ++ (wX4 G (d0 2) d3 S3 ++ (wX2 G (d0 3) d4 S4 ++ (wX0 G (d0 6) d7 S7 ++ (wX7 G (d0 7) d8 S8 ++ (wX1 G (d0 8) d9 S9 ++ (wX2 G i0 d10 S10 ++ (wX2 G i1 d11 S11))))))))) (w2 := (fun u : Unit => wX8 G o0 d0 i0 i1 S0 ++ (wX6 G (d0 0) d1 S1 ++ (wX4 G (d0 1) d2 S2 ++ (wX4 G (d0 2) d3 S3 ++ (wX2 G (d0 3) d4 S4 ++ (wX0 G (d0 4) d5 S5 ++ (wX0 G (d0 5) d6 S6 ++ (wX0 G (d0 6) d7 S7 ++ (wX7 G (d0 7) d8 S8 ++ (wX1 G (d0 8) d9 S9 ++ (wX2 G i0 d10 S10 ++ (wX2 G i1 d11 S11))))))))))))) hP hD hS hA [43, 44, 45, 46, 47, 48, 49, 50, 51, 52, 5, 6, 7, 8, 9, 10, 11, 12, 13, 14, 15, 16, 17, 18, 19, 20] [0, 1, 2, 3, 4, 21, 22, 23, 24, 25, 26, 27, 28, 29, 30, 31, 32, 33, 34, 35, 36, 37, 38, 39, 40, 41, 42, 53, 54, 55, 56, 57, 58, 59, 60, 61, 62, 63, 64, 65, 66, 67, 68, 69, 70, 71, 72, 73, 74, 75, 76, 77, 78] [0, 1, 2, 3, 4, 63, 64, 65, 66, 67, 68, 69, 70, 71, 72, 73, 74, 75, 76, 77, 78, 5, 6, 7, 8, 9, 10, 11, 12, 13, 14, 15, 16, 17, 18, 19, 20, 21, 22, 23, 24, 25, 26, 53, 54, 55, 56, 57, 58, 59, 60, 61, 62, 27, 28, 29, 30, 31, 32, 33, 34, 35, 36, 37, 38, 39, 40, 41, 42, 43, 44, 45, 46, 47, 48, 49, 50, 51, 52] rfl rfl (by decide) (fun u => rfl)) hS 0 rfl rfl rfl rfl hl.1 rfl (Nat.le_of_ble_eq_true rfl) dX8_count_186 (fun r_9 _u H locs hg hP hD hS => ?_)
    exact hret _ _ _ () _ _ hg rfl hP hD hS dX8_count_189
  by_cases k11 : x1 = 11
  · have hg := hg.2.2.2.2.2.2.2.2.2.2.2.1 k11
    refine lv_tableIn (tgt := 190) hx hb dX8_count_1 (by rw [k11]; decide) (by rw [k11]; decide) (by rw [k11]; rfl) (by decide) ?_
    refine lv_aload_n hx hb dX8_count_190 rfl (lv_at hl 0 rfl) ?_
    refine va_get (D := G.1) (ci := 6) (v := .ref (d0 8)) (C := RX8) (T := TX8) (N := 12) hx hb hT iX8 hown hK hP 0 rfl rfl 8 (by decide) (hT _ q_274) (fun _ h9 => h9) rfl dX8_count_191 ?_
    refine va_get (D := G.1) (ci := 1) (v := .int (S9 0 0)) (C := RX1) (T := TX1) (N := 5) hx hb hT iX1 hown hK hP 62 rfl rfl 0 (by decide) (hT _ q_249) (fun _ h9 => h9) rfl dX8_count_194 ?_
    exact hret _ _ _ () _ _ hg rfl hP hD hS dX8_count_197
  by_cases k12 : x1 = 12
  · have hg := hg.2.2.2.2.2.2.2.2.2.2.2.2.1 k12
    refine lv_tableIn (tgt := 198) hx hb dX8_count_1 (by rw [k12]; decide) (by rw [k12]; decide) (by rw [k12]; rfl) (by decide) ?_
    refine lv_aload_n hx hb dX8_count_198 rfl (lv_at hl 0 rfl) ?_
    refine va_get (D := G.1) (ci := 6) (v := .ref (d0 0)) (C := RX8) (T := TX8) (N := 12) hx hb hT iX8 hown hK hP 0 rfl rfl 0 (by decide) (hT _ q_266) (fun _ h9 => h9) rfl dX8_count_199 ?_
    refine va_get (D := G.1) (ci := 4) (v := .int (S1 1 0)) (C := RX6) (T := TX6) (N := 7) hx hb hT iX6 hown hK hP 3 rfl rfl 1 (by decide) (hT _ q_30) (fun _ h9 => h9) rfl dX8_count_202 ?_
    exact hret _ _ _ () _ _ hg rfl hP hD hS dX8_count_205
  have hg := hg.2.2.2.2.2.2.2.2.2.2.2.2.2 k0 k1 k2 k3 k4 k5 k6 k7 k8 k9 k10 k11 k12
  have nk0 := lv_neT k0 (a := 0) (by decide)
  have nk1 := lv_neT k1 (a := 1) (by decide)
  have nk2 := lv_neT k2 (a := 2) (by decide)
  have nk3 := lv_neT k3 (a := 3) (by decide)
  have nk4 := lv_neT k4 (a := 4) (by decide)
  have nk5 := lv_neT k5 (a := 5) (by decide)
  have nk6 := lv_neT k6 (a := 6) (by decide)
  have nk7 := lv_neT k7 (a := 7) (by decide)
  have nk8 := lv_neT k8 (a := 8) (by decide)
  have nk9 := lv_neT k9 (a := 9) (by decide)
  have nk10 := lv_neT k10 (a := 10) (by decide)
  have nk11 := lv_neT k11 (a := 11) (by decide)
  have nk12 := lv_neT k12 (a := 12) (by decide)
  refine lv_tableOut (tgt := 206) hx hb dX8_count_1 (by omega) (by decide) ?_
  refine lv_iconst (v := (-1)) hx hb dX8_count_206 (by decide) ?_
  exact hret _ _ _ () _ _ hg rfl hP hD hS dX8_count_207
theorem zv_X8_best : zV yX8_best RX8 cX8_best 7 (some .int) 1 := ⟨q_647, q_648, q_1, q_649, by decide +kernel⟩
set_option maxHeartbeats 4000000 in
set_option maxRecDepth 100000 in
theorem c_X8_best (l : Launch) (G : ZG) (o0 : Nat) (d0 : Nat → Nat) (i0 i1 : Nat) (d1 : Nat → Nat) (d2 : Nat → Nat) (d3 : Nat → Nat) (d4 : Nat → Nat) (d5 : Nat → Nat) (d6 : Nat → Nat) (d7 : Nat → Nat) (d8 : Nat → Nat) (d9 : Nat → Nat) (d10 : Nat → Nat) (d11 : Nat → Nat) (x1 : Int32) (S0 : ZS) (S1 : ZS) (S2 : ZS) (S3 : ZS) (S4 : ZS) (S5 : ZS) (S6 : ZS) (S7 : ZS) (S8 : ZS) (S9 : ZS) (S10 : ZS) (S11 : ZS) (Q : Int32 → ZS → Prop) (hg : g_X8_best x1 S0 S1 S2 S3 S4 S5 S6 S7 S8 S9 S10 S11 Q) : Ki l G yX8_best cX8_best 7 .int rm_X8_best [.ref o0, .int x1] (wX8 G o0 d0 i0 i1 S0 ++ (wX6 G (d0 0) d1 S1 ++ (wX4 G (d0 1) d2 S2 ++ (wX4 G (d0 2) d3 S3 ++ (wX2 G (d0 3) d4 S4 ++ (wX0 G (d0 4) d5 S5 ++ (wX0 G (d0 5) d6 S6 ++ (wX0 G (d0 6) d7 S7 ++ (wX7 G (d0 7) d8 S8 ++ (wX1 G (d0 8) d9 S9 ++ (wX2 G i0 d10 S10 ++ (wX2 G i1 d11 S11)))))))))))) (fun u : ZS => wX8 G o0 d0 i0 i1 S0 ++ (wX6 G (d0 0) d1 S1 ++ (wX4 G (d0 1) d2 S2 ++ (wX4 G (d0 2) d3 S3 ++ (wX2 G (d0 3) d4 S4 ++ (wX0 G (d0 4) d5 S5 ++ (wX0 G (d0 5) d6 S6 ++ (wX0 G (d0 6) d7 u ++ (wX7 G (d0 7) d8 S8 ++ (wX1 G (d0 8) d9 S9 ++ (wX2 G i0 d10 S10 ++ (wX2 G i1 d11 S11)))))))))))) (fun r u => Q r u) := by
  refine Ki.of (by decide) (Nat.le_of_ble_eq_true rfl) ?_
  intro p e s m args below meth c A QQ ls Cx hret hl hP hD hS
  obtain ⟨hx, hb, hml, hown, hT, hK, hA⟩ := id Cx
  have hl : lv_has ls 7 [(0, .ref o0), (1, .int x1)] := hl
  have L34 : ∀ (n : Nat) (x2 : Int32) (x3 : Int32) (x4 : Int32) (x5 : Int32) (S7 : ZS) (H : Heap) (locs : List Loc) (ls : Array Slot), fx (F_X8_best_34 x1 S0 S1 S2 S3 S4 S5 S6 S8 S9 S10 S11 Q) n (x2, x3, x4, x5, S7) → va_P G.1 classes (wX8 G o0 d0 i0 i1 S0 ++ (wX6 G (d0 0) d1 S1 ++ (wX4 G (d0 1) d2 S2 ++ (wX4 G (d0 2) d3 S3 ++ (wX2 G (d0 3) d4 S4 ++ (wX0 G (d0 4) d5 S5 ++ (wX0 G (d0 5) d6 S6 ++ (wX0 G (d0 6) d7 S7 ++ (wX7 G (d0 7) d8 S8 ++ (wX1 G (d0 8) d9 S9 ++ (wX2 G i0 d10 S10 ++ (wX2 G i1 d11 S11)))))))))))) H → va_D A (wX8 G o0 d0 i0 i1 S0 ++ (wX6 G (d0 0) d1 S1 ++ (wX4 G (d0 1) d2 S2 ++ (wX4 G (d0 2) d3 S3 ++ (wX2 G (d0 3) d4 S4 ++ (wX0 G (d0 4) d5 S5 ++ (wX0 G (d0 5) d6 S6 ++ (wX0 G (d0 6) d7 S7 ++ (wX7 G (d0 7) d8 S8 ++ (wX1 G (d0 8) d9 S9 ++ (wX2 G i0 d10 S10 ++ (wX2 G i1 d11 S11)))))))))))) → va_S A s.heap H locs → lv_has ls 7 [(0, .ref o0), (1, .int x1), (2, .int x2), (3, .int x3), (4, .int x4), (5, .int x5)] → W p l e rm_X8_best s m args below meth c H locs 0 0 QQ (F0 m 34 ls []) := by
    intro n
    induction n with
    | zero => intro x2 x3 x4 x5 S7 H locs ls hg; exact hg.elim
    | succ n ih =>
      have hX34 := ih
      intro x2 x3 x4 x5 S7 H locs ls hg hP hD hS hl
      refine lv_iload hx hb dX8_best_34 (lv_at hl 5 rfl) ?_
      refine lv_aload_n hx hb dX8_best_36 rfl (lv_at hl 0 rfl) ?_
      refine va_get (D := G.1) (ci := 6) (v := .ref (d0 1)) (C := RX8) (T := TX8) (N := 12) hx hb hT iX8 hown hK hP 0 rfl rfl 1 (by decide) (hT _ q_267) (fun _ h9 => h9) rfl dX8_best_37 ?_
      refine va_get (D := G.1) (ci := 3) (v := .int (S2 1 0)) (C := RX4) (T := TX4) (N := 17) hx hb hT iX4 hown hK hP 5 rfl rfl 1 (by decide) (hT _ q_66) (fun _ h9 => h9) rfl dX8_best_40 ?_
      refine lv_icmp_ge (tgt := 136) hx hb dX8_best_43 (by decide) (fun c_1 => ?_) (fun c_1 => ?_)
      · have hg := hg.1 c_1
        refine lv_iload_n hx hb dX8_best_136 rfl (lv_at hl 1 rfl) ?_
        refine lv_if_ne (tgt := 144) hx hb dX8_best_137 (by decide) (fun c_2 => ?_) (fun c_2 => ?_)
        · have hg := hg.2 c_2
          refine lv_iload_n hx hb dX8_best_144 rfl (lv_at hl 3 rfl) ?_
          exact hret _ _ _ (S7) _ _ hg rfl hP hD hS dX8_best_145
        · have hg := hg.1 c_2
          refine lv_iload_n hx hb dX8_best_140 rfl (lv_at hl 2 rfl) ?_
          refine lv_goto (tgt := 145) hx hb dX8_best_141 (by decide) ?_
          exact hret _ _ _ (S7) _ _ hg rfl hP hD hS dX8_best_145
      · have hg := hg.2 c_1
        refine lv_aload_n hx hb dX8_best_46 rfl (lv_at hl 0 rfl) ?_
        refine va_get (D := G.1) (ci := 6) (v := .ref (d0 1)) (C := RX8) (T := TX8) (N := 12) hx hb hT iX8 hown hK hP 0 rfl rfl 1 (by decide) (hT _ q_267) (fun _ h9 => h9) rfl dX8_best_47 ?_
        refine va_get (D := G.1) (ci := 3) (v := .ref (d2 3)) (C := RX4) (T := TX4) (N := 17) hx hb hT iX4 hown hK hP 5 rfl rfl 3 (by decide) (hT _ q_74) (fun _ h9 => h9) rfl dX8_best_50 ?_
        refine lv_iload hx hb dX8_best_53 (lv_at hl 5 rfl) ?_
        refine va_iald hx hb hK hP 7 0 rfl rfl hg.1 dX8_best_55 ?_
        have hg := hg.2
        refine lv_iconst (v := 1) hx hb dX8_best_56 (by decide) ?_
        refine lv_icmp_ne (tgt := 130) hx hb dX8_best_57 (by decide) (fun c_3 => ?_) (fun c_3 => ?_)
        · have hg := hg.2 c_3
          obtain ⟨x5_4, ex5_4⟩ : ∃ y : Int32, y = x5 + 1 := ⟨_, rfl⟩
          have hg := hg x5_4 ex5_4
          refine lv_iinc (v := x5_4) (lv' := [(5, .int x5_4), (0, .ref o0), (1, .int x1), (2, .int x2), (3, .int x3), (4, .int x4)]) hx hb dX8_best_130 hl (k := 5) rfl (by rw [ex5_4]; rfl) (by decide) rfl (fun ls hl => ?_)
          refine lv_goto (tgt := 34) hx hb dX8_best_133 (by decide) ?_
          exact hX34 _ _ _ _ _ _ _ _ hg hP hD hS (lv_sub hl [1, 2, 3, 4, 5, 0] rfl)
        · have hg := hg.1 c_3
          refine lv_aload_n hx hb dX8_best_60 rfl (lv_at hl 0 rfl) ?_
          refine va_get (D := G.1) (ci := 6) (v := .ref (d0 3)) (C := RX8) (T := TX8) (N := 12) hx hb hT iX8 hown hK hP 0 rfl rfl 3 (by decide) (hT _ q_269) (fun _ h9 => h9) rfl dX8_best_61 ?_
          refine va_get (D := G.1) (ci := 2) (v := .ref (d4 0)) (C := RX2) (T := TX2) (N := 5) hx hb hT iX2 hown hK hP 37 rfl rfl 0 (by decide) (hT _ q_166) (fun _ h9 => h9) rfl dX8_best_64 ?_
          refine lv_iload hx hb dX8_best_67 (lv_at hl 5 rfl) ?_
          refine va_iald hx hb hK hP 38 0 rfl rfl hg.1 dX8_best_69 ?_
          have hg := hg.2
          refine lv_iconst (v := 1) hx hb dX8_best_70 (by decide) ?_
          refine lv_icmp_ne (tgt := 77) hx hb dX8_best_71 (by decide) (fun c_5 => ?_) (fun c_5 => ?_)
          · have hg := hg.2 c_5
            refine lv_aload_n hx hb dX8_best_77 rfl (lv_at hl 0 rfl) ?_
            refine va_get (D := G.1) (ci := 6) (v := .ref (d0 6)) (C := RX8) (T := TX8) (N := 12) hx hb hT iX8 hown hK hP 0 rfl rfl 6 (by decide) (hT _ q_272) (fun _ h9 => h9) rfl dX8_best_78 ?_
            refine lv_aload_n hx hb dX8_best_81 rfl (lv_at hl 0 rfl) ?_
            refine va_get (D := G.1) (ci := 6) (v := .ref (d0 1)) (C := RX8) (T := TX8) (N := 12) hx hb hT iX8 hown hK hP 0 rfl rfl 1 (by decide) (hT _ q_267) (fun _ h9 => h9) rfl dX8_best_82 ?_
            refine lv_aload_n hx hb dX8_best_85 rfl (lv_at hl 0 rfl) ?_
            refine va_get (D := G.1) (ci := 6) (v := .ref (d0 3)) (C := RX8) (T := TX8) (N := 12) hx hb hT iX8 hown hK hP 0 rfl rfl 3 (by decide) (hT _ q_269) (fun _ h9 => h9) rfl dX8_best_86 ?_
            refine lv_iconst (v := 0) hx hb dX8_best_89 (by decide) ?_
            refine lv_iload hx hb dX8_best_90 (lv_at hl 5 rfl) ?_
            refine zcVv (As := [.ref (d0 1), .ref (d0 3), .int 0, .int x5]) (rest := []) (C := RX0) Cx (c_X0_climb l G (d0 6) d7 (d0 1) d2 (d0 3) d4 0 x5 S7 S2 S4 _ hg) zv_X0_climb q_473 ⟨⟨rfl, rfl⟩, Nat.le_of_ble_eq_true rfl, Nat.le_of_ble_eq_true rfl⟩ (zJ.sub (wr := wX8 G o0 d0 i0 i1 S0 ++ (wX6 G (d0 0) d1 S1 ++ (wX4 G (d0 2) d3 S3 ++ (wX0 G (d0 4) d5 S5 ++ (wX0 G (d0 5) d6 S6 ++ (wX7 G (d0 7) d8 S8 ++ (wX1 G (d0 8) d9 S9 ++ (wX2 G i0 d10 S10 ++ (wX2 G i1 d11 S11))))))))) (w2 := (fun u : ZS => wX8 G o0 d0 i0 i1 S0 ++ (wX6 G (d0 0) d1 S1 ++ (wX4 G (d0 1) d2 S2 ++ (wX4 G (d0 2) d3 S3 ++ (wX2 G (d0 3) d4 S4 ++ (wX0 G (d0 4) d5 S5 ++ (wX0 G (d0 5) d6 S6 ++ (wX0 G (d0 6) d7 u ++ (wX7 G (d0 7) d8 S8 ++ (wX1 G (d0 8) d9 S9 ++ (wX2 G i0 d10 S10 ++ (wX2 G i1 d11 S11))))))))))))) hP hD hS hA [53, 54, 55, 56, 57, 5, 6, 7, 8, 9, 10, 11, 12, 13, 14, 15, 16, 17, 18, 19, 20, 37, 38, 39, 40, 41, 42] [0, 1, 2, 3, 4, 21, 22, 23, 24, 25, 26, 27, 28, 29, 30, 31, 32, 33, 34, 35, 36, 43, 44, 45, 46, 47, 48, 49, 50, 51, 52, 58, 59, 60, 61, 62, 63, 64, 65, 66, 67, 68, 69, 70, 71, 72, 73, 74, 75, 76, 77, 78] [0, 1, 2, 3, 4, 57, 58, 59, 60, 61, 62, 63, 64, 65, 66, 67, 68, 69, 70, 71, 72, 5, 6, 7, 8, 9, 10, 11, 12, 13, 14, 15, 16, 17, 18, 19, 20, 73, 74, 75, 76, 77, 78, 21, 22, 23, 24, 25, 26, 27, 28, 29, 30, 52, 53, 54, 55, 56, 31, 32, 33, 34, 35, 36, 37, 38, 39, 40, 41, 42, 43, 44, 45, 46, 47, 48, 49, 50, 51] rfl rfl (by decide) (fun u => rfl)) hS 0 rfl rfl rfl rfl hl.1 rfl (Nat.le_of_ble_eq_true rfl) dX8_best_92 (fun S7_6 H locs hg hP hD hS => ?_)
            have hP : va_P G.1 classes (wX8 G o0 d0 i0 i1 S0 ++ (wX6 G (d0 0) d1 S1 ++ (wX4 G (d0 1) d2 S2 ++ (wX4 G (d0 2) d3 S3 ++ (wX2 G (d0 3) d4 S4 ++ (wX0 G (d0 4) d5 S5 ++ (wX0 G (d0 5) d6 S6 ++ (wX0 G (d0 6) d7 S7_6 ++ (wX7 G (d0 7) d8 S8 ++ (wX1 G (d0 8) d9 S9 ++ (wX2 G i0 d10 S10 ++ (wX2 G i1 d11 S11)))))))))))) H := hP
            have hD : va_D A (wX8 G o0 d0 i0 i1 S0 ++ (wX6 G (d0 0) d1 S1 ++ (wX4 G (d0 1) d2 S2 ++ (wX4 G (d0 2) d3 S3 ++ (wX2 G (d0 3) d4 S4 ++ (wX0 G (d0 4) d5 S5 ++ (wX0 G (d0 5) d6 S6 ++ (wX0 G (d0 6) d7 S7_6 ++ (wX7 G (d0 7) d8 S8 ++ (wX1 G (d0 8) d9 S9 ++ (wX2 G i0 d10 S10 ++ (wX2 G i1 d11 S11)))))))))))) := hD
            refine lv_iload hx hb dX8_best_95 (lv_at hl 4 rfl) ?_
            refine lv_aload_n hx hb dX8_best_97 rfl (lv_at hl 0 rfl) ?_
            refine va_get (D := G.1) (ci := 6) (v := .ref (d0 6)) (C := RX8) (T := TX8) (N := 12) hx hb hT iX8 hown hK hP 0 rfl rfl 6 (by decide) (hT _ q_272) (fun _ h9 => h9) rfl dX8_best_98 ?_
            refine lv_iconst (v := 2) hx hb dX8_best_101 (by decide) ?_
            refine lv_aload_n hx hb dX8_best_102 rfl (lv_at hl 0 rfl) ?_
            refine va_get (D := G.1) (ci := 6) (v := .ref (d0 1)) (C := RX8) (T := TX8) (N := 12) hx hb hT iX8 hown hK hP 0 rfl rfl 1 (by decide) (hT _ q_267) (fun _ h9 => h9) rfl dX8_best_103 ?_
            refine zcVi (As := [.int 2, .ref (d0 1)]) (rest := [.int x4]) (C := RX0) Cx (c_X0_namesThatAre l G (d0 6) d7 (d0 1) d2 2 S7_6 S2 _ hg) zv_X0_namesThatAre q_569 ⟨⟨rfl, rfl⟩, Nat.le_of_ble_eq_true rfl, Nat.le_of_ble_eq_true rfl⟩ (zJ.sub (wr := wX8 G o0 d0 i0 i1 S0 ++ (wX6 G (d0 0) d1 S1 ++ (wX4 G (d0 2) d3 S3 ++ (wX2 G (d0 3) d4 S4 ++ (wX0 G (d0 4) d5 S5 ++ (wX0 G (d0 5) d6 S6 ++ (wX7 G (d0 7) d8 S8 ++ (wX1 G (d0 8) d9 S9 ++ (wX2 G i0 d10 S10 ++ (wX2 G i1 d11 S11)))))))))) (w2 := (fun u : Unit => wX8 G o0 d0 i0 i1 S0 ++ (wX6 G (d0 0) d1 S1 ++ (wX4 G (d0 1) d2 S2 ++ (wX4 G (d0 2) d3 S3 ++ (wX2 G (d0 3) d4 S4 ++ (wX0 G (d0 4) d5 S5 ++ (wX0 G (d0 5) d6 S6 ++ (wX0 G (d0 6) d7 S7_6 ++ (wX7 G (d0 7) d8 S8 ++ (wX1 G (d0 8) d9 S9 ++ (wX2 G i0 d10 S10 ++ (wX2 G i1 d11 S11))))))))))))) hP hD hS hA [53, 54, 55, 56, 57, 5, 6, 7, 8, 9, 10, 11, 12, 13, 14, 15, 16, 17, 18, 19, 20] [0, 1, 2, 3, 4, 21, 22, 23, 24, 25, 26, 27, 28, 29, 30, 31, 32, 33, 34, 35, 36, 37, 38, 39, 40, 41, 42, 43, 44, 45, 46, 47, 48, 49, 50, 51, 52, 58, 59, 60, 61, 62, 63, 64, 65, 66, 67, 68, 69, 70, 71, 72, 73, 74, 75, 76, 77, 78] [0, 1, 2, 3, 4, 63, 64, 65, 66, 67, 68, 69, 70, 71, 72, 73, 74, 75, 76, 77, 78, 5, 6, 7, 8, 9, 10, 11, 12, 13, 14, 15, 16, 17, 18, 19, 20, 21, 22, 23, 24, 25, 26, 27, 28, 29, 30, 31, 32, 33, 34, 35, 36, 58, 59, 60, 61, 62, 37, 38, 39, 40, 41, 42, 43, 44, 45, 46, 47, 48, 49, 50, 51, 52, 53, 54, 55, 56, 57] rfl rfl (by decide) (fun u => rfl)) hS 0 rfl rfl rfl rfl hl.1 rfl (Nat.le_of_ble_eq_true rfl) dX8_best_106 (fun r_7 _u H locs hg hP hD hS => ?_)
            refine lv_isub hx hb dX8_best_109 ?_
            refine lv_topi (fun x6_8 ex6_8 => ?_)
            have hg := hg x6_8 ex6_8
            refine lv_istore (lv' := [(6, .int x6_8), (0, .ref o0), (1, .int x1), (2, .int x2), (3, .int x3), (4, .int x4), (5, .int x5)]) hx hb dX8_best_110 hl (by decide) rfl (fun ls hl => ?_)
            refine lv_iload_n hx hb dX8_best_112 rfl (lv_at hl 3 rfl) ?_
            refine lv_bipush (v := (-9)) hx hb dX8_best_113 (by decide) ?_
            refine lv_icmp_eq (tgt := 124) hx hb dX8_best_115 (by decide) (fun c_9 => ?_) (fun c_9 => ?_)
            · have hg := hg.1 c_9
              refine lv_iload hx hb dX8_best_124 (lv_at hl 6 rfl) ?_
              refine lv_istore_n (lv' := [(2, .int x5), (6, .int x6_8), (0, .ref o0), (1, .int x1), (3, .int x3), (4, .int x4), (5, .int x5)]) hx hb dX8_best_126 rfl hl (by decide) rfl (fun ls hl => ?_)
              refine lv_iload hx hb dX8_best_127 (lv_at hl 1 rfl) ?_
              refine lv_istore_n (lv' := [(3, .int x6_8), (2, .int x5), (6, .int x6_8), (0, .ref o0), (1, .int x1), (4, .int x4), (5, .int x5)]) hx hb dX8_best_129 rfl hl (by decide) rfl (fun ls hl => ?_)
              obtain ⟨x5_10, ex5_10⟩ : ∃ y : Int32, y = x5 + 1 := ⟨_, rfl⟩
              have hg := hg x5_10 ex5_10
              refine lv_iinc (v := x5_10) (lv' := [(5, .int x5_10), (3, .int x6_8), (2, .int x5), (6, .int x6_8), (0, .ref o0), (1, .int x1), (4, .int x4)]) hx hb dX8_best_130 hl (k := 6) rfl (by rw [ex5_10]; rfl) (by decide) rfl (fun ls hl => ?_)
              refine lv_goto (tgt := 34) hx hb dX8_best_133 (by decide) ?_
              exact hX34 _ _ _ _ _ _ _ _ hg hP hD hS (lv_sub hl [4, 5, 2, 1, 6, 0] rfl)
            · have hg := hg.2 c_9
              refine lv_iload hx hb dX8_best_118 (lv_at hl 0 rfl) ?_
              refine lv_iload_n hx hb dX8_best_120 rfl (lv_at hl 4 rfl) ?_
              refine lv_icmp_le (tgt := 130) hx hb dX8_best_121 (by decide) (fun c_11 => ?_) (fun c_11 => ?_)
              · have hg := hg.1 c_11
                obtain ⟨x5_12, ex5_12⟩ : ∃ y : Int32, y = x5 + 1 := ⟨_, rfl⟩
                have hg := hg x5_12 ex5_12
                refine lv_iinc (v := x5_12) (lv' := [(5, .int x5_12), (6, .int x6_8), (0, .ref o0), (1, .int x1), (2, .int x2), (3, .int x3), (4, .int x4)]) hx hb dX8_best_130 hl (k := 6) rfl (by rw [ex5_12]; rfl) (by decide) rfl (fun ls hl => ?_)
                refine lv_goto (tgt := 34) hx hb dX8_best_133 (by decide) ?_
                exact hX34 _ _ _ _ _ _ _ _ hg hP hD hS (lv_sub hl [2, 3, 4, 5, 6, 0] rfl)
              · have hg := hg.2 c_11
                refine lv_iload hx hb dX8_best_124 (lv_at hl 6 rfl) ?_
                refine lv_istore_n (lv' := [(2, .int x5), (6, .int x6_8), (0, .ref o0), (1, .int x1), (3, .int x3), (4, .int x4), (5, .int x5)]) hx hb dX8_best_126 rfl hl (by decide) rfl (fun ls hl => ?_)
                refine lv_iload hx hb dX8_best_127 (lv_at hl 1 rfl) ?_
                refine lv_istore_n (lv' := [(3, .int x6_8), (2, .int x5), (6, .int x6_8), (0, .ref o0), (1, .int x1), (4, .int x4), (5, .int x5)]) hx hb dX8_best_129 rfl hl (by decide) rfl (fun ls hl => ?_)
                obtain ⟨x5_13, ex5_13⟩ : ∃ y : Int32, y = x5 + 1 := ⟨_, rfl⟩
                have hg := hg x5_13 ex5_13
                refine lv_iinc (v := x5_13) (lv' := [(5, .int x5_13), (3, .int x6_8), (2, .int x5), (6, .int x6_8), (0, .ref o0), (1, .int x1), (4, .int x4)]) hx hb dX8_best_130 hl (k := 6) rfl (by rw [ex5_13]; rfl) (by decide) rfl (fun ls hl => ?_)
                refine lv_goto (tgt := 34) hx hb dX8_best_133 (by decide) ?_
                exact hX34 _ _ _ _ _ _ _ _ hg hP hD hS (lv_sub hl [4, 5, 2, 1, 6, 0] rfl)
          · have hg := hg.1 c_5
            refine lv_goto (tgt := 130) hx hb dX8_best_74 (by decide) ?_
            obtain ⟨x5_14, ex5_14⟩ : ∃ y : Int32, y = x5 + 1 := ⟨_, rfl⟩
            have hg := hg x5_14 ex5_14
            refine lv_iinc (v := x5_14) (lv' := [(5, .int x5_14), (0, .ref o0), (1, .int x1), (2, .int x2), (3, .int x3), (4, .int x4)]) hx hb dX8_best_130 hl (k := 5) rfl (by rw [ex5_14]; rfl) (by decide) rfl (fun ls hl => ?_)
            refine lv_goto (tgt := 34) hx hb dX8_best_133 (by decide) ?_
            exact hX34 _ _ _ _ _ _ _ _ hg hP hD hS (lv_sub hl [1, 2, 3, 4, 5, 0] rfl)
  refine lv_iload_n hx hb dX8_best_0 rfl (lv_at hl 1 rfl) ?_
  refine lv_if_lt (tgt := 9) hx hb dX8_best_1 (by decide) (fun c_1 => ?_) (fun c_1 => ?_)
  · have hg := hg.1 c_1
    refine lv_iconst (v := (-1)) hx hb dX8_best_9 (by decide) ?_
    exact hret _ _ _ (S7) _ _ hg rfl hP hD hS dX8_best_10
  · have hg := hg.2 c_1
    refine lv_iload_n hx hb dX8_best_4 rfl (lv_at hl 1 rfl) ?_
    refine lv_iconst (v := 1) hx hb dX8_best_5 (by decide) ?_
    refine lv_icmp_le (tgt := 11) hx hb dX8_best_6 (by decide) (fun c_2 => ?_) (fun c_2 => ?_)
    · have hg := hg.1 c_2
      refine lv_bipush (v := (-9)) hx hb dX8_best_11 (by decide) ?_
      refine lv_istore_n (lv' := [(2, .int (-9)), (0, .ref o0), (1, .int x1)]) hx hb dX8_best_13 rfl hl (by decide) rfl (fun ls hl => ?_)
      refine lv_bipush (v := (-9)) hx hb dX8_best_14 (by decide) ?_
      refine lv_istore_n (lv' := [(3, .int (-9)), (2, .int (-9)), (0, .ref o0), (1, .int x1)]) hx hb dX8_best_16 rfl hl (by decide) rfl (fun ls hl => ?_)
      refine lv_aload_n hx hb dX8_best_17 rfl (lv_at hl 2 rfl) ?_
      refine va_get (D := G.1) (ci := 6) (v := .ref (d0 4)) (C := RX8) (T := TX8) (N := 12) hx hb hT iX8 hown hK hP 0 rfl rfl 4 (by decide) (hT _ q_270) (fun _ h9 => h9) rfl dX8_best_18 ?_
      refine lv_iconst (v := 2) hx hb dX8_best_21 (by decide) ?_
      refine lv_aload_n hx hb dX8_best_22 rfl (lv_at hl 2 rfl) ?_
      refine va_get (D := G.1) (ci := 6) (v := .ref (d0 1)) (C := RX8) (T := TX8) (N := 12) hx hb hT iX8 hown hK hP 0 rfl rfl 1 (by decide) (hT _ q_267) (fun _ h9 => h9) rfl dX8_best_23 ?_
      refine zcVi (As := [.int 2, .ref (d0 1)]) (rest := []) (C := RX0) Cx (c_X0_namesThatAre l G (d0 4) d5 (d0 1) d2 2 S5 S2 _ hg) zv_X0_namesThatAre q_569 ⟨⟨rfl, rfl⟩, Nat.le_of_ble_eq_true rfl, Nat.le_of_ble_eq_true rfl⟩ (zJ.sub (wr := wX8 G o0 d0 i0 i1 S0 ++ (wX6 G (d0 0) d1 S1 ++ (wX4 G (d0 2) d3 S3 ++ (wX2 G (d0 3) d4 S4 ++ (wX0 G (d0 5) d6 S6 ++ (wX0 G (d0 6) d7 S7 ++ (wX7 G (d0 7) d8 S8 ++ (wX1 G (d0 8) d9 S9 ++ (wX2 G i0 d10 S10 ++ (wX2 G i1 d11 S11)))))))))) (w2 := (fun u : Unit => wX8 G o0 d0 i0 i1 S0 ++ (wX6 G (d0 0) d1 S1 ++ (wX4 G (d0 1) d2 S2 ++ (wX4 G (d0 2) d3 S3 ++ (wX2 G (d0 3) d4 S4 ++ (wX0 G (d0 4) d5 S5 ++ (wX0 G (d0 5) d6 S6 ++ (wX0 G (d0 6) d7 S7 ++ (wX7 G (d0 7) d8 S8 ++ (wX1 G (d0 8) d9 S9 ++ (wX2 G i0 d10 S10 ++ (wX2 G i1 d11 S11))))))))))))) hP hD hS hA [43, 44, 45, 46, 47, 5, 6, 7, 8, 9, 10, 11, 12, 13, 14, 15, 16, 17, 18, 19, 20] [0, 1, 2, 3, 4, 21, 22, 23, 24, 25, 26, 27, 28, 29, 30, 31, 32, 33, 34, 35, 36, 37, 38, 39, 40, 41, 42, 48, 49, 50, 51, 52, 53, 54, 55, 56, 57, 58, 59, 60, 61, 62, 63, 64, 65, 66, 67, 68, 69, 70, 71, 72, 73, 74, 75, 76, 77, 78] [0, 1, 2, 3, 4, 63, 64, 65, 66, 67, 68, 69, 70, 71, 72, 73, 74, 75, 76, 77, 78, 5, 6, 7, 8, 9, 10, 11, 12, 13, 14, 15, 16, 17, 18, 19, 20, 21, 22, 23, 24, 25, 26, 58, 59, 60, 61, 62, 27, 28, 29, 30, 31, 32, 33, 34, 35, 36, 37, 38, 39, 40, 41, 42, 43, 44, 45, 46, 47, 48, 49, 50, 51, 52, 53, 54, 55, 56, 57] rfl rfl (by decide) (fun u => rfl)) hS 0 rfl rfl rfl rfl hl.1 rfl (Nat.le_of_ble_eq_true rfl) dX8_best_26 (fun r_3 _u H locs hg hP hD hS => ?_)
      refine lv_istore (lv' := [(4, .int r_3), (3, .int (-9)), (2, .int (-9)), (0, .ref o0), (1, .int x1)]) hx hb dX8_best_29 hl (by decide) rfl (fun ls hl => ?_)
      refine lv_iconst (v := 0) hx hb dX8_best_31 (by decide) ?_
      refine lv_istore (lv' := [(5, .int 0), (4, .int r_3), (3, .int (-9)), (2, .int (-9)), (0, .ref o0), (1, .int x1)]) hx hb dX8_best_32 hl (by decide) rfl (fun ls hl => ?_)
      obtain ⟨n, hg⟩ := hg
      exact L34 n _ _ _ _ _ _ _ _ hg hP hD hS (lv_sub hl [4, 5, 3, 2, 1, 0] rfl)
    · have hg := hg.2 c_2
      refine lv_iconst (v := (-1)) hx hb dX8_best_9 (by decide) ?_
      exact hret _ _ _ (S7) _ _ hg rfl hP hD hS dX8_best_10
theorem zv_X8_asked : zV yX8_asked RX8 cX8_asked 1 (some .int) 0 := ⟨q_663, q_664, q_1, q_665, by decide +kernel⟩
set_option maxHeartbeats 4000000 in
set_option maxRecDepth 100000 in
theorem c_X8_asked (l : Launch) (G : ZG) (o0 : Nat) (d0 : Nat → Nat) (i0 i1 : Nat) (d1 : Nat → Nat) (d2 : Nat → Nat) (d3 : Nat → Nat) (d4 : Nat → Nat) (d5 : Nat → Nat) (d6 : Nat → Nat) (d7 : Nat → Nat) (d8 : Nat → Nat) (d9 : Nat → Nat) (d10 : Nat → Nat) (d11 : Nat → Nat) (S0 : ZS) (S1 : ZS) (S2 : ZS) (S3 : ZS) (S4 : ZS) (S5 : ZS) (S6 : ZS) (S7 : ZS) (S8 : ZS) (S9 : ZS) (S10 : ZS) (S11 : ZS) (Q : Int32 → Prop) (hg : g_X8_asked S0 S1 S2 S3 S4 S5 S6 S7 S8 S9 S10 S11 Q) : Ki l G yX8_asked cX8_asked 1 .int rm_X8_asked [.ref o0] (wX8 G o0 d0 i0 i1 S0 ++ (wX6 G (d0 0) d1 S1 ++ (wX4 G (d0 1) d2 S2 ++ (wX4 G (d0 2) d3 S3 ++ (wX2 G (d0 3) d4 S4 ++ (wX0 G (d0 4) d5 S5 ++ (wX0 G (d0 5) d6 S6 ++ (wX0 G (d0 6) d7 S7 ++ (wX7 G (d0 7) d8 S8 ++ (wX1 G (d0 8) d9 S9 ++ (wX2 G i0 d10 S10 ++ (wX2 G i1 d11 S11)))))))))))) (fun _ : Unit => wX8 G o0 d0 i0 i1 S0 ++ (wX6 G (d0 0) d1 S1 ++ (wX4 G (d0 1) d2 S2 ++ (wX4 G (d0 2) d3 S3 ++ (wX2 G (d0 3) d4 S4 ++ (wX0 G (d0 4) d5 S5 ++ (wX0 G (d0 5) d6 S6 ++ (wX0 G (d0 6) d7 S7 ++ (wX7 G (d0 7) d8 S8 ++ (wX1 G (d0 8) d9 S9 ++ (wX2 G i0 d10 S10 ++ (wX2 G i1 d11 S11)))))))))))) (fun r _ => Q r ) := by
  refine Ki.of (by decide) (Nat.le_of_ble_eq_true rfl) ?_
  intro p e s m args below meth c A QQ ls Cx hret hl hP hD hS
  obtain ⟨hx, hb, hml, hown, hT, hK, hA⟩ := id Cx
  have hl : lv_has ls 1 [(0, .ref o0)] := hl
  refine lv_aload_n hx hb dX8_asked_0 rfl (lv_at hl 0 rfl) ?_
  refine va_get (D := G.1) (ci := 6) (v := .int (S0 11 0)) (C := RX8) (T := TX8) (N := 12) hx hb hT iX8 hown hK hP 0 rfl rfl 11 (by decide) (hT _ q_277) (fun _ h9 => h9) rfl dX8_asked_1 ?_
  exact hret _ _ _ () _ _ hg rfl hP hD hS dX8_asked_4
