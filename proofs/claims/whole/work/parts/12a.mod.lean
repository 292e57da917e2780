theorem zv_X9_in : zSt yX9_in cX9_in 3 (some .boolean) 3 := ⟨q_826, q_8, q_827, by decide +kernel⟩
set_option maxHeartbeats 4000000 in
set_option maxRecDepth 100000 in
theorem c_X9_in (l : Launch) (G : ZG) (x0 : Int32) (x1 : Int32) (x2 : Int32) (Q : Int32 → Prop) (hg : g_X9_in x0 x1 x2 Q) : Ki l G yX9_in cX9_in 3 .boolean rm_X9_in [.int x0, .int x1, .int x2] (([] : va_W)) (fun _ : Unit => ([] : va_W)) (fun r _ => Q r ) := by
  refine Ki.of (by decide) (Nat.le_of_ble_eq_true rfl) ?_
  intro p e s m args below meth c A QQ ls Cx hret hl hP hD hS
  obtain ⟨hx, hb, hml, hown, hT, hK, hA⟩ := id Cx
  have hl : lv_has ls 3 [(0, .int x0), (1, .int x1), (2, .int x2)] := hl
  refine lv_iload_n hx hb dX9_in_0 rfl (lv_at hl 0 rfl) ?_
  refine lv_iload_n hx hb dX9_in_1 rfl (lv_at hl 1 rfl) ?_
  refine lv_icmp_lt (tgt := 14) hx hb dX9_in_2 (by decide) (fun c_1 => ?_) (fun c_1 => ?_)
  · have hg := hg.1 c_1
    refine lv_iconst (v := 0) hx hb dX9_in_14 (by decide) ?_
    exact hret _ _ _ () _ _ hg rfl hP hD hS dX9_in_15
  · have hg := hg.2 c_1
    refine lv_iload_n hx hb dX9_in_5 rfl (lv_at hl 0 rfl) ?_
    refine lv_iload_n hx hb dX9_in_6 rfl (lv_at hl 2 rfl) ?_
    refine lv_icmp_gt (tgt := 14) hx hb dX9_in_7 (by decide) (fun c_2 => ?_) (fun c_2 => ?_)
    · have hg := hg.1 c_2
      refine lv_iconst (v := 0) hx hb dX9_in_14 (by decide) ?_
      exact hret _ _ _ () _ _ hg rfl hP hD hS dX9_in_15
    · have hg := hg.2 c_2
      refine lv_iconst (v := 1) hx hb dX9_in_10 (by decide) ?_
      refine lv_goto (tgt := 15) hx hb dX9_in_11 (by decide) ?_
      exact hret _ _ _ () _ _ hg rfl hP hD hS dX9_in_15
theorem zv_X9_has : zSt yX9_has cX9_has 2 (some .boolean) 2 := ⟨q_900, q_8, q_901, by decide +kernel⟩
set_option maxHeartbeats 4000000 in
set_option maxRecDepth 100000 in
theorem c_X9_has (l : Launch) (G : ZG) (x0 : Int32) (x1 : Int32) (Q : Int32 → Prop) (hg : g_X9_has x0 x1 Q) : Ki l G yX9_has cX9_has 2 .boolean rm_X9_has [.int x0, .int x1] (([] : va_W)) (fun _ : Unit => ([] : va_W)) (fun r _ => Q r ) := by
  refine Ki.of (by decide) (Nat.le_of_ble_eq_true rfl) ?_
  intro p e s m args below meth c A QQ ls Cx hret hl hP hD hS
  obtain ⟨hx, hb, hml, hown, hT, hK, hA⟩ := id Cx
  have hl : lv_has ls 2 [(0, .int x0), (1, .int x1)] := hl
  refine lv_iload_n hx hb dX9_has_0 rfl (lv_at hl 0 rfl) ?_
  refine lv_iload_n hx hb dX9_has_1 rfl (lv_at hl 1 rfl) ?_
  refine lv_ishr hx hb dX9_has_2 ?_
  refine lv_iconst (v := 1) hx hb dX9_has_3 (by decide) ?_
  refine lv_iand hx hb dX9_has_4 ?_
  refine lv_iconst (v := 1) hx hb dX9_has_5 (by decide) ?_
  refine lv_icmp_ne (tgt := 13) hx hb dX9_has_6 (by decide) (fun c_1 => ?_) (fun c_1 => ?_)
  · have hg := hg.2 c_1
    refine lv_iconst (v := 0) hx hb dX9_has_13 (by decide) ?_
    exact hret _ _ _ () _ _ hg rfl hP hD hS dX9_has_14
  · have hg := hg.1 c_1
    refine lv_iconst (v := 1) hx hb dX9_has_9 (by decide) ?_
    refine lv_goto (tgt := 14) hx hb dX9_has_10 (by decide) ?_
    exact hret _ _ _ () _ _ hg rfl hP hD hS dX9_has_14
theorem zv_X9_bring : zSt yX9_bring cX9_bring 6 none 5 := ⟨q_907, q_8, q_908, by decide +kernel⟩
set_option maxHeartbeats 4000000 in
set_option maxRecDepth 100000 in
theorem c_X9_bring (l : Launch) (G : ZG) (o0 : Nat) (o1 : Nat) (n0 : Nat) (n1 : Nat) (x1 : Int32) (x3 : Int32) (x4 : Int32) (f0 : ZR) (f1 : ZR) (Q : ZR → Prop) (hg : g_X9_bring n0 n1 x1 x3 x4 f0 f1 Q) : Kv l G yX9_bring cX9_bring 6 rm_X9_bring [.ref o0, .int x1, .ref o1, .int x3, .int x4] ([(o0, .inl (G.2.1, n0, .inl f0))] ++ ([(o1, .inl (G.2.1, n1, .inl f1))])) (fun u : ZR => [(o0, .inl (G.2.1, n0, .inl f0))] ++ ([(o1, .inl (G.2.1, n1, .inl u))])) (fun u => Q u) := by
  refine Kv.of (by decide) (Nat.le_of_ble_eq_true rfl) ?_
  intro p e s m args below meth c A QQ ls Cx hret hl hP hD hS
  obtain ⟨hx, hb, hml, hown, hT, hK, hA⟩ := id Cx
  have hl : lv_has ls 6 [(0, .ref o0), (1, .int x1), (2, .ref o1), (3, .int x3), (4, .int x4)] := hl
  have L3 : ∀ (n : Nat) (x5 : Int32) (f1 : ZR) (H : Heap) (locs : List Loc) (ls : Array Slot), fx (F_X9_bring_3 n0 n1 x1 x3 x4 f0 Q) n (x5, f1) → va_P G.1 classes ([(o0, .inl (G.2.1, n0, .inl f0))] ++ ([(o1, .inl (G.2.1, n1, .inl f1))])) H → va_D A ([(o0, .inl (G.2.1, n0, .inl f0))] ++ ([(o1, .inl (G.2.1, n1, .inl f1))])) → va_S A s.heap H locs → lv_has ls 6 [(0, .ref o0), (1, .int x1), (2, .ref o1), (3, .int x3), (4, .int x4), (5, .int x5)] → W p l e rm_X9_bring s m args below meth c H locs 0 0 QQ (F0 m 3 ls []) := by
    intro n
    induction n with
    | zero => intro x5 f1 H locs ls hg; exact hg.elim
    | succ n ih =>
      have hX3 := ih
      intro x5 f1 H locs ls hg hP hD hS hl
      refine lv_iload hx hb dX9_bring_3 (lv_at hl 5 rfl) ?_
      refine lv_iload hx hb dX9_bring_5 (lv_at hl 4 rfl) ?_
      refine lv_icmp_ge (tgt := 28) hx hb dX9_bring_7 (by decide) (fun c_1 => ?_) (fun c_1 => ?_)
      · have hg := hg.1 c_1
        exact hret _ _ (f1) _ _ hg hP hD hS dX9_bring_28
      · have hg := hg.2 c_1
        refine lv_aload_n hx hb dX9_bring_10 rfl (lv_at hl 2 rfl) ?_
        refine lv_iload_n hx hb dX9_bring_11 rfl (lv_at hl 3 rfl) ?_
        refine lv_iload hx hb dX9_bring_12 (lv_at hl 5 rfl) ?_
        refine lv_iadd hx hb dX9_bring_14 ?_
        refine lv_aload_n hx hb dX9_bring_15 rfl (lv_at hl 0 rfl) ?_
        refine lv_iload_n hx hb dX9_bring_16 rfl (lv_at hl 1 rfl) ?_
        refine lv_iload hx hb dX9_bring_17 (lv_at hl 5 rfl) ?_
        refine lv_iadd hx hb dX9_bring_19 ?_
        refine va_iald hx hb hK hP 0 0 rfl rfl hg.1 dX9_bring_20 ?_
        have hg := hg.2
        refine z_iast hx hb hK hP hD hS 1 0 rfl rfl hg.1 dX9_bring_21 (upd f1 (x3 + x5).toNatClampNeg (f0 (x1 + x5).toNatClampNeg)) (fun S : ZR => [(o0, .inl (G.2.1, n0, .inl f0))] ++ ([(o1, .inl (G.2.1, n1, .inl S))])) rfl (fun f1_2 H locs ef1_2 hP hD hS => ?_)
        have hg := hg.2 f1_2 ef1_2
        obtain ⟨x5_3, ex5_3⟩ : ∃ y : Int32, y = x5 + 1 := ⟨_, rfl⟩
        have hg := hg x5_3 ex5_3
        refine lv_iinc (v := x5_3) (lv' := [(5, .int x5_3), (0, .ref o0), (1, .int x1), (2, .ref o1), (3, .int x3), (4, .int x4)]) hx hb dX9_bring_22 hl (k := 5) rfl (by rw [ex5_3]; rfl) (by decide) rfl (fun ls hl => ?_)
        refine lv_goto (tgt := 3) hx hb dX9_bring_25 (by decide) ?_
        exact hX3 _ _ _ _ _ hg hP hD hS (lv_sub hl [1, 2, 3, 4, 5, 0] rfl)
  refine lv_iconst (v := 0) hx hb dX9_bring_0 (by decide) ?_
  refine lv_istore (lv' := [(5, .int 0), (0, .ref o0), (1, .int x1), (2, .ref o1), (3, .int x3), (4, .int x4)]) hx hb dX9_bring_1 hl (by decide) rfl (fun ls hl => ?_)
  obtain ⟨n, hg⟩ := hg
  exact L3 n _ _ _ _ _ hg hP hD hS (lv_sub hl [1, 2, 3, 4, 5, 0] rfl)
set_option maxHeartbeats 4000000 in
set_option maxRecDepth 100000 in
theorem c_X9_bringA (l : Launch) (G : ZG) (o0 : Nat) (n0 : Nat) (x1 : Int32) (x3 : Int32) (x4 : Int32) (f0 : ZR) (Q : ZR → Prop) (hg : g_X9_bringA n0 x1 x3 x4 f0 Q) : Kv l G yX9_bring cX9_bring 6 rm_X9_bringA [.ref o0, .int x1, .ref o0, .int x3, .int x4] ([(o0, .inl (G.2.1, n0, .inl f0))]) (fun u : ZR => [(o0, .inl (G.2.1, n0, .inl u))]) (fun u => Q u) := by
  refine Kv.of (by decide) (Nat.le_of_ble_eq_true rfl) ?_
  intro p e s m args below meth c A QQ ls Cx hret hl hP hD hS
  obtain ⟨hx, hb, hml, hown, hT, hK, hA⟩ := id Cx
  have hl : lv_has ls 6 [(0, .ref o0), (1, .int x1), (2, .ref o0), (3, .int x3), (4, .int x4)] := hl
  have L3 : ∀ (n : Nat) (x5 : Int32) (f0 : ZR) (H : Heap) (locs : List Loc) (ls : Array Slot), fx (F_X9_bringA_3 n0 x1 x3 x4 Q) n (x5, f0) → va_P G.1 classes ([(o0, .inl (G.2.1, n0, .inl f0))]) H → va_D A ([(o0, .inl (G.2.1, n0, .inl f0))]) → va_S A s.heap H locs → lv_has ls 6 [(0, .ref o0), (1, .int x1), (2, .ref o0), (3, .int x3), (4, .int x4), (5, .int x5)] → W p l e rm_X9_bringA s m args below meth c H locs 0 0 QQ (F0 m 3 ls []) := by
    intro n
    induction n with
    | zero => intro x5 f0 H locs ls hg; exact hg.elim
    | succ n ih =>
      have hX3 := ih
      intro x5 f0 H locs ls hg hP hD hS hl
      refine lv_iload hx hb dX9_bring_3 (lv_at hl 5 rfl) ?_
      refine lv_iload hx hb dX9_bring_5 (lv_at hl 4 rfl) ?_
      refine lv_icmp_ge (tgt := 28) hx hb dX9_bring_7 (by decide) (fun c_1 => ?_) (fun c_1 => ?_)
      · have hg := hg.1 c_1
        exact hret _ _ (f0) _ _ hg hP hD hS dX9_bring_28
      · have hg := hg.2 c_1
        refine lv_aload_n hx hb dX9_bring_10 rfl (lv_at hl 2 rfl) ?_
        refine lv_iload_n hx hb dX9_bring_11 rfl (lv_at hl 3 rfl) ?_
        refine lv_iload hx hb dX9_bring_12 (lv_at hl 5 rfl) ?_
        refine lv_iadd hx hb dX9_bring_14 ?_
        refine lv_aload_n hx hb dX9_bring_15 rfl (lv_at hl 0 rfl) ?_
        refine lv_iload_n hx hb dX9_bring_16 rfl (lv_at hl 1 rfl) ?_
        refine lv_iload hx hb dX9_bring_17 (lv_at hl 5 rfl) ?_
        refine lv_iadd hx hb dX9_bring_19 ?_
        refine va_iald hx hb hK hP 0 0 rfl rfl hg.1 dX9_bring_20 ?_
        have hg := hg.2
        refine z_iast hx hb hK hP hD hS 0 0 rfl rfl hg.1 dX9_bring_21 (upd f0 (x3 + x5).toNatClampNeg (f0 (x1 + x5).toNatClampNeg)) (fun S : ZR => [(o0, .inl (G.2.1, n0, .inl S))]) rfl (fun f0_2 H locs ef0_2 hP hD hS => ?_)
        have hg := hg.2 f0_2 ef0_2
        obtain ⟨x5_3, ex5_3⟩ : ∃ y : Int32, y = x5 + 1 := ⟨_, rfl⟩
        have hg := hg x5_3 ex5_3
        refine lv_iinc (v := x5_3) (lv' := [(5, .int x5_3), (0, .ref o0), (1, .int x1), (2, .ref o0), (3, .int x3), (4, .int x4)]) hx hb dX9_bring_22 hl (k := 5) rfl (by rw [ex5_3]; rfl) (by decide) rfl (fun ls hl => ?_)
        refine lv_goto (tgt := 3) hx hb dX9_bring_25 (by decide) ?_
        exact hX3 _ _ _ _ _ hg hP hD hS (lv_sub hl [1, 2, 3, 4, 5, 0] rfl)
  refine lv_iconst (v := 0) hx hb dX9_bring_0 (by decide) ?_
  refine lv_istore (lv' := [(5, .int 0), (0, .ref o0), (1, .int x1), (2, .ref o0), (3, .int x3), (4, .int x4)]) hx hb dX9_bring_1 hl (by decide) rfl (fun ls hl => ?_)
  obtain ⟨n, hg⟩ := hg
  exact L3 n _ _ _ _ _ hg hP hD hS (lv_sub hl [1, 2, 3, 4, 5, 0] rfl)
theorem zv_X9_isName : zV yX9_isName RX9 cX9_isName 2 (some .boolean) 1 := ⟨q_915, qp_17, q_8, q_916, by decide +kernel⟩
set_option maxHeartbeats 4000000 in
set_option maxRecDepth 100000 in
theorem c_X9_isName (l : Launch) (G : ZG) (o0 : Nat) (d0 : Nat → Nat) (x1 : Int32) (S0 : ZS) (Q : Int32 → Prop) (hg : g_X9_isName x1 S0 Q) : Ki l G yX9_isName cX9_isName 2 .boolean rm_X9_isName [.ref o0, .int x1] (wX9 G o0 d0 S0) (fun _ : Unit => wX9 G o0 d0 S0) (fun r _ => Q r ) := by
  refine Ki.of (by decide) (Nat.le_of_ble_eq_true rfl) ?_
  intro p e s m args below meth c A QQ ls Cx hret hl hP hD hS
  obtain ⟨hx, hb, hml, hown, hT, hK, hA⟩ := id Cx
  have hl : lv_has ls 2 [(0, .ref o0), (1, .int x1)] := hl
  refine lv_iload_n hx hb dX9_isName_0 rfl (lv_at hl 1 rfl) ?_
  refine lv_iconst (v := 0) hx hb dX9_isName_1 (by decide) ?_
  refine lv_aload_n hx hb dX9_isName_2 rfl (lv_at hl 0 rfl) ?_
  refine va_get (D := G.1) (ci := 7) (v := .int (S0 2 0)) (C := RX9) (T := TX9) (N := 49) hx hb hT iX9 hown hK hP 0 rfl rfl 2 (by decide) (hT _ q_674) (fun _ h9 => h9) rfl dX9_isName_3 ?_
  refine lv_iconst (v := 1) hx hb dX9_isName_6 (by decide) ?_
  refine lv_isub hx hb dX9_isName_7 ?_
  refine zcSi (As := [.int x1, .int 0, .int ((S0 2 0) - 1)]) (rest := []) Cx (c_X9_in l G x1 0 ((S0 2 0) - 1) _ hg) zv_X9_in q_825 ⟨⟨rfl, rfl⟩, Nat.le_of_ble_eq_true rfl, Nat.le_of_ble_eq_true rfl⟩ (zJ.none (S := Unit) hP hD hS hA) hS rfl hl.1 rfl (Nat.le_of_ble_eq_true rfl) dX9_isName_8 (fun r_1 _u H locs hg hP hD hS => ?_)
  exact hret _ _ _ () _ _ hg.2 hg.1.nar hP hD hS dX9_isName_11
theorem zv_X9_isBlock : zV yX9_isBlock RX9 cX9_isBlock 2 (some .boolean) 1 := ⟨q_959, qp_26, q_8, q_960, by decide +kernel⟩
set_option maxHeartbeats 4000000 in
set_option maxRecDepth 100000 in
theorem c_X9_isBlock (l : Launch) (G : ZG) (o0 : Nat) (d0 : Nat → Nat) (x1 : Int32) (S0 : ZS) (Q : Int32 → Prop) (hg : g_X9_isBlock x1 S0 Q) : Ki l G yX9_isBlock cX9_isBlock 2 .boolean rm_X9_isBlock [.ref o0, .int x1] (wX9 G o0 d0 S0) (fun _ : Unit => wX9 G o0 d0 S0) (fun r _ => Q r ) := by
  refine Ki.of (by decide) (Nat.le_of_ble_eq_true rfl) ?_
  intro p e s m args below meth c A QQ ls Cx hret hl hP hD hS
  obtain ⟨hx, hb, hml, hown, hT, hK, hA⟩ := id Cx
  have hl : lv_has ls 2 [(0, .ref o0), (1, .int x1)] := hl
  refine lv_iload_n hx hb dX9_isBlock_0 rfl (lv_at hl 1 rfl) ?_
  refine lv_iconst (v := 0) hx hb dX9_isBlock_1 (by decide) ?_
  refine lv_aload_n hx hb dX9_isBlock_2 rfl (lv_at hl 0 rfl) ?_
  refine va_get (D := G.1) (ci := 7) (v := .int (S0 3 0)) (C := RX9) (T := TX9) (N := 49) hx hb hT iX9 hown hK hP 0 rfl rfl 3 (by decide) (hT _ q_675) (fun _ h9 => h9) rfl dX9_isBlock_3 ?_
  refine lv_iconst (v := 1) hx hb dX9_isBlock_6 (by decide) ?_
  refine lv_isub hx hb dX9_isBlock_7 ?_
  refine zcSi (As := [.int x1, .int 0, .int ((S0 3 0) - 1)]) (rest := []) Cx (c_X9_in l G x1 0 ((S0 3 0) - 1) _ hg) zv_X9_in q_825 ⟨⟨rfl, rfl⟩, Nat.le_of_ble_eq_true rfl, Nat.le_of_ble_eq_true rfl⟩ (zJ.none (S := Unit) hP hD hS hA) hS rfl hl.1 rfl (Nat.le_of_ble_eq_true rfl) dX9_isBlock_8 (fun r_1 _u H locs hg hP hD hS => ?_)
  exact hret _ _ _ () _ _ hg.2 hg.1.nar hP hD hS dX9_isBlock_11
theorem zv_X9_type : zV yX9_type RX9 cX9_type 2 (some .int) 1 := ⟨q_822, q_823, q_8, q_824, by decide +kernel⟩
set_option maxHeartbeats 4000000 in
set_option maxRecDepth 100000 in
theorem c_X9_type (l : Launch) (G : ZG) (o0 : Nat) (d0 : Nat → Nat) (x1 : Int32) (S0 : ZS) (Q : Int32 → ZS → Prop) (hg : g_X9_type x1 S0 Q) : Ki l G yX9_type cX9_type 2 .int rm_X9_type [.ref o0, .int x1] (wX9 G o0 d0 S0) (fun u : ZS => wX9 G o0 d0 u) (fun r u => Q r u) := by
  refine Ki.of (by decide) (Nat.le_of_ble_eq_true rfl) ?_
  intro p e s m args below meth c A QQ ls Cx hret hl hP hD hS
  obtain ⟨hx, hb, hml, hown, hT, hK, hA⟩ := id Cx
  have hl : lv_has ls 2 [(0, .ref o0), (1, .int x1)] := hl
  refine lv_iload_n hx hb dX9_type_0 rfl (lv_at hl 1 rfl) ?_
  refine lv_iconst (v := 0) hx hb dX9_type_1 (by decide) ?_
  refine lv_sipush (v := 255) hx hb dX9_type_2 (by decide) ?_
  refine zcSi (As := [.int x1, .int 0, .int 255]) (rest := []) Cx (c_X9_in l G x1 0 255 _ hg) zv_X9_in q_825 ⟨⟨rfl, rfl⟩, Nat.le_of_ble_eq_true rfl, Nat.le_of_ble_eq_true rfl⟩ (zJ.none (S := Unit) hP hD hS hA) hS rfl hl.1 rfl (Nat.le_of_ble_eq_true rfl) dX9_type_5 (fun r_1 _u H locs hg hP hD hS => ?_)
  refine lv_if_ne (tgt := 13) hx hb dX9_type_8 (by decide) (fun c_2 => ?_) (fun c_2 => ?_)
  · have hg := hg.2 c_2
    refine lv_aload_n hx hb dX9_type_13 rfl (lv_at hl 0 rfl) ?_
    refine va_get (D := G.1) (ci := 7) (v := .int (S0 1 0)) (C := RX9) (T := TX9) (N := 49) hx hb hT iX9 hown hK hP 0 rfl rfl 1 (by decide) (hT _ q_673) (fun _ h9 => h9) rfl dX9_type_14 ?_
    refine lv_sipush (v := 150) hx hb dX9_type_17 (by decide) ?_
    refine lv_icmp_ne (tgt := 26) hx hb dX9_type_20 (by decide) (fun c_3 => ?_) (fun c_3 => ?_)
    · have hg := hg.2 c_3
      refine lv_aload_n hx hb dX9_type_26 rfl (lv_at hl 0 rfl) ?_
      refine va_get (D := G.1) (ci := 7) (v := .ref (d0 0)) (C := RX9) (T := TX9) (N := 49) hx hb hT iX9 hown hK hP 0 rfl rfl 0 (by decide) (hT _ q_672) (fun _ h9 => h9) rfl dX9_type_27 ?_
      refine lv_aload_n hx hb dX9_type_30 rfl (lv_at hl 0 rfl) ?_
      refine va_get (D := G.1) (ci := 7) (v := .int (S0 1 0)) (C := RX9) (T := TX9) (N := 49) hx hb hT iX9 hown hK hP 0 rfl rfl 1 (by decide) (hT _ q_673) (fun _ h9 => h9) rfl dX9_type_31 ?_
      refine lv_iload_n hx hb dX9_type_34 rfl (lv_at hl 1 rfl) ?_
      refine z_iast hx hb hK hP hD hS 1 0 rfl rfl hg.1 dX9_type_35 (zst S0 0 (S0 1 0).toNatClampNeg x1) (fun S : ZS => wX9 G o0 d0 S) rfl (fun S0_4 H locs eS0_4 hP hD hS => ?_)
      have hg := hg.2 S0_4 eS0_4
      refine lv_aload_n hx hb dX9_type_36 rfl (lv_at hl 0 rfl) ?_
      refine lv_dup hx hb dX9_type_37 rfl ?_
      refine va_get (D := G.1) (ci := 7) (v := .int (S0_4 1 0)) (C := RX9) (T := TX9) (N := 49) hx hb hT iX9 hown hK hP 0 rfl rfl 1 (by decide) (hT _ q_673) (fun _ h9 => h9) rfl dX9_type_38 ?_
      refine lv_iconst (v := 1) hx hb dX9_type_41 (by decide) ?_
      refine lv_iadd hx hb dX9_type_42 ?_
      refine z_put (D := G.1) (ci := 7) (v := .int ((S0_4 1 0) + 1)) (ty := .int) (C := RX9) (T := TX9) (N := 49) hx hb hT iX9 tyX9 tyX9_ok nmX9 hown hK hP hD hS 0 rfl rfl 1 (by decide) (hT _ q_673) (fun _ h9 => h9) rfl (by decide +kernel) rfl rfl (Nat.le_of_ble_eq_true rfl) dX9_type_43 (zst S0_4 1 0 ((S0_4 1 0) + 1)) (fun S : ZS => wX9 G o0 d0 S) rfl (fun S0_5 H locs eS0_5 hP hD hS => ?_)
      have hg := hg S0_5 eS0_5
      refine lv_aload_n hx hb dX9_type_46 rfl (lv_at hl 0 rfl) ?_
      refine va_get (D := G.1) (ci := 7) (v := .int (S0_5 1 0)) (C := RX9) (T := TX9) (N := 49) hx hb hT iX9 hown hK hP 0 rfl rfl 1 (by decide) (hT _ q_673) (fun _ h9 => h9) rfl dX9_type_47 ?_
      exact hret _ _ _ (S0_5) _ _ hg rfl hP hD hS dX9_type_50
    · have hg := hg.1 c_3
      refine lv_bipush (v := (-3)) hx hb dX9_type_23 (by decide) ?_
      exact hret _ _ _ (S0) _ _ hg rfl hP hD hS dX9_type_25
  · have hg := hg.1 c_2
    refine lv_iconst (v := (-1)) hx hb dX9_type_11 (by decide) ?_
    exact hret _ _ _ (S0) _ _ hg rfl hP hD hS dX9_type_12
theorem zv_X9_clear : zV yX9_clear RX9 cX9_clear 2 (some .int) 0 := ⟨q_829, q_830, q_8, q_831, by decide +kernel⟩
set_option maxHeartbeats 4000000 in
set_option maxRecDepth 100000 in
theorem c_X9_clear (l : Launch) (G : ZG) (o0 : Nat) (d0 : Nat → Nat) (S0 : ZS) (Q : Int32 → ZS → Prop) (hg : g_X9_clear S0 Q) : Ki l G yX9_clear cX9_clear 2 .int rm_X9_clear [.ref o0] (wX9 G o0 d0 S0) (fun u : ZS => wX9 G o0 d0 u) (fun r u => Q r u) := by
  refine Ki.of (by decide) (Nat.le_of_ble_eq_true rfl) ?_
  intro p e s m args below meth c A QQ ls Cx hret hl hP hD hS
  obtain ⟨hx, hb, hml, hown, hT, hK, hA⟩ := id Cx
  have hl : lv_has ls 2 [(0, .ref o0)] := hl
  refine lv_aload_n hx hb dX9_clear_0 rfl (lv_at hl 0 rfl) ?_
  refine va_get (D := G.1) (ci := 7) (v := .int (S0 1 0)) (C := RX9) (T := TX9) (N := 49) hx hb hT iX9 hown hK hP 0 rfl rfl 1 (by decide) (hT _ q_673) (fun _ h9 => h9) rfl dX9_clear_1 ?_
  refine lv_istore_n (lv' := [(1, .int (S0 1 0)), (0, .ref o0)]) hx hb dX9_clear_4 rfl hl (by decide) rfl (fun ls hl => ?_)
  refine lv_aload_n hx hb dX9_clear_5 rfl (lv_at hl 1 rfl) ?_
  refine lv_iconst (v := 0) hx hb dX9_clear_6 (by decide) ?_
  refine z_put (D := G.1) (ci := 7) (v := .int 0) (ty := .int) (C := RX9) (T := TX9) (N := 49) hx hb hT iX9 tyX9 tyX9_ok nmX9 hown hK hP hD hS 0 rfl rfl 1 (by decide) (hT _ q_673) (fun _ h9 => h9) rfl (by decide +kernel) rfl rfl (Nat.le_of_ble_eq_true rfl) dX9_clear_7 (zst S0 1 0 0) (fun S : ZS => wX9 G o0 d0 S) rfl (fun S0_1 H locs eS0_1 hP hD hS => ?_)
  have hg := hg S0_1 eS0_1
  refine lv_iload_n hx hb dX9_clear_10 rfl (lv_at hl 0 rfl) ?_
  exact hret _ _ _ (S0_1) _ _ hg rfl hP hD hS dX9_clear_11
theorem zv_X9_here : zV yX9_here RX9 cX9_here 1 (some .int) 0 := ⟨q_842, qp_2, q_8, q_843, by decide +kernel⟩
set_option maxHeartbeats 4000000 in
set_option maxRecDepth 100000 in
theorem c_X9_here (l : Launch) (G : ZG) (o0 : Nat) (d0 : Nat → Nat) (S0 : ZS) (Q : Int32 → ZS → Prop) (hg : g_X9_here S0 Q) : Ki l G yX9_here cX9_here 1 .int rm_X9_here [.ref o0] (wX9 G o0 d0 S0) (fun u : ZS => wX9 G o0 d0 u) (fun r u => Q r u) := by
  refine Ki.of (by decide) (Nat.le_of_ble_eq_true rfl) ?_
  intro p e s m args below meth c A QQ ls Cx hret hl hP hD hS
  obtain ⟨hx, hb, hml, hown, hT, hK, hA⟩ := id Cx
  have hl : lv_has ls 1 [(0, .ref o0)] := hl
  have J38 : ∀ (S0 : ZS) (H : Heap) (locs : List Loc) (ls : Array Slot), G_X9_here_38 Q S0 → va_P G.1 classes (wX9 G o0 d0 S0) H → va_D A (wX9 G o0 d0 S0) → va_S A s.heap H locs → lv_has ls 1 [(0, .ref o0)] → W p l e rm_X9_here s m args below meth c H locs 0 0 QQ (F0 m 38 ls []) := by
    intro S0 H locs ls hg hP hD hS hl
    refine lv_aload_n hx hb dX9_here_38 rfl (lv_at hl 0 rfl) ?_
    refine va_get (D := G.1) (ci := 7) (v := .int (S0 22 0)) (C := RX9) (T := TX9) (N := 49) hx hb hT iX9 hown hK hP 0 rfl rfl 22 (by decide) (hT _ q_694) (fun _ h9 => h9) rfl dX9_here_39 ?_
    refine lv_aload_n hx hb dX9_here_42 rfl (lv_at hl 0 rfl) ?_
    refine va_get (D := G.1) (ci := 7) (v := .int (S0 1 0)) (C := RX9) (T := TX9) (N := 49) hx hb hT iX9 hown hK hP 0 rfl rfl 1 (by decide) (hT _ q_673) (fun _ h9 => h9) rfl dX9_here_43 ?_
    refine lv_icmp_ge (tgt := 61) hx hb dX9_here_46 (by decide) (fun c_1 => ?_) (fun c_1 => ?_)
    · have hg := hg.1 c_1
      refine lv_iconst (v := (-1)) hx hb dX9_here_61 (by decide) ?_
      exact hret _ _ _ (S0) _ _ hg rfl hP hD hS dX9_here_62
    · have hg := hg.2 c_1
      refine lv_aload_n hx hb dX9_here_49 rfl (lv_at hl 0 rfl) ?_
      refine va_get (D := G.1) (ci := 7) (v := .ref (d0 0)) (C := RX9) (T := TX9) (N := 49) hx hb hT iX9 hown hK hP 0 rfl rfl 0 (by decide) (hT _ q_672) (fun _ h9 => h9) rfl dX9_here_50 ?_
      refine lv_aload_n hx hb dX9_here_53 rfl (lv_at hl 0 rfl) ?_
      refine va_get (D := G.1) (ci := 7) (v := .int (S0 22 0)) (C := RX9) (T := TX9) (N := 49) hx hb hT iX9 hown hK hP 0 rfl rfl 22 (by decide) (hT _ q_694) (fun _ h9 => h9) rfl dX9_here_54 ?_
      refine va_iald hx hb hK hP 1 0 rfl rfl hg.1 dX9_here_57 ?_
      have hg := hg.2
      refine lv_goto (tgt := 62) hx hb dX9_here_58 (by decide) ?_
      exact hret _ _ _ (S0) _ _ hg rfl hP hD hS dX9_here_62
  have L0 : ∀ (n : Nat) (S0 : ZS) (H : Heap) (locs : List Loc) (ls : Array Slot), fx (F_X9_here_0 Q) n S0 → va_P G.1 classes (wX9 G o0 d0 S0) H → va_D A (wX9 G o0 d0 S0) → va_S A s.heap H locs → lv_has ls 1 [(0, .ref o0)] → W p l e rm_X9_here s m args below meth c H locs 0 0 QQ (F0 m 0 ls []) := by
    intro n
    induction n with
    | zero => intro S0 H locs ls hg; exact hg.elim
    | succ n ih =>
      have hX0 := ih
      intro S0 H locs ls hg hP hD hS hl
      refine lv_aload_n hx hb dX9_here_0 rfl (lv_at hl 0 rfl) ?_
      refine va_get (D := G.1) (ci := 7) (v := .int (S0 22 0)) (C := RX9) (T := TX9) (N := 49) hx hb hT iX9 hown hK hP 0 rfl rfl 22 (by decide) (hT _ q_694) (fun _ h9 => h9) rfl dX9_here_1 ?_
      refine lv_aload_n hx hb dX9_here_4 rfl (lv_at hl 0 rfl) ?_
      refine va_get (D := G.1) (ci := 7) (v := .int (S0 1 0)) (C := RX9) (T := TX9) (N := 49) hx hb hT iX9 hown hK hP 0 rfl rfl 1 (by decide) (hT _ q_673) (fun _ h9 => h9) rfl dX9_here_5 ?_
      refine lv_icmp_ge (tgt := 38) hx hb dX9_here_8 (by decide) (fun c_1 => ?_) (fun c_1 => ?_)
      · have hg := hg.1 c_1
        exact J38 _ _ _ _ hg hP hD hS (lv_sub hl [0] rfl)
      · have hg := hg.2 c_1
        refine lv_aload_n hx hb dX9_here_11 rfl (lv_at hl 0 rfl) ?_
        refine va_get (D := G.1) (ci := 7) (v := .ref (d0 0)) (C := RX9) (T := TX9) (N := 49) hx hb hT iX9 hown hK hP 0 rfl rfl 0 (by decide) (hT _ q_672) (fun _ h9 => h9) rfl dX9_here_12 ?_
        refine lv_aload_n hx hb dX9_here_15 rfl (lv_at hl 0 rfl) ?_
        refine va_get (D := G.1) (ci := 7) (v := .int (S0 22 0)) (C := RX9) (T := TX9) (N := 49) hx hb hT iX9 hown hK hP 0 rfl rfl 22 (by decide) (hT _ q_694) (fun _ h9 => h9) rfl dX9_here_16 ?_
        refine va_iald hx hb hK hP 1 0 rfl rfl hg.1 dX9_here_19 ?_
        have hg := hg.2
        refine lv_bipush (v := 32) hx hb dX9_here_20 (by decide) ?_
        refine lv_icmp_ne (tgt := 38) hx hb dX9_here_22 (by decide) (fun c_2 => ?_) (fun c_2 => ?_)
        · have hg := hg.2 c_2
          exact J38 _ _ _ _ hg hP hD hS (lv_sub hl [0] rfl)
        · have hg := hg.1 c_2
          refine lv_aload_n hx hb dX9_here_25 rfl (lv_at hl 0 rfl) ?_
          refine lv_dup hx hb dX9_here_26 rfl ?_
          refine va_get (D := G.1) (ci := 7) (v := .int (S0 22 0)) (C := RX9) (T := TX9) (N := 49) hx hb hT iX9 hown hK hP 0 rfl rfl 22 (by decide) (hT _ q_694) (fun _ h9 => h9) rfl dX9_here_27 ?_
          refine lv_iconst (v := 1) hx hb dX9_here_30 (by decide) ?_
          refine lv_iadd hx hb dX9_here_31 ?_
          refine z_put (D := G.1) (ci := 7) (v := .int ((S0 22 0) + 1)) (ty := .int) (C := RX9) (T := TX9) (N := 49) hx hb hT iX9 tyX9 tyX9_ok nmX9 hown hK hP hD hS 0 rfl rfl 22 (by decide) (hT _ q_694) (fun _ h9 => h9) rfl (by decide +kernel) rfl rfl (Nat.le_of_ble_eq_true rfl) dX9_here_32 (zst S0 22 0 ((S0 22 0) + 1)) (fun S : ZS => wX9 G o0 d0 S) rfl (fun S0_3 H locs eS0_3 hP hD hS => ?_)
          have hg := hg S0_3 eS0_3
          refine lv_goto (tgt := 0) hx hb dX9_here_35 (by decide) ?_
          exact hX0 _ _ _ _ hg hP hD hS (lv_sub hl [0] rfl)
  obtain ⟨n, hg⟩ := hg
  exact L0 n _ _ _ _ hg hP hD hS (lv_sub hl [0] rfl)
theorem zv_X9_numeral : zV yX9_numeral RX9 cX9_numeral 4 (some .int) 1 := ⟨q_866, qp_8, q_8, q_867, by decide +kernel⟩
set_option maxHeartbeats 4000000 in
set_option maxRecDepth 100000 in
theorem c_X9_numeral (l : Launch) (G : ZG) (o0 : Nat) (d0 : Nat → Nat) (x1 : Int32) (S0 : ZS) (Q : Int32 → ZS → Prop) (hg : g_X9_numeral x1 S0 Q) : Ki l G yX9_numeral cX9_numeral 4 .int rm_X9_numeral [.ref o0, .int x1] (wX9 G o0 d0 S0) (fun u : ZS => wX9 G o0 d0 u) (fun r u => Q r u) := by
  refine Ki.of (by decide) (Nat.le_of_ble_eq_true rfl) ?_
  intro p e s m args below meth c A QQ ls Cx hret hl hP hD hS
  obtain ⟨hx, hb, hml, hown, hT, hK, hA⟩ := id Cx
  have hl : lv_has ls 4 [(0, .ref o0), (1, .int x1)] := hl
  have J126 : ∀ (x2 : Int32) (x3 : Int32) (t1 : Int32) (S0 : ZS) (H : Heap) (locs : List Loc) (ls : Array Slot), G_X9_numeral_126 x1 Q x2 x3 t1 S0 → va_P G.1 classes (wX9 G o0 d0 S0) H → va_D A (wX9 G o0 d0 S0) → va_S A s.heap H locs → lv_has ls 4 [(0, .ref o0), (2, .int x2), (3, .int x3)] → W p l e rm_X9_numeral s m args below meth c H locs 0 0 QQ (F0 m 126 ls [.int t1, .ref o0]) := by
    intro x2 x3 t1 S0 H locs ls hg hP hD hS hl
    refine z_put (D := G.1) (ci := 7) (v := .int t1) (ty := .boolean) (C := RX9) (T := TX9) (N := 49) hx hb hT iX9 tyX9 tyX9_ok nmX9 hown hK hP hD hS 0 rfl rfl 23 (by decide) (hT _ q_695) (fun _ h9 => h9) rfl (by decide +kernel) hg.1.nar hg.1.fit (Nat.le_of_ble_eq_true rfl) dX9_numeral_126 (zst S0 23 0 t1) (fun S : ZS => wX9 G o0 d0 S) rfl (fun S0_1 H locs eS0_1 hP hD hS => ?_)
    have hg := hg.2 S0_1 eS0_1
    refine lv_aload_n hx hb dX9_numeral_129 rfl (lv_at hl 0 rfl) ?_
    refine lv_dup hx hb dX9_numeral_130 rfl ?_
    refine va_get (D := G.1) (ci := 7) (v := .int (S0_1 22 0)) (C := RX9) (T := TX9) (N := 49) hx hb hT iX9 hown hK hP 0 rfl rfl 22 (by decide) (hT _ q_694) (fun _ h9 => h9) rfl dX9_numeral_131 ?_
    refine lv_aload_n hx hb dX9_numeral_134 rfl (lv_at hl 0 rfl) ?_
    refine va_get (D := G.1) (ci := 7) (v := .int (S0_1 23 0)) (C := RX9) (T := TX9) (N := 49) hx hb hT iX9 hown hK hP 0 rfl rfl 23 (by decide) (hT _ q_695) (fun _ h9 => h9) rfl dX9_numeral_135 ?_
    refine lv_if_eq (tgt := 145) hx hb dX9_numeral_138 (by decide) (fun c_2 => ?_) (fun c_2 => ?_)
    · have hg := hg.1 c_2
      refine lv_iload_n hx hb dX9_numeral_145 rfl (lv_at hl 1 rfl) ?_
      refine lv_iadd hx hb dX9_numeral_146 ?_
      refine z_put (D := G.1) (ci := 7) (v := .int ((S0_1 22 0) + x2)) (ty := .int) (C := RX9) (T := TX9) (N := 49) hx hb hT iX9 tyX9 tyX9_ok nmX9 hown hK hP hD hS 0 rfl rfl 22 (by decide) (hT _ q_694) (fun _ h9 => h9) rfl (by decide +kernel) rfl rfl (Nat.le_of_ble_eq_true rfl) dX9_numeral_147 (zst S0_1 22 0 ((S0_1 22 0) + x2)) (fun S : ZS => wX9 G o0 d0 S) rfl (fun S0_3 H locs eS0_3 hP hD hS => ?_)
      have hg := hg S0_3 eS0_3
      refine lv_iload_n hx hb dX9_numeral_150 rfl (lv_at hl 2 rfl) ?_
      exact hret _ _ _ (S0_3) _ _ hg rfl hP hD hS dX9_numeral_151
    · have hg := hg.2 c_2
      refine lv_iconst (v := 0) hx hb dX9_numeral_141 (by decide) ?_
      refine lv_goto (tgt := 146) hx hb dX9_numeral_142 (by decide) ?_
      refine lv_iadd hx hb dX9_numeral_146 ?_
      refine z_put (D := G.1) (ci := 7) (v := .int ((S0_1 22 0) + 0)) (ty := .int) (C := RX9) (T := TX9) (N := 49) hx hb hT iX9 tyX9 tyX9_ok nmX9 hown hK hP hD hS 0 rfl rfl 22 (by decide) (hT _ q_694) (fun _ h9 => h9) rfl (by decide +kernel) rfl rfl (Nat.le_of_ble_eq_true rfl) dX9_numeral_147 (zst S0_1 22 0 ((S0_1 22 0) + 0)) (fun S : ZS => wX9 G o0 d0 S) rfl (fun S0_4 H locs eS0_4 hP hD hS => ?_)
      have hg := hg S0_4 eS0_4
      refine lv_iload_n hx hb dX9_numeral_150 rfl (lv_at hl 2 rfl) ?_
      exact hret _ _ _ (S0_4) _ _ hg rfl hP hD hS dX9_numeral_151
  have J121 : ∀ (x2 : Int32) (x3 : Int32) (S0 : ZS) (H : Heap) (locs : List Loc) (ls : Array Slot), G_X9_numeral_121 x1 Q x2 x3 S0 → va_P G.1 classes (wX9 G o0 d0 S0) H → va_D A (wX9 G o0 d0 S0) → va_S A s.heap H locs → lv_has ls 4 [(0, .ref o0), (2, .int x2), (3, .int x3)] → W p l e rm_X9_numeral s m args below meth c H locs 0 0 QQ (F0 m 121 ls [.ref o0]) := by
    intro x2 x3 S0 H locs ls hg hP hD hS hl
    refine lv_iconst (v := 1) hx hb dX9_numeral_121 (by decide) ?_
    refine lv_goto (tgt := 126) hx hb dX9_numeral_122 (by decide) ?_
    exact J126 _ _ _ _ _ _ _ hg hP hD hS (lv_sub hl [0, 1, 2] rfl)
  have J116 : ∀ (x2 : Int32) (x3 : Int32) (S0 : ZS) (H : Heap) (locs : List Loc) (ls : Array Slot), G_X9_numeral_116 x1 Q x2 x3 S0 → va_P G.1 classes (wX9 G o0 d0 S0) H → va_D A (wX9 G o0 d0 S0) → va_S A s.heap H locs → lv_has ls 4 [(0, .ref o0), (1, .int x1), (2, .int x2), (3, .int x3)] → W p l e rm_X9_numeral s m args below meth c H locs 0 0 QQ (F0 m 116 ls [.ref o0]) := by
    intro x2 x3 S0 H locs ls hg hP hD hS hl
    refine lv_iload_n hx hb dX9_numeral_116 rfl (lv_at hl 3 rfl) ?_
    refine lv_iload_n hx hb dX9_numeral_117 rfl (lv_at hl 1 rfl) ?_
    refine lv_icmp_le (tgt := 125) hx hb dX9_numeral_118 (by decide) (fun c_1 => ?_) (fun c_1 => ?_)
    · have hg := hg.1 c_1
      refine lv_iconst (v := 0) hx hb dX9_numeral_125 (by decide) ?_
      exact J126 _ _ _ _ _ _ _ hg hP hD hS (lv_sub hl [0, 2, 3] rfl)
    · have hg := hg.2 c_1
      exact J121 _ _ _ _ _ _ hg hP hD hS (lv_sub hl [0, 2, 3] rfl)
  have J87 : ∀ (x2 : Int32) (x3 : Int32) (S0 : ZS) (H : Heap) (locs : List Loc) (ls : Array Slot), G_X9_numeral_87 x1 Q x2 x3 S0 → va_P G.1 classes (wX9 G o0 d0 S0) H → va_D A (wX9 G o0 d0 S0) → va_S A s.heap H locs → lv_has ls 4 [(0, .ref o0), (1, .int x1), (2, .int x2), (3, .int x3)] → W p l e rm_X9_numeral s m args below meth c H locs 0 0 QQ (F0 m 87 ls []) := by
    intro x2 x3 S0 H locs ls hg hP hD hS hl
    refine lv_aload_n hx hb dX9_numeral_87 rfl (lv_at hl 0 rfl) ?_
    refine lv_iload_n hx hb dX9_numeral_88 rfl (lv_at hl 2 rfl) ?_
    refine lv_iconst (v := 1) hx hb dX9_numeral_89 (by decide) ?_
    refine lv_iconst (v := 3) hx hb dX9_numeral_90 (by decide) ?_
    refine zcSi (As := [.int x2, .int 1, .int 3]) (rest := [.ref o0]) Cx (c_X9_in l G x2 1 3 _ hg) zv_X9_in q_825 ⟨⟨rfl, rfl⟩, Nat.le_of_ble_eq_true rfl, Nat.le_of_ble_eq_true rfl⟩ (zJ.none (S := Unit) hP hD hS hA) hS rfl hl.1 rfl (Nat.le_of_ble_eq_true rfl) dX9_numeral_91 (fun r_1 _u H locs hg hP hD hS => ?_)
    refine lv_if_eq (tgt := 121) hx hb dX9_numeral_94 (by decide) (fun c_2 => ?_) (fun c_2 => ?_)
    · have hg := hg.1 c_2
      exact J121 _ _ _ _ _ _ hg hP hD hS (lv_sub hl [0, 2, 3] rfl)
    · have hg := hg.2 c_2
      refine lv_iload_n hx hb dX9_numeral_97 rfl (lv_at hl 2 rfl) ?_
      refine lv_iconst (v := 1) hx hb dX9_numeral_98 (by decide) ?_
      refine lv_icmp_le (tgt := 116) hx hb dX9_numeral_99 (by decide) (fun c_3 => ?_) (fun c_3 => ?_)
      · have hg := hg.1 c_3
        exact J116 _ _ _ _ _ _ hg hP hD hS (lv_sub hl [0, 1, 2, 3] rfl)
      · have hg := hg.2 c_3
        refine lv_aload_n hx hb dX9_numeral_102 rfl (lv_at hl 0 rfl) ?_
        refine va_get (D := G.1) (ci := 7) (v := .ref (d0 0)) (C := RX9) (T := TX9) (N := 49) hx hb hT iX9 hown hK hP 0 rfl rfl 0 (by decide) (hT _ q_672) (fun _ h9 => h9) rfl dX9_numeral_103 ?_
        refine lv_aload_n hx hb dX9_numeral_106 rfl (lv_at hl 0 rfl) ?_
        refine va_get (D := G.1) (ci := 7) (v := .int (S0 22 0)) (C := RX9) (T := TX9) (N := 49) hx hb hT iX9 hown hK hP 0 rfl rfl 22 (by decide) (hT _ q_694) (fun _ h9 => h9) rfl dX9_numeral_107 ?_
        refine va_iald hx hb hK hP 1 0 rfl rfl hg.1 dX9_numeral_110 ?_
        have hg := hg.2
        refine lv_bipush (v := 48) hx hb dX9_numeral_111 (by decide) ?_
        refine lv_icmp_eq (tgt := 121) hx hb dX9_numeral_113 (by decide) (fun c_4 => ?_) (fun c_4 => ?_)
        · have hg := hg.1 c_4
          exact J121 _ _ _ _ _ _ hg hP hD hS (lv_sub hl [0, 2, 3] rfl)
        · have hg := hg.2 c_4
          exact J116 _ _ _ _ _ _ hg hP hD hS (lv_sub hl [0, 1, 2, 3] rfl)
  have L18 : ∀ (n : Nat) (x2 : Int32) (x3 : Int32) (S0 : ZS) (H : Heap) (locs : List Loc) (ls : Array Slot), fx (F_X9_numeral_18 x1 Q) n (x2, x3, S0) → va_P G.1 classes (wX9 G o0 d0 S0) H → va_D A (wX9 G o0 d0 S0) → va_S A s.heap H locs → lv_has ls 4 [(0, .ref o0), (1, .int x1), (2, .int x2), (3, .int x3)] → W p l e rm_X9_numeral s m args below meth c H locs 0 0 QQ (F0 m 18 ls []) := by
    intro n
    induction n with
    | zero => intro x2 x3 S0 H locs ls hg; exact hg.elim
    | succ n ih =>
      have hX18 := ih
      intro x2 x3 S0 H locs ls hg hP hD hS hl
      refine lv_aload_n hx hb dX9_numeral_18 rfl (lv_at hl 0 rfl) ?_
      refine va_get (D := G.1) (ci := 7) (v := .int (S0 22 0)) (C := RX9) (T := TX9) (N := 49) hx hb hT iX9 hown hK hP 0 rfl rfl 22 (by decide) (hT _ q_694) (fun _ h9 => h9) rfl dX9_numeral_19 ?_
      refine lv_iload_n hx hb dX9_numeral_22 rfl (lv_at hl 2 rfl) ?_
      refine lv_iadd hx hb dX9_numeral_23 ?_
      refine lv_aload_n hx hb dX9_numeral_24 rfl (lv_at hl 0 rfl) ?_
      refine va_get (D := G.1) (ci := 7) (v := .int (S0 1 0)) (C := RX9) (T := TX9) (N := 49) hx hb hT iX9 hown hK hP 0 rfl rfl 1 (by decide) (hT _ q_673) (fun _ h9 => h9) rfl dX9_numeral_25 ?_
      refine lv_icmp_ge (tgt := 87) hx hb dX9_numeral_28 (by decide) (fun c_1 => ?_) (fun c_1 => ?_)
      · have hg := hg.1 c_1
        exact J87 _ _ _ _ _ _ hg hP hD hS (lv_sub hl [0, 1, 2, 3] rfl)
      · have hg := hg.2 c_1
        refine lv_aload_n hx hb dX9_numeral_31 rfl (lv_at hl 0 rfl) ?_
        refine va_get (D := G.1) (ci := 7) (v := .ref (d0 0)) (C := RX9) (T := TX9) (N := 49) hx hb hT iX9 hown hK hP 0 rfl rfl 0 (by decide) (hT _ q_672) (fun _ h9 => h9) rfl dX9_numeral_32 ?_
        refine lv_aload_n hx hb dX9_numeral_35 rfl (lv_at hl 0 rfl) ?_
        refine va_get (D := G.1) (ci := 7) (v := .int (S0 22 0)) (C := RX9) (T := TX9) (N := 49) hx hb hT iX9 hown hK hP 0 rfl rfl 22 (by decide) (hT _ q_694) (fun _ h9 => h9) rfl dX9_numeral_36 ?_
        refine lv_iload_n hx hb dX9_numeral_39 rfl (lv_at hl 2 rfl) ?_
        refine lv_iadd hx hb dX9_numeral_40 ?_
        refine va_iald hx hb hK hP 1 0 rfl rfl hg.1 dX9_numeral_41 ?_
        have hg := hg.2
        refine lv_bipush (v := 48) hx hb dX9_numeral_42 (by decide) ?_
        refine lv_bipush (v := 57) hx hb dX9_numeral_44 (by decide) ?_
        refine zcSi (As := [.int (S0 0 ((S0 22 0) + x2).toNatClampNeg), .int 48, .int 57]) (rest := []) Cx (c_X9_in l G (S0 0 ((S0 22 0) + x2).toNatClampNeg) 48 57 _ hg) zv_X9_in q_825 ⟨⟨rfl, rfl⟩, Nat.le_of_ble_eq_true rfl, Nat.le_of_ble_eq_true rfl⟩ (zJ.none (S := Unit) hP hD hS hA) hS rfl hl.1 rfl (Nat.le_of_ble_eq_true rfl) dX9_numeral_46 (fun r_2 _u H locs hg hP hD hS => ?_)
        refine lv_if_eq (tgt := 87) hx hb dX9_numeral_49 (by decide) (fun c_3 => ?_) (fun c_3 => ?_)
        · have hg := hg.1 c_3
          exact J87 _ _ _ _ _ _ hg hP hD hS (lv_sub hl [0, 1, 2, 3] rfl)
        · have hg := hg.2 c_3
          refine lv_iload_n hx hb dX9_numeral_52 rfl (lv_at hl 2 rfl) ?_
          refine lv_iconst (v := 4) hx hb dX9_numeral_53 (by decide) ?_
          refine lv_icmp_ge (tgt := 79) hx hb dX9_numeral_54 (by decide) (fun c_4 => ?_) (fun c_4 => ?_)
          · have hg := hg.1 c_4
            refine lv_iload_n hx hb dX9_numeral_79 rfl (lv_at hl 3 rfl) ?_
            refine lv_istore_n (lv' := [(3, .int x3), (0, .ref o0), (1, .int x1), (2, .int x2)]) hx hb dX9_numeral_80 rfl hl (by decide) rfl (fun ls hl => ?_)
            obtain ⟨x2_5, ex2_5⟩ : ∃ y : Int32, y = x2 + 1 := ⟨_, rfl⟩
            have hg := hg x2_5 ex2_5
            refine lv_iinc (v := x2_5) (lv' := [(2, .int x2_5), (3, .int x3), (0, .ref o0), (1, .int x1)]) hx hb dX9_numeral_81 hl (k := 3) rfl (by rw [ex2_5]; rfl) (by decide) rfl (fun ls hl => ?_)
            refine lv_goto (tgt := 18) hx hb dX9_numeral_84 (by decide) ?_
            exact hX18 _ _ _ _ _ _ hg hP hD hS (lv_sub hl [2, 3, 0, 1] rfl)
          · have hg := hg.2 c_4
            refine lv_bipush (v := 10) hx hb dX9_numeral_57 (by decide) ?_
            refine lv_iload_n hx hb dX9_numeral_59 rfl (lv_at hl 3 rfl) ?_
            refine lv_imul hx hb dX9_numeral_60 ?_
            refine lv_aload_n hx hb dX9_numeral_61 rfl (lv_at hl 0 rfl) ?_
            refine va_get (D := G.1) (ci := 7) (v := .ref (d0 0)) (C := RX9) (T := TX9) (N := 49) hx hb hT iX9 hown hK hP 0 rfl rfl 0 (by decide) (hT _ q_672) (fun _ h9 => h9) rfl dX9_numeral_62 ?_
            refine lv_aload_n hx hb dX9_numeral_65 rfl (lv_at hl 0 rfl) ?_
            refine va_get (D := G.1) (ci := 7) (v := .int (S0 22 0)) (C := RX9) (T := TX9) (N := 49) hx hb hT iX9 hown hK hP 0 rfl rfl 22 (by decide) (hT _ q_694) (fun _ h9 => h9) rfl dX9_numeral_66 ?_
            refine lv_iload_n hx hb dX9_numeral_69 rfl (lv_at hl 2 rfl) ?_
            refine lv_iadd hx hb dX9_numeral_70 ?_
            refine va_iald hx hb hK hP 1 0 rfl rfl hg.1 dX9_numeral_71 ?_
            have hg := hg.2
            refine lv_iadd hx hb dX9_numeral_72 ?_
            refine lv_bipush (v := 48) hx hb dX9_numeral_73 (by decide) ?_
            refine lv_isub hx hb dX9_numeral_75 ?_
            refine lv_goto (tgt := 80) hx hb dX9_numeral_76 (by decide) ?_
            refine lv_topi (fun x3_6 ex3_6 => ?_)
            have hg := hg x3_6 ex3_6
            refine lv_istore_n (lv' := [(3, .int x3_6), (0, .ref o0), (1, .int x1), (2, .int x2)]) hx hb dX9_numeral_80 rfl hl (by decide) rfl (fun ls hl => ?_)
            obtain ⟨x2_7, ex2_7⟩ : ∃ y : Int32, y = x2 + 1 := ⟨_, rfl⟩
            have hg := hg x2_7 ex2_7
            refine lv_iinc (v := x2_7) (lv' := [(2, .int x2_7), (3, .int x3_6), (0, .ref o0), (1, .int x1)]) hx hb dX9_numeral_81 hl (k := 3) rfl (by rw [ex2_7]; rfl) (by decide) rfl (fun ls hl => ?_)
            refine lv_goto (tgt := 18) hx hb dX9_numeral_84 (by decide) ?_
            exact hX18 _ _ _ _ _ _ hg hP hD hS (lv_sub hl [2, 3, 0, 1] rfl)
  refine lv_aload_n hx hb dX9_numeral_0 rfl (lv_at hl 0 rfl) ?_
  refine va_get (D := G.1) (ci := 7) (v := .int (S0 23 0)) (C := RX9) (T := TX9) (N := 49) hx hb hT iX9 hown hK hP 0 rfl rfl 23 (by decide) (hT _ q_695) (fun _ h9 => h9) rfl dX9_numeral_1 ?_
  refine lv_if_eq (tgt := 9) hx hb dX9_numeral_4 (by decide) (fun c_1 => ?_) (fun c_1 => ?_)
  · have hg := hg.1 c_1
    refine lv_aload_n hx hb dX9_numeral_9 rfl (lv_at hl 0 rfl) ?_
    refine zcVi (As := []) (rest := []) (C := RX9) Cx (c_X9_here l G o0 d0 S0 _ hg) zv_X9_here q_840 ⟨⟨rfl, rfl⟩, Nat.le_of_ble_eq_true rfl, Nat.le_of_ble_eq_true rfl⟩ (zJ.all hP hD hS hA) hS 7 rfl rfl rfl rfl hl.1 rfl (Nat.le_of_ble_eq_true rfl) dX9_numeral_10 (fun r_3 S0_2 H locs hg hP hD hS => ?_)
    have hP : va_P G.1 classes (wX9 G o0 d0 S0_2) H := hP
    have hD : va_D A (wX9 G o0 d0 S0_2) := hD
    refine lv_pop hx hb dX9_numeral_13 rfl ?_
    refine lv_iconst (v := 0) hx hb dX9_numeral_14 (by decide) ?_
    refine lv_istore_n (lv' := [(2, .int 0), (0, .ref o0), (1, .int x1)]) hx hb dX9_numeral_15 rfl hl (by decide) rfl (fun ls hl => ?_)
    refine lv_iconst (v := 0) hx hb dX9_numeral_16 (by decide) ?_
    refine lv_istore_n (lv' := [(3, .int 0), (2, .int 0), (0, .ref o0), (1, .int x1)]) hx hb dX9_numeral_17 rfl hl (by decide) rfl (fun ls hl => ?_)
    obtain ⟨n, hg⟩ := hg
    exact L18 n _ _ _ _ _ _ hg hP hD hS (lv_sub hl [2, 3, 1, 0] rfl)
  · have hg := hg.2 c_1
    refine lv_iconst (v := 0) hx hb dX9_numeral_7 (by decide) ?_
    exact hret _ _ _ (S0) _ _ hg rfl hP hD hS dX9_numeral_8
theorem zv_X9_closes : zV yX9_closes RX9 cX9_closes 1 none 0 := ⟨q_858, qp_6, q_8, q_859, by decide +kernel⟩
set_option maxHeartbeats 4000000 in
set_option maxRecDepth 100000 in
theorem c_X9_closes (l : Launch) (G : ZG) (o0 : Nat) (d0 : Nat → Nat) (S0 : ZS) (Q : ZS → Prop) (hg : g_X9_closes S0 Q) : Kv l G yX9_closes cX9_closes 1 rm_X9_closes [.ref o0] (wX9 G o0 d0 S0) (fun u : ZS => wX9 G o0 d0 u) (fun u => Q u) := by
  refine Kv.of (by decide) (Nat.le_of_ble_eq_true rfl) ?_
  intro p e s m args below meth c A QQ ls Cx hret hl hP hD hS
  obtain ⟨hx, hb, hml, hown, hT, hK, hA⟩ := id Cx
  have hl : lv_has ls 1 [(0, .ref o0)] := hl
  have J22 : ∀ (t1 : Int32) (S0 : ZS) (H : Heap) (locs : List Loc) (ls : Array Slot), G_X9_closes_22 Q t1 S0 → va_P G.1 classes (wX9 G o0 d0 S0) H → va_D A (wX9 G o0 d0 S0) → va_S A s.heap H locs → lv_has ls 1 [(0, .ref o0)] → W p l e rm_X9_closes s m args below meth c H locs 0 0 QQ (F0 m 22 ls [.int t1, .ref o0]) := by
    intro t1 S0 H locs ls hg hP hD hS hl
    refine z_put (D := G.1) (ci := 7) (v := .int t1) (ty := .boolean) (C := RX9) (T := TX9) (N := 49) hx hb hT iX9 tyX9 tyX9_ok nmX9 hown hK hP hD hS 0 rfl rfl 23 (by decide) (hT _ q_695) (fun _ h9 => h9) rfl (by decide +kernel) hg.1.nar hg.1.fit (Nat.le_of_ble_eq_true rfl) dX9_closes_22 (zst S0 23 0 t1) (fun S : ZS => wX9 G o0 d0 S) rfl (fun S0_1 H locs eS0_1 hP hD hS => ?_)
    have hg := hg.2 S0_1 eS0_1
    refine lv_aload_n hx hb dX9_closes_25 rfl (lv_at hl 0 rfl) ?_
    refine lv_dup hx hb dX9_closes_26 rfl ?_
    refine va_get (D := G.1) (ci := 7) (v := .int (S0_1 22 0)) (C := RX9) (T := TX9) (N := 49) hx hb hT iX9 hown hK hP 0 rfl rfl 22 (by decide) (hT _ q_694) (fun _ h9 => h9) rfl dX9_closes_27 ?_
    refine lv_aload_n hx hb dX9_closes_30 rfl (lv_at hl 0 rfl) ?_
    refine va_get (D := G.1) (ci := 7) (v := .int (S0_1 23 0)) (C := RX9) (T := TX9) (N := 49) hx hb hT iX9 hown hK hP 0 rfl rfl 23 (by decide) (hT _ q_695) (fun _ h9 => h9) rfl dX9_closes_31 ?_
    refine lv_if_eq (tgt := 41) hx hb dX9_closes_34 (by decide) (fun c_2 => ?_) (fun c_2 => ?_)
    · have hg := hg.1 c_2
      refine lv_iconst (v := 1) hx hb dX9_closes_41 (by decide) ?_
      refine lv_iadd hx hb dX9_closes_42 ?_
      refine z_put (D := G.1) (ci := 7) (v := .int ((S0_1 22 0) + 1)) (ty := .int) (C := RX9) (T := TX9) (N := 49) hx hb hT iX9 tyX9 tyX9_ok nmX9 hown hK hP hD hS 0 rfl rfl 22 (by decide) (hT _ q_694) (fun _ h9 => h9) rfl (by decide +kernel) rfl rfl (Nat.le_of_ble_eq_true rfl) dX9_closes_43 (zst S0_1 22 0 ((S0_1 22 0) + 1)) (fun S : ZS => wX9 G o0 d0 S) rfl (fun S0_3 H locs eS0_3 hP hD hS => ?_)
      have hg := hg S0_3 eS0_3
      exact hret _ _ (S0_3) _ _ hg hP hD hS dX9_closes_46
    · have hg := hg.2 c_2
      refine lv_iconst (v := 0) hx hb dX9_closes_37 (by decide) ?_
      refine lv_goto (tgt := 42) hx hb dX9_closes_38 (by decide) ?_
      refine lv_iadd hx hb dX9_closes_42 ?_
      refine z_put (D := G.1) (ci := 7) (v := .int ((S0_1 22 0) + 0)) (ty := .int) (C := RX9) (T := TX9) (N := 49) hx hb hT iX9 tyX9 tyX9_ok nmX9 hown hK hP hD hS 0 rfl rfl 22 (by decide) (hT _ q_694) (fun _ h9 => h9) rfl (by decide +kernel) rfl rfl (Nat.le_of_ble_eq_true rfl) dX9_closes_43 (zst S0_1 22 0 ((S0_1 22 0) + 0)) (fun S : ZS => wX9 G o0 d0 S) rfl (fun S0_4 H locs eS0_4 hP hD hS => ?_)
      have hg := hg S0_4 eS0_4
      exact hret _ _ (S0_4) _ _ hg hP hD hS dX9_closes_46
  refine lv_aload_n hx hb dX9_closes_0 rfl (lv_at hl 0 rfl) ?_
  refine va_get (D := G.1) (ci := 7) (v := .int (S0 23 0)) (C := RX9) (T := TX9) (N := 49) hx hb hT iX9 hown hK hP 0 rfl rfl 23 (by decide) (hT _ q_695) (fun _ h9 => h9) rfl dX9_closes_1 ?_
  refine lv_if_ne (tgt := 46) hx hb dX9_closes_4 (by decide) (fun c_1 => ?_) (fun c_1 => ?_)
  · have hg := hg.2 c_1
    exact hret _ _ (S0) _ _ hg hP hD hS dX9_closes_46
  · have hg := hg.1 c_1
    refine lv_aload_n hx hb dX9_closes_7 rfl (lv_at hl 0 rfl) ?_
    refine lv_aload_n hx hb dX9_closes_8 rfl (lv_at hl 0 rfl) ?_
    refine zcVi (As := []) (rest := [.ref o0]) (C := RX9) Cx (c_X9_here l G o0 d0 S0 _ hg) zv_X9_here q_840 ⟨⟨rfl, rfl⟩, Nat.le_of_ble_eq_true rfl, Nat.le_of_ble_eq_true rfl⟩ (zJ.all hP hD hS hA) hS 7 rfl rfl rfl rfl hl.1 rfl (Nat.le_of_ble_eq_true rfl) dX9_closes_9 (fun r_3 S0_2 H locs hg hP hD hS => ?_)
    have hP : va_P G.1 classes (wX9 G o0 d0 S0_2) H := hP
    have hD : va_D A (wX9 G o0 d0 S0_2) := hD
    refine lv_bipush (v := 59) hx hb dX9_closes_12 (by decide) ?_
    refine lv_icmp_eq (tgt := 21) hx hb dX9_closes_14 (by decide) (fun c_4 => ?_) (fun c_4 => ?_)
    · have hg := hg.1 c_4
      refine lv_iconst (v := 0) hx hb dX9_closes_21 (by decide) ?_
      exact J22 _ _ _ _ _ hg hP hD hS (lv_sub hl [0] rfl)
    · have hg := hg.2 c_4
      refine lv_iconst (v := 1) hx hb dX9_closes_17 (by decide) ?_
      refine lv_goto (tgt := 22) hx hb dX9_closes_18 (by decide) ?_
      exact J22 _ _ _ _ _ hg hP hD hS (lv_sub hl [0] rfl)
theorem zv_X9_isSign : zSt yX9_isSign cX9_isSign 1 (some .boolean) 1 := ⟨q_873, q_8, q_874, by decide +kernel⟩
set_option maxHeartbeats 4000000 in
set_option maxRecDepth 100000 in
theorem c_X9_isSign (l : Launch) (G : ZG) (x0 : Int32) (Q : Int32 → Prop) (hg : g_X9_isSign x0 Q) : Ki l G yX9_isSign cX9_isSign 1 .boolean rm_X9_isSign [.int x0] (([] : va_W)) (fun _ : Unit => ([] : va_W)) (fun r _ => Q r ) := by
  refine Ki.of (by decide) (Nat.le_of_ble_eq_true rfl) ?_
  intro p e s m args below meth c A QQ ls Cx hret hl hP hD hS
  obtain ⟨hx, hb, hml, hown, hT, hK, hA⟩ := id Cx
  have hl : lv_has ls 1 [(0, .int x0)] := hl
  refine lv_iload_n hx hb dX9_isSign_0 rfl (lv_at hl 0 rfl) ?_
  by_cases k37 : x0 = 37
  · have hg := hg.1 k37
    refine lv_lookup (off := 83) (tgt := 84) hx hb dX9_isSign_1 (by decide) (by rw [k37]; rfl) (by decide) ?_
    refine lv_iconst (v := 1) hx hb dX9_isSign_84 (by decide) ?_
    exact hret _ _ _ () _ _ hg rfl hP hD hS dX9_isSign_85
  by_cases k38 : x0 = 38
  · have hg := hg.2.1 k38
    refine lv_lookup (off := 83) (tgt := 84) hx hb dX9_isSign_1 (by decide) (by rw [k38]; rfl) (by decide) ?_
    refine lv_iconst (v := 1) hx hb dX9_isSign_84 (by decide) ?_
    exact hret _ _ _ () _ _ hg rfl hP hD hS dX9_isSign_85
  by_cases k42 : x0 = 42
  · have hg := hg.2.2.1 k42
    refine lv_lookup (off := 83) (tgt := 84) hx hb dX9_isSign_1 (by decide) (by rw [k42]; rfl) (by decide) ?_
    refine lv_iconst (v := 1) hx hb dX9_isSign_84 (by decide) ?_
    exact hret _ _ _ () _ _ hg rfl hP hD hS dX9_isSign_85
  by_cases k43 : x0 = 43
  · have hg := hg.2.2.2.1 k43
    refine lv_lookup (off := 83) (tgt := 84) hx hb dX9_isSign_1 (by decide) (by rw [k43]; rfl) (by decide) ?_
    refine lv_iconst (v := 1) hx hb dX9_isSign_84 (by decide) ?_
    exact hret _ _ _ () _ _ hg rfl hP hD hS dX9_isSign_85
  by_cases k45 : x0 = 45
  · have hg := hg.2.2.2.2.1 k45
    refine lv_lookup (off := 83) (tgt := 84) hx hb dX9_isSign_1 (by decide) (by rw [k45]; rfl) (by decide) ?_
    refine lv_iconst (v := 1) hx hb dX9_isSign_84 (by decide) ?_
    exact hret _ _ _ () _ _ hg rfl hP hD hS dX9_isSign_85
  by_cases k47 : x0 = 47
  · have hg := hg.2.2.2.2.2.1 k47
    refine lv_lookup (off := 83) (tgt := 84) hx hb dX9_isSign_1 (by decide) (by rw [k47]; rfl) (by decide) ?_
    refine lv_iconst (v := 1) hx hb dX9_isSign_84 (by decide) ?_
    exact hret _ _ _ () _ _ hg rfl hP hD hS dX9_isSign_85
  by_cases k60 : x0 = 60
  · have hg := hg.2.2.2.2.2.2.1 k60
    refine lv_lookup (off := 83) (tgt := 84) hx hb dX9_isSign_1 (by decide) (by rw [k60]; rfl) (by decide) ?_
    refine lv_iconst (v := 1) hx hb dX9_isSign_84 (by decide) ?_
    exact hret _ _ _ () _ _ hg rfl hP hD hS dX9_isSign_85
  by_cases k61 : x0 = 61
  · have hg := hg.2.2.2.2.2.2.2.1 k61
    refine lv_lookup (off := 83) (tgt := 84) hx hb dX9_isSign_1 (by decide) (by rw [k61]; rfl) (by decide) ?_
    refine lv_iconst (v := 1) hx hb dX9_isSign_84 (by decide) ?_
    exact hret _ _ _ () _ _ hg rfl hP hD hS dX9_isSign_85
  by_cases k94 : x0 = 94
  · have hg := hg.2.2.2.2.2.2.2.2.1 k94
    refine lv_lookup (off := 83) (tgt := 84) hx hb dX9_isSign_1 (by decide) (by rw [k94]; rfl) (by decide) ?_
    refine lv_iconst (v := 1) hx hb dX9_isSign_84 (by decide) ?_
    exact hret _ _ _ () _ _ hg rfl hP hD hS dX9_isSign_85
  have hg := hg.2.2.2.2.2.2.2.2.2 k37 k38 k42 k43 k45 k47 k60 k61 k94
  refine lv_lookup (off := 85) (tgt := 86) hx hb dX9_isSign_1 (by decide) (by show Op.lookupswitch.offset [(37, 83), (38, 83), (42, 83), (43, 83), (45, 83), (47, 83), (60, 83), (61, 83), (94, 83)] _ _ = _; rw [lv_osw k37 (by decide), lv_osw k38 (by decide), lv_osw k42 (by decide), lv_osw k43 (by decide), lv_osw k45 (by decide), lv_osw k47 (by decide), lv_osw k60 (by decide), lv_osw k61 (by decide), lv_osw k94 (by decide)]; rfl) (by decide) ?_
  refine lv_iconst (v := 0) hx hb dX9_isSign_86 (by decide) ?_
  exact hret _ _ _ () _ _ hg rfl hP hD hS dX9_isSign_87
theorem zv_X9_onlyJoins : zV yX9_onlyJoins RX9 cX9_onlyJoins 3 (some .boolean) 0 := ⟨q_854, qp_5, q_8, q_855, by decide +kernel⟩
set_option maxHeartbeats 4000000 in
set_option maxRecDepth 100000 in
theorem c_X9_onlyJoins (l : Launch) (G : ZG) (o0 : Nat) (d0 : Nat → Nat) (S0 : ZS) (Q : Int32 → Prop) (hg : g_X9_onlyJoins S0 Q) : Ki l G yX9_onlyJoins cX9_onlyJoins 3 .boolean rm_X9_onlyJoins [.ref o0] (wX9 G o0 d0 S0) (fun _ : Unit => wX9 G o0 d0 S0) (fun r _ => Q r ) := by
  refine Ki.of (by decide) (Nat.le_of_ble_eq_true rfl) ?_
  intro p e s m args below meth c A QQ ls Cx hret hl hP hD hS
  obtain ⟨hx, hb, hml, hown, hT, hK, hA⟩ := id Cx
  have hl : lv_has ls 3 [(0, .ref o0)] := hl
  have L14 : ∀ (n : Nat) (x1 : Int32) (x2 : Int32) (H : Heap) (locs : List Loc) (ls : Array Slot), fx (F_X9_onlyJoins_14 S0 Q) n (x1, x2) → va_P G.1 classes (wX9 G o0 d0 S0) H → va_D A (wX9 G o0 d0 S0) → va_S A s.heap H locs → lv_has ls 3 [(0, .ref o0), (1, .int x1), (2, .int x2)] → W p l e rm_X9_onlyJoins s m args below meth c H locs 0 0 QQ (F0 m 14 ls []) := by
    intro n
    induction n with
    | zero => intro x1 x2 H locs ls hg; exact hg.elim
    | succ n ih =>
      have hX14 := ih
      intro x1 x2 H locs ls hg hP hD hS hl
      refine lv_iload_n hx hb dX9_onlyJoins_14 rfl (lv_at hl 2 rfl) ?_
      refine lv_aload_n hx hb dX9_onlyJoins_15 rfl (lv_at hl 0 rfl) ?_
      refine va_get (D := G.1) (ci := 7) (v := .int (S0 24 0)) (C := RX9) (T := TX9) (N := 49) hx hb hT iX9 hown hK hP 0 rfl rfl 24 (by decide) (hT _ q_696) (fun _ h9 => h9) rfl dX9_onlyJoins_16 ?_
      refine lv_icmp_ge (tgt := 48) hx hb dX9_onlyJoins_19 (by decide) (fun c_1 => ?_) (fun c_1 => ?_)
      · have hg := hg.1 c_1
        refine lv_iload_n hx hb dX9_onlyJoins_48 rfl (lv_at hl 1 rfl) ?_
        exact hret _ _ _ () _ _ hg.2 hg.1.nar hP hD hS dX9_onlyJoins_49
      · have hg := hg.2 c_1
        refine lv_iload_n hx hb dX9_onlyJoins_22 rfl (lv_at hl 1 rfl) ?_
        refine lv_if_eq (tgt := 40) hx hb dX9_onlyJoins_23 (by decide) (fun c_2 => ?_) (fun c_2 => ?_)
        · have hg := hg.1 c_2
          refine lv_iconst (v := 0) hx hb dX9_onlyJoins_40 (by decide) ?_
          refine lv_istore_n (lv' := [(1, .int 0), (0, .ref o0), (2, .int x2)]) hx hb dX9_onlyJoins_41 rfl hl (by decide) rfl (fun ls hl => ?_)
          obtain ⟨x2_3, ex2_3⟩ : ∃ y : Int32, y = x2 + 1 := ⟨_, rfl⟩
          have hg := hg x2_3 ex2_3
          refine lv_iinc (v := x2_3) (lv' := [(2, .int x2_3), (1, .int 0), (0, .ref o0)]) hx hb dX9_onlyJoins_42 hl (k := 2) rfl (by rw [ex2_3]; rfl) (by decide) rfl (fun ls hl => ?_)
          refine lv_goto (tgt := 14) hx hb dX9_onlyJoins_45 (by decide) ?_
          exact hX14 _ _ _ _ _ hg hP hD hS (lv_sub hl [2, 1, 0] rfl)
        · have hg := hg.2 c_2
          refine lv_aload_n hx hb dX9_onlyJoins_26 rfl (lv_at hl 0 rfl) ?_
          refine va_get (D := G.1) (ci := 7) (v := .ref (d0 27)) (C := RX9) (T := TX9) (N := 49) hx hb hT iX9 hown hK hP 0 rfl rfl 27 (by decide) (hT _ q_699) (fun _ h9 => h9) rfl dX9_onlyJoins_27 ?_
          refine lv_iload_n hx hb dX9_onlyJoins_30 rfl (lv_at hl 2 rfl) ?_
          refine va_iald hx hb hK hP 18 0 rfl rfl hg.1 dX9_onlyJoins_31 ?_
          have hg := hg.2
          refine lv_iconst (v := 3) hx hb dX9_onlyJoins_32 (by decide) ?_
          refine lv_icmp_ne (tgt := 40) hx hb dX9_onlyJoins_33 (by decide) (fun c_4 => ?_) (fun c_4 => ?_)
          · have hg := hg.2 c_4
            refine lv_iconst (v := 0) hx hb dX9_onlyJoins_40 (by decide) ?_
            refine lv_istore_n (lv' := [(1, .int 0), (0, .ref o0), (2, .int x2)]) hx hb dX9_onlyJoins_41 rfl hl (by decide) rfl (fun ls hl => ?_)
            obtain ⟨x2_5, ex2_5⟩ : ∃ y : Int32, y = x2 + 1 := ⟨_, rfl⟩
            have hg := hg x2_5 ex2_5
            refine lv_iinc (v := x2_5) (lv' := [(2, .int x2_5), (1, .int 0), (0, .ref o0)]) hx hb dX9_onlyJoins_42 hl (k := 2) rfl (by rw [ex2_5]; rfl) (by decide) rfl (fun ls hl => ?_)
            refine lv_goto (tgt := 14) hx hb dX9_onlyJoins_45 (by decide) ?_
            exact hX14 _ _ _ _ _ hg hP hD hS (lv_sub hl [2, 1, 0] rfl)
          · have hg := hg.1 c_4
            refine lv_iconst (v := 1) hx hb dX9_onlyJoins_36 (by decide) ?_
            refine lv_goto (tgt := 41) hx hb dX9_onlyJoins_37 (by decide) ?_
            refine lv_istore_n (lv' := [(1, .int 1), (0, .ref o0), (2, .int x2)]) hx hb dX9_onlyJoins_41 rfl hl (by decide) rfl (fun ls hl => ?_)
            obtain ⟨x2_6, ex2_6⟩ : ∃ y : Int32, y = x2 + 1 := ⟨_, rfl⟩
            have hg := hg x2_6 ex2_6
            refine lv_iinc (v := x2_6) (lv' := [(2, .int x2_6), (1, .int 1), (0, .ref o0)]) hx hb dX9_onlyJoins_42 hl (k := 2) rfl (by rw [ex2_6]; rfl) (by decide) rfl (fun ls hl => ?_)
            refine lv_goto (tgt := 14) hx hb dX9_onlyJoins_45 (by decide) ?_
            exact hX14 _ _ _ _ _ hg hP hD hS (lv_sub hl [2, 1, 0] rfl)
  refine lv_iconst (v := 1) hx hb dX9_onlyJoins_0 (by decide) ?_
  refine lv_istore_n (lv' := [(1, .int 1), (0, .ref o0)]) hx hb dX9_onlyJoins_1 rfl hl (by decide) rfl (fun ls hl => ?_)
  refine lv_aload_n hx hb dX9_onlyJoins_2 rfl (lv_at hl 1 rfl) ?_
  refine va_get (D := G.1) (ci := 7) (v := .ref (d0 35)) (C := RX9) (T := TX9) (N := 49) hx hb hT iX9 hown hK hP 0 rfl rfl 35 (by decide) (hT _ q_707) (fun _ h9 => h9) rfl dX9_onlyJoins_3 ?_
  refine lv_aload_n hx hb dX9_onlyJoins_6 rfl (lv_at hl 1 rfl) ?_
  refine va_get (D := G.1) (ci := 7) (v := .int (S0 25 0)) (C := RX9) (T := TX9) (N := 49) hx hb hT iX9 hown hK hP 0 rfl rfl 25 (by decide) (hT _ q_697) (fun _ h9 => h9) rfl dX9_onlyJoins_7 ?_
  refine lv_iconst (v := 1) hx hb dX9_onlyJoins_10 (by decide) ?_
  refine lv_isub hx hb dX9_onlyJoins_11 ?_
  refine va_iald hx hb hK hP 26 0 rfl rfl hg.1 dX9_onlyJoins_12 ?_
  have hg := hg.2
  refine lv_topi (fun x2_1 ex2_1 => ?_)
  have hg := hg x2_1 ex2_1
  refine lv_istore_n (lv' := [(2, .int x2_1), (1, .int 1), (0, .ref o0)]) hx hb dX9_onlyJoins_13 rfl hl (by decide) rfl (fun ls hl => ?_)
  obtain ⟨n, hg⟩ := hg
  exact L14 n _ _ _ _ _ hg hP hD hS (lv_sub hl [2, 1, 0] rfl)
theorem zv_X9_startsName : zV yX9_startsName RX9 cX9_startsName 2 none 1 := ⟨q_862, qp_7, q_8, q_863, by decide +kernel⟩
set_option maxHeartbeats 4000000 in
set_option maxRecDepth 100000 in
theorem c_X9_startsName (l : Launch) (G : ZG) (o0 : Nat) (d0 : Nat → Nat) (x1 : Int32) (S0 : ZS) (Q : ZS → Prop) (hg : g_X9_startsName x1 S0 Q) : Kv l G yX9_startsName cX9_startsName 2 rm_X9_startsName [.ref o0, .int x1] (wX9 G o0 d0 S0) (fun u : ZS => wX9 G o0 d0 u) (fun u => Q u) := by
  refine Kv.of (by decide) (Nat.le_of_ble_eq_true rfl) ?_
  intro p e s m args below meth c A QQ ls Cx hret hl hP hD hS
  obtain ⟨hx, hb, hml, hown, hT, hK, hA⟩ := id Cx
  have hl : lv_has ls 2 [(0, .ref o0), (1, .int x1)] := hl
  refine lv_aload_n hx hb dX9_startsName_0 rfl (lv_at hl 0 rfl) ?_
  refine va_get (D := G.1) (ci := 7) (v := .ref (d0 27)) (C := RX9) (T := TX9) (N := 49) hx hb hT iX9 hown hK hP 0 rfl rfl 27 (by decide) (hT _ q_699) (fun _ h9 => h9) rfl dX9_startsName_1 ?_
  refine lv_aload_n hx hb dX9_startsName_4 rfl (lv_at hl 0 rfl) ?_
  refine va_get (D := G.1) (ci := 7) (v := .int (S0 24 0)) (C := RX9) (T := TX9) (N := 49) hx hb hT iX9 hown hK hP 0 rfl rfl 24 (by decide) (hT _ q_696) (fun _ h9 => h9) rfl dX9_startsName_5 ?_
  refine lv_iload_n hx hb dX9_startsName_8 rfl (lv_at hl 1 rfl) ?_
  refine z_iast hx hb hK hP hD hS 18 0 rfl rfl hg.1 dX9_startsName_9 (zst S0 27 (S0 24 0).toNatClampNeg x1) (fun S : ZS => wX9 G o0 d0 S) rfl (fun S0_1 H locs eS0_1 hP hD hS => ?_)
  have hg := hg.2 S0_1 eS0_1
  refine lv_aload_n hx hb dX9_startsName_10 rfl (lv_at hl 0 rfl) ?_
  refine va_get (D := G.1) (ci := 7) (v := .ref (d0 28)) (C := RX9) (T := TX9) (N := 49) hx hb hT iX9 hown hK hP 0 rfl rfl 28 (by decide) (hT _ q_700) (fun _ h9 => h9) rfl dX9_startsName_11 ?_
  refine lv_aload_n hx hb dX9_startsName_14 rfl (lv_at hl 0 rfl) ?_
  refine va_get (D := G.1) (ci := 7) (v := .int (S0_1 24 0)) (C := RX9) (T := TX9) (N := 49) hx hb hT iX9 hown hK hP 0 rfl rfl 24 (by decide) (hT _ q_696) (fun _ h9 => h9) rfl dX9_startsName_15 ?_
  refine lv_aload_n hx hb dX9_startsName_18 rfl (lv_at hl 0 rfl) ?_
  refine va_get (D := G.1) (ci := 7) (v := .int (S0_1 25 0)) (C := RX9) (T := TX9) (N := 49) hx hb hT iX9 hown hK hP 0 rfl rfl 25 (by decide) (hT _ q_697) (fun _ h9 => h9) rfl dX9_startsName_19 ?_
  refine lv_iconst (v := 1) hx hb dX9_startsName_22 (by decide) ?_
  refine lv_isub hx hb dX9_startsName_23 ?_
  refine z_iast hx hb hK hP hD hS 19 0 rfl rfl hg.1 dX9_startsName_24 (zst S0_1 28 (S0_1 24 0).toNatClampNeg ((S0_1 25 0) - 1)) (fun S : ZS => wX9 G o0 d0 S) rfl (fun S0_2 H locs eS0_2 hP hD hS => ?_)
  have hg := hg.2 S0_2 eS0_2
  refine lv_aload_n hx hb dX9_startsName_25 rfl (lv_at hl 0 rfl) ?_
  refine va_get (D := G.1) (ci := 7) (v := .ref (d0 29)) (C := RX9) (T := TX9) (N := 49) hx hb hT iX9 hown hK hP 0 rfl rfl 29 (by decide) (hT _ q_701) (fun _ h9 => h9) rfl dX9_startsName_26 ?_
  refine lv_aload_n hx hb dX9_startsName_29 rfl (lv_at hl 0 rfl) ?_
  refine va_get (D := G.1) (ci := 7) (v := .int (S0_2 24 0)) (C := RX9) (T := TX9) (N := 49) hx hb hT iX9 hown hK hP 0 rfl rfl 24 (by decide) (hT _ q_696) (fun _ h9 => h9) rfl dX9_startsName_30 ?_
  refine lv_iconst (v := 0) hx hb dX9_startsName_33 (by decide) ?_
  refine z_iast hx hb hK hP hD hS 20 0 rfl rfl hg.1 dX9_startsName_34 (zst S0_2 29 (S0_2 24 0).toNatClampNeg 0) (fun S : ZS => wX9 G o0 d0 S) rfl (fun S0_3 H locs eS0_3 hP hD hS => ?_)
  have hg := hg.2 S0_3 eS0_3
  refine lv_aload_n hx hb dX9_startsName_35 rfl (lv_at hl 0 rfl) ?_
  refine va_get (D := G.1) (ci := 7) (v := .ref (d0 32)) (C := RX9) (T := TX9) (N := 49) hx hb hT iX9 hown hK hP 0 rfl rfl 32 (by decide) (hT _ q_704) (fun _ h9 => h9) rfl dX9_startsName_36 ?_
  refine lv_aload_n hx hb dX9_startsName_39 rfl (lv_at hl 0 rfl) ?_
  refine va_get (D := G.1) (ci := 7) (v := .int (S0_3 24 0)) (C := RX9) (T := TX9) (N := 49) hx hb hT iX9 hown hK hP 0 rfl rfl 24 (by decide) (hT _ q_696) (fun _ h9 => h9) rfl dX9_startsName_40 ?_
  refine lv_iconst (v := 0) hx hb dX9_startsName_43 (by decide) ?_
  refine z_iast hx hb hK hP hD hS 23 0 rfl rfl hg.1 dX9_startsName_44 (zst S0_3 32 (S0_3 24 0).toNatClampNeg 0) (fun S : ZS => wX9 G o0 d0 S) rfl (fun S0_4 H locs eS0_4 hP hD hS => ?_)
  have hg := hg.2 S0_4 eS0_4
  refine lv_aload_n hx hb dX9_startsName_45 rfl (lv_at hl 0 rfl) ?_
  refine lv_dup hx hb dX9_startsName_46 rfl ?_
  refine va_get (D := G.1) (ci := 7) (v := .int (S0_4 24 0)) (C := RX9) (T := TX9) (N := 49) hx hb hT iX9 hown hK hP 0 rfl rfl 24 (by decide) (hT _ q_696) (fun _ h9 => h9) rfl dX9_startsName_47 ?_
  refine lv_iconst (v := 1) hx hb dX9_startsName_50 (by decide) ?_
  refine lv_iadd hx hb dX9_startsName_51 ?_
  refine z_put (D := G.1) (ci := 7) (v := .int ((S0_4 24 0) + 1)) (ty := .int) (C := RX9) (T := TX9) (N := 49) hx hb hT iX9 tyX9 tyX9_ok nmX9 hown hK hP hD hS 0 rfl rfl 24 (by decide) (hT _ q_696) (fun _ h9 => h9) rfl (by decide +kernel) rfl rfl (Nat.le_of_ble_eq_true rfl) dX9_startsName_52 (zst S0_4 24 0 ((S0_4 24 0) + 1)) (fun S : ZS => wX9 G o0 d0 S) rfl (fun S0_5 H locs eS0_5 hP hD hS => ?_)
  have hg := hg S0_5 eS0_5
  exact hret _ _ (S0_5) _ _ hg hP hD hS dX9_startsName_55
theorem zv_X9_readsOperation : zV yX9_readsOperation RX9 cX9_readsOperation 2 none 0 := ⟨q_870, qp_9, q_8, q_871, by decide +kernel⟩
set_option maxHeartbeats 4000000 in
set_option maxRecDepth 100000 in
theorem c_X9_readsOperation (l : Launch) (G : ZG) (o0 : Nat) (d0 : Nat → Nat) (S0 : ZS) (Q : ZS → Prop) (hg : g_X9_readsOperation S0 Q) : Kv l G yX9_readsOperation cX9_readsOperation 2 rm_X9_readsOperation [.ref o0] (wX9 G o0 d0 S0) (fun u : ZS => wX9 G o0 d0 u) (fun u => Q u) := by
  refine Kv.of (by decide) (Nat.le_of_ble_eq_true rfl) ?_
  intro p e s m args below meth c A QQ ls Cx hret hl hP hD hS
  obtain ⟨hx, hb, hml, hown, hT, hK, hA⟩ := id Cx
  have hl : lv_has ls 2 [(0, .ref o0)] := hl
  have J79 : ∀ (x1 : Int32) (S0 : ZS) (H : Heap) (locs : List Loc) (ls : Array Slot), G_X9_readsOperation_79 Q x1 S0 → va_P G.1 classes (wX9 G o0 d0 S0) H → va_D A (wX9 G o0 d0 S0) → va_S A s.heap H locs → lv_has ls 2 [(0, .ref o0), (1, .int x1)] → W p l e rm_X9_readsOperation s m args below meth c H locs 0 0 QQ (F0 m 79 ls []) := by
    intro x1 S0 H locs ls hg hP hD hS hl
    refine lv_aload_n hx hb dX9_readsOperation_79 rfl (lv_at hl 0 rfl) ?_
    refine va_get (D := G.1) (ci := 7) (v := .ref (d0 31)) (C := RX9) (T := TX9) (N := 49) hx hb hT iX9 hown hK hP 0 rfl rfl 31 (by decide) (hT _ q_703) (fun _ h9 => h9) rfl dX9_readsOperation_80 ?_
    refine lv_iload_n hx hb dX9_readsOperation_83 rfl (lv_at hl 1 rfl) ?_
    refine lv_aload_n hx hb dX9_readsOperation_84 rfl (lv_at hl 0 rfl) ?_
    refine lv_bipush (v := 23) hx hb dX9_readsOperation_85 (by decide) ?_
    refine zcVi (As := [.int 23]) (rest := [.int x1, .ref (d0 31)]) (C := RX9) Cx (c_X9_numeral l G o0 d0 23 S0 _ hg) zv_X9_numeral q_864 ⟨⟨rfl, rfl⟩, Nat.le_of_ble_eq_true rfl, Nat.le_of_ble_eq_true rfl⟩ (zJ.all hP hD hS hA) hS 7 rfl rfl rfl rfl hl.1 rfl (Nat.le_of_ble_eq_true rfl) dX9_readsOperation_87 (fun r_2 S0_1 H locs hg hP hD hS => ?_)
    have hP : va_P G.1 classes (wX9 G o0 d0 S0_1) H := hP
    have hD : va_D A (wX9 G o0 d0 S0_1) := hD
    refine z_iast hx hb hK hP hD hS 22 0 rfl rfl hg.1 dX9_readsOperation_90 (zst S0_1 31 x1.toNatClampNeg r_2) (fun S : ZS => wX9 G o0 d0 S) rfl (fun S0_3 H locs eS0_3 hP hD hS => ?_)
    have hg := hg.2 S0_3 eS0_3
    refine lv_aload_n hx hb dX9_readsOperation_91 rfl (lv_at hl 0 rfl) ?_
    refine zcVv (As := []) (rest := []) (C := RX9) Cx (c_X9_closes l G o0 d0 S0_3 _ hg) zv_X9_closes q_856 ⟨⟨rfl, rfl⟩, Nat.le_of_ble_eq_true rfl, Nat.le_of_ble_eq_true rfl⟩ (zJ.all hP hD hS hA) hS 7 rfl rfl rfl rfl hl.1 rfl (Nat.le_of_ble_eq_true rfl) dX9_readsOperation_92 (fun S0_4 H locs hg hP hD hS => ?_)
    have hP : va_P G.1 classes (wX9 G o0 d0 S0_4) H := hP
    have hD : va_D A (wX9 G o0 d0 S0_4) := hD
    exact hret _ _ (S0_4) _ _ hg hP hD hS dX9_readsOperation_95
  have J75 : ∀ (x1 : Int32) (t1 : Int32) (t2 : Int32) (S0 : ZS) (H : Heap) (locs : List Loc) (ls : Array Slot), G_X9_readsOperation_75 Q x1 t1 t2 S0 → va_P G.1 classes (wX9 G o0 d0 S0) H → va_D A (wX9 G o0 d0 S0) → va_S A s.heap H locs → lv_has ls 2 [(0, .ref o0), (1, .int x1)] → W p l e rm_X9_readsOperation s m args below meth c H locs 0 0 QQ (F0 m 75 ls [.int t2, .int t1, .ref o0]) := by
    intro x1 t1 t2 S0 H locs ls hg hP hD hS hl
    refine lv_iadd hx hb dX9_readsOperation_75 ?_
    refine z_put (D := G.1) (ci := 7) (v := .int (t1 + t2)) (ty := .int) (C := RX9) (T := TX9) (N := 49) hx hb hT iX9 tyX9 tyX9_ok nmX9 hown hK hP hD hS 0 rfl rfl 22 (by decide) (hT _ q_694) (fun _ h9 => h9) rfl (by decide +kernel) rfl rfl (Nat.le_of_ble_eq_true rfl) dX9_readsOperation_76 (zst S0 22 0 (t1 + t2)) (fun S : ZS => wX9 G o0 d0 S) rfl (fun S0_1 H locs eS0_1 hP hD hS => ?_)
    have hg := hg S0_1 eS0_1
    exact J79 _ _ _ _ _ hg hP hD hS (lv_sub hl [0, 1] rfl)
  have J45 : ∀ (x1 : Int32) (t1 : Int32) (S0 : ZS) (H : Heap) (locs : List Loc) (ls : Array Slot), G_X9_readsOperation_45 Q x1 t1 S0 → va_P G.1 classes (wX9 G o0 d0 S0) H → va_D A (wX9 G o0 d0 S0) → va_S A s.heap H locs → lv_has ls 2 [(0, .ref o0), (1, .int x1)] → W p l e rm_X9_readsOperation s m args below meth c H locs 0 0 QQ (F0 m 45 ls [.int t1, .ref o0]) := by
    intro x1 t1 S0 H locs ls hg hP hD hS hl
    refine z_put (D := G.1) (ci := 7) (v := .int t1) (ty := .boolean) (C := RX9) (T := TX9) (N := 49) hx hb hT iX9 tyX9 tyX9_ok nmX9 hown hK hP hD hS 0 rfl rfl 23 (by decide) (hT _ q_695) (fun _ h9 => h9) rfl (by decide +kernel) hg.1.nar hg.1.fit (Nat.le_of_ble_eq_true rfl) dX9_readsOperation_45 (zst S0 23 0 t1) (fun S : ZS => wX9 G o0 d0 S) rfl (fun S0_1 H locs eS0_1 hP hD hS => ?_)
    have hg := hg.2 S0_1 eS0_1
    refine lv_aload_n hx hb dX9_readsOperation_48 rfl (lv_at hl 0 rfl) ?_
    refine va_get (D := G.1) (ci := 7) (v := .ref (d0 29)) (C := RX9) (T := TX9) (N := 49) hx hb hT iX9 hown hK hP 0 rfl rfl 29 (by decide) (hT _ q_701) (fun _ h9 => h9) rfl dX9_readsOperation_49 ?_
    refine lv_iload_n hx hb dX9_readsOperation_52 rfl (lv_at hl 1 rfl) ?_
    refine lv_aload_n hx hb dX9_readsOperation_53 rfl (lv_at hl 0 rfl) ?_
    refine zcVi (As := []) (rest := [.int x1, .ref (d0 29)]) (C := RX9) Cx (c_X9_here l G o0 d0 S0_1 _ hg) zv_X9_here q_840 ⟨⟨rfl, rfl⟩, Nat.le_of_ble_eq_true rfl, Nat.le_of_ble_eq_true rfl⟩ (zJ.all hP hD hS hA) hS 7 rfl rfl rfl rfl hl.1 rfl (Nat.le_of_ble_eq_true rfl) dX9_readsOperation_54 (fun r_3 S0_2 H locs hg hP hD hS => ?_)
    have hP : va_P G.1 classes (wX9 G o0 d0 S0_2) H := hP
    have hD : va_D A (wX9 G o0 d0 S0_2) := hD
    refine z_iast hx hb hK hP hD hS 20 0 rfl rfl hg.1 dX9_readsOperation_57 (zst S0_2 29 x1.toNatClampNeg r_3) (fun S : ZS => wX9 G o0 d0 S) rfl (fun S0_4 H locs eS0_4 hP hD hS => ?_)
    have hg := hg.2 S0_4 eS0_4
    refine lv_aload_n hx hb dX9_readsOperation_58 rfl (lv_at hl 0 rfl) ?_
    refine lv_dup hx hb dX9_readsOperation_59 rfl ?_
    refine va_get (D := G.1) (ci := 7) (v := .int (S0_4 22 0)) (C := RX9) (T := TX9) (N := 49) hx hb hT iX9 hown hK hP 0 rfl rfl 22 (by decide) (hT _ q_694) (fun _ h9 => h9) rfl dX9_readsOperation_60 ?_
    refine lv_aload_n hx hb dX9_readsOperation_63 rfl (lv_at hl 0 rfl) ?_
    refine va_get (D := G.1) (ci := 7) (v := .int (S0_4 23 0)) (C := RX9) (T := TX9) (N := 49) hx hb hT iX9 hown hK hP 0 rfl rfl 23 (by decide) (hT _ q_695) (fun _ h9 => h9) rfl dX9_readsOperation_64 ?_
    refine lv_if_eq (tgt := 74) hx hb dX9_readsOperation_67 (by decide) (fun c_5 => ?_) (fun c_5 => ?_)
    · have hg := hg.1 c_5
      refine lv_iconst (v := 1) hx hb dX9_readsOperation_74 (by decide) ?_
      exact J75 _ _ _ _ _ _ _ hg hP hD hS (lv_sub hl [0, 1] rfl)
    · have hg := hg.2 c_5
      refine lv_iconst (v := 0) hx hb dX9_readsOperation_70 (by decide) ?_
      refine lv_goto (tgt := 75) hx hb dX9_readsOperation_71 (by decide) ?_
      exact J75 _ _ _ _ _ _ _ hg hP hD hS (lv_sub hl [0, 1] rfl)
  refine lv_aload_n hx hb dX9_readsOperation_0 rfl (lv_at hl 0 rfl) ?_
  refine va_get (D := G.1) (ci := 7) (v := .int (S0 24 0)) (C := RX9) (T := TX9) (N := 49) hx hb hT iX9 hown hK hP 0 rfl rfl 24 (by decide) (hT _ q_696) (fun _ h9 => h9) rfl dX9_readsOperation_1 ?_
  refine lv_istore_n (lv' := [(1, .int (S0 24 0)), (0, .ref o0)]) hx hb dX9_readsOperation_4 rfl hl (by decide) rfl (fun ls hl => ?_)
  refine lv_aload_n hx hb dX9_readsOperation_5 rfl (lv_at hl 1 rfl) ?_
  refine lv_iconst (v := 2) hx hb dX9_readsOperation_6 (by decide) ?_
  refine zcVv (As := [.int 2]) (rest := []) (C := RX9) Cx (c_X9_startsName l G o0 d0 2 S0 _ hg) zv_X9_startsName q_860 ⟨⟨rfl, rfl⟩, Nat.le_of_ble_eq_true rfl, Nat.le_of_ble_eq_true rfl⟩ (zJ.all hP hD hS hA) hS 7 rfl rfl rfl rfl hl.1 rfl (Nat.le_of_ble_eq_true rfl) dX9_readsOperation_7 (fun S0_1 H locs hg hP hD hS => ?_)
  have hP : va_P G.1 classes (wX9 G o0 d0 S0_1) H := hP
  have hD : va_D A (wX9 G o0 d0 S0_1) := hD
  refine lv_aload_n hx hb dX9_readsOperation_10 rfl (lv_at hl 1 rfl) ?_
  refine va_get (D := G.1) (ci := 7) (v := .ref (d0 30)) (C := RX9) (T := TX9) (N := 49) hx hb hT iX9 hown hK hP 0 rfl rfl 30 (by decide) (hT _ q_702) (fun _ h9 => h9) rfl dX9_readsOperation_11 ?_
  refine lv_iload_n hx hb dX9_readsOperation_14 rfl (lv_at hl 0 rfl) ?_
  refine lv_aload_n hx hb dX9_readsOperation_15 rfl (lv_at hl 1 rfl) ?_
  refine lv_bipush (v := 23) hx hb dX9_readsOperation_16 (by decide) ?_
  refine zcVi (As := [.int 23]) (rest := [.int (S0 24 0), .ref (d0 30)]) (C := RX9) Cx (c_X9_numeral l G o0 d0 23 S0_1 _ hg) zv_X9_numeral q_864 ⟨⟨rfl, rfl⟩, Nat.le_of_ble_eq_true rfl, Nat.le_of_ble_eq_true rfl⟩ (zJ.all hP hD hS hA) hS 7 rfl rfl rfl rfl hl.1 rfl (Nat.le_of_ble_eq_true rfl) dX9_readsOperation_18 (fun r_3 S0_2 H locs hg hP hD hS => ?_)
  have hP : va_P G.1 classes (wX9 G o0 d0 S0_2) H := hP
  have hD : va_D A (wX9 G o0 d0 S0_2) := hD
  refine z_iast hx hb hK hP hD hS 21 0 rfl rfl hg.1 dX9_readsOperation_21 (zst S0_2 30 (S0 24 0).toNatClampNeg r_3) (fun S : ZS => wX9 G o0 d0 S) rfl (fun S0_4 H locs eS0_4 hP hD hS => ?_)
  have hg := hg.2 S0_4 eS0_4
  refine lv_aload_n hx hb dX9_readsOperation_22 rfl (lv_at hl 1 rfl) ?_
  refine va_get (D := G.1) (ci := 7) (v := .int (S0_4 23 0)) (C := RX9) (T := TX9) (N := 49) hx hb hT iX9 hown hK hP 0 rfl rfl 23 (by decide) (hT _ q_695) (fun _ h9 => h9) rfl dX9_readsOperation_23 ?_
  refine lv_if_ne (tgt := 79) hx hb dX9_readsOperation_26 (by decide) (fun c_5 => ?_) (fun c_5 => ?_)
  · have hg := hg.2 c_5
    exact J79 _ _ _ _ _ hg hP hD hS (lv_sub hl [1, 0] rfl)
  · have hg := hg.1 c_5
    refine lv_aload_n hx hb dX9_readsOperation_29 rfl (lv_at hl 1 rfl) ?_
    refine lv_aload_n hx hb dX9_readsOperation_30 rfl (lv_at hl 1 rfl) ?_
    refine zcVi (As := []) (rest := [.ref o0]) (C := RX9) Cx (c_X9_here l G o0 d0 S0_4 _ hg) zv_X9_here q_840 ⟨⟨rfl, rfl⟩, Nat.le_of_ble_eq_true rfl, Nat.le_of_ble_eq_true rfl⟩ (zJ.all hP hD hS hA) hS 7 rfl rfl rfl rfl hl.1 rfl (Nat.le_of_ble_eq_true rfl) dX9_readsOperation_31 (fun r_7 S0_6 H locs hg hP hD hS => ?_)
    have hP : va_P G.1 classes (wX9 G o0 d0 S0_6) H := hP
    have hD : va_D A (wX9 G o0 d0 S0_6) := hD
    refine zcSi (As := [.int r_7]) (rest := [.ref o0]) Cx (c_X9_isSign l G r_7 _ hg) zv_X9_isSign q_872 ⟨⟨rfl, rfl⟩, Nat.le_of_ble_eq_true rfl, Nat.le_of_ble_eq_true rfl⟩ (zJ.none (S := Unit) hP hD hS hA) hS rfl hl.1 rfl (Nat.le_of_ble_eq_true rfl) dX9_readsOperation_34 (fun r_8 _u H locs hg hP hD hS => ?_)
    refine lv_if_ne (tgt := 44) hx hb dX9_readsOperation_37 (by decide) (fun c_9 => ?_) (fun c_9 => ?_)
    · have hg := hg.2 c_9
      refine lv_iconst (v := 0) hx hb dX9_readsOperation_44 (by decide) ?_
      exact J45 _ _ _ _ _ _ hg hP hD hS (lv_sub hl [1, 0] rfl)
    · have hg := hg.1 c_9
      refine lv_iconst (v := 1) hx hb dX9_readsOperation_40 (by decide) ?_
      refine lv_goto (tgt := 45) hx hb dX9_readsOperation_41 (by decide) ?_
      exact J45 _ _ _ _ _ _ hg hP hD hS (lv_sub hl [1, 0] rfl)
theorem zv_X9_readsJoin : zV yX9_readsJoin RX9 cX9_readsJoin 7 none 0 := ⟨q_877, qp_10, q_8, q_878, by decide +kernel⟩
set_option maxHeartbeats 4000000 in
set_option maxRecDepth 100000 in
theorem c_X9_readsJoin (l : Launch) (G : ZG) (o0 : Nat) (d0 : Nat → Nat) (S0 : ZS) (Q : ZS → Prop) (hg : g_X9_readsJoin S0 Q) : Kv l G yX9_readsJoin cX9_readsJoin 7 rm_X9_readsJoin [.ref o0] (wX9 G o0 d0 S0) (fun u : ZS => wX9 G o0 d0 u) (fun u => Q u) := by
  refine Kv.of (by decide) (Nat.le_of_ble_eq_true rfl) ?_
  intro p e s m args below meth c A QQ ls Cx hret hl hP hD hS
  obtain ⟨hx, hb, hml, hown, hT, hK, hA⟩ := id Cx
  have hl : lv_has ls 7 [(0, .ref o0)] := hl
  have J128 : ∀ (X12 : Int32 × Int32 × ZS → Prop) (hX12 : ∀ (x1 : Int32) (x2 : Int32) (S0 : ZS) (H : Heap) (locs : List Loc) (ls : Array Slot), X12 (x1, x2, S0) → va_P G.1 classes (wX9 G o0 d0 S0) H → va_D A (wX9 G o0 d0 S0) → va_S A s.heap H locs → lv_has ls 7 [(0, .ref o0), (1, .int x1), (2, .int x2)] → W p l e rm_X9_readsJoin s m args below meth c H locs 0 0 QQ (F0 m 12 ls [])) (x1 : Int32) (x3 : Int32) (x5 : Int32) (S0 : ZS) (H : Heap) (locs : List Loc) (ls : Array Slot), G_X9_readsJoin_128 Q X12 x1 x3 x5 S0 → va_P G.1 classes (wX9 G o0 d0 S0) H → va_D A (wX9 G o0 d0 S0) → va_S A s.heap H locs → lv_has ls 7 [(0, .ref o0), (1, .int x1), (3, .int x3), (5, .int x5)] → W p l e rm_X9_readsJoin s m args below meth c H locs 0 0 QQ (F0 m 128 ls []) := by
    intro X12 hX12 x1 x3 x5 S0 H locs ls hg hP hD hS hl
    refine lv_aload_n hx hb dX9_readsJoin_128 rfl (lv_at hl 0 rfl) ?_
    refine va_get (D := G.1) (ci := 7) (v := .ref (d0 33)) (C := RX9) (T := TX9) (N := 49) hx hb hT iX9 hown hK hP 0 rfl rfl 33 (by decide) (hT _ q_705) (fun _ h9 => h9) rfl dX9_readsJoin_129 ?_
    refine lv_iload_n hx hb dX9_readsJoin_132 rfl (lv_at hl 2 rfl) ?_
    refine lv_iload hx hb dX9_readsJoin_133 (lv_at hl 3 rfl) ?_
    refine z_iast hx hb hK hP hD hS 24 0 rfl rfl hg.1 dX9_readsJoin_135 (zst S0 33 x3.toNatClampNeg x5) (fun S : ZS => wX9 G o0 d0 S) rfl (fun S0_1 H locs eS0_1 hP hD hS => ?_)
    have hg := hg.2 S0_1 eS0_1
    refine lv_aload_n hx hb dX9_readsJoin_136 rfl (lv_at hl 0 rfl) ?_
    refine va_get (D := G.1) (ci := 7) (v := .ref (d0 34)) (C := RX9) (T := TX9) (N := 49) hx hb hT iX9 hown hK hP 0 rfl rfl 34 (by decide) (hT _ q_706) (fun _ h9 => h9) rfl dX9_readsJoin_137 ?_
    refine lv_iload_n hx hb dX9_readsJoin_140 rfl (lv_at hl 2 rfl) ?_
    refine lv_aload_n hx hb dX9_readsJoin_141 rfl (lv_at hl 0 rfl) ?_
    refine lv_bipush (v := 23) hx hb dX9_readsJoin_142 (by decide) ?_
    refine zcVi (As := [.int 23]) (rest := [.int x3, .ref (d0 34)]) (C := RX9) Cx (c_X9_numeral l G o0 d0 23 S0_1 _ hg) zv_X9_numeral q_864 ⟨⟨rfl, rfl⟩, Nat.le_of_ble_eq_true rfl, Nat.le_of_ble_eq_true rfl⟩ (zJ.all hP hD hS hA) hS 7 rfl rfl rfl rfl hl.1 rfl (Nat.le_of_ble_eq_true rfl) dX9_readsJoin_144 (fun r_3 S0_2 H locs hg hP hD hS => ?_)
    have hP : va_P G.1 classes (wX9 G o0 d0 S0_2) H := hP
    have hD : va_D A (wX9 G o0 d0 S0_2) := hD
    refine z_iast hx hb hK hP hD hS 25 0 rfl rfl hg.1 dX9_readsJoin_147 (zst S0_2 34 x3.toNatClampNeg r_3) (fun S : ZS => wX9 G o0 d0 S) rfl (fun S0_4 H locs eS0_4 hP hD hS => ?_)
    have hg := hg.2 S0_4 eS0_4
    refine lv_aload_n hx hb dX9_readsJoin_148 rfl (lv_at hl 0 rfl) ?_
    refine va_get (D := G.1) (ci := 7) (v := .ref (d0 32)) (C := RX9) (T := TX9) (N := 49) hx hb hT iX9 hown hK hP 0 rfl rfl 32 (by decide) (hT _ q_704) (fun _ h9 => h9) rfl dX9_readsJoin_149 ?_
    refine lv_iload_n hx hb dX9_readsJoin_152 rfl (lv_at hl 1 rfl) ?_
    refine lv_dup2_11 hx hb dX9_readsJoin_153 rfl rfl ?_
    refine va_iald hx hb hK hP 23 0 rfl rfl hg.1 dX9_readsJoin_154 ?_
    have hg := hg.2
    refine lv_iconst (v := 1) hx hb dX9_readsJoin_155 (by decide) ?_
    refine lv_iadd hx hb dX9_readsJoin_156 ?_
    refine z_iast hx hb hK hP hD hS 23 0 rfl rfl hg.1 dX9_readsJoin_157 (zst S0_4 32 x1.toNatClampNeg ((S0_4 32 x1.toNatClampNeg) + 1)) (fun S : ZS => wX9 G o0 d0 S) rfl (fun S0_5 H locs eS0_5 hP hD hS => ?_)
    have hg := hg.2 S0_5 eS0_5
    refine lv_aload_n hx hb dX9_readsJoin_158 rfl (lv_at hl 0 rfl) ?_
    refine va_get (D := G.1) (ci := 7) (v := .int (S0_5 23 0)) (C := RX9) (T := TX9) (N := 49) hx hb hT iX9 hown hK hP 0 rfl rfl 23 (by decide) (hT _ q_695) (fun _ h9 => h9) rfl dX9_readsJoin_159 ?_
    refine lv_if_ne (tgt := 193) hx hb dX9_readsJoin_162 (by decide) (fun c_6 => ?_) (fun c_6 => ?_)
    · have hg := hg.2 c_6
      refine lv_iconst (v := 0) hx hb dX9_readsJoin_193 (by decide) ?_
      refine lv_istore_n (lv' := [(2, .int 0), (0, .ref o0), (1, .int x1), (3, .int x3), (5, .int x5)]) hx hb dX9_readsJoin_194 rfl hl (by decide) rfl (fun ls hl => ?_)
      refine lv_goto (tgt := 12) hx hb dX9_readsJoin_195 (by decide) ?_
      exact hX12 _ _ _ _ _ _ hg hP hD hS (lv_sub hl [1, 2, 0] rfl)
    · have hg := hg.1 c_6
      refine lv_aload_n hx hb dX9_readsJoin_165 rfl (lv_at hl 0 rfl) ?_
      refine va_get (D := G.1) (ci := 7) (v := .ref (d0 32)) (C := RX9) (T := TX9) (N := 49) hx hb hT iX9 hown hK hP 0 rfl rfl 32 (by decide) (hT _ q_704) (fun _ h9 => h9) rfl dX9_readsJoin_166 ?_
      refine lv_iload_n hx hb dX9_readsJoin_169 rfl (lv_at hl 1 rfl) ?_
      refine va_iald hx hb hK hP 23 0 rfl rfl hg.1 dX9_readsJoin_170 ?_
      have hg := hg.2
      refine lv_iconst (v := 3) hx hb dX9_readsJoin_171 (by decide) ?_
      refine lv_icmp_ge (tgt := 193) hx hb dX9_readsJoin_172 (by decide) (fun c_7 => ?_) (fun c_7 => ?_)
      · have hg := hg.1 c_7
        refine lv_iconst (v := 0) hx hb dX9_readsJoin_193 (by decide) ?_
        refine lv_istore_n (lv' := [(2, .int 0), (0, .ref o0), (1, .int x1), (3, .int x3), (5, .int x5)]) hx hb dX9_readsJoin_194 rfl hl (by decide) rfl (fun ls hl => ?_)
        refine lv_goto (tgt := 12) hx hb dX9_readsJoin_195 (by decide) ?_
        exact hX12 _ _ _ _ _ _ hg hP hD hS (lv_sub hl [1, 2, 0] rfl)
      · have hg := hg.2 c_7
        refine lv_aload_n hx hb dX9_readsJoin_175 rfl (lv_at hl 0 rfl) ?_
        refine zcVi (As := []) (rest := []) (C := RX9) Cx (c_X9_here l G o0 d0 S0_5 _ hg) zv_X9_here q_840 ⟨⟨rfl, rfl⟩, Nat.le_of_ble_eq_true rfl, Nat.le_of_ble_eq_true rfl⟩ (zJ.all hP hD hS hA) hS 7 rfl rfl rfl rfl hl.1 rfl (Nat.le_of_ble_eq_true rfl) dX9_readsJoin_176 (fun r_9 S0_8 H locs hg hP hD hS => ?_)
        have hP : va_P G.1 classes (wX9 G o0 d0 S0_8) H := hP
        have hD : va_D A (wX9 G o0 d0 S0_8) := hD
        refine lv_bipush (v := 48) hx hb dX9_readsJoin_179 (by decide) ?_
        refine lv_bipush (v := 57) hx hb dX9_readsJoin_181 (by decide) ?_
        refine zcSi (As := [.int r_9, .int 48, .int 57]) (rest := []) Cx (c_X9_in l G r_9 48 57 _ hg) zv_X9_in q_825 ⟨⟨rfl, rfl⟩, Nat.le_of_ble_eq_true rfl, Nat.le_of_ble_eq_true rfl⟩ (zJ.none (S := Unit) hP hD hS hA) hS rfl hl.1 rfl (Nat.le_of_ble_eq_true rfl) dX9_readsJoin_183 (fun r_10 _u H locs hg hP hD hS => ?_)
        refine lv_if_eq (tgt := 193) hx hb dX9_readsJoin_186 (by decide) (fun c_11 => ?_) (fun c_11 => ?_)
        · have hg := hg.1 c_11
          refine lv_iconst (v := 0) hx hb dX9_readsJoin_193 (by decide) ?_
          refine lv_istore_n (lv' := [(2, .int 0), (0, .ref o0), (1, .int x1), (3, .int x3), (5, .int x5)]) hx hb dX9_readsJoin_194 rfl hl (by decide) rfl (fun ls hl => ?_)
          refine lv_goto (tgt := 12) hx hb dX9_readsJoin_195 (by decide) ?_
          exact hX12 _ _ _ _ _ _ hg hP hD hS (lv_sub hl [1, 2, 0] rfl)
        · have hg := hg.2 c_11
          refine lv_iconst (v := 1) hx hb dX9_readsJoin_189 (by decide) ?_
          refine lv_goto (tgt := 194) hx hb dX9_readsJoin_190 (by decide) ?_
          refine lv_istore_n (lv' := [(2, .int 1), (0, .ref o0), (1, .int x1), (3, .int x3), (5, .int x5)]) hx hb dX9_readsJoin_194 rfl hl (by decide) rfl (fun ls hl => ?_)
          refine lv_goto (tgt := 12) hx hb dX9_readsJoin_195 (by decide) ?_
          exact hX12 _ _ _ _ _ _ hg hP hD hS (lv_sub hl [1, 2, 0] rfl)
  have J99 : ∀ (X12 : Int32 × Int32 × ZS → Prop) (hX12 : ∀ (x1 : Int32) (x2 : Int32) (S0 : ZS) (H : Heap) (locs : List Loc) (ls : Array Slot), X12 (x1, x2, S0) → va_P G.1 classes (wX9 G o0 d0 S0) H → va_D A (wX9 G o0 d0 S0) → va_S A s.heap H locs → lv_has ls 7 [(0, .ref o0), (1, .int x1), (2, .int x2)] → W p l e rm_X9_readsJoin s m args below meth c H locs 0 0 QQ (F0 m 12 ls [])) (X59 : Int32 × Int32 × Int32 × Int32 × Int32 × ZS → Prop) (hX59 : ∀ (x1 : Int32) (x3 : Int32) (x4 : Int32) (x5 : Int32) (x6 : Int32) (S0 : ZS) (H : Heap) (locs : List Loc) (ls : Array Slot), X59 (x1, x3, x4, x5, x6, S0) → va_P G.1 classes (wX9 G o0 d0 S0) H → va_D A (wX9 G o0 d0 S0) → va_S A s.heap H locs → lv_has ls 7 [(0, .ref o0), (1, .int x1), (3, .int x3), (4, .int x4), (5, .int x5), (6, .int x6)] → W p l e rm_X9_readsJoin s m args below meth c H locs 0 0 QQ (F0 m 59 ls [])) (x1 : Int32) (x3 : Int32) (x4 : Int32) (x5 : Int32) (x6 : Int32) (t1 : Int32) (S0 : ZS) (H : Heap) (locs : List Loc) (ls : Array Slot), G_X9_readsJoin_99 Q X12 X59 x1 x3 x4 x5 x6 t1 S0 → va_P G.1 classes (wX9 G o0 d0 S0) H → va_D A (wX9 G o0 d0 S0) → va_S A s.heap H locs → lv_has ls 7 [(0, .ref o0), (1, .int x1), (3, .int x3), (4, .int x4), (5, .int x5), (6, .int x6)] → W p l e rm_X9_readsJoin s m args below meth c H locs 0 0 QQ (F0 m 99 ls [.int t1, .ref o0]) := by
    intro X12 hX12 X59 hX59 x1 x3 x4 x5 x6 t1 S0 H locs ls hg hP hD hS hl
    refine z_put (D := G.1) (ci := 7) (v := .int t1) (ty := .boolean) (C := RX9) (T := TX9) (N := 49) hx hb hT iX9 tyX9 tyX9_ok nmX9 hown hK hP hD hS 0 rfl rfl 23 (by decide) (hT _ q_695) (fun _ h9 => h9) rfl (by decide +kernel) hg.1.nar hg.1.fit (Nat.le_of_ble_eq_true rfl) dX9_readsJoin_99 (zst S0 23 0 t1) (fun S : ZS => wX9 G o0 d0 S) rfl (fun S0_1 H locs eS0_1 hP hD hS => ?_)
    have hg := hg.2 S0_1 eS0_1
    refine lv_aload_n hx hb dX9_readsJoin_102 rfl (lv_at hl 0 rfl) ?_
    refine lv_aload_n hx hb dX9_readsJoin_103 rfl (lv_at hl 0 rfl) ?_
    refine va_get (D := G.1) (ci := 7) (v := .int (S0_1 23 0)) (C := RX9) (T := TX9) (N := 49) hx hb hT iX9 hown hK hP 0 rfl rfl 23 (by decide) (hT _ q_695) (fun _ h9 => h9) rfl dX9_readsJoin_104 ?_
    refine lv_if_eq (tgt := 115) hx hb dX9_readsJoin_107 (by decide) (fun c_2 => ?_) (fun c_2 => ?_)
    · have hg := hg.1 c_2
      refine lv_aload_n hx hb dX9_readsJoin_115 rfl (lv_at hl 0 rfl) ?_
      refine va_get (D := G.1) (ci := 7) (v := .int (S0_1 22 0)) (C := RX9) (T := TX9) (N := 49) hx hb hT iX9 hown hK hP 0 rfl rfl 22 (by decide) (hT _ q_694) (fun _ h9 => h9) rfl dX9_readsJoin_116 ?_
      refine z_put (D := G.1) (ci := 7) (v := .int (S0_1 22 0)) (ty := .int) (C := RX9) (T := TX9) (N := 49) hx hb hT iX9 tyX9 tyX9_ok nmX9 hown hK hP hD hS 0 rfl rfl 22 (by decide) (hT _ q_694) (fun _ h9 => h9) rfl (by decide +kernel) rfl rfl (Nat.le_of_ble_eq_true rfl) dX9_readsJoin_119 (zst S0_1 22 0 (S0_1 22 0)) (fun S : ZS => wX9 G o0 d0 S) rfl (fun S0_3 H locs eS0_3 hP hD hS => ?_)
      have hg := hg S0_3 eS0_3
      obtain ⟨x6_4, ex6_4⟩ : ∃ y : Int32, y = x6 + 1 := ⟨_, rfl⟩
      have hg := hg x6_4 ex6_4
      refine lv_iinc (v := x6_4) (lv' := [(6, .int x6_4), (0, .ref o0), (1, .int x1), (3, .int x3), (4, .int x4), (5, .int x5)]) hx hb dX9_readsJoin_122 hl (k := 5) rfl (by rw [ex6_4]; rfl) (by decide) rfl (fun ls hl => ?_)
      refine lv_goto (tgt := 59) hx hb dX9_readsJoin_125 (by decide) ?_
      exact hX59 _ _ _ _ _ _ _ _ _ hg hP hD hS (lv_sub hl [1, 2, 3, 4, 5, 0] rfl)
    · have hg := hg.2 c_2
      refine lv_iload hx hb dX9_readsJoin_110 (lv_at hl 3 rfl) ?_
      refine lv_goto (tgt := 119) hx hb dX9_readsJoin_112 (by decide) ?_
      refine z_put (D := G.1) (ci := 7) (v := .int x4) (ty := .int) (C := RX9) (T := TX9) (N := 49) hx hb hT iX9 tyX9 tyX9_ok nmX9 hown hK hP hD hS 0 rfl rfl 22 (by decide) (hT _ q_694) (fun _ h9 => h9) rfl (by decide +kernel) rfl rfl (Nat.le_of_ble_eq_true rfl) dX9_readsJoin_119 (zst S0_1 22 0 x4) (fun S : ZS => wX9 G o0 d0 S) rfl (fun S0_5 H locs eS0_5 hP hD hS => ?_)
      have hg := hg S0_5 eS0_5
      obtain ⟨x6_6, ex6_6⟩ : ∃ y : Int32, y = x6 + 1 := ⟨_, rfl⟩
      have hg := hg x6_6 ex6_6
      refine lv_iinc (v := x6_6) (lv' := [(6, .int x6_6), (0, .ref o0), (1, .int x1), (3, .int x3), (4, .int x4), (5, .int x5)]) hx hb dX9_readsJoin_122 hl (k := 5) rfl (by rw [ex6_6]; rfl) (by decide) rfl (fun ls hl => ?_)
      refine lv_goto (tgt := 59) hx hb dX9_readsJoin_125 (by decide) ?_
      exact hX59 _ _ _ _ _ _ _ _ _ hg hP hD hS (lv_sub hl [1, 2, 3, 4, 5, 0] rfl)
  have L59 : ∀ (X12 : Int32 × Int32 × ZS → Prop) (hX12 : ∀ (x1 : Int32) (x2 : Int32) (S0 : ZS) (H : Heap) (locs : List Loc) (ls : Array Slot), X12 (x1, x2, S0) → va_P G.1 classes (wX9 G o0 d0 S0) H → va_D A (wX9 G o0 d0 S0) → va_S A s.heap H locs → lv_has ls 7 [(0, .ref o0), (1, .int x1), (2, .int x2)] → W p l e rm_X9_readsJoin s m args below meth c H locs 0 0 QQ (F0 m 12 ls [])) (n : Nat) (x1 : Int32) (x3 : Int32) (x4 : Int32) (x5 : Int32) (x6 : Int32) (S0 : ZS) (H : Heap) (locs : List Loc) (ls : Array Slot), fx (F_X9_readsJoin_59 Q X12) n (x1, x3, x4, x5, x6, S0) → va_P G.1 classes (wX9 G o0 d0 S0) H → va_D A (wX9 G o0 d0 S0) → va_S A s.heap H locs → lv_has ls 7 [(0, .ref o0), (1, .int x1), (3, .int x3), (4, .int x4), (5, .int x5), (6, .int x6)] → W p l e rm_X9_readsJoin s m args below meth c H locs 0 0 QQ (F0 m 59 ls []) := by
    intro X12 hX12 n
    induction n with
    | zero => intro x1 x3 x4 x5 x6 S0 H locs ls hg; exact hg.elim
    | succ n ih =>
      have hX59 := ih
      intro x1 x3 x4 x5 x6 S0 H locs ls hg hP hD hS hl
      refine lv_iload hx hb dX9_readsJoin_59 (lv_at hl 5 rfl) ?_
      refine lv_aload_n hx hb dX9_readsJoin_61 rfl (lv_at hl 0 rfl) ?_
      refine va_get (D := G.1) (ci := 7) (v := .ref (d0 32)) (C := RX9) (T := TX9) (N := 49) hx hb hT iX9 hown hK hP 0 rfl rfl 32 (by decide) (hT _ q_704) (fun _ h9 => h9) rfl dX9_readsJoin_62 ?_
      refine lv_iload_n hx hb dX9_readsJoin_65 rfl (lv_at hl 1 rfl) ?_
      refine va_iald hx hb hK hP 23 0 rfl rfl hg.1 dX9_readsJoin_66 ?_
      have hg := hg.2
      refine lv_icmp_ge (tgt := 128) hx hb dX9_readsJoin_67 (by decide) (fun c_1 => ?_) (fun c_1 => ?_)
      · have hg := hg.1 c_1
        exact J128 _ hX12 _ _ _ _ _ _ _ hg hP hD hS (lv_sub hl [0, 1, 2, 4] rfl)
      · have hg := hg.2 c_1
        refine lv_aload_n hx hb dX9_readsJoin_70 rfl (lv_at hl 0 rfl) ?_
        refine va_get (D := G.1) (ci := 7) (v := .int (S0 23 0)) (C := RX9) (T := TX9) (N := 49) hx hb hT iX9 hown hK hP 0 rfl rfl 23 (by decide) (hT _ q_695) (fun _ h9 => h9) rfl dX9_readsJoin_71 ?_
        refine lv_if_ne (tgt := 128) hx hb dX9_readsJoin_74 (by decide) (fun c_2 => ?_) (fun c_2 => ?_)
        · have hg := hg.2 c_2
          exact J128 _ hX12 _ _ _ _ _ _ _ hg hP hD hS (lv_sub hl [0, 1, 2, 4] rfl)
        · have hg := hg.1 c_2
          refine lv_aload_n hx hb dX9_readsJoin_77 rfl (lv_at hl 0 rfl) ?_
          refine lv_aload_n hx hb dX9_readsJoin_78 rfl (lv_at hl 0 rfl) ?_
          refine va_get (D := G.1) (ci := 7) (v := .ref (d0 33)) (C := RX9) (T := TX9) (N := 49) hx hb hT iX9 hown hK hP 0 rfl rfl 33 (by decide) (hT _ q_705) (fun _ h9 => h9) rfl dX9_readsJoin_79 ?_
          refine lv_iconst (v := 3) hx hb dX9_readsJoin_82 (by decide) ?_
          refine lv_iload_n hx hb dX9_readsJoin_83 rfl (lv_at hl 1 rfl) ?_
          refine lv_imul hx hb dX9_readsJoin_84 ?_
          refine lv_iload hx hb dX9_readsJoin_85 (lv_at hl 5 rfl) ?_
          refine lv_iadd hx hb dX9_readsJoin_87 ?_
          refine va_iald hx hb hK hP 24 0 rfl rfl hg.1 dX9_readsJoin_88 ?_
          have hg := hg.2
          refine lv_iload hx hb dX9_readsJoin_89 (lv_at hl 4 rfl) ?_
          refine lv_icmp_ne (tgt := 98) hx hb dX9_readsJoin_91 (by decide) (fun c_3 => ?_) (fun c_3 => ?_)
          · have hg := hg.2 c_3
            refine lv_iconst (v := 0) hx hb dX9_readsJoin_98 (by decide) ?_
            exact J99 _ hX12 _ hX59 _ _ _ _ _ _ _ _ _ _ hg hP hD hS (lv_sub hl [0, 1, 2, 3, 4, 5] rfl)
          · have hg := hg.1 c_3
            refine lv_iconst (v := 1) hx hb dX9_readsJoin_94 (by decide) ?_
            refine lv_goto (tgt := 99) hx hb dX9_readsJoin_95 (by decide) ?_
            exact J99 _ hX12 _ hX59 _ _ _ _ _ _ _ _ _ _ hg hP hD hS (lv_sub hl [0, 1, 2, 3, 4, 5] rfl)
  have J48 : ∀ (X12 : Int32 × Int32 × ZS → Prop) (hX12 : ∀ (x1 : Int32) (x2 : Int32) (S0 : ZS) (H : Heap) (locs : List Loc) (ls : Array Slot), X12 (x1, x2, S0) → va_P G.1 classes (wX9 G o0 d0 S0) H → va_D A (wX9 G o0 d0 S0) → va_S A s.heap H locs → lv_has ls 7 [(0, .ref o0), (1, .int x1), (2, .int x2)] → W p l e rm_X9_readsJoin s m args below meth c H locs 0 0 QQ (F0 m 12 ls [])) (x1 : Int32) (x3 : Int32) (x4 : Int32) (S0 : ZS) (H : Heap) (locs : List Loc) (ls : Array Slot), G_X9_readsJoin_48 Q X12 x1 x3 x4 S0 → va_P G.1 classes (wX9 G o0 d0 S0) H → va_D A (wX9 G o0 d0 S0) → va_S A s.heap H locs → lv_has ls 7 [(0, .ref o0), (1, .int x1), (3, .int x3), (4, .int x4)] → W p l e rm_X9_readsJoin s m args below meth c H locs 0 0 QQ (F0 m 48 ls []) := by
    intro X12 hX12 x1 x3 x4 S0 H locs ls hg hP hD hS hl
    refine lv_aload_n hx hb dX9_readsJoin_48 rfl (lv_at hl 0 rfl) ?_
    refine lv_bipush (v := 7) hx hb dX9_readsJoin_49 (by decide) ?_
    refine zcVi (As := [.int 7]) (rest := []) (C := RX9) Cx (c_X9_numeral l G o0 d0 7 S0 _ hg) zv_X9_numeral q_864 ⟨⟨rfl, rfl⟩, Nat.le_of_ble_eq_true rfl, Nat.le_of_ble_eq_true rfl⟩ (zJ.all hP hD hS hA) hS 7 rfl rfl rfl rfl hl.1 rfl (Nat.le_of_ble_eq_true rfl) dX9_readsJoin_51 (fun r_2 S0_1 H locs hg hP hD hS => ?_)
    have hP : va_P G.1 classes (wX9 G o0 d0 S0_1) H := hP
    have hD : va_D A (wX9 G o0 d0 S0_1) := hD
    refine lv_istore (lv' := [(5, .int r_2), (0, .ref o0), (1, .int x1), (3, .int x3), (4, .int x4)]) hx hb dX9_readsJoin_54 hl (by decide) rfl (fun ls hl => ?_)
    refine lv_iconst (v := 0) hx hb dX9_readsJoin_56 (by decide) ?_
    refine lv_istore (lv' := [(6, .int 0), (5, .int r_2), (0, .ref o0), (1, .int x1), (3, .int x3), (4, .int x4)]) hx hb dX9_readsJoin_57 hl (by decide) rfl (fun ls hl => ?_)
    obtain ⟨n, hg⟩ := hg
    exact L59 _ hX12 n _ _ _ _ _ _ _ _ _ hg hP hD hS (lv_sub hl [2, 3, 4, 5, 1, 0] rfl)
  have L12 : ∀ (n : Nat) (x1 : Int32) (x2 : Int32) (S0 : ZS) (H : Heap) (locs : List Loc) (ls : Array Slot), fx (F_X9_readsJoin_12 Q) n (x1, x2, S0) → va_P G.1 classes (wX9 G o0 d0 S0) H → va_D A (wX9 G o0 d0 S0) → va_S A s.heap H locs → lv_has ls 7 [(0, .ref o0), (1, .int x1), (2, .int x2)] → W p l e rm_X9_readsJoin s m args below meth c H locs 0 0 QQ (F0 m 12 ls []) := by
    intro n
    induction n with
    | zero => intro x1 x2 S0 H locs ls hg; exact hg.elim
    | succ n ih =>
      have hX12 := ih
      intro x1 x2 S0 H locs ls hg hP hD hS hl
      refine lv_iload_n hx hb dX9_readsJoin_12 rfl (lv_at hl 2 rfl) ?_
      refine lv_if_eq (tgt := 198) hx hb dX9_readsJoin_13 (by decide) (fun c_1 => ?_) (fun c_1 => ?_)
      · have hg := hg.1 c_1
        refine lv_aload_n hx hb dX9_readsJoin_198 rfl (lv_at hl 0 rfl) ?_
        refine zcVv (As := []) (rest := []) (C := RX9) Cx (c_X9_closes l G o0 d0 S0 _ hg) zv_X9_closes q_856 ⟨⟨rfl, rfl⟩, Nat.le_of_ble_eq_true rfl, Nat.le_of_ble_eq_true rfl⟩ (zJ.all hP hD hS hA) hS 7 rfl rfl rfl rfl hl.1 rfl (Nat.le_of_ble_eq_true rfl) dX9_readsJoin_199 (fun S0_2 H locs hg hP hD hS => ?_)
        have hP : va_P G.1 classes (wX9 G o0 d0 S0_2) H := hP
        have hD : va_D A (wX9 G o0 d0 S0_2) := hD
        exact hret _ _ (S0_2) _ _ hg hP hD hS dX9_readsJoin_202
      · have hg := hg.2 c_1
        refine lv_iconst (v := 3) hx hb dX9_readsJoin_16 (by decide) ?_
        refine lv_iload_n hx hb dX9_readsJoin_17 rfl (lv_at hl 1 rfl) ?_
        refine lv_imul hx hb dX9_readsJoin_18 ?_
        refine lv_aload_n hx hb dX9_readsJoin_19 rfl (lv_at hl 0 rfl) ?_
        refine va_get (D := G.1) (ci := 7) (v := .ref (d0 32)) (C := RX9) (T := TX9) (N := 49) hx hb hT iX9 hown hK hP 0 rfl rfl 32 (by decide) (hT _ q_704) (fun _ h9 => h9) rfl dX9_readsJoin_20 ?_
        refine lv_iload_n hx hb dX9_readsJoin_23 rfl (lv_at hl 1 rfl) ?_
        refine va_iald hx hb hK hP 23 0 rfl rfl hg.1 dX9_readsJoin_24 ?_
        have hg := hg.2
        refine lv_iadd hx hb dX9_readsJoin_25 ?_
        refine lv_topi (fun x3_3 ex3_3 => ?_)
        have hg := hg x3_3 ex3_3
        refine lv_istore_n (lv' := [(3, .int x3_3), (0, .ref o0), (1, .int x1), (2, .int x2)]) hx hb dX9_readsJoin_26 rfl hl (by decide) rfl (fun ls hl => ?_)
        refine lv_iconst (v := (-1)) hx hb dX9_readsJoin_27 (by decide) ?_
        refine lv_istore (lv' := [(4, .int (-1)), (3, .int x3_3), (0, .ref o0), (1, .int x1), (2, .int x2)]) hx hb dX9_readsJoin_28 hl (by decide) rfl (fun ls hl => ?_)
        refine lv_aload_n hx hb dX9_readsJoin_30 rfl (lv_at hl 2 rfl) ?_
        refine va_get (D := G.1) (ci := 7) (v := .int (S0 23 0)) (C := RX9) (T := TX9) (N := 49) hx hb hT iX9 hown hK hP 0 rfl rfl 23 (by decide) (hT _ q_695) (fun _ h9 => h9) rfl dX9_readsJoin_31 ?_
        refine lv_if_ne (tgt := 48) hx hb dX9_readsJoin_34 (by decide) (fun c_4 => ?_) (fun c_4 => ?_)
        · have hg := hg.2 c_4
          exact J48 _ hX12 _ _ _ _ _ _ _ hg hP hD hS (lv_sub hl [2, 3, 1, 0] rfl)
        · have hg := hg.1 c_4
          refine lv_aload_n hx hb dX9_readsJoin_37 rfl (lv_at hl 2 rfl) ?_
          refine zcVi (As := []) (rest := []) (C := RX9) Cx (c_X9_here l G o0 d0 S0 _ hg) zv_X9_here q_840 ⟨⟨rfl, rfl⟩, Nat.le_of_ble_eq_true rfl, Nat.le_of_ble_eq_true rfl⟩ (zJ.all hP hD hS hA) hS 7 rfl rfl rfl rfl hl.1 rfl (Nat.le_of_ble_eq_true rfl) dX9_readsJoin_38 (fun r_6 S0_5 H locs hg hP hD hS => ?_)
          have hP : va_P G.1 classes (wX9 G o0 d0 S0_5) H := hP
          have hD : va_D A (wX9 G o0 d0 S0_5) := hD
          refine lv_pop hx hb dX9_readsJoin_41 rfl ?_
          refine lv_aload_n hx hb dX9_readsJoin_42 rfl (lv_at hl 2 rfl) ?_
          refine va_get (D := G.1) (ci := 7) (v := .int (S0_5 22 0)) (C := RX9) (T := TX9) (N := 49) hx hb hT iX9 hown hK hP 0 rfl rfl 22 (by decide) (hT _ q_694) (fun _ h9 => h9) rfl dX9_readsJoin_43 ?_
          refine lv_istore (lv' := [(4, .int (S0_5 22 0)), (3, .int x3_3), (0, .ref o0), (1, .int x1), (2, .int x2)]) hx hb dX9_readsJoin_46 hl (by decide) rfl (fun ls hl => ?_)
          exact J48 _ hX12 _ _ _ _ _ _ _ hg hP hD hS (lv_sub hl [2, 3, 1, 0] rfl)
  refine lv_aload_n hx hb dX9_readsJoin_0 rfl (lv_at hl 0 rfl) ?_
  refine va_get (D := G.1) (ci := 7) (v := .int (S0 24 0)) (C := RX9) (T := TX9) (N := 49) hx hb hT iX9 hown hK hP 0 rfl rfl 24 (by decide) (hT _ q_696) (fun _ h9 => h9) rfl dX9_readsJoin_1 ?_
  refine lv_istore_n (lv' := [(1, .int (S0 24 0)), (0, .ref o0)]) hx hb dX9_readsJoin_4 rfl hl (by decide) rfl (fun ls hl => ?_)
  refine lv_aload_n hx hb dX9_readsJoin_5 rfl (lv_at hl 1 rfl) ?_
  refine lv_iconst (v := 3) hx hb dX9_readsJoin_6 (by decide) ?_
  refine zcVv (As := [.int 3]) (rest := []) (C := RX9) Cx (c_X9_startsName l G o0 d0 3 S0 _ hg) zv_X9_startsName q_860 ⟨⟨rfl, rfl⟩, Nat.le_of_ble_eq_true rfl, Nat.le_of_ble_eq_true rfl⟩ (zJ.all hP hD hS hA) hS 7 rfl rfl rfl rfl hl.1 rfl (Nat.le_of_ble_eq_true rfl) dX9_readsJoin_7 (fun S0_1 H locs hg hP hD hS => ?_)
  have hP : va_P G.1 classes (wX9 G o0 d0 S0_1) H := hP
  have hD : va_D A (wX9 G o0 d0 S0_1) := hD
  refine lv_iconst (v := 1) hx hb dX9_readsJoin_10 (by decide) ?_
  refine lv_istore_n (lv' := [(2, .int 1), (1, .int (S0 24 0)), (0, .ref o0)]) hx hb dX9_readsJoin_11 rfl hl (by decide) rfl (fun ls hl => ?_)
  obtain ⟨n, hg⟩ := hg
  exact L12 n _ _ _ _ _ _ hg hP hD hS (lv_sub hl [2, 1, 0] rfl)
theorem zv_X9_readsEnd : zV yX9_readsEnd RX9 cX9_readsEnd 5 none 1 := ⟨q_881, qp_11, q_8, q_882, by decide +kernel⟩
set_option maxHeartbeats 4000000 in
set_option maxRecDepth 100000 in
theorem c_X9_readsEnd (l : Launch) (G : ZG) (o0 : Nat) (d0 : Nat → Nat) (x1 : Int32) (S0 : ZS) (Q : ZS → Prop) (hg : g_X9_readsEnd x1 S0 Q) : Kv l G yX9_readsEnd cX9_readsEnd 5 rm_X9_readsEnd [.ref o0, .int x1] (wX9 G o0 d0 S0) (fun u : ZS => wX9 G o0 d0 u) (fun u => Q u) := by
  refine Kv.of (by decide) (Nat.le_of_ble_eq_true rfl) ?_
  intro p e s m args below meth c A QQ ls Cx hret hl hP hD hS
  obtain ⟨hx, hb, hml, hown, hT, hK, hA⟩ := id Cx
  have hl : lv_has ls 5 [(0, .ref o0), (1, .int x1)] := hl
  have J179 : ∀ (S0 : ZS) (H : Heap) (locs : List Loc) (ls : Array Slot), G_X9_readsEnd_179 x1 Q S0 → va_P G.1 classes (wX9 G o0 d0 S0) H → va_D A (wX9 G o0 d0 S0) → va_S A s.heap H locs → lv_has ls 5 [(0, .ref o0)] → W p l e rm_X9_readsEnd s m args below meth c H locs 0 0 QQ (F0 m 179 ls []) := by
    intro S0 H locs ls hg hP hD hS hl
    refine lv_aload_n hx hb dX9_readsEnd_179 rfl (lv_at hl 0 rfl) ?_
    refine lv_iconst (v := 0) hx hb dX9_readsEnd_180 (by decide) ?_
    refine z_put (D := G.1) (ci := 7) (v := .int 0) (ty := .boolean) (C := RX9) (T := TX9) (N := 49) hx hb hT iX9 tyX9 tyX9_ok nmX9 hown hK hP hD hS 0 rfl rfl 26 (by decide) (hT _ q_698) (fun _ h9 => h9) rfl (by decide +kernel) rfl rfl (Nat.le_of_ble_eq_true rfl) dX9_readsEnd_181 (zst S0 26 0 0) (fun S : ZS => wX9 G o0 d0 S) rfl (fun S0_1 H locs eS0_1 hP hD hS => ?_)
    have hg := hg S0_1 eS0_1
    refine lv_aload_n hx hb dX9_readsEnd_184 rfl (lv_at hl 0 rfl) ?_
    refine zcVv (As := []) (rest := []) (C := RX9) Cx (c_X9_closes l G o0 d0 S0_1 _ hg) zv_X9_closes q_856 ⟨⟨rfl, rfl⟩, Nat.le_of_ble_eq_true rfl, Nat.le_of_ble_eq_true rfl⟩ (zJ.all hP hD hS hA) hS 7 rfl rfl rfl rfl hl.1 rfl (Nat.le_of_ble_eq_true rfl) dX9_readsEnd_185 (fun S0_2 H locs hg hP hD hS => ?_)
    have hP : va_P G.1 classes (wX9 G o0 d0 S0_2) H := hP
    have hD : va_D A (wX9 G o0 d0 S0_2) := hD
    exact hret _ _ (S0_2) _ _ hg hP hD hS dX9_readsEnd_188
  have J164 : ∀ (x2 : Int32) (x4 : Int32) (S0 : ZS) (H : Heap) (locs : List Loc) (ls : Array Slot), G_X9_readsEnd_164 x1 Q x2 x4 S0 → va_P G.1 classes (wX9 G o0 d0 S0) H → va_D A (wX9 G o0 d0 S0) → va_S A s.heap H locs → lv_has ls 5 [(0, .ref o0), (2, .int x2), (4, .int x4)] → W p l e rm_X9_readsEnd s m args below meth c H locs 0 0 QQ (F0 m 164 ls []) := by
    intro x2 x4 S0 H locs ls hg hP hD hS hl
    refine lv_aload_n hx hb dX9_readsEnd_164 rfl (lv_at hl 0 rfl) ?_
    refine va_get (D := G.1) (ci := 7) (v := .ref (d0 38)) (C := RX9) (T := TX9) (N := 49) hx hb hT iX9 hown hK hP 0 rfl rfl 38 (by decide) (hT _ q_710) (fun _ h9 => h9) rfl dX9_readsEnd_165 ?_
    refine lv_bipush (v := 96) hx hb dX9_readsEnd_168 (by decide) ?_
    refine lv_iconst (v := 2) hx hb dX9_readsEnd_170 (by decide) ?_
    refine lv_iload_n hx hb dX9_readsEnd_171 rfl (lv_at hl 1 rfl) ?_
    refine lv_imul hx hb dX9_readsEnd_172 ?_
    refine lv_iadd hx hb dX9_readsEnd_173 ?_
    refine lv_iconst (v := 1) hx hb dX9_readsEnd_174 (by decide) ?_
    refine lv_iadd hx hb dX9_readsEnd_175 ?_
    refine lv_iload hx hb dX9_readsEnd_176 (lv_at hl 2 rfl) ?_
    refine z_iast hx hb hK hP hD hS 29 0 rfl rfl hg.1 dX9_readsEnd_178 (zst S0 38 ((96 + (2 * x2)) + 1).toNatClampNeg x4) (fun S : ZS => wX9 G o0 d0 S) rfl (fun S0_1 H locs eS0_1 hP hD hS => ?_)
    have hg := hg.2 S0_1 eS0_1
    exact J179 _ _ _ _ hg hP hD hS (lv_sub hl [0] rfl)
  have J84 : ∀ (x2 : Int32) (t1 : Int32) (t2 : Int32) (S0 : ZS) (H : Heap) (locs : List Loc) (ls : Array Slot), G_X9_readsEnd_84 x1 Q x2 t1 t2 S0 → va_P G.1 classes (wX9 G o0 d0 S0) H → va_D A (wX9 G o0 d0 S0) → va_S A s.heap H locs → lv_has ls 5 [(0, .ref o0), (1, .int x1), (2, .int x2)] → W p l e rm_X9_readsEnd s m args below meth c H locs 0 0 QQ (F0 m 84 ls [.int t2, .int t1, .ref (d0 38)]) := by
    intro x2 t1 t2 S0 H locs ls hg hP hD hS hl
    refine z_iast hx hb hK hP hD hS 29 0 rfl rfl hg.1 dX9_readsEnd_84 (zst S0 38 t1.toNatClampNeg t2) (fun S : ZS => wX9 G o0 d0 S) rfl (fun S0_1 H locs eS0_1 hP hD hS => ?_)
    have hg := hg.2 S0_1 eS0_1
    refine lv_aload_n hx hb dX9_readsEnd_85 rfl (lv_at hl 0 rfl) ?_
    refine va_get (D := G.1) (ci := 7) (v := .ref (d0 38)) (C := RX9) (T := TX9) (N := 49) hx hb hT iX9 hown hK hP 0 rfl rfl 38 (by decide) (hT _ q_710) (fun _ h9 => h9) rfl dX9_readsEnd_86 ?_
    refine lv_bipush (v := 96) hx hb dX9_readsEnd_89 (by decide) ?_
    refine lv_iconst (v := 2) hx hb dX9_readsEnd_91 (by decide) ?_
    refine lv_iload_n hx hb dX9_readsEnd_92 rfl (lv_at hl 2 rfl) ?_
    refine lv_imul hx hb dX9_readsEnd_93 ?_
    refine lv_iadd hx hb dX9_readsEnd_94 ?_
    refine lv_iconst (v := 1) hx hb dX9_readsEnd_95 (by decide) ?_
    refine lv_iadd hx hb dX9_readsEnd_96 ?_
    refine lv_bipush (v := (-9)) hx hb dX9_readsEnd_97 (by decide) ?_
    refine z_iast hx hb hK hP hD hS 29 0 rfl rfl hg.1 dX9_readsEnd_99 (zst S0_1 38 ((96 + (2 * x2)) + 1).toNatClampNeg (-9)) (fun S : ZS => wX9 G o0 d0 S) rfl (fun S0_2 H locs eS0_2 hP hD hS => ?_)
    have hg := hg.2 S0_2 eS0_2
    refine lv_iload_n hx hb dX9_readsEnd_100 rfl (lv_at hl 1 rfl) ?_
    refine lv_bipush (v := 113) hx hb dX9_readsEnd_101 (by decide) ?_
    refine lv_icmp_ne (tgt := 179) hx hb dX9_readsEnd_103 (by decide) (fun c_3 => ?_) (fun c_3 => ?_)
    · have hg := hg.2 c_3
      exact J179 _ _ _ _ hg hP hD hS (lv_sub hl [0] rfl)
    · have hg := hg.1 c_3
      refine lv_aload_n hx hb dX9_readsEnd_106 rfl (lv_at hl 0 rfl) ?_
      refine va_get (D := G.1) (ci := 7) (v := .int (S0_2 23 0)) (C := RX9) (T := TX9) (N := 49) hx hb hT iX9 hown hK hP 0 rfl rfl 23 (by decide) (hT _ q_695) (fun _ h9 => h9) rfl dX9_readsEnd_107 ?_
      refine lv_if_ne (tgt := 179) hx hb dX9_readsEnd_110 (by decide) (fun c_4 => ?_) (fun c_4 => ?_)
      · have hg := hg.2 c_4
        exact J179 _ _ _ _ hg hP hD hS (lv_sub hl [0] rfl)
      · have hg := hg.1 c_4
        refine lv_aload_n hx hb dX9_readsEnd_113 rfl (lv_at hl 0 rfl) ?_
        refine zcVi (As := []) (rest := []) (C := RX9) Cx (c_X9_here l G o0 d0 S0_2 _ hg) zv_X9_here q_840 ⟨⟨rfl, rfl⟩, Nat.le_of_ble_eq_true rfl, Nat.le_of_ble_eq_true rfl⟩ (zJ.all hP hD hS hA) hS 7 rfl rfl rfl rfl hl.1 rfl (Nat.le_of_ble_eq_true rfl) dX9_readsEnd_114 (fun r_6 S0_5 H locs hg hP hD hS => ?_)
        have hP : va_P G.1 classes (wX9 G o0 d0 S0_5) H := hP
        have hD : va_D A (wX9 G o0 d0 S0_5) := hD
        refine lv_pop hx hb dX9_readsEnd_117 rfl ?_
        refine lv_aload_n hx hb dX9_readsEnd_118 rfl (lv_at hl 0 rfl) ?_
        refine va_get (D := G.1) (ci := 7) (v := .int (S0_5 22 0)) (C := RX9) (T := TX9) (N := 49) hx hb hT iX9 hown hK hP 0 rfl rfl 22 (by decide) (hT _ q_694) (fun _ h9 => h9) rfl dX9_readsEnd_119 ?_
        refine lv_istore_n (lv' := [(3, .int (S0_5 22 0)), (0, .ref o0), (1, .int x1), (2, .int x2)]) hx hb dX9_readsEnd_122 rfl hl (by decide) rfl (fun ls hl => ?_)
        refine lv_aload_n hx hb dX9_readsEnd_123 rfl (lv_at hl 1 rfl) ?_
        refine lv_bipush (v := 7) hx hb dX9_readsEnd_124 (by decide) ?_
        refine zcVi (As := [.int 7]) (rest := []) (C := RX9) Cx (c_X9_numeral l G o0 d0 7 S0_5 _ hg) zv_X9_numeral q_864 ⟨⟨rfl, rfl⟩, Nat.le_of_ble_eq_true rfl, Nat.le_of_ble_eq_true rfl⟩ (zJ.all hP hD hS hA) hS 7 rfl rfl rfl rfl hl.1 rfl (Nat.le_of_ble_eq_true rfl) dX9_readsEnd_126 (fun r_8 S0_7 H locs hg hP hD hS => ?_)
        have hP : va_P G.1 classes (wX9 G o0 d0 S0_7) H := hP
        have hD : va_D A (wX9 G o0 d0 S0_7) := hD
        refine lv_istore (lv' := [(4, .int r_8), (3, .int (S0_5 22 0)), (0, .ref o0), (1, .int x1), (2, .int x2)]) hx hb dX9_readsEnd_129 hl (by decide) rfl (fun ls hl => ?_)
        refine lv_aload_n hx hb dX9_readsEnd_131 rfl (lv_at hl 2 rfl) ?_
        refine va_get (D := G.1) (ci := 7) (v := .int (S0_7 23 0)) (C := RX9) (T := TX9) (N := 49) hx hb hT iX9 hown hK hP 0 rfl rfl 23 (by decide) (hT _ q_695) (fun _ h9 => h9) rfl dX9_readsEnd_132 ?_
        refine lv_if_ne (tgt := 164) hx hb dX9_readsEnd_135 (by decide) (fun c_9 => ?_) (fun c_9 => ?_)
        · have hg := hg.2 c_9
          exact J164 _ _ _ _ _ _ hg hP hD hS (lv_sub hl [2, 4, 0] rfl)
        · have hg := hg.1 c_9
          refine lv_iload hx hb dX9_readsEnd_138 (lv_at hl 0 rfl) ?_
          refine lv_aload_n hx hb dX9_readsEnd_140 rfl (lv_at hl 2 rfl) ?_
          refine va_get (D := G.1) (ci := 7) (v := .ref (d0 38)) (C := RX9) (T := TX9) (N := 49) hx hb hT iX9 hown hK hP 0 rfl rfl 38 (by decide) (hT _ q_710) (fun _ h9 => h9) rfl dX9_readsEnd_141 ?_
          refine lv_bipush (v := 96) hx hb dX9_readsEnd_144 (by decide) ?_
          refine lv_iconst (v := 2) hx hb dX9_readsEnd_146 (by decide) ?_
          refine lv_iload_n hx hb dX9_readsEnd_147 rfl (lv_at hl 4 rfl) ?_
          refine lv_imul hx hb dX9_readsEnd_148 ?_
          refine lv_iadd hx hb dX9_readsEnd_149 ?_
          refine va_iald hx hb hK hP 29 0 rfl rfl hg.1 dX9_readsEnd_150 ?_
          have hg := hg.2
          refine lv_icmp_ne (tgt := 164) hx hb dX9_readsEnd_151 (by decide) (fun c_10 => ?_) (fun c_10 => ?_)
          · have hg := hg.2 c_10
            exact J164 _ _ _ _ _ _ hg hP hD hS (lv_sub hl [2, 4, 0] rfl)
          · have hg := hg.1 c_10
            refine lv_aload_n hx hb dX9_readsEnd_154 rfl (lv_at hl 2 rfl) ?_
            refine lv_iconst (v := 1) hx hb dX9_readsEnd_155 (by decide) ?_
            refine z_put (D := G.1) (ci := 7) (v := .int 1) (ty := .boolean) (C := RX9) (T := TX9) (N := 49) hx hb hT iX9 tyX9 tyX9_ok nmX9 hown hK hP hD hS 0 rfl rfl 23 (by decide) (hT _ q_695) (fun _ h9 => h9) rfl (by decide +kernel) rfl rfl (Nat.le_of_ble_eq_true rfl) dX9_readsEnd_156 (zst S0_7 23 0 1) (fun S : ZS => wX9 G o0 d0 S) rfl (fun S0_11 H locs eS0_11 hP hD hS => ?_)
            have hg := hg S0_11 eS0_11
            refine lv_aload_n hx hb dX9_readsEnd_159 rfl (lv_at hl 2 rfl) ?_
            refine lv_iload_n hx hb dX9_readsEnd_160 rfl (lv_at hl 1 rfl) ?_
            refine z_put (D := G.1) (ci := 7) (v := .int (S0_5 22 0)) (ty := .int) (C := RX9) (T := TX9) (N := 49) hx hb hT iX9 tyX9 tyX9_ok nmX9 hown hK hP hD hS 0 rfl rfl 22 (by decide) (hT _ q_694) (fun _ h9 => h9) rfl (by decide +kernel) rfl rfl (Nat.le_of_ble_eq_true rfl) dX9_readsEnd_161 (zst S0_11 22 0 (S0_5 22 0)) (fun S : ZS => wX9 G o0 d0 S) rfl (fun S0_12 H locs eS0_12 hP hD hS => ?_)
            have hg := hg S0_12 eS0_12
            exact J164 _ _ _ _ _ _ hg hP hD hS (lv_sub hl [2, 4, 0] rfl)
  have J56 : ∀ (x2 : Int32) (t1 : Int32) (t2 : Int32) (S0 : ZS) (H : Heap) (locs : List Loc) (ls : Array Slot), G_X9_readsEnd_56 x1 Q x2 t1 t2 S0 → va_P G.1 classes (wX9 G o0 d0 S0) H → va_D A (wX9 G o0 d0 S0) → va_S A s.heap H locs → lv_has ls 5 [(0, .ref o0), (1, .int x1), (2, .int x2)] → W p l e rm_X9_readsEnd s m args below meth c H locs 0 0 QQ (F0 m 56 ls [.int t2, .int t1, .ref (d0 37)]) := by
    intro x2 t1 t2 S0 H locs ls hg hP hD hS hl
    refine z_iast hx hb hK hP hD hS 28 0 rfl rfl hg.1 dX9_readsEnd_56 (zst S0 37 t1.toNatClampNeg t2) (fun S : ZS => wX9 G o0 d0 S) rfl (fun S0_1 H locs eS0_1 hP hD hS => ?_)
    have hg := hg.2 S0_1 eS0_1
    refine lv_aload_n hx hb dX9_readsEnd_57 rfl (lv_at hl 0 rfl) ?_
    refine va_get (D := G.1) (ci := 7) (v := .ref (d0 38)) (C := RX9) (T := TX9) (N := 49) hx hb hT iX9 hown hK hP 0 rfl rfl 38 (by decide) (hT _ q_710) (fun _ h9 => h9) rfl dX9_readsEnd_58 ?_
    refine lv_bipush (v := 96) hx hb dX9_readsEnd_61 (by decide) ?_
    refine lv_iconst (v := 2) hx hb dX9_readsEnd_63 (by decide) ?_
    refine lv_iload_n hx hb dX9_readsEnd_64 rfl (lv_at hl 2 rfl) ?_
    refine lv_imul hx hb dX9_readsEnd_65 ?_
    refine lv_iadd hx hb dX9_readsEnd_66 ?_
    refine lv_iload_n hx hb dX9_readsEnd_67 rfl (lv_at hl 1 rfl) ?_
    refine lv_bipush (v := 122) hx hb dX9_readsEnd_68 (by decide) ?_
    refine lv_icmp_ne (tgt := 78) hx hb dX9_readsEnd_70 (by decide) (fun c_2 => ?_) (fun c_2 => ?_)
    · have hg := hg.2 c_2
      refine lv_aload_n hx hb dX9_readsEnd_78 rfl (lv_at hl 0 rfl) ?_
      refine lv_bipush (v := 7) hx hb dX9_readsEnd_79 (by decide) ?_
      refine zcVi (As := [.int 7]) (rest := [.int (96 + (2 * x2)), .ref (d0 38)]) (C := RX9) Cx (c_X9_numeral l G o0 d0 7 S0_1 _ hg) zv_X9_numeral q_864 ⟨⟨rfl, rfl⟩, Nat.le_of_ble_eq_true rfl, Nat.le_of_ble_eq_true rfl⟩ (zJ.all hP hD hS hA) hS 7 rfl rfl rfl rfl hl.1 rfl (Nat.le_of_ble_eq_true rfl) dX9_readsEnd_81 (fun r_4 S0_3 H locs hg hP hD hS => ?_)
      have hP : va_P G.1 classes (wX9 G o0 d0 S0_3) H := hP
      have hD : va_D A (wX9 G o0 d0 S0_3) := hD
      exact J84 _ _ _ _ _ _ _ hg hP hD hS (lv_sub hl [0, 1, 2] rfl)
    · have hg := hg.1 c_2
      refine lv_bipush (v := (-9)) hx hb dX9_readsEnd_73 (by decide) ?_
      refine lv_goto (tgt := 84) hx hb dX9_readsEnd_75 (by decide) ?_
      exact J84 _ _ _ _ _ _ _ hg hP hD hS (lv_sub hl [0, 1, 2] rfl)
  have J33 : ∀ (x2 : Int32) (t1 : Int32) (t2 : Int32) (S0 : ZS) (H : Heap) (locs : List Loc) (ls : Array Slot), G_X9_readsEnd_33 x1 Q x2 t1 t2 S0 → va_P G.1 classes (wX9 G o0 d0 S0) H → va_D A (wX9 G o0 d0 S0) → va_S A s.heap H locs → lv_has ls 5 [(0, .ref o0), (1, .int x1), (2, .int x2)] → W p l e rm_X9_readsEnd s m args below meth c H locs 0 0 QQ (F0 m 33 ls [.int t2, .int t1, .ref (d0 36)]) := by
    intro x2 t1 t2 S0 H locs ls hg hP hD hS hl
    refine z_iast hx hb hK hP hD hS 27 0 rfl rfl hg.1 dX9_readsEnd_33 (zst S0 36 t1.toNatClampNeg t2) (fun S : ZS => wX9 G o0 d0 S) rfl (fun S0_1 H locs eS0_1 hP hD hS => ?_)
    have hg := hg.2 S0_1 eS0_1
    refine lv_aload_n hx hb dX9_readsEnd_34 rfl (lv_at hl 0 rfl) ?_
    refine va_get (D := G.1) (ci := 7) (v := .ref (d0 37)) (C := RX9) (T := TX9) (N := 49) hx hb hT iX9 hown hK hP 0 rfl rfl 37 (by decide) (hT _ q_709) (fun _ h9 => h9) rfl dX9_readsEnd_35 ?_
    refine lv_iload_n hx hb dX9_readsEnd_38 rfl (lv_at hl 2 rfl) ?_
    refine lv_iload_n hx hb dX9_readsEnd_39 rfl (lv_at hl 1 rfl) ?_
    refine lv_bipush (v := 103) hx hb dX9_readsEnd_40 (by decide) ?_
    refine lv_icmp_ne (tgt := 50) hx hb dX9_readsEnd_42 (by decide) (fun c_2 => ?_) (fun c_2 => ?_)
    · have hg := hg.2 c_2
      refine lv_aload_n hx hb dX9_readsEnd_50 rfl (lv_at hl 0 rfl) ?_
      refine lv_bipush (v := 23) hx hb dX9_readsEnd_51 (by decide) ?_
      refine zcVi (As := [.int 23]) (rest := [.int x2, .ref (d0 37)]) (C := RX9) Cx (c_X9_numeral l G o0 d0 23 S0_1 _ hg) zv_X9_numeral q_864 ⟨⟨rfl, rfl⟩, Nat.le_of_ble_eq_true rfl, Nat.le_of_ble_eq_true rfl⟩ (zJ.all hP hD hS hA) hS 7 rfl rfl rfl rfl hl.1 rfl (Nat.le_of_ble_eq_true rfl) dX9_readsEnd_53 (fun r_4 S0_3 H locs hg hP hD hS => ?_)
      have hP : va_P G.1 classes (wX9 G o0 d0 S0_3) H := hP
      have hD : va_D A (wX9 G o0 d0 S0_3) := hD
      exact J56 _ _ _ _ _ _ _ hg hP hD hS (lv_sub hl [0, 1, 2] rfl)
    · have hg := hg.1 c_2
      refine lv_bipush (v := (-9)) hx hb dX9_readsEnd_45 (by decide) ?_
      refine lv_goto (tgt := 56) hx hb dX9_readsEnd_47 (by decide) ?_
      exact J56 _ _ _ _ _ _ _ hg hP hD hS (lv_sub hl [0, 1, 2] rfl)
  refine lv_aload_n hx hb dX9_readsEnd_0 rfl (lv_at hl 0 rfl) ?_
  refine va_get (D := G.1) (ci := 7) (v := .int (S0 25 0)) (C := RX9) (T := TX9) (N := 49) hx hb hT iX9 hown hK hP 0 rfl rfl 25 (by decide) (hT _ q_697) (fun _ h9 => h9) rfl dX9_readsEnd_1 ?_
  refine lv_iconst (v := 1) hx hb dX9_readsEnd_4 (by decide) ?_
  refine lv_isub hx hb dX9_readsEnd_5 ?_
  refine lv_topi (fun x2_1 ex2_1 => ?_)
  have hg := hg x2_1 ex2_1
  refine lv_istore_n (lv' := [(2, .int x2_1), (0, .ref o0), (1, .int x1)]) hx hb dX9_readsEnd_6 rfl hl (by decide) rfl (fun ls hl => ?_)
  refine lv_aload_n hx hb dX9_readsEnd_7 rfl (lv_at hl 1 rfl) ?_
  refine va_get (D := G.1) (ci := 7) (v := .ref (d0 36)) (C := RX9) (T := TX9) (N := 49) hx hb hT iX9 hown hK hP 0 rfl rfl 36 (by decide) (hT _ q_708) (fun _ h9 => h9) rfl dX9_readsEnd_8 ?_
  refine lv_iload_n hx hb dX9_readsEnd_11 rfl (lv_at hl 0 rfl) ?_
  refine lv_iload_n hx hb dX9_readsEnd_12 rfl (lv_at hl 2 rfl) ?_
  refine lv_bipush (v := 103) hx hb dX9_readsEnd_13 (by decide) ?_
  refine lv_icmp_ne (tgt := 22) hx hb dX9_readsEnd_15 (by decide) (fun c_2 => ?_) (fun c_2 => ?_)
  · have hg := hg.2 c_2
    refine lv_iload_n hx hb dX9_readsEnd_22 rfl (lv_at hl 2 rfl) ?_
    refine lv_bipush (v := 113) hx hb dX9_readsEnd_23 (by decide) ?_
    refine lv_icmp_ne (tgt := 32) hx hb dX9_readsEnd_25 (by decide) (fun c_3 => ?_) (fun c_3 => ?_)
    · have hg := hg.2 c_3
      refine lv_iconst (v := 2) hx hb dX9_readsEnd_32 (by decide) ?_
      exact J33 _ _ _ _ _ _ _ hg hP hD hS (lv_sub hl [1, 2, 0] rfl)
    · have hg := hg.1 c_3
      refine lv_iconst (v := 1) hx hb dX9_readsEnd_28 (by decide) ?_
      refine lv_goto (tgt := 33) hx hb dX9_readsEnd_29 (by decide) ?_
      exact J33 _ _ _ _ _ _ _ hg hP hD hS (lv_sub hl [1, 2, 0] rfl)
  · have hg := hg.1 c_2
    refine lv_iconst (v := 0) hx hb dX9_readsEnd_18 (by decide) ?_
    refine lv_goto (tgt := 33) hx hb dX9_readsEnd_19 (by decide) ?_
    exact J33 _ _ _ _ _ _ _ hg hP hD hS (lv_sub hl [1, 2, 0] rfl)
theorem zv_X9_mayBegin : zV yX9_mayBegin RX9 cX9_mayBegin 3 (some .boolean) 1 := ⟨q_850, qp_4, q_8, q_851, by decide +kernel⟩
set_option maxHeartbeats 4000000 in
set_option maxRecDepth 100000 in
theorem c_X9_mayBegin (l : Launch) (G : ZG) (o0 : Nat) (d0 : Nat → Nat) (x1 : Int32) (S0 : ZS) (Q : Int32 → Prop) (hg : g_X9_mayBegin x1 S0 Q) : Ki l G yX9_mayBegin cX9_mayBegin 3 .boolean rm_X9_mayBegin [.ref o0, .int x1] (wX9 G o0 d0 S0) (fun _ : Unit => wX9 G o0 d0 S0) (fun r _ => Q r ) := by
  refine Ki.of (by decide) (Nat.le_of_ble_eq_true rfl) ?_
  intro p e s m args below meth c A QQ ls Cx hret hl hP hD hS
  obtain ⟨hx, hb, hml, hown, hT, hK, hA⟩ := id Cx
  have hl : lv_has ls 3 [(0, .ref o0), (1, .int x1)] := hl
  have J249 : ∀ (x2 : Int32) (H : Heap) (locs : List Loc) (ls : Array Slot), G_X9_mayBegin_249 x1 S0 Q x2 → va_P G.1 classes (wX9 G o0 d0 S0) H → va_D A (wX9 G o0 d0 S0) → va_S A s.heap H locs → lv_has ls 3 [(0, .ref o0), (2, .int x2)] → W p l e rm_X9_mayBegin s m args below meth c H locs 0 0 QQ (F0 m 249 ls []) := by
    intro x2 H locs ls hg hP hD hS hl
    refine lv_iload_n hx hb dX9_mayBegin_249 rfl (lv_at hl 1 rfl) ?_
    refine lv_if_eq (tgt := 264) hx hb dX9_mayBegin_250 (by decide) (fun c_1 => ?_) (fun c_1 => ?_)
    · have hg := hg.1 c_1
      refine lv_iconst (v := 0) hx hb dX9_mayBegin_264 (by decide) ?_
      exact hret _ _ _ () _ _ hg rfl hP hD hS dX9_mayBegin_265
    · have hg := hg.2 c_1
      refine lv_aload_n hx hb dX9_mayBegin_253 rfl (lv_at hl 0 rfl) ?_
      refine va_get (D := G.1) (ci := 7) (v := .int (S0 26 0)) (C := RX9) (T := TX9) (N := 49) hx hb hT iX9 hown hK hP 0 rfl rfl 26 (by decide) (hT _ q_698) (fun _ h9 => h9) rfl dX9_mayBegin_254 ?_
      refine lv_if_eq (tgt := 264) hx hb dX9_mayBegin_257 (by decide) (fun c_2 => ?_) (fun c_2 => ?_)
      · have hg := hg.1 c_2
        refine lv_iconst (v := 0) hx hb dX9_mayBegin_264 (by decide) ?_
        exact hret _ _ _ () _ _ hg rfl hP hD hS dX9_mayBegin_265
      · have hg := hg.2 c_2
        refine lv_iconst (v := 1) hx hb dX9_mayBegin_260 (by decide) ?_
        refine lv_goto (tgt := 265) hx hb dX9_mayBegin_261 (by decide) ?_
        exact hret _ _ _ () _ _ hg rfl hP hD hS dX9_mayBegin_265
  have J182 : ∀ (x2 : Int32) (H : Heap) (locs : List Loc) (ls : Array Slot), G_X9_mayBegin_182 x1 S0 Q x2 → va_P G.1 classes (wX9 G o0 d0 S0) H → va_D A (wX9 G o0 d0 S0) → va_S A s.heap H locs → lv_has ls 3 [(0, .ref o0), (2, .int x2)] → W p l e rm_X9_mayBegin s m args below meth c H locs 0 0 QQ (F0 m 182 ls []) := by
    intro x2 H locs ls hg hP hD hS hl
    refine lv_iload_n hx hb dX9_mayBegin_182 rfl (lv_at hl 1 rfl) ?_
    refine lv_if_eq (tgt := 206) hx hb dX9_mayBegin_183 (by decide) (fun c_1 => ?_) (fun c_1 => ?_)
    · have hg := hg.1 c_1
      refine lv_iconst (v := 0) hx hb dX9_mayBegin_206 (by decide) ?_
      exact hret _ _ _ () _ _ hg rfl hP hD hS dX9_mayBegin_207
    · have hg := hg.2 c_1
      refine lv_aload_n hx hb dX9_mayBegin_186 rfl (lv_at hl 0 rfl) ?_
      refine va_get (D := G.1) (ci := 7) (v := .int (S0 26 0)) (C := RX9) (T := TX9) (N := 49) hx hb hT iX9 hown hK hP 0 rfl rfl 26 (by decide) (hT _ q_698) (fun _ h9 => h9) rfl dX9_mayBegin_187 ?_
      refine lv_if_eq (tgt := 206) hx hb dX9_mayBegin_190 (by decide) (fun c_2 => ?_) (fun c_2 => ?_)
      · have hg := hg.1 c_2
        refine lv_iconst (v := 0) hx hb dX9_mayBegin_206 (by decide) ?_
        exact hret _ _ _ () _ _ hg rfl hP hD hS dX9_mayBegin_207
      · have hg := hg.2 c_2
        refine lv_aload_n hx hb dX9_mayBegin_193 rfl (lv_at hl 0 rfl) ?_
        refine va_get (D := G.1) (ci := 7) (v := .int (S0 24 0)) (C := RX9) (T := TX9) (N := 49) hx hb hT iX9 hown hK hP 0 rfl rfl 24 (by decide) (hT _ q_696) (fun _ h9 => h9) rfl dX9_mayBegin_194 ?_
        refine lv_bipush (v := 24) hx hb dX9_mayBegin_197 (by decide) ?_
        refine lv_icmp_ge (tgt := 206) hx hb dX9_mayBegin_199 (by decide) (fun c_3 => ?_) (fun c_3 => ?_)
        · have hg := hg.1 c_3
          refine lv_iconst (v := 0) hx hb dX9_mayBegin_206 (by decide) ?_
          exact hret _ _ _ () _ _ hg rfl hP hD hS dX9_mayBegin_207
        · have hg := hg.2 c_3
          refine lv_iconst (v := 1) hx hb dX9_mayBegin_202 (by decide) ?_
          refine lv_goto (tgt := 207) hx hb dX9_mayBegin_203 (by decide) ?_
          exact hret _ _ _ () _ _ hg rfl hP hD hS dX9_mayBegin_207
  have J39 : ∀ (t0 : Int32) (H : Heap) (locs : List Loc) (ls : Array Slot), G_X9_mayBegin_39 x1 S0 Q t0 → va_P G.1 classes (wX9 G o0 d0 S0) H → va_D A (wX9 G o0 d0 S0) → va_S A s.heap H locs → lv_has ls 3 [(0, .ref o0), (1, .int x1)] → W p l e rm_X9_mayBegin s m args below meth c H locs 0 0 QQ (F0 m 39 ls [.int t0]) := by
    intro t0 H locs ls hg hP hD hS hl
    refine lv_istore_n (lv' := [(2, .int t0), (0, .ref o0), (1, .int x1)]) hx hb dX9_mayBegin_39 rfl hl (by decide) rfl (fun ls hl => ?_)
    refine lv_iload_n hx hb dX9_mayBegin_40 rfl (lv_at hl 2 rfl) ?_
    by_cases k98 : x1 = 98
    · have hg := hg.1 k98
      refine lv_tableIn (tgt := 156) hx hb dX9_mayBegin_41 (by rw [k98]; decide) (by rw [k98]; decide) (by rw [k98]; rfl) (by decide) ?_
      refine lv_iload_n hx hb dX9_mayBegin_156 rfl (lv_at hl 0 rfl) ?_
      refine lv_if_eq (tgt := 180) hx hb dX9_mayBegin_157 (by decide) (fun c_1 => ?_) (fun c_1 => ?_)
      · have hg := hg.1 c_1
        refine lv_iconst (v := 0) hx hb dX9_mayBegin_180 (by decide) ?_
        exact hret _ _ _ () _ _ hg rfl hP hD hS dX9_mayBegin_181
      · have hg := hg.2 c_1
        refine lv_aload_n hx hb dX9_mayBegin_160 rfl (lv_at hl 1 rfl) ?_
        refine va_get (D := G.1) (ci := 7) (v := .int (S0 26 0)) (C := RX9) (T := TX9) (N := 49) hx hb hT iX9 hown hK hP 0 rfl rfl 26 (by decide) (hT _ q_698) (fun _ h9 => h9) rfl dX9_mayBegin_161 ?_
        refine lv_if_ne (tgt := 180) hx hb dX9_mayBegin_164 (by decide) (fun c_2 => ?_) (fun c_2 => ?_)
        · have hg := hg.2 c_2
          refine lv_iconst (v := 0) hx hb dX9_mayBegin_180 (by decide) ?_
          exact hret _ _ _ () _ _ hg rfl hP hD hS dX9_mayBegin_181
        · have hg := hg.1 c_2
          refine lv_aload_n hx hb dX9_mayBegin_167 rfl (lv_at hl 1 rfl) ?_
          refine va_get (D := G.1) (ci := 7) (v := .int (S0 25 0)) (C := RX9) (T := TX9) (N := 49) hx hb hT iX9 hown hK hP 0 rfl rfl 25 (by decide) (hT _ q_697) (fun _ h9 => h9) rfl dX9_mayBegin_168 ?_
          refine lv_bipush (v := 8) hx hb dX9_mayBegin_171 (by decide) ?_
          refine lv_icmp_ge (tgt := 180) hx hb dX9_mayBegin_173 (by decide) (fun c_3 => ?_) (fun c_3 => ?_)
          · have hg := hg.1 c_3
            refine lv_iconst (v := 0) hx hb dX9_mayBegin_180 (by decide) ?_
            exact hret _ _ _ () _ _ hg rfl hP hD hS dX9_mayBegin_181
          · have hg := hg.2 c_3
            refine lv_iconst (v := 1) hx hb dX9_mayBegin_176 (by decide) ?_
            refine lv_goto (tgt := 181) hx hb dX9_mayBegin_177 (by decide) ?_
            exact hret _ _ _ () _ _ hg rfl hP hD hS dX9_mayBegin_181
    by_cases k99 : x1 = 99
    · have hg := hg.2.2.2.2.2.2.2.2 (by rw [k99]; decide) (by rw [k99]; decide) (by rw [k99]; decide) (by rw [k99]; decide) (by rw [k99]; decide) (by rw [k99]; decide) (by rw [k99]; decide) (by rw [k99]; decide)
      refine lv_tableIn (tgt := 266) hx hb dX9_mayBegin_41 (by rw [k99]; decide) (by rw [k99]; decide) (by rw [k99]; rfl) (by decide) ?_
      refine lv_iconst (v := 0) hx hb dX9_mayBegin_266 (by decide) ?_
      exact hret _ _ _ () _ _ hg rfl hP hD hS dX9_mayBegin_267
    by_cases k100 : x1 = 100
    · have hg := hg.2.2.2.2.2.2.2.2 (by rw [k100]; decide) (by rw [k100]; decide) (by rw [k100]; decide) (by rw [k100]; decide) (by rw [k100]; decide) (by rw [k100]; decide) (by rw [k100]; decide) (by rw [k100]; decide)
      refine lv_tableIn (tgt := 266) hx hb dX9_mayBegin_41 (by rw [k100]; decide) (by rw [k100]; decide) (by rw [k100]; rfl) (by decide) ?_
      refine lv_iconst (v := 0) hx hb dX9_mayBegin_266 (by decide) ?_
      exact hret _ _ _ () _ _ hg rfl hP hD hS dX9_mayBegin_267
    by_cases k101 : x1 = 101
    · have hg := hg.2.2.2.2.2.2.2.2 (by rw [k101]; decide) (by rw [k101]; decide) (by rw [k101]; decide) (by rw [k101]; decide) (by rw [k101]; decide) (by rw [k101]; decide) (by rw [k101]; decide) (by rw [k101]; decide)
      refine lv_tableIn (tgt := 266) hx hb dX9_mayBegin_41 (by rw [k101]; decide) (by rw [k101]; decide) (by rw [k101]; rfl) (by decide) ?_
      refine lv_iconst (v := 0) hx hb dX9_mayBegin_266 (by decide) ?_
      exact hret _ _ _ () _ _ hg rfl hP hD hS dX9_mayBegin_267
    by_cases k102 : x1 = 102
    · have hg := hg.2.2.2.2.2.2.2.2 (by rw [k102]; decide) (by rw [k102]; decide) (by rw [k102]; decide) (by rw [k102]; decide) (by rw [k102]; decide) (by rw [k102]; decide) (by rw [k102]; decide) (by rw [k102]; decide)
      refine lv_tableIn (tgt := 266) hx hb dX9_mayBegin_41 (by rw [k102]; decide) (by rw [k102]; decide) (by rw [k102]; rfl) (by decide) ?_
      refine lv_iconst (v := 0) hx hb dX9_mayBegin_266 (by decide) ?_
      exact hret _ _ _ () _ _ hg rfl hP hD hS dX9_mayBegin_267
    by_cases k103 : x1 = 103
    · have hg := hg.2.1 k103
      refine lv_tableIn (tgt := 249) hx hb dX9_mayBegin_41 (by rw [k103]; decide) (by rw [k103]; decide) (by rw [k103]; rfl) (by decide) ?_
      exact J249 _ _ _ _ hg hP hD hS (lv_sub hl [1, 0] rfl)
    by_cases k104 : x1 = 104
    · have hg := hg.2.2.2.2.2.2.2.2 (by rw [k104]; decide) (by rw [k104]; decide) (by rw [k104]; decide) (by rw [k104]; decide) (by rw [k104]; decide) (by rw [k104]; decide) (by rw [k104]; decide) (by rw [k104]; decide)
      refine lv_tableIn (tgt := 266) hx hb dX9_mayBegin_41 (by rw [k104]; decide) (by rw [k104]; decide) (by rw [k104]; rfl) (by decide) ?_
      refine lv_iconst (v := 0) hx hb dX9_mayBegin_266 (by decide) ?_
      exact hret _ _ _ () _ _ hg rfl hP hD hS dX9_mayBegin_267
    by_cases k105 : x1 = 105
    · have hg := hg.2.2.1 k105
      refine lv_tableIn (tgt := 182) hx hb dX9_mayBegin_41 (by rw [k105]; decide) (by rw [k105]; decide) (by rw [k105]; rfl) (by decide) ?_
      exact J182 _ _ _ _ hg hP hD hS (lv_sub hl [1, 0] rfl)
    by_cases k106 : x1 = 106
    · have hg := hg.2.2.2.1 k106
      refine lv_tableIn (tgt := 208) hx hb dX9_mayBegin_41 (by rw [k106]; decide) (by rw [k106]; decide) (by rw [k106]; rfl) (by decide) ?_
      refine lv_iload_n hx hb dX9_mayBegin_208 rfl (lv_at hl 0 rfl) ?_
      refine lv_if_eq (tgt := 247) hx hb dX9_mayBegin_209 (by decide) (fun c_4 => ?_) (fun c_4 => ?_)
      · have hg := hg.1 c_4
        refine lv_iconst (v := 0) hx hb dX9_mayBegin_247 (by decide) ?_
        exact hret _ _ _ () _ _ hg rfl hP hD hS dX9_mayBegin_248
      · have hg := hg.2 c_4
        refine lv_aload_n hx hb dX9_mayBegin_212 rfl (lv_at hl 1 rfl) ?_
        refine va_get (D := G.1) (ci := 7) (v := .int (S0 26 0)) (C := RX9) (T := TX9) (N := 49) hx hb hT iX9 hown hK hP 0 rfl rfl 26 (by decide) (hT _ q_698) (fun _ h9 => h9) rfl dX9_mayBegin_213 ?_
        refine lv_if_eq (tgt := 247) hx hb dX9_mayBegin_216 (by decide) (fun c_5 => ?_) (fun c_5 => ?_)
        · have hg := hg.1 c_5
          refine lv_iconst (v := 0) hx hb dX9_mayBegin_247 (by decide) ?_
          exact hret _ _ _ () _ _ hg rfl hP hD hS dX9_mayBegin_248
        · have hg := hg.2 c_5
          refine lv_aload_n hx hb dX9_mayBegin_219 rfl (lv_at hl 1 rfl) ?_
          refine va_get (D := G.1) (ci := 7) (v := .int (S0 24 0)) (C := RX9) (T := TX9) (N := 49) hx hb hT iX9 hown hK hP 0 rfl rfl 24 (by decide) (hT _ q_696) (fun _ h9 => h9) rfl dX9_mayBegin_220 ?_
          refine lv_bipush (v := 24) hx hb dX9_mayBegin_223 (by decide) ?_
          refine lv_icmp_ge (tgt := 247) hx hb dX9_mayBegin_225 (by decide) (fun c_6 => ?_) (fun c_6 => ?_)
          · have hg := hg.1 c_6
            refine lv_iconst (v := 0) hx hb dX9_mayBegin_247 (by decide) ?_
            exact hret _ _ _ () _ _ hg rfl hP hD hS dX9_mayBegin_248
          · have hg := hg.2 c_6
            refine lv_aload_n hx hb dX9_mayBegin_228 rfl (lv_at hl 1 rfl) ?_
            refine va_get (D := G.1) (ci := 7) (v := .int (S0 25 0)) (C := RX9) (T := TX9) (N := 49) hx hb hT iX9 hown hK hP 0 rfl rfl 25 (by decide) (hT _ q_697) (fun _ h9 => h9) rfl dX9_mayBegin_229 ?_
            refine lv_iconst (v := 1) hx hb dX9_mayBegin_232 (by decide) ?_
            refine lv_icmp_le (tgt := 247) hx hb dX9_mayBegin_233 (by decide) (fun c_7 => ?_) (fun c_7 => ?_)
            · have hg := hg.1 c_7
              refine lv_iconst (v := 0) hx hb dX9_mayBegin_247 (by decide) ?_
              exact hret _ _ _ () _ _ hg rfl hP hD hS dX9_mayBegin_248
            · have hg := hg.2 c_7
              refine lv_aload_n hx hb dX9_mayBegin_236 rfl (lv_at hl 1 rfl) ?_
              refine zcVi (As := []) (rest := []) (C := RX9) Cx (c_X9_onlyJoins l G o0 d0 S0 _ hg) zv_X9_onlyJoins q_852 ⟨⟨rfl, rfl⟩, Nat.le_of_ble_eq_true rfl, Nat.le_of_ble_eq_true rfl⟩ (zJ.all hP hD hS hA) hS 7 rfl rfl rfl rfl hl.1 rfl (Nat.le_of_ble_eq_true rfl) dX9_mayBegin_237 (fun r_8 _u H locs hg hP hD hS => ?_)
              refine lv_if_eq (tgt := 247) hx hb dX9_mayBegin_240 (by decide) (fun c_9 => ?_) (fun c_9 => ?_)
              · have hg := hg.1 c_9
                refine lv_iconst (v := 0) hx hb dX9_mayBegin_247 (by decide) ?_
                exact hret _ _ _ () _ _ hg rfl hP hD hS dX9_mayBegin_248
              · have hg := hg.2 c_9
                refine lv_iconst (v := 1) hx hb dX9_mayBegin_243 (by decide) ?_
                refine lv_goto (tgt := 248) hx hb dX9_mayBegin_244 (by decide) ?_
                exact hret _ _ _ () _ _ hg rfl hP hD hS dX9_mayBegin_248
    by_cases k107 : x1 = 107
    · have hg := hg.2.2.2.2.1 k107
      refine lv_tableIn (tgt := 182) hx hb dX9_mayBegin_41 (by rw [k107]; decide) (by rw [k107]; decide) (by rw [k107]; rfl) (by decide) ?_
      exact J182 _ _ _ _ hg hP hD hS (lv_sub hl [1, 0] rfl)
    by_cases k108 : x1 = 108
    · have hg := hg.2.2.2.2.2.2.2.2 (by rw [k108]; decide) (by rw [k108]; decide) (by rw [k108]; decide) (by rw [k108]; decide) (by rw [k108]; decide) (by rw [k108]; decide) (by rw [k108]; decide) (by rw [k108]; decide)
      refine lv_tableIn (tgt := 266) hx hb dX9_mayBegin_41 (by rw [k108]; decide) (by rw [k108]; decide) (by rw [k108]; rfl) (by decide) ?_
      refine lv_iconst (v := 0) hx hb dX9_mayBegin_266 (by decide) ?_
      exact hret _ _ _ () _ _ hg rfl hP hD hS dX9_mayBegin_267
    by_cases k109 : x1 = 109
    · have hg := hg.2.2.2.2.2.2.2.2 (by rw [k109]; decide) (by rw [k109]; decide) (by rw [k109]; decide) (by rw [k109]; decide) (by rw [k109]; decide) (by rw [k109]; decide) (by rw [k109]; decide) (by rw [k109]; decide)
      refine lv_tableIn (tgt := 266) hx hb dX9_mayBegin_41 (by rw [k109]; decide) (by rw [k109]; decide) (by rw [k109]; rfl) (by decide) ?_
      refine lv_iconst (v := 0) hx hb dX9_mayBegin_266 (by decide) ?_
      exact hret _ _ _ () _ _ hg rfl hP hD hS dX9_mayBegin_267
    by_cases k110 : x1 = 110
    · have hg := hg.2.2.2.2.2.2.2.2 (by rw [k110]; decide) (by rw [k110]; decide) (by rw [k110]; decide) (by rw [k110]; decide) (by rw [k110]; decide) (by rw [k110]; decide) (by rw [k110]; decide) (by rw [k110]; decide)
      refine lv_tableIn (tgt := 266) hx hb dX9_mayBegin_41 (by rw [k110]; decide) (by rw [k110]; decide) (by rw [k110]; rfl) (by decide) ?_
      refine lv_iconst (v := 0) hx hb dX9_mayBegin_266 (by decide) ?_
      exact hret _ _ _ () _ _ hg rfl hP hD hS dX9_mayBegin_267
    by_cases k111 : x1 = 111
    · have hg := hg.2.2.2.2.2.1 k111
      refine lv_tableIn (tgt := 182) hx hb dX9_mayBegin_41 (by rw [k111]; decide) (by rw [k111]; decide) (by rw [k111]; rfl) (by decide) ?_
      exact J182 _ _ _ _ hg hP hD hS (lv_sub hl [1, 0] rfl)
    by_cases k112 : x1 = 112
    · have hg := hg.2.2.2.2.2.2.2.2 (by rw [k112]; decide) (by rw [k112]; decide) (by rw [k112]; decide) (by rw [k112]; decide) (by rw [k112]; decide) (by rw [k112]; decide) (by rw [k112]; decide) (by rw [k112]; decide)
      refine lv_tableIn (tgt := 266) hx hb dX9_mayBegin_41 (by rw [k112]; decide) (by rw [k112]; decide) (by rw [k112]; rfl) (by decide) ?_
      refine lv_iconst (v := 0) hx hb dX9_mayBegin_266 (by decide) ?_
      exact hret _ _ _ () _ _ hg rfl hP hD hS dX9_mayBegin_267
    by_cases k113 : x1 = 113
    · have hg := hg.2.2.2.2.2.2.1 k113
      refine lv_tableIn (tgt := 249) hx hb dX9_mayBegin_41 (by rw [k113]; decide) (by rw [k113]; decide) (by rw [k113]; rfl) (by decide) ?_
      exact J249 _ _ _ _ hg hP hD hS (lv_sub hl [1, 0] rfl)
    by_cases k114 : x1 = 114
    · have hg := hg.2.2.2.2.2.2.2.2 (by rw [k114]; decide) (by rw [k114]; decide) (by rw [k114]; decide) (by rw [k114]; decide) (by rw [k114]; decide) (by rw [k114]; decide) (by rw [k114]; decide) (by rw [k114]; decide)
      refine lv_tableIn (tgt := 266) hx hb dX9_mayBegin_41 (by rw [k114]; decide) (by rw [k114]; decide) (by rw [k114]; rfl) (by decide) ?_
      refine lv_iconst (v := 0) hx hb dX9_mayBegin_266 (by decide) ?_
      exact hret _ _ _ () _ _ hg rfl hP hD hS dX9_mayBegin_267
    by_cases k115 : x1 = 115
    · have hg := hg.2.2.2.2.2.2.2.2 (by rw [k115]; decide) (by rw [k115]; decide) (by rw [k115]; decide) (by rw [k115]; decide) (by rw [k115]; decide) (by rw [k115]; decide) (by rw [k115]; decide) (by rw [k115]; decide)
      refine lv_tableIn (tgt := 266) hx hb dX9_mayBegin_41 (by rw [k115]; decide) (by rw [k115]; decide) (by rw [k115]; rfl) (by decide) ?_
      refine lv_iconst (v := 0) hx hb dX9_mayBegin_266 (by decide) ?_
      exact hret _ _ _ () _ _ hg rfl hP hD hS dX9_mayBegin_267
    by_cases k116 : x1 = 116
    · have hg := hg.2.2.2.2.2.2.2.2 (by rw [k116]; decide) (by rw [k116]; decide) (by rw [k116]; decide) (by rw [k116]; decide) (by rw [k116]; decide) (by rw [k116]; decide) (by rw [k116]; decide) (by rw [k116]; decide)
      refine lv_tableIn (tgt := 266) hx hb dX9_mayBegin_41 (by rw [k116]; decide) (by rw [k116]; decide) (by rw [k116]; rfl) (by decide) ?_
      refine lv_iconst (v := 0) hx hb dX9_mayBegin_266 (by decide) ?_
      exact hret _ _ _ () _ _ hg rfl hP hD hS dX9_mayBegin_267
    by_cases k117 : x1 = 117
    · have hg := hg.2.2.2.2.2.2.2.2 (by rw [k117]; decide) (by rw [k117]; decide) (by rw [k117]; decide) (by rw [k117]; decide) (by rw [k117]; decide) (by rw [k117]; decide) (by rw [k117]; decide) (by rw [k117]; decide)
      refine lv_tableIn (tgt := 266) hx hb dX9_mayBegin_41 (by rw [k117]; decide) (by rw [k117]; decide) (by rw [k117]; rfl) (by decide) ?_
      refine lv_iconst (v := 0) hx hb dX9_mayBegin_266 (by decide) ?_
      exact hret _ _ _ () _ _ hg rfl hP hD hS dX9_mayBegin_267
    by_cases k118 : x1 = 118
    · have hg := hg.2.2.2.2.2.2.2.2 (by rw [k118]; decide) (by rw [k118]; decide) (by rw [k118]; decide) (by rw [k118]; decide) (by rw [k118]; decide) (by rw [k118]; decide) (by rw [k118]; decide) (by rw [k118]; decide)
      refine lv_tableIn (tgt := 266) hx hb dX9_mayBegin_41 (by rw [k118]; decide) (by rw [k118]; decide) (by rw [k118]; rfl) (by decide) ?_
      refine lv_iconst (v := 0) hx hb dX9_mayBegin_266 (by decide) ?_
      exact hret _ _ _ () _ _ hg rfl hP hD hS dX9_mayBegin_267
    by_cases k119 : x1 = 119
    · have hg := hg.2.2.2.2.2.2.2.2 (by rw [k119]; decide) (by rw [k119]; decide) (by rw [k119]; decide) (by rw [k119]; decide) (by rw [k119]; decide) (by rw [k119]; decide) (by rw [k119]; decide) (by rw [k119]; decide)
      refine lv_tableIn (tgt := 266) hx hb dX9_mayBegin_41 (by rw [k119]; decide) (by rw [k119]; decide) (by rw [k119]; rfl) (by decide) ?_
      refine lv_iconst (v := 0) hx hb dX9_mayBegin_266 (by decide) ?_
      exact hret _ _ _ () _ _ hg rfl hP hD hS dX9_mayBegin_267
    by_cases k120 : x1 = 120
    · have hg := hg.2.2.2.2.2.2.2.2 (by rw [k120]; decide) (by rw [k120]; decide) (by rw [k120]; decide) (by rw [k120]; decide) (by rw [k120]; decide) (by rw [k120]; decide) (by rw [k120]; decide) (by rw [k120]; decide)
      refine lv_tableIn (tgt := 266) hx hb dX9_mayBegin_41 (by rw [k120]; decide) (by rw [k120]; decide) (by rw [k120]; rfl) (by decide) ?_
      refine lv_iconst (v := 0) hx hb dX9_mayBegin_266 (by decide) ?_
      exact hret _ _ _ () _ _ hg rfl hP hD hS dX9_mayBegin_267
    by_cases k121 : x1 = 121
    · have hg := hg.2.2.2.2.2.2.2.2 (by rw [k121]; decide) (by rw [k121]; decide) (by rw [k121]; decide) (by rw [k121]; decide) (by rw [k121]; decide) (by rw [k121]; decide) (by rw [k121]; decide) (by rw [k121]; decide)
      refine lv_tableIn (tgt := 266) hx hb dX9_mayBegin_41 (by rw [k121]; decide) (by rw [k121]; decide) (by rw [k121]; rfl) (by decide) ?_
      refine lv_iconst (v := 0) hx hb dX9_mayBegin_266 (by decide) ?_
      exact hret _ _ _ () _ _ hg rfl hP hD hS dX9_mayBegin_267
    by_cases k122 : x1 = 122
    · have hg := hg.2.2.2.2.2.2.2.1 k122
      refine lv_tableIn (tgt := 249) hx hb dX9_mayBegin_41 (by rw [k122]; decide) (by rw [k122]; decide) (by rw [k122]; rfl) (by decide) ?_
      exact J249 _ _ _ _ hg hP hD hS (lv_sub hl [1, 0] rfl)
    have hg := hg.2.2.2.2.2.2.2.2 k98 k103 k105 k106 k107 k111 k113 k122
    have nk98 := lv_neT k98 (a := 98) (by decide)
    have nk99 := lv_neT k99 (a := 99) (by decide)
    have nk100 := lv_neT k100 (a := 100) (by decide)
    have nk101 := lv_neT k101 (a := 101) (by decide)
    have nk102 := lv_neT k102 (a := 102) (by decide)
    have nk103 := lv_neT k103 (a := 103) (by decide)
    have nk104 := lv_neT k104 (a := 104) (by decide)
    have nk105 := lv_neT k105 (a := 105) (by decide)
    have nk106 := lv_neT k106 (a := 106) (by decide)
    have nk107 := lv_neT k107 (a := 107) (by decide)
    have nk108 := lv_neT k108 (a := 108) (by decide)
    have nk109 := lv_neT k109 (a := 109) (by decide)
    have nk110 := lv_neT k110 (a := 110) (by decide)
    have nk111 := lv_neT k111 (a := 111) (by decide)
    have nk112 := lv_neT k112 (a := 112) (by decide)
    have nk113 := lv_neT k113 (a := 113) (by decide)
    have nk114 := lv_neT k114 (a := 114) (by decide)
    have nk115 := lv_neT k115 (a := 115) (by decide)
    have nk116 := lv_neT k116 (a := 116) (by decide)
    have nk117 := lv_neT k117 (a := 117) (by decide)
    have nk118 := lv_neT k118 (a := 118) (by decide)
    have nk119 := lv_neT k119 (a := 119) (by decide)
    have nk120 := lv_neT k120 (a := 120) (by decide)
    have nk121 := lv_neT k121 (a := 121) (by decide)
    have nk122 := lv_neT k122 (a := 122) (by decide)
    refine lv_tableOut (tgt := 266) hx hb dX9_mayBegin_41 (by omega) (by decide) ?_
    refine lv_iconst (v := 0) hx hb dX9_mayBegin_266 (by decide) ?_
    exact hret _ _ _ () _ _ hg rfl hP hD hS dX9_mayBegin_267
  have J34 : ∀ (H : Heap) (locs : List Loc) (ls : Array Slot), G_X9_mayBegin_34 x1 S0 Q  → va_P G.1 classes (wX9 G o0 d0 S0) H → va_D A (wX9 G o0 d0 S0) → va_S A s.heap H locs → lv_has ls 3 [(0, .ref o0), (1, .int x1)] → W p l e rm_X9_mayBegin s m args below meth c H locs 0 0 QQ (F0 m 34 ls []) := by
    intro  H locs ls hg hP hD hS hl
    refine lv_iconst (v := 1) hx hb dX9_mayBegin_34 (by decide) ?_
    refine lv_goto (tgt := 39) hx hb dX9_mayBegin_35 (by decide) ?_
    exact J39 _ _ _ _ hg hP hD hS (lv_sub hl [0, 1] rfl)
  refine lv_aload_n hx hb dX9_mayBegin_0 rfl (lv_at hl 0 rfl) ?_
  refine va_get (D := G.1) (ci := 7) (v := .int (S0 22 0)) (C := RX9) (T := TX9) (N := 49) hx hb hT iX9 hown hK hP 0 rfl rfl 22 (by decide) (hT _ q_694) (fun _ h9 => h9) rfl dX9_mayBegin_1 ?_
  refine lv_iconst (v := 1) hx hb dX9_mayBegin_4 (by decide) ?_
  refine lv_iadd hx hb dX9_mayBegin_5 ?_
  refine lv_aload_n hx hb dX9_mayBegin_6 rfl (lv_at hl 0 rfl) ?_
  refine va_get (D := G.1) (ci := 7) (v := .int (S0 1 0)) (C := RX9) (T := TX9) (N := 49) hx hb hT iX9 hown hK hP 0 rfl rfl 1 (by decide) (hT _ q_673) (fun _ h9 => h9) rfl dX9_mayBegin_7 ?_
  refine lv_icmp_ge (tgt := 34) hx hb dX9_mayBegin_10 (by decide) (fun c_1 => ?_) (fun c_1 => ?_)
  · have hg := hg.1 c_1
    exact J34  _ _ _ hg hP hD hS (lv_sub hl [0, 1] rfl)
  · have hg := hg.2 c_1
    refine lv_aload_n hx hb dX9_mayBegin_13 rfl (lv_at hl 0 rfl) ?_
    refine va_get (D := G.1) (ci := 7) (v := .ref (d0 0)) (C := RX9) (T := TX9) (N := 49) hx hb hT iX9 hown hK hP 0 rfl rfl 0 (by decide) (hT _ q_672) (fun _ h9 => h9) rfl dX9_mayBegin_14 ?_
    refine lv_aload_n hx hb dX9_mayBegin_17 rfl (lv_at hl 0 rfl) ?_
    refine va_get (D := G.1) (ci := 7) (v := .int (S0 22 0)) (C := RX9) (T := TX9) (N := 49) hx hb hT iX9 hown hK hP 0 rfl rfl 22 (by decide) (hT _ q_694) (fun _ h9 => h9) rfl dX9_mayBegin_18 ?_
    refine lv_iconst (v := 1) hx hb dX9_mayBegin_21 (by decide) ?_
    refine lv_iadd hx hb dX9_mayBegin_22 ?_
    refine va_iald hx hb hK hP 1 0 rfl rfl hg.1 dX9_mayBegin_23 ?_
    have hg := hg.2
    refine lv_bipush (v := 97) hx hb dX9_mayBegin_24 (by decide) ?_
    refine lv_bipush (v := 122) hx hb dX9_mayBegin_26 (by decide) ?_
    refine zcSi (As := [.int (S0 0 ((S0 22 0) + 1).toNatClampNeg), .int 97, .int 122]) (rest := []) Cx (c_X9_in l G (S0 0 ((S0 22 0) + 1).toNatClampNeg) 97 122 _ hg) zv_X9_in q_825 ⟨⟨rfl, rfl⟩, Nat.le_of_ble_eq_true rfl, Nat.le_of_ble_eq_true rfl⟩ (zJ.none (S := Unit) hP hD hS hA) hS rfl hl.1 rfl (Nat.le_of_ble_eq_true rfl) dX9_mayBegin_28 (fun r_2 _u H locs hg hP hD hS => ?_)
    refine lv_if_ne (tgt := 38) hx hb dX9_mayBegin_31 (by decide) (fun c_3 => ?_) (fun c_3 => ?_)
    · have hg := hg.2 c_3
      refine lv_iconst (v := 0) hx hb dX9_mayBegin_38 (by decide) ?_
      exact J39 _ _ _ _ hg hP hD hS (lv_sub hl [0, 1] rfl)
    · have hg := hg.1 c_3
      exact J34  _ _ _ hg hP hD hS (lv_sub hl [0, 1] rfl)
theorem zv_X9_readsItem : zV yX9_readsItem RX9 cX9_readsItem 2 none 0 := ⟨q_846, qp_3, q_8, q_847, by decide +kernel⟩
set_option maxHeartbeats 4000000 in
set_option maxRecDepth 100000 in
theorem c_X9_readsItem (l : Launch) (G : ZG) (o0 : Nat) (d0 : Nat → Nat) (S0 : ZS) (Q : ZS → Prop) (hg : g_X9_readsItem S0 Q) : Kv l G yX9_readsItem cX9_readsItem 2 rm_X9_readsItem [.ref o0] (wX9 G o0 d0 S0) (fun u : ZS => wX9 G o0 d0 u) (fun u => Q u) := by
  refine Kv.of (by decide) (Nat.le_of_ble_eq_true rfl) ?_
  intro p e s m args below meth c A QQ ls Cx hret hl hP hD hS
  obtain ⟨hx, hb, hml, hown, hT, hK, hA⟩ := id Cx
  have hl : lv_has ls 2 [(0, .ref o0)] := hl
  have J206 : ∀ (x1 : Int32) (S0 : ZS) (H : Heap) (locs : List Loc) (ls : Array Slot), G_X9_readsItem_206 Q x1 S0 → va_P G.1 classes (wX9 G o0 d0 S0) H → va_D A (wX9 G o0 d0 S0) → va_S A s.heap H locs → lv_has ls 2 [(0, .ref o0), (1, .int x1)] → W p l e rm_X9_readsItem s m args below meth c H locs 0 0 QQ (F0 m 206 ls []) := by
    intro x1 S0 H locs ls hg hP hD hS hl
    refine lv_aload_n hx hb dX9_readsItem_206 rfl (lv_at hl 0 rfl) ?_
    refine lv_iload_n hx hb dX9_readsItem_207 rfl (lv_at hl 1 rfl) ?_
    refine zcVv (As := [.int x1]) (rest := []) (C := RX9) Cx (c_X9_readsEnd l G o0 d0 x1 S0 _ hg) zv_X9_readsEnd q_879 ⟨⟨rfl, rfl⟩, Nat.le_of_ble_eq_true rfl, Nat.le_of_ble_eq_true rfl⟩ (zJ.all hP hD hS hA) hS 7 rfl rfl rfl rfl hl.1 rfl (Nat.le_of_ble_eq_true rfl) dX9_readsItem_208 (fun S0_1 H locs hg hP hD hS => ?_)
    have hP : va_P G.1 classes (wX9 G o0 d0 S0_1) H := hP
    have hD : va_D A (wX9 G o0 d0 S0_1) := hD
    exact hret _ _ (S0_1) _ _ hg hP hD hS dX9_readsItem_211
  have J19 : ∀ (x1 : Int32) (t1 : Int32) (S0 : ZS) (H : Heap) (locs : List Loc) (ls : Array Slot), G_X9_readsItem_19 Q x1 t1 S0 → va_P G.1 classes (wX9 G o0 d0 S0) H → va_D A (wX9 G o0 d0 S0) → va_S A s.heap H locs → lv_has ls 2 [(0, .ref o0), (1, .int x1)] → W p l e rm_X9_readsItem s m args below meth c H locs 0 0 QQ (F0 m 19 ls [.int t1, .ref o0]) := by
    intro x1 t1 S0 H locs ls hg hP hD hS hl
    refine z_put (D := G.1) (ci := 7) (v := .int t1) (ty := .boolean) (C := RX9) (T := TX9) (N := 49) hx hb hT iX9 tyX9 tyX9_ok nmX9 hown hK hP hD hS 0 rfl rfl 23 (by decide) (hT _ q_695) (fun _ h9 => h9) rfl (by decide +kernel) hg.1.nar hg.1.fit (Nat.le_of_ble_eq_true rfl) dX9_readsItem_19 (zst S0 23 0 t1) (fun S : ZS => wX9 G o0 d0 S) rfl (fun S0_1 H locs eS0_1 hP hD hS => ?_)
    have hg := hg.2 S0_1 eS0_1
    refine lv_aload_n hx hb dX9_readsItem_22 rfl (lv_at hl 0 rfl) ?_
    refine va_get (D := G.1) (ci := 7) (v := .int (S0_1 23 0)) (C := RX9) (T := TX9) (N := 49) hx hb hT iX9 hown hK hP 0 rfl rfl 23 (by decide) (hT _ q_695) (fun _ h9 => h9) rfl dX9_readsItem_23 ?_
    refine lv_if_eq (tgt := 30) hx hb dX9_readsItem_26 (by decide) (fun c_2 => ?_) (fun c_2 => ?_)
    · have hg := hg.1 c_2
      refine lv_aload_n hx hb dX9_readsItem_30 rfl (lv_at hl 0 rfl) ?_
      refine lv_dup hx hb dX9_readsItem_31 rfl ?_
      refine va_get (D := G.1) (ci := 7) (v := .int (S0_1 22 0)) (C := RX9) (T := TX9) (N := 49) hx hb hT iX9 hown hK hP 0 rfl rfl 22 (by decide) (hT _ q_694) (fun _ h9 => h9) rfl dX9_readsItem_32 ?_
      refine lv_iconst (v := 1) hx hb dX9_readsItem_35 (by decide) ?_
      refine lv_iadd hx hb dX9_readsItem_36 ?_
      refine z_put (D := G.1) (ci := 7) (v := .int ((S0_1 22 0) + 1)) (ty := .int) (C := RX9) (T := TX9) (N := 49) hx hb hT iX9 tyX9 tyX9_ok nmX9 hown hK hP hD hS 0 rfl rfl 22 (by decide) (hT _ q_694) (fun _ h9 => h9) rfl (by decide +kernel) rfl rfl (Nat.le_of_ble_eq_true rfl) dX9_readsItem_37 (zst S0_1 22 0 ((S0_1 22 0) + 1)) (fun S : ZS => wX9 G o0 d0 S) rfl (fun S0_3 H locs eS0_3 hP hD hS => ?_)
      have hg := hg S0_3 eS0_3
      refine lv_iload_n hx hb dX9_readsItem_40 rfl (lv_at hl 1 rfl) ?_
      by_cases k98 : x1 = 98
      · have hg := hg.1 k98
        refine lv_tableIn (tgt := 112) hx hb dX9_readsItem_41 (by rw [k98]; decide) (by rw [k98]; decide) (by rw [k98]; rfl) (by decide) ?_
        refine lv_aload_n hx hb dX9_readsItem_112 rfl (lv_at hl 0 rfl) ?_
        refine va_get (D := G.1) (ci := 7) (v := .ref (d0 35)) (C := RX9) (T := TX9) (N := 49) hx hb hT iX9 hown hK hP 0 rfl rfl 35 (by decide) (hT _ q_707) (fun _ h9 => h9) rfl dX9_readsItem_113 ?_
        refine lv_aload_n hx hb dX9_readsItem_116 rfl (lv_at hl 0 rfl) ?_
        refine va_get (D := G.1) (ci := 7) (v := .int (S0_3 25 0)) (C := RX9) (T := TX9) (N := 49) hx hb hT iX9 hown hK hP 0 rfl rfl 25 (by decide) (hT _ q_697) (fun _ h9 => h9) rfl dX9_readsItem_117 ?_
        refine lv_aload_n hx hb dX9_readsItem_120 rfl (lv_at hl 0 rfl) ?_
        refine va_get (D := G.1) (ci := 7) (v := .int (S0_3 24 0)) (C := RX9) (T := TX9) (N := 49) hx hb hT iX9 hown hK hP 0 rfl rfl 24 (by decide) (hT _ q_696) (fun _ h9 => h9) rfl dX9_readsItem_121 ?_
        refine z_iast hx hb hK hP hD hS 26 0 rfl rfl hg.1 dX9_readsItem_124 (zst S0_3 35 (S0_3 25 0).toNatClampNeg (S0_3 24 0)) (fun S : ZS => wX9 G o0 d0 S) rfl (fun S0_4 H locs eS0_4 hP hD hS => ?_)
        have hg := hg.2 S0_4 eS0_4
        refine lv_aload_n hx hb dX9_readsItem_125 rfl (lv_at hl 0 rfl) ?_
        refine lv_dup hx hb dX9_readsItem_126 rfl ?_
        refine va_get (D := G.1) (ci := 7) (v := .int (S0_4 25 0)) (C := RX9) (T := TX9) (N := 49) hx hb hT iX9 hown hK hP 0 rfl rfl 25 (by decide) (hT _ q_697) (fun _ h9 => h9) rfl dX9_readsItem_127 ?_
        refine lv_iconst (v := 1) hx hb dX9_readsItem_130 (by decide) ?_
        refine lv_iadd hx hb dX9_readsItem_131 ?_
        refine z_put (D := G.1) (ci := 7) (v := .int ((S0_4 25 0) + 1)) (ty := .int) (C := RX9) (T := TX9) (N := 49) hx hb hT iX9 tyX9 tyX9_ok nmX9 hown hK hP hD hS 0 rfl rfl 25 (by decide) (hT _ q_697) (fun _ h9 => h9) rfl (by decide +kernel) rfl rfl (Nat.le_of_ble_eq_true rfl) dX9_readsItem_132 (zst S0_4 25 0 ((S0_4 25 0) + 1)) (fun S : ZS => wX9 G o0 d0 S) rfl (fun S0_5 H locs eS0_5 hP hD hS => ?_)
        have hg := hg S0_5 eS0_5
        refine lv_aload_n hx hb dX9_readsItem_135 rfl (lv_at hl 0 rfl) ?_
        refine lv_iconst (v := 1) hx hb dX9_readsItem_136 (by decide) ?_
        refine z_put (D := G.1) (ci := 7) (v := .int 1) (ty := .boolean) (C := RX9) (T := TX9) (N := 49) hx hb hT iX9 tyX9 tyX9_ok nmX9 hown hK hP hD hS 0 rfl rfl 26 (by decide) (hT _ q_698) (fun _ h9 => h9) rfl (by decide +kernel) rfl rfl (Nat.le_of_ble_eq_true rfl) dX9_readsItem_137 (zst S0_5 26 0 1) (fun S : ZS => wX9 G o0 d0 S) rfl (fun S0_6 H locs eS0_6 hP hD hS => ?_)
        have hg := hg S0_6 eS0_6
        refine lv_aload_n hx hb dX9_readsItem_140 rfl (lv_at hl 0 rfl) ?_
        refine zcVv (As := []) (rest := []) (C := RX9) Cx (c_X9_closes l G o0 d0 S0_6 _ hg) zv_X9_closes q_856 ⟨⟨rfl, rfl⟩, Nat.le_of_ble_eq_true rfl, Nat.le_of_ble_eq_true rfl⟩ (zJ.all hP hD hS hA) hS 7 rfl rfl rfl rfl hl.1 rfl (Nat.le_of_ble_eq_true rfl) dX9_readsItem_141 (fun S0_7 H locs hg hP hD hS => ?_)
        have hP : va_P G.1 classes (wX9 G o0 d0 S0_7) H := hP
        have hD : va_D A (wX9 G o0 d0 S0_7) := hD
        refine lv_goto (tgt := 211) hx hb dX9_readsItem_144 (by decide) ?_
        exact hret _ _ (S0_7) _ _ hg hP hD hS dX9_readsItem_211
      by_cases k99 : x1 = 99
      · have hg := hg.2.2.2.2.2 (by rw [k99]; decide) (by rw [k99]; decide) (by rw [k99]; decide) (by rw [k99]; decide) (by rw [k99]; decide)
        refine lv_tableIn (tgt := 206) hx hb dX9_readsItem_41 (by rw [k99]; decide) (by rw [k99]; decide) (by rw [k99]; rfl) (by decide) ?_
        exact J206 _ _ _ _ _ hg hP hD hS (lv_sub hl [0, 1] rfl)
      by_cases k100 : x1 = 100
      · have hg := hg.2.2.2.2.2 (by rw [k100]; decide) (by rw [k100]; decide) (by rw [k100]; decide) (by rw [k100]; decide) (by rw [k100]; decide)
        refine lv_tableIn (tgt := 206) hx hb dX9_readsItem_41 (by rw [k100]; decide) (by rw [k100]; decide) (by rw [k100]; rfl) (by decide) ?_
        exact J206 _ _ _ _ _ hg hP hD hS (lv_sub hl [0, 1] rfl)
      by_cases k101 : x1 = 101
      · have hg := hg.2.2.2.2.2 (by rw [k101]; decide) (by rw [k101]; decide) (by rw [k101]; decide) (by rw [k101]; decide) (by rw [k101]; decide)
        refine lv_tableIn (tgt := 206) hx hb dX9_readsItem_41 (by rw [k101]; decide) (by rw [k101]; decide) (by rw [k101]; rfl) (by decide) ?_
        exact J206 _ _ _ _ _ hg hP hD hS (lv_sub hl [0, 1] rfl)
      by_cases k102 : x1 = 102
      · have hg := hg.2.2.2.2.2 (by rw [k102]; decide) (by rw [k102]; decide) (by rw [k102]; decide) (by rw [k102]; decide) (by rw [k102]; decide)
        refine lv_tableIn (tgt := 206) hx hb dX9_readsItem_41 (by rw [k102]; decide) (by rw [k102]; decide) (by rw [k102]; rfl) (by decide) ?_
        exact J206 _ _ _ _ _ hg hP hD hS (lv_sub hl [0, 1] rfl)
      by_cases k103 : x1 = 103
      · have hg := hg.2.2.2.2.2 (by rw [k103]; decide) (by rw [k103]; decide) (by rw [k103]; decide) (by rw [k103]; decide) (by rw [k103]; decide)
        refine lv_tableIn (tgt := 206) hx hb dX9_readsItem_41 (by rw [k103]; decide) (by rw [k103]; decide) (by rw [k103]; rfl) (by decide) ?_
        exact J206 _ _ _ _ _ hg hP hD hS (lv_sub hl [0, 1] rfl)
      by_cases k104 : x1 = 104
      · have hg := hg.2.2.2.2.2 (by rw [k104]; decide) (by rw [k104]; decide) (by rw [k104]; decide) (by rw [k104]; decide) (by rw [k104]; decide)
        refine lv_tableIn (tgt := 206) hx hb dX9_readsItem_41 (by rw [k104]; decide) (by rw [k104]; decide) (by rw [k104]; rfl) (by decide) ?_
        exact J206 _ _ _ _ _ hg hP hD hS (lv_sub hl [0, 1] rfl)
      by_cases k105 : x1 = 105
      · have hg := hg.2.1 k105
        refine lv_tableIn (tgt := 180) hx hb dX9_readsItem_41 (by rw [k105]; decide) (by rw [k105]; decide) (by rw [k105]; rfl) (by decide) ?_
        refine lv_aload_n hx hb dX9_readsItem_180 rfl (lv_at hl 0 rfl) ?_
        refine lv_iconst (v := 1) hx hb dX9_readsItem_181 (by decide) ?_
        refine zcVv (As := [.int 1]) (rest := []) (C := RX9) Cx (c_X9_startsName l G o0 d0 1 S0_3 _ hg) zv_X9_startsName q_860 ⟨⟨rfl, rfl⟩, Nat.le_of_ble_eq_true rfl, Nat.le_of_ble_eq_true rfl⟩ (zJ.all hP hD hS hA) hS 7 rfl rfl rfl rfl hl.1 rfl (Nat.le_of_ble_eq_true rfl) dX9_readsItem_182 (fun S0_8 H locs hg hP hD hS => ?_)
        have hP : va_P G.1 classes (wX9 G o0 d0 S0_8) H := hP
        have hD : va_D A (wX9 G o0 d0 S0_8) := hD
        refine lv_aload_n hx hb dX9_readsItem_185 rfl (lv_at hl 0 rfl) ?_
        refine zcVv (As := []) (rest := []) (C := RX9) Cx (c_X9_closes l G o0 d0 S0_8 _ hg) zv_X9_closes q_856 ⟨⟨rfl, rfl⟩, Nat.le_of_ble_eq_true rfl, Nat.le_of_ble_eq_true rfl⟩ (zJ.all hP hD hS hA) hS 7 rfl rfl rfl rfl hl.1 rfl (Nat.le_of_ble_eq_true rfl) dX9_readsItem_186 (fun S0_9 H locs hg hP hD hS => ?_)
        have hP : va_P G.1 classes (wX9 G o0 d0 S0_9) H := hP
        have hD : va_D A (wX9 G o0 d0 S0_9) := hD
        refine lv_goto (tgt := 211) hx hb dX9_readsItem_189 (by decide) ?_
        exact hret _ _ (S0_9) _ _ hg hP hD hS dX9_readsItem_211
      by_cases k106 : x1 = 106
      · have hg := hg.2.2.1 k106
        refine lv_tableIn (tgt := 199) hx hb dX9_readsItem_41 (by rw [k106]; decide) (by rw [k106]; decide) (by rw [k106]; rfl) (by decide) ?_
        refine lv_aload_n hx hb dX9_readsItem_199 rfl (lv_at hl 0 rfl) ?_
        refine zcVv (As := []) (rest := []) (C := RX9) Cx (c_X9_readsJoin l G o0 d0 S0_3 _ hg) zv_X9_readsJoin q_875 ⟨⟨rfl, rfl⟩, Nat.le_of_ble_eq_true rfl, Nat.le_of_ble_eq_true rfl⟩ (zJ.all hP hD hS hA) hS 7 rfl rfl rfl rfl hl.1 rfl (Nat.le_of_ble_eq_true rfl) dX9_readsItem_200 (fun S0_10 H locs hg hP hD hS => ?_)
        have hP : va_P G.1 classes (wX9 G o0 d0 S0_10) H := hP
        have hD : va_D A (wX9 G o0 d0 S0_10) := hD
        refine lv_goto (tgt := 211) hx hb dX9_readsItem_203 (by decide) ?_
        exact hret _ _ (S0_10) _ _ hg hP hD hS dX9_readsItem_211
      by_cases k107 : x1 = 107
      · have hg := hg.2.2.2.1 k107
        refine lv_tableIn (tgt := 147) hx hb dX9_readsItem_41 (by rw [k107]; decide) (by rw [k107]; decide) (by rw [k107]; rfl) (by decide) ?_
        refine lv_aload_n hx hb dX9_readsItem_147 rfl (lv_at hl 0 rfl) ?_
        refine lv_iconst (v := 0) hx hb dX9_readsItem_148 (by decide) ?_
        refine zcVv (As := [.int 0]) (rest := []) (C := RX9) Cx (c_X9_startsName l G o0 d0 0 S0_3 _ hg) zv_X9_startsName q_860 ⟨⟨rfl, rfl⟩, Nat.le_of_ble_eq_true rfl, Nat.le_of_ble_eq_true rfl⟩ (zJ.all hP hD hS hA) hS 7 rfl rfl rfl rfl hl.1 rfl (Nat.le_of_ble_eq_true rfl) dX9_readsItem_149 (fun S0_11 H locs hg hP hD hS => ?_)
        have hP : va_P G.1 classes (wX9 G o0 d0 S0_11) H := hP
        have hD : va_D A (wX9 G o0 d0 S0_11) := hD
        refine lv_aload_n hx hb dX9_readsItem_152 rfl (lv_at hl 0 rfl) ?_
        refine va_get (D := G.1) (ci := 7) (v := .ref (d0 38)) (C := RX9) (T := TX9) (N := 49) hx hb hT iX9 hown hK hP 0 rfl rfl 38 (by decide) (hT _ q_710) (fun _ h9 => h9) rfl dX9_readsItem_153 ?_
        refine lv_bipush (v := 72) hx hb dX9_readsItem_156 (by decide) ?_
        refine lv_aload_n hx hb dX9_readsItem_158 rfl (lv_at hl 0 rfl) ?_
        refine va_get (D := G.1) (ci := 7) (v := .int (S0_11 24 0)) (C := RX9) (T := TX9) (N := 49) hx hb hT iX9 hown hK hP 0 rfl rfl 24 (by decide) (hT _ q_696) (fun _ h9 => h9) rfl dX9_readsItem_159 ?_
        refine lv_iadd hx hb dX9_readsItem_162 ?_
        refine lv_iconst (v := 1) hx hb dX9_readsItem_163 (by decide) ?_
        refine lv_isub hx hb dX9_readsItem_164 ?_
        refine lv_aload_n hx hb dX9_readsItem_165 rfl (lv_at hl 0 rfl) ?_
        refine lv_sipush (v := 999) hx hb dX9_readsItem_166 (by decide) ?_
        refine zcVi (As := [.int 999]) (rest := [.int ((72 + (S0_11 24 0)) - 1), .ref (d0 38)]) (C := RX9) Cx (c_X9_numeral l G o0 d0 999 S0_11 _ hg) zv_X9_numeral q_864 ⟨⟨rfl, rfl⟩, Nat.le_of_ble_eq_true rfl, Nat.le_of_ble_eq_true rfl⟩ (zJ.all hP hD hS hA) hS 7 rfl rfl rfl rfl hl.1 rfl (Nat.le_of_ble_eq_true rfl) dX9_readsItem_169 (fun r_13 S0_12 H locs hg hP hD hS => ?_)
        have hP : va_P G.1 classes (wX9 G o0 d0 S0_12) H := hP
        have hD : va_D A (wX9 G o0 d0 S0_12) := hD
        refine z_iast hx hb hK hP hD hS 29 0 rfl rfl hg.1 dX9_readsItem_172 (zst S0_12 38 ((72 + (S0_11 24 0)) - 1).toNatClampNeg r_13) (fun S : ZS => wX9 G o0 d0 S) rfl (fun S0_14 H locs eS0_14 hP hD hS => ?_)
        have hg := hg.2 S0_14 eS0_14
        refine lv_aload_n hx hb dX9_readsItem_173 rfl (lv_at hl 0 rfl) ?_
        refine zcVv (As := []) (rest := []) (C := RX9) Cx (c_X9_closes l G o0 d0 S0_14 _ hg) zv_X9_closes q_856 ⟨⟨rfl, rfl⟩, Nat.le_of_ble_eq_true rfl, Nat.le_of_ble_eq_true rfl⟩ (zJ.all hP hD hS hA) hS 7 rfl rfl rfl rfl hl.1 rfl (Nat.le_of_ble_eq_true rfl) dX9_readsItem_174 (fun S0_15 H locs hg hP hD hS => ?_)
        have hP : va_P G.1 classes (wX9 G o0 d0 S0_15) H := hP
        have hD : va_D A (wX9 G o0 d0 S0_15) := hD
        refine lv_goto (tgt := 211) hx hb dX9_readsItem_177 (by decide) ?_
        exact hret _ _ (S0_15) _ _ hg hP hD hS dX9_readsItem_211
      by_cases k108 : x1 = 108
      · have hg := hg.2.2.2.2.2 (by rw [k108]; decide) (by rw [k108]; decide) (by rw [k108]; decide) (by rw [k108]; decide) (by rw [k108]; decide)
        refine lv_tableIn (tgt := 206) hx hb dX9_readsItem_41 (by rw [k108]; decide) (by rw [k108]; decide) (by rw [k108]; rfl) (by decide) ?_
        exact J206 _ _ _ _ _ hg hP hD hS (lv_sub hl [0, 1] rfl)
      by_cases k109 : x1 = 109
      · have hg := hg.2.2.2.2.2 (by rw [k109]; decide) (by rw [k109]; decide) (by rw [k109]; decide) (by rw [k109]; decide) (by rw [k109]; decide)
        refine lv_tableIn (tgt := 206) hx hb dX9_readsItem_41 (by rw [k109]; decide) (by rw [k109]; decide) (by rw [k109]; rfl) (by decide) ?_
        exact J206 _ _ _ _ _ hg hP hD hS (lv_sub hl [0, 1] rfl)
      by_cases k110 : x1 = 110
      · have hg := hg.2.2.2.2.2 (by rw [k110]; decide) (by rw [k110]; decide) (by rw [k110]; decide) (by rw [k110]; decide) (by rw [k110]; decide)
        refine lv_tableIn (tgt := 206) hx hb dX9_readsItem_41 (by rw [k110]; decide) (by rw [k110]; decide) (by rw [k110]; rfl) (by decide) ?_
        exact J206 _ _ _ _ _ hg hP hD hS (lv_sub hl [0, 1] rfl)
      by_cases k111 : x1 = 111
      · have hg := hg.2.2.2.2.1 k111
        refine lv_tableIn (tgt := 192) hx hb dX9_readsItem_41 (by rw [k111]; decide) (by rw [k111]; decide) (by rw [k111]; rfl) (by decide) ?_
        refine lv_aload_n hx hb dX9_readsItem_192 rfl (lv_at hl 0 rfl) ?_
        refine zcVv (As := []) (rest := []) (C := RX9) Cx (c_X9_readsOperation l G o0 d0 S0_3 _ hg) zv_X9_readsOperation q_868 ⟨⟨rfl, rfl⟩, Nat.le_of_ble_eq_true rfl, Nat.le_of_ble_eq_true rfl⟩ (zJ.all hP hD hS hA) hS 7 rfl rfl rfl rfl hl.1 rfl (Nat.le_of_ble_eq_true rfl) dX9_readsItem_193 (fun S0_16 H locs hg hP hD hS => ?_)
        have hP : va_P G.1 classes (wX9 G o0 d0 S0_16) H := hP
        have hD : va_D A (wX9 G o0 d0 S0_16) := hD
        refine lv_goto (tgt := 211) hx hb dX9_readsItem_196 (by decide) ?_
        exact hret _ _ (S0_16) _ _ hg hP hD hS dX9_readsItem_211
      have hg := hg.2.2.2.2.2 k98 k105 k106 k107 k111
      have nk98 := lv_neT k98 (a := 98) (by decide)
      have nk99 := lv_neT k99 (a := 99) (by decide)
      have nk100 := lv_neT k100 (a := 100) (by decide)
      have nk101 := lv_neT k101 (a := 101) (by decide)
      have nk102 := lv_neT k102 (a := 102) (by decide)
      have nk103 := lv_neT k103 (a := 103) (by decide)
      have nk104 := lv_neT k104 (a := 104) (by decide)
      have nk105 := lv_neT k105 (a := 105) (by decide)
      have nk106 := lv_neT k106 (a := 106) (by decide)
      have nk107 := lv_neT k107 (a := 107) (by decide)
      have nk108 := lv_neT k108 (a := 108) (by decide)
      have nk109 := lv_neT k109 (a := 109) (by decide)
      have nk110 := lv_neT k110 (a := 110) (by decide)
      have nk111 := lv_neT k111 (a := 111) (by decide)
      refine lv_tableOut (tgt := 206) hx hb dX9_readsItem_41 (by omega) (by decide) ?_
      exact J206 _ _ _ _ _ hg hP hD hS (lv_sub hl [0, 1] rfl)
    · have hg := hg.2 c_2
      exact hret _ _ (S0_1) _ _ hg hP hD hS dX9_readsItem_29
  refine lv_aload_n hx hb dX9_readsItem_0 rfl (lv_at hl 0 rfl) ?_
  refine zcVi (As := []) (rest := []) (C := RX9) Cx (c_X9_here l G o0 d0 S0 _ hg) zv_X9_here q_840 ⟨⟨rfl, rfl⟩, Nat.le_of_ble_eq_true rfl, Nat.le_of_ble_eq_true rfl⟩ (zJ.all hP hD hS hA) hS 7 rfl rfl rfl rfl hl.1 rfl (Nat.le_of_ble_eq_true rfl) dX9_readsItem_1 (fun r_2 S0_1 H locs hg hP hD hS => ?_)
  have hP : va_P G.1 classes (wX9 G o0 d0 S0_1) H := hP
  have hD : va_D A (wX9 G o0 d0 S0_1) := hD
  refine lv_istore_n (lv' := [(1, .int r_2), (0, .ref o0)]) hx hb dX9_readsItem_4 rfl hl (by decide) rfl (fun ls hl => ?_)
  refine lv_aload_n hx hb dX9_readsItem_5 rfl (lv_at hl 1 rfl) ?_
  refine lv_aload_n hx hb dX9_readsItem_6 rfl (lv_at hl 1 rfl) ?_
  refine lv_iload_n hx hb dX9_readsItem_7 rfl (lv_at hl 0 rfl) ?_
  refine zcVi (As := [.int r_2]) (rest := [.ref o0]) (C := RX9) Cx (c_X9_mayBegin l G o0 d0 r_2 S0_1 _ hg) zv_X9_mayBegin q_848 ⟨⟨rfl, rfl⟩, Nat.le_of_ble_eq_true rfl, Nat.le_of_ble_eq_true rfl⟩ (zJ.all hP hD hS hA) hS 7 rfl rfl rfl rfl hl.1 rfl (Nat.le_of_ble_eq_true rfl) dX9_readsItem_8 (fun r_3 _u H locs hg hP hD hS => ?_)
  refine lv_if_ne (tgt := 18) hx hb dX9_readsItem_11 (by decide) (fun c_4 => ?_) (fun c_4 => ?_)
  · have hg := hg.2 c_4
    refine lv_iconst (v := 0) hx hb dX9_readsItem_18 (by decide) ?_
    exact J19 _ _ _ _ _ _ hg hP hD hS (lv_sub hl [1, 0] rfl)
  · have hg := hg.1 c_4
    refine lv_iconst (v := 1) hx hb dX9_readsItem_14 (by decide) ?_
    refine lv_goto (tgt := 19) hx hb dX9_readsItem_15 (by decide) ?_
    exact J19 _ _ _ _ _ _ hg hP hD hS (lv_sub hl [1, 0] rfl)
theorem zv_X9_goesTo : zV yX9_goesTo RX9 cX9_goesTo 3 (some .boolean) 2 := ⟨q_893, qp_14, q_8, q_894, by decide +kernel⟩
set_option maxHeartbeats 4000000 in
set_option maxRecDepth 100000 in
theorem c_X9_goesTo (l : Launch) (G : ZG) (o0 : Nat) (d0 : Nat → Nat) (x1 : Int32) (x2 : Int32) (S0 : ZS) (Q : Int32 → Prop) (hg : g_X9_goesTo x1 x2 S0 Q) : Ki l G yX9_goesTo cX9_goesTo 3 .boolean rm_X9_goesTo [.ref o0, .int x1, .int x2] (wX9 G o0 d0 S0) (fun _ : Unit => wX9 G o0 d0 S0) (fun r _ => Q r ) := by
  refine Ki.of (by decide) (Nat.le_of_ble_eq_true rfl) ?_
  intro p e s m args below meth c A QQ ls Cx hret hl hP hD hS
  obtain ⟨hx, hb, hml, hown, hT, hK, hA⟩ := id Cx
  have hl : lv_has ls 3 [(0, .ref o0), (1, .int x1), (2, .int x2)] := hl
  refine lv_aload_n hx hb dX9_goesTo_0 rfl (lv_at hl 0 rfl) ?_
  refine va_get (D := G.1) (ci := 7) (v := .ref (d0 38)) (C := RX9) (T := TX9) (N := 49) hx hb hT iX9 hown hK hP 0 rfl rfl 38 (by decide) (hT _ q_710) (fun _ h9 => h9) rfl dX9_goesTo_1 ?_
  refine lv_bipush (v := 96) hx hb dX9_goesTo_4 (by decide) ?_
  refine lv_iconst (v := 2) hx hb dX9_goesTo_6 (by decide) ?_
  refine lv_iload_n hx hb dX9_goesTo_7 rfl (lv_at hl 1 rfl) ?_
  refine lv_imul hx hb dX9_goesTo_8 ?_
  refine lv_iadd hx hb dX9_goesTo_9 ?_
  refine va_iald hx hb hK hP 29 0 rfl rfl hg.1 dX9_goesTo_10 ?_
  have hg := hg.2
  refine lv_iload_n hx hb dX9_goesTo_11 rfl (lv_at hl 2 rfl) ?_
  refine lv_icmp_eq (tgt := 32) hx hb dX9_goesTo_12 (by decide) (fun c_1 => ?_) (fun c_1 => ?_)
  · have hg := hg.1 c_1
    refine lv_iconst (v := 1) hx hb dX9_goesTo_32 (by decide) ?_
    refine lv_goto (tgt := 37) hx hb dX9_goesTo_33 (by decide) ?_
    exact hret _ _ _ () _ _ hg rfl hP hD hS dX9_goesTo_37
  · have hg := hg.2 c_1
    refine lv_aload_n hx hb dX9_goesTo_15 rfl (lv_at hl 0 rfl) ?_
    refine va_get (D := G.1) (ci := 7) (v := .ref (d0 38)) (C := RX9) (T := TX9) (N := 49) hx hb hT iX9 hown hK hP 0 rfl rfl 38 (by decide) (hT _ q_710) (fun _ h9 => h9) rfl dX9_goesTo_16 ?_
    refine lv_bipush (v := 96) hx hb dX9_goesTo_19 (by decide) ?_
    refine lv_iconst (v := 2) hx hb dX9_goesTo_21 (by decide) ?_
    refine lv_iload_n hx hb dX9_goesTo_22 rfl (lv_at hl 1 rfl) ?_
    refine lv_imul hx hb dX9_goesTo_23 ?_
    refine lv_iadd hx hb dX9_goesTo_24 ?_
    refine lv_iconst (v := 1) hx hb dX9_goesTo_25 (by decide) ?_
    refine lv_iadd hx hb dX9_goesTo_26 ?_
    refine va_iald hx hb hK hP 29 0 rfl rfl hg.1 dX9_goesTo_27 ?_
    have hg := hg.2
    refine lv_iload_n hx hb dX9_goesTo_28 rfl (lv_at hl 2 rfl) ?_
    refine lv_icmp_ne (tgt := 36) hx hb dX9_goesTo_29 (by decide) (fun c_2 => ?_) (fun c_2 => ?_)
    · have hg := hg.2 c_2
      refine lv_iconst (v := 0) hx hb dX9_goesTo_36 (by decide) ?_
      exact hret _ _ _ () _ _ hg rfl hP hD hS dX9_goesTo_37
    · have hg := hg.1 c_2
      refine lv_iconst (v := 1) hx hb dX9_goesTo_32 (by decide) ?_
      refine lv_goto (tgt := 37) hx hb dX9_goesTo_33 (by decide) ?_
      exact hret _ _ _ () _ _ hg rfl hP hD hS dX9_goesTo_37
theorem zv_X9_laysBefore : zV yX9_laysBefore RX9 cX9_laysBefore 6 none 0 := ⟨q_889, qp_13, q_8, q_890, by decide +kernel⟩
set_option maxHeartbeats 4000000 in
set_option maxRecDepth 100000 in
theorem c_X9_laysBefore (l : Launch) (G : ZG) (o0 : Nat) (d0 : Nat → Nat) (S0 : ZS) (Q : ZS → Prop) (hg : g_X9_laysBefore S0 Q) : Kv l G yX9_laysBefore cX9_laysBefore 6 rm_X9_laysBefore [.ref o0] (wX9 G o0 d0 S0) (fun u : ZS => wX9 G o0 d0 u) (fun u => Q u) := by
  refine Kv.of (by decide) (Nat.le_of_ble_eq_true rfl) ?_
  intro p e s m args below meth c A QQ ls Cx hret hl hP hD hS
  obtain ⟨hx, hb, hml, hown, hT, hK, hA⟩ := id Cx
  have hl : lv_has ls 6 [(0, .ref o0)] := hl
  have J133 : ∀ (X42 : Int32 × Int32 × ZS → Prop) (hX42 : ∀ (x1 : Int32) (x2 : Int32) (S0 : ZS) (H : Heap) (locs : List Loc) (ls : Array Slot), X42 (x1, x2, S0) → va_P G.1 classes (wX9 G o0 d0 S0) H → va_D A (wX9 G o0 d0 S0) → va_S A s.heap H locs → lv_has ls 6 [(0, .ref o0), (1, .int x1), (2, .int x2)] → W p l e rm_X9_laysBefore s m args below meth c H locs 0 0 QQ (F0 m 42 ls [])) (X50 : Int32 × Int32 × Int32 × ZS → Prop) (hX50 : ∀ (x1 : Int32) (x2 : Int32) (x3 : Int32) (S0 : ZS) (H : Heap) (locs : List Loc) (ls : Array Slot), X50 (x1, x2, x3, S0) → va_P G.1 classes (wX9 G o0 d0 S0) H → va_D A (wX9 G o0 d0 S0) → va_S A s.heap H locs → lv_has ls 6 [(0, .ref o0), (1, .int x1), (2, .int x2), (3, .int x3)] → W p l e rm_X9_laysBefore s m args below meth c H locs 0 0 QQ (F0 m 50 ls [])) (x1 : Int32) (x3 : Int32) (x4 : Int32) (t0 : Int32) (S0 : ZS) (H : Heap) (locs : List Loc) (ls : Array Slot), G_X9_laysBefore_133 Q X42 X50 x1 x3 x4 t0 S0 → va_P G.1 classes (wX9 G o0 d0 S0) H → va_D A (wX9 G o0 d0 S0) → va_S A s.heap H locs → lv_has ls 6 [(0, .ref o0), (1, .int x1), (3, .int x3), (4, .int x4)] → W p l e rm_X9_laysBefore s m args below meth c H locs 0 0 QQ (F0 m 133 ls [.int t0]) := by
    intro X42 hX42 X50 hX50 x1 x3 x4 t0 S0 H locs ls hg hP hD hS hl
    refine lv_istore_n (lv' := [(2, .int t0), (0, .ref o0), (1, .int x1), (3, .int x3), (4, .int x4)]) hx hb dX9_laysBefore_133 rfl hl (by decide) rfl (fun ls hl => ?_)
    refine lv_aload_n hx hb dX9_laysBefore_134 rfl (lv_at hl 1 rfl) ?_
    refine va_get (D := G.1) (ci := 7) (v := .ref (d0 39)) (C := RX9) (T := TX9) (N := 49) hx hb hT iX9 hown hK hP 0 rfl rfl 39 (by decide) (hT _ q_711) (fun _ h9 => h9) rfl dX9_laysBefore_135 ?_
    refine lv_iload_n hx hb dX9_laysBefore_138 rfl (lv_at hl 3 rfl) ?_
    refine lv_iload hx hb dX9_laysBefore_139 (lv_at hl 4 rfl) ?_
    refine z_iast hx hb hK hP hD hS 30 0 rfl rfl hg.1 dX9_laysBefore_141 (zst S0 39 x3.toNatClampNeg x4) (fun S : ZS => wX9 G o0 d0 S) rfl (fun S0_1 H locs eS0_1 hP hD hS => ?_)
    have hg := hg.2 S0_1 eS0_1
    obtain ⟨x3_2, ex3_2⟩ : ∃ y : Int32, y = x3 + 1 := ⟨_, rfl⟩
    have hg := hg x3_2 ex3_2
    refine lv_iinc (v := x3_2) (lv' := [(3, .int x3_2), (2, .int t0), (0, .ref o0), (1, .int x1), (4, .int x4)]) hx hb dX9_laysBefore_142 hl (k := 3) rfl (by rw [ex3_2]; rfl) (by decide) rfl (fun ls hl => ?_)
    refine lv_goto (tgt := 50) hx hb dX9_laysBefore_145 (by decide) ?_
    exact hX50 _ _ _ _ _ _ _ hg hP hD hS (lv_sub hl [2, 3, 1, 0] rfl)
  have J128 : ∀ (X42 : Int32 × Int32 × ZS → Prop) (hX42 : ∀ (x1 : Int32) (x2 : Int32) (S0 : ZS) (H : Heap) (locs : List Loc) (ls : Array Slot), X42 (x1, x2, S0) → va_P G.1 classes (wX9 G o0 d0 S0) H → va_D A (wX9 G o0 d0 S0) → va_S A s.heap H locs → lv_has ls 6 [(0, .ref o0), (1, .int x1), (2, .int x2)] → W p l e rm_X9_laysBefore s m args below meth c H locs 0 0 QQ (F0 m 42 ls [])) (X50 : Int32 × Int32 × Int32 × ZS → Prop) (hX50 : ∀ (x1 : Int32) (x2 : Int32) (x3 : Int32) (S0 : ZS) (H : Heap) (locs : List Loc) (ls : Array Slot), X50 (x1, x2, x3, S0) → va_P G.1 classes (wX9 G o0 d0 S0) H → va_D A (wX9 G o0 d0 S0) → va_S A s.heap H locs → lv_has ls 6 [(0, .ref o0), (1, .int x1), (2, .int x2), (3, .int x3)] → W p l e rm_X9_laysBefore s m args below meth c H locs 0 0 QQ (F0 m 50 ls [])) (x1 : Int32) (x3 : Int32) (x4 : Int32) (S0 : ZS) (H : Heap) (locs : List Loc) (ls : Array Slot), G_X9_laysBefore_128 Q X42 X50 x1 x3 x4 S0 → va_P G.1 classes (wX9 G o0 d0 S0) H → va_D A (wX9 G o0 d0 S0) → va_S A s.heap H locs → lv_has ls 6 [(0, .ref o0), (1, .int x1), (3, .int x3), (4, .int x4)] → W p l e rm_X9_laysBefore s m args below meth c H locs 0 0 QQ (F0 m 128 ls []) := by
    intro X42 hX42 X50 hX50 x1 x3 x4 S0 H locs ls hg hP hD hS hl
    refine lv_iconst (v := 1) hx hb dX9_laysBefore_128 (by decide) ?_
    refine lv_goto (tgt := 133) hx hb dX9_laysBefore_129 (by decide) ?_
    exact J133 _ hX42 _ hX50 _ _ _ _ _ _ _ _ hg hP hD hS (lv_sub hl [0, 1, 2, 3] rfl)
  have L64 : ∀ (X42 : Int32 × Int32 × ZS → Prop) (hX42 : ∀ (x1 : Int32) (x2 : Int32) (S0 : ZS) (H : Heap) (locs : List Loc) (ls : Array Slot), X42 (x1, x2, S0) → va_P G.1 classes (wX9 G o0 d0 S0) H → va_D A (wX9 G o0 d0 S0) → va_S A s.heap H locs → lv_has ls 6 [(0, .ref o0), (1, .int x1), (2, .int x2)] → W p l e rm_X9_laysBefore s m args below meth c H locs 0 0 QQ (F0 m 42 ls [])) (X50 : Int32 × Int32 × Int32 × ZS → Prop) (hX50 : ∀ (x1 : Int32) (x2 : Int32) (x3 : Int32) (S0 : ZS) (H : Heap) (locs : List Loc) (ls : Array Slot), X50 (x1, x2, x3, S0) → va_P G.1 classes (wX9 G o0 d0 S0) H → va_D A (wX9 G o0 d0 S0) → va_S A s.heap H locs → lv_has ls 6 [(0, .ref o0), (1, .int x1), (2, .int x2), (3, .int x3)] → W p l e rm_X9_laysBefore s m args below meth c H locs 0 0 QQ (F0 m 50 ls [])) (n : Nat) (x1 : Int32) (x2 : Int32) (x3 : Int32) (x4 : Int32) (x5 : Int32) (S0 : ZS) (H : Heap) (locs : List Loc) (ls : Array Slot), fx (F_X9_laysBefore_64 Q X42 X50) n (x1, x2, x3, x4, x5, S0) → va_P G.1 classes (wX9 G o0 d0 S0) H → va_D A (wX9 G o0 d0 S0) → va_S A s.heap H locs → lv_has ls 6 [(0, .ref o0), (1, .int x1), (2, .int x2), (3, .int x3), (4, .int x4), (5, .int x5)] → W p l e rm_X9_laysBefore s m args below meth c H locs 0 0 QQ (F0 m 64 ls []) := by
    intro X42 hX42 X50 hX50 n
    induction n with
    | zero => intro x1 x2 x3 x4 x5 S0 H locs ls hg; exact hg.elim
    | succ n ih =>
      have hX64 := ih
      intro x1 x2 x3 x4 x5 S0 H locs ls hg hP hD hS hl
      refine lv_iload hx hb dX9_laysBefore_64 (lv_at hl 5 rfl) ?_
      refine lv_aload_n hx hb dX9_laysBefore_66 rfl (lv_at hl 0 rfl) ?_
      refine va_get (D := G.1) (ci := 7) (v := .int (S0 25 0)) (C := RX9) (T := TX9) (N := 49) hx hb hT iX9 hown hK hP 0 rfl rfl 25 (by decide) (hT _ q_697) (fun _ h9 => h9) rfl dX9_laysBefore_67 ?_
      refine lv_icmp_ge (tgt := 105) hx hb dX9_laysBefore_70 (by decide) (fun c_1 => ?_) (fun c_1 => ?_)
      · have hg := hg.1 c_1
        refine lv_iload hx hb dX9_laysBefore_105 (lv_at hl 4 rfl) ?_
        refine lv_iconst (v := 1) hx hb dX9_laysBefore_107 (by decide) ?_
        refine lv_iload_n hx hb dX9_laysBefore_108 rfl (lv_at hl 3 rfl) ?_
        refine lv_ishl hx hb dX9_laysBefore_109 ?_
        refine lv_ior hx hb dX9_laysBefore_110 ?_
        refine lv_topi (fun x4_2 ex4_2 => ?_)
        have hg := hg x4_2 ex4_2
        refine lv_istore (lv' := [(4, .int x4_2), (0, .ref o0), (1, .int x1), (2, .int x2), (3, .int x3), (5, .int x5)]) hx hb dX9_laysBefore_111 hl (by decide) rfl (fun ls hl => ?_)
        refine lv_iload_n hx hb dX9_laysBefore_113 rfl (lv_at hl 3 rfl) ?_
        refine lv_if_ne (tgt := 128) hx hb dX9_laysBefore_114 (by decide) (fun c_3 => ?_) (fun c_3 => ?_)
        · have hg := hg.2 c_3
          exact J128 _ hX42 _ hX50 _ _ _ _ _ _ _ hg hP hD hS (lv_sub hl [1, 2, 4, 0] rfl)
        · have hg := hg.1 c_3
          refine lv_iload hx hb dX9_laysBefore_117 (lv_at hl 0 rfl) ?_
          refine lv_aload_n hx hb dX9_laysBefore_119 rfl (lv_at hl 1 rfl) ?_
          refine va_get (D := G.1) (ci := 7) (v := .ref (d0 39)) (C := RX9) (T := TX9) (N := 49) hx hb hT iX9 hown hK hP 0 rfl rfl 39 (by decide) (hT _ q_711) (fun _ h9 => h9) rfl dX9_laysBefore_120 ?_
          refine lv_iload_n hx hb dX9_laysBefore_123 rfl (lv_at hl 4 rfl) ?_
          refine va_iald hx hb hK hP 30 0 rfl rfl hg.1 dX9_laysBefore_124 ?_
          have hg := hg.2
          refine lv_icmp_eq (tgt := 132) hx hb dX9_laysBefore_125 (by decide) (fun c_4 => ?_) (fun c_4 => ?_)
          · have hg := hg.1 c_4
            refine lv_iconst (v := 0) hx hb dX9_laysBefore_132 (by decide) ?_
            exact J133 _ hX42 _ hX50 _ _ _ _ _ _ _ _ hg hP hD hS (lv_sub hl [1, 2, 4, 0] rfl)
          · have hg := hg.2 c_4
            exact J128 _ hX42 _ hX50 _ _ _ _ _ _ _ hg hP hD hS (lv_sub hl [1, 2, 4, 0] rfl)
      · have hg := hg.2 c_1
        refine lv_iload hx hb dX9_laysBefore_73 (lv_at hl 4 rfl) ?_
        refine lv_aload_n hx hb dX9_laysBefore_75 rfl (lv_at hl 0 rfl) ?_
        refine lv_iload hx hb dX9_laysBefore_76 (lv_at hl 5 rfl) ?_
        refine lv_iload_n hx hb dX9_laysBefore_78 rfl (lv_at hl 3 rfl) ?_
        refine zcVi (As := [.int x5, .int x3]) (rest := [.int x4]) (C := RX9) Cx (c_X9_goesTo l G o0 d0 x5 x3 S0 _ hg) zv_X9_goesTo q_891 ⟨⟨rfl, rfl⟩, Nat.le_of_ble_eq_true rfl, Nat.le_of_ble_eq_true rfl⟩ (zJ.all hP hD hS hA) hS 7 rfl rfl rfl rfl hl.1 rfl (Nat.le_of_ble_eq_true rfl) dX9_laysBefore_79 (fun r_5 _u H locs hg hP hD hS => ?_)
        refine lv_if_eq (tgt := 95) hx hb dX9_laysBefore_82 (by decide) (fun c_6 => ?_) (fun c_6 => ?_)
        · have hg := hg.1 c_6
          refine lv_iload_n hx hb dX9_laysBefore_95 rfl (lv_at hl 1 rfl) ?_
          refine lv_iand hx hb dX9_laysBefore_96 ?_
          refine lv_topi (fun x4_7 ex4_7 => ?_)
          have hg := hg x4_7 ex4_7
          refine lv_istore (lv' := [(4, .int x4_7), (0, .ref o0), (1, .int x1), (2, .int x2), (3, .int x3), (5, .int x5)]) hx hb dX9_laysBefore_97 hl (by decide) rfl (fun ls hl => ?_)
          obtain ⟨x5_8, ex5_8⟩ : ∃ y : Int32, y = x5 + 1 := ⟨_, rfl⟩
          have hg := hg x5_8 ex5_8
          refine lv_iinc (v := x5_8) (lv' := [(5, .int x5_8), (4, .int x4_7), (0, .ref o0), (1, .int x1), (2, .int x2), (3, .int x3)]) hx hb dX9_laysBefore_99 hl (k := 5) rfl (by rw [ex5_8]; rfl) (by decide) rfl (fun ls hl => ?_)
          refine lv_goto (tgt := 64) hx hb dX9_laysBefore_102 (by decide) ?_
          exact hX64 _ _ _ _ _ _ _ _ _ hg hP hD hS (lv_sub hl [2, 3, 4, 5, 1, 0] rfl)
        · have hg := hg.2 c_6
          refine lv_aload_n hx hb dX9_laysBefore_85 rfl (lv_at hl 0 rfl) ?_
          refine va_get (D := G.1) (ci := 7) (v := .ref (d0 39)) (C := RX9) (T := TX9) (N := 49) hx hb hT iX9 hown hK hP 0 rfl rfl 39 (by decide) (hT _ q_711) (fun _ h9 => h9) rfl dX9_laysBefore_86 ?_
          refine lv_iload hx hb dX9_laysBefore_89 (lv_at hl 5 rfl) ?_
          refine va_iald hx hb hK hP 30 0 rfl rfl hg.1 dX9_laysBefore_91 ?_
          have hg := hg.2
          refine lv_goto (tgt := 96) hx hb dX9_laysBefore_92 (by decide) ?_
          refine lv_iand hx hb dX9_laysBefore_96 ?_
          refine lv_topi (fun x4_9 ex4_9 => ?_)
          have hg := hg x4_9 ex4_9
          refine lv_istore (lv' := [(4, .int x4_9), (0, .ref o0), (1, .int x1), (2, .int x2), (3, .int x3), (5, .int x5)]) hx hb dX9_laysBefore_97 hl (by decide) rfl (fun ls hl => ?_)
          obtain ⟨x5_10, ex5_10⟩ : ∃ y : Int32, y = x5 + 1 := ⟨_, rfl⟩
          have hg := hg x5_10 ex5_10
          refine lv_iinc (v := x5_10) (lv' := [(5, .int x5_10), (4, .int x4_9), (0, .ref o0), (1, .int x1), (2, .int x2), (3, .int x3)]) hx hb dX9_laysBefore_99 hl (k := 5) rfl (by rw [ex5_10]; rfl) (by decide) rfl (fun ls hl => ?_)
          refine lv_goto (tgt := 64) hx hb dX9_laysBefore_102 (by decide) ?_
          exact hX64 _ _ _ _ _ _ _ _ _ hg hP hD hS (lv_sub hl [2, 3, 4, 5, 1, 0] rfl)
  have L50 : ∀ (X42 : Int32 × Int32 × ZS → Prop) (hX42 : ∀ (x1 : Int32) (x2 : Int32) (S0 : ZS) (H : Heap) (locs : List Loc) (ls : Array Slot), X42 (x1, x2, S0) → va_P G.1 classes (wX9 G o0 d0 S0) H → va_D A (wX9 G o0 d0 S0) → va_S A s.heap H locs → lv_has ls 6 [(0, .ref o0), (1, .int x1), (2, .int x2)] → W p l e rm_X9_laysBefore s m args below meth c H locs 0 0 QQ (F0 m 42 ls [])) (n : Nat) (x1 : Int32) (x2 : Int32) (x3 : Int32) (S0 : ZS) (H : Heap) (locs : List Loc) (ls : Array Slot), fx (F_X9_laysBefore_50 Q X42) n (x1, x2, x3, S0) → va_P G.1 classes (wX9 G o0 d0 S0) H → va_D A (wX9 G o0 d0 S0) → va_S A s.heap H locs → lv_has ls 6 [(0, .ref o0), (1, .int x1), (2, .int x2), (3, .int x3)] → W p l e rm_X9_laysBefore s m args below meth c H locs 0 0 QQ (F0 m 50 ls []) := by
    intro X42 hX42 n
    induction n with
    | zero => intro x1 x2 x3 S0 H locs ls hg; exact hg.elim
    | succ n ih =>
      have hX50 := ih
      intro x1 x2 x3 S0 H locs ls hg hP hD hS hl
      refine lv_iload_n hx hb dX9_laysBefore_50 rfl (lv_at hl 3 rfl) ?_
      refine lv_aload_n hx hb dX9_laysBefore_51 rfl (lv_at hl 0 rfl) ?_
      refine va_get (D := G.1) (ci := 7) (v := .int (S0 25 0)) (C := RX9) (T := TX9) (N := 49) hx hb hT iX9 hown hK hP 0 rfl rfl 25 (by decide) (hT _ q_697) (fun _ h9 => h9) rfl dX9_laysBefore_52 ?_
      refine lv_icmp_ge (tgt := 148) hx hb dX9_laysBefore_55 (by decide) (fun c_1 => ?_) (fun c_1 => ?_)
      · have hg := hg.1 c_1
        refine lv_goto (tgt := 42) hx hb dX9_laysBefore_148 (by decide) ?_
        exact hX42 _ _ _ _ _ _ hg hP hD hS (lv_sub hl [0, 1, 2] rfl)
      · have hg := hg.2 c_1
        refine lv_iload_n hx hb dX9_laysBefore_58 rfl (lv_at hl 1 rfl) ?_
        refine lv_istore (lv' := [(4, .int x1), (0, .ref o0), (1, .int x1), (2, .int x2), (3, .int x3)]) hx hb dX9_laysBefore_59 hl (by decide) rfl (fun ls hl => ?_)
        refine lv_iconst (v := 0) hx hb dX9_laysBefore_61 (by decide) ?_
        refine lv_istore (lv' := [(5, .int 0), (4, .int x1), (0, .ref o0), (1, .int x1), (2, .int x2), (3, .int x3)]) hx hb dX9_laysBefore_62 hl (by decide) rfl (fun ls hl => ?_)
        obtain ⟨n, hg⟩ := hg
        exact L64 _ hX42 _ hX50 n _ _ _ _ _ _ _ _ _ hg hP hD hS (lv_sub hl [2, 3, 4, 5, 1, 0] rfl)
  have L42 : ∀ (n : Nat) (x1 : Int32) (x2 : Int32) (S0 : ZS) (H : Heap) (locs : List Loc) (ls : Array Slot), fx (F_X9_laysBefore_42 Q) n (x1, x2, S0) → va_P G.1 classes (wX9 G o0 d0 S0) H → va_D A (wX9 G o0 d0 S0) → va_S A s.heap H locs → lv_has ls 6 [(0, .ref o0), (1, .int x1), (2, .int x2)] → W p l e rm_X9_laysBefore s m args below meth c H locs 0 0 QQ (F0 m 42 ls []) := by
    intro n
    induction n with
    | zero => intro x1 x2 S0 H locs ls hg; exact hg.elim
    | succ n ih =>
      have hX42 := ih
      intro x1 x2 S0 H locs ls hg hP hD hS hl
      refine lv_iload_n hx hb dX9_laysBefore_42 rfl (lv_at hl 2 rfl) ?_
      refine lv_if_eq (tgt := 151) hx hb dX9_laysBefore_43 (by decide) (fun c_1 => ?_) (fun c_1 => ?_)
      · have hg := hg.1 c_1
        exact hret _ _ (S0) _ _ hg hP hD hS dX9_laysBefore_151
      · have hg := hg.2 c_1
        refine lv_iconst (v := 0) hx hb dX9_laysBefore_46 (by decide) ?_
        refine lv_istore_n (lv' := [(2, .int 0), (0, .ref o0), (1, .int x1)]) hx hb dX9_laysBefore_47 rfl hl (by decide) rfl (fun ls hl => ?_)
        refine lv_iconst (v := 1) hx hb dX9_laysBefore_48 (by decide) ?_
        refine lv_istore_n (lv' := [(3, .int 1), (2, .int 0), (0, .ref o0), (1, .int x1)]) hx hb dX9_laysBefore_49 rfl hl (by decide) rfl (fun ls hl => ?_)
        obtain ⟨n, hg⟩ := hg
        exact L50 _ hX42 n _ _ _ _ _ _ _ hg hP hD hS (lv_sub hl [2, 3, 1, 0] rfl)
  have L11 : ∀ (n : Nat) (x1 : Int32) (x2 : Int32) (S0 : ZS) (H : Heap) (locs : List Loc) (ls : Array Slot), fx (F_X9_laysBefore_11 Q) n (x1, x2, S0) → va_P G.1 classes (wX9 G o0 d0 S0) H → va_D A (wX9 G o0 d0 S0) → va_S A s.heap H locs → lv_has ls 6 [(0, .ref o0), (1, .int x1), (2, .int x2)] → W p l e rm_X9_laysBefore s m args below meth c H locs 0 0 QQ (F0 m 11 ls []) := by
    intro n
    induction n with
    | zero => intro x1 x2 S0 H locs ls hg; exact hg.elim
    | succ n ih =>
      have hX11 := ih
      intro x1 x2 S0 H locs ls hg hP hD hS hl
      refine lv_iload_n hx hb dX9_laysBefore_11 rfl (lv_at hl 2 rfl) ?_
      refine lv_aload_n hx hb dX9_laysBefore_12 rfl (lv_at hl 0 rfl) ?_
      refine va_get (D := G.1) (ci := 7) (v := .int (S0 25 0)) (C := RX9) (T := TX9) (N := 49) hx hb hT iX9 hown hK hP 0 rfl rfl 25 (by decide) (hT _ q_697) (fun _ h9 => h9) rfl dX9_laysBefore_13 ?_
      refine lv_icmp_ge (tgt := 40) hx hb dX9_laysBefore_16 (by decide) (fun c_1 => ?_) (fun c_1 => ?_)
      · have hg := hg.1 c_1
        refine lv_iconst (v := 1) hx hb dX9_laysBefore_40 (by decide) ?_
        refine lv_istore_n (lv' := [(2, .int 1), (0, .ref o0), (1, .int x1)]) hx hb dX9_laysBefore_41 rfl hl (by decide) rfl (fun ls hl => ?_)
        obtain ⟨n, hg⟩ := hg
        exact L42 n _ _ _ _ _ _ hg hP hD hS (lv_sub hl [1, 2, 0] rfl)
      · have hg := hg.2 c_1
        refine lv_aload_n hx hb dX9_laysBefore_19 rfl (lv_at hl 0 rfl) ?_
        refine va_get (D := G.1) (ci := 7) (v := .ref (d0 39)) (C := RX9) (T := TX9) (N := 49) hx hb hT iX9 hown hK hP 0 rfl rfl 39 (by decide) (hT _ q_711) (fun _ h9 => h9) rfl dX9_laysBefore_20 ?_
        refine lv_iload_n hx hb dX9_laysBefore_23 rfl (lv_at hl 2 rfl) ?_
        refine lv_iload_n hx hb dX9_laysBefore_24 rfl (lv_at hl 2 rfl) ?_
        refine lv_if_ne (tgt := 32) hx hb dX9_laysBefore_25 (by decide) (fun c_2 => ?_) (fun c_2 => ?_)
        · have hg := hg.2 c_2
          refine lv_iload_n hx hb dX9_laysBefore_32 rfl (lv_at hl 1 rfl) ?_
          refine z_iast hx hb hK hP hD hS 30 0 rfl rfl hg.1 dX9_laysBefore_33 (zst S0 39 x2.toNatClampNeg x1) (fun S : ZS => wX9 G o0 d0 S) rfl (fun S0_3 H locs eS0_3 hP hD hS => ?_)
          have hg := hg.2 S0_3 eS0_3
          obtain ⟨x2_4, ex2_4⟩ : ∃ y : Int32, y = x2 + 1 := ⟨_, rfl⟩
          have hg := hg x2_4 ex2_4
          refine lv_iinc (v := x2_4) (lv' := [(2, .int x2_4), (0, .ref o0), (1, .int x1)]) hx hb dX9_laysBefore_34 hl (k := 2) rfl (by rw [ex2_4]; rfl) (by decide) rfl (fun ls hl => ?_)
          refine lv_goto (tgt := 11) hx hb dX9_laysBefore_37 (by decide) ?_
          exact hX11 _ _ _ _ _ _ hg hP hD hS (lv_sub hl [1, 2, 0] rfl)
        · have hg := hg.1 c_2
          refine lv_iconst (v := 1) hx hb dX9_laysBefore_28 (by decide) ?_
          refine lv_goto (tgt := 33) hx hb dX9_laysBefore_29 (by decide) ?_
          refine z_iast hx hb hK hP hD hS 30 0 rfl rfl hg.1 dX9_laysBefore_33 (zst S0 39 x2.toNatClampNeg 1) (fun S : ZS => wX9 G o0 d0 S) rfl (fun S0_5 H locs eS0_5 hP hD hS => ?_)
          have hg := hg.2 S0_5 eS0_5
          obtain ⟨x2_6, ex2_6⟩ : ∃ y : Int32, y = x2 + 1 := ⟨_, rfl⟩
          have hg := hg x2_6 ex2_6
          refine lv_iinc (v := x2_6) (lv' := [(2, .int x2_6), (0, .ref o0), (1, .int x1)]) hx hb dX9_laysBefore_34 hl (k := 2) rfl (by rw [ex2_6]; rfl) (by decide) rfl (fun ls hl => ?_)
          refine lv_goto (tgt := 11) hx hb dX9_laysBefore_37 (by decide) ?_
          exact hX11 _ _ _ _ _ _ hg hP hD hS (lv_sub hl [1, 2, 0] rfl)
  refine lv_iconst (v := 1) hx hb dX9_laysBefore_0 (by decide) ?_
  refine lv_aload_n hx hb dX9_laysBefore_1 rfl (lv_at hl 0 rfl) ?_
  refine va_get (D := G.1) (ci := 7) (v := .int (S0 25 0)) (C := RX9) (T := TX9) (N := 49) hx hb hT iX9 hown hK hP 0 rfl rfl 25 (by decide) (hT _ q_697) (fun _ h9 => h9) rfl dX9_laysBefore_2 ?_
  refine lv_ishl hx hb dX9_laysBefore_5 ?_
  refine lv_iconst (v := 1) hx hb dX9_laysBefore_6 (by decide) ?_
  refine lv_isub hx hb dX9_laysBefore_7 ?_
  refine lv_topi (fun x1_1 ex1_1 => ?_)
  have hg := hg x1_1 ex1_1
  refine lv_istore_n (lv' := [(1, .int x1_1), (0, .ref o0)]) hx hb dX9_laysBefore_8 rfl hl (by decide) rfl (fun ls hl => ?_)
  refine lv_iconst (v := 0) hx hb dX9_laysBefore_9 (by decide) ?_
  refine lv_istore_n (lv' := [(2, .int 0), (1, .int x1_1), (0, .ref o0)]) hx hb dX9_laysBefore_10 rfl hl (by decide) rfl (fun ls hl => ?_)
  obtain ⟨n, hg⟩ := hg
  exact L11 n _ _ _ _ _ _ hg hP hD hS (lv_sub hl [2, 1, 0] rfl)
theorem zv_X9_isBefore : zV yX9_isBefore RX9 cX9_isBefore 4 (some .boolean) 3 := ⟨q_897, qp_15, q_8, q_898, by decide +kernel⟩
set_option maxHeartbeats 4000000 in
set_option maxRecDepth 100000 in
theorem c_X9_isBefore (l : Launch) (G : ZG) (o0 : Nat) (d0 : Nat → Nat) (x1 : Int32) (x2 : Int32) (x3 : Int32) (S0 : ZS) (Q : Int32 → Prop) (hg : g_X9_isBefore x1 x2 x3 S0 Q) : Ki l G yX9_isBefore cX9_isBefore 4 .boolean rm_X9_isBefore [.ref o0, .int x1, .int x2, .int x3] (wX9 G o0 d0 S0) (fun _ : Unit => wX9 G o0 d0 S0) (fun r _ => Q r ) := by
  refine Ki.of (by decide) (Nat.le_of_ble_eq_true rfl) ?_
  intro p e s m args below meth c A QQ ls Cx hret hl hP hD hS
  obtain ⟨hx, hb, hml, hown, hT, hK, hA⟩ := id Cx
  have hl : lv_has ls 4 [(0, .ref o0), (1, .int x1), (2, .int x2), (3, .int x3)] := hl
  refine lv_iload_n hx hb dX9_isBefore_0 rfl (lv_at hl 1 rfl) ?_
  refine lv_aload_n hx hb dX9_isBefore_1 rfl (lv_at hl 0 rfl) ?_
  refine va_get (D := G.1) (ci := 7) (v := .int (S0 24 0)) (C := RX9) (T := TX9) (N := 49) hx hb hT iX9 hown hK hP 0 rfl rfl 24 (by decide) (hT _ q_696) (fun _ h9 => h9) rfl dX9_isBefore_2 ?_
  refine lv_icmp_ge (tgt := 45) hx hb dX9_isBefore_5 (by decide) (fun c_1 => ?_) (fun c_1 => ?_)
  · have hg := hg.1 c_1
    refine lv_iconst (v := 0) hx hb dX9_isBefore_45 (by decide) ?_
    exact hret _ _ _ () _ _ hg rfl hP hD hS dX9_isBefore_46
  · have hg := hg.2 c_1
    refine lv_aload_n hx hb dX9_isBefore_8 rfl (lv_at hl 0 rfl) ?_
    refine va_get (D := G.1) (ci := 7) (v := .ref (d0 39)) (C := RX9) (T := TX9) (N := 49) hx hb hT iX9 hown hK hP 0 rfl rfl 39 (by decide) (hT _ q_711) (fun _ h9 => h9) rfl dX9_isBefore_9 ?_
    refine lv_iload_n hx hb dX9_isBefore_12 rfl (lv_at hl 2 rfl) ?_
    refine va_iald hx hb hK hP 30 0 rfl rfl hg.1 dX9_isBefore_13 ?_
    have hg := hg.2
    refine lv_aload_n hx hb dX9_isBefore_14 rfl (lv_at hl 0 rfl) ?_
    refine va_get (D := G.1) (ci := 7) (v := .ref (d0 28)) (C := RX9) (T := TX9) (N := 49) hx hb hT iX9 hown hK hP 0 rfl rfl 28 (by decide) (hT _ q_700) (fun _ h9 => h9) rfl dX9_isBefore_15 ?_
    refine lv_iload_n hx hb dX9_isBefore_18 rfl (lv_at hl 1 rfl) ?_
    refine va_iald hx hb hK hP 19 0 rfl rfl hg.1 dX9_isBefore_19 ?_
    have hg := hg.2
    refine zcSi (As := [.int (S0 39 x2.toNatClampNeg), .int (S0 28 x1.toNatClampNeg)]) (rest := []) Cx (c_X9_has l G (S0 39 x2.toNatClampNeg) (S0 28 x1.toNatClampNeg) _ hg) zv_X9_has q_899 ⟨⟨rfl, rfl⟩, Nat.le_of_ble_eq_true rfl, Nat.le_of_ble_eq_true rfl⟩ (zJ.none (S := Unit) hP hD hS hA) hS rfl hl.1 rfl (Nat.le_of_ble_eq_true rfl) dX9_isBefore_20 (fun r_2 _u H locs hg hP hD hS => ?_)
    refine lv_if_eq (tgt := 45) hx hb dX9_isBefore_23 (by decide) (fun c_3 => ?_) (fun c_3 => ?_)
    · have hg := hg.1 c_3
      refine lv_iconst (v := 0) hx hb dX9_isBefore_45 (by decide) ?_
      exact hret _ _ _ () _ _ hg rfl hP hD hS dX9_isBefore_46
    · have hg := hg.2 c_3
      refine lv_aload_n hx hb dX9_isBefore_26 rfl (lv_at hl 0 rfl) ?_
      refine va_get (D := G.1) (ci := 7) (v := .ref (d0 28)) (C := RX9) (T := TX9) (N := 49) hx hb hT iX9 hown hK hP 0 rfl rfl 28 (by decide) (hT _ q_700) (fun _ h9 => h9) rfl dX9_isBefore_27 ?_
      refine lv_iload_n hx hb dX9_isBefore_30 rfl (lv_at hl 1 rfl) ?_
      refine va_iald hx hb hK hP 19 0 rfl rfl hg.1 dX9_isBefore_31 ?_
      have hg := hg.2
      refine lv_iload_n hx hb dX9_isBefore_32 rfl (lv_at hl 2 rfl) ?_
      refine lv_icmp_ne (tgt := 41) hx hb dX9_isBefore_33 (by decide) (fun c_4 => ?_) (fun c_4 => ?_)
      · have hg := hg.2 c_4
        refine lv_iconst (v := 1) hx hb dX9_isBefore_41 (by decide) ?_
        refine lv_goto (tgt := 46) hx hb dX9_isBefore_42 (by decide) ?_
        exact hret _ _ _ () _ _ hg rfl hP hD hS dX9_isBefore_46
      · have hg := hg.1 c_4
        refine lv_iload_n hx hb dX9_isBefore_36 rfl (lv_at hl 1 rfl) ?_
        refine lv_iload_n hx hb dX9_isBefore_37 rfl (lv_at hl 3 rfl) ?_
        refine lv_icmp_ge (tgt := 45) hx hb dX9_isBefore_38 (by decide) (fun c_5 => ?_) (fun c_5 => ?_)
        · have hg := hg.1 c_5
          refine lv_iconst (v := 0) hx hb dX9_isBefore_45 (by decide) ?_
          exact hret _ _ _ () _ _ hg rfl hP hD hS dX9_isBefore_46
        · have hg := hg.2 c_5
          refine lv_iconst (v := 1) hx hb dX9_isBefore_41 (by decide) ?_
          refine lv_goto (tgt := 46) hx hb dX9_isBefore_42 (by decide) ?_
          exact hret _ _ _ () _ _ hg rfl hP hD hS dX9_isBefore_46
theorem zv_X9_isJoined : zV yX9_isJoined RX9 cX9_isJoined 7 (some .boolean) 1 := ⟨q_904, qp_16, q_8, q_905, by decide +kernel⟩
set_option maxHeartbeats 4000000 in
set_option maxRecDepth 100000 in
theorem c_X9_isJoined (l : Launch) (G : ZG) (o0 : Nat) (d0 : Nat → Nat) (x1 : Int32) (S0 : ZS) (Q : Int32 → Prop) (hg : g_X9_isJoined x1 S0 Q) : Ki l G yX9_isJoined cX9_isJoined 7 .boolean rm_X9_isJoined [.ref o0, .int x1] (wX9 G o0 d0 S0) (fun _ : Unit => wX9 G o0 d0 S0) (fun r _ => Q r ) := by
  refine Ki.of (by decide) (Nat.le_of_ble_eq_true rfl) ?_
  intro p e s m args below meth c A QQ ls Cx hret hl hP hD hS
  obtain ⟨hx, hb, hml, hown, hT, hK, hA⟩ := id Cx
  have hl : lv_has ls 7 [(0, .ref o0), (1, .int x1)] := hl
  have L108 : ∀ (n : Nat) (x2 : Int32) (x3 : Int32) (x4 : Int32) (x5 : Int32) (H : Heap) (locs : List Loc) (ls : Array Slot), fx (F_X9_isJoined_108 x1 S0 Q) n (x2, x3, x4, x5) → va_P G.1 classes (wX9 G o0 d0 S0) H → va_D A (wX9 G o0 d0 S0) → va_S A s.heap H locs → lv_has ls 7 [(0, .ref o0), (2, .int x2), (3, .int x3), (4, .int x4), (5, .int x5)] → W p l e rm_X9_isJoined s m args below meth c H locs 0 0 QQ (F0 m 108 ls []) := by
    intro n
    induction n with
    | zero => intro x2 x3 x4 x5 H locs ls hg; exact hg.elim
    | succ n ih =>
      have hX108 := ih
      intro x2 x3 x4 x5 H locs ls hg hP hD hS hl
      refine lv_iload hx hb dX9_isJoined_108 (lv_at hl 4 rfl) ?_
      refine lv_aload_n hx hb dX9_isJoined_110 rfl (lv_at hl 0 rfl) ?_
      refine va_get (D := G.1) (ci := 7) (v := .int (S0 25 0)) (C := RX9) (T := TX9) (N := 49) hx hb hT iX9 hown hK hP 0 rfl rfl 25 (by decide) (hT _ q_697) (fun _ h9 => h9) rfl dX9_isJoined_111 ?_
      refine lv_icmp_ge (tgt := 154) hx hb dX9_isJoined_114 (by decide) (fun c_1 => ?_) (fun c_1 => ?_)
      · have hg := hg.1 c_1
        refine lv_iload hx hb dX9_isJoined_154 (lv_at hl 3 rfl) ?_
        exact hret _ _ _ () _ _ hg.2 hg.1.nar hP hD hS dX9_isJoined_156
      · have hg := hg.2 c_1
        refine lv_iload hx hb dX9_isJoined_117 (lv_at hl 3 rfl) ?_
        refine lv_if_eq (tgt := 145) hx hb dX9_isJoined_119 (by decide) (fun c_2 => ?_) (fun c_2 => ?_)
        · have hg := hg.1 c_2
          refine lv_iconst (v := 0) hx hb dX9_isJoined_145 (by decide) ?_
          refine lv_istore (lv' := [(4, .int 0), (0, .ref o0), (2, .int x2), (3, .int x3), (5, .int x5)]) hx hb dX9_isJoined_146 hl (by decide) rfl (fun ls hl => ?_)
          obtain ⟨x5_3, ex5_3⟩ : ∃ y : Int32, y = x5 + 1 := ⟨_, rfl⟩
          have hg := hg x5_3 ex5_3
          refine lv_iinc (v := x5_3) (lv' := [(5, .int x5_3), (4, .int 0), (0, .ref o0), (2, .int x2), (3, .int x3)]) hx hb dX9_isJoined_148 hl (k := 4) rfl (by rw [ex5_3]; rfl) (by decide) rfl (fun ls hl => ?_)
          refine lv_goto (tgt := 108) hx hb dX9_isJoined_151 (by decide) ?_
          exact hX108 _ _ _ _ _ _ _ hg hP hD hS (lv_sub hl [2, 3, 4, 1, 0] rfl)
        · have hg := hg.2 c_2
          refine lv_aload_n hx hb dX9_isJoined_122 rfl (lv_at hl 0 rfl) ?_
          refine lv_iload hx hb dX9_isJoined_123 (lv_at hl 4 rfl) ?_
          refine lv_iload_n hx hb dX9_isJoined_125 rfl (lv_at hl 1 rfl) ?_
          refine zcVi (As := [.int x5, .int x2]) (rest := []) (C := RX9) Cx (c_X9_goesTo l G o0 d0 x5 x2 S0 _ hg) zv_X9_goesTo q_891 ⟨⟨rfl, rfl⟩, Nat.le_of_ble_eq_true rfl, Nat.le_of_ble_eq_true rfl⟩ (zJ.all hP hD hS hA) hS 7 rfl rfl rfl rfl hl.1 rfl (Nat.le_of_ble_eq_true rfl) dX9_isJoined_126 (fun r_4 _u H locs hg hP hD hS => ?_)
          refine lv_if_eq (tgt := 141) hx hb dX9_isJoined_129 (by decide) (fun c_5 => ?_) (fun c_5 => ?_)
          · have hg := hg.1 c_5
            refine lv_iconst (v := 1) hx hb dX9_isJoined_141 (by decide) ?_
            refine lv_goto (tgt := 146) hx hb dX9_isJoined_142 (by decide) ?_
            refine lv_istore (lv' := [(4, .int 1), (0, .ref o0), (2, .int x2), (3, .int x3), (5, .int x5)]) hx hb dX9_isJoined_146 hl (by decide) rfl (fun ls hl => ?_)
            obtain ⟨x5_6, ex5_6⟩ : ∃ y : Int32, y = x5 + 1 := ⟨_, rfl⟩
            have hg := hg x5_6 ex5_6
            refine lv_iinc (v := x5_6) (lv' := [(5, .int x5_6), (4, .int 1), (0, .ref o0), (2, .int x2), (3, .int x3)]) hx hb dX9_isJoined_148 hl (k := 4) rfl (by rw [ex5_6]; rfl) (by decide) rfl (fun ls hl => ?_)
            refine lv_goto (tgt := 108) hx hb dX9_isJoined_151 (by decide) ?_
            exact hX108 _ _ _ _ _ _ _ hg hP hD hS (lv_sub hl [2, 3, 4, 1, 0] rfl)
          · have hg := hg.2 c_5
            refine lv_iload_n hx hb dX9_isJoined_132 rfl (lv_at hl 2 rfl) ?_
            refine lv_iload hx hb dX9_isJoined_133 (lv_at hl 4 rfl) ?_
            refine zcSi (As := [.int x3, .int x5]) (rest := []) Cx (c_X9_has l G x3 x5 _ hg) zv_X9_has q_899 ⟨⟨rfl, rfl⟩, Nat.le_of_ble_eq_true rfl, Nat.le_of_ble_eq_true rfl⟩ (zJ.none (S := Unit) hP hD hS hA) hS rfl hl.1 rfl (Nat.le_of_ble_eq_true rfl) dX9_isJoined_135 (fun r_7 _u H locs hg hP hD hS => ?_)
            refine lv_if_eq (tgt := 145) hx hb dX9_isJoined_138 (by decide) (fun c_8 => ?_) (fun c_8 => ?_)
            · have hg := hg.1 c_8
              refine lv_iconst (v := 0) hx hb dX9_isJoined_145 (by decide) ?_
              refine lv_istore (lv' := [(4, .int 0), (0, .ref o0), (2, .int x2), (3, .int x3), (5, .int x5)]) hx hb dX9_isJoined_146 hl (by decide) rfl (fun ls hl => ?_)
              obtain ⟨x5_9, ex5_9⟩ : ∃ y : Int32, y = x5 + 1 := ⟨_, rfl⟩
              have hg := hg x5_9 ex5_9
              refine lv_iinc (v := x5_9) (lv' := [(5, .int x5_9), (4, .int 0), (0, .ref o0), (2, .int x2), (3, .int x3)]) hx hb dX9_isJoined_148 hl (k := 4) rfl (by rw [ex5_9]; rfl) (by decide) rfl (fun ls hl => ?_)
              refine lv_goto (tgt := 108) hx hb dX9_isJoined_151 (by decide) ?_
              exact hX108 _ _ _ _ _ _ _ hg hP hD hS (lv_sub hl [2, 3, 4, 1, 0] rfl)
            · have hg := hg.2 c_8
              refine lv_iconst (v := 1) hx hb dX9_isJoined_141 (by decide) ?_
              refine lv_goto (tgt := 146) hx hb dX9_isJoined_142 (by decide) ?_
              refine lv_istore (lv' := [(4, .int 1), (0, .ref o0), (2, .int x2), (3, .int x3), (5, .int x5)]) hx hb dX9_isJoined_146 hl (by decide) rfl (fun ls hl => ?_)
              obtain ⟨x5_10, ex5_10⟩ : ∃ y : Int32, y = x5 + 1 := ⟨_, rfl⟩
              have hg := hg x5_10 ex5_10
              refine lv_iinc (v := x5_10) (lv' := [(5, .int x5_10), (4, .int 1), (0, .ref o0), (2, .int x2), (3, .int x3)]) hx hb dX9_isJoined_148 hl (k := 4) rfl (by rw [ex5_10]; rfl) (by decide) rfl (fun ls hl => ?_)
              refine lv_goto (tgt := 108) hx hb dX9_isJoined_151 (by decide) ?_
              exact hX108 _ _ _ _ _ _ _ hg hP hD hS (lv_sub hl [2, 3, 4, 1, 0] rfl)
  have J90 : ∀ (X15 : Int32 × Int32 × Int32 × Int32 → Prop) (hX15 : ∀ (x2 : Int32) (x3 : Int32) (x4 : Int32) (x5 : Int32) (H : Heap) (locs : List Loc) (ls : Array Slot), X15 (x2, x3, x4, x5) → va_P G.1 classes (wX9 G o0 d0 S0) H → va_D A (wX9 G o0 d0 S0) → va_S A s.heap H locs → lv_has ls 7 [(0, .ref o0), (1, .int x1), (2, .int x2), (3, .int x3), (4, .int x4), (5, .int x5)] → W p l e rm_X9_isJoined s m args below meth c H locs 0 0 QQ (F0 m 15 ls [])) (x2 : Int32) (x3 : Int32) (x5 : Int32) (x6 : Int32) (t0 : Int32) (H : Heap) (locs : List Loc) (ls : Array Slot), G_X9_isJoined_90 x1 S0 Q X15 x2 x3 x5 x6 t0 → va_P G.1 classes (wX9 G o0 d0 S0) H → va_D A (wX9 G o0 d0 S0) → va_S A s.heap H locs → lv_has ls 7 [(0, .ref o0), (1, .int x1), (2, .int x2), (3, .int x3), (5, .int x5), (6, .int x6)] → W p l e rm_X9_isJoined s m args below meth c H locs 0 0 QQ (F0 m 90 ls [.int t0]) := by
    intro X15 hX15 x2 x3 x5 x6 t0 H locs ls hg hP hD hS hl
    refine lv_istore (lv' := [(4, .int t0), (0, .ref o0), (1, .int x1), (2, .int x2), (3, .int x3), (5, .int x5), (6, .int x6)]) hx hb dX9_isJoined_90 hl (by decide) rfl (fun ls hl => ?_)
    refine lv_iload_n hx hb dX9_isJoined_92 rfl (lv_at hl 4 rfl) ?_
    refine lv_iconst (v := 1) hx hb dX9_isJoined_93 (by decide) ?_
    refine lv_iload hx hb dX9_isJoined_94 (lv_at hl 6 rfl) ?_
    refine lv_ishl hx hb dX9_isJoined_96 ?_
    refine lv_ior hx hb dX9_isJoined_97 ?_
    refine lv_topi (fun x3_1 ex3_1 => ?_)
    have hg := hg x3_1 ex3_1
    refine lv_istore_n (lv' := [(3, .int x3_1), (4, .int t0), (0, .ref o0), (1, .int x1), (2, .int x2), (5, .int x5), (6, .int x6)]) hx hb dX9_isJoined_98 rfl hl (by decide) rfl (fun ls hl => ?_)
    obtain ⟨x5_2, ex5_2⟩ : ∃ y : Int32, y = x5 + 1 := ⟨_, rfl⟩
    have hg := hg x5_2 ex5_2
    refine lv_iinc (v := x5_2) (lv' := [(5, .int x5_2), (3, .int x3_1), (4, .int t0), (0, .ref o0), (1, .int x1), (2, .int x2), (6, .int x6)]) hx hb dX9_isJoined_99 hl (k := 5) rfl (by rw [ex5_2]; rfl) (by decide) rfl (fun ls hl => ?_)
    refine lv_goto (tgt := 15) hx hb dX9_isJoined_102 (by decide) ?_
    exact hX15 _ _ _ _ _ _ _ hg hP hD hS (lv_sub hl [3, 4, 5, 1, 2, 0] rfl)
  have J89 : ∀ (X15 : Int32 × Int32 × Int32 × Int32 → Prop) (hX15 : ∀ (x2 : Int32) (x3 : Int32) (x4 : Int32) (x5 : Int32) (H : Heap) (locs : List Loc) (ls : Array Slot), X15 (x2, x3, x4, x5) → va_P G.1 classes (wX9 G o0 d0 S0) H → va_D A (wX9 G o0 d0 S0) → va_S A s.heap H locs → lv_has ls 7 [(0, .ref o0), (1, .int x1), (2, .int x2), (3, .int x3), (4, .int x4), (5, .int x5)] → W p l e rm_X9_isJoined s m args below meth c H locs 0 0 QQ (F0 m 15 ls [])) (x2 : Int32) (x3 : Int32) (x5 : Int32) (x6 : Int32) (H : Heap) (locs : List Loc) (ls : Array Slot), G_X9_isJoined_89 x1 S0 Q X15 x2 x3 x5 x6 → va_P G.1 classes (wX9 G o0 d0 S0) H → va_D A (wX9 G o0 d0 S0) → va_S A s.heap H locs → lv_has ls 7 [(0, .ref o0), (1, .int x1), (2, .int x2), (3, .int x3), (5, .int x5), (6, .int x6)] → W p l e rm_X9_isJoined s m args below meth c H locs 0 0 QQ (F0 m 89 ls []) := by
    intro X15 hX15 x2 x3 x5 x6 H locs ls hg hP hD hS hl
    refine lv_iconst (v := 0) hx hb dX9_isJoined_89 (by decide) ?_
    exact J90 _ hX15 _ _ _ _ _ _ _ _ hg hP hD hS (lv_sub hl [0, 1, 2, 3, 4, 5] rfl)
  have L15 : ∀ (n : Nat) (x2 : Int32) (x3 : Int32) (x4 : Int32) (x5 : Int32) (H : Heap) (locs : List Loc) (ls : Array Slot), fx (F_X9_isJoined_15 x1 S0 Q) n (x2, x3, x4, x5) → va_P G.1 classes (wX9 G o0 d0 S0) H → va_D A (wX9 G o0 d0 S0) → va_S A s.heap H locs → lv_has ls 7 [(0, .ref o0), (1, .int x1), (2, .int x2), (3, .int x3), (4, .int x4), (5, .int x5)] → W p l e rm_X9_isJoined s m args below meth c H locs 0 0 QQ (F0 m 15 ls []) := by
    intro n
    induction n with
    | zero => intro x2 x3 x4 x5 H locs ls hg; exact hg.elim
    | succ n ih =>
      have hX15 := ih
      intro x2 x3 x4 x5 H locs ls hg hP hD hS hl
      refine lv_iload hx hb dX9_isJoined_15 (lv_at hl 5 rfl) ?_
      refine lv_aload_n hx hb dX9_isJoined_17 rfl (lv_at hl 0 rfl) ?_
      refine va_get (D := G.1) (ci := 7) (v := .ref (d0 32)) (C := RX9) (T := TX9) (N := 49) hx hb hT iX9 hown hK hP 0 rfl rfl 32 (by decide) (hT _ q_704) (fun _ h9 => h9) rfl dX9_isJoined_18 ?_
      refine lv_iload_n hx hb dX9_isJoined_21 rfl (lv_at hl 1 rfl) ?_
      refine va_iald hx hb hK hP 23 0 rfl rfl hg.1 dX9_isJoined_22 ?_
      have hg := hg.2
      refine lv_icmp_ge (tgt := 105) hx hb dX9_isJoined_23 (by decide) (fun c_1 => ?_) (fun c_1 => ?_)
      · have hg := hg.1 c_1
        refine lv_iconst (v := 0) hx hb dX9_isJoined_105 (by decide) ?_
        refine lv_istore (lv' := [(5, .int 0), (0, .ref o0), (1, .int x1), (2, .int x2), (3, .int x3), (4, .int x4)]) hx hb dX9_isJoined_106 hl (by decide) rfl (fun ls hl => ?_)
        obtain ⟨n, hg⟩ := hg
        exact L108 n _ _ _ _ _ _ _ hg hP hD hS (lv_sub hl [1, 3, 4, 5, 0] rfl)
      · have hg := hg.2 c_1
        refine lv_aload_n hx hb dX9_isJoined_26 rfl (lv_at hl 0 rfl) ?_
        refine va_get (D := G.1) (ci := 7) (v := .ref (d0 33)) (C := RX9) (T := TX9) (N := 49) hx hb hT iX9 hown hK hP 0 rfl rfl 33 (by decide) (hT _ q_705) (fun _ h9 => h9) rfl dX9_isJoined_27 ?_
        refine lv_iconst (v := 3) hx hb dX9_isJoined_30 (by decide) ?_
        refine lv_iload_n hx hb dX9_isJoined_31 rfl (lv_at hl 1 rfl) ?_
        refine lv_imul hx hb dX9_isJoined_32 ?_
        refine lv_iload hx hb dX9_isJoined_33 (lv_at hl 5 rfl) ?_
        refine lv_iadd hx hb dX9_isJoined_35 ?_
        refine va_iald hx hb hK hP 24 0 rfl rfl hg.1 dX9_isJoined_36 ?_
        have hg := hg.2
        refine lv_topi (fun x6_2 ex6_2 => ?_)
        have hg := hg x6_2 ex6_2
        refine lv_istore (lv' := [(6, .int x6_2), (0, .ref o0), (1, .int x1), (2, .int x2), (3, .int x3), (4, .int x4), (5, .int x5)]) hx hb dX9_isJoined_37 hl (by decide) rfl (fun ls hl => ?_)
        refine lv_iload hx hb dX9_isJoined_39 (lv_at hl 5 rfl) ?_
        refine lv_if_eq (tgt := 89) hx hb dX9_isJoined_41 (by decide) (fun c_3 => ?_) (fun c_3 => ?_)
        · have hg := hg.1 c_3
          exact J89 _ hX15 _ _ _ _ _ _ _ hg hP hD hS (lv_sub hl [1, 2, 3, 4, 6, 0] rfl)
        · have hg := hg.2 c_3
          refine lv_iload hx hb dX9_isJoined_44 (lv_at hl 0 rfl) ?_
          refine lv_aload_n hx hb dX9_isJoined_46 rfl (lv_at hl 1 rfl) ?_
          refine va_get (D := G.1) (ci := 7) (v := .int (S0 25 0)) (C := RX9) (T := TX9) (N := 49) hx hb hT iX9 hown hK hP 0 rfl rfl 25 (by decide) (hT _ q_697) (fun _ h9 => h9) rfl dX9_isJoined_47 ?_
          refine lv_icmp_ge (tgt := 89) hx hb dX9_isJoined_50 (by decide) (fun c_4 => ?_) (fun c_4 => ?_)
          · have hg := hg.1 c_4
            exact J89 _ hX15 _ _ _ _ _ _ _ hg hP hD hS (lv_sub hl [1, 2, 3, 4, 6, 0] rfl)
          · have hg := hg.2 c_4
            refine lv_aload_n hx hb dX9_isJoined_53 rfl (lv_at hl 1 rfl) ?_
            refine lv_iload hx hb dX9_isJoined_54 (lv_at hl 0 rfl) ?_
            refine lv_iload_n hx hb dX9_isJoined_56 rfl (lv_at hl 3 rfl) ?_
            refine zcVi (As := [.int x6_2, .int x2]) (rest := []) (C := RX9) Cx (c_X9_goesTo l G o0 d0 x6_2 x2 S0 _ hg) zv_X9_goesTo q_891 ⟨⟨rfl, rfl⟩, Nat.le_of_ble_eq_true rfl, Nat.le_of_ble_eq_true rfl⟩ (zJ.all hP hD hS hA) hS 7 rfl rfl rfl rfl hl.1 rfl (Nat.le_of_ble_eq_true rfl) dX9_isJoined_57 (fun r_5 _u H locs hg hP hD hS => ?_)
            refine lv_if_eq (tgt := 89) hx hb dX9_isJoined_60 (by decide) (fun c_6 => ?_) (fun c_6 => ?_)
            · have hg := hg.1 c_6
              exact J89 _ hX15 _ _ _ _ _ _ _ hg hP hD hS (lv_sub hl [1, 2, 3, 4, 6, 0] rfl)
            · have hg := hg.2 c_6
              refine lv_aload_n hx hb dX9_isJoined_63 rfl (lv_at hl 1 rfl) ?_
              refine lv_aload_n hx hb dX9_isJoined_64 rfl (lv_at hl 1 rfl) ?_
              refine va_get (D := G.1) (ci := 7) (v := .ref (d0 34)) (C := RX9) (T := TX9) (N := 49) hx hb hT iX9 hown hK hP 0 rfl rfl 34 (by decide) (hT _ q_706) (fun _ h9 => h9) rfl dX9_isJoined_65 ?_
              refine lv_iconst (v := 3) hx hb dX9_isJoined_68 (by decide) ?_
              refine lv_iload_n hx hb dX9_isJoined_69 rfl (lv_at hl 2 rfl) ?_
              refine lv_imul hx hb dX9_isJoined_70 ?_
              refine lv_iload hx hb dX9_isJoined_71 (lv_at hl 6 rfl) ?_
              refine lv_iadd hx hb dX9_isJoined_73 ?_
              refine va_iald hx hb hK hP 25 0 rfl rfl hg.1 dX9_isJoined_74 ?_
              have hg := hg.2
              refine lv_iload hx hb dX9_isJoined_75 (lv_at hl 0 rfl) ?_
              refine lv_bipush (v := 24) hx hb dX9_isJoined_77 (by decide) ?_
              refine zcVi (As := [.int (S0 34 ((3 * x1) + x5).toNatClampNeg), .int x6_2, .int 24]) (rest := []) (C := RX9) Cx (c_X9_isBefore l G o0 d0 (S0 34 ((3 * x1) + x5).toNatClampNeg) x6_2 24 S0 _ hg) zv_X9_isBefore q_895 ⟨⟨rfl, rfl⟩, Nat.le_of_ble_eq_true rfl, Nat.le_of_ble_eq_true rfl⟩ (zJ.all hP hD hS hA) hS 7 rfl rfl rfl rfl hl.1 rfl (Nat.le_of_ble_eq_true rfl) dX9_isJoined_79 (fun r_7 _u H locs hg hP hD hS => ?_)
              refine lv_if_eq (tgt := 89) hx hb dX9_isJoined_82 (by decide) (fun c_8 => ?_) (fun c_8 => ?_)
              · have hg := hg.1 c_8
                exact J89 _ hX15 _ _ _ _ _ _ _ hg hP hD hS (lv_sub hl [1, 2, 3, 4, 6, 0] rfl)
              · have hg := hg.2 c_8
                refine lv_iconst (v := 1) hx hb dX9_isJoined_85 (by decide) ?_
                refine lv_goto (tgt := 90) hx hb dX9_isJoined_86 (by decide) ?_
                exact J90 _ hX15 _ _ _ _ _ _ _ _ hg hP hD hS (lv_sub hl [1, 2, 3, 4, 6, 0] rfl)
  refine lv_aload_n hx hb dX9_isJoined_0 rfl (lv_at hl 0 rfl) ?_
  refine va_get (D := G.1) (ci := 7) (v := .ref (d0 28)) (C := RX9) (T := TX9) (N := 49) hx hb hT iX9 hown hK hP 0 rfl rfl 28 (by decide) (hT _ q_700) (fun _ h9 => h9) rfl dX9_isJoined_1 ?_
  refine lv_iload_n hx hb dX9_isJoined_4 rfl (lv_at hl 1 rfl) ?_
  refine va_iald hx hb hK hP 19 0 rfl rfl hg.1 dX9_isJoined_5 ?_
  have hg := hg.2
  refine lv_topi (fun x2_1 ex2_1 => ?_)
  have hg := hg x2_1 ex2_1
  refine lv_istore_n (lv' := [(2, .int x2_1), (0, .ref o0), (1, .int x1)]) hx hb dX9_isJoined_6 rfl hl (by decide) rfl (fun ls hl => ?_)
  refine lv_iconst (v := 0) hx hb dX9_isJoined_7 (by decide) ?_
  refine lv_istore_n (lv' := [(3, .int 0), (2, .int x2_1), (0, .ref o0), (1, .int x1)]) hx hb dX9_isJoined_8 rfl hl (by decide) rfl (fun ls hl => ?_)
  refine lv_iconst (v := 1) hx hb dX9_isJoined_9 (by decide) ?_
  refine lv_istore (lv' := [(4, .int 1), (3, .int 0), (2, .int x2_1), (0, .ref o0), (1, .int x1)]) hx hb dX9_isJoined_10 hl (by decide) rfl (fun ls hl => ?_)
  refine lv_iconst (v := 0) hx hb dX9_isJoined_12 (by decide) ?_
  refine lv_istore (lv' := [(5, .int 0), (4, .int 1), (3, .int 0), (2, .int x2_1), (0, .ref o0), (1, .int x1)]) hx hb dX9_isJoined_13 hl (by decide) rfl (fun ls hl => ?_)
  obtain ⟨n, hg⟩ := hg
  exact L15 n _ _ _ _ _ _ _ hg hP hD hS (lv_sub hl [4, 5, 3, 2, 1, 0] rfl)
theorem zv_X9_isStrict : zV yX9_isStrict RX9 cX9_isStrict 4 (some .boolean) 0 := ⟨q_885, qp_12, q_8, q_886, by decide +kernel⟩
set_option maxHeartbeats 4000000 in
set_option maxRecDepth 100000 in
theorem c_X9_isStrict (l : Launch) (G : ZG) (o0 : Nat) (d0 : Nat → Nat) (S0 : ZS) (Q : Int32 → ZS → Prop) (hg : g_X9_isStrict S0 Q) : Ki l G yX9_isStrict cX9_isStrict 4 .boolean rm_X9_isStrict [.ref o0] (wX9 G o0 d0 S0) (fun u : ZS => wX9 G o0 d0 u) (fun r u => Q r u) := by
  refine Ki.of (by decide) (Nat.le_of_ble_eq_true rfl) ?_
  intro p e s m args below meth c A QQ ls Cx hret hl hP hD hS
  obtain ⟨hx, hb, hml, hown, hT, hK, hA⟩ := id Cx
  have hl : lv_has ls 4 [(0, .ref o0)] := hl
  have L116 : ∀ (n : Nat) (x1 : Int32) (x2 : Int32) (S0 : ZS) (H : Heap) (locs : List Loc) (ls : Array Slot), fx (F_X9_isStrict_116 Q) n (x1, x2, S0) → va_P G.1 classes (wX9 G o0 d0 S0) H → va_D A (wX9 G o0 d0 S0) → va_S A s.heap H locs → lv_has ls 4 [(0, .ref o0), (1, .int x1), (2, .int x2)] → W p l e rm_X9_isStrict s m args below meth c H locs 0 0 QQ (F0 m 116 ls []) := by
    intro n
    induction n with
    | zero => intro x1 x2 S0 H locs ls hg; exact hg.elim
    | succ n ih =>
      have hX116 := ih
      intro x1 x2 S0 H locs ls hg hP hD hS hl
      refine lv_iload_n hx hb dX9_isStrict_116 rfl (lv_at hl 2 rfl) ?_
      refine lv_aload_n hx hb dX9_isStrict_117 rfl (lv_at hl 0 rfl) ?_
      refine va_get (D := G.1) (ci := 7) (v := .int (S0 24 0)) (C := RX9) (T := TX9) (N := 49) hx hb hT iX9 hown hK hP 0 rfl rfl 24 (by decide) (hT _ q_696) (fun _ h9 => h9) rfl dX9_isStrict_118 ?_
      refine lv_icmp_ge (tgt := 205) hx hb dX9_isStrict_121 (by decide) (fun c_1 => ?_) (fun c_1 => ?_)
      · have hg := hg.1 c_1
        refine lv_iload_n hx hb dX9_isStrict_205 rfl (lv_at hl 1 rfl) ?_
        exact hret _ _ _ (S0) _ _ hg.2 hg.1.nar hP hD hS dX9_isStrict_206
      · have hg := hg.2 c_1
        refine lv_iload_n hx hb dX9_isStrict_124 rfl (lv_at hl 1 rfl) ?_
        refine lv_if_eq (tgt := 205) hx hb dX9_isStrict_125 (by decide) (fun c_2 => ?_) (fun c_2 => ?_)
        · have hg := hg.1 c_2
          refine lv_iload_n hx hb dX9_isStrict_205 rfl (lv_at hl 1 rfl) ?_
          exact hret _ _ _ (S0) _ _ hg.2 hg.1.nar hP hD hS dX9_isStrict_206
        · have hg := hg.2 c_2
          refine lv_aload_n hx hb dX9_isStrict_128 rfl (lv_at hl 0 rfl) ?_
          refine va_get (D := G.1) (ci := 7) (v := .ref (d0 28)) (C := RX9) (T := TX9) (N := 49) hx hb hT iX9 hown hK hP 0 rfl rfl 28 (by decide) (hT _ q_700) (fun _ h9 => h9) rfl dX9_isStrict_129 ?_
          refine lv_iload_n hx hb dX9_isStrict_132 rfl (lv_at hl 2 rfl) ?_
          refine va_iald hx hb hK hP 19 0 rfl rfl hg.1 dX9_isStrict_133 ?_
          have hg := hg.2
          refine lv_topi (fun x3_3 ex3_3 => ?_)
          have hg := hg x3_3 ex3_3
          refine lv_istore_n (lv' := [(3, .int x3_3), (0, .ref o0), (1, .int x1), (2, .int x2)]) hx hb dX9_isStrict_134 rfl hl (by decide) rfl (fun ls hl => ?_)
          refine lv_aload_n hx hb dX9_isStrict_135 rfl (lv_at hl 1 rfl) ?_
          refine va_get (D := G.1) (ci := 7) (v := .ref (d0 27)) (C := RX9) (T := TX9) (N := 49) hx hb hT iX9 hown hK hP 0 rfl rfl 27 (by decide) (hT _ q_699) (fun _ h9 => h9) rfl dX9_isStrict_136 ?_
          refine lv_iload_n hx hb dX9_isStrict_139 rfl (lv_at hl 3 rfl) ?_
          refine va_iald hx hb hK hP 18 0 rfl rfl hg.1 dX9_isStrict_140 ?_
          have hg := hg.2
          refine lv_iconst (v := 3) hx hb dX9_isStrict_141 (by decide) ?_
          refine lv_icmp_ne (tgt := 153) hx hb dX9_isStrict_142 (by decide) (fun c_4 => ?_) (fun c_4 => ?_)
          · have hg := hg.2 c_4
            refine lv_aload_n hx hb dX9_isStrict_153 rfl (lv_at hl 1 rfl) ?_
            refine va_get (D := G.1) (ci := 7) (v := .ref (d0 27)) (C := RX9) (T := TX9) (N := 49) hx hb hT iX9 hown hK hP 0 rfl rfl 27 (by decide) (hT _ q_699) (fun _ h9 => h9) rfl dX9_isStrict_154 ?_
            refine lv_iload_n hx hb dX9_isStrict_157 rfl (lv_at hl 3 rfl) ?_
            refine va_iald hx hb hK hP 18 0 rfl rfl hg.1 dX9_isStrict_158 ?_
            have hg := hg.2
            refine lv_iconst (v := 2) hx hb dX9_isStrict_159 (by decide) ?_
            refine lv_icmp_ne (tgt := 193) hx hb dX9_isStrict_160 (by decide) (fun c_5 => ?_) (fun c_5 => ?_)
            · have hg := hg.2 c_5
              refine lv_iconst (v := 1) hx hb dX9_isStrict_193 (by decide) ?_
              refine lv_goto (tgt := 198) hx hb dX9_isStrict_194 (by decide) ?_
              refine lv_istore_n (lv' := [(1, .int 1), (3, .int x3_3), (0, .ref o0), (2, .int x2)]) hx hb dX9_isStrict_198 rfl hl (by decide) rfl (fun ls hl => ?_)
              obtain ⟨x2_6, ex2_6⟩ : ∃ y : Int32, y = x2 + 1 := ⟨_, rfl⟩
              have hg := hg x2_6 ex2_6
              refine lv_iinc (v := x2_6) (lv' := [(2, .int x2_6), (1, .int 1), (3, .int x3_3), (0, .ref o0)]) hx hb dX9_isStrict_199 hl (k := 3) rfl (by rw [ex2_6]; rfl) (by decide) rfl (fun ls hl => ?_)
              refine lv_goto (tgt := 116) hx hb dX9_isStrict_202 (by decide) ?_
              exact hX116 _ _ _ _ _ _ hg hP hD hS (lv_sub hl [3, 1, 0] rfl)
            · have hg := hg.1 c_5
              refine lv_aload_n hx hb dX9_isStrict_163 rfl (lv_at hl 1 rfl) ?_
              refine lv_aload_n hx hb dX9_isStrict_164 rfl (lv_at hl 1 rfl) ?_
              refine va_get (D := G.1) (ci := 7) (v := .ref (d0 30)) (C := RX9) (T := TX9) (N := 49) hx hb hT iX9 hown hK hP 0 rfl rfl 30 (by decide) (hT _ q_702) (fun _ h9 => h9) rfl dX9_isStrict_165 ?_
              refine lv_iload_n hx hb dX9_isStrict_168 rfl (lv_at hl 3 rfl) ?_
              refine va_iald hx hb hK hP 21 0 rfl rfl hg.1 dX9_isStrict_169 ?_
              have hg := hg.2
              refine lv_iload_n hx hb dX9_isStrict_170 rfl (lv_at hl 0 rfl) ?_
              refine lv_iload_n hx hb dX9_isStrict_171 rfl (lv_at hl 3 rfl) ?_
              refine zcVi (As := [.int (S0 30 x2.toNatClampNeg), .int x3_3, .int x2]) (rest := []) (C := RX9) Cx (c_X9_isBefore l G o0 d0 (S0 30 x2.toNatClampNeg) x3_3 x2 S0 _ hg) zv_X9_isBefore q_895 ⟨⟨rfl, rfl⟩, Nat.le_of_ble_eq_true rfl, Nat.le_of_ble_eq_true rfl⟩ (zJ.all hP hD hS hA) hS 7 rfl rfl rfl rfl hl.1 rfl (Nat.le_of_ble_eq_true rfl) dX9_isStrict_172 (fun r_7 _u H locs hg hP hD hS => ?_)
              refine lv_if_eq (tgt := 197) hx hb dX9_isStrict_175 (by decide) (fun c_8 => ?_) (fun c_8 => ?_)
              · have hg := hg.1 c_8
                refine lv_iconst (v := 0) hx hb dX9_isStrict_197 (by decide) ?_
                refine lv_istore_n (lv' := [(1, .int 0), (3, .int x3_3), (0, .ref o0), (2, .int x2)]) hx hb dX9_isStrict_198 rfl hl (by decide) rfl (fun ls hl => ?_)
                obtain ⟨x2_9, ex2_9⟩ : ∃ y : Int32, y = x2 + 1 := ⟨_, rfl⟩
                have hg := hg x2_9 ex2_9
                refine lv_iinc (v := x2_9) (lv' := [(2, .int x2_9), (1, .int 0), (3, .int x3_3), (0, .ref o0)]) hx hb dX9_isStrict_199 hl (k := 3) rfl (by rw [ex2_9]; rfl) (by decide) rfl (fun ls hl => ?_)
                refine lv_goto (tgt := 116) hx hb dX9_isStrict_202 (by decide) ?_
                exact hX116 _ _ _ _ _ _ hg hP hD hS (lv_sub hl [3, 1, 0] rfl)
              · have hg := hg.2 c_8
                refine lv_aload_n hx hb dX9_isStrict_178 rfl (lv_at hl 1 rfl) ?_
                refine lv_aload_n hx hb dX9_isStrict_179 rfl (lv_at hl 1 rfl) ?_
                refine va_get (D := G.1) (ci := 7) (v := .ref (d0 31)) (C := RX9) (T := TX9) (N := 49) hx hb hT iX9 hown hK hP 0 rfl rfl 31 (by decide) (hT _ q_703) (fun _ h9 => h9) rfl dX9_isStrict_180 ?_
                refine lv_iload_n hx hb dX9_isStrict_183 rfl (lv_at hl 3 rfl) ?_
                refine va_iald hx hb hK hP 22 0 rfl rfl hg.1 dX9_isStrict_184 ?_
                have hg := hg.2
                refine lv_iload_n hx hb dX9_isStrict_185 rfl (lv_at hl 0 rfl) ?_
                refine lv_iload_n hx hb dX9_isStrict_186 rfl (lv_at hl 3 rfl) ?_
                refine zcVi (As := [.int (S0 31 x2.toNatClampNeg), .int x3_3, .int x2]) (rest := []) (C := RX9) Cx (c_X9_isBefore l G o0 d0 (S0 31 x2.toNatClampNeg) x3_3 x2 S0 _ hg) zv_X9_isBefore q_895 ⟨⟨rfl, rfl⟩, Nat.le_of_ble_eq_true rfl, Nat.le_of_ble_eq_true rfl⟩ (zJ.all hP hD hS hA) hS 7 rfl rfl rfl rfl hl.1 rfl (Nat.le_of_ble_eq_true rfl) dX9_isStrict_187 (fun r_10 _u H locs hg hP hD hS => ?_)
                refine lv_if_eq (tgt := 197) hx hb dX9_isStrict_190 (by decide) (fun c_11 => ?_) (fun c_11 => ?_)
                · have hg := hg.1 c_11
                  refine lv_iconst (v := 0) hx hb dX9_isStrict_197 (by decide) ?_
                  refine lv_istore_n (lv' := [(1, .int 0), (3, .int x3_3), (0, .ref o0), (2, .int x2)]) hx hb dX9_isStrict_198 rfl hl (by decide) rfl (fun ls hl => ?_)
                  obtain ⟨x2_12, ex2_12⟩ : ∃ y : Int32, y = x2 + 1 := ⟨_, rfl⟩
                  have hg := hg x2_12 ex2_12
                  refine lv_iinc (v := x2_12) (lv' := [(2, .int x2_12), (1, .int 0), (3, .int x3_3), (0, .ref o0)]) hx hb dX9_isStrict_199 hl (k := 3) rfl (by rw [ex2_12]; rfl) (by decide) rfl (fun ls hl => ?_)
                  refine lv_goto (tgt := 116) hx hb dX9_isStrict_202 (by decide) ?_
                  exact hX116 _ _ _ _ _ _ hg hP hD hS (lv_sub hl [3, 1, 0] rfl)
                · have hg := hg.2 c_11
                  refine lv_iconst (v := 1) hx hb dX9_isStrict_193 (by decide) ?_
                  refine lv_goto (tgt := 198) hx hb dX9_isStrict_194 (by decide) ?_
                  refine lv_istore_n (lv' := [(1, .int 1), (3, .int x3_3), (0, .ref o0), (2, .int x2)]) hx hb dX9_isStrict_198 rfl hl (by decide) rfl (fun ls hl => ?_)
                  obtain ⟨x2_13, ex2_13⟩ : ∃ y : Int32, y = x2 + 1 := ⟨_, rfl⟩
                  have hg := hg x2_13 ex2_13
                  refine lv_iinc (v := x2_13) (lv' := [(2, .int x2_13), (1, .int 1), (3, .int x3_3), (0, .ref o0)]) hx hb dX9_isStrict_199 hl (k := 3) rfl (by rw [ex2_13]; rfl) (by decide) rfl (fun ls hl => ?_)
                  refine lv_goto (tgt := 116) hx hb dX9_isStrict_202 (by decide) ?_
                  exact hX116 _ _ _ _ _ _ hg hP hD hS (lv_sub hl [3, 1, 0] rfl)
          · have hg := hg.1 c_4
            refine lv_aload_n hx hb dX9_isStrict_145 rfl (lv_at hl 1 rfl) ?_
            refine lv_iload_n hx hb dX9_isStrict_146 rfl (lv_at hl 3 rfl) ?_
            refine zcVi (As := [.int x2]) (rest := []) (C := RX9) Cx (c_X9_isJoined l G o0 d0 x2 S0 _ hg) zv_X9_isJoined q_902 ⟨⟨rfl, rfl⟩, Nat.le_of_ble_eq_true rfl, Nat.le_of_ble_eq_true rfl⟩ (zJ.all hP hD hS hA) hS 7 rfl rfl rfl rfl hl.1 rfl (Nat.le_of_ble_eq_true rfl) dX9_isStrict_147 (fun r_14 _u H locs hg hP hD hS => ?_)
            refine lv_goto (tgt := 198) hx hb dX9_isStrict_150 (by decide) ?_
            refine lv_istore_n (lv' := [(1, .int r_14), (3, .int x3_3), (0, .ref o0), (2, .int x2)]) hx hb dX9_isStrict_198 rfl hl (by decide) rfl (fun ls hl => ?_)
            obtain ⟨x2_15, ex2_15⟩ : ∃ y : Int32, y = x2 + 1 := ⟨_, rfl⟩
            have hg := hg x2_15 ex2_15
            refine lv_iinc (v := x2_15) (lv' := [(2, .int x2_15), (1, .int r_14), (3, .int x3_3), (0, .ref o0)]) hx hb dX9_isStrict_199 hl (k := 3) rfl (by rw [ex2_15]; rfl) (by decide) rfl (fun ls hl => ?_)
            refine lv_goto (tgt := 116) hx hb dX9_isStrict_202 (by decide) ?_
            exact hX116 _ _ _ _ _ _ hg hP hD hS (lv_sub hl [3, 1, 0] rfl)
  have L65 : ∀ (n : Nat) (x1 : Int32) (x2 : Int32) (S0 : ZS) (H : Heap) (locs : List Loc) (ls : Array Slot), fx (F_X9_isStrict_65 Q) n (x1, x2, S0) → va_P G.1 classes (wX9 G o0 d0 S0) H → va_D A (wX9 G o0 d0 S0) → va_S A s.heap H locs → lv_has ls 4 [(0, .ref o0), (1, .int x1), (2, .int x2)] → W p l e rm_X9_isStrict s m args below meth c H locs 0 0 QQ (F0 m 65 ls []) := by
    intro n
    induction n with
    | zero => intro x1 x2 S0 H locs ls hg; exact hg.elim
    | succ n ih =>
      have hX65 := ih
      intro x1 x2 S0 H locs ls hg hP hD hS hl
      refine lv_iload_n hx hb dX9_isStrict_65 rfl (lv_at hl 2 rfl) ?_
      refine lv_aload_n hx hb dX9_isStrict_66 rfl (lv_at hl 0 rfl) ?_
      refine va_get (D := G.1) (ci := 7) (v := .int (S0 25 0)) (C := RX9) (T := TX9) (N := 49) hx hb hT iX9 hown hK hP 0 rfl rfl 25 (by decide) (hT _ q_697) (fun _ h9 => h9) rfl dX9_isStrict_67 ?_
      refine lv_icmp_ge (tgt := 114) hx hb dX9_isStrict_70 (by decide) (fun c_1 => ?_) (fun c_1 => ?_)
      · have hg := hg.1 c_1
        refine lv_iconst (v := 0) hx hb dX9_isStrict_114 (by decide) ?_
        refine lv_istore_n (lv' := [(2, .int 0), (0, .ref o0), (1, .int x1)]) hx hb dX9_isStrict_115 rfl hl (by decide) rfl (fun ls hl => ?_)
        obtain ⟨n, hg⟩ := hg
        exact L116 n _ _ _ _ _ _ hg hP hD hS (lv_sub hl [1, 2, 0] rfl)
      · have hg := hg.2 c_1
        refine lv_iload_n hx hb dX9_isStrict_73 rfl (lv_at hl 1 rfl) ?_
        refine lv_if_eq (tgt := 106) hx hb dX9_isStrict_74 (by decide) (fun c_2 => ?_) (fun c_2 => ?_)
        · have hg := hg.1 c_2
          refine lv_iconst (v := 0) hx hb dX9_isStrict_106 (by decide) ?_
          refine lv_istore_n (lv' := [(1, .int 0), (0, .ref o0), (2, .int x2)]) hx hb dX9_isStrict_107 rfl hl (by decide) rfl (fun ls hl => ?_)
          obtain ⟨x2_3, ex2_3⟩ : ∃ y : Int32, y = x2 + 1 := ⟨_, rfl⟩
          have hg := hg x2_3 ex2_3
          refine lv_iinc (v := x2_3) (lv' := [(2, .int x2_3), (1, .int 0), (0, .ref o0)]) hx hb dX9_isStrict_108 hl (k := 2) rfl (by rw [ex2_3]; rfl) (by decide) rfl (fun ls hl => ?_)
          refine lv_goto (tgt := 65) hx hb dX9_isStrict_111 (by decide) ?_
          exact hX65 _ _ _ _ _ _ hg hP hD hS (lv_sub hl [2, 1, 0] rfl)
        · have hg := hg.2 c_2
          refine lv_aload_n hx hb dX9_isStrict_77 rfl (lv_at hl 0 rfl) ?_
          refine va_get (D := G.1) (ci := 7) (v := .ref (d0 36)) (C := RX9) (T := TX9) (N := 49) hx hb hT iX9 hown hK hP 0 rfl rfl 36 (by decide) (hT _ q_708) (fun _ h9 => h9) rfl dX9_isStrict_78 ?_
          refine lv_iload_n hx hb dX9_isStrict_81 rfl (lv_at hl 2 rfl) ?_
          refine va_iald hx hb hK hP 27 0 rfl rfl hg.1 dX9_isStrict_82 ?_
          have hg := hg.2
          refine lv_if_eq (tgt := 102) hx hb dX9_isStrict_83 (by decide) (fun c_4 => ?_) (fun c_4 => ?_)
          · have hg := hg.1 c_4
            refine lv_iconst (v := 1) hx hb dX9_isStrict_102 (by decide) ?_
            refine lv_goto (tgt := 107) hx hb dX9_isStrict_103 (by decide) ?_
            refine lv_istore_n (lv' := [(1, .int 1), (0, .ref o0), (2, .int x2)]) hx hb dX9_isStrict_107 rfl hl (by decide) rfl (fun ls hl => ?_)
            obtain ⟨x2_5, ex2_5⟩ : ∃ y : Int32, y = x2 + 1 := ⟨_, rfl⟩
            have hg := hg x2_5 ex2_5
            refine lv_iinc (v := x2_5) (lv' := [(2, .int x2_5), (1, .int 1), (0, .ref o0)]) hx hb dX9_isStrict_108 hl (k := 2) rfl (by rw [ex2_5]; rfl) (by decide) rfl (fun ls hl => ?_)
            refine lv_goto (tgt := 65) hx hb dX9_isStrict_111 (by decide) ?_
            exact hX65 _ _ _ _ _ _ hg hP hD hS (lv_sub hl [2, 1, 0] rfl)
          · have hg := hg.2 c_4
            refine lv_aload_n hx hb dX9_isStrict_86 rfl (lv_at hl 0 rfl) ?_
            refine lv_aload_n hx hb dX9_isStrict_87 rfl (lv_at hl 0 rfl) ?_
            refine va_get (D := G.1) (ci := 7) (v := .ref (d0 37)) (C := RX9) (T := TX9) (N := 49) hx hb hT iX9 hown hK hP 0 rfl rfl 37 (by decide) (hT _ q_709) (fun _ h9 => h9) rfl dX9_isStrict_88 ?_
            refine lv_iload_n hx hb dX9_isStrict_91 rfl (lv_at hl 2 rfl) ?_
            refine va_iald hx hb hK hP 28 0 rfl rfl hg.1 dX9_isStrict_92 ?_
            have hg := hg.2
            refine lv_iload_n hx hb dX9_isStrict_93 rfl (lv_at hl 2 rfl) ?_
            refine lv_bipush (v := 24) hx hb dX9_isStrict_94 (by decide) ?_
            refine zcVi (As := [.int (S0 37 x2.toNatClampNeg), .int x2, .int 24]) (rest := []) (C := RX9) Cx (c_X9_isBefore l G o0 d0 (S0 37 x2.toNatClampNeg) x2 24 S0 _ hg) zv_X9_isBefore q_895 ⟨⟨rfl, rfl⟩, Nat.le_of_ble_eq_true rfl, Nat.le_of_ble_eq_true rfl⟩ (zJ.all hP hD hS hA) hS 7 rfl rfl rfl rfl hl.1 rfl (Nat.le_of_ble_eq_true rfl) dX9_isStrict_96 (fun r_6 _u H locs hg hP hD hS => ?_)
            refine lv_if_eq (tgt := 106) hx hb dX9_isStrict_99 (by decide) (fun c_7 => ?_) (fun c_7 => ?_)
            · have hg := hg.1 c_7
              refine lv_iconst (v := 0) hx hb dX9_isStrict_106 (by decide) ?_
              refine lv_istore_n (lv' := [(1, .int 0), (0, .ref o0), (2, .int x2)]) hx hb dX9_isStrict_107 rfl hl (by decide) rfl (fun ls hl => ?_)
              obtain ⟨x2_8, ex2_8⟩ : ∃ y : Int32, y = x2 + 1 := ⟨_, rfl⟩
              have hg := hg x2_8 ex2_8
              refine lv_iinc (v := x2_8) (lv' := [(2, .int x2_8), (1, .int 0), (0, .ref o0)]) hx hb dX9_isStrict_108 hl (k := 2) rfl (by rw [ex2_8]; rfl) (by decide) rfl (fun ls hl => ?_)
              refine lv_goto (tgt := 65) hx hb dX9_isStrict_111 (by decide) ?_
              exact hX65 _ _ _ _ _ _ hg hP hD hS (lv_sub hl [2, 1, 0] rfl)
            · have hg := hg.2 c_7
              refine lv_iconst (v := 1) hx hb dX9_isStrict_102 (by decide) ?_
              refine lv_goto (tgt := 107) hx hb dX9_isStrict_103 (by decide) ?_
              refine lv_istore_n (lv' := [(1, .int 1), (0, .ref o0), (2, .int x2)]) hx hb dX9_isStrict_107 rfl hl (by decide) rfl (fun ls hl => ?_)
              obtain ⟨x2_9, ex2_9⟩ : ∃ y : Int32, y = x2 + 1 := ⟨_, rfl⟩
              have hg := hg x2_9 ex2_9
              refine lv_iinc (v := x2_9) (lv' := [(2, .int x2_9), (1, .int 1), (0, .ref o0)]) hx hb dX9_isStrict_108 hl (k := 2) rfl (by rw [ex2_9]; rfl) (by decide) rfl (fun ls hl => ?_)
              refine lv_goto (tgt := 65) hx hb dX9_isStrict_111 (by decide) ?_
              exact hX65 _ _ _ _ _ _ hg hP hD hS (lv_sub hl [2, 1, 0] rfl)
  have L12 : ∀ (X2 : Int32 × ZS → Prop) (hX2 : ∀ (x1 : Int32) (S0 : ZS) (H : Heap) (locs : List Loc) (ls : Array Slot), X2 (x1, S0) → va_P G.1 classes (wX9 G o0 d0 S0) H → va_D A (wX9 G o0 d0 S0) → va_S A s.heap H locs → lv_has ls 4 [(0, .ref o0), (1, .int x1)] → W p l e rm_X9_isStrict s m args below meth c H locs 0 0 QQ (F0 m 2 ls [])) (n : Nat) (x1 : Int32) (x2 : Int32) (S0 : ZS) (H : Heap) (locs : List Loc) (ls : Array Slot), fx (F_X9_isStrict_12 Q X2) n (x1, x2, S0) → va_P G.1 classes (wX9 G o0 d0 S0) H → va_D A (wX9 G o0 d0 S0) → va_S A s.heap H locs → lv_has ls 4 [(0, .ref o0), (1, .int x1), (2, .int x2)] → W p l e rm_X9_isStrict s m args below meth c H locs 0 0 QQ (F0 m 12 ls []) := by
    intro X2 hX2 n
    induction n with
    | zero => intro x1 x2 S0 H locs ls hg; exact hg.elim
    | succ n ih =>
      have hX12 := ih
      intro x1 x2 S0 H locs ls hg hP hD hS hl
      refine lv_iload_n hx hb dX9_isStrict_12 rfl (lv_at hl 2 rfl) ?_
      refine lv_iconst (v := 2) hx hb dX9_isStrict_13 (by decide) ?_
      refine lv_icmp_ge (tgt := 51) hx hb dX9_isStrict_14 (by decide) (fun c_1 => ?_) (fun c_1 => ?_)
      · have hg := hg.1 c_1
        obtain ⟨x1_2, ex1_2⟩ : ∃ y : Int32, y = x1 + 1 := ⟨_, rfl⟩
        have hg := hg x1_2 ex1_2
        refine lv_iinc (v := x1_2) (lv' := [(1, .int x1_2), (0, .ref o0), (2, .int x2)]) hx hb dX9_isStrict_51 hl (k := 1) rfl (by rw [ex1_2]; rfl) (by decide) rfl (fun ls hl => ?_)
        refine lv_goto (tgt := 2) hx hb dX9_isStrict_54 (by decide) ?_
        exact hX2 _ _ _ _ _ hg hP hD hS (lv_sub hl [1, 0] rfl)
      · have hg := hg.2 c_1
        refine lv_aload_n hx hb dX9_isStrict_17 rfl (lv_at hl 0 rfl) ?_
        refine va_get (D := G.1) (ci := 7) (v := .ref (d0 38)) (C := RX9) (T := TX9) (N := 49) hx hb hT iX9 hown hK hP 0 rfl rfl 38 (by decide) (hT _ q_710) (fun _ h9 => h9) rfl dX9_isStrict_18 ?_
        refine lv_bipush (v := 96) hx hb dX9_isStrict_21 (by decide) ?_
        refine lv_iconst (v := 2) hx hb dX9_isStrict_23 (by decide) ?_
        refine lv_iload_n hx hb dX9_isStrict_24 rfl (lv_at hl 1 rfl) ?_
        refine lv_imul hx hb dX9_isStrict_25 ?_
        refine lv_iadd hx hb dX9_isStrict_26 ?_
        refine lv_iload_n hx hb dX9_isStrict_27 rfl (lv_at hl 2 rfl) ?_
        refine lv_iadd hx hb dX9_isStrict_28 ?_
        refine va_iald hx hb hK hP 29 0 rfl rfl hg.1 dX9_isStrict_29 ?_
        have hg := hg.2
        refine lv_topi (fun x3_3 ex3_3 => ?_)
        have hg := hg x3_3 ex3_3
        refine lv_istore_n (lv' := [(3, .int x3_3), (0, .ref o0), (1, .int x1), (2, .int x2)]) hx hb dX9_isStrict_30 rfl hl (by decide) rfl (fun ls hl => ?_)
        refine lv_iload_n hx hb dX9_isStrict_31 rfl (lv_at hl 0 rfl) ?_
        refine lv_if_eq (tgt := 43) hx hb dX9_isStrict_32 (by decide) (fun c_4 => ?_) (fun c_4 => ?_)
        · have hg := hg.1 c_4
          refine lv_iconst (v := 0) hx hb dX9_isStrict_43 (by decide) ?_
          exact hret _ _ _ (S0) _ _ hg rfl hP hD hS dX9_isStrict_44
        · have hg := hg.2 c_4
          refine lv_iload_n hx hb dX9_isStrict_35 rfl (lv_at hl 0 rfl) ?_
          refine lv_aload_n hx hb dX9_isStrict_36 rfl (lv_at hl 1 rfl) ?_
          refine va_get (D := G.1) (ci := 7) (v := .int (S0 25 0)) (C := RX9) (T := TX9) (N := 49) hx hb hT iX9 hown hK hP 0 rfl rfl 25 (by decide) (hT _ q_697) (fun _ h9 => h9) rfl dX9_isStrict_37 ?_
          refine lv_icmp_lt (tgt := 45) hx hb dX9_isStrict_40 (by decide) (fun c_5 => ?_) (fun c_5 => ?_)
          · have hg := hg.1 c_5
            obtain ⟨x2_6, ex2_6⟩ : ∃ y : Int32, y = x2 + 1 := ⟨_, rfl⟩
            have hg := hg x2_6 ex2_6
            refine lv_iinc (v := x2_6) (lv' := [(2, .int x2_6), (3, .int x3_3), (0, .ref o0), (1, .int x1)]) hx hb dX9_isStrict_45 hl (k := 3) rfl (by rw [ex2_6]; rfl) (by decide) rfl (fun ls hl => ?_)
            refine lv_goto (tgt := 12) hx hb dX9_isStrict_48 (by decide) ?_
            exact hX12 _ _ _ _ _ _ hg hP hD hS (lv_sub hl [2, 3, 0] rfl)
          · have hg := hg.2 c_5
            refine lv_iconst (v := 0) hx hb dX9_isStrict_43 (by decide) ?_
            exact hret _ _ _ (S0) _ _ hg rfl hP hD hS dX9_isStrict_44
  have L2 : ∀ (n : Nat) (x1 : Int32) (S0 : ZS) (H : Heap) (locs : List Loc) (ls : Array Slot), fx (F_X9_isStrict_2 Q) n (x1, S0) → va_P G.1 classes (wX9 G o0 d0 S0) H → va_D A (wX9 G o0 d0 S0) → va_S A s.heap H locs → lv_has ls 4 [(0, .ref o0), (1, .int x1)] → W p l e rm_X9_isStrict s m args below meth c H locs 0 0 QQ (F0 m 2 ls []) := by
    intro n
    induction n with
    | zero => intro x1 S0 H locs ls hg; exact hg.elim
    | succ n ih =>
      have hX2 := ih
      intro x1 S0 H locs ls hg hP hD hS hl
      refine lv_iload_n hx hb dX9_isStrict_2 rfl (lv_at hl 1 rfl) ?_
      refine lv_aload_n hx hb dX9_isStrict_3 rfl (lv_at hl 0 rfl) ?_
      refine va_get (D := G.1) (ci := 7) (v := .int (S0 25 0)) (C := RX9) (T := TX9) (N := 49) hx hb hT iX9 hown hK hP 0 rfl rfl 25 (by decide) (hT _ q_697) (fun _ h9 => h9) rfl dX9_isStrict_4 ?_
      refine lv_icmp_ge (tgt := 57) hx hb dX9_isStrict_7 (by decide) (fun c_1 => ?_) (fun c_1 => ?_)
      · have hg := hg.1 c_1
        refine lv_aload_n hx hb dX9_isStrict_57 rfl (lv_at hl 0 rfl) ?_
        refine zcVv (As := []) (rest := []) (C := RX9) Cx (c_X9_laysBefore l G o0 d0 S0 _ hg) zv_X9_laysBefore q_887 ⟨⟨rfl, rfl⟩, Nat.le_of_ble_eq_true rfl, Nat.le_of_ble_eq_true rfl⟩ (zJ.all hP hD hS hA) hS 7 rfl rfl rfl rfl hl.1 rfl (Nat.le_of_ble_eq_true rfl) dX9_isStrict_58 (fun S0_2 H locs hg hP hD hS => ?_)
        have hP : va_P G.1 classes (wX9 G o0 d0 S0_2) H := hP
        have hD : va_D A (wX9 G o0 d0 S0_2) := hD
        refine lv_iconst (v := 1) hx hb dX9_isStrict_61 (by decide) ?_
        refine lv_istore_n (lv' := [(1, .int 1), (0, .ref o0)]) hx hb dX9_isStrict_62 rfl hl (by decide) rfl (fun ls hl => ?_)
        refine lv_iconst (v := 0) hx hb dX9_isStrict_63 (by decide) ?_
        refine lv_istore_n (lv' := [(2, .int 0), (1, .int 1), (0, .ref o0)]) hx hb dX9_isStrict_64 rfl hl (by decide) rfl (fun ls hl => ?_)
        obtain ⟨n, hg⟩ := hg
        exact L65 n _ _ _ _ _ _ hg hP hD hS (lv_sub hl [2, 1, 0] rfl)
      · have hg := hg.2 c_1
        refine lv_iconst (v := 0) hx hb dX9_isStrict_10 (by decide) ?_
        refine lv_istore_n (lv' := [(2, .int 0), (0, .ref o0), (1, .int x1)]) hx hb dX9_isStrict_11 rfl hl (by decide) rfl (fun ls hl => ?_)
        obtain ⟨n, hg⟩ := hg
        exact L12 _ hX2 n _ _ _ _ _ _ hg hP hD hS (lv_sub hl [1, 2, 0] rfl)
  refine lv_iconst (v := 0) hx hb dX9_isStrict_0 (by decide) ?_
  refine lv_istore_n (lv' := [(1, .int 0), (0, .ref o0)]) hx hb dX9_isStrict_1 rfl hl (by decide) rfl (fun ls hl => ?_)
  obtain ⟨n, hg⟩ := hg
  exact L2 n _ _ _ _ _ hg hP hD hS (lv_sub hl [1, 0] rfl)
theorem zv_X9_startsReading : zV yX9_startsReading RX9 cX9_startsReading 2 none 0 := ⟨q_838, qp_1, q_8, q_839, by decide +kernel⟩
set_option maxHeartbeats 4000000 in
set_option maxRecDepth 100000 in
theorem c_X9_startsReading (l : Launch) (G : ZG) (o0 : Nat) (d0 : Nat → Nat) (S0 : ZS) (Q : ZS → Prop) (hg : g_X9_startsReading S0 Q) : Kv l G yX9_startsReading cX9_startsReading 2 rm_X9_startsReading [.ref o0] (wX9 G o0 d0 S0) (fun u : ZS => wX9 G o0 d0 u) (fun u => Q u) := by
  refine Kv.of (by decide) (Nat.le_of_ble_eq_true rfl) ?_
  intro p e s m args below meth c A QQ ls Cx hret hl hP hD hS
  obtain ⟨hx, hb, hml, hown, hT, hK, hA⟩ := id Cx
  have hl : lv_has ls 2 [(0, .ref o0)] := hl
  have L27 : ∀ (n : Nat) (x1 : Int32) (S0 : ZS) (H : Heap) (locs : List Loc) (ls : Array Slot), fx (F_X9_startsReading_27 Q) n (x1, S0) → va_P G.1 classes (wX9 G o0 d0 S0) H → va_D A (wX9 G o0 d0 S0) → va_S A s.heap H locs → lv_has ls 2 [(0, .ref o0), (1, .int x1)] → W p l e rm_X9_startsReading s m args below meth c H locs 0 0 QQ (F0 m 27 ls []) := by
    intro n
    induction n with
    | zero => intro x1 S0 H locs ls hg; exact hg.elim
    | succ n ih =>
      have hX27 := ih
      intro x1 S0 H locs ls hg hP hD hS hl
      refine lv_iload_n hx hb dX9_startsReading_27 rfl (lv_at hl 1 rfl) ?_
      refine lv_bipush (v := 112) hx hb dX9_startsReading_28 (by decide) ?_
      refine lv_icmp_ge (tgt := 46) hx hb dX9_startsReading_30 (by decide) (fun c_1 => ?_) (fun c_1 => ?_)
      · have hg := hg.1 c_1
        exact hret _ _ (S0) _ _ hg hP hD hS dX9_startsReading_46
      · have hg := hg.2 c_1
        refine lv_aload_n hx hb dX9_startsReading_33 rfl (lv_at hl 0 rfl) ?_
        refine va_get (D := G.1) (ci := 7) (v := .ref (d0 38)) (C := RX9) (T := TX9) (N := 49) hx hb hT iX9 hown hK hP 0 rfl rfl 38 (by decide) (hT _ q_710) (fun _ h9 => h9) rfl dX9_startsReading_34 ?_
        refine lv_iload_n hx hb dX9_startsReading_37 rfl (lv_at hl 1 rfl) ?_
        refine lv_iconst (v := 0) hx hb dX9_startsReading_38 (by decide) ?_
        refine z_iast hx hb hK hP hD hS 29 0 rfl rfl hg.1 dX9_startsReading_39 (zst S0 38 x1.toNatClampNeg 0) (fun S : ZS => wX9 G o0 d0 S) rfl (fun S0_2 H locs eS0_2 hP hD hS => ?_)
        have hg := hg.2 S0_2 eS0_2
        obtain ⟨x1_3, ex1_3⟩ : ∃ y : Int32, y = x1 + 1 := ⟨_, rfl⟩
        have hg := hg x1_3 ex1_3
        refine lv_iinc (v := x1_3) (lv' := [(1, .int x1_3), (0, .ref o0)]) hx hb dX9_startsReading_40 hl (k := 1) rfl (by rw [ex1_3]; rfl) (by decide) rfl (fun ls hl => ?_)
        refine lv_goto (tgt := 27) hx hb dX9_startsReading_43 (by decide) ?_
        exact hX27 _ _ _ _ _ hg hP hD hS (lv_sub hl [1, 0] rfl)
  refine lv_aload_n hx hb dX9_startsReading_0 rfl (lv_at hl 0 rfl) ?_
  refine lv_iconst (v := 0) hx hb dX9_startsReading_1 (by decide) ?_
  refine z_put (D := G.1) (ci := 7) (v := .int 0) (ty := .int) (C := RX9) (T := TX9) (N := 49) hx hb hT iX9 tyX9 tyX9_ok nmX9 hown hK hP hD hS 0 rfl rfl 22 (by decide) (hT _ q_694) (fun _ h9 => h9) rfl (by decide +kernel) rfl rfl (Nat.le_of_ble_eq_true rfl) dX9_startsReading_2 (zst S0 22 0 0) (fun S : ZS => wX9 G o0 d0 S) rfl (fun S0_1 H locs eS0_1 hP hD hS => ?_)
  have hg := hg S0_1 eS0_1
  refine lv_aload_n hx hb dX9_startsReading_5 rfl (lv_at hl 0 rfl) ?_
  refine lv_iconst (v := 0) hx hb dX9_startsReading_6 (by decide) ?_
  refine z_put (D := G.1) (ci := 7) (v := .int 0) (ty := .boolean) (C := RX9) (T := TX9) (N := 49) hx hb hT iX9 tyX9 tyX9_ok nmX9 hown hK hP hD hS 0 rfl rfl 23 (by decide) (hT _ q_695) (fun _ h9 => h9) rfl (by decide +kernel) rfl rfl (Nat.le_of_ble_eq_true rfl) dX9_startsReading_7 (zst S0_1 23 0 0) (fun S : ZS => wX9 G o0 d0 S) rfl (fun S0_2 H locs eS0_2 hP hD hS => ?_)
  have hg := hg S0_2 eS0_2
  refine lv_aload_n hx hb dX9_startsReading_10 rfl (lv_at hl 0 rfl) ?_
  refine lv_iconst (v := 0) hx hb dX9_startsReading_11 (by decide) ?_
  refine z_put (D := G.1) (ci := 7) (v := .int 0) (ty := .int) (C := RX9) (T := TX9) (N := 49) hx hb hT iX9 tyX9 tyX9_ok nmX9 hown hK hP hD hS 0 rfl rfl 24 (by decide) (hT _ q_696) (fun _ h9 => h9) rfl (by decide +kernel) rfl rfl (Nat.le_of_ble_eq_true rfl) dX9_startsReading_12 (zst S0_2 24 0 0) (fun S : ZS => wX9 G o0 d0 S) rfl (fun S0_3 H locs eS0_3 hP hD hS => ?_)
  have hg := hg S0_3 eS0_3
  refine lv_aload_n hx hb dX9_startsReading_15 rfl (lv_at hl 0 rfl) ?_
  refine lv_iconst (v := 0) hx hb dX9_startsReading_16 (by decide) ?_
  refine z_put (D := G.1) (ci := 7) (v := .int 0) (ty := .int) (C := RX9) (T := TX9) (N := 49) hx hb hT iX9 tyX9 tyX9_ok nmX9 hown hK hP hD hS 0 rfl rfl 25 (by decide) (hT _ q_697) (fun _ h9 => h9) rfl (by decide +kernel) rfl rfl (Nat.le_of_ble_eq_true rfl) dX9_startsReading_17 (zst S0_3 25 0 0) (fun S : ZS => wX9 G o0 d0 S) rfl (fun S0_4 H locs eS0_4 hP hD hS => ?_)
  have hg := hg S0_4 eS0_4
  refine lv_aload_n hx hb dX9_startsReading_20 rfl (lv_at hl 0 rfl) ?_
  refine lv_iconst (v := 0) hx hb dX9_startsReading_21 (by decide) ?_
  refine z_put (D := G.1) (ci := 7) (v := .int 0) (ty := .boolean) (C := RX9) (T := TX9) (N := 49) hx hb hT iX9 tyX9 tyX9_ok nmX9 hown hK hP hD hS 0 rfl rfl 26 (by decide) (hT _ q_698) (fun _ h9 => h9) rfl (by decide +kernel) rfl rfl (Nat.le_of_ble_eq_true rfl) dX9_startsReading_22 (zst S0_4 26 0 0) (fun S : ZS => wX9 G o0 d0 S) rfl (fun S0_5 H locs eS0_5 hP hD hS => ?_)
  have hg := hg S0_5 eS0_5
  refine lv_iconst (v := 0) hx hb dX9_startsReading_25 (by decide) ?_
  refine lv_istore_n (lv' := [(1, .int 0), (0, .ref o0)]) hx hb dX9_startsReading_26 rfl hl (by decide) rfl (fun ls hl => ?_)
  obtain ⟨n, hg⟩ := hg
  exact L27 n _ _ _ _ _ hg hP hD hS (lv_sub hl [1, 0] rfl)
