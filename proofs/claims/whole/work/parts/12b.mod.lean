theorem zv_X9_program : zV yX9_program RX9 cX9_program 1 (some .int) 0 := ⟨q_833, q_834, q_8, q_835, by decide +kernel⟩
set_option maxHeartbeats 4000000 in
set_option maxRecDepth 100000 in
theorem c_X9_program (l : Launch) (G : ZG) (o0 : Nat) (d0 : Nat → Nat) (S0 : ZS) (Q : Int32 → ZS → Prop) (hg : g_X9_program S0 Q) : Ki l G yX9_program cX9_program 1 .int rm_X9_program [.ref o0] (wX9 G o0 d0 S0) (fun u : ZS => wX9 G o0 d0 u) (fun r u => Q r u) := by
  refine Ki.of (by decide) (Nat.le_of_ble_eq_true rfl) ?_
  intro p e s m args below meth c A QQ ls Cx hret hl hP hD hS
  obtain ⟨hx, hb, hml, hown, hT, hK, hA⟩ := id Cx
  have hl : lv_has ls 1 [(0, .ref o0)] := hl
  have J66 : ∀ (S0 : ZS) (H : Heap) (locs : List Loc) (ls : Array Slot), G_X9_program_66 Q S0 → va_P G.1 classes (wX9 G o0 d0 S0) H → va_D A (wX9 G o0 d0 S0) → va_S A s.heap H locs → lv_has ls 1 [(0, .ref o0)] → W p l e rm_X9_program s m args below meth c H locs 0 0 QQ (F0 m 66 ls []) := by
    intro S0 H locs ls hg hP hD hS hl
    refine lv_aload_n hx hb dX9_program_66 rfl (lv_at hl 0 rfl) ?_
    refine va_get (D := G.1) (ci := 7) (v := .int (S0 23 0)) (C := RX9) (T := TX9) (N := 49) hx hb hT iX9 hown hK hP 0 rfl rfl 23 (by decide) (hT _ q_695) (fun _ h9 => h9) rfl dX9_program_67 ?_
    refine lv_if_eq (tgt := 81) hx hb dX9_program_70 (by decide) (fun c_1 => ?_) (fun c_1 => ?_)
    · have hg := hg.1 c_1
      refine lv_aload_n hx hb dX9_program_81 rfl (lv_at hl 0 rfl) ?_
      refine va_get (D := G.1) (ci := 7) (v := .ref (d0 35)) (C := RX9) (T := TX9) (N := 49) hx hb hT iX9 hown hK hP 0 rfl rfl 35 (by decide) (hT _ q_707) (fun _ h9 => h9) rfl dX9_program_82 ?_
      refine lv_aload_n hx hb dX9_program_85 rfl (lv_at hl 0 rfl) ?_
      refine va_get (D := G.1) (ci := 7) (v := .int (S0 25 0)) (C := RX9) (T := TX9) (N := 49) hx hb hT iX9 hown hK hP 0 rfl rfl 25 (by decide) (hT _ q_697) (fun _ h9 => h9) rfl dX9_program_86 ?_
      refine lv_aload_n hx hb dX9_program_89 rfl (lv_at hl 0 rfl) ?_
      refine va_get (D := G.1) (ci := 7) (v := .int (S0 24 0)) (C := RX9) (T := TX9) (N := 49) hx hb hT iX9 hown hK hP 0 rfl rfl 24 (by decide) (hT _ q_696) (fun _ h9 => h9) rfl dX9_program_90 ?_
      refine z_iast hx hb hK hP hD hS 26 0 rfl rfl hg.1 dX9_program_93 (zst S0 35 (S0 25 0).toNatClampNeg (S0 24 0)) (fun S : ZS => wX9 G o0 d0 S) rfl (fun S0_2 H locs eS0_2 hP hD hS => ?_)
      have hg := hg.2 S0_2 eS0_2
      refine lv_aload_n hx hb dX9_program_94 rfl (lv_at hl 0 rfl) ?_
      refine lv_iconst (v := 0) hx hb dX9_program_95 (by decide) ?_
      refine z_put (D := G.1) (ci := 7) (v := .int 0) (ty := .int) (C := RX9) (T := TX9) (N := 49) hx hb hT iX9 tyX9 tyX9_ok nmX9 hown hK hP hD hS 0 rfl rfl 1 (by decide) (hT _ q_673) (fun _ h9 => h9) rfl (by decide +kernel) rfl rfl (Nat.le_of_ble_eq_true rfl) dX9_program_96 (zst S0_2 1 0 0) (fun S : ZS => wX9 G o0 d0 S) rfl (fun S0_3 H locs eS0_3 hP hD hS => ?_)
      have hg := hg S0_3 eS0_3
      refine lv_aload_n hx hb dX9_program_99 rfl (lv_at hl 0 rfl) ?_
      refine lv_aload_n hx hb dX9_program_100 rfl (lv_at hl 0 rfl) ?_
      refine va_get (D := G.1) (ci := 7) (v := .int (S0_3 24 0)) (C := RX9) (T := TX9) (N := 49) hx hb hT iX9 hown hK hP 0 rfl rfl 24 (by decide) (hT _ q_696) (fun _ h9 => h9) rfl dX9_program_101 ?_
      refine z_put (D := G.1) (ci := 7) (v := .int (S0_3 24 0)) (ty := .int) (C := RX9) (T := TX9) (N := 49) hx hb hT iX9 tyX9 tyX9_ok nmX9 hown hK hP hD hS 0 rfl rfl 2 (by decide) (hT _ q_674) (fun _ h9 => h9) rfl (by decide +kernel) rfl rfl (Nat.le_of_ble_eq_true rfl) dX9_program_104 (zst S0_3 2 0 (S0_3 24 0)) (fun S : ZS => wX9 G o0 d0 S) rfl (fun S0_4 H locs eS0_4 hP hD hS => ?_)
      have hg := hg S0_4 eS0_4
      refine lv_aload_n hx hb dX9_program_107 rfl (lv_at hl 0 rfl) ?_
      refine lv_aload_n hx hb dX9_program_108 rfl (lv_at hl 0 rfl) ?_
      refine va_get (D := G.1) (ci := 7) (v := .int (S0_4 25 0)) (C := RX9) (T := TX9) (N := 49) hx hb hT iX9 hown hK hP 0 rfl rfl 25 (by decide) (hT _ q_697) (fun _ h9 => h9) rfl dX9_program_109 ?_
      refine z_put (D := G.1) (ci := 7) (v := .int (S0_4 25 0)) (ty := .int) (C := RX9) (T := TX9) (N := 49) hx hb hT iX9 tyX9 tyX9_ok nmX9 hown hK hP hD hS 0 rfl rfl 3 (by decide) (hT _ q_675) (fun _ h9 => h9) rfl (by decide +kernel) rfl rfl (Nat.le_of_ble_eq_true rfl) dX9_program_112 (zst S0_4 3 0 (S0_4 25 0)) (fun S : ZS => wX9 G o0 d0 S) rfl (fun S0_5 H locs eS0_5 hP hD hS => ?_)
      have hg := hg S0_5 eS0_5
      refine lv_aload_n hx hb dX9_program_115 rfl (lv_at hl 0 rfl) ?_
      refine va_get (D := G.1) (ci := 7) (v := .ref (d0 27)) (C := RX9) (T := TX9) (N := 49) hx hb hT iX9 hown hK hP 0 rfl rfl 27 (by decide) (hT _ q_699) (fun _ h9 => h9) rfl dX9_program_116 ?_
      refine lv_iconst (v := 0) hx hb dX9_program_119 (by decide) ?_
      refine lv_aload_n hx hb dX9_program_120 rfl (lv_at hl 0 rfl) ?_
      refine va_get (D := G.1) (ci := 7) (v := .ref (d0 4)) (C := RX9) (T := TX9) (N := 49) hx hb hT iX9 hown hK hP 0 rfl rfl 4 (by decide) (hT _ q_676) (fun _ h9 => h9) rfl dX9_program_121 ?_
      refine lv_iconst (v := 0) hx hb dX9_program_124 (by decide) ?_
      refine lv_bipush (v := 24) hx hb dX9_program_125 (by decide) ?_
      refine zcSv (As := [.ref (d0 27), .int 0, .ref (d0 4), .int 0, .int 24]) (rest := []) Cx (c_X9_bring l G (d0 27) (d0 4) 24 24 0 0 24 (S0_5 27) (S0_5 4) _ hg) zv_X9_bring q_906 ⟨⟨rfl, rfl⟩, Nat.le_of_ble_eq_true rfl, Nat.le_of_ble_eq_true rfl⟩ (zJ.sub (wr := [0, 1, 3, 4, 5, 6, 7, 8, 9, 10, 11, 12, 13, 14, 15, 16, 17, 19, 20, 21, 22, 23, 24, 25, 26, 27, 28, 29, 30, 31, 32, 33, 34, 35, 36, 37].filterMap (fun i => (wX9 G o0 d0 S0_5)[i]?)) (w2 := (fun u : ZR => wX9 G o0 d0 ((zrp S0_5 4 u)))) hP hD hS hA [18, 2] [0, 1, 3, 4, 5, 6, 7, 8, 9, 10, 11, 12, 13, 14, 15, 16, 17, 19, 20, 21, 22, 23, 24, 25, 26, 27, 28, 29, 30, 31, 32, 33, 34, 35, 36, 37] [0, 1, 37, 2, 3, 4, 5, 6, 7, 8, 9, 10, 11, 12, 13, 14, 15, 16, 36, 17, 18, 19, 20, 21, 22, 23, 24, 25, 26, 27, 28, 29, 30, 31, 32, 33, 34, 35] rfl rfl (by decide) (fun u => rfl)) hS rfl hl.1 rfl (Nat.le_of_ble_eq_true rfl) dX9_program_127 (fun f_6 H locs hg hP hD hS => ?_)
      have hP : va_P G.1 classes (wX9 G o0 d0 ((zrp S0_5 4 f_6))) H := hP
      have hD : va_D A (wX9 G o0 d0 ((zrp S0_5 4 f_6))) := hD
      refine lv_aload_n hx hb dX9_program_130 rfl (lv_at hl 0 rfl) ?_
      refine va_get (D := G.1) (ci := 7) (v := .ref (d0 28)) (C := RX9) (T := TX9) (N := 49) hx hb hT iX9 hown hK hP 0 rfl rfl 28 (by decide) (hT _ q_700) (fun _ h9 => h9) rfl dX9_program_131 ?_
      refine lv_iconst (v := 0) hx hb dX9_program_134 (by decide) ?_
      refine lv_aload_n hx hb dX9_program_135 rfl (lv_at hl 0 rfl) ?_
      refine va_get (D := G.1) (ci := 7) (v := .ref (d0 5)) (C := RX9) (T := TX9) (N := 49) hx hb hT iX9 hown hK hP 0 rfl rfl 5 (by decide) (hT _ q_677) (fun _ h9 => h9) rfl dX9_program_136 ?_
      refine lv_iconst (v := 0) hx hb dX9_program_139 (by decide) ?_
      refine lv_bipush (v := 24) hx hb dX9_program_140 (by decide) ?_
      refine zcSv (As := [.ref (d0 28), .int 0, .ref (d0 5), .int 0, .int 24]) (rest := []) Cx (c_X9_bring l G (d0 28) (d0 5) 24 24 0 0 24 ((zrp S0_5 4 f_6) 28) ((zrp S0_5 4 f_6) 5) _ hg) zv_X9_bring q_906 ⟨⟨rfl, rfl⟩, Nat.le_of_ble_eq_true rfl, Nat.le_of_ble_eq_true rfl⟩ (zJ.sub (wr := [0, 1, 2, 4, 5, 6, 7, 8, 9, 10, 11, 12, 13, 14, 15, 16, 17, 18, 20, 21, 22, 23, 24, 25, 26, 27, 28, 29, 30, 31, 32, 33, 34, 35, 36, 37].filterMap (fun i => (wX9 G o0 d0 ((zrp S0_5 4 f_6)))[i]?)) (w2 := (fun u : ZR => wX9 G o0 d0 ((zrp (zrp S0_5 4 f_6) 5 u)))) hP hD hS hA [19, 3] [0, 1, 2, 4, 5, 6, 7, 8, 9, 10, 11, 12, 13, 14, 15, 16, 17, 18, 20, 21, 22, 23, 24, 25, 26, 27, 28, 29, 30, 31, 32, 33, 34, 35, 36, 37] [0, 1, 2, 37, 3, 4, 5, 6, 7, 8, 9, 10, 11, 12, 13, 14, 15, 16, 17, 36, 18, 19, 20, 21, 22, 23, 24, 25, 26, 27, 28, 29, 30, 31, 32, 33, 34, 35] rfl rfl (by decide) (fun u => rfl)) hS rfl hl.1 rfl (Nat.le_of_ble_eq_true rfl) dX9_program_142 (fun f_7 H locs hg hP hD hS => ?_)
      have hP : va_P G.1 classes (wX9 G o0 d0 ((zrp (zrp S0_5 4 f_6) 5 f_7))) H := hP
      have hD : va_D A (wX9 G o0 d0 ((zrp (zrp S0_5 4 f_6) 5 f_7))) := hD
      refine lv_aload_n hx hb dX9_program_145 rfl (lv_at hl 0 rfl) ?_
      refine va_get (D := G.1) (ci := 7) (v := .ref (d0 29)) (C := RX9) (T := TX9) (N := 49) hx hb hT iX9 hown hK hP 0 rfl rfl 29 (by decide) (hT _ q_701) (fun _ h9 => h9) rfl dX9_program_146 ?_
      refine lv_iconst (v := 0) hx hb dX9_program_149 (by decide) ?_
      refine lv_aload_n hx hb dX9_program_150 rfl (lv_at hl 0 rfl) ?_
      refine va_get (D := G.1) (ci := 7) (v := .ref (d0 6)) (C := RX9) (T := TX9) (N := 49) hx hb hT iX9 hown hK hP 0 rfl rfl 6 (by decide) (hT _ q_678) (fun _ h9 => h9) rfl dX9_program_151 ?_
      refine lv_iconst (v := 0) hx hb dX9_program_154 (by decide) ?_
      refine lv_bipush (v := 24) hx hb dX9_program_155 (by decide) ?_
      refine zcSv (As := [.ref (d0 29), .int 0, .ref (d0 6), .int 0, .int 24]) (rest := []) Cx (c_X9_bring l G (d0 29) (d0 6) 24 24 0 0 24 ((zrp (zrp S0_5 4 f_6) 5 f_7) 29) ((zrp (zrp S0_5 4 f_6) 5 f_7) 6) _ hg) zv_X9_bring q_906 ⟨⟨rfl, rfl⟩, Nat.le_of_ble_eq_true rfl, Nat.le_of_ble_eq_true rfl⟩ (zJ.sub (wr := [0, 1, 2, 3, 5, 6, 7, 8, 9, 10, 11, 12, 13, 14, 15, 16, 17, 18, 19, 21, 22, 23, 24, 25, 26, 27, 28, 29, 30, 31, 32, 33, 34, 35, 36, 37].filterMap (fun i => (wX9 G o0 d0 ((zrp (zrp S0_5 4 f_6) 5 f_7)))[i]?)) (w2 := (fun u : ZR => wX9 G o0 d0 ((zrp (zrp (zrp S0_5 4 f_6) 5 f_7) 6 u)))) hP hD hS hA [20, 4] [0, 1, 2, 3, 5, 6, 7, 8, 9, 10, 11, 12, 13, 14, 15, 16, 17, 18, 19, 21, 22, 23, 24, 25, 26, 27, 28, 29, 30, 31, 32, 33, 34, 35, 36, 37] [0, 1, 2, 3, 37, 4, 5, 6, 7, 8, 9, 10, 11, 12, 13, 14, 15, 16, 17, 18, 36, 19, 20, 21, 22, 23, 24, 25, 26, 27, 28, 29, 30, 31, 32, 33, 34, 35] rfl rfl (by decide) (fun u => rfl)) hS rfl hl.1 rfl (Nat.le_of_ble_eq_true rfl) dX9_program_157 (fun f_8 H locs hg hP hD hS => ?_)
      have hP : va_P G.1 classes (wX9 G o0 d0 ((zrp (zrp (zrp S0_5 4 f_6) 5 f_7) 6 f_8))) H := hP
      have hD : va_D A (wX9 G o0 d0 ((zrp (zrp (zrp S0_5 4 f_6) 5 f_7) 6 f_8))) := hD
      refine lv_aload_n hx hb dX9_program_160 rfl (lv_at hl 0 rfl) ?_
      refine va_get (D := G.1) (ci := 7) (v := .ref (d0 30)) (C := RX9) (T := TX9) (N := 49) hx hb hT iX9 hown hK hP 0 rfl rfl 30 (by decide) (hT _ q_702) (fun _ h9 => h9) rfl dX9_program_161 ?_
      refine lv_iconst (v := 0) hx hb dX9_program_164 (by decide) ?_
      refine lv_aload_n hx hb dX9_program_165 rfl (lv_at hl 0 rfl) ?_
      refine va_get (D := G.1) (ci := 7) (v := .ref (d0 7)) (C := RX9) (T := TX9) (N := 49) hx hb hT iX9 hown hK hP 0 rfl rfl 7 (by decide) (hT _ q_679) (fun _ h9 => h9) rfl dX9_program_166 ?_
      refine lv_iconst (v := 0) hx hb dX9_program_169 (by decide) ?_
      refine lv_bipush (v := 24) hx hb dX9_program_170 (by decide) ?_
      refine zcSv (As := [.ref (d0 30), .int 0, .ref (d0 7), .int 0, .int 24]) (rest := []) Cx (c_X9_bring l G (d0 30) (d0 7) 24 24 0 0 24 ((zrp (zrp (zrp S0_5 4 f_6) 5 f_7) 6 f_8) 30) ((zrp (zrp (zrp S0_5 4 f_6) 5 f_7) 6 f_8) 7) _ hg) zv_X9_bring q_906 ⟨⟨rfl, rfl⟩, Nat.le_of_ble_eq_true rfl, Nat.le_of_ble_eq_true rfl⟩ (zJ.sub (wr := [0, 1, 2, 3, 4, 6, 7, 8, 9, 10, 11, 12, 13, 14, 15, 16, 17, 18, 19, 20, 22, 23, 24, 25, 26, 27, 28, 29, 30, 31, 32, 33, 34, 35, 36, 37].filterMap (fun i => (wX9 G o0 d0 ((zrp (zrp (zrp S0_5 4 f_6) 5 f_7) 6 f_8)))[i]?)) (w2 := (fun u : ZR => wX9 G o0 d0 ((zrp (zrp (zrp (zrp S0_5 4 f_6) 5 f_7) 6 f_8) 7 u)))) hP hD hS hA [21, 5] [0, 1, 2, 3, 4, 6, 7, 8, 9, 10, 11, 12, 13, 14, 15, 16, 17, 18, 19, 20, 22, 23, 24, 25, 26, 27, 28, 29, 30, 31, 32, 33, 34, 35, 36, 37] [0, 1, 2, 3, 4, 37, 5, 6, 7, 8, 9, 10, 11, 12, 13, 14, 15, 16, 17, 18, 19, 36, 20, 21, 22, 23, 24, 25, 26, 27, 28, 29, 30, 31, 32, 33, 34, 35] rfl rfl (by decide) (fun u => rfl)) hS rfl hl.1 rfl (Nat.le_of_ble_eq_true rfl) dX9_program_172 (fun f_9 H locs hg hP hD hS => ?_)
      have hP : va_P G.1 classes (wX9 G o0 d0 ((zrp (zrp (zrp (zrp S0_5 4 f_6) 5 f_7) 6 f_8) 7 f_9))) H := hP
      have hD : va_D A (wX9 G o0 d0 ((zrp (zrp (zrp (zrp S0_5 4 f_6) 5 f_7) 6 f_8) 7 f_9))) := hD
      refine lv_aload_n hx hb dX9_program_175 rfl (lv_at hl 0 rfl) ?_
      refine va_get (D := G.1) (ci := 7) (v := .ref (d0 31)) (C := RX9) (T := TX9) (N := 49) hx hb hT iX9 hown hK hP 0 rfl rfl 31 (by decide) (hT _ q_703) (fun _ h9 => h9) rfl dX9_program_176 ?_
      refine lv_iconst (v := 0) hx hb dX9_program_179 (by decide) ?_
      refine lv_aload_n hx hb dX9_program_180 rfl (lv_at hl 0 rfl) ?_
      refine va_get (D := G.1) (ci := 7) (v := .ref (d0 8)) (C := RX9) (T := TX9) (N := 49) hx hb hT iX9 hown hK hP 0 rfl rfl 8 (by decide) (hT _ q_680) (fun _ h9 => h9) rfl dX9_program_181 ?_
      refine lv_iconst (v := 0) hx hb dX9_program_184 (by decide) ?_
      refine lv_bipush (v := 24) hx hb dX9_program_185 (by decide) ?_
      refine zcSv (As := [.ref (d0 31), .int 0, .ref (d0 8), .int 0, .int 24]) (rest := []) Cx (c_X9_bring l G (d0 31) (d0 8) 24 24 0 0 24 ((zrp (zrp (zrp (zrp S0_5 4 f_6) 5 f_7) 6 f_8) 7 f_9) 31) ((zrp (zrp (zrp (zrp S0_5 4 f_6) 5 f_7) 6 f_8) 7 f_9) 8) _ hg) zv_X9_bring q_906 ⟨⟨rfl, rfl⟩, Nat.le_of_ble_eq_true rfl, Nat.le_of_ble_eq_true rfl⟩ (zJ.sub (wr := [0, 1, 2, 3, 4, 5, 7, 8, 9, 10, 11, 12, 13, 14, 15, 16, 17, 18, 19, 20, 21, 23, 24, 25, 26, 27, 28, 29, 30, 31, 32, 33, 34, 35, 36, 37].filterMap (fun i => (wX9 G o0 d0 ((zrp (zrp (zrp (zrp S0_5 4 f_6) 5 f_7) 6 f_8) 7 f_9)))[i]?)) (w2 := (fun u : ZR => wX9 G o0 d0 ((zrp (zrp (zrp (zrp (zrp S0_5 4 f_6) 5 f_7) 6 f_8) 7 f_9) 8 u)))) hP hD hS hA [22, 6] [0, 1, 2, 3, 4, 5, 7, 8, 9, 10, 11, 12, 13, 14, 15, 16, 17, 18, 19, 20, 21, 23, 24, 25, 26, 27, 28, 29, 30, 31, 32, 33, 34, 35, 36, 37] [0, 1, 2, 3, 4, 5, 37, 6, 7, 8, 9, 10, 11, 12, 13, 14, 15, 16, 17, 18, 19, 20, 36, 21, 22, 23, 24, 25, 26, 27, 28, 29, 30, 31, 32, 33, 34, 35] rfl rfl (by decide) (fun u => rfl)) hS rfl hl.1 rfl (Nat.le_of_ble_eq_true rfl) dX9_program_187 (fun f_10 H locs hg hP hD hS => ?_)
      have hP : va_P G.1 classes (wX9 G o0 d0 ((zrp (zrp (zrp (zrp (zrp S0_5 4 f_6) 5 f_7) 6 f_8) 7 f_9) 8 f_10))) H := hP
      have hD : va_D A (wX9 G o0 d0 ((zrp (zrp (zrp (zrp (zrp S0_5 4 f_6) 5 f_7) 6 f_8) 7 f_9) 8 f_10))) := hD
      refine lv_aload_n hx hb dX9_program_190 rfl (lv_at hl 0 rfl) ?_
      refine va_get (D := G.1) (ci := 7) (v := .ref (d0 32)) (C := RX9) (T := TX9) (N := 49) hx hb hT iX9 hown hK hP 0 rfl rfl 32 (by decide) (hT _ q_704) (fun _ h9 => h9) rfl dX9_program_191 ?_
      refine lv_iconst (v := 0) hx hb dX9_program_194 (by decide) ?_
      refine lv_aload_n hx hb dX9_program_195 rfl (lv_at hl 0 rfl) ?_
      refine va_get (D := G.1) (ci := 7) (v := .ref (d0 9)) (C := RX9) (T := TX9) (N := 49) hx hb hT iX9 hown hK hP 0 rfl rfl 9 (by decide) (hT _ q_681) (fun _ h9 => h9) rfl dX9_program_196 ?_
      refine lv_iconst (v := 0) hx hb dX9_program_199 (by decide) ?_
      refine lv_bipush (v := 24) hx hb dX9_program_200 (by decide) ?_
      refine zcSv (As := [.ref (d0 32), .int 0, .ref (d0 9), .int 0, .int 24]) (rest := []) Cx (c_X9_bring l G (d0 32) (d0 9) 24 24 0 0 24 ((zrp (zrp (zrp (zrp (zrp S0_5 4 f_6) 5 f_7) 6 f_8) 7 f_9) 8 f_10) 32) ((zrp (zrp (zrp (zrp (zrp S0_5 4 f_6) 5 f_7) 6 f_8) 7 f_9) 8 f_10) 9) _ hg) zv_X9_bring q_906 ⟨⟨rfl, rfl⟩, Nat.le_of_ble_eq_true rfl, Nat.le_of_ble_eq_true rfl⟩ (zJ.sub (wr := [0, 1, 2, 3, 4, 5, 6, 8, 9, 10, 11, 12, 13, 14, 15, 16, 17, 18, 19, 20, 21, 22, 24, 25, 26, 27, 28, 29, 30, 31, 32, 33, 34, 35, 36, 37].filterMap (fun i => (wX9 G o0 d0 ((zrp (zrp (zrp (zrp (zrp S0_5 4 f_6) 5 f_7) 6 f_8) 7 f_9) 8 f_10)))[i]?)) (w2 := (fun u : ZR => wX9 G o0 d0 ((zrp (zrp (zrp (zrp (zrp (zrp S0_5 4 f_6) 5 f_7) 6 f_8) 7 f_9) 8 f_10) 9 u)))) hP hD hS hA [23, 7] [0, 1, 2, 3, 4, 5, 6, 8, 9, 10, 11, 12, 13, 14, 15, 16, 17, 18, 19, 20, 21, 22, 24, 25, 26, 27, 28, 29, 30, 31, 32, 33, 34, 35, 36, 37] [0, 1, 2, 3, 4, 5, 6, 37, 7, 8, 9, 10, 11, 12, 13, 14, 15, 16, 17, 18, 19, 20, 21, 36, 22, 23, 24, 25, 26, 27, 28, 29, 30, 31, 32, 33, 34, 35] rfl rfl (by decide) (fun u => rfl)) hS rfl hl.1 rfl (Nat.le_of_ble_eq_true rfl) dX9_program_202 (fun f_11 H locs hg hP hD hS => ?_)
      have hP : va_P G.1 classes (wX9 G o0 d0 ((zrp (zrp (zrp (zrp (zrp (zrp S0_5 4 f_6) 5 f_7) 6 f_8) 7 f_9) 8 f_10) 9 f_11))) H := hP
      have hD : va_D A (wX9 G o0 d0 ((zrp (zrp (zrp (zrp (zrp (zrp S0_5 4 f_6) 5 f_7) 6 f_8) 7 f_9) 8 f_10) 9 f_11))) := hD
      refine lv_aload_n hx hb dX9_program_205 rfl (lv_at hl 0 rfl) ?_
      refine va_get (D := G.1) (ci := 7) (v := .ref (d0 33)) (C := RX9) (T := TX9) (N := 49) hx hb hT iX9 hown hK hP 0 rfl rfl 33 (by decide) (hT _ q_705) (fun _ h9 => h9) rfl dX9_program_206 ?_
      refine lv_iconst (v := 0) hx hb dX9_program_209 (by decide) ?_
      refine lv_aload_n hx hb dX9_program_210 rfl (lv_at hl 0 rfl) ?_
      refine va_get (D := G.1) (ci := 7) (v := .ref (d0 10)) (C := RX9) (T := TX9) (N := 49) hx hb hT iX9 hown hK hP 0 rfl rfl 10 (by decide) (hT _ q_682) (fun _ h9 => h9) rfl dX9_program_211 ?_
      refine lv_iconst (v := 0) hx hb dX9_program_214 (by decide) ?_
      refine lv_bipush (v := 72) hx hb dX9_program_215 (by decide) ?_
      refine zcSv (As := [.ref (d0 33), .int 0, .ref (d0 10), .int 0, .int 72]) (rest := []) Cx (c_X9_bring l G (d0 33) (d0 10) 72 72 0 0 72 ((zrp (zrp (zrp (zrp (zrp (zrp S0_5 4 f_6) 5 f_7) 6 f_8) 7 f_9) 8 f_10) 9 f_11) 33) ((zrp (zrp (zrp (zrp (zrp (zrp S0_5 4 f_6) 5 f_7) 6 f_8) 7 f_9) 8 f_10) 9 f_11) 10) _ hg) zv_X9_bring q_906 ⟨⟨rfl, rfl⟩, Nat.le_of_ble_eq_true rfl, Nat.le_of_ble_eq_true rfl⟩ (zJ.sub (wr := [0, 1, 2, 3, 4, 5, 6, 7, 9, 10, 11, 12, 13, 14, 15, 16, 17, 18, 19, 20, 21, 22, 23, 25, 26, 27, 28, 29, 30, 31, 32, 33, 34, 35, 36, 37].filterMap (fun i => (wX9 G o0 d0 ((zrp (zrp (zrp (zrp (zrp (zrp S0_5 4 f_6) 5 f_7) 6 f_8) 7 f_9) 8 f_10) 9 f_11)))[i]?)) (w2 := (fun u : ZR => wX9 G o0 d0 ((zrp (zrp (zrp (zrp (zrp (zrp (zrp S0_5 4 f_6) 5 f_7) 6 f_8) 7 f_9) 8 f_10) 9 f_11) 10 u)))) hP hD hS hA [24, 8] [0, 1, 2, 3, 4, 5, 6, 7, 9, 10, 11, 12, 13, 14, 15, 16, 17, 18, 19, 20, 21, 22, 23, 25, 26, 27, 28, 29, 30, 31, 32, 33, 34, 35, 36, 37] [0, 1, 2, 3, 4, 5, 6, 7, 37, 8, 9, 10, 11, 12, 13, 14, 15, 16, 17, 18, 19, 20, 21, 22, 36, 23, 24, 25, 26, 27, 28, 29, 30, 31, 32, 33, 34, 35] rfl rfl (by decide) (fun u => rfl)) hS rfl hl.1 rfl (Nat.le_of_ble_eq_true rfl) dX9_program_217 (fun f_12 H locs hg hP hD hS => ?_)
      have hP : va_P G.1 classes (wX9 G o0 d0 ((zrp (zrp (zrp (zrp (zrp (zrp (zrp S0_5 4 f_6) 5 f_7) 6 f_8) 7 f_9) 8 f_10) 9 f_11) 10 f_12))) H := hP
      have hD : va_D A (wX9 G o0 d0 ((zrp (zrp (zrp (zrp (zrp (zrp (zrp S0_5 4 f_6) 5 f_7) 6 f_8) 7 f_9) 8 f_10) 9 f_11) 10 f_12))) := hD
      refine lv_aload_n hx hb dX9_program_220 rfl (lv_at hl 0 rfl) ?_
      refine va_get (D := G.1) (ci := 7) (v := .ref (d0 34)) (C := RX9) (T := TX9) (N := 49) hx hb hT iX9 hown hK hP 0 rfl rfl 34 (by decide) (hT _ q_706) (fun _ h9 => h9) rfl dX9_program_221 ?_
      refine lv_iconst (v := 0) hx hb dX9_program_224 (by decide) ?_
      refine lv_aload_n hx hb dX9_program_225 rfl (lv_at hl 0 rfl) ?_
      refine va_get (D := G.1) (ci := 7) (v := .ref (d0 11)) (C := RX9) (T := TX9) (N := 49) hx hb hT iX9 hown hK hP 0 rfl rfl 11 (by decide) (hT _ q_683) (fun _ h9 => h9) rfl dX9_program_226 ?_
      refine lv_iconst (v := 0) hx hb dX9_program_229 (by decide) ?_
      refine lv_bipush (v := 72) hx hb dX9_program_230 (by decide) ?_
      refine zcSv (As := [.ref (d0 34), .int 0, .ref (d0 11), .int 0, .int 72]) (rest := []) Cx (c_X9_bring l G (d0 34) (d0 11) 72 72 0 0 72 ((zrp (zrp (zrp (zrp (zrp (zrp (zrp S0_5 4 f_6) 5 f_7) 6 f_8) 7 f_9) 8 f_10) 9 f_11) 10 f_12) 34) ((zrp (zrp (zrp (zrp (zrp (zrp (zrp S0_5 4 f_6) 5 f_7) 6 f_8) 7 f_9) 8 f_10) 9 f_11) 10 f_12) 11) _ hg) zv_X9_bring q_906 ⟨⟨rfl, rfl⟩, Nat.le_of_ble_eq_true rfl, Nat.le_of_ble_eq_true rfl⟩ (zJ.sub (wr := [0, 1, 2, 3, 4, 5, 6, 7, 8, 10, 11, 12, 13, 14, 15, 16, 17, 18, 19, 20, 21, 22, 23, 24, 26, 27, 28, 29, 30, 31, 32, 33, 34, 35, 36, 37].filterMap (fun i => (wX9 G o0 d0 ((zrp (zrp (zrp (zrp (zrp (zrp (zrp S0_5 4 f_6) 5 f_7) 6 f_8) 7 f_9) 8 f_10) 9 f_11) 10 f_12)))[i]?)) (w2 := (fun u : ZR => wX9 G o0 d0 ((zrp (zrp (zrp (zrp (zrp (zrp (zrp (zrp S0_5 4 f_6) 5 f_7) 6 f_8) 7 f_9) 8 f_10) 9 f_11) 10 f_12) 11 u)))) hP hD hS hA [25, 9] [0, 1, 2, 3, 4, 5, 6, 7, 8, 10, 11, 12, 13, 14, 15, 16, 17, 18, 19, 20, 21, 22, 23, 24, 26, 27, 28, 29, 30, 31, 32, 33, 34, 35, 36, 37] [0, 1, 2, 3, 4, 5, 6, 7, 8, 37, 9, 10, 11, 12, 13, 14, 15, 16, 17, 18, 19, 20, 21, 22, 23, 36, 24, 25, 26, 27, 28, 29, 30, 31, 32, 33, 34, 35] rfl rfl (by decide) (fun u => rfl)) hS rfl hl.1 rfl (Nat.le_of_ble_eq_true rfl) dX9_program_232 (fun f_13 H locs hg hP hD hS => ?_)
      have hP : va_P G.1 classes (wX9 G o0 d0 ((zrp (zrp (zrp (zrp (zrp (zrp (zrp (zrp S0_5 4 f_6) 5 f_7) 6 f_8) 7 f_9) 8 f_10) 9 f_11) 10 f_12) 11 f_13))) H := hP
      have hD : va_D A (wX9 G o0 d0 ((zrp (zrp (zrp (zrp (zrp (zrp (zrp (zrp S0_5 4 f_6) 5 f_7) 6 f_8) 7 f_9) 8 f_10) 9 f_11) 10 f_12) 11 f_13))) := hD
      refine lv_aload_n hx hb dX9_program_235 rfl (lv_at hl 0 rfl) ?_
      refine va_get (D := G.1) (ci := 7) (v := .ref (d0 35)) (C := RX9) (T := TX9) (N := 49) hx hb hT iX9 hown hK hP 0 rfl rfl 35 (by decide) (hT _ q_707) (fun _ h9 => h9) rfl dX9_program_236 ?_
      refine lv_iconst (v := 0) hx hb dX9_program_239 (by decide) ?_
      refine lv_aload_n hx hb dX9_program_240 rfl (lv_at hl 0 rfl) ?_
      refine va_get (D := G.1) (ci := 7) (v := .ref (d0 12)) (C := RX9) (T := TX9) (N := 49) hx hb hT iX9 hown hK hP 0 rfl rfl 12 (by decide) (hT _ q_684) (fun _ h9 => h9) rfl dX9_program_241 ?_
      refine lv_iconst (v := 0) hx hb dX9_program_244 (by decide) ?_
      refine lv_bipush (v := 9) hx hb dX9_program_245 (by decide) ?_
      refine zcSv (As := [.ref (d0 35), .int 0, .ref (d0 12), .int 0, .int 9]) (rest := []) Cx (c_X9_bring l G (d0 35) (d0 12) 9 9 0 0 9 ((zrp (zrp (zrp (zrp (zrp (zrp (zrp (zrp S0_5 4 f_6) 5 f_7) 6 f_8) 7 f_9) 8 f_10) 9 f_11) 10 f_12) 11 f_13) 35) ((zrp (zrp (zrp (zrp (zrp (zrp (zrp (zrp S0_5 4 f_6) 5 f_7) 6 f_8) 7 f_9) 8 f_10) 9 f_11) 10 f_12) 11 f_13) 12) _ hg) zv_X9_bring q_906 ⟨⟨rfl, rfl⟩, Nat.le_of_ble_eq_true rfl, Nat.le_of_ble_eq_true rfl⟩ (zJ.sub (wr := [0, 1, 2, 3, 4, 5, 6, 7, 8, 9, 11, 12, 13, 14, 15, 16, 17, 18, 19, 20, 21, 22, 23, 24, 25, 27, 28, 29, 30, 31, 32, 33, 34, 35, 36, 37].filterMap (fun i => (wX9 G o0 d0 ((zrp (zrp (zrp (zrp (zrp (zrp (zrp (zrp S0_5 4 f_6) 5 f_7) 6 f_8) 7 f_9) 8 f_10) 9 f_11) 10 f_12) 11 f_13)))[i]?)) (w2 := (fun u : ZR => wX9 G o0 d0 ((zrp (zrp (zrp (zrp (zrp (zrp (zrp (zrp (zrp S0_5 4 f_6) 5 f_7) 6 f_8) 7 f_9) 8 f_10) 9 f_11) 10 f_12) 11 f_13) 12 u)))) hP hD hS hA [26, 10] [0, 1, 2, 3, 4, 5, 6, 7, 8, 9, 11, 12, 13, 14, 15, 16, 17, 18, 19, 20, 21, 22, 23, 24, 25, 27, 28, 29, 30, 31, 32, 33, 34, 35, 36, 37] [0, 1, 2, 3, 4, 5, 6, 7, 8, 9, 37, 10, 11, 12, 13, 14, 15, 16, 17, 18, 19, 20, 21, 22, 23, 24, 36, 25, 26, 27, 28, 29, 30, 31, 32, 33, 34, 35] rfl rfl (by decide) (fun u => rfl)) hS rfl hl.1 rfl (Nat.le_of_ble_eq_true rfl) dX9_program_247 (fun f_14 H locs hg hP hD hS => ?_)
      have hP : va_P G.1 classes (wX9 G o0 d0 ((zrp (zrp (zrp (zrp (zrp (zrp (zrp (zrp (zrp S0_5 4 f_6) 5 f_7) 6 f_8) 7 f_9) 8 f_10) 9 f_11) 10 f_12) 11 f_13) 12 f_14))) H := hP
      have hD : va_D A (wX9 G o0 d0 ((zrp (zrp (zrp (zrp (zrp (zrp (zrp (zrp (zrp S0_5 4 f_6) 5 f_7) 6 f_8) 7 f_9) 8 f_10) 9 f_11) 10 f_12) 11 f_13) 12 f_14))) := hD
      refine lv_aload_n hx hb dX9_program_250 rfl (lv_at hl 0 rfl) ?_
      refine va_get (D := G.1) (ci := 7) (v := .ref (d0 36)) (C := RX9) (T := TX9) (N := 49) hx hb hT iX9 hown hK hP 0 rfl rfl 36 (by decide) (hT _ q_708) (fun _ h9 => h9) rfl dX9_program_251 ?_
      refine lv_iconst (v := 0) hx hb dX9_program_254 (by decide) ?_
      refine lv_aload_n hx hb dX9_program_255 rfl (lv_at hl 0 rfl) ?_
      refine va_get (D := G.1) (ci := 7) (v := .ref (d0 13)) (C := RX9) (T := TX9) (N := 49) hx hb hT iX9 hown hK hP 0 rfl rfl 13 (by decide) (hT _ q_685) (fun _ h9 => h9) rfl dX9_program_256 ?_
      refine lv_iconst (v := 0) hx hb dX9_program_259 (by decide) ?_
      refine lv_bipush (v := 8) hx hb dX9_program_260 (by decide) ?_
      refine zcSv (As := [.ref (d0 36), .int 0, .ref (d0 13), .int 0, .int 8]) (rest := []) Cx (c_X9_bring l G (d0 36) (d0 13) 8 8 0 0 8 ((zrp (zrp (zrp (zrp (zrp (zrp (zrp (zrp (zrp S0_5 4 f_6) 5 f_7) 6 f_8) 7 f_9) 8 f_10) 9 f_11) 10 f_12) 11 f_13) 12 f_14) 36) ((zrp (zrp (zrp (zrp (zrp (zrp (zrp (zrp (zrp S0_5 4 f_6) 5 f_7) 6 f_8) 7 f_9) 8 f_10) 9 f_11) 10 f_12) 11 f_13) 12 f_14) 13) _ hg) zv_X9_bring q_906 ⟨⟨rfl, rfl⟩, Nat.le_of_ble_eq_true rfl, Nat.le_of_ble_eq_true rfl⟩ (zJ.sub (wr := [0, 1, 2, 3, 4, 5, 6, 7, 8, 9, 10, 12, 13, 14, 15, 16, 17, 18, 19, 20, 21, 22, 23, 24, 25, 26, 28, 29, 30, 31, 32, 33, 34, 35, 36, 37].filterMap (fun i => (wX9 G o0 d0 ((zrp (zrp (zrp (zrp (zrp (zrp (zrp (zrp (zrp S0_5 4 f_6) 5 f_7) 6 f_8) 7 f_9) 8 f_10) 9 f_11) 10 f_12) 11 f_13) 12 f_14)))[i]?)) (w2 := (fun u : ZR => wX9 G o0 d0 ((zrp (zrp (zrp (zrp (zrp (zrp (zrp (zrp (zrp (zrp S0_5 4 f_6) 5 f_7) 6 f_8) 7 f_9) 8 f_10) 9 f_11) 10 f_12) 11 f_13) 12 f_14) 13 u)))) hP hD hS hA [27, 11] [0, 1, 2, 3, 4, 5, 6, 7, 8, 9, 10, 12, 13, 14, 15, 16, 17, 18, 19, 20, 21, 22, 23, 24, 25, 26, 28, 29, 30, 31, 32, 33, 34, 35, 36, 37] [0, 1, 2, 3, 4, 5, 6, 7, 8, 9, 10, 37, 11, 12, 13, 14, 15, 16, 17, 18, 19, 20, 21, 22, 23, 24, 25, 36, 26, 27, 28, 29, 30, 31, 32, 33, 34, 35] rfl rfl (by decide) (fun u => rfl)) hS rfl hl.1 rfl (Nat.le_of_ble_eq_true rfl) dX9_program_262 (fun f_15 H locs hg hP hD hS => ?_)
      have hP : va_P G.1 classes (wX9 G o0 d0 ((zrp (zrp (zrp (zrp (zrp (zrp (zrp (zrp (zrp (zrp S0_5 4 f_6) 5 f_7) 6 f_8) 7 f_9) 8 f_10) 9 f_11) 10 f_12) 11 f_13) 12 f_14) 13 f_15))) H := hP
      have hD : va_D A (wX9 G o0 d0 ((zrp (zrp (zrp (zrp (zrp (zrp (zrp (zrp (zrp (zrp S0_5 4 f_6) 5 f_7) 6 f_8) 7 f_9) 8 f_10) 9 f_11) 10 f_12) 11 f_13) 12 f_14) 13 f_15))) := hD
      refine lv_aload_n hx hb dX9_program_265 rfl (lv_at hl 0 rfl) ?_
      refine va_get (D := G.1) (ci := 7) (v := .ref (d0 37)) (C := RX9) (T := TX9) (N := 49) hx hb hT iX9 hown hK hP 0 rfl rfl 37 (by decide) (hT _ q_709) (fun _ h9 => h9) rfl dX9_program_266 ?_
      refine lv_iconst (v := 0) hx hb dX9_program_269 (by decide) ?_
      refine lv_aload_n hx hb dX9_program_270 rfl (lv_at hl 0 rfl) ?_
      refine va_get (D := G.1) (ci := 7) (v := .ref (d0 14)) (C := RX9) (T := TX9) (N := 49) hx hb hT iX9 hown hK hP 0 rfl rfl 14 (by decide) (hT _ q_686) (fun _ h9 => h9) rfl dX9_program_271 ?_
      refine lv_iconst (v := 0) hx hb dX9_program_274 (by decide) ?_
      refine lv_bipush (v := 8) hx hb dX9_program_275 (by decide) ?_
      refine zcSv (As := [.ref (d0 37), .int 0, .ref (d0 14), .int 0, .int 8]) (rest := []) Cx (c_X9_bring l G (d0 37) (d0 14) 8 8 0 0 8 ((zrp (zrp (zrp (zrp (zrp (zrp (zrp (zrp (zrp (zrp S0_5 4 f_6) 5 f_7) 6 f_8) 7 f_9) 8 f_10) 9 f_11) 10 f_12) 11 f_13) 12 f_14) 13 f_15) 37) ((zrp (zrp (zrp (zrp (zrp (zrp (zrp (zrp (zrp (zrp S0_5 4 f_6) 5 f_7) 6 f_8) 7 f_9) 8 f_10) 9 f_11) 10 f_12) 11 f_13) 12 f_14) 13 f_15) 14) _ hg) zv_X9_bring q_906 ⟨⟨rfl, rfl⟩, Nat.le_of_ble_eq_true rfl, Nat.le_of_ble_eq_true rfl⟩ (zJ.sub (wr := [0, 1, 2, 3, 4, 5, 6, 7, 8, 9, 10, 11, 13, 14, 15, 16, 17, 18, 19, 20, 21, 22, 23, 24, 25, 26, 27, 29, 30, 31, 32, 33, 34, 35, 36, 37].filterMap (fun i => (wX9 G o0 d0 ((zrp (zrp (zrp (zrp (zrp (zrp (zrp (zrp (zrp (zrp S0_5 4 f_6) 5 f_7) 6 f_8) 7 f_9) 8 f_10) 9 f_11) 10 f_12) 11 f_13) 12 f_14) 13 f_15)))[i]?)) (w2 := (fun u : ZR => wX9 G o0 d0 ((zrp (zrp (zrp (zrp (zrp (zrp (zrp (zrp (zrp (zrp (zrp S0_5 4 f_6) 5 f_7) 6 f_8) 7 f_9) 8 f_10) 9 f_11) 10 f_12) 11 f_13) 12 f_14) 13 f_15) 14 u)))) hP hD hS hA [28, 12] [0, 1, 2, 3, 4, 5, 6, 7, 8, 9, 10, 11, 13, 14, 15, 16, 17, 18, 19, 20, 21, 22, 23, 24, 25, 26, 27, 29, 30, 31, 32, 33, 34, 35, 36, 37] [0, 1, 2, 3, 4, 5, 6, 7, 8, 9, 10, 11, 37, 12, 13, 14, 15, 16, 17, 18, 19, 20, 21, 22, 23, 24, 25, 26, 36, 27, 28, 29, 30, 31, 32, 33, 34, 35] rfl rfl (by decide) (fun u => rfl)) hS rfl hl.1 rfl (Nat.le_of_ble_eq_true rfl) dX9_program_277 (fun f_16 H locs hg hP hD hS => ?_)
      have hP : va_P G.1 classes (wX9 G o0 d0 ((zrp (zrp (zrp (zrp (zrp (zrp (zrp (zrp (zrp (zrp (zrp S0_5 4 f_6) 5 f_7) 6 f_8) 7 f_9) 8 f_10) 9 f_11) 10 f_12) 11 f_13) 12 f_14) 13 f_15) 14 f_16))) H := hP
      have hD : va_D A (wX9 G o0 d0 ((zrp (zrp (zrp (zrp (zrp (zrp (zrp (zrp (zrp (zrp (zrp S0_5 4 f_6) 5 f_7) 6 f_8) 7 f_9) 8 f_10) 9 f_11) 10 f_12) 11 f_13) 12 f_14) 13 f_15) 14 f_16))) := hD
      refine lv_aload_n hx hb dX9_program_280 rfl (lv_at hl 0 rfl) ?_
      refine va_get (D := G.1) (ci := 7) (v := .ref (d0 39)) (C := RX9) (T := TX9) (N := 49) hx hb hT iX9 hown hK hP 0 rfl rfl 39 (by decide) (hT _ q_711) (fun _ h9 => h9) rfl dX9_program_281 ?_
      refine lv_iconst (v := 0) hx hb dX9_program_284 (by decide) ?_
      refine lv_aload_n hx hb dX9_program_285 rfl (lv_at hl 0 rfl) ?_
      refine va_get (D := G.1) (ci := 7) (v := .ref (d0 15)) (C := RX9) (T := TX9) (N := 49) hx hb hT iX9 hown hK hP 0 rfl rfl 15 (by decide) (hT _ q_687) (fun _ h9 => h9) rfl dX9_program_286 ?_
      refine lv_iconst (v := 0) hx hb dX9_program_289 (by decide) ?_
      refine lv_bipush (v := 8) hx hb dX9_program_290 (by decide) ?_
      refine zcSv (As := [.ref (d0 39), .int 0, .ref (d0 15), .int 0, .int 8]) (rest := []) Cx (c_X9_bring l G (d0 39) (d0 15) 8 8 0 0 8 ((zrp (zrp (zrp (zrp (zrp (zrp (zrp (zrp (zrp (zrp (zrp S0_5 4 f_6) 5 f_7) 6 f_8) 7 f_9) 8 f_10) 9 f_11) 10 f_12) 11 f_13) 12 f_14) 13 f_15) 14 f_16) 39) ((zrp (zrp (zrp (zrp (zrp (zrp (zrp (zrp (zrp (zrp (zrp S0_5 4 f_6) 5 f_7) 6 f_8) 7 f_9) 8 f_10) 9 f_11) 10 f_12) 11 f_13) 12 f_14) 13 f_15) 14 f_16) 15) _ hg) zv_X9_bring q_906 ⟨⟨rfl, rfl⟩, Nat.le_of_ble_eq_true rfl, Nat.le_of_ble_eq_true rfl⟩ (zJ.sub (wr := [0, 1, 2, 3, 4, 5, 6, 7, 8, 9, 10, 11, 12, 14, 15, 16, 17, 18, 19, 20, 21, 22, 23, 24, 25, 26, 27, 28, 29, 31, 32, 33, 34, 35, 36, 37].filterMap (fun i => (wX9 G o0 d0 ((zrp (zrp (zrp (zrp (zrp (zrp (zrp (zrp (zrp (zrp (zrp S0_5 4 f_6) 5 f_7) 6 f_8) 7 f_9) 8 f_10) 9 f_11) 10 f_12) 11 f_13) 12 f_14) 13 f_15) 14 f_16)))[i]?)) (w2 := (fun u : ZR => wX9 G o0 d0 ((zrp (zrp (zrp (zrp (zrp (zrp (zrp (zrp (zrp (zrp (zrp (zrp S0_5 4 f_6) 5 f_7) 6 f_8) 7 f_9) 8 f_10) 9 f_11) 10 f_12) 11 f_13) 12 f_14) 13 f_15) 14 f_16) 15 u)))) hP hD hS hA [30, 13] [0, 1, 2, 3, 4, 5, 6, 7, 8, 9, 10, 11, 12, 14, 15, 16, 17, 18, 19, 20, 21, 22, 23, 24, 25, 26, 27, 28, 29, 31, 32, 33, 34, 35, 36, 37] [0, 1, 2, 3, 4, 5, 6, 7, 8, 9, 10, 11, 12, 37, 13, 14, 15, 16, 17, 18, 19, 20, 21, 22, 23, 24, 25, 26, 27, 28, 36, 29, 30, 31, 32, 33, 34, 35] rfl rfl (by decide) (fun u => rfl)) hS rfl hl.1 rfl (Nat.le_of_ble_eq_true rfl) dX9_program_292 (fun f_17 H locs hg hP hD hS => ?_)
      have hP : va_P G.1 classes (wX9 G o0 d0 ((zrp (zrp (zrp (zrp (zrp (zrp (zrp (zrp (zrp (zrp (zrp (zrp S0_5 4 f_6) 5 f_7) 6 f_8) 7 f_9) 8 f_10) 9 f_11) 10 f_12) 11 f_13) 12 f_14) 13 f_15) 14 f_16) 15 f_17))) H := hP
      have hD : va_D A (wX9 G o0 d0 ((zrp (zrp (zrp (zrp (zrp (zrp (zrp (zrp (zrp (zrp (zrp (zrp S0_5 4 f_6) 5 f_7) 6 f_8) 7 f_9) 8 f_10) 9 f_11) 10 f_12) 11 f_13) 12 f_14) 13 f_15) 14 f_16) 15 f_17))) := hD
      refine lv_aload_n hx hb dX9_program_295 rfl (lv_at hl 0 rfl) ?_
      refine va_get (D := G.1) (ci := 7) (v := .ref (d0 38)) (C := RX9) (T := TX9) (N := 49) hx hb hT iX9 hown hK hP 0 rfl rfl 38 (by decide) (hT _ q_710) (fun _ h9 => h9) rfl dX9_program_296 ?_
      refine lv_iconst (v := 0) hx hb dX9_program_299 (by decide) ?_
      refine lv_aload_n hx hb dX9_program_300 rfl (lv_at hl 0 rfl) ?_
      refine va_get (D := G.1) (ci := 7) (v := .ref (d0 16)) (C := RX9) (T := TX9) (N := 49) hx hb hT iX9 hown hK hP 0 rfl rfl 16 (by decide) (hT _ q_688) (fun _ h9 => h9) rfl dX9_program_301 ?_
      refine lv_iconst (v := 0) hx hb dX9_program_304 (by decide) ?_
      refine lv_bipush (v := 112) hx hb dX9_program_305 (by decide) ?_
      refine zcSv (As := [.ref (d0 38), .int 0, .ref (d0 16), .int 0, .int 112]) (rest := []) Cx (c_X9_bring l G (d0 38) (d0 16) 112 112 0 0 112 ((zrp (zrp (zrp (zrp (zrp (zrp (zrp (zrp (zrp (zrp (zrp (zrp S0_5 4 f_6) 5 f_7) 6 f_8) 7 f_9) 8 f_10) 9 f_11) 10 f_12) 11 f_13) 12 f_14) 13 f_15) 14 f_16) 15 f_17) 38) ((zrp (zrp (zrp (zrp (zrp (zrp (zrp (zrp (zrp (zrp (zrp (zrp S0_5 4 f_6) 5 f_7) 6 f_8) 7 f_9) 8 f_10) 9 f_11) 10 f_12) 11 f_13) 12 f_14) 13 f_15) 14 f_16) 15 f_17) 16) _ hg) zv_X9_bring q_906 ⟨⟨rfl, rfl⟩, Nat.le_of_ble_eq_true rfl, Nat.le_of_ble_eq_true rfl⟩ (zJ.sub (wr := [0, 1, 2, 3, 4, 5, 6, 7, 8, 9, 10, 11, 12, 13, 15, 16, 17, 18, 19, 20, 21, 22, 23, 24, 25, 26, 27, 28, 30, 31, 32, 33, 34, 35, 36, 37].filterMap (fun i => (wX9 G o0 d0 ((zrp (zrp (zrp (zrp (zrp (zrp (zrp (zrp (zrp (zrp (zrp (zrp S0_5 4 f_6) 5 f_7) 6 f_8) 7 f_9) 8 f_10) 9 f_11) 10 f_12) 11 f_13) 12 f_14) 13 f_15) 14 f_16) 15 f_17)))[i]?)) (w2 := (fun u : ZR => wX9 G o0 d0 ((zrp (zrp (zrp (zrp (zrp (zrp (zrp (zrp (zrp (zrp (zrp (zrp (zrp S0_5 4 f_6) 5 f_7) 6 f_8) 7 f_9) 8 f_10) 9 f_11) 10 f_12) 11 f_13) 12 f_14) 13 f_15) 14 f_16) 15 f_17) 16 u)))) hP hD hS hA [29, 14] [0, 1, 2, 3, 4, 5, 6, 7, 8, 9, 10, 11, 12, 13, 15, 16, 17, 18, 19, 20, 21, 22, 23, 24, 25, 26, 27, 28, 30, 31, 32, 33, 34, 35, 36, 37] [0, 1, 2, 3, 4, 5, 6, 7, 8, 9, 10, 11, 12, 13, 37, 14, 15, 16, 17, 18, 19, 20, 21, 22, 23, 24, 25, 26, 27, 36, 28, 29, 30, 31, 32, 33, 34, 35] rfl rfl (by decide) (fun u => rfl)) hS rfl hl.1 rfl (Nat.le_of_ble_eq_true rfl) dX9_program_307 (fun f_18 H locs hg hP hD hS => ?_)
      have hP : va_P G.1 classes (wX9 G o0 d0 ((zrp (zrp (zrp (zrp (zrp (zrp (zrp (zrp (zrp (zrp (zrp (zrp (zrp S0_5 4 f_6) 5 f_7) 6 f_8) 7 f_9) 8 f_10) 9 f_11) 10 f_12) 11 f_13) 12 f_14) 13 f_15) 14 f_16) 15 f_17) 16 f_18))) H := hP
      have hD : va_D A (wX9 G o0 d0 ((zrp (zrp (zrp (zrp (zrp (zrp (zrp (zrp (zrp (zrp (zrp (zrp (zrp S0_5 4 f_6) 5 f_7) 6 f_8) 7 f_9) 8 f_10) 9 f_11) 10 f_12) 11 f_13) 12 f_14) 13 f_15) 14 f_16) 15 f_17) 16 f_18))) := hD
      refine lv_aload_n hx hb dX9_program_310 rfl (lv_at hl 0 rfl) ?_
      refine lv_iconst (v := 0) hx hb dX9_program_311 (by decide) ?_
      refine z_put (D := G.1) (ci := 7) (v := .int 0) (ty := .int) (C := RX9) (T := TX9) (N := 49) hx hb hT iX9 tyX9 tyX9_ok nmX9 hown hK hP hD hS 0 rfl rfl 18 (by decide) (hT _ q_690) (fun _ h9 => h9) rfl (by decide +kernel) rfl rfl (Nat.le_of_ble_eq_true rfl) dX9_program_312 (zst (zrp (zrp (zrp (zrp (zrp (zrp (zrp (zrp (zrp (zrp (zrp (zrp (zrp S0_5 4 f_6) 5 f_7) 6 f_8) 7 f_9) 8 f_10) 9 f_11) 10 f_12) 11 f_13) 12 f_14) 13 f_15) 14 f_16) 15 f_17) 16 f_18) 18 0 0) (fun S : ZS => wX9 G o0 d0 S) rfl (fun S0_19 H locs eS0_19 hP hD hS => ?_)
      have hg := hg S0_19 eS0_19
      refine lv_aload_n hx hb dX9_program_315 rfl (lv_at hl 0 rfl) ?_
      refine va_get (D := G.1) (ci := 7) (v := .ref (d0 20)) (C := RX9) (T := TX9) (N := 49) hx hb hT iX9 hown hK hP 0 rfl rfl 20 (by decide) (hT _ q_692) (fun _ h9 => h9) rfl dX9_program_316 ?_
      refine lv_iconst (v := 0) hx hb dX9_program_319 (by decide) ?_
      refine lv_iconst (v := 0) hx hb dX9_program_320 (by decide) ?_
      refine z_zast hx hb hK hP hD hS 17 1 rfl rfl (z_in rfl) dX9_program_321 (zst S0_19 20 (0 : Int32).toNatClampNeg (vp_nar .boolean 0)) (fun S : ZS => wX9 G o0 d0 S) rfl (fun S0_20 H locs eS0_20 hP hD hS => ?_)
      have hg := hg S0_20 eS0_20
      refine lv_aload_n hx hb dX9_program_322 rfl (lv_at hl 0 rfl) ?_
      refine va_get (D := G.1) (ci := 7) (v := .ref (d0 20)) (C := RX9) (T := TX9) (N := 49) hx hb hT iX9 hown hK hP 0 rfl rfl 20 (by decide) (hT _ q_692) (fun _ h9 => h9) rfl dX9_program_323 ?_
      refine lv_iconst (v := 1) hx hb dX9_program_326 (by decide) ?_
      refine lv_iconst (v := 0) hx hb dX9_program_327 (by decide) ?_
      refine z_zast hx hb hK hP hD hS 17 1 rfl rfl (z_in rfl) dX9_program_328 (zst S0_20 20 (1 : Int32).toNatClampNeg (vp_nar .boolean 0)) (fun S : ZS => wX9 G o0 d0 S) rfl (fun S0_21 H locs eS0_21 hP hD hS => ?_)
      have hg := hg S0_21 eS0_21
      refine lv_aload_n hx hb dX9_program_329 rfl (lv_at hl 0 rfl) ?_
      refine va_get (D := G.1) (ci := 7) (v := .int (S0_21 2 0)) (C := RX9) (T := TX9) (N := 49) hx hb hT iX9 hown hK hP 0 rfl rfl 2 (by decide) (hT _ q_674) (fun _ h9 => h9) rfl dX9_program_330 ?_
      exact hret _ _ _ (S0_21) _ _ hg rfl hP hD hS dX9_program_333
    · have hg := hg.2 c_1
      refine lv_bipush (v := (-10)) hx hb dX9_program_73 (by decide) ?_
      refine lv_aload_n hx hb dX9_program_75 rfl (lv_at hl 0 rfl) ?_
      refine va_get (D := G.1) (ci := 7) (v := .int (S0 22 0)) (C := RX9) (T := TX9) (N := 49) hx hb hT iX9 hown hK hP 0 rfl rfl 22 (by decide) (hT _ q_694) (fun _ h9 => h9) rfl dX9_program_76 ?_
      refine lv_isub hx hb dX9_program_79 ?_
      exact hret _ _ _ (S0) _ _ hg rfl hP hD hS dX9_program_80
  have J53 : ∀ (S0 : ZS) (H : Heap) (locs : List Loc) (ls : Array Slot), G_X9_program_53 Q S0 → va_P G.1 classes (wX9 G o0 d0 S0) H → va_D A (wX9 G o0 d0 S0) → va_S A s.heap H locs → lv_has ls 1 [(0, .ref o0)] → W p l e rm_X9_program s m args below meth c H locs 0 0 QQ (F0 m 53 ls []) := by
    intro S0 H locs ls hg hP hD hS hl
    refine lv_aload_n hx hb dX9_program_53 rfl (lv_at hl 0 rfl) ?_
    refine lv_iconst (v := 1) hx hb dX9_program_54 (by decide) ?_
    refine z_put (D := G.1) (ci := 7) (v := .int 1) (ty := .boolean) (C := RX9) (T := TX9) (N := 49) hx hb hT iX9 tyX9 tyX9_ok nmX9 hown hK hP hD hS 0 rfl rfl 23 (by decide) (hT _ q_695) (fun _ h9 => h9) rfl (by decide +kernel) rfl rfl (Nat.le_of_ble_eq_true rfl) dX9_program_55 (zst S0 23 0 1) (fun S : ZS => wX9 G o0 d0 S) rfl (fun S0_1 H locs eS0_1 hP hD hS => ?_)
    have hg := hg S0_1 eS0_1
    refine lv_aload_n hx hb dX9_program_58 rfl (lv_at hl 0 rfl) ?_
    refine lv_aload_n hx hb dX9_program_59 rfl (lv_at hl 0 rfl) ?_
    refine va_get (D := G.1) (ci := 7) (v := .int (S0_1 1 0)) (C := RX9) (T := TX9) (N := 49) hx hb hT iX9 hown hK hP 0 rfl rfl 1 (by decide) (hT _ q_673) (fun _ h9 => h9) rfl dX9_program_60 ?_
    refine z_put (D := G.1) (ci := 7) (v := .int (S0_1 1 0)) (ty := .int) (C := RX9) (T := TX9) (N := 49) hx hb hT iX9 tyX9 tyX9_ok nmX9 hown hK hP hD hS 0 rfl rfl 22 (by decide) (hT _ q_694) (fun _ h9 => h9) rfl (by decide +kernel) rfl rfl (Nat.le_of_ble_eq_true rfl) dX9_program_63 (zst S0_1 22 0 (S0_1 1 0)) (fun S : ZS => wX9 G o0 d0 S) rfl (fun S0_2 H locs eS0_2 hP hD hS => ?_)
    have hg := hg S0_2 eS0_2
    exact J66 _ _ _ _ hg hP hD hS (lv_sub hl [0] rfl)
  have J25 : ∀ (S0 : ZS) (H : Heap) (locs : List Loc) (ls : Array Slot), G_X9_program_25 Q S0 → va_P G.1 classes (wX9 G o0 d0 S0) H → va_D A (wX9 G o0 d0 S0) → va_S A s.heap H locs → lv_has ls 1 [(0, .ref o0)] → W p l e rm_X9_program s m args below meth c H locs 0 0 QQ (F0 m 25 ls []) := by
    intro S0 H locs ls hg hP hD hS hl
    refine lv_aload_n hx hb dX9_program_25 rfl (lv_at hl 0 rfl) ?_
    refine va_get (D := G.1) (ci := 7) (v := .int (S0 23 0)) (C := RX9) (T := TX9) (N := 49) hx hb hT iX9 hown hK hP 0 rfl rfl 23 (by decide) (hT _ q_695) (fun _ h9 => h9) rfl dX9_program_26 ?_
    refine lv_if_ne (tgt := 66) hx hb dX9_program_29 (by decide) (fun c_1 => ?_) (fun c_1 => ?_)
    · have hg := hg.2 c_1
      exact J66 _ _ _ _ hg hP hD hS (lv_sub hl [0] rfl)
    · have hg := hg.1 c_1
      refine lv_aload_n hx hb dX9_program_32 rfl (lv_at hl 0 rfl) ?_
      refine va_get (D := G.1) (ci := 7) (v := .int (S0 26 0)) (C := RX9) (T := TX9) (N := 49) hx hb hT iX9 hown hK hP 0 rfl rfl 26 (by decide) (hT _ q_698) (fun _ h9 => h9) rfl dX9_program_33 ?_
      refine lv_if_ne (tgt := 53) hx hb dX9_program_36 (by decide) (fun c_2 => ?_) (fun c_2 => ?_)
      · have hg := hg.2 c_2
        exact J53 _ _ _ _ hg hP hD hS (lv_sub hl [0] rfl)
      · have hg := hg.1 c_2
        refine lv_aload_n hx hb dX9_program_39 rfl (lv_at hl 0 rfl) ?_
        refine va_get (D := G.1) (ci := 7) (v := .int (S0 25 0)) (C := RX9) (T := TX9) (N := 49) hx hb hT iX9 hown hK hP 0 rfl rfl 25 (by decide) (hT _ q_697) (fun _ h9 => h9) rfl dX9_program_40 ?_
        refine lv_if_eq (tgt := 53) hx hb dX9_program_43 (by decide) (fun c_3 => ?_) (fun c_3 => ?_)
        · have hg := hg.1 c_3
          exact J53 _ _ _ _ hg hP hD hS (lv_sub hl [0] rfl)
        · have hg := hg.2 c_3
          refine lv_aload_n hx hb dX9_program_46 rfl (lv_at hl 0 rfl) ?_
          refine zcVi (As := []) (rest := []) (C := RX9) Cx (c_X9_isStrict l G o0 d0 S0 _ hg) zv_X9_isStrict q_883 ⟨⟨rfl, rfl⟩, Nat.le_of_ble_eq_true rfl, Nat.le_of_ble_eq_true rfl⟩ (zJ.all hP hD hS hA) hS 7 rfl rfl rfl rfl hl.1 rfl (Nat.le_of_ble_eq_true rfl) dX9_program_47 (fun r_5 S0_4 H locs hg hP hD hS => ?_)
          have hP : va_P G.1 classes (wX9 G o0 d0 S0_4) H := hP
          have hD : va_D A (wX9 G o0 d0 S0_4) := hD
          refine lv_if_ne (tgt := 66) hx hb dX9_program_50 (by decide) (fun c_6 => ?_) (fun c_6 => ?_)
          · have hg := hg.2 c_6
            exact J66 _ _ _ _ hg hP hD hS (lv_sub hl [0] rfl)
          · have hg := hg.1 c_6
            exact J53 _ _ _ _ hg hP hD hS (lv_sub hl [0] rfl)
  have L4 : ∀ (n : Nat) (S0 : ZS) (H : Heap) (locs : List Loc) (ls : Array Slot), fx (F_X9_program_4 Q) n S0 → va_P G.1 classes (wX9 G o0 d0 S0) H → va_D A (wX9 G o0 d0 S0) → va_S A s.heap H locs → lv_has ls 1 [(0, .ref o0)] → W p l e rm_X9_program s m args below meth c H locs 0 0 QQ (F0 m 4 ls []) := by
    intro n
    induction n with
    | zero => intro S0 H locs ls hg; exact hg.elim
    | succ n ih =>
      have hX4 := ih
      intro S0 H locs ls hg hP hD hS hl
      refine lv_aload_n hx hb dX9_program_4 rfl (lv_at hl 0 rfl) ?_
      refine va_get (D := G.1) (ci := 7) (v := .int (S0 23 0)) (C := RX9) (T := TX9) (N := 49) hx hb hT iX9 hown hK hP 0 rfl rfl 23 (by decide) (hT _ q_695) (fun _ h9 => h9) rfl dX9_program_5 ?_
      refine lv_if_ne (tgt := 25) hx hb dX9_program_8 (by decide) (fun c_1 => ?_) (fun c_1 => ?_)
      · have hg := hg.2 c_1
        exact J25 _ _ _ _ hg hP hD hS (lv_sub hl [0] rfl)
      · have hg := hg.1 c_1
        refine lv_aload_n hx hb dX9_program_11 rfl (lv_at hl 0 rfl) ?_
        refine zcVi (As := []) (rest := []) (C := RX9) Cx (c_X9_here l G o0 d0 S0 _ hg) zv_X9_here q_840 ⟨⟨rfl, rfl⟩, Nat.le_of_ble_eq_true rfl, Nat.le_of_ble_eq_true rfl⟩ (zJ.all hP hD hS hA) hS 7 rfl rfl rfl rfl hl.1 rfl (Nat.le_of_ble_eq_true rfl) dX9_program_12 (fun r_3 S0_2 H locs hg hP hD hS => ?_)
        have hP : va_P G.1 classes (wX9 G o0 d0 S0_2) H := hP
        have hD : va_D A (wX9 G o0 d0 S0_2) := hD
        refine lv_if_lt (tgt := 25) hx hb dX9_program_15 (by decide) (fun c_4 => ?_) (fun c_4 => ?_)
        · have hg := hg.1 c_4
          exact J25 _ _ _ _ hg hP hD hS (lv_sub hl [0] rfl)
        · have hg := hg.2 c_4
          refine lv_aload_n hx hb dX9_program_18 rfl (lv_at hl 0 rfl) ?_
          refine zcVv (As := []) (rest := []) (C := RX9) Cx (c_X9_readsItem l G o0 d0 S0_2 _ hg) zv_X9_readsItem q_844 ⟨⟨rfl, rfl⟩, Nat.le_of_ble_eq_true rfl, Nat.le_of_ble_eq_true rfl⟩ (zJ.all hP hD hS hA) hS 7 rfl rfl rfl rfl hl.1 rfl (Nat.le_of_ble_eq_true rfl) dX9_program_19 (fun S0_5 H locs hg hP hD hS => ?_)
          have hP : va_P G.1 classes (wX9 G o0 d0 S0_5) H := hP
          have hD : va_D A (wX9 G o0 d0 S0_5) := hD
          refine lv_goto (tgt := 4) hx hb dX9_program_22 (by decide) ?_
          exact hX4 _ _ _ _ hg hP hD hS (lv_sub hl [0] rfl)
  refine lv_aload_n hx hb dX9_program_0 rfl (lv_at hl 0 rfl) ?_
  refine zcVv (As := []) (rest := []) (C := RX9) Cx (c_X9_startsReading l G o0 d0 S0 _ hg) zv_X9_startsReading q_836 ⟨⟨rfl, rfl⟩, Nat.le_of_ble_eq_true rfl, Nat.le_of_ble_eq_true rfl⟩ (zJ.all hP hD hS hA) hS 7 rfl rfl rfl rfl hl.1 rfl (Nat.le_of_ble_eq_true rfl) dX9_program_1 (fun S0_1 H locs hg hP hD hS => ?_)
  have hP : va_P G.1 classes (wX9 G o0 d0 S0_1) H := hP
  have hD : va_D A (wX9 G o0 d0 S0_1) := hD
  obtain ⟨n, hg⟩ := hg
  exact L4 n _ _ _ _ hg hP hD hS (lv_sub hl [0] rfl)
theorem zv_X9_doneBy : zV yX9_doneBy RX9 cX9_doneBy 4 (some .int) 3 := ⟨q_931, qp_21, q_8, q_932, by decide +kernel⟩
set_option maxHeartbeats 4000000 in
set_option maxRecDepth 100000 in
theorem c_X9_doneBy (l : Launch) (G : ZG) (o0 : Nat) (d0 : Nat → Nat) (x1 : Int32) (x2 : Int32) (x3 : Int32) (S0 : ZS) (Q : Int32 → ZS → Prop) (hg : g_X9_doneBy x1 x2 x3 S0 Q) : Ki l G yX9_doneBy cX9_doneBy 4 .int rm_X9_doneBy [.ref o0, .int x1, .int x2, .int x3] (wX9 G o0 d0 S0) (fun u : ZS => wX9 G o0 d0 u) (fun r u => Q r u) := by
  refine Ki.of (by decide) (Nat.le_of_ble_eq_true rfl) ?_
  intro p e s m args below meth c A QQ ls Cx hret hl hP hD hS
  obtain ⟨hx, hb, hml, hown, hT, hK, hA⟩ := id Cx
  have hl : lv_has ls 4 [(0, .ref o0), (1, .int x1), (2, .int x2), (3, .int x3)] := hl
  have J22 : ∀ (t1 : Int32) (S0 : ZS) (H : Heap) (locs : List Loc) (ls : Array Slot), G_X9_doneBy_22 x1 x2 x3 Q t1 S0 → va_P G.1 classes (wX9 G o0 d0 S0) H → va_D A (wX9 G o0 d0 S0) → va_S A s.heap H locs → lv_has ls 4 [(1, .int x1), (2, .int x2), (3, .int x3)] → W p l e rm_X9_doneBy s m args below meth c H locs 0 0 QQ (F0 m 22 ls [.int t1, .ref o0]) := by
    intro t1 S0 H locs ls hg hP hD hS hl
    refine z_put (D := G.1) (ci := 7) (v := .int t1) (ty := .boolean) (C := RX9) (T := TX9) (N := 49) hx hb hT iX9 tyX9 tyX9_ok nmX9 hown hK hP hD hS 0 rfl rfl 44 (by decide) (hT _ q_716) (fun _ h9 => h9) rfl (by decide +kernel) hg.1.nar hg.1.fit (Nat.le_of_ble_eq_true rfl) dX9_doneBy_22 (zst S0 44 0 t1) (fun S : ZS => wX9 G o0 d0 S) rfl (fun S0_1 H locs eS0_1 hP hD hS => ?_)
    have hg := hg.2 S0_1 eS0_1
    refine lv_iload_n hx hb dX9_doneBy_25 rfl (lv_at hl 0 rfl) ?_
    by_cases k37 : x1 = 37
    · have hg := hg.1 k37
      refine lv_lookup (off := 98) (tgt := 124) hx hb dX9_doneBy_26 (by decide) (by rw [k37]; rfl) (by decide) ?_
      refine lv_iload_n hx hb dX9_doneBy_124 rfl (lv_at hl 2 rfl) ?_
      refine lv_if_ne (tgt := 132) hx hb dX9_doneBy_125 (by decide) (fun c_2 => ?_) (fun c_2 => ?_)
      · have hg := hg.2 c_2
        refine lv_iload_n hx hb dX9_doneBy_132 rfl (lv_at hl 1 rfl) ?_
        refine lv_iload_n hx hb dX9_doneBy_133 rfl (lv_at hl 2 rfl) ?_
        refine lv_irem hx hb dX9_doneBy_134 hg.1 ?_
        have hg := hg.2
        exact hret _ _ _ (S0_1) _ _ hg rfl hP hD hS dX9_doneBy_135
      · have hg := hg.1 c_2
        refine lv_iconst (v := 0) hx hb dX9_doneBy_128 (by decide) ?_
        refine lv_goto (tgt := 135) hx hb dX9_doneBy_129 (by decide) ?_
        exact hret _ _ _ (S0_1) _ _ hg rfl hP hD hS dX9_doneBy_135
    by_cases k38 : x1 = 38
    · have hg := hg.2.1 k38
      refine lv_lookup (off := 110) (tgt := 136) hx hb dX9_doneBy_26 (by decide) (by rw [k38]; rfl) (by decide) ?_
      refine lv_iload_n hx hb dX9_doneBy_136 rfl (lv_at hl 1 rfl) ?_
      refine lv_iload_n hx hb dX9_doneBy_137 rfl (lv_at hl 2 rfl) ?_
      refine lv_iand hx hb dX9_doneBy_138 ?_
      exact hret _ _ _ (S0_1) _ _ hg rfl hP hD hS dX9_doneBy_139
    by_cases k42 : x1 = 42
    · have hg := hg.2.2.1 k42
      refine lv_lookup (off := 82) (tgt := 108) hx hb dX9_doneBy_26 (by decide) (by rw [k42]; rfl) (by decide) ?_
      refine lv_iload_n hx hb dX9_doneBy_108 rfl (lv_at hl 1 rfl) ?_
      refine lv_iload_n hx hb dX9_doneBy_109 rfl (lv_at hl 2 rfl) ?_
      refine lv_imul hx hb dX9_doneBy_110 ?_
      exact hret _ _ _ (S0_1) _ _ hg rfl hP hD hS dX9_doneBy_111
    by_cases k43 : x1 = 43
    · have hg := hg.2.2.2.1 k43
      refine lv_lookup (off := 74) (tgt := 100) hx hb dX9_doneBy_26 (by decide) (by rw [k43]; rfl) (by decide) ?_
      refine lv_iload_n hx hb dX9_doneBy_100 rfl (lv_at hl 1 rfl) ?_
      refine lv_iload_n hx hb dX9_doneBy_101 rfl (lv_at hl 2 rfl) ?_
      refine lv_iadd hx hb dX9_doneBy_102 ?_
      exact hret _ _ _ (S0_1) _ _ hg rfl hP hD hS dX9_doneBy_103
    by_cases k45 : x1 = 45
    · have hg := hg.2.2.2.2.1 k45
      refine lv_lookup (off := 78) (tgt := 104) hx hb dX9_doneBy_26 (by decide) (by rw [k45]; rfl) (by decide) ?_
      refine lv_iload_n hx hb dX9_doneBy_104 rfl (lv_at hl 1 rfl) ?_
      refine lv_iload_n hx hb dX9_doneBy_105 rfl (lv_at hl 2 rfl) ?_
      refine lv_isub hx hb dX9_doneBy_106 ?_
      exact hret _ _ _ (S0_1) _ _ hg rfl hP hD hS dX9_doneBy_107
    by_cases k47 : x1 = 47
    · have hg := hg.2.2.2.2.2.1 k47
      refine lv_lookup (off := 86) (tgt := 112) hx hb dX9_doneBy_26 (by decide) (by rw [k47]; rfl) (by decide) ?_
      refine lv_iload_n hx hb dX9_doneBy_112 rfl (lv_at hl 2 rfl) ?_
      refine lv_if_ne (tgt := 120) hx hb dX9_doneBy_113 (by decide) (fun c_3 => ?_) (fun c_3 => ?_)
      · have hg := hg.2 c_3
        refine lv_iload_n hx hb dX9_doneBy_120 rfl (lv_at hl 1 rfl) ?_
        refine lv_iload_n hx hb dX9_doneBy_121 rfl (lv_at hl 2 rfl) ?_
        refine lv_idiv hx hb dX9_doneBy_122 hg.1 ?_
        have hg := hg.2
        exact hret _ _ _ (S0_1) _ _ hg rfl hP hD hS dX9_doneBy_123
      · have hg := hg.1 c_3
        refine lv_iconst (v := 0) hx hb dX9_doneBy_116 (by decide) ?_
        refine lv_goto (tgt := 123) hx hb dX9_doneBy_117 (by decide) ?_
        exact hret _ _ _ (S0_1) _ _ hg rfl hP hD hS dX9_doneBy_123
    by_cases k60 : x1 = 60
    · have hg := hg.2.2.2.2.2.2.1 k60
      refine lv_lookup (off := 118) (tgt := 144) hx hb dX9_doneBy_26 (by decide) (by rw [k60]; rfl) (by decide) ?_
      refine lv_iload_n hx hb dX9_doneBy_144 rfl (lv_at hl 1 rfl) ?_
      refine lv_iload_n hx hb dX9_doneBy_145 rfl (lv_at hl 2 rfl) ?_
      refine lv_icmp_ge (tgt := 153) hx hb dX9_doneBy_146 (by decide) (fun c_4 => ?_) (fun c_4 => ?_)
      · have hg := hg.1 c_4
        refine lv_iconst (v := 0) hx hb dX9_doneBy_153 (by decide) ?_
        exact hret _ _ _ (S0_1) _ _ hg rfl hP hD hS dX9_doneBy_154
      · have hg := hg.2 c_4
        refine lv_iconst (v := 1) hx hb dX9_doneBy_149 (by decide) ?_
        refine lv_goto (tgt := 154) hx hb dX9_doneBy_150 (by decide) ?_
        exact hret _ _ _ (S0_1) _ _ hg rfl hP hD hS dX9_doneBy_154
    by_cases k94 : x1 = 94
    · have hg := hg.2.2.2.2.2.2.2.1 k94
      refine lv_lookup (off := 114) (tgt := 140) hx hb dX9_doneBy_26 (by decide) (by rw [k94]; rfl) (by decide) ?_
      refine lv_iload_n hx hb dX9_doneBy_140 rfl (lv_at hl 1 rfl) ?_
      refine lv_iload_n hx hb dX9_doneBy_141 rfl (lv_at hl 2 rfl) ?_
      refine lv_ixor hx hb dX9_doneBy_142 ?_
      exact hret _ _ _ (S0_1) _ _ hg rfl hP hD hS dX9_doneBy_143
    have hg := hg.2.2.2.2.2.2.2.2 k37 k38 k42 k43 k45 k47 k60 k94
    refine lv_lookup (off := 129) (tgt := 155) hx hb dX9_doneBy_26 (by decide) (by show Op.lookupswitch.offset [(37, 98), (38, 110), (42, 82), (43, 74), (45, 78), (47, 86), (60, 118), (94, 114)] _ _ = _; rw [lv_osw k37 (by decide), lv_osw k38 (by decide), lv_osw k42 (by decide), lv_osw k43 (by decide), lv_osw k45 (by decide), lv_osw k47 (by decide), lv_osw k60 (by decide), lv_osw k94 (by decide)]; rfl) (by decide) ?_
    refine lv_iload_n hx hb dX9_doneBy_155 rfl (lv_at hl 1 rfl) ?_
    refine lv_iload_n hx hb dX9_doneBy_156 rfl (lv_at hl 2 rfl) ?_
    refine lv_icmp_ne (tgt := 164) hx hb dX9_doneBy_157 (by decide) (fun c_5 => ?_) (fun c_5 => ?_)
    · have hg := hg.2 c_5
      refine lv_iconst (v := 0) hx hb dX9_doneBy_164 (by decide) ?_
      exact hret _ _ _ (S0_1) _ _ hg rfl hP hD hS dX9_doneBy_165
    · have hg := hg.1 c_5
      refine lv_iconst (v := 1) hx hb dX9_doneBy_160 (by decide) ?_
      refine lv_goto (tgt := 165) hx hb dX9_doneBy_161 (by decide) ?_
      exact hret _ _ _ (S0_1) _ _ hg rfl hP hD hS dX9_doneBy_165
  have J21 : ∀ (S0 : ZS) (H : Heap) (locs : List Loc) (ls : Array Slot), G_X9_doneBy_21 x1 x2 x3 Q S0 → va_P G.1 classes (wX9 G o0 d0 S0) H → va_D A (wX9 G o0 d0 S0) → va_S A s.heap H locs → lv_has ls 4 [(1, .int x1), (2, .int x2), (3, .int x3)] → W p l e rm_X9_doneBy s m args below meth c H locs 0 0 QQ (F0 m 21 ls [.ref o0]) := by
    intro S0 H locs ls hg hP hD hS hl
    refine lv_iconst (v := 0) hx hb dX9_doneBy_21 (by decide) ?_
    exact J22 _ _ _ _ _ hg hP hD hS (lv_sub hl [0, 1, 2] rfl)
  have J13 : ∀ (S0 : ZS) (H : Heap) (locs : List Loc) (ls : Array Slot), G_X9_doneBy_13 x1 x2 x3 Q S0 → va_P G.1 classes (wX9 G o0 d0 S0) H → va_D A (wX9 G o0 d0 S0) → va_S A s.heap H locs → lv_has ls 4 [(1, .int x1), (2, .int x2), (3, .int x3)] → W p l e rm_X9_doneBy s m args below meth c H locs 0 0 QQ (F0 m 13 ls [.ref o0]) := by
    intro S0 H locs ls hg hP hD hS hl
    refine lv_iload_n hx hb dX9_doneBy_13 rfl (lv_at hl 2 rfl) ?_
    refine lv_if_ne (tgt := 21) hx hb dX9_doneBy_14 (by decide) (fun c_1 => ?_) (fun c_1 => ?_)
    · have hg := hg.2 c_1
      exact J21 _ _ _ _ hg hP hD hS (lv_sub hl [0, 1, 2] rfl)
    · have hg := hg.1 c_1
      refine lv_iconst (v := 1) hx hb dX9_doneBy_17 (by decide) ?_
      refine lv_goto (tgt := 22) hx hb dX9_doneBy_18 (by decide) ?_
      exact J22 _ _ _ _ _ hg hP hD hS (lv_sub hl [0, 1, 2] rfl)
  refine lv_aload_n hx hb dX9_doneBy_0 rfl (lv_at hl 0 rfl) ?_
  refine lv_iload_n hx hb dX9_doneBy_1 rfl (lv_at hl 1 rfl) ?_
  refine lv_bipush (v := 47) hx hb dX9_doneBy_2 (by decide) ?_
  refine lv_icmp_eq (tgt := 13) hx hb dX9_doneBy_4 (by decide) (fun c_1 => ?_) (fun c_1 => ?_)
  · have hg := hg.1 c_1
    exact J13 _ _ _ _ hg hP hD hS (lv_sub hl [1, 2, 3] rfl)
  · have hg := hg.2 c_1
    refine lv_iload_n hx hb dX9_doneBy_7 rfl (lv_at hl 1 rfl) ?_
    refine lv_bipush (v := 37) hx hb dX9_doneBy_8 (by decide) ?_
    refine lv_icmp_ne (tgt := 21) hx hb dX9_doneBy_10 (by decide) (fun c_2 => ?_) (fun c_2 => ?_)
    · have hg := hg.2 c_2
      exact J21 _ _ _ _ hg hP hD hS (lv_sub hl [1, 2, 3] rfl)
    · have hg := hg.1 c_2
      exact J13 _ _ _ _ hg hP hD hS (lv_sub hl [1, 2, 3] rfl)
theorem zv_X9_isEdge : zV yX9_isEdge RX9 cX9_isEdge 5 (some .boolean) 3 := ⟨q_943, qp_24, q_8, q_944, by decide +kernel⟩
set_option maxHeartbeats 4000000 in
set_option maxRecDepth 100000 in
theorem c_X9_isEdge (l : Launch) (G : ZG) (o0 : Nat) (d0 : Nat → Nat) (x1 : Int32) (x2 : Int32) (x3 : Int32) (S0 : ZS) (Q : Int32 → Prop) (hg : g_X9_isEdge x1 x2 x3 S0 Q) : Ki l G yX9_isEdge cX9_isEdge 5 .boolean rm_X9_isEdge [.ref o0, .int x1, .int x2, .int x3] (wX9 G o0 d0 S0) (fun _ : Unit => wX9 G o0 d0 S0) (fun r _ => Q r ) := by
  refine Ki.of (by decide) (Nat.le_of_ble_eq_true rfl) ?_
  intro p e s m args below meth c A QQ ls Cx hret hl hP hD hS
  obtain ⟨hx, hb, hml, hown, hT, hK, hA⟩ := id Cx
  have hl : lv_has ls 5 [(0, .ref o0), (1, .int x1), (2, .int x2), (3, .int x3)] := hl
  have J98 : ∀ (t0 : Int32) (t1 : Int32) (H : Heap) (locs : List Loc) (ls : Array Slot), G_X9_isEdge_98 x1 x2 x3 S0 Q t0 t1 → va_P G.1 classes (wX9 G o0 d0 S0) H → va_D A (wX9 G o0 d0 S0) → va_S A s.heap H locs → lv_has ls 5 [] → W p l e rm_X9_isEdge s m args below meth c H locs 0 0 QQ (F0 m 98 ls [.int t1, .int t0]) := by
    intro t0 t1 H locs ls hg hP hD hS hl
    refine lv_icmp_ne (tgt := 105) hx hb dX9_isEdge_98 (by decide) (fun c_1 => ?_) (fun c_1 => ?_)
    · have hg := hg.2 c_1
      refine lv_iconst (v := 0) hx hb dX9_isEdge_105 (by decide) ?_
      exact hret _ _ _ () _ _ hg rfl hP hD hS dX9_isEdge_106
    · have hg := hg.1 c_1
      refine lv_iconst (v := 1) hx hb dX9_isEdge_101 (by decide) ?_
      refine lv_goto (tgt := 106) hx hb dX9_isEdge_102 (by decide) ?_
      exact hret _ _ _ () _ _ hg rfl hP hD hS dX9_isEdge_106
  have J89 : ∀ (t0 : Int32) (H : Heap) (locs : List Loc) (ls : Array Slot), G_X9_isEdge_89 x1 x2 x3 S0 Q t0 → va_P G.1 classes (wX9 G o0 d0 S0) H → va_D A (wX9 G o0 d0 S0) → va_S A s.heap H locs → lv_has ls 5 [(2, .int x2)] → W p l e rm_X9_isEdge s m args below meth c H locs 0 0 QQ (F0 m 89 ls [.int t0]) := by
    intro t0 H locs ls hg hP hD hS hl
    refine lv_iload_n hx hb dX9_isEdge_89 rfl (lv_at hl 0 rfl) ?_
    refine lv_if_ne (tgt := 97) hx hb dX9_isEdge_90 (by decide) (fun c_1 => ?_) (fun c_1 => ?_)
    · have hg := hg.2 c_1
      refine lv_iconst (v := 0) hx hb dX9_isEdge_97 (by decide) ?_
      exact J98 _ _ _ _ _ hg hP hD hS (lv_sub hl [] rfl)
    · have hg := hg.1 c_1
      refine lv_iconst (v := 1) hx hb dX9_isEdge_93 (by decide) ?_
      refine lv_goto (tgt := 98) hx hb dX9_isEdge_94 (by decide) ?_
      exact J98 _ _ _ _ _ hg hP hD hS (lv_sub hl [] rfl)
  refine lv_aload_n hx hb dX9_isEdge_0 rfl (lv_at hl 0 rfl) ?_
  refine va_get (D := G.1) (ci := 7) (v := .ref (d0 16)) (C := RX9) (T := TX9) (N := 49) hx hb hT iX9 hown hK hP 0 rfl rfl 16 (by decide) (hT _ q_688) (fun _ h9 => h9) rfl dX9_isEdge_1 ?_
  refine lv_bipush (v := 96) hx hb dX9_isEdge_4 (by decide) ?_
  refine lv_iconst (v := 2) hx hb dX9_isEdge_6 (by decide) ?_
  refine lv_iload_n hx hb dX9_isEdge_7 rfl (lv_at hl 1 rfl) ?_
  refine lv_imul hx hb dX9_isEdge_8 ?_
  refine lv_iadd hx hb dX9_isEdge_9 ?_
  refine lv_iload_n hx hb dX9_isEdge_10 rfl (lv_at hl 2 rfl) ?_
  refine lv_iadd hx hb dX9_isEdge_11 ?_
  refine va_iald hx hb hK hP 14 0 rfl rfl hg.1 dX9_isEdge_12 ?_
  have hg := hg.2
  refine lv_bipush (v := (-9)) hx hb dX9_isEdge_13 (by decide) ?_
  refine lv_icmp_eq (tgt := 27) hx hb dX9_isEdge_15 (by decide) (fun c_1 => ?_) (fun c_1 => ?_)
  · have hg := hg.1 c_1
    refine lv_iconst (v := 0) hx hb dX9_isEdge_27 (by decide) ?_
    exact hret _ _ _ () _ _ hg rfl hP hD hS dX9_isEdge_28
  · have hg := hg.2 c_1
    refine lv_aload_n hx hb dX9_isEdge_18 rfl (lv_at hl 0 rfl) ?_
    refine va_get (D := G.1) (ci := 7) (v := .ref (d0 42)) (C := RX9) (T := TX9) (N := 49) hx hb hT iX9 hown hK hP 0 rfl rfl 42 (by decide) (hT _ q_714) (fun _ h9 => h9) rfl dX9_isEdge_19 ?_
    refine lv_iload_n hx hb dX9_isEdge_22 rfl (lv_at hl 1 rfl) ?_
    refine va_zald hx hb hK hP 33 1 rfl rfl hg.1 dX9_isEdge_23 ?_
    have hg := hg.2
    refine lv_if_ne (tgt := 29) hx hb dX9_isEdge_24 (by decide) (fun c_2 => ?_) (fun c_2 => ?_)
    · have hg := hg.2 c_2
      refine lv_aload_n hx hb dX9_isEdge_29 rfl (lv_at hl 0 rfl) ?_
      refine va_get (D := G.1) (ci := 7) (v := .ref (d0 13)) (C := RX9) (T := TX9) (N := 49) hx hb hT iX9 hown hK hP 0 rfl rfl 13 (by decide) (hT _ q_685) (fun _ h9 => h9) rfl dX9_isEdge_30 ?_
      refine lv_iload_n hx hb dX9_isEdge_33 rfl (lv_at hl 1 rfl) ?_
      refine va_iald hx hb hK hP 11 0 rfl rfl hg.1 dX9_isEdge_34 ?_
      have hg := hg.2
      refine lv_if_eq (tgt := 42) hx hb dX9_isEdge_35 (by decide) (fun c_3 => ?_) (fun c_3 => ?_)
      · have hg := hg.1 c_3
        refine lv_iconst (v := 1) hx hb dX9_isEdge_42 (by decide) ?_
        exact hret _ _ _ () _ _ hg rfl hP hD hS dX9_isEdge_43
      · have hg := hg.2 c_3
        refine lv_iload_n hx hb dX9_isEdge_38 rfl (lv_at hl 3 rfl) ?_
        refine lv_if_eq (tgt := 44) hx hb dX9_isEdge_39 (by decide) (fun c_4 => ?_) (fun c_4 => ?_)
        · have hg := hg.1 c_4
          refine lv_aload_n hx hb dX9_isEdge_44 rfl (lv_at hl 0 rfl) ?_
          refine va_get (D := G.1) (ci := 7) (v := .ref (d0 14)) (C := RX9) (T := TX9) (N := 49) hx hb hT iX9 hown hK hP 0 rfl rfl 14 (by decide) (hT _ q_686) (fun _ h9 => h9) rfl dX9_isEdge_45 ?_
          refine lv_iload_n hx hb dX9_isEdge_48 rfl (lv_at hl 1 rfl) ?_
          refine va_iald hx hb hK hP 12 0 rfl rfl hg.1 dX9_isEdge_49 ?_
          have hg := hg.2
          refine lv_topi (fun x4_5 ex4_5 => ?_)
          have hg := hg x4_5 ex4_5
          refine lv_istore (lv' := [(4, .int x4_5), (0, .ref o0), (1, .int x1), (2, .int x2), (3, .int x3)]) hx hb dX9_isEdge_50 hl (by decide) rfl (fun ls hl => ?_)
          refine lv_aload_n hx hb dX9_isEdge_52 rfl (lv_at hl 1 rfl) ?_
          refine va_get (D := G.1) (ci := 7) (v := .ref (d0 40)) (C := RX9) (T := TX9) (N := 49) hx hb hT iX9 hown hK hP 0 rfl rfl 40 (by decide) (hT _ q_712) (fun _ h9 => h9) rfl dX9_isEdge_53 ?_
          refine lv_iload hx hb dX9_isEdge_56 (lv_at hl 0 rfl) ?_
          refine va_iald hx hb hK hP 31 0 rfl rfl hg.1 dX9_isEdge_58 ?_
          have hg := hg.2
          refine lv_iconst (v := 2) hx hb dX9_isEdge_59 (by decide) ?_
          refine lv_icmp_eq (tgt := 101) hx hb dX9_isEdge_60 (by decide) (fun c_6 => ?_) (fun c_6 => ?_)
          · have hg := hg.1 c_6
            refine lv_iconst (v := 1) hx hb dX9_isEdge_101 (by decide) ?_
            refine lv_goto (tgt := 106) hx hb dX9_isEdge_102 (by decide) ?_
            exact hret _ _ _ () _ _ hg rfl hP hD hS dX9_isEdge_106
          · have hg := hg.2 c_6
            refine lv_aload_n hx hb dX9_isEdge_63 rfl (lv_at hl 1 rfl) ?_
            refine va_get (D := G.1) (ci := 7) (v := .ref (d0 40)) (C := RX9) (T := TX9) (N := 49) hx hb hT iX9 hown hK hP 0 rfl rfl 40 (by decide) (hT _ q_712) (fun _ h9 => h9) rfl dX9_isEdge_64 ?_
            refine lv_iload hx hb dX9_isEdge_67 (lv_at hl 0 rfl) ?_
            refine va_iald hx hb hK hP 31 0 rfl rfl hg.1 dX9_isEdge_69 ?_
            have hg := hg.2
            refine lv_iconst (v := 1) hx hb dX9_isEdge_70 (by decide) ?_
            refine lv_icmp_ne (tgt := 105) hx hb dX9_isEdge_71 (by decide) (fun c_7 => ?_) (fun c_7 => ?_)
            · have hg := hg.2 c_7
              refine lv_iconst (v := 0) hx hb dX9_isEdge_105 (by decide) ?_
              exact hret _ _ _ () _ _ hg rfl hP hD hS dX9_isEdge_106
            · have hg := hg.1 c_7
              refine lv_aload_n hx hb dX9_isEdge_74 rfl (lv_at hl 1 rfl) ?_
              refine va_get (D := G.1) (ci := 7) (v := .ref (d0 41)) (C := RX9) (T := TX9) (N := 49) hx hb hT iX9 hown hK hP 0 rfl rfl 41 (by decide) (hT _ q_713) (fun _ h9 => h9) rfl dX9_isEdge_75 ?_
              refine lv_iload hx hb dX9_isEdge_78 (lv_at hl 0 rfl) ?_
              refine va_iald hx hb hK hP 32 0 rfl rfl hg.1 dX9_isEdge_80 ?_
              have hg := hg.2
              refine lv_if_eq (tgt := 88) hx hb dX9_isEdge_81 (by decide) (fun c_8 => ?_) (fun c_8 => ?_)
              · have hg := hg.1 c_8
                refine lv_iconst (v := 0) hx hb dX9_isEdge_88 (by decide) ?_
                exact J89 _ _ _ _ hg hP hD hS (lv_sub hl [3] rfl)
              · have hg := hg.2 c_8
                refine lv_iconst (v := 1) hx hb dX9_isEdge_84 (by decide) ?_
                refine lv_goto (tgt := 89) hx hb dX9_isEdge_85 (by decide) ?_
                exact J89 _ _ _ _ hg hP hD hS (lv_sub hl [3] rfl)
        · have hg := hg.2 c_4
          refine lv_iconst (v := 1) hx hb dX9_isEdge_42 (by decide) ?_
          exact hret _ _ _ () _ _ hg rfl hP hD hS dX9_isEdge_43
    · have hg := hg.1 c_2
      refine lv_iconst (v := 0) hx hb dX9_isEdge_27 (by decide) ?_
      exact hret _ _ _ () _ _ hg rfl hP hD hS dX9_isEdge_28
theorem zv_X9_isWay : zV yX9_isWay RX9 cX9_isWay 4 (some .boolean) 3 := ⟨q_939, qp_23, q_8, q_940, by decide +kernel⟩
set_option maxHeartbeats 4000000 in
set_option maxRecDepth 100000 in
theorem c_X9_isWay (l : Launch) (G : ZG) (o0 : Nat) (d0 : Nat → Nat) (x1 : Int32) (x2 : Int32) (x3 : Int32) (S0 : ZS) (Q : Int32 → Prop) (hg : g_X9_isWay x1 x2 x3 S0 Q) : Ki l G yX9_isWay cX9_isWay 4 .boolean rm_X9_isWay [.ref o0, .int x1, .int x2, .int x3] (wX9 G o0 d0 S0) (fun _ : Unit => wX9 G o0 d0 S0) (fun r _ => Q r ) := by
  refine Ki.of (by decide) (Nat.le_of_ble_eq_true rfl) ?_
  intro p e s m args below meth c A QQ ls Cx hret hl hP hD hS
  obtain ⟨hx, hb, hml, hown, hT, hK, hA⟩ := id Cx
  have hl : lv_has ls 4 [(0, .ref o0), (1, .int x1), (2, .int x2), (3, .int x3)] := hl
  have J25 : ∀ (H : Heap) (locs : List Loc) (ls : Array Slot), G_X9_isWay_25 x1 x2 x3 S0 Q  → va_P G.1 classes (wX9 G o0 d0 S0) H → va_D A (wX9 G o0 d0 S0) → va_S A s.heap H locs → lv_has ls 4 [(0, .ref o0), (1, .int x1), (2, .int x2), (3, .int x3)] → W p l e rm_X9_isWay s m args below meth c H locs 0 0 QQ (F0 m 25 ls []) := by
    intro  H locs ls hg hP hD hS hl
    refine lv_aload_n hx hb dX9_isWay_25 rfl (lv_at hl 0 rfl) ?_
    refine va_get (D := G.1) (ci := 7) (v := .ref (d0 16)) (C := RX9) (T := TX9) (N := 49) hx hb hT iX9 hown hK hP 0 rfl rfl 16 (by decide) (hT _ q_688) (fun _ h9 => h9) rfl dX9_isWay_26 ?_
    refine lv_bipush (v := 96) hx hb dX9_isWay_29 (by decide) ?_
    refine lv_iconst (v := 2) hx hb dX9_isWay_31 (by decide) ?_
    refine lv_iload_n hx hb dX9_isWay_32 rfl (lv_at hl 1 rfl) ?_
    refine lv_imul hx hb dX9_isWay_33 ?_
    refine lv_iadd hx hb dX9_isWay_34 ?_
    refine lv_iconst (v := 1) hx hb dX9_isWay_35 (by decide) ?_
    refine lv_iadd hx hb dX9_isWay_36 ?_
    refine va_iald hx hb hK hP 14 0 rfl rfl hg.1 dX9_isWay_37 ?_
    have hg := hg.2
    refine lv_iload_n hx hb dX9_isWay_38 rfl (lv_at hl 2 rfl) ?_
    refine lv_icmp_ne (tgt := 56) hx hb dX9_isWay_39 (by decide) (fun c_1 => ?_) (fun c_1 => ?_)
    · have hg := hg.2 c_1
      refine lv_iconst (v := 0) hx hb dX9_isWay_56 (by decide) ?_
      exact hret _ _ _ () _ _ hg rfl hP hD hS dX9_isWay_57
    · have hg := hg.1 c_1
      refine lv_aload_n hx hb dX9_isWay_42 rfl (lv_at hl 0 rfl) ?_
      refine lv_iload_n hx hb dX9_isWay_43 rfl (lv_at hl 1 rfl) ?_
      refine lv_iconst (v := 1) hx hb dX9_isWay_44 (by decide) ?_
      refine lv_iload_n hx hb dX9_isWay_45 rfl (lv_at hl 3 rfl) ?_
      refine zcVi (As := [.int x1, .int 1, .int x3]) (rest := []) (C := RX9) Cx (c_X9_isEdge l G o0 d0 x1 1 x3 S0 _ hg) zv_X9_isEdge q_941 ⟨⟨rfl, rfl⟩, Nat.le_of_ble_eq_true rfl, Nat.le_of_ble_eq_true rfl⟩ (zJ.all hP hD hS hA) hS 7 rfl rfl rfl rfl hl.1 rfl (Nat.le_of_ble_eq_true rfl) dX9_isWay_46 (fun r_2 _u H locs hg hP hD hS => ?_)
      refine lv_if_eq (tgt := 56) hx hb dX9_isWay_49 (by decide) (fun c_3 => ?_) (fun c_3 => ?_)
      · have hg := hg.1 c_3
        refine lv_iconst (v := 0) hx hb dX9_isWay_56 (by decide) ?_
        exact hret _ _ _ () _ _ hg rfl hP hD hS dX9_isWay_57
      · have hg := hg.2 c_3
        refine lv_iconst (v := 1) hx hb dX9_isWay_52 (by decide) ?_
        refine lv_goto (tgt := 57) hx hb dX9_isWay_53 (by decide) ?_
        exact hret _ _ _ () _ _ hg rfl hP hD hS dX9_isWay_57
  refine lv_aload_n hx hb dX9_isWay_0 rfl (lv_at hl 0 rfl) ?_
  refine va_get (D := G.1) (ci := 7) (v := .ref (d0 16)) (C := RX9) (T := TX9) (N := 49) hx hb hT iX9 hown hK hP 0 rfl rfl 16 (by decide) (hT _ q_688) (fun _ h9 => h9) rfl dX9_isWay_1 ?_
  refine lv_bipush (v := 96) hx hb dX9_isWay_4 (by decide) ?_
  refine lv_iconst (v := 2) hx hb dX9_isWay_6 (by decide) ?_
  refine lv_iload_n hx hb dX9_isWay_7 rfl (lv_at hl 1 rfl) ?_
  refine lv_imul hx hb dX9_isWay_8 ?_
  refine lv_iadd hx hb dX9_isWay_9 ?_
  refine va_iald hx hb hK hP 14 0 rfl rfl hg.1 dX9_isWay_10 ?_
  have hg := hg.2
  refine lv_iload_n hx hb dX9_isWay_11 rfl (lv_at hl 2 rfl) ?_
  refine lv_icmp_ne (tgt := 25) hx hb dX9_isWay_12 (by decide) (fun c_1 => ?_) (fun c_1 => ?_)
  · have hg := hg.2 c_1
    exact J25  _ _ _ hg hP hD hS (lv_sub hl [0, 1, 2, 3] rfl)
  · have hg := hg.1 c_1
    refine lv_aload_n hx hb dX9_isWay_15 rfl (lv_at hl 0 rfl) ?_
    refine lv_iload_n hx hb dX9_isWay_16 rfl (lv_at hl 1 rfl) ?_
    refine lv_iconst (v := 0) hx hb dX9_isWay_17 (by decide) ?_
    refine lv_iload_n hx hb dX9_isWay_18 rfl (lv_at hl 3 rfl) ?_
    refine zcVi (As := [.int x1, .int 0, .int x3]) (rest := []) (C := RX9) Cx (c_X9_isEdge l G o0 d0 x1 0 x3 S0 _ hg) zv_X9_isEdge q_941 ⟨⟨rfl, rfl⟩, Nat.le_of_ble_eq_true rfl, Nat.le_of_ble_eq_true rfl⟩ (zJ.all hP hD hS hA) hS 7 rfl rfl rfl rfl hl.1 rfl (Nat.le_of_ble_eq_true rfl) dX9_isWay_19 (fun r_2 _u H locs hg hP hD hS => ?_)
    refine lv_if_ne (tgt := 52) hx hb dX9_isWay_22 (by decide) (fun c_3 => ?_) (fun c_3 => ?_)
    · have hg := hg.2 c_3
      refine lv_iconst (v := 1) hx hb dX9_isWay_52 (by decide) ?_
      refine lv_goto (tgt := 57) hx hb dX9_isWay_53 (by decide) ?_
      exact hret _ _ _ () _ _ hg rfl hP hD hS dX9_isWay_57
    · have hg := hg.1 c_3
      exact J25  _ _ _ hg hP hD hS (lv_sub hl [0, 1, 2, 3] rfl)
theorem zv_X9_climbsOperation : zV yX9_climbsOperation RX9 cX9_climbsOperation 4 none 1 := ⟨q_927, qp_20, q_8, q_928, by decide +kernel⟩
set_option maxHeartbeats 4000000 in
set_option maxRecDepth 100000 in
theorem c_X9_climbsOperation (l : Launch) (G : ZG) (o0 : Nat) (d0 : Nat → Nat) (x1 : Int32) (S0 : ZS) (Q : ZS → Prop) (hg : g_X9_climbsOperation x1 S0 Q) : Kv l G yX9_climbsOperation cX9_climbsOperation 4 rm_X9_climbsOperation [.ref o0, .int x1] (wX9 G o0 d0 S0) (fun u : ZS => wX9 G o0 d0 u) (fun u => Q u) := by
  refine Kv.of (by decide) (Nat.le_of_ble_eq_true rfl) ?_
  intro p e s m args below meth c A QQ ls Cx hret hl hP hD hS
  obtain ⟨hx, hb, hml, hown, hT, hK, hA⟩ := id Cx
  have hl : lv_has ls 4 [(0, .ref o0), (1, .int x1)] := hl
  refine lv_aload_n hx hb dX9_climbsOperation_0 rfl (lv_at hl 0 rfl) ?_
  refine va_get (D := G.1) (ci := 7) (v := .ref (d0 7)) (C := RX9) (T := TX9) (N := 49) hx hb hT iX9 hown hK hP 0 rfl rfl 7 (by decide) (hT _ q_679) (fun _ h9 => h9) rfl dX9_climbsOperation_1 ?_
  refine lv_iload_n hx hb dX9_climbsOperation_4 rfl (lv_at hl 1 rfl) ?_
  refine va_iald hx hb hK hP 5 0 rfl rfl hg.1 dX9_climbsOperation_5 ?_
  have hg := hg.2
  refine lv_topi (fun x2_1 ex2_1 => ?_)
  have hg := hg x2_1 ex2_1
  refine lv_istore_n (lv' := [(2, .int x2_1), (0, .ref o0), (1, .int x1)]) hx hb dX9_climbsOperation_6 rfl hl (by decide) rfl (fun ls hl => ?_)
  refine lv_aload_n hx hb dX9_climbsOperation_7 rfl (lv_at hl 1 rfl) ?_
  refine va_get (D := G.1) (ci := 7) (v := .ref (d0 8)) (C := RX9) (T := TX9) (N := 49) hx hb hT iX9 hown hK hP 0 rfl rfl 8 (by decide) (hT _ q_680) (fun _ h9 => h9) rfl dX9_climbsOperation_8 ?_
  refine lv_iload_n hx hb dX9_climbsOperation_11 rfl (lv_at hl 2 rfl) ?_
  refine va_iald hx hb hK hP 6 0 rfl rfl hg.1 dX9_climbsOperation_12 ?_
  have hg := hg.2
  refine lv_topi (fun x3_2 ex3_2 => ?_)
  have hg := hg x3_2 ex3_2
  refine lv_istore_n (lv' := [(3, .int x3_2), (2, .int x2_1), (0, .ref o0), (1, .int x1)]) hx hb dX9_climbsOperation_13 rfl hl (by decide) rfl (fun ls hl => ?_)
  refine lv_aload_n hx hb dX9_climbsOperation_14 rfl (lv_at hl 2 rfl) ?_
  refine va_get (D := G.1) (ci := 7) (v := .ref (d0 40)) (C := RX9) (T := TX9) (N := 49) hx hb hT iX9 hown hK hP 0 rfl rfl 40 (by decide) (hT _ q_712) (fun _ h9 => h9) rfl dX9_climbsOperation_15 ?_
  refine lv_iload_n hx hb dX9_climbsOperation_18 rfl (lv_at hl 1 rfl) ?_
  refine va_iald hx hb hK hP 31 0 rfl rfl hg.1 dX9_climbsOperation_19 ?_
  have hg := hg.2
  refine lv_if_eq (tgt := 32) hx hb dX9_climbsOperation_20 (by decide) (fun c_3 => ?_) (fun c_3 => ?_)
  · have hg := hg.1 c_3
    exact hret _ _ (S0) _ _ hg hP hD hS dX9_climbsOperation_32
  · have hg := hg.2 c_3
    refine lv_aload_n hx hb dX9_climbsOperation_23 rfl (lv_at hl 2 rfl) ?_
    refine va_get (D := G.1) (ci := 7) (v := .ref (d0 40)) (C := RX9) (T := TX9) (N := 49) hx hb hT iX9 hown hK hP 0 rfl rfl 40 (by decide) (hT _ q_712) (fun _ h9 => h9) rfl dX9_climbsOperation_24 ?_
    refine lv_iload_n hx hb dX9_climbsOperation_27 rfl (lv_at hl 0 rfl) ?_
    refine va_iald hx hb hK hP 31 0 rfl rfl hg.1 dX9_climbsOperation_28 ?_
    have hg := hg.2
    refine lv_if_ne (tgt := 33) hx hb dX9_climbsOperation_29 (by decide) (fun c_4 => ?_) (fun c_4 => ?_)
    · have hg := hg.2 c_4
      refine lv_aload_n hx hb dX9_climbsOperation_33 rfl (lv_at hl 2 rfl) ?_
      refine va_get (D := G.1) (ci := 7) (v := .ref (d0 40)) (C := RX9) (T := TX9) (N := 49) hx hb hT iX9 hown hK hP 0 rfl rfl 40 (by decide) (hT _ q_712) (fun _ h9 => h9) rfl dX9_climbsOperation_34 ?_
      refine lv_iload_n hx hb dX9_climbsOperation_37 rfl (lv_at hl 3 rfl) ?_
      refine lv_iconst (v := 2) hx hb dX9_climbsOperation_38 (by decide) ?_
      refine z_iast hx hb hK hP hD hS 31 0 rfl rfl hg.1 dX9_climbsOperation_39 (zst S0 40 x1.toNatClampNeg 2) (fun S : ZS => wX9 G o0 d0 S) rfl (fun S0_5 H locs eS0_5 hP hD hS => ?_)
      have hg := hg.2 S0_5 eS0_5
      refine lv_aload_n hx hb dX9_climbsOperation_40 rfl (lv_at hl 2 rfl) ?_
      refine va_get (D := G.1) (ci := 7) (v := .ref (d0 40)) (C := RX9) (T := TX9) (N := 49) hx hb hT iX9 hown hK hP 0 rfl rfl 40 (by decide) (hT _ q_712) (fun _ h9 => h9) rfl dX9_climbsOperation_41 ?_
      refine lv_iload_n hx hb dX9_climbsOperation_44 rfl (lv_at hl 1 rfl) ?_
      refine va_iald hx hb hK hP 31 0 rfl rfl hg.1 dX9_climbsOperation_45 ?_
      have hg := hg.2
      refine lv_iconst (v := 1) hx hb dX9_climbsOperation_46 (by decide) ?_
      refine lv_icmp_ne (tgt := 106) hx hb dX9_climbsOperation_47 (by decide) (fun c_6 => ?_) (fun c_6 => ?_)
      · have hg := hg.2 c_6
        exact hret _ _ (S0_5) _ _ hg hP hD hS dX9_climbsOperation_106
      · have hg := hg.1 c_6
        refine lv_aload_n hx hb dX9_climbsOperation_50 rfl (lv_at hl 2 rfl) ?_
        refine va_get (D := G.1) (ci := 7) (v := .ref (d0 40)) (C := RX9) (T := TX9) (N := 49) hx hb hT iX9 hown hK hP 0 rfl rfl 40 (by decide) (hT _ q_712) (fun _ h9 => h9) rfl dX9_climbsOperation_51 ?_
        refine lv_iload_n hx hb dX9_climbsOperation_54 rfl (lv_at hl 0 rfl) ?_
        refine va_iald hx hb hK hP 31 0 rfl rfl hg.1 dX9_climbsOperation_55 ?_
        have hg := hg.2
        refine lv_iconst (v := 1) hx hb dX9_climbsOperation_56 (by decide) ?_
        refine lv_icmp_ne (tgt := 106) hx hb dX9_climbsOperation_57 (by decide) (fun c_7 => ?_) (fun c_7 => ?_)
        · have hg := hg.2 c_7
          exact hret _ _ (S0_5) _ _ hg hP hD hS dX9_climbsOperation_106
        · have hg := hg.1 c_7
          refine lv_aload_n hx hb dX9_climbsOperation_60 rfl (lv_at hl 2 rfl) ?_
          refine va_get (D := G.1) (ci := 7) (v := .ref (d0 41)) (C := RX9) (T := TX9) (N := 49) hx hb hT iX9 hown hK hP 0 rfl rfl 41 (by decide) (hT _ q_713) (fun _ h9 => h9) rfl dX9_climbsOperation_61 ?_
          refine lv_iload_n hx hb dX9_climbsOperation_64 rfl (lv_at hl 3 rfl) ?_
          refine lv_aload_n hx hb dX9_climbsOperation_65 rfl (lv_at hl 2 rfl) ?_
          refine lv_aload_n hx hb dX9_climbsOperation_66 rfl (lv_at hl 2 rfl) ?_
          refine va_get (D := G.1) (ci := 7) (v := .ref (d0 6)) (C := RX9) (T := TX9) (N := 49) hx hb hT iX9 hown hK hP 0 rfl rfl 6 (by decide) (hT _ q_678) (fun _ h9 => h9) rfl dX9_climbsOperation_67 ?_
          refine lv_iload_n hx hb dX9_climbsOperation_70 rfl (lv_at hl 3 rfl) ?_
          refine va_iald hx hb hK hP 4 0 rfl rfl hg.1 dX9_climbsOperation_71 ?_
          have hg := hg.2
          refine lv_aload_n hx hb dX9_climbsOperation_72 rfl (lv_at hl 2 rfl) ?_
          refine va_get (D := G.1) (ci := 7) (v := .ref (d0 41)) (C := RX9) (T := TX9) (N := 49) hx hb hT iX9 hown hK hP 0 rfl rfl 41 (by decide) (hT _ q_713) (fun _ h9 => h9) rfl dX9_climbsOperation_73 ?_
          refine lv_iload_n hx hb dX9_climbsOperation_76 rfl (lv_at hl 1 rfl) ?_
          refine va_iald hx hb hK hP 32 0 rfl rfl hg.1 dX9_climbsOperation_77 ?_
          have hg := hg.2
          refine lv_aload_n hx hb dX9_climbsOperation_78 rfl (lv_at hl 2 rfl) ?_
          refine va_get (D := G.1) (ci := 7) (v := .ref (d0 41)) (C := RX9) (T := TX9) (N := 49) hx hb hT iX9 hown hK hP 0 rfl rfl 41 (by decide) (hT _ q_713) (fun _ h9 => h9) rfl dX9_climbsOperation_79 ?_
          refine lv_iload_n hx hb dX9_climbsOperation_82 rfl (lv_at hl 0 rfl) ?_
          refine va_iald hx hb hK hP 32 0 rfl rfl hg.1 dX9_climbsOperation_83 ?_
          have hg := hg.2
          refine zcVi (As := [.int (S0_5 6 x1.toNatClampNeg), .int (S0_5 41 x2_1.toNatClampNeg), .int (S0_5 41 x3_2.toNatClampNeg)]) (rest := [.int x1, .ref (d0 41)]) (C := RX9) Cx (c_X9_doneBy l G o0 d0 (S0_5 6 x1.toNatClampNeg) (S0_5 41 x2_1.toNatClampNeg) (S0_5 41 x3_2.toNatClampNeg) S0_5 _ hg) zv_X9_doneBy q_929 ⟨⟨rfl, rfl⟩, Nat.le_of_ble_eq_true rfl, Nat.le_of_ble_eq_true rfl⟩ (zJ.all hP hD hS hA) hS 7 rfl rfl rfl rfl hl.1 rfl (Nat.le_of_ble_eq_true rfl) dX9_climbsOperation_84 (fun r_9 S0_8 H locs hg hP hD hS => ?_)
          have hP : va_P G.1 classes (wX9 G o0 d0 S0_8) H := hP
          have hD : va_D A (wX9 G o0 d0 S0_8) := hD
          refine z_iast hx hb hK hP hD hS 32 0 rfl rfl hg.1 dX9_climbsOperation_87 (zst S0_8 41 x1.toNatClampNeg r_9) (fun S : ZS => wX9 G o0 d0 S) rfl (fun S0_10 H locs eS0_10 hP hD hS => ?_)
          have hg := hg.2 S0_10 eS0_10
          refine lv_aload_n hx hb dX9_climbsOperation_88 rfl (lv_at hl 2 rfl) ?_
          refine va_get (D := G.1) (ci := 7) (v := .ref (d0 40)) (C := RX9) (T := TX9) (N := 49) hx hb hT iX9 hown hK hP 0 rfl rfl 40 (by decide) (hT _ q_712) (fun _ h9 => h9) rfl dX9_climbsOperation_89 ?_
          refine lv_iload_n hx hb dX9_climbsOperation_92 rfl (lv_at hl 3 rfl) ?_
          refine lv_aload_n hx hb dX9_climbsOperation_93 rfl (lv_at hl 2 rfl) ?_
          refine va_get (D := G.1) (ci := 7) (v := .int (S0_10 44 0)) (C := RX9) (T := TX9) (N := 49) hx hb hT iX9 hown hK hP 0 rfl rfl 44 (by decide) (hT _ q_716) (fun _ h9 => h9) rfl dX9_climbsOperation_94 ?_
          refine lv_if_eq (tgt := 104) hx hb dX9_climbsOperation_97 (by decide) (fun c_11 => ?_) (fun c_11 => ?_)
          · have hg := hg.1 c_11
            refine lv_iconst (v := 1) hx hb dX9_climbsOperation_104 (by decide) ?_
            refine z_iast hx hb hK hP hD hS 31 0 rfl rfl hg.1 dX9_climbsOperation_105 (zst S0_10 40 x1.toNatClampNeg 1) (fun S : ZS => wX9 G o0 d0 S) rfl (fun S0_12 H locs eS0_12 hP hD hS => ?_)
            have hg := hg.2 S0_12 eS0_12
            exact hret _ _ (S0_12) _ _ hg hP hD hS dX9_climbsOperation_106
          · have hg := hg.2 c_11
            refine lv_iconst (v := 2) hx hb dX9_climbsOperation_100 (by decide) ?_
            refine lv_goto (tgt := 105) hx hb dX9_climbsOperation_101 (by decide) ?_
            refine z_iast hx hb hK hP hD hS 31 0 rfl rfl hg.1 dX9_climbsOperation_105 (zst S0_10 40 x1.toNatClampNeg 2) (fun S : ZS => wX9 G o0 d0 S) rfl (fun S0_13 H locs eS0_13 hP hD hS => ?_)
            have hg := hg.2 S0_13 eS0_13
            exact hret _ _ (S0_13) _ _ hg hP hD hS dX9_climbsOperation_106
    · have hg := hg.1 c_4
      exact hret _ _ (S0) _ _ hg hP hD hS dX9_climbsOperation_32
theorem zv_X9_climbsJoin : zV yX9_climbsJoin RX9 cX9_climbsJoin 6 none 2 := ⟨q_935, qp_22, q_8, q_936, by decide +kernel⟩
set_option maxHeartbeats 4000000 in
set_option maxRecDepth 100000 in
theorem c_X9_climbsJoin (l : Launch) (G : ZG) (o0 : Nat) (d0 : Nat → Nat) (x1 : Int32) (x2 : Int32) (S0 : ZS) (Q : ZS → Prop) (hg : g_X9_climbsJoin x1 x2 S0 Q) : Kv l G yX9_climbsJoin cX9_climbsJoin 6 rm_X9_climbsJoin [.ref o0, .int x1, .int x2] (wX9 G o0 d0 S0) (fun u : ZS => wX9 G o0 d0 u) (fun u => Q u) := by
  refine Kv.of (by decide) (Nat.le_of_ble_eq_true rfl) ?_
  intro p e s m args below meth c A QQ ls Cx hret hl hP hD hS
  obtain ⟨hx, hb, hml, hown, hT, hK, hA⟩ := id Cx
  have hl : lv_has ls 6 [(0, .ref o0), (1, .int x1), (2, .int x2)] := hl
  have J126 : ∀ (X2 : Int32 × ZS → Prop) (hX2 : ∀ (x3 : Int32) (S0 : ZS) (H : Heap) (locs : List Loc) (ls : Array Slot), X2 (x3, S0) → va_P G.1 classes (wX9 G o0 d0 S0) H → va_D A (wX9 G o0 d0 S0) → va_S A s.heap H locs → lv_has ls 6 [(0, .ref o0), (1, .int x1), (2, .int x2), (3, .int x3)] → W p l e rm_X9_climbsJoin s m args below meth c H locs 0 0 QQ (F0 m 2 ls [])) (x3 : Int32) (x4 : Int32) (t1 : Int32) (t2 : Int32) (S0 : ZS) (H : Heap) (locs : List Loc) (ls : Array Slot), G_X9_climbsJoin_126 x1 x2 Q X2 x3 x4 t1 t2 S0 → va_P G.1 classes (wX9 G o0 d0 S0) H → va_D A (wX9 G o0 d0 S0) → va_S A s.heap H locs → lv_has ls 6 [(0, .ref o0), (1, .int x1), (2, .int x2), (3, .int x3), (4, .int x4)] → W p l e rm_X9_climbsJoin s m args below meth c H locs 0 0 QQ (F0 m 126 ls [.int t2, .int t1, .ref (d0 40)]) := by
    intro X2 hX2 x3 x4 t1 t2 S0 H locs ls hg hP hD hS hl
    refine z_iast hx hb hK hP hD hS 31 0 rfl rfl hg.1 dX9_climbsJoin_126 (zst S0 40 t1.toNatClampNeg t2) (fun S : ZS => wX9 G o0 d0 S) rfl (fun S0_1 H locs eS0_1 hP hD hS => ?_)
    have hg := hg.2 S0_1 eS0_1
    refine lv_aload_n hx hb dX9_climbsJoin_127 rfl (lv_at hl 0 rfl) ?_
    refine va_get (D := G.1) (ci := 7) (v := .ref (d0 41)) (C := RX9) (T := TX9) (N := 49) hx hb hT iX9 hown hK hP 0 rfl rfl 41 (by decide) (hT _ q_713) (fun _ h9 => h9) rfl dX9_climbsJoin_128 ?_
    refine lv_iload_n hx hb dX9_climbsJoin_131 rfl (lv_at hl 1 rfl) ?_
    refine lv_aload_n hx hb dX9_climbsJoin_132 rfl (lv_at hl 0 rfl) ?_
    refine va_get (D := G.1) (ci := 7) (v := .ref (d0 41)) (C := RX9) (T := TX9) (N := 49) hx hb hT iX9 hown hK hP 0 rfl rfl 41 (by decide) (hT _ q_713) (fun _ h9 => h9) rfl dX9_climbsJoin_133 ?_
    refine lv_iload hx hb dX9_climbsJoin_136 (lv_at hl 4 rfl) ?_
    refine va_iald hx hb hK hP 32 0 rfl rfl hg.1 dX9_climbsJoin_138 ?_
    have hg := hg.2
    refine z_iast hx hb hK hP hD hS 32 0 rfl rfl hg.1 dX9_climbsJoin_139 (zst S0_1 41 x1.toNatClampNeg (S0_1 41 x4.toNatClampNeg)) (fun S : ZS => wX9 G o0 d0 S) rfl (fun S0_2 H locs eS0_2 hP hD hS => ?_)
    have hg := hg.2 S0_2 eS0_2
    obtain ⟨x3_3, ex3_3⟩ : ∃ y : Int32, y = x3 + 1 := ⟨_, rfl⟩
    have hg := hg x3_3 ex3_3
    refine lv_iinc (v := x3_3) (lv' := [(3, .int x3_3), (0, .ref o0), (1, .int x1), (2, .int x2), (4, .int x4)]) hx hb dX9_climbsJoin_140 hl (k := 3) rfl (by rw [ex3_3]; rfl) (by decide) rfl (fun ls hl => ?_)
    refine lv_goto (tgt := 2) hx hb dX9_climbsJoin_143 (by decide) ?_
    exact hX2 _ _ _ _ _ hg hP hD hS (lv_sub hl [1, 2, 3, 0] rfl)
  have J109 : ∀ (X2 : Int32 × ZS → Prop) (hX2 : ∀ (x3 : Int32) (S0 : ZS) (H : Heap) (locs : List Loc) (ls : Array Slot), X2 (x3, S0) → va_P G.1 classes (wX9 G o0 d0 S0) H → va_D A (wX9 G o0 d0 S0) → va_S A s.heap H locs → lv_has ls 6 [(0, .ref o0), (1, .int x1), (2, .int x2), (3, .int x3)] → W p l e rm_X9_climbsJoin s m args below meth c H locs 0 0 QQ (F0 m 2 ls [])) (x3 : Int32) (x4 : Int32) (t0 : Int32) (S0 : ZS) (H : Heap) (locs : List Loc) (ls : Array Slot), G_X9_climbsJoin_109 x1 x2 Q X2 x3 x4 t0 S0 → va_P G.1 classes (wX9 G o0 d0 S0) H → va_D A (wX9 G o0 d0 S0) → va_S A s.heap H locs → lv_has ls 6 [(0, .ref o0), (1, .int x1), (2, .int x2), (3, .int x3), (4, .int x4)] → W p l e rm_X9_climbsJoin s m args below meth c H locs 0 0 QQ (F0 m 109 ls [.int t0]) := by
    intro X2 hX2 x3 x4 t0 S0 H locs ls hg hP hD hS hl
    refine lv_istore (lv' := [(5, .int t0), (0, .ref o0), (1, .int x1), (2, .int x2), (3, .int x3), (4, .int x4)]) hx hb dX9_climbsJoin_109 hl (by decide) rfl (fun ls hl => ?_)
    refine lv_aload_n hx hb dX9_climbsJoin_111 rfl (lv_at hl 1 rfl) ?_
    refine va_get (D := G.1) (ci := 7) (v := .ref (d0 40)) (C := RX9) (T := TX9) (N := 49) hx hb hT iX9 hown hK hP 0 rfl rfl 40 (by decide) (hT _ q_712) (fun _ h9 => h9) rfl dX9_climbsJoin_112 ?_
    refine lv_iload_n hx hb dX9_climbsJoin_115 rfl (lv_at hl 2 rfl) ?_
    refine lv_iload hx hb dX9_climbsJoin_116 (lv_at hl 0 rfl) ?_
    refine lv_if_eq (tgt := 125) hx hb dX9_climbsJoin_118 (by decide) (fun c_1 => ?_) (fun c_1 => ?_)
    · have hg := hg.1 c_1
      refine lv_iconst (v := 2) hx hb dX9_climbsJoin_125 (by decide) ?_
      exact J126 _ hX2 _ _ _ _ _ _ _ _ hg hP hD hS (lv_sub hl [1, 2, 3, 4, 5] rfl)
    · have hg := hg.2 c_1
      refine lv_iconst (v := 1) hx hb dX9_climbsJoin_121 (by decide) ?_
      refine lv_goto (tgt := 126) hx hb dX9_climbsJoin_122 (by decide) ?_
      exact J126 _ hX2 _ _ _ _ _ _ _ _ hg hP hD hS (lv_sub hl [1, 2, 3, 4, 5] rfl)
  have J108 : ∀ (X2 : Int32 × ZS → Prop) (hX2 : ∀ (x3 : Int32) (S0 : ZS) (H : Heap) (locs : List Loc) (ls : Array Slot), X2 (x3, S0) → va_P G.1 classes (wX9 G o0 d0 S0) H → va_D A (wX9 G o0 d0 S0) → va_S A s.heap H locs → lv_has ls 6 [(0, .ref o0), (1, .int x1), (2, .int x2), (3, .int x3)] → W p l e rm_X9_climbsJoin s m args below meth c H locs 0 0 QQ (F0 m 2 ls [])) (x3 : Int32) (x4 : Int32) (S0 : ZS) (H : Heap) (locs : List Loc) (ls : Array Slot), G_X9_climbsJoin_108 x1 x2 Q X2 x3 x4 S0 → va_P G.1 classes (wX9 G o0 d0 S0) H → va_D A (wX9 G o0 d0 S0) → va_S A s.heap H locs → lv_has ls 6 [(0, .ref o0), (1, .int x1), (2, .int x2), (3, .int x3), (4, .int x4)] → W p l e rm_X9_climbsJoin s m args below meth c H locs 0 0 QQ (F0 m 108 ls []) := by
    intro X2 hX2 x3 x4 S0 H locs ls hg hP hD hS hl
    refine lv_iconst (v := 0) hx hb dX9_climbsJoin_108 (by decide) ?_
    exact J109 _ hX2 _ _ _ _ _ _ _ hg hP hD hS (lv_sub hl [0, 1, 2, 3, 4] rfl)
  have J104 : ∀ (X2 : Int32 × ZS → Prop) (hX2 : ∀ (x3 : Int32) (S0 : ZS) (H : Heap) (locs : List Loc) (ls : Array Slot), X2 (x3, S0) → va_P G.1 classes (wX9 G o0 d0 S0) H → va_D A (wX9 G o0 d0 S0) → va_S A s.heap H locs → lv_has ls 6 [(0, .ref o0), (1, .int x1), (2, .int x2), (3, .int x3)] → W p l e rm_X9_climbsJoin s m args below meth c H locs 0 0 QQ (F0 m 2 ls [])) (x3 : Int32) (x4 : Int32) (S0 : ZS) (H : Heap) (locs : List Loc) (ls : Array Slot), G_X9_climbsJoin_104 x1 x2 Q X2 x3 x4 S0 → va_P G.1 classes (wX9 G o0 d0 S0) H → va_D A (wX9 G o0 d0 S0) → va_S A s.heap H locs → lv_has ls 6 [(0, .ref o0), (1, .int x1), (2, .int x2), (3, .int x3), (4, .int x4)] → W p l e rm_X9_climbsJoin s m args below meth c H locs 0 0 QQ (F0 m 104 ls []) := by
    intro X2 hX2 x3 x4 S0 H locs ls hg hP hD hS hl
    refine lv_iconst (v := 1) hx hb dX9_climbsJoin_104 (by decide) ?_
    refine lv_goto (tgt := 109) hx hb dX9_climbsJoin_105 (by decide) ?_
    exact J109 _ hX2 _ _ _ _ _ _ _ hg hP hD hS (lv_sub hl [0, 1, 2, 3, 4] rfl)
  have L2 : ∀ (n : Nat) (x3 : Int32) (S0 : ZS) (H : Heap) (locs : List Loc) (ls : Array Slot), fx (F_X9_climbsJoin_2 x1 x2 Q) n (x3, S0) → va_P G.1 classes (wX9 G o0 d0 S0) H → va_D A (wX9 G o0 d0 S0) → va_S A s.heap H locs → lv_has ls 6 [(0, .ref o0), (1, .int x1), (2, .int x2), (3, .int x3)] → W p l e rm_X9_climbsJoin s m args below meth c H locs 0 0 QQ (F0 m 2 ls []) := by
    intro n
    induction n with
    | zero => intro x3 S0 H locs ls hg; exact hg.elim
    | succ n ih =>
      have hX2 := ih
      intro x3 S0 H locs ls hg hP hD hS hl
      refine lv_iload_n hx hb dX9_climbsJoin_2 rfl (lv_at hl 3 rfl) ?_
      refine lv_aload_n hx hb dX9_climbsJoin_3 rfl (lv_at hl 0 rfl) ?_
      refine va_get (D := G.1) (ci := 7) (v := .ref (d0 9)) (C := RX9) (T := TX9) (N := 49) hx hb hT iX9 hown hK hP 0 rfl rfl 9 (by decide) (hT _ q_681) (fun _ h9 => h9) rfl dX9_climbsJoin_4 ?_
      refine lv_iload_n hx hb dX9_climbsJoin_7 rfl (lv_at hl 1 rfl) ?_
      refine va_iald hx hb hK hP 7 0 rfl rfl hg.1 dX9_climbsJoin_8 ?_
      have hg := hg.2
      refine lv_icmp_ge (tgt := 146) hx hb dX9_climbsJoin_9 (by decide) (fun c_1 => ?_) (fun c_1 => ?_)
      · have hg := hg.1 c_1
        exact hret _ _ (S0) _ _ hg hP hD hS dX9_climbsJoin_146
      · have hg := hg.2 c_1
        refine lv_aload_n hx hb dX9_climbsJoin_12 rfl (lv_at hl 0 rfl) ?_
        refine va_get (D := G.1) (ci := 7) (v := .ref (d0 11)) (C := RX9) (T := TX9) (N := 49) hx hb hT iX9 hown hK hP 0 rfl rfl 11 (by decide) (hT _ q_683) (fun _ h9 => h9) rfl dX9_climbsJoin_13 ?_
        refine lv_iconst (v := 3) hx hb dX9_climbsJoin_16 (by decide) ?_
        refine lv_iload_n hx hb dX9_climbsJoin_17 rfl (lv_at hl 1 rfl) ?_
        refine lv_imul hx hb dX9_climbsJoin_18 ?_
        refine lv_iload_n hx hb dX9_climbsJoin_19 rfl (lv_at hl 3 rfl) ?_
        refine lv_iadd hx hb dX9_climbsJoin_20 ?_
        refine va_iald hx hb hK hP 9 0 rfl rfl hg.1 dX9_climbsJoin_21 ?_
        have hg := hg.2
        refine lv_topi (fun x4_2 ex4_2 => ?_)
        have hg := hg x4_2 ex4_2
        refine lv_istore (lv' := [(4, .int x4_2), (0, .ref o0), (1, .int x1), (2, .int x2), (3, .int x3)]) hx hb dX9_climbsJoin_22 hl (by decide) rfl (fun ls hl => ?_)
        refine lv_aload_n hx hb dX9_climbsJoin_24 rfl (lv_at hl 1 rfl) ?_
        refine lv_aload_n hx hb dX9_climbsJoin_25 rfl (lv_at hl 1 rfl) ?_
        refine va_get (D := G.1) (ci := 7) (v := .ref (d0 10)) (C := RX9) (T := TX9) (N := 49) hx hb hT iX9 hown hK hP 0 rfl rfl 10 (by decide) (hT _ q_682) (fun _ h9 => h9) rfl dX9_climbsJoin_26 ?_
        refine lv_iconst (v := 3) hx hb dX9_climbsJoin_29 (by decide) ?_
        refine lv_iload_n hx hb dX9_climbsJoin_30 rfl (lv_at hl 2 rfl) ?_
        refine lv_imul hx hb dX9_climbsJoin_31 ?_
        refine lv_iload_n hx hb dX9_climbsJoin_32 rfl (lv_at hl 4 rfl) ?_
        refine lv_iadd hx hb dX9_climbsJoin_33 ?_
        refine va_iald hx hb hK hP 8 0 rfl rfl hg.1 dX9_climbsJoin_34 ?_
        have hg := hg.2
        refine lv_aload_n hx hb dX9_climbsJoin_35 rfl (lv_at hl 1 rfl) ?_
        refine va_get (D := G.1) (ci := 7) (v := .ref (d0 5)) (C := RX9) (T := TX9) (N := 49) hx hb hT iX9 hown hK hP 0 rfl rfl 5 (by decide) (hT _ q_677) (fun _ h9 => h9) rfl dX9_climbsJoin_36 ?_
        refine lv_iload_n hx hb dX9_climbsJoin_39 rfl (lv_at hl 2 rfl) ?_
        refine va_iald hx hb hK hP 3 0 rfl rfl hg.1 dX9_climbsJoin_40 ?_
        have hg := hg.2
        refine lv_iload_n hx hb dX9_climbsJoin_41 rfl (lv_at hl 3 rfl) ?_
        refine zcVi (As := [.int (S0 10 ((3 * x1) + x3).toNatClampNeg), .int (S0 5 x1.toNatClampNeg), .int x2]) (rest := []) (C := RX9) Cx (c_X9_isWay l G o0 d0 (S0 10 ((3 * x1) + x3).toNatClampNeg) (S0 5 x1.toNatClampNeg) x2 S0 _ hg) zv_X9_isWay q_937 ⟨⟨rfl, rfl⟩, Nat.le_of_ble_eq_true rfl, Nat.le_of_ble_eq_true rfl⟩ (zJ.all hP hD hS hA) hS 7 rfl rfl rfl rfl hl.1 rfl (Nat.le_of_ble_eq_true rfl) dX9_climbsJoin_42 (fun r_3 _u H locs hg hP hD hS => ?_)
        refine lv_if_eq (tgt := 140) hx hb dX9_climbsJoin_45 (by decide) (fun c_4 => ?_) (fun c_4 => ?_)
        · have hg := hg.1 c_4
          obtain ⟨x3_5, ex3_5⟩ : ∃ y : Int32, y = x3 + 1 := ⟨_, rfl⟩
          have hg := hg x3_5 ex3_5
          refine lv_iinc (v := x3_5) (lv' := [(3, .int x3_5), (4, .int x4_2), (0, .ref o0), (1, .int x1), (2, .int x2)]) hx hb dX9_climbsJoin_140 hl (k := 4) rfl (by rw [ex3_5]; rfl) (by decide) rfl (fun ls hl => ?_)
          refine lv_goto (tgt := 2) hx hb dX9_climbsJoin_143 (by decide) ?_
          exact hX2 _ _ _ _ _ hg hP hD hS (lv_sub hl [2, 3, 4, 0] rfl)
        · have hg := hg.2 c_4
          refine lv_aload_n hx hb dX9_climbsJoin_48 rfl (lv_at hl 1 rfl) ?_
          refine va_get (D := G.1) (ci := 7) (v := .ref (d0 40)) (C := RX9) (T := TX9) (N := 49) hx hb hT iX9 hown hK hP 0 rfl rfl 40 (by decide) (hT _ q_712) (fun _ h9 => h9) rfl dX9_climbsJoin_49 ?_
          refine lv_iload hx hb dX9_climbsJoin_52 (lv_at hl 0 rfl) ?_
          refine va_iald hx hb hK hP 31 0 rfl rfl hg.1 dX9_climbsJoin_54 ?_
          have hg := hg.2
          refine lv_if_eq (tgt := 140) hx hb dX9_climbsJoin_55 (by decide) (fun c_6 => ?_) (fun c_6 => ?_)
          · have hg := hg.1 c_6
            obtain ⟨x3_7, ex3_7⟩ : ∃ y : Int32, y = x3 + 1 := ⟨_, rfl⟩
            have hg := hg x3_7 ex3_7
            refine lv_iinc (v := x3_7) (lv' := [(3, .int x3_7), (4, .int x4_2), (0, .ref o0), (1, .int x1), (2, .int x2)]) hx hb dX9_climbsJoin_140 hl (k := 4) rfl (by rw [ex3_7]; rfl) (by decide) rfl (fun ls hl => ?_)
            refine lv_goto (tgt := 2) hx hb dX9_climbsJoin_143 (by decide) ?_
            exact hX2 _ _ _ _ _ hg hP hD hS (lv_sub hl [2, 3, 4, 0] rfl)
          · have hg := hg.2 c_6
            refine lv_aload_n hx hb dX9_climbsJoin_58 rfl (lv_at hl 1 rfl) ?_
            refine va_get (D := G.1) (ci := 7) (v := .ref (d0 40)) (C := RX9) (T := TX9) (N := 49) hx hb hT iX9 hown hK hP 0 rfl rfl 40 (by decide) (hT _ q_712) (fun _ h9 => h9) rfl dX9_climbsJoin_59 ?_
            refine lv_iload hx hb dX9_climbsJoin_62 (lv_at hl 0 rfl) ?_
            refine va_iald hx hb hK hP 31 0 rfl rfl hg.1 dX9_climbsJoin_64 ?_
            have hg := hg.2
            refine lv_iconst (v := 1) hx hb dX9_climbsJoin_65 (by decide) ?_
            refine lv_icmp_ne (tgt := 108) hx hb dX9_climbsJoin_66 (by decide) (fun c_8 => ?_) (fun c_8 => ?_)
            · have hg := hg.2 c_8
              exact J108 _ hX2 _ _ _ _ _ _ hg hP hD hS (lv_sub hl [1, 2, 3, 4, 0] rfl)
            · have hg := hg.1 c_8
              refine lv_aload_n hx hb dX9_climbsJoin_69 rfl (lv_at hl 1 rfl) ?_
              refine va_get (D := G.1) (ci := 7) (v := .ref (d0 40)) (C := RX9) (T := TX9) (N := 49) hx hb hT iX9 hown hK hP 0 rfl rfl 40 (by decide) (hT _ q_712) (fun _ h9 => h9) rfl dX9_climbsJoin_70 ?_
              refine lv_iload_n hx hb dX9_climbsJoin_73 rfl (lv_at hl 2 rfl) ?_
              refine va_iald hx hb hK hP 31 0 rfl rfl hg.1 dX9_climbsJoin_74 ?_
              have hg := hg.2
              refine lv_if_eq (tgt := 104) hx hb dX9_climbsJoin_75 (by decide) (fun c_9 => ?_) (fun c_9 => ?_)
              · have hg := hg.1 c_9
                exact J104 _ hX2 _ _ _ _ _ _ hg hP hD hS (lv_sub hl [1, 2, 3, 4, 0] rfl)
              · have hg := hg.2 c_9
                refine lv_aload_n hx hb dX9_climbsJoin_78 rfl (lv_at hl 1 rfl) ?_
                refine va_get (D := G.1) (ci := 7) (v := .ref (d0 40)) (C := RX9) (T := TX9) (N := 49) hx hb hT iX9 hown hK hP 0 rfl rfl 40 (by decide) (hT _ q_712) (fun _ h9 => h9) rfl dX9_climbsJoin_79 ?_
                refine lv_iload_n hx hb dX9_climbsJoin_82 rfl (lv_at hl 2 rfl) ?_
                refine va_iald hx hb hK hP 31 0 rfl rfl hg.1 dX9_climbsJoin_83 ?_
                have hg := hg.2
                refine lv_iconst (v := 1) hx hb dX9_climbsJoin_84 (by decide) ?_
                refine lv_icmp_ne (tgt := 108) hx hb dX9_climbsJoin_85 (by decide) (fun c_10 => ?_) (fun c_10 => ?_)
                · have hg := hg.2 c_10
                  exact J108 _ hX2 _ _ _ _ _ _ hg hP hD hS (lv_sub hl [1, 2, 3, 4, 0] rfl)
                · have hg := hg.1 c_10
                  refine lv_aload_n hx hb dX9_climbsJoin_88 rfl (lv_at hl 1 rfl) ?_
                  refine va_get (D := G.1) (ci := 7) (v := .ref (d0 41)) (C := RX9) (T := TX9) (N := 49) hx hb hT iX9 hown hK hP 0 rfl rfl 41 (by decide) (hT _ q_713) (fun _ h9 => h9) rfl dX9_climbsJoin_89 ?_
                  refine lv_iload_n hx hb dX9_climbsJoin_92 rfl (lv_at hl 2 rfl) ?_
                  refine va_iald hx hb hK hP 32 0 rfl rfl hg.1 dX9_climbsJoin_93 ?_
                  have hg := hg.2
                  refine lv_aload_n hx hb dX9_climbsJoin_94 rfl (lv_at hl 1 rfl) ?_
                  refine va_get (D := G.1) (ci := 7) (v := .ref (d0 41)) (C := RX9) (T := TX9) (N := 49) hx hb hT iX9 hown hK hP 0 rfl rfl 41 (by decide) (hT _ q_713) (fun _ h9 => h9) rfl dX9_climbsJoin_95 ?_
                  refine lv_iload hx hb dX9_climbsJoin_98 (lv_at hl 0 rfl) ?_
                  refine va_iald hx hb hK hP 32 0 rfl rfl hg.1 dX9_climbsJoin_100 ?_
                  have hg := hg.2
                  refine lv_icmp_ne (tgt := 108) hx hb dX9_climbsJoin_101 (by decide) (fun c_11 => ?_) (fun c_11 => ?_)
                  · have hg := hg.2 c_11
                    exact J108 _ hX2 _ _ _ _ _ _ hg hP hD hS (lv_sub hl [1, 2, 3, 4, 0] rfl)
                  · have hg := hg.1 c_11
                    exact J104 _ hX2 _ _ _ _ _ _ hg hP hD hS (lv_sub hl [1, 2, 3, 4, 0] rfl)
  refine lv_iconst (v := 0) hx hb dX9_climbsJoin_0 (by decide) ?_
  refine lv_istore_n (lv' := [(3, .int 0), (0, .ref o0), (1, .int x1), (2, .int x2)]) hx hb dX9_climbsJoin_1 rfl hl (by decide) rfl (fun ls hl => ?_)
  obtain ⟨n, hg⟩ := hg
  exact L2 n _ _ _ _ _ hg hP hD hS (lv_sub hl [1, 2, 3, 0] rfl)
theorem zv_X9_climbs : zV yX9_climbs RX9 cX9_climbs 3 none 2 := ⟨q_923, qp_19, q_8, q_924, by decide +kernel⟩
set_option maxHeartbeats 4000000 in
set_option maxRecDepth 100000 in
theorem c_X9_climbs (l : Launch) (G : ZG) (o0 : Nat) (d0 : Nat → Nat) (x1 : Int32) (x2 : Int32) (S0 : ZS) (Q : ZS → Prop) (hg : g_X9_climbs x1 x2 S0 Q) : Kv l G yX9_climbs cX9_climbs 3 rm_X9_climbs [.ref o0, .int x1, .int x2] (wX9 G o0 d0 S0) (fun u : ZS => wX9 G o0 d0 u) (fun u => Q u) := by
  refine Kv.of (by decide) (Nat.le_of_ble_eq_true rfl) ?_
  intro p e s m args below meth c A QQ ls Cx hret hl hP hD hS
  obtain ⟨hx, hb, hml, hown, hT, hK, hA⟩ := id Cx
  have hl : lv_has ls 3 [(0, .ref o0), (1, .int x1), (2, .int x2)] := hl
  have J79 : ∀ (t1 : Int32) (t2 : Int32) (S0 : ZS) (H : Heap) (locs : List Loc) (ls : Array Slot), G_X9_climbs_79 x1 x2 Q t1 t2 S0 → va_P G.1 classes (wX9 G o0 d0 S0) H → va_D A (wX9 G o0 d0 S0) → va_S A s.heap H locs → lv_has ls 3 [(0, .ref o0), (1, .int x1)] → W p l e rm_X9_climbs s m args below meth c H locs 0 0 QQ (F0 m 79 ls [.int t2, .int t1, .ref (d0 40)]) := by
    intro t1 t2 S0 H locs ls hg hP hD hS hl
    refine z_iast hx hb hK hP hD hS 31 0 rfl rfl hg.1 dX9_climbs_79 (zst S0 40 t1.toNatClampNeg t2) (fun S : ZS => wX9 G o0 d0 S) rfl (fun S0_1 H locs eS0_1 hP hD hS => ?_)
    have hg := hg.2 S0_1 eS0_1
    refine lv_aload_n hx hb dX9_climbs_80 rfl (lv_at hl 0 rfl) ?_
    refine va_get (D := G.1) (ci := 7) (v := .ref (d0 41)) (C := RX9) (T := TX9) (N := 49) hx hb hT iX9 hown hK hP 0 rfl rfl 41 (by decide) (hT _ q_713) (fun _ h9 => h9) rfl dX9_climbs_81 ?_
    refine lv_iload_n hx hb dX9_climbs_84 rfl (lv_at hl 1 rfl) ?_
    refine lv_aload_n hx hb dX9_climbs_85 rfl (lv_at hl 0 rfl) ?_
    refine va_get (D := G.1) (ci := 7) (v := .ref (d0 16)) (C := RX9) (T := TX9) (N := 49) hx hb hT iX9 hown hK hP 0 rfl rfl 16 (by decide) (hT _ q_688) (fun _ h9 => h9) rfl dX9_climbs_86 ?_
    refine lv_bipush (v := 24) hx hb dX9_climbs_89 (by decide) ?_
    refine lv_iload_n hx hb dX9_climbs_91 rfl (lv_at hl 1 rfl) ?_
    refine lv_iadd hx hb dX9_climbs_92 ?_
    refine va_iald hx hb hK hP 14 0 rfl rfl hg.1 dX9_climbs_93 ?_
    have hg := hg.2
    refine z_iast hx hb hK hP hD hS 32 0 rfl rfl hg.1 dX9_climbs_94 (zst S0_1 41 x1.toNatClampNeg (S0_1 16 (24 + x1).toNatClampNeg)) (fun S : ZS => wX9 G o0 d0 S) rfl (fun S0_2 H locs eS0_2 hP hD hS => ?_)
    have hg := hg.2 S0_2 eS0_2
    refine lv_goto (tgt := 112) hx hb dX9_climbs_95 (by decide) ?_
    exact hret _ _ (S0_2) _ _ hg hP hD hS dX9_climbs_112
  refine lv_aload_n hx hb dX9_climbs_0 rfl (lv_at hl 0 rfl) ?_
  refine va_get (D := G.1) (ci := 7) (v := .ref (d0 4)) (C := RX9) (T := TX9) (N := 49) hx hb hT iX9 hown hK hP 0 rfl rfl 4 (by decide) (hT _ q_676) (fun _ h9 => h9) rfl dX9_climbs_1 ?_
  refine lv_iload_n hx hb dX9_climbs_4 rfl (lv_at hl 1 rfl) ?_
  refine va_iald hx hb hK hP 2 0 rfl rfl hg.1 dX9_climbs_5 ?_
  have hg := hg.2
  by_cases k0 : (S0 4 x1.toNatClampNeg) = 0
  · have hg := hg.1 k0
    refine lv_tableIn (tgt := 32) hx hb dX9_climbs_6 (by rw [k0]; decide) (by rw [k0]; decide) (by rw [k0]; rfl) (by decide) ?_
    refine lv_aload_n hx hb dX9_climbs_32 rfl (lv_at hl 0 rfl) ?_
    refine va_get (D := G.1) (ci := 7) (v := .ref (d0 40)) (C := RX9) (T := TX9) (N := 49) hx hb hT iX9 hown hK hP 0 rfl rfl 40 (by decide) (hT _ q_712) (fun _ h9 => h9) rfl dX9_climbs_33 ?_
    refine lv_iload_n hx hb dX9_climbs_36 rfl (lv_at hl 1 rfl) ?_
    refine lv_iconst (v := 1) hx hb dX9_climbs_37 (by decide) ?_
    refine z_iast hx hb hK hP hD hS 31 0 rfl rfl hg.1 dX9_climbs_38 (zst S0 40 x1.toNatClampNeg 1) (fun S : ZS => wX9 G o0 d0 S) rfl (fun S0_1 H locs eS0_1 hP hD hS => ?_)
    have hg := hg.2 S0_1 eS0_1
    refine lv_aload_n hx hb dX9_climbs_39 rfl (lv_at hl 0 rfl) ?_
    refine va_get (D := G.1) (ci := 7) (v := .ref (d0 41)) (C := RX9) (T := TX9) (N := 49) hx hb hT iX9 hown hK hP 0 rfl rfl 41 (by decide) (hT _ q_713) (fun _ h9 => h9) rfl dX9_climbs_40 ?_
    refine lv_iload_n hx hb dX9_climbs_43 rfl (lv_at hl 1 rfl) ?_
    refine lv_aload_n hx hb dX9_climbs_44 rfl (lv_at hl 0 rfl) ?_
    refine va_get (D := G.1) (ci := 7) (v := .ref (d0 16)) (C := RX9) (T := TX9) (N := 49) hx hb hT iX9 hown hK hP 0 rfl rfl 16 (by decide) (hT _ q_688) (fun _ h9 => h9) rfl dX9_climbs_45 ?_
    refine lv_bipush (v := 72) hx hb dX9_climbs_48 (by decide) ?_
    refine lv_iload_n hx hb dX9_climbs_50 rfl (lv_at hl 1 rfl) ?_
    refine lv_iadd hx hb dX9_climbs_51 ?_
    refine va_iald hx hb hK hP 14 0 rfl rfl hg.1 dX9_climbs_52 ?_
    have hg := hg.2
    refine z_iast hx hb hK hP hD hS 32 0 rfl rfl hg.1 dX9_climbs_53 (zst S0_1 41 x1.toNatClampNeg (S0_1 16 (72 + x1).toNatClampNeg)) (fun S : ZS => wX9 G o0 d0 S) rfl (fun S0_2 H locs eS0_2 hP hD hS => ?_)
    have hg := hg.2 S0_2 eS0_2
    refine lv_goto (tgt := 112) hx hb dX9_climbs_54 (by decide) ?_
    exact hret _ _ (S0_2) _ _ hg hP hD hS dX9_climbs_112
  by_cases k1 : (S0 4 x1.toNatClampNeg) = 1
  · have hg := hg.2.1 k1
    refine lv_tableIn (tgt := 57) hx hb dX9_climbs_6 (by rw [k1]; decide) (by rw [k1]; decide) (by rw [k1]; rfl) (by decide) ?_
    refine lv_aload_n hx hb dX9_climbs_57 rfl (lv_at hl 0 rfl) ?_
    refine va_get (D := G.1) (ci := 7) (v := .ref (d0 40)) (C := RX9) (T := TX9) (N := 49) hx hb hT iX9 hown hK hP 0 rfl rfl 40 (by decide) (hT _ q_712) (fun _ h9 => h9) rfl dX9_climbs_58 ?_
    refine lv_iload_n hx hb dX9_climbs_61 rfl (lv_at hl 1 rfl) ?_
    refine lv_aload_n hx hb dX9_climbs_62 rfl (lv_at hl 0 rfl) ?_
    refine va_get (D := G.1) (ci := 7) (v := .ref (d0 16)) (C := RX9) (T := TX9) (N := 49) hx hb hT iX9 hown hK hP 0 rfl rfl 16 (by decide) (hT _ q_688) (fun _ h9 => h9) rfl dX9_climbs_63 ?_
    refine lv_iconst (v := 0) hx hb dX9_climbs_66 (by decide) ?_
    refine lv_iload_n hx hb dX9_climbs_67 rfl (lv_at hl 1 rfl) ?_
    refine lv_iadd hx hb dX9_climbs_68 ?_
    refine va_iald hx hb hK hP 14 0 rfl rfl hg.1 dX9_climbs_69 ?_
    have hg := hg.2
    refine lv_iconst (v := 1) hx hb dX9_climbs_70 (by decide) ?_
    refine lv_icmp_ne (tgt := 78) hx hb dX9_climbs_71 (by decide) (fun c_3 => ?_) (fun c_3 => ?_)
    · have hg := hg.2 c_3
      refine lv_iconst (v := 2) hx hb dX9_climbs_78 (by decide) ?_
      exact J79 _ _ _ _ _ _ hg hP hD hS (lv_sub hl [0, 1] rfl)
    · have hg := hg.1 c_3
      refine lv_iconst (v := 1) hx hb dX9_climbs_74 (by decide) ?_
      refine lv_goto (tgt := 79) hx hb dX9_climbs_75 (by decide) ?_
      exact J79 _ _ _ _ _ _ hg hP hD hS (lv_sub hl [0, 1] rfl)
  by_cases k2 : (S0 4 x1.toNatClampNeg) = 2
  · have hg := hg.2.2.1 k2
    refine lv_tableIn (tgt := 98) hx hb dX9_climbs_6 (by rw [k2]; decide) (by rw [k2]; decide) (by rw [k2]; rfl) (by decide) ?_
    refine lv_aload_n hx hb dX9_climbs_98 rfl (lv_at hl 0 rfl) ?_
    refine lv_iload_n hx hb dX9_climbs_99 rfl (lv_at hl 1 rfl) ?_
    refine zcVv (As := [.int x1]) (rest := []) (C := RX9) Cx (c_X9_climbsOperation l G o0 d0 x1 S0 _ hg) zv_X9_climbsOperation q_925 ⟨⟨rfl, rfl⟩, Nat.le_of_ble_eq_true rfl, Nat.le_of_ble_eq_true rfl⟩ (zJ.all hP hD hS hA) hS 7 rfl rfl rfl rfl hl.1 rfl (Nat.le_of_ble_eq_true rfl) dX9_climbs_100 (fun S0_4 H locs hg hP hD hS => ?_)
    have hP : va_P G.1 classes (wX9 G o0 d0 S0_4) H := hP
    have hD : va_D A (wX9 G o0 d0 S0_4) := hD
    refine lv_goto (tgt := 112) hx hb dX9_climbs_103 (by decide) ?_
    exact hret _ _ (S0_4) _ _ hg hP hD hS dX9_climbs_112
  have hg := hg.2.2.2 k0 k1 k2
  have nk0 := lv_neT k0 (a := 0) (by decide)
  have nk1 := lv_neT k1 (a := 1) (by decide)
  have nk2 := lv_neT k2 (a := 2) (by decide)
  refine lv_tableOut (tgt := 106) hx hb dX9_climbs_6 (by omega) (by decide) ?_
  refine lv_aload_n hx hb dX9_climbs_106 rfl (lv_at hl 0 rfl) ?_
  refine lv_iload_n hx hb dX9_climbs_107 rfl (lv_at hl 1 rfl) ?_
  refine lv_iload_n hx hb dX9_climbs_108 rfl (lv_at hl 2 rfl) ?_
  refine zcVv (As := [.int x1, .int x2]) (rest := []) (C := RX9) Cx (c_X9_climbsJoin l G o0 d0 x1 x2 S0 _ hg) zv_X9_climbsJoin q_933 ⟨⟨rfl, rfl⟩, Nat.le_of_ble_eq_true rfl, Nat.le_of_ble_eq_true rfl⟩ (zJ.all hP hD hS hA) hS 7 rfl rfl rfl rfl hl.1 rfl (Nat.le_of_ble_eq_true rfl) dX9_climbs_109 (fun S0_5 H locs hg hP hD hS => ?_)
  have hP : va_P G.1 classes (wX9 G o0 d0 S0_5) H := hP
  have hD : va_D A (wX9 G o0 d0 S0_5) := hD
  exact hret _ _ (S0_5) _ _ hg hP hD hS dX9_climbs_112
theorem zv_X9_finds : zV yX9_finds RX9 cX9_finds 5 none 1 := ⟨q_919, qp_18, q_8, q_920, by decide +kernel⟩
set_option maxHeartbeats 4000000 in
set_option maxRecDepth 100000 in
theorem c_X9_finds (l : Launch) (G : ZG) (o0 : Nat) (d0 : Nat → Nat) (x1 : Int32) (S0 : ZS) (Q : ZS → Prop) (hg : g_X9_finds x1 S0 Q) : Kv l G yX9_finds cX9_finds 5 rm_X9_finds [.ref o0, .int x1] (wX9 G o0 d0 S0) (fun u : ZS => wX9 G o0 d0 u) (fun u => Q u) := by
  refine Kv.of (by decide) (Nat.le_of_ble_eq_true rfl) ?_
  intro p e s m args below meth c A QQ ls Cx hret hl hP hD hS
  obtain ⟨hx, hb, hml, hown, hT, hK, hA⟩ := id Cx
  have hl : lv_has ls 5 [(0, .ref o0), (1, .int x1)] := hl
  have L149 : ∀ (X59 : Int32 × ZS → Prop) (hX59 : ∀ (x2 : Int32) (S0 : ZS) (H : Heap) (locs : List Loc) (ls : Array Slot), X59 (x2, S0) → va_P G.1 classes (wX9 G o0 d0 S0) H → va_D A (wX9 G o0 d0 S0) → va_S A s.heap H locs → lv_has ls 5 [(0, .ref o0), (1, .int x1), (2, .int x2)] → W p l e rm_X9_finds s m args below meth c H locs 0 0 QQ (F0 m 59 ls [])) (X138 : Int32 × Int32 × ZS → Prop) (hX138 : ∀ (x2 : Int32) (x3 : Int32) (S0 : ZS) (H : Heap) (locs : List Loc) (ls : Array Slot), X138 (x2, x3, S0) → va_P G.1 classes (wX9 G o0 d0 S0) H → va_D A (wX9 G o0 d0 S0) → va_S A s.heap H locs → lv_has ls 5 [(0, .ref o0), (1, .int x1), (2, .int x2), (3, .int x3)] → W p l e rm_X9_finds s m args below meth c H locs 0 0 QQ (F0 m 138 ls [])) (n : Nat) (x2 : Int32) (x3 : Int32) (x4 : Int32) (S0 : ZS) (H : Heap) (locs : List Loc) (ls : Array Slot), fx (F_X9_finds_149 x1 Q X59 X138) n (x2, x3, x4, S0) → va_P G.1 classes (wX9 G o0 d0 S0) H → va_D A (wX9 G o0 d0 S0) → va_S A s.heap H locs → lv_has ls 5 [(0, .ref o0), (1, .int x1), (2, .int x2), (3, .int x3), (4, .int x4)] → W p l e rm_X9_finds s m args below meth c H locs 0 0 QQ (F0 m 149 ls []) := by
    intro X59 hX59 X138 hX138 n
    induction n with
    | zero => intro x2 x3 x4 S0 H locs ls hg; exact hg.elim
    | succ n ih =>
      have hX149 := ih
      intro x2 x3 x4 S0 H locs ls hg hP hD hS hl
      refine lv_iload hx hb dX9_finds_149 (lv_at hl 4 rfl) ?_
      refine lv_aload_n hx hb dX9_finds_151 rfl (lv_at hl 0 rfl) ?_
      refine va_get (D := G.1) (ci := 7) (v := .int (S0 3 0)) (C := RX9) (T := TX9) (N := 49) hx hb hT iX9 hown hK hP 0 rfl rfl 3 (by decide) (hT _ q_675) (fun _ h9 => h9) rfl dX9_finds_152 ?_
      refine lv_icmp_ge (tgt := 195) hx hb dX9_finds_155 (by decide) (fun c_1 => ?_) (fun c_1 => ?_)
      · have hg := hg.1 c_1
        obtain ⟨x3_2, ex3_2⟩ : ∃ y : Int32, y = x3 + 1 := ⟨_, rfl⟩
        have hg := hg x3_2 ex3_2
        refine lv_iinc (v := x3_2) (lv' := [(3, .int x3_2), (0, .ref o0), (1, .int x1), (2, .int x2), (4, .int x4)]) hx hb dX9_finds_195 hl (k := 3) rfl (by rw [ex3_2]; rfl) (by decide) rfl (fun ls hl => ?_)
        refine lv_goto (tgt := 138) hx hb dX9_finds_198 (by decide) ?_
        exact hX138 _ _ _ _ _ _ hg hP hD hS (lv_sub hl [1, 2, 3, 0] rfl)
      · have hg := hg.2 c_1
        refine lv_aload_n hx hb dX9_finds_158 rfl (lv_at hl 0 rfl) ?_
        refine va_get (D := G.1) (ci := 7) (v := .ref (d0 42)) (C := RX9) (T := TX9) (N := 49) hx hb hT iX9 hown hK hP 0 rfl rfl 42 (by decide) (hT _ q_714) (fun _ h9 => h9) rfl dX9_finds_159 ?_
        refine lv_iload hx hb dX9_finds_162 (lv_at hl 4 rfl) ?_
        refine va_zald hx hb hK hP 33 1 rfl rfl hg.1 dX9_finds_164 ?_
        have hg := hg.2
        refine lv_if_ne (tgt := 189) hx hb dX9_finds_165 (by decide) (fun c_3 => ?_) (fun c_3 => ?_)
        · have hg := hg.2 c_3
          obtain ⟨x4_4, ex4_4⟩ : ∃ y : Int32, y = x4 + 1 := ⟨_, rfl⟩
          have hg := hg x4_4 ex4_4
          refine lv_iinc (v := x4_4) (lv' := [(4, .int x4_4), (0, .ref o0), (1, .int x1), (2, .int x2), (3, .int x3)]) hx hb dX9_finds_189 hl (k := 4) rfl (by rw [ex4_4]; rfl) (by decide) rfl (fun ls hl => ?_)
          refine lv_goto (tgt := 149) hx hb dX9_finds_192 (by decide) ?_
          exact hX149 _ _ _ _ _ _ _ hg hP hD hS (lv_sub hl [1, 2, 3, 4, 0] rfl)
        · have hg := hg.1 c_3
          refine lv_aload_n hx hb dX9_finds_168 rfl (lv_at hl 0 rfl) ?_
          refine lv_iload_n hx hb dX9_finds_169 rfl (lv_at hl 3 rfl) ?_
          refine lv_iload hx hb dX9_finds_170 (lv_at hl 4 rfl) ?_
          refine lv_iload_n hx hb dX9_finds_172 rfl (lv_at hl 1 rfl) ?_
          refine zcVi (As := [.int x3, .int x4, .int x1]) (rest := []) (C := RX9) Cx (c_X9_isWay l G o0 d0 x3 x4 x1 S0 _ hg) zv_X9_isWay q_937 ⟨⟨rfl, rfl⟩, Nat.le_of_ble_eq_true rfl, Nat.le_of_ble_eq_true rfl⟩ (zJ.all hP hD hS hA) hS 7 rfl rfl rfl rfl hl.1 rfl (Nat.le_of_ble_eq_true rfl) dX9_finds_173 (fun r_5 _u H locs hg hP hD hS => ?_)
          refine lv_if_eq (tgt := 189) hx hb dX9_finds_176 (by decide) (fun c_6 => ?_) (fun c_6 => ?_)
          · have hg := hg.1 c_6
            obtain ⟨x4_7, ex4_7⟩ : ∃ y : Int32, y = x4 + 1 := ⟨_, rfl⟩
            have hg := hg x4_7 ex4_7
            refine lv_iinc (v := x4_7) (lv' := [(4, .int x4_7), (0, .ref o0), (1, .int x1), (2, .int x2), (3, .int x3)]) hx hb dX9_finds_189 hl (k := 4) rfl (by rw [ex4_7]; rfl) (by decide) rfl (fun ls hl => ?_)
            refine lv_goto (tgt := 149) hx hb dX9_finds_192 (by decide) ?_
            exact hX149 _ _ _ _ _ _ _ hg hP hD hS (lv_sub hl [1, 2, 3, 4, 0] rfl)
          · have hg := hg.2 c_6
            refine lv_aload_n hx hb dX9_finds_179 rfl (lv_at hl 0 rfl) ?_
            refine va_get (D := G.1) (ci := 7) (v := .ref (d0 42)) (C := RX9) (T := TX9) (N := 49) hx hb hT iX9 hown hK hP 0 rfl rfl 42 (by decide) (hT _ q_714) (fun _ h9 => h9) rfl dX9_finds_180 ?_
            refine lv_iload hx hb dX9_finds_183 (lv_at hl 4 rfl) ?_
            refine lv_iconst (v := 1) hx hb dX9_finds_185 (by decide) ?_
            refine z_zast hx hb hK hP hD hS 33 1 rfl rfl hg.1 dX9_finds_186 (zst S0 42 x4.toNatClampNeg (vp_nar .boolean 1)) (fun S : ZS => wX9 G o0 d0 S) rfl (fun S0_8 H locs eS0_8 hP hD hS => ?_)
            have hg := hg.2 S0_8 eS0_8
            refine lv_iconst (v := 1) hx hb dX9_finds_187 (by decide) ?_
            refine lv_istore_n (lv' := [(2, .int 1), (0, .ref o0), (1, .int x1), (3, .int x3), (4, .int x4)]) hx hb dX9_finds_188 rfl hl (by decide) rfl (fun ls hl => ?_)
            obtain ⟨x4_9, ex4_9⟩ : ∃ y : Int32, y = x4 + 1 := ⟨_, rfl⟩
            have hg := hg x4_9 ex4_9
            refine lv_iinc (v := x4_9) (lv' := [(4, .int x4_9), (2, .int 1), (0, .ref o0), (1, .int x1), (3, .int x3)]) hx hb dX9_finds_189 hl (k := 4) rfl (by rw [ex4_9]; rfl) (by decide) rfl (fun ls hl => ?_)
            refine lv_goto (tgt := 149) hx hb dX9_finds_192 (by decide) ?_
            exact hX149 _ _ _ _ _ _ _ hg hP hD hS (lv_sub hl [2, 3, 1, 4, 0] rfl)
  have L138 : ∀ (X59 : Int32 × ZS → Prop) (hX59 : ∀ (x2 : Int32) (S0 : ZS) (H : Heap) (locs : List Loc) (ls : Array Slot), X59 (x2, S0) → va_P G.1 classes (wX9 G o0 d0 S0) H → va_D A (wX9 G o0 d0 S0) → va_S A s.heap H locs → lv_has ls 5 [(0, .ref o0), (1, .int x1), (2, .int x2)] → W p l e rm_X9_finds s m args below meth c H locs 0 0 QQ (F0 m 59 ls [])) (n : Nat) (x2 : Int32) (x3 : Int32) (S0 : ZS) (H : Heap) (locs : List Loc) (ls : Array Slot), fx (F_X9_finds_138 x1 Q X59) n (x2, x3, S0) → va_P G.1 classes (wX9 G o0 d0 S0) H → va_D A (wX9 G o0 d0 S0) → va_S A s.heap H locs → lv_has ls 5 [(0, .ref o0), (1, .int x1), (2, .int x2), (3, .int x3)] → W p l e rm_X9_finds s m args below meth c H locs 0 0 QQ (F0 m 138 ls []) := by
    intro X59 hX59 n
    induction n with
    | zero => intro x2 x3 S0 H locs ls hg; exact hg.elim
    | succ n ih =>
      have hX138 := ih
      intro x2 x3 S0 H locs ls hg hP hD hS hl
      refine lv_iload_n hx hb dX9_finds_138 rfl (lv_at hl 3 rfl) ?_
      refine lv_aload_n hx hb dX9_finds_139 rfl (lv_at hl 0 rfl) ?_
      refine va_get (D := G.1) (ci := 7) (v := .int (S0 3 0)) (C := RX9) (T := TX9) (N := 49) hx hb hT iX9 hown hK hP 0 rfl rfl 3 (by decide) (hT _ q_675) (fun _ h9 => h9) rfl dX9_finds_140 ?_
      refine lv_icmp_ge (tgt := 201) hx hb dX9_finds_143 (by decide) (fun c_1 => ?_) (fun c_1 => ?_)
      · have hg := hg.1 c_1
        refine lv_goto (tgt := 59) hx hb dX9_finds_201 (by decide) ?_
        exact hX59 _ _ _ _ _ hg hP hD hS (lv_sub hl [0, 1, 2] rfl)
      · have hg := hg.2 c_1
        refine lv_iconst (v := 0) hx hb dX9_finds_146 (by decide) ?_
        refine lv_istore (lv' := [(4, .int 0), (0, .ref o0), (1, .int x1), (2, .int x2), (3, .int x3)]) hx hb dX9_finds_147 hl (by decide) rfl (fun ls hl => ?_)
        obtain ⟨n, hg⟩ := hg
        exact L149 _ hX59 _ hX138 n _ _ _ _ _ _ _ hg hP hD hS (lv_sub hl [1, 2, 3, 4, 0] rfl)
  have J109 : ∀ (X59 : Int32 × ZS → Prop) (hX59 : ∀ (x2 : Int32) (S0 : ZS) (H : Heap) (locs : List Loc) (ls : Array Slot), X59 (x2, S0) → va_P G.1 classes (wX9 G o0 d0 S0) H → va_D A (wX9 G o0 d0 S0) → va_S A s.heap H locs → lv_has ls 5 [(0, .ref o0), (1, .int x1), (2, .int x2)] → W p l e rm_X9_finds s m args below meth c H locs 0 0 QQ (F0 m 59 ls [])) (X67 : Int32 × Int32 × ZS → Prop) (hX67 : ∀ (x2 : Int32) (x3 : Int32) (S0 : ZS) (H : Heap) (locs : List Loc) (ls : Array Slot), X67 (x2, x3, S0) → va_P G.1 classes (wX9 G o0 d0 S0) H → va_D A (wX9 G o0 d0 S0) → va_S A s.heap H locs → lv_has ls 5 [(0, .ref o0), (1, .int x1), (2, .int x2), (3, .int x3)] → W p l e rm_X9_finds s m args below meth c H locs 0 0 QQ (F0 m 67 ls [])) (x2 : Int32) (x3 : Int32) (x4 : Int32) (S0 : ZS) (H : Heap) (locs : List Loc) (ls : Array Slot), G_X9_finds_109 x1 Q X59 X67 x2 x3 x4 S0 → va_P G.1 classes (wX9 G o0 d0 S0) H → va_D A (wX9 G o0 d0 S0) → va_S A s.heap H locs → lv_has ls 5 [(0, .ref o0), (1, .int x1), (2, .int x2), (3, .int x3), (4, .int x4)] → W p l e rm_X9_finds s m args below meth c H locs 0 0 QQ (F0 m 109 ls []) := by
    intro X59 hX59 X67 hX67 x2 x3 x4 S0 H locs ls hg hP hD hS hl
    refine lv_iload_n hx hb dX9_finds_109 rfl (lv_at hl 2 rfl) ?_
    refine lv_if_ne (tgt := 124) hx hb dX9_finds_110 (by decide) (fun c_1 => ?_) (fun c_1 => ?_)
    · have hg := hg.2 c_1
      refine lv_iconst (v := 1) hx hb dX9_finds_124 (by decide) ?_
      refine lv_goto (tgt := 129) hx hb dX9_finds_125 (by decide) ?_
      refine lv_istore_n (lv' := [(2, .int 1), (0, .ref o0), (1, .int x1), (3, .int x3), (4, .int x4)]) hx hb dX9_finds_129 rfl hl (by decide) rfl (fun ls hl => ?_)
      obtain ⟨x3_2, ex3_2⟩ : ∃ y : Int32, y = x3 + 1 := ⟨_, rfl⟩
      have hg := hg x3_2 ex3_2
      refine lv_iinc (v := x3_2) (lv' := [(3, .int x3_2), (2, .int 1), (0, .ref o0), (1, .int x1), (4, .int x4)]) hx hb dX9_finds_130 hl (k := 3) rfl (by rw [ex3_2]; rfl) (by decide) rfl (fun ls hl => ?_)
      refine lv_goto (tgt := 67) hx hb dX9_finds_133 (by decide) ?_
      exact hX67 _ _ _ _ _ _ hg hP hD hS (lv_sub hl [2, 3, 1, 0] rfl)
    · have hg := hg.1 c_1
      refine lv_aload_n hx hb dX9_finds_113 rfl (lv_at hl 0 rfl) ?_
      refine va_get (D := G.1) (ci := 7) (v := .ref (d0 40)) (C := RX9) (T := TX9) (N := 49) hx hb hT iX9 hown hK hP 0 rfl rfl 40 (by decide) (hT _ q_712) (fun _ h9 => h9) rfl dX9_finds_114 ?_
      refine lv_iload_n hx hb dX9_finds_117 rfl (lv_at hl 3 rfl) ?_
      refine va_iald hx hb hK hP 31 0 rfl rfl hg.1 dX9_finds_118 ?_
      have hg := hg.2
      refine lv_iload hx hb dX9_finds_119 (lv_at hl 4 rfl) ?_
      refine lv_icmp_eq (tgt := 128) hx hb dX9_finds_121 (by decide) (fun c_3 => ?_) (fun c_3 => ?_)
      · have hg := hg.1 c_3
        refine lv_iconst (v := 0) hx hb dX9_finds_128 (by decide) ?_
        refine lv_istore_n (lv' := [(2, .int 0), (0, .ref o0), (1, .int x1), (3, .int x3), (4, .int x4)]) hx hb dX9_finds_129 rfl hl (by decide) rfl (fun ls hl => ?_)
        obtain ⟨x3_4, ex3_4⟩ : ∃ y : Int32, y = x3 + 1 := ⟨_, rfl⟩
        have hg := hg x3_4 ex3_4
        refine lv_iinc (v := x3_4) (lv' := [(3, .int x3_4), (2, .int 0), (0, .ref o0), (1, .int x1), (4, .int x4)]) hx hb dX9_finds_130 hl (k := 3) rfl (by rw [ex3_4]; rfl) (by decide) rfl (fun ls hl => ?_)
        refine lv_goto (tgt := 67) hx hb dX9_finds_133 (by decide) ?_
        exact hX67 _ _ _ _ _ _ hg hP hD hS (lv_sub hl [2, 3, 1, 0] rfl)
      · have hg := hg.2 c_3
        refine lv_iconst (v := 1) hx hb dX9_finds_124 (by decide) ?_
        refine lv_goto (tgt := 129) hx hb dX9_finds_125 (by decide) ?_
        refine lv_istore_n (lv' := [(2, .int 1), (0, .ref o0), (1, .int x1), (3, .int x3), (4, .int x4)]) hx hb dX9_finds_129 rfl hl (by decide) rfl (fun ls hl => ?_)
        obtain ⟨x3_5, ex3_5⟩ : ∃ y : Int32, y = x3 + 1 := ⟨_, rfl⟩
        have hg := hg x3_5 ex3_5
        refine lv_iinc (v := x3_5) (lv' := [(3, .int x3_5), (2, .int 1), (0, .ref o0), (1, .int x1), (4, .int x4)]) hx hb dX9_finds_130 hl (k := 3) rfl (by rw [ex3_5]; rfl) (by decide) rfl (fun ls hl => ?_)
        refine lv_goto (tgt := 67) hx hb dX9_finds_133 (by decide) ?_
        exact hX67 _ _ _ _ _ _ hg hP hD hS (lv_sub hl [2, 3, 1, 0] rfl)
  have L67 : ∀ (X59 : Int32 × ZS → Prop) (hX59 : ∀ (x2 : Int32) (S0 : ZS) (H : Heap) (locs : List Loc) (ls : Array Slot), X59 (x2, S0) → va_P G.1 classes (wX9 G o0 d0 S0) H → va_D A (wX9 G o0 d0 S0) → va_S A s.heap H locs → lv_has ls 5 [(0, .ref o0), (1, .int x1), (2, .int x2)] → W p l e rm_X9_finds s m args below meth c H locs 0 0 QQ (F0 m 59 ls [])) (n : Nat) (x2 : Int32) (x3 : Int32) (S0 : ZS) (H : Heap) (locs : List Loc) (ls : Array Slot), fx (F_X9_finds_67 x1 Q X59) n (x2, x3, S0) → va_P G.1 classes (wX9 G o0 d0 S0) H → va_D A (wX9 G o0 d0 S0) → va_S A s.heap H locs → lv_has ls 5 [(0, .ref o0), (1, .int x1), (2, .int x2), (3, .int x3)] → W p l e rm_X9_finds s m args below meth c H locs 0 0 QQ (F0 m 67 ls []) := by
    intro X59 hX59 n
    induction n with
    | zero => intro x2 x3 S0 H locs ls hg; exact hg.elim
    | succ n ih =>
      have hX67 := ih
      intro x2 x3 S0 H locs ls hg hP hD hS hl
      refine lv_iload_n hx hb dX9_finds_67 rfl (lv_at hl 3 rfl) ?_
      refine lv_aload_n hx hb dX9_finds_68 rfl (lv_at hl 0 rfl) ?_
      refine va_get (D := G.1) (ci := 7) (v := .int (S0 2 0)) (C := RX9) (T := TX9) (N := 49) hx hb hT iX9 hown hK hP 0 rfl rfl 2 (by decide) (hT _ q_674) (fun _ h9 => h9) rfl dX9_finds_69 ?_
      refine lv_icmp_ge (tgt := 136) hx hb dX9_finds_72 (by decide) (fun c_1 => ?_) (fun c_1 => ?_)
      · have hg := hg.1 c_1
        refine lv_iconst (v := 0) hx hb dX9_finds_136 (by decide) ?_
        refine lv_istore_n (lv' := [(3, .int 0), (0, .ref o0), (1, .int x1), (2, .int x2)]) hx hb dX9_finds_137 rfl hl (by decide) rfl (fun ls hl => ?_)
        obtain ⟨n, hg⟩ := hg
        exact L138 _ hX59 n _ _ _ _ _ _ hg hP hD hS (lv_sub hl [1, 2, 3, 0] rfl)
      · have hg := hg.2 c_1
        refine lv_aload_n hx hb dX9_finds_75 rfl (lv_at hl 0 rfl) ?_
        refine va_get (D := G.1) (ci := 7) (v := .ref (d0 40)) (C := RX9) (T := TX9) (N := 49) hx hb hT iX9 hown hK hP 0 rfl rfl 40 (by decide) (hT _ q_712) (fun _ h9 => h9) rfl dX9_finds_76 ?_
        refine lv_iload_n hx hb dX9_finds_79 rfl (lv_at hl 3 rfl) ?_
        refine va_iald hx hb hK hP 31 0 rfl rfl hg.1 dX9_finds_80 ?_
        have hg := hg.2
        refine lv_topi (fun x4_2 ex4_2 => ?_)
        have hg := hg x4_2 ex4_2
        refine lv_istore (lv' := [(4, .int x4_2), (0, .ref o0), (1, .int x1), (2, .int x2), (3, .int x3)]) hx hb dX9_finds_81 hl (by decide) rfl (fun ls hl => ?_)
        refine lv_aload_n hx hb dX9_finds_83 rfl (lv_at hl 1 rfl) ?_
        refine va_get (D := G.1) (ci := 7) (v := .ref (d0 42)) (C := RX9) (T := TX9) (N := 49) hx hb hT iX9 hown hK hP 0 rfl rfl 42 (by decide) (hT _ q_714) (fun _ h9 => h9) rfl dX9_finds_84 ?_
        refine lv_aload_n hx hb dX9_finds_87 rfl (lv_at hl 1 rfl) ?_
        refine va_get (D := G.1) (ci := 7) (v := .ref (d0 5)) (C := RX9) (T := TX9) (N := 49) hx hb hT iX9 hown hK hP 0 rfl rfl 5 (by decide) (hT _ q_677) (fun _ h9 => h9) rfl dX9_finds_88 ?_
        refine lv_iload_n hx hb dX9_finds_91 rfl (lv_at hl 4 rfl) ?_
        refine va_iald hx hb hK hP 3 0 rfl rfl hg.1 dX9_finds_92 ?_
        have hg := hg.2
        refine va_zald hx hb hK hP 33 1 rfl rfl hg.1 dX9_finds_93 ?_
        have hg := hg.2
        refine lv_if_eq (tgt := 109) hx hb dX9_finds_94 (by decide) (fun c_3 => ?_) (fun c_3 => ?_)
        · have hg := hg.1 c_3
          exact J109 _ hX59 _ hX67 _ _ _ _ _ _ _ hg hP hD hS (lv_sub hl [1, 2, 3, 4, 0] rfl)
        · have hg := hg.2 c_3
          refine lv_iload hx hb dX9_finds_97 (lv_at hl 0 rfl) ?_
          refine lv_iconst (v := 2) hx hb dX9_finds_99 (by decide) ?_
          refine lv_icmp_eq (tgt := 109) hx hb dX9_finds_100 (by decide) (fun c_4 => ?_) (fun c_4 => ?_)
          · have hg := hg.1 c_4
            exact J109 _ hX59 _ hX67 _ _ _ _ _ _ _ hg hP hD hS (lv_sub hl [1, 2, 3, 4, 0] rfl)
          · have hg := hg.2 c_4
            refine lv_aload_n hx hb dX9_finds_103 rfl (lv_at hl 1 rfl) ?_
            refine lv_iload_n hx hb dX9_finds_104 rfl (lv_at hl 4 rfl) ?_
            refine lv_iload_n hx hb dX9_finds_105 rfl (lv_at hl 2 rfl) ?_
            refine zcVv (As := [.int x3, .int x1]) (rest := []) (C := RX9) Cx (c_X9_climbs l G o0 d0 x3 x1 S0 _ hg) zv_X9_climbs q_921 ⟨⟨rfl, rfl⟩, Nat.le_of_ble_eq_true rfl, Nat.le_of_ble_eq_true rfl⟩ (zJ.all hP hD hS hA) hS 7 rfl rfl rfl rfl hl.1 rfl (Nat.le_of_ble_eq_true rfl) dX9_finds_106 (fun S0_5 H locs hg hP hD hS => ?_)
            have hP : va_P G.1 classes (wX9 G o0 d0 S0_5) H := hP
            have hD : va_D A (wX9 G o0 d0 S0_5) := hD
            exact J109 _ hX59 _ hX67 _ _ _ _ _ _ _ hg hP hD hS (lv_sub hl [1, 2, 3, 4, 0] rfl)
  have L59 : ∀ (n : Nat) (x2 : Int32) (S0 : ZS) (H : Heap) (locs : List Loc) (ls : Array Slot), fx (F_X9_finds_59 x1 Q) n (x2, S0) → va_P G.1 classes (wX9 G o0 d0 S0) H → va_D A (wX9 G o0 d0 S0) → va_S A s.heap H locs → lv_has ls 5 [(0, .ref o0), (1, .int x1), (2, .int x2)] → W p l e rm_X9_finds s m args below meth c H locs 0 0 QQ (F0 m 59 ls []) := by
    intro n
    induction n with
    | zero => intro x2 S0 H locs ls hg; exact hg.elim
    | succ n ih =>
      have hX59 := ih
      intro x2 S0 H locs ls hg hP hD hS hl
      refine lv_iload_n hx hb dX9_finds_59 rfl (lv_at hl 2 rfl) ?_
      refine lv_if_eq (tgt := 204) hx hb dX9_finds_60 (by decide) (fun c_1 => ?_) (fun c_1 => ?_)
      · have hg := hg.1 c_1
        exact hret _ _ (S0) _ _ hg hP hD hS dX9_finds_204
      · have hg := hg.2 c_1
        refine lv_iconst (v := 0) hx hb dX9_finds_63 (by decide) ?_
        refine lv_istore_n (lv' := [(2, .int 0), (0, .ref o0), (1, .int x1)]) hx hb dX9_finds_64 rfl hl (by decide) rfl (fun ls hl => ?_)
        refine lv_iconst (v := 0) hx hb dX9_finds_65 (by decide) ?_
        refine lv_istore_n (lv' := [(3, .int 0), (2, .int 0), (0, .ref o0), (1, .int x1)]) hx hb dX9_finds_66 rfl hl (by decide) rfl (fun ls hl => ?_)
        obtain ⟨n, hg⟩ := hg
        exact L67 _ hX59 n _ _ _ _ _ _ hg hP hD hS (lv_sub hl [2, 3, 1, 0] rfl)
  have L23 : ∀ (n : Nat) (x2 : Int32) (S0 : ZS) (H : Heap) (locs : List Loc) (ls : Array Slot), fx (F_X9_finds_23 x1 Q) n (x2, S0) → va_P G.1 classes (wX9 G o0 d0 S0) H → va_D A (wX9 G o0 d0 S0) → va_S A s.heap H locs → lv_has ls 5 [(0, .ref o0), (1, .int x1), (2, .int x2)] → W p l e rm_X9_finds s m args below meth c H locs 0 0 QQ (F0 m 23 ls []) := by
    intro n
    induction n with
    | zero => intro x2 S0 H locs ls hg; exact hg.elim
    | succ n ih =>
      have hX23 := ih
      intro x2 S0 H locs ls hg hP hD hS hl
      refine lv_iload_n hx hb dX9_finds_23 rfl (lv_at hl 2 rfl) ?_
      refine lv_bipush (v := 8) hx hb dX9_finds_24 (by decide) ?_
      refine lv_icmp_ge (tgt := 57) hx hb dX9_finds_26 (by decide) (fun c_1 => ?_) (fun c_1 => ?_)
      · have hg := hg.1 c_1
        refine lv_iconst (v := 1) hx hb dX9_finds_57 (by decide) ?_
        refine lv_istore_n (lv' := [(2, .int 1), (0, .ref o0), (1, .int x1)]) hx hb dX9_finds_58 rfl hl (by decide) rfl (fun ls hl => ?_)
        obtain ⟨n, hg⟩ := hg
        exact L59 n _ _ _ _ _ hg hP hD hS (lv_sub hl [1, 2, 0] rfl)
      · have hg := hg.2 c_1
        refine lv_aload_n hx hb dX9_finds_29 rfl (lv_at hl 0 rfl) ?_
        refine va_get (D := G.1) (ci := 7) (v := .ref (d0 42)) (C := RX9) (T := TX9) (N := 49) hx hb hT iX9 hown hK hP 0 rfl rfl 42 (by decide) (hT _ q_714) (fun _ h9 => h9) rfl dX9_finds_30 ?_
        refine lv_iload_n hx hb dX9_finds_33 rfl (lv_at hl 2 rfl) ?_
        refine lv_iload_n hx hb dX9_finds_34 rfl (lv_at hl 2 rfl) ?_
        refine lv_if_ne (tgt := 49) hx hb dX9_finds_35 (by decide) (fun c_2 => ?_) (fun c_2 => ?_)
        · have hg := hg.2 c_2
          refine lv_iconst (v := 0) hx hb dX9_finds_49 (by decide) ?_
          refine z_zast hx hb hK hP hD hS 33 1 rfl rfl hg.1 dX9_finds_50 (zst S0 42 x2.toNatClampNeg (vp_nar .boolean 0)) (fun S : ZS => wX9 G o0 d0 S) rfl (fun S0_3 H locs eS0_3 hP hD hS => ?_)
          have hg := hg.2 S0_3 eS0_3
          obtain ⟨x2_4, ex2_4⟩ : ∃ y : Int32, y = x2 + 1 := ⟨_, rfl⟩
          have hg := hg x2_4 ex2_4
          refine lv_iinc (v := x2_4) (lv' := [(2, .int x2_4), (0, .ref o0), (1, .int x1)]) hx hb dX9_finds_51 hl (k := 2) rfl (by rw [ex2_4]; rfl) (by decide) rfl (fun ls hl => ?_)
          refine lv_goto (tgt := 23) hx hb dX9_finds_54 (by decide) ?_
          exact hX23 _ _ _ _ _ hg hP hD hS (lv_sub hl [1, 2, 0] rfl)
        · have hg := hg.1 c_2
          refine lv_aload_n hx hb dX9_finds_38 rfl (lv_at hl 0 rfl) ?_
          refine va_get (D := G.1) (ci := 7) (v := .int (S0 3 0)) (C := RX9) (T := TX9) (N := 49) hx hb hT iX9 hown hK hP 0 rfl rfl 3 (by decide) (hT _ q_675) (fun _ h9 => h9) rfl dX9_finds_39 ?_
          refine lv_if_le (tgt := 49) hx hb dX9_finds_42 (by decide) (fun c_5 => ?_) (fun c_5 => ?_)
          · have hg := hg.1 c_5
            refine lv_iconst (v := 0) hx hb dX9_finds_49 (by decide) ?_
            refine z_zast hx hb hK hP hD hS 33 1 rfl rfl hg.1 dX9_finds_50 (zst S0 42 x2.toNatClampNeg (vp_nar .boolean 0)) (fun S : ZS => wX9 G o0 d0 S) rfl (fun S0_6 H locs eS0_6 hP hD hS => ?_)
            have hg := hg.2 S0_6 eS0_6
            obtain ⟨x2_7, ex2_7⟩ : ∃ y : Int32, y = x2 + 1 := ⟨_, rfl⟩
            have hg := hg x2_7 ex2_7
            refine lv_iinc (v := x2_7) (lv' := [(2, .int x2_7), (0, .ref o0), (1, .int x1)]) hx hb dX9_finds_51 hl (k := 2) rfl (by rw [ex2_7]; rfl) (by decide) rfl (fun ls hl => ?_)
            refine lv_goto (tgt := 23) hx hb dX9_finds_54 (by decide) ?_
            exact hX23 _ _ _ _ _ hg hP hD hS (lv_sub hl [1, 2, 0] rfl)
          · have hg := hg.2 c_5
            refine lv_iconst (v := 1) hx hb dX9_finds_45 (by decide) ?_
            refine lv_goto (tgt := 50) hx hb dX9_finds_46 (by decide) ?_
            refine z_zast hx hb hK hP hD hS 33 1 rfl rfl hg.1 dX9_finds_50 (zst S0 42 x2.toNatClampNeg (vp_nar .boolean 1)) (fun S : ZS => wX9 G o0 d0 S) rfl (fun S0_8 H locs eS0_8 hP hD hS => ?_)
            have hg := hg.2 S0_8 eS0_8
            obtain ⟨x2_9, ex2_9⟩ : ∃ y : Int32, y = x2 + 1 := ⟨_, rfl⟩
            have hg := hg x2_9 ex2_9
            refine lv_iinc (v := x2_9) (lv' := [(2, .int x2_9), (0, .ref o0), (1, .int x1)]) hx hb dX9_finds_51 hl (k := 2) rfl (by rw [ex2_9]; rfl) (by decide) rfl (fun ls hl => ?_)
            refine lv_goto (tgt := 23) hx hb dX9_finds_54 (by decide) ?_
            exact hX23 _ _ _ _ _ hg hP hD hS (lv_sub hl [1, 2, 0] rfl)
  have L2 : ∀ (n : Nat) (x2 : Int32) (S0 : ZS) (H : Heap) (locs : List Loc) (ls : Array Slot), fx (F_X9_finds_2 x1 Q) n (x2, S0) → va_P G.1 classes (wX9 G o0 d0 S0) H → va_D A (wX9 G o0 d0 S0) → va_S A s.heap H locs → lv_has ls 5 [(0, .ref o0), (1, .int x1), (2, .int x2)] → W p l e rm_X9_finds s m args below meth c H locs 0 0 QQ (F0 m 2 ls []) := by
    intro n
    induction n with
    | zero => intro x2 S0 H locs ls hg; exact hg.elim
    | succ n ih =>
      have hX2 := ih
      intro x2 S0 H locs ls hg hP hD hS hl
      refine lv_iload_n hx hb dX9_finds_2 rfl (lv_at hl 2 rfl) ?_
      refine lv_bipush (v := 24) hx hb dX9_finds_3 (by decide) ?_
      refine lv_icmp_ge (tgt := 21) hx hb dX9_finds_5 (by decide) (fun c_1 => ?_) (fun c_1 => ?_)
      · have hg := hg.1 c_1
        refine lv_iconst (v := 0) hx hb dX9_finds_21 (by decide) ?_
        refine lv_istore_n (lv' := [(2, .int 0), (0, .ref o0), (1, .int x1)]) hx hb dX9_finds_22 rfl hl (by decide) rfl (fun ls hl => ?_)
        obtain ⟨n, hg⟩ := hg
        exact L23 n _ _ _ _ _ hg hP hD hS (lv_sub hl [1, 2, 0] rfl)
      · have hg := hg.2 c_1
        refine lv_aload_n hx hb dX9_finds_8 rfl (lv_at hl 0 rfl) ?_
        refine va_get (D := G.1) (ci := 7) (v := .ref (d0 40)) (C := RX9) (T := TX9) (N := 49) hx hb hT iX9 hown hK hP 0 rfl rfl 40 (by decide) (hT _ q_712) (fun _ h9 => h9) rfl dX9_finds_9 ?_
        refine lv_iload_n hx hb dX9_finds_12 rfl (lv_at hl 2 rfl) ?_
        refine lv_iconst (v := 0) hx hb dX9_finds_13 (by decide) ?_
        refine z_iast hx hb hK hP hD hS 31 0 rfl rfl hg.1 dX9_finds_14 (zst S0 40 x2.toNatClampNeg 0) (fun S : ZS => wX9 G o0 d0 S) rfl (fun S0_2 H locs eS0_2 hP hD hS => ?_)
        have hg := hg.2 S0_2 eS0_2
        obtain ⟨x2_3, ex2_3⟩ : ∃ y : Int32, y = x2 + 1 := ⟨_, rfl⟩
        have hg := hg x2_3 ex2_3
        refine lv_iinc (v := x2_3) (lv' := [(2, .int x2_3), (0, .ref o0), (1, .int x1)]) hx hb dX9_finds_15 hl (k := 2) rfl (by rw [ex2_3]; rfl) (by decide) rfl (fun ls hl => ?_)
        refine lv_goto (tgt := 2) hx hb dX9_finds_18 (by decide) ?_
        exact hX2 _ _ _ _ _ hg hP hD hS (lv_sub hl [1, 2, 0] rfl)
  refine lv_iconst (v := 0) hx hb dX9_finds_0 (by decide) ?_
  refine lv_istore_n (lv' := [(2, .int 0), (0, .ref o0), (1, .int x1)]) hx hb dX9_finds_1 rfl hl (by decide) rfl (fun ls hl => ?_)
  obtain ⟨n, hg⟩ := hg
  exact L2 n _ _ _ _ _ hg hP hD hS (lv_sub hl [1, 2, 0] rfl)
theorem zv_X9_those : zV yX9_those RX9 cX9_those 4 (some .int) 1 := ⟨q_975, qp_29, q_8, q_976, by decide +kernel⟩
set_option maxHeartbeats 4000000 in
set_option maxRecDepth 100000 in
theorem c_X9_those (l : Launch) (G : ZG) (o0 : Nat) (d0 : Nat → Nat) (x1 : Int32) (S0 : ZS) (Q : Int32 → Prop) (hg : g_X9_those x1 S0 Q) : Ki l G yX9_those cX9_those 4 .int rm_X9_those [.ref o0, .int x1] (wX9 G o0 d0 S0) (fun _ : Unit => wX9 G o0 d0 S0) (fun r _ => Q r ) := by
  refine Ki.of (by decide) (Nat.le_of_ble_eq_true rfl) ?_
  intro p e s m args below meth c A QQ ls Cx hret hl hP hD hS
  obtain ⟨hx, hb, hml, hown, hT, hK, hA⟩ := id Cx
  have hl : lv_has ls 4 [(0, .ref o0), (1, .int x1)] := hl
  have L4 : ∀ (n : Nat) (x2 : Int32) (x3 : Int32) (H : Heap) (locs : List Loc) (ls : Array Slot), fx (F_X9_those_4 x1 S0 Q) n (x2, x3) → va_P G.1 classes (wX9 G o0 d0 S0) H → va_D A (wX9 G o0 d0 S0) → va_S A s.heap H locs → lv_has ls 4 [(0, .ref o0), (1, .int x1), (2, .int x2), (3, .int x3)] → W p l e rm_X9_those s m args below meth c H locs 0 0 QQ (F0 m 4 ls []) := by
    intro n
    induction n with
    | zero => intro x2 x3 H locs ls hg; exact hg.elim
    | succ n ih =>
      have hX4 := ih
      intro x2 x3 H locs ls hg hP hD hS hl
      refine lv_iload_n hx hb dX9_those_4 rfl (lv_at hl 3 rfl) ?_
      refine lv_aload_n hx hb dX9_those_5 rfl (lv_at hl 0 rfl) ?_
      refine va_get (D := G.1) (ci := 7) (v := .int (S0 2 0)) (C := RX9) (T := TX9) (N := 49) hx hb hT iX9 hown hK hP 0 rfl rfl 2 (by decide) (hT _ q_674) (fun _ h9 => h9) rfl dX9_those_6 ?_
      refine lv_icmp_ge (tgt := 36) hx hb dX9_those_9 (by decide) (fun c_1 => ?_) (fun c_1 => ?_)
      · have hg := hg.1 c_1
        refine lv_iload_n hx hb dX9_those_36 rfl (lv_at hl 2 rfl) ?_
        exact hret _ _ _ () _ _ hg rfl hP hD hS dX9_those_37
      · have hg := hg.2 c_1
        refine lv_iload_n hx hb dX9_those_12 rfl (lv_at hl 2 rfl) ?_
        refine lv_aload_n hx hb dX9_those_13 rfl (lv_at hl 0 rfl) ?_
        refine va_get (D := G.1) (ci := 7) (v := .ref (d0 40)) (C := RX9) (T := TX9) (N := 49) hx hb hT iX9 hown hK hP 0 rfl rfl 40 (by decide) (hT _ q_712) (fun _ h9 => h9) rfl dX9_those_14 ?_
        refine lv_iload_n hx hb dX9_those_17 rfl (lv_at hl 3 rfl) ?_
        refine va_iald hx hb hK hP 31 0 rfl rfl hg.1 dX9_those_18 ?_
        have hg := hg.2
        refine lv_iload_n hx hb dX9_those_19 rfl (lv_at hl 1 rfl) ?_
        refine lv_icmp_ne (tgt := 27) hx hb dX9_those_20 (by decide) (fun c_2 => ?_) (fun c_2 => ?_)
        · have hg := hg.2 c_2
          refine lv_iconst (v := 0) hx hb dX9_those_27 (by decide) ?_
          refine lv_iadd hx hb dX9_those_28 ?_
          refine lv_topi (fun x2_3 ex2_3 => ?_)
          have hg := hg x2_3 ex2_3
          refine lv_istore_n (lv' := [(2, .int x2_3), (0, .ref o0), (1, .int x1), (3, .int x3)]) hx hb dX9_those_29 rfl hl (by decide) rfl (fun ls hl => ?_)
          obtain ⟨x3_4, ex3_4⟩ : ∃ y : Int32, y = x3 + 1 := ⟨_, rfl⟩
          have hg := hg x3_4 ex3_4
          refine lv_iinc (v := x3_4) (lv' := [(3, .int x3_4), (2, .int x2_3), (0, .ref o0), (1, .int x1)]) hx hb dX9_those_30 hl (k := 3) rfl (by rw [ex3_4]; rfl) (by decide) rfl (fun ls hl => ?_)
          refine lv_goto (tgt := 4) hx hb dX9_those_33 (by decide) ?_
          exact hX4 _ _ _ _ _ hg hP hD hS (lv_sub hl [2, 3, 1, 0] rfl)
        · have hg := hg.1 c_2
          refine lv_iconst (v := 1) hx hb dX9_those_23 (by decide) ?_
          refine lv_goto (tgt := 28) hx hb dX9_those_24 (by decide) ?_
          refine lv_iadd hx hb dX9_those_28 ?_
          refine lv_topi (fun x2_5 ex2_5 => ?_)
          have hg := hg x2_5 ex2_5
          refine lv_istore_n (lv' := [(2, .int x2_5), (0, .ref o0), (1, .int x1), (3, .int x3)]) hx hb dX9_those_29 rfl hl (by decide) rfl (fun ls hl => ?_)
          obtain ⟨x3_6, ex3_6⟩ : ∃ y : Int32, y = x3 + 1 := ⟨_, rfl⟩
          have hg := hg x3_6 ex3_6
          refine lv_iinc (v := x3_6) (lv' := [(3, .int x3_6), (2, .int x2_5), (0, .ref o0), (1, .int x1)]) hx hb dX9_those_30 hl (k := 3) rfl (by rw [ex3_6]; rfl) (by decide) rfl (fun ls hl => ?_)
          refine lv_goto (tgt := 4) hx hb dX9_those_33 (by decide) ?_
          exact hX4 _ _ _ _ _ hg hP hD hS (lv_sub hl [2, 3, 1, 0] rfl)
  refine lv_iconst (v := 0) hx hb dX9_those_0 (by decide) ?_
  refine lv_istore_n (lv' := [(2, .int 0), (0, .ref o0), (1, .int x1)]) hx hb dX9_those_1 rfl hl (by decide) rfl (fun ls hl => ?_)
  refine lv_iconst (v := 0) hx hb dX9_those_2 (by decide) ?_
  refine lv_istore_n (lv' := [(3, .int 0), (2, .int 0), (0, .ref o0), (1, .int x1)]) hx hb dX9_those_3 rfl hl (by decide) rfl (fun ls hl => ?_)
  obtain ⟨n, hg⟩ := hg
  exact L4 n _ _ _ _ _ hg hP hD hS (lv_sub hl [2, 3, 1, 0] rfl)
theorem zv_X9_liveBlocks : zV yX9_liveBlocks RX9 cX9_liveBlocks 3 (some .int) 0 := ⟨q_995, qp_30, q_8, q_996, by decide +kernel⟩
set_option maxHeartbeats 4000000 in
set_option maxRecDepth 100000 in
theorem c_X9_liveBlocks (l : Launch) (G : ZG) (o0 : Nat) (d0 : Nat → Nat) (S0 : ZS) (Q : Int32 → Prop) (hg : g_X9_liveBlocks S0 Q) : Ki l G yX9_liveBlocks cX9_liveBlocks 3 .int rm_X9_liveBlocks [.ref o0] (wX9 G o0 d0 S0) (fun _ : Unit => wX9 G o0 d0 S0) (fun r _ => Q r ) := by
  refine Ki.of (by decide) (Nat.le_of_ble_eq_true rfl) ?_
  intro p e s m args below meth c A QQ ls Cx hret hl hP hD hS
  obtain ⟨hx, hb, hml, hown, hT, hK, hA⟩ := id Cx
  have hl : lv_has ls 3 [(0, .ref o0)] := hl
  have L4 : ∀ (n : Nat) (x1 : Int32) (x2 : Int32) (H : Heap) (locs : List Loc) (ls : Array Slot), fx (F_X9_liveBlocks_4 S0 Q) n (x1, x2) → va_P G.1 classes (wX9 G o0 d0 S0) H → va_D A (wX9 G o0 d0 S0) → va_S A s.heap H locs → lv_has ls 3 [(0, .ref o0), (1, .int x1), (2, .int x2)] → W p l e rm_X9_liveBlocks s m args below meth c H locs 0 0 QQ (F0 m 4 ls []) := by
    intro n
    induction n with
    | zero => intro x1 x2 H locs ls hg; exact hg.elim
    | succ n ih =>
      have hX4 := ih
      intro x1 x2 H locs ls hg hP hD hS hl
      refine lv_iload_n hx hb dX9_liveBlocks_4 rfl (lv_at hl 2 rfl) ?_
      refine lv_aload_n hx hb dX9_liveBlocks_5 rfl (lv_at hl 0 rfl) ?_
      refine va_get (D := G.1) (ci := 7) (v := .int (S0 3 0)) (C := RX9) (T := TX9) (N := 49) hx hb hT iX9 hown hK hP 0 rfl rfl 3 (by decide) (hT _ q_675) (fun _ h9 => h9) rfl dX9_liveBlocks_6 ?_
      refine lv_icmp_ge (tgt := 35) hx hb dX9_liveBlocks_9 (by decide) (fun c_1 => ?_) (fun c_1 => ?_)
      · have hg := hg.1 c_1
        refine lv_iload_n hx hb dX9_liveBlocks_35 rfl (lv_at hl 1 rfl) ?_
        exact hret _ _ _ () _ _ hg rfl hP hD hS dX9_liveBlocks_36
      · have hg := hg.2 c_1
        refine lv_iload_n hx hb dX9_liveBlocks_12 rfl (lv_at hl 1 rfl) ?_
        refine lv_aload_n hx hb dX9_liveBlocks_13 rfl (lv_at hl 0 rfl) ?_
        refine va_get (D := G.1) (ci := 7) (v := .ref (d0 42)) (C := RX9) (T := TX9) (N := 49) hx hb hT iX9 hown hK hP 0 rfl rfl 42 (by decide) (hT _ q_714) (fun _ h9 => h9) rfl dX9_liveBlocks_14 ?_
        refine lv_iload_n hx hb dX9_liveBlocks_17 rfl (lv_at hl 2 rfl) ?_
        refine va_zald hx hb hK hP 33 1 rfl rfl hg.1 dX9_liveBlocks_18 ?_
        have hg := hg.2
        refine lv_if_eq (tgt := 26) hx hb dX9_liveBlocks_19 (by decide) (fun c_2 => ?_) (fun c_2 => ?_)
        · have hg := hg.1 c_2
          refine lv_iconst (v := 0) hx hb dX9_liveBlocks_26 (by decide) ?_
          refine lv_iadd hx hb dX9_liveBlocks_27 ?_
          refine lv_topi (fun x1_3 ex1_3 => ?_)
          have hg := hg x1_3 ex1_3
          refine lv_istore_n (lv' := [(1, .int x1_3), (0, .ref o0), (2, .int x2)]) hx hb dX9_liveBlocks_28 rfl hl (by decide) rfl (fun ls hl => ?_)
          obtain ⟨x2_4, ex2_4⟩ : ∃ y : Int32, y = x2 + 1 := ⟨_, rfl⟩
          have hg := hg x2_4 ex2_4
          refine lv_iinc (v := x2_4) (lv' := [(2, .int x2_4), (1, .int x1_3), (0, .ref o0)]) hx hb dX9_liveBlocks_29 hl (k := 2) rfl (by rw [ex2_4]; rfl) (by decide) rfl (fun ls hl => ?_)
          refine lv_goto (tgt := 4) hx hb dX9_liveBlocks_32 (by decide) ?_
          exact hX4 _ _ _ _ _ hg hP hD hS (lv_sub hl [2, 1, 0] rfl)
        · have hg := hg.2 c_2
          refine lv_iconst (v := 1) hx hb dX9_liveBlocks_22 (by decide) ?_
          refine lv_goto (tgt := 27) hx hb dX9_liveBlocks_23 (by decide) ?_
          refine lv_iadd hx hb dX9_liveBlocks_27 ?_
          refine lv_topi (fun x1_5 ex1_5 => ?_)
          have hg := hg x1_5 ex1_5
          refine lv_istore_n (lv' := [(1, .int x1_5), (0, .ref o0), (2, .int x2)]) hx hb dX9_liveBlocks_28 rfl hl (by decide) rfl (fun ls hl => ?_)
          obtain ⟨x2_6, ex2_6⟩ : ∃ y : Int32, y = x2 + 1 := ⟨_, rfl⟩
          have hg := hg x2_6 ex2_6
          refine lv_iinc (v := x2_6) (lv' := [(2, .int x2_6), (1, .int x1_5), (0, .ref o0)]) hx hb dX9_liveBlocks_29 hl (k := 2) rfl (by rw [ex2_6]; rfl) (by decide) rfl (fun ls hl => ?_)
          refine lv_goto (tgt := 4) hx hb dX9_liveBlocks_32 (by decide) ?_
          exact hX4 _ _ _ _ _ hg hP hD hS (lv_sub hl [2, 1, 0] rfl)
  refine lv_iconst (v := 0) hx hb dX9_liveBlocks_0 (by decide) ?_
  refine lv_istore_n (lv' := [(1, .int 0), (0, .ref o0)]) hx hb dX9_liveBlocks_1 rfl hl (by decide) rfl (fun ls hl => ?_)
  refine lv_iconst (v := 0) hx hb dX9_liveBlocks_2 (by decide) ?_
  refine lv_istore_n (lv' := [(2, .int 0), (1, .int 0), (0, .ref o0)]) hx hb dX9_liveBlocks_3 rfl hl (by decide) rfl (fun ls hl => ?_)
  obtain ⟨n, hg⟩ := hg
  exact L4 n _ _ _ _ _ hg hP hD hS (lv_sub hl [2, 1, 0] rfl)
theorem zv_X9_tells : zV yX9_tells RX9 cX9_tells 3 (some .int) 2 := ⟨q_951, qp_25, q_8, q_952, by decide +kernel⟩
set_option maxHeartbeats 4000000 in
set_option maxRecDepth 100000 in
theorem c_X9_tells (l : Launch) (G : ZG) (o0 : Nat) (d0 : Nat → Nat) (x1 : Int32) (x2 : Int32) (S0 : ZS) (Q : Int32 → ZS → Prop) (hg : g_X9_tells x1 x2 S0 Q) : Ki l G yX9_tells cX9_tells 3 .int rm_X9_tells [.ref o0, .int x1, .int x2] (wX9 G o0 d0 S0) (fun u : ZS => wX9 G o0 d0 u) (fun r u => Q r u) := by
  refine Ki.of (by decide) (Nat.le_of_ble_eq_true rfl) ?_
  intro p e s m args below meth c A QQ ls Cx hret hl hP hD hS
  obtain ⟨hx, hb, hml, hown, hT, hK, hA⟩ := id Cx
  have hl : lv_has ls 3 [(0, .ref o0), (1, .int x1), (2, .int x2)] := hl
  refine lv_aload_n hx hb dX9_tells_0 rfl (lv_at hl 0 rfl) ?_
  refine lv_iload_n hx hb dX9_tells_1 rfl (lv_at hl 1 rfl) ?_
  refine z_put (D := G.1) (ci := 7) (v := .int x1) (ty := .int) (C := RX9) (T := TX9) (N := 49) hx hb hT iX9 tyX9 tyX9_ok nmX9 hown hK hP hD hS 0 rfl rfl 21 (by decide) (hT _ q_693) (fun _ h9 => h9) rfl (by decide +kernel) rfl rfl (Nat.le_of_ble_eq_true rfl) dX9_tells_2 (zst S0 21 0 x1) (fun S : ZS => wX9 G o0 d0 S) rfl (fun S0_1 H locs eS0_1 hP hD hS => ?_)
  have hg := hg S0_1 eS0_1
  refine lv_iload_n hx hb dX9_tells_5 rfl (lv_at hl 2 rfl) ?_
  exact hret _ _ _ (S0_1) _ _ hg rfl hP hD hS dX9_tells_6
theorem zv_X9_name : zV yX9_name RX9 cX9_name 4 (some .int) 2 := ⟨q_910, q_911, q_8, q_912, by decide +kernel⟩
set_option maxHeartbeats 4000000 in
set_option maxRecDepth 100000 in
theorem c_X9_name (l : Launch) (G : ZG) (o0 : Nat) (d0 : Nat → Nat) (x1 : Int32) (x2 : Int32) (S0 : ZS) (Q : Int32 → ZS → Prop) (hg : g_X9_name x1 x2 S0 Q) : Ki l G yX9_name cX9_name 4 .int rm_X9_name [.ref o0, .int x1, .int x2] (wX9 G o0 d0 S0) (fun u : ZS => wX9 G o0 d0 u) (fun r u => Q r u) := by
  refine Ki.of (by decide) (Nat.le_of_ble_eq_true rfl) ?_
  intro p e s m args below meth c A QQ ls Cx hret hl hP hD hS
  obtain ⟨hx, hb, hml, hown, hT, hK, hA⟩ := id Cx
  have hl : lv_has ls 4 [(0, .ref o0), (1, .int x1), (2, .int x2)] := hl
  have J163 : ∀ (t1 : Int32) (S0 : ZS) (H : Heap) (locs : List Loc) (ls : Array Slot), G_X9_name_163 x1 x2 Q t1 S0 → va_P G.1 classes (wX9 G o0 d0 S0) H → va_D A (wX9 G o0 d0 S0) → va_S A s.heap H locs → lv_has ls 4 [(0, .ref o0), (1, .int x1)] → W p l e rm_X9_name s m args below meth c H locs 0 0 QQ (F0 m 163 ls [.int t1, .ref o0]) := by
    intro t1 S0 H locs ls hg hP hD hS hl
    refine zcVv (As := [.int t1]) (rest := []) (C := RX9) Cx (c_X9_finds l G o0 d0 t1 S0 _ hg) zv_X9_finds q_917 ⟨⟨rfl, rfl⟩, Nat.le_of_ble_eq_true rfl, Nat.le_of_ble_eq_true rfl⟩ (zJ.all hP hD hS hA) hS 7 rfl rfl rfl rfl hl.1 rfl (Nat.le_of_ble_eq_true rfl) dX9_name_163 (fun S0_1 H locs hg hP hD hS => ?_)
    have hP : va_P G.1 classes (wX9 G o0 d0 S0_1) H := hP
    have hD : va_D A (wX9 G o0 d0 S0_1) := hD
    refine lv_aload_n hx hb dX9_name_166 rfl (lv_at hl 0 rfl) ?_
    refine va_get (D := G.1) (ci := 7) (v := .ref (d0 40)) (C := RX9) (T := TX9) (N := 49) hx hb hT iX9 hown hK hP 0 rfl rfl 40 (by decide) (hT _ q_712) (fun _ h9 => h9) rfl dX9_name_167 ?_
    refine lv_iload_n hx hb dX9_name_170 rfl (lv_at hl 1 rfl) ?_
    refine va_iald hx hb hK hP 31 0 rfl rfl hg.1 dX9_name_171 ?_
    have hg := hg.2
    exact hret _ _ _ (S0_1) _ _ hg rfl hP hD hS dX9_name_172
  have J35 : ∀ (t0 : Int32) (S0 : ZS) (H : Heap) (locs : List Loc) (ls : Array Slot), G_X9_name_35 x1 x2 Q t0 S0 → va_P G.1 classes (wX9 G o0 d0 S0) H → va_D A (wX9 G o0 d0 S0) → va_S A s.heap H locs → lv_has ls 4 [(0, .ref o0), (1, .int x1), (2, .int x2)] → W p l e rm_X9_name s m args below meth c H locs 0 0 QQ (F0 m 35 ls [.int t0]) := by
    intro t0 S0 H locs ls hg hP hD hS hl
    refine lv_istore_n (lv' := [(3, .int t0), (0, .ref o0), (1, .int x1), (2, .int x2)]) hx hb dX9_name_35 rfl hl (by decide) rfl (fun ls hl => ?_)
    refine lv_iload_n hx hb dX9_name_36 rfl (lv_at hl 3 rfl) ?_
    by_cases k0 : x2 = 0
    · have hg := hg.1 k0
      refine lv_tableIn (tgt := 76) hx hb dX9_name_37 (by rw [k0]; decide) (by rw [k0]; decide) (by rw [k0]; rfl) (by decide) ?_
      refine lv_aload_n hx hb dX9_name_76 rfl (lv_at hl 1 rfl) ?_
      refine va_get (D := G.1) (ci := 7) (v := .ref (d0 5)) (C := RX9) (T := TX9) (N := 49) hx hb hT iX9 hown hK hP 0 rfl rfl 5 (by decide) (hT _ q_677) (fun _ h9 => h9) rfl dX9_name_77 ?_
      refine lv_iload_n hx hb dX9_name_80 rfl (lv_at hl 2 rfl) ?_
      refine va_iald hx hb hK hP 3 0 rfl rfl hg.1 dX9_name_81 ?_
      have hg := hg.2
      exact hret _ _ _ (S0) _ _ hg rfl hP hD hS dX9_name_82
    by_cases k1 : x2 = 1
    · have hg := hg.2.1 k1
      refine lv_tableIn (tgt := 83) hx hb dX9_name_37 (by rw [k1]; decide) (by rw [k1]; decide) (by rw [k1]; rfl) (by decide) ?_
      refine lv_aload_n hx hb dX9_name_83 rfl (lv_at hl 1 rfl) ?_
      refine va_get (D := G.1) (ci := 7) (v := .ref (d0 4)) (C := RX9) (T := TX9) (N := 49) hx hb hT iX9 hown hK hP 0 rfl rfl 4 (by decide) (hT _ q_676) (fun _ h9 => h9) rfl dX9_name_84 ?_
      refine lv_iload_n hx hb dX9_name_87 rfl (lv_at hl 2 rfl) ?_
      refine va_iald hx hb hK hP 2 0 rfl rfl hg.1 dX9_name_88 ?_
      have hg := hg.2
      exact hret _ _ _ (S0) _ _ hg rfl hP hD hS dX9_name_89
    by_cases k2 : x2 = 2
    · have hg := hg.2.2.1 k2
      refine lv_tableIn (tgt := 90) hx hb dX9_name_37 (by rw [k2]; decide) (by rw [k2]; decide) (by rw [k2]; rfl) (by decide) ?_
      refine lv_iload_n hx hb dX9_name_90 rfl (lv_at hl 0 rfl) ?_
      refine lv_if_eq (tgt := 103) hx hb dX9_name_91 (by decide) (fun c_1 => ?_) (fun c_1 => ?_)
      · have hg := hg.1 c_1
        refine lv_aload_n hx hb dX9_name_103 rfl (lv_at hl 1 rfl) ?_
        refine va_get (D := G.1) (ci := 7) (v := .ref (d0 9)) (C := RX9) (T := TX9) (N := 49) hx hb hT iX9 hown hK hP 0 rfl rfl 9 (by decide) (hT _ q_681) (fun _ h9 => h9) rfl dX9_name_104 ?_
        refine lv_iload_n hx hb dX9_name_107 rfl (lv_at hl 2 rfl) ?_
        refine va_iald hx hb hK hP 7 0 rfl rfl hg.1 dX9_name_108 ?_
        have hg := hg.2
        exact hret _ _ _ (S0) _ _ hg rfl hP hD hS dX9_name_109
      · have hg := hg.2 c_1
        refine lv_aload_n hx hb dX9_name_94 rfl (lv_at hl 1 rfl) ?_
        refine va_get (D := G.1) (ci := 7) (v := .ref (d0 6)) (C := RX9) (T := TX9) (N := 49) hx hb hT iX9 hown hK hP 0 rfl rfl 6 (by decide) (hT _ q_678) (fun _ h9 => h9) rfl dX9_name_95 ?_
        refine lv_iload_n hx hb dX9_name_98 rfl (lv_at hl 2 rfl) ?_
        refine va_iald hx hb hK hP 4 0 rfl rfl hg.1 dX9_name_99 ?_
        have hg := hg.2
        refine lv_goto (tgt := 109) hx hb dX9_name_100 (by decide) ?_
        exact hret _ _ _ (S0) _ _ hg rfl hP hD hS dX9_name_109
    by_cases k3 : x2 = 3
    · have hg := hg.2.2.2.1 k3
      refine lv_tableIn (tgt := 110) hx hb dX9_name_37 (by rw [k3]; decide) (by rw [k3]; decide) (by rw [k3]; rfl) (by decide) ?_
      refine lv_iload_n hx hb dX9_name_110 rfl (lv_at hl 0 rfl) ?_
      refine lv_if_eq (tgt := 123) hx hb dX9_name_111 (by decide) (fun c_2 => ?_) (fun c_2 => ?_)
      · have hg := hg.1 c_2
        refine lv_bipush (v := (-9)) hx hb dX9_name_123 (by decide) ?_
        exact hret _ _ _ (S0) _ _ hg rfl hP hD hS dX9_name_125
      · have hg := hg.2 c_2
        refine lv_aload_n hx hb dX9_name_114 rfl (lv_at hl 1 rfl) ?_
        refine va_get (D := G.1) (ci := 7) (v := .ref (d0 7)) (C := RX9) (T := TX9) (N := 49) hx hb hT iX9 hown hK hP 0 rfl rfl 7 (by decide) (hT _ q_679) (fun _ h9 => h9) rfl dX9_name_115 ?_
        refine lv_iload_n hx hb dX9_name_118 rfl (lv_at hl 2 rfl) ?_
        refine va_iald hx hb hK hP 5 0 rfl rfl hg.1 dX9_name_119 ?_
        have hg := hg.2
        refine lv_goto (tgt := 125) hx hb dX9_name_120 (by decide) ?_
        exact hret _ _ _ (S0) _ _ hg rfl hP hD hS dX9_name_125
    by_cases k4 : x2 = 4
    · have hg := hg.2.2.2.2.1 k4
      refine lv_tableIn (tgt := 126) hx hb dX9_name_37 (by rw [k4]; decide) (by rw [k4]; decide) (by rw [k4]; rfl) (by decide) ?_
      refine lv_iload_n hx hb dX9_name_126 rfl (lv_at hl 0 rfl) ?_
      refine lv_if_eq (tgt := 139) hx hb dX9_name_127 (by decide) (fun c_3 => ?_) (fun c_3 => ?_)
      · have hg := hg.1 c_3
        refine lv_bipush (v := (-9)) hx hb dX9_name_139 (by decide) ?_
        exact hret _ _ _ (S0) _ _ hg rfl hP hD hS dX9_name_141
      · have hg := hg.2 c_3
        refine lv_aload_n hx hb dX9_name_130 rfl (lv_at hl 1 rfl) ?_
        refine va_get (D := G.1) (ci := 7) (v := .ref (d0 8)) (C := RX9) (T := TX9) (N := 49) hx hb hT iX9 hown hK hP 0 rfl rfl 8 (by decide) (hT _ q_680) (fun _ h9 => h9) rfl dX9_name_131 ?_
        refine lv_iload_n hx hb dX9_name_134 rfl (lv_at hl 2 rfl) ?_
        refine va_iald hx hb hK hP 6 0 rfl rfl hg.1 dX9_name_135 ?_
        have hg := hg.2
        refine lv_goto (tgt := 141) hx hb dX9_name_136 (by decide) ?_
        exact hret _ _ _ (S0) _ _ hg rfl hP hD hS dX9_name_141
    by_cases k5 : x2 = 5
    · have hg := hg.2.2.2.2.2.1 k5
      refine lv_tableIn (tgt := 142) hx hb dX9_name_37 (by rw [k5]; decide) (by rw [k5]; decide) (by rw [k5]; rfl) (by decide) ?_
      refine lv_aload_n hx hb dX9_name_142 rfl (lv_at hl 1 rfl) ?_
      refine va_get (D := G.1) (ci := 7) (v := .ref (d0 16)) (C := RX9) (T := TX9) (N := 49) hx hb hT iX9 hown hK hP 0 rfl rfl 16 (by decide) (hT _ q_688) (fun _ h9 => h9) rfl dX9_name_143 ?_
      refine lv_iconst (v := 0) hx hb dX9_name_146 (by decide) ?_
      refine lv_iload_n hx hb dX9_name_147 rfl (lv_at hl 2 rfl) ?_
      refine lv_iadd hx hb dX9_name_148 ?_
      refine va_iald hx hb hK hP 14 0 rfl rfl hg.1 dX9_name_149 ?_
      have hg := hg.2
      exact hret _ _ _ (S0) _ _ hg rfl hP hD hS dX9_name_150
    have hg := hg.2.2.2.2.2.2 k0 k1 k2 k3 k4 k5
    have nk0 := lv_neT k0 (a := 0) (by decide)
    have nk1 := lv_neT k1 (a := 1) (by decide)
    have nk2 := lv_neT k2 (a := 2) (by decide)
    have nk3 := lv_neT k3 (a := 3) (by decide)
    have nk4 := lv_neT k4 (a := 4) (by decide)
    have nk5 := lv_neT k5 (a := 5) (by decide)
    refine lv_tableOut (tgt := 151) hx hb dX9_name_37 (by omega) (by decide) ?_
    refine lv_aload_n hx hb dX9_name_151 rfl (lv_at hl 1 rfl) ?_
    refine lv_iload_n hx hb dX9_name_152 rfl (lv_at hl 3 rfl) ?_
    refine lv_bipush (v := 7) hx hb dX9_name_153 (by decide) ?_
    refine lv_icmp_ne (tgt := 162) hx hb dX9_name_155 (by decide) (fun c_4 => ?_) (fun c_4 => ?_)
    · have hg := hg.2 c_4
      refine lv_iconst (v := 0) hx hb dX9_name_162 (by decide) ?_
      exact J163 _ _ _ _ _ hg hP hD hS (lv_sub hl [1, 2] rfl)
    · have hg := hg.1 c_4
      refine lv_iconst (v := 1) hx hb dX9_name_158 (by decide) ?_
      refine lv_goto (tgt := 163) hx hb dX9_name_159 (by decide) ?_
      exact J163 _ _ _ _ _ hg hP hD hS (lv_sub hl [1, 2] rfl)
  refine lv_aload_n hx hb dX9_name_0 rfl (lv_at hl 0 rfl) ?_
  refine lv_iload_n hx hb dX9_name_1 rfl (lv_at hl 1 rfl) ?_
  refine zcVi (As := [.int x1]) (rest := []) (C := RX9) Cx (c_X9_isName l G o0 d0 x1 S0 _ hg) zv_X9_isName q_913 ⟨⟨rfl, rfl⟩, Nat.le_of_ble_eq_true rfl, Nat.le_of_ble_eq_true rfl⟩ (zJ.all hP hD hS hA) hS 7 rfl rfl rfl rfl hl.1 rfl (Nat.le_of_ble_eq_true rfl) dX9_name_2 (fun r_1 _u H locs hg hP hD hS => ?_)
  refine lv_if_eq (tgt := 18) hx hb dX9_name_5 (by decide) (fun c_2 => ?_) (fun c_2 => ?_)
  · have hg := hg.1 c_2
    refine lv_iconst (v := (-1)) hx hb dX9_name_18 (by decide) ?_
    exact hret _ _ _ (S0) _ _ hg rfl hP hD hS dX9_name_19
  · have hg := hg.2 c_2
    refine lv_iload_n hx hb dX9_name_8 rfl (lv_at hl 2 rfl) ?_
    refine lv_iconst (v := 0) hx hb dX9_name_9 (by decide) ?_
    refine lv_bipush (v := 7) hx hb dX9_name_10 (by decide) ?_
    refine zcSi (As := [.int x2, .int 0, .int 7]) (rest := []) Cx (c_X9_in l G x2 0 7 _ hg) zv_X9_in q_825 ⟨⟨rfl, rfl⟩, Nat.le_of_ble_eq_true rfl, Nat.le_of_ble_eq_true rfl⟩ (zJ.none (S := Unit) hP hD hS hA) hS rfl hl.1 rfl (Nat.le_of_ble_eq_true rfl) dX9_name_12 (fun r_3 _u H locs hg hP hD hS => ?_)
    refine lv_if_ne (tgt := 20) hx hb dX9_name_15 (by decide) (fun c_4 => ?_) (fun c_4 => ?_)
    · have hg := hg.2 c_4
      refine lv_aload_n hx hb dX9_name_20 rfl (lv_at hl 0 rfl) ?_
      refine va_get (D := G.1) (ci := 7) (v := .ref (d0 4)) (C := RX9) (T := TX9) (N := 49) hx hb hT iX9 hown hK hP 0 rfl rfl 4 (by decide) (hT _ q_676) (fun _ h9 => h9) rfl dX9_name_21 ?_
      refine lv_iload_n hx hb dX9_name_24 rfl (lv_at hl 1 rfl) ?_
      refine va_iald hx hb hK hP 2 0 rfl rfl hg.1 dX9_name_25 ?_
      have hg := hg.2
      refine lv_iconst (v := 2) hx hb dX9_name_26 (by decide) ?_
      refine lv_icmp_ne (tgt := 34) hx hb dX9_name_27 (by decide) (fun c_5 => ?_) (fun c_5 => ?_)
      · have hg := hg.2 c_5
        refine lv_iconst (v := 0) hx hb dX9_name_34 (by decide) ?_
        exact J35 _ _ _ _ _ hg hP hD hS (lv_sub hl [0, 1, 2] rfl)
      · have hg := hg.1 c_5
        refine lv_iconst (v := 1) hx hb dX9_name_30 (by decide) ?_
        refine lv_goto (tgt := 35) hx hb dX9_name_31 (by decide) ?_
        exact J35 _ _ _ _ _ hg hP hD hS (lv_sub hl [0, 1, 2] rfl)
    · have hg := hg.1 c_4
      refine lv_iconst (v := (-1)) hx hb dX9_name_18 (by decide) ?_
      exact hret _ _ _ (S0) _ _ hg rfl hP hD hS dX9_name_19
theorem zv_X9_found : zV yX9_found RX9 cX9_found 2 (some .int) 1 := ⟨q_946, q_947, q_8, q_948, by decide +kernel⟩
set_option maxHeartbeats 4000000 in
set_option maxRecDepth 100000 in
theorem c_X9_found (l : Launch) (G : ZG) (o0 : Nat) (d0 : Nat → Nat) (x1 : Int32) (S0 : ZS) (Q : Int32 → ZS → Prop) (hg : g_X9_found x1 S0 Q) : Ki l G yX9_found cX9_found 2 .int rm_X9_found [.ref o0, .int x1] (wX9 G o0 d0 S0) (fun u : ZS => wX9 G o0 d0 u) (fun r u => Q r u) := by
  refine Ki.of (by decide) (Nat.le_of_ble_eq_true rfl) ?_
  intro p e s m args below meth c A QQ ls Cx hret hl hP hD hS
  obtain ⟨hx, hb, hml, hown, hT, hK, hA⟩ := id Cx
  have hl : lv_has ls 2 [(0, .ref o0), (1, .int x1)] := hl
  refine lv_aload_n hx hb dX9_found_0 rfl (lv_at hl 0 rfl) ?_
  refine lv_iload_n hx hb dX9_found_1 rfl (lv_at hl 1 rfl) ?_
  refine zcVi (As := [.int x1]) (rest := []) (C := RX9) Cx (c_X9_isName l G o0 d0 x1 S0 _ hg) zv_X9_isName q_913 ⟨⟨rfl, rfl⟩, Nat.le_of_ble_eq_true rfl, Nat.le_of_ble_eq_true rfl⟩ (zJ.all hP hD hS hA) hS 7 rfl rfl rfl rfl hl.1 rfl (Nat.le_of_ble_eq_true rfl) dX9_found_2 (fun r_1 _u H locs hg hP hD hS => ?_)
  refine lv_if_ne (tgt := 10) hx hb dX9_found_5 (by decide) (fun c_2 => ?_) (fun c_2 => ?_)
  · have hg := hg.2 c_2
    refine lv_aload_n hx hb dX9_found_10 rfl (lv_at hl 0 rfl) ?_
    refine lv_iconst (v := 0) hx hb dX9_found_11 (by decide) ?_
    refine zcVv (As := [.int 0]) (rest := []) (C := RX9) Cx (c_X9_finds l G o0 d0 0 S0 _ hg) zv_X9_finds q_917 ⟨⟨rfl, rfl⟩, Nat.le_of_ble_eq_true rfl, Nat.le_of_ble_eq_true rfl⟩ (zJ.all hP hD hS hA) hS 7 rfl rfl rfl rfl hl.1 rfl (Nat.le_of_ble_eq_true rfl) dX9_found_12 (fun S0_3 H locs hg hP hD hS => ?_)
    have hP : va_P G.1 classes (wX9 G o0 d0 S0_3) H := hP
    have hD : va_D A (wX9 G o0 d0 S0_3) := hD
    refine lv_aload_n hx hb dX9_found_15 rfl (lv_at hl 0 rfl) ?_
    refine va_get (D := G.1) (ci := 7) (v := .ref (d0 40)) (C := RX9) (T := TX9) (N := 49) hx hb hT iX9 hown hK hP 0 rfl rfl 40 (by decide) (hT _ q_712) (fun _ h9 => h9) rfl dX9_found_16 ?_
    refine lv_iload_n hx hb dX9_found_19 rfl (lv_at hl 1 rfl) ?_
    refine va_iald hx hb hK hP 31 0 rfl rfl hg.1 dX9_found_20 ?_
    have hg := hg.2
    refine lv_iconst (v := 1) hx hb dX9_found_21 (by decide) ?_
    refine lv_icmp_ne (tgt := 39) hx hb dX9_found_22 (by decide) (fun c_4 => ?_) (fun c_4 => ?_)
    · have hg := hg.2 c_4
      refine lv_bipush (v := (-2)) hx hb dX9_found_39 (by decide) ?_
      exact hret _ _ _ (S0_3) _ _ hg rfl hP hD hS dX9_found_41
    · have hg := hg.1 c_4
      refine lv_aload_n hx hb dX9_found_25 rfl (lv_at hl 0 rfl) ?_
      refine lv_aload_n hx hb dX9_found_26 rfl (lv_at hl 0 rfl) ?_
      refine va_get (D := G.1) (ci := 7) (v := .ref (d0 41)) (C := RX9) (T := TX9) (N := 49) hx hb hT iX9 hown hK hP 0 rfl rfl 41 (by decide) (hT _ q_713) (fun _ h9 => h9) rfl dX9_found_27 ?_
      refine lv_iload_n hx hb dX9_found_30 rfl (lv_at hl 1 rfl) ?_
      refine va_iald hx hb hK hP 32 0 rfl rfl hg.1 dX9_found_31 ?_
      have hg := hg.2
      refine lv_iconst (v := 1) hx hb dX9_found_32 (by decide) ?_
      refine zcVi (As := [.int (S0_3 41 x1.toNatClampNeg), .int 1]) (rest := []) (C := RX9) Cx (c_X9_tells l G o0 d0 (S0_3 41 x1.toNatClampNeg) 1 S0_3 _ hg) zv_X9_tells q_949 ⟨⟨rfl, rfl⟩, Nat.le_of_ble_eq_true rfl, Nat.le_of_ble_eq_true rfl⟩ (zJ.all hP hD hS hA) hS 7 rfl rfl rfl rfl hl.1 rfl (Nat.le_of_ble_eq_true rfl) dX9_found_33 (fun r_6 S0_5 H locs hg hP hD hS => ?_)
      have hP : va_P G.1 classes (wX9 G o0 d0 S0_5) H := hP
      have hD : va_D A (wX9 G o0 d0 S0_5) := hD
      refine lv_goto (tgt := 41) hx hb dX9_found_36 (by decide) ?_
      exact hret _ _ _ (S0_5) _ _ hg rfl hP hD hS dX9_found_41
  · have hg := hg.1 c_2
    refine lv_iconst (v := (-1)) hx hb dX9_found_8 (by decide) ?_
    exact hret _ _ _ (S0) _ _ hg rfl hP hD hS dX9_found_9
theorem zv_X9_block : zV yX9_block RX9 cX9_block 3 (some .int) 2 := ⟨q_954, q_955, q_8, q_956, by decide +kernel⟩
set_option maxHeartbeats 4000000 in
set_option maxRecDepth 100000 in
theorem c_X9_block (l : Launch) (G : ZG) (o0 : Nat) (d0 : Nat → Nat) (x1 : Int32) (x2 : Int32) (S0 : ZS) (Q : Int32 → ZS → Prop) (hg : g_X9_block x1 x2 S0 Q) : Ki l G yX9_block cX9_block 3 .int rm_X9_block [.ref o0, .int x1, .int x2] (wX9 G o0 d0 S0) (fun u : ZS => wX9 G o0 d0 u) (fun r u => Q r u) := by
  refine Ki.of (by decide) (Nat.le_of_ble_eq_true rfl) ?_
  intro p e s m args below meth c A QQ ls Cx hret hl hP hD hS
  obtain ⟨hx, hb, hml, hown, hT, hK, hA⟩ := id Cx
  have hl : lv_has ls 3 [(0, .ref o0), (1, .int x1), (2, .int x2)] := hl
  have J133 : ∀ (S0 : ZS) (H : Heap) (locs : List Loc) (ls : Array Slot), G_X9_block_133 x1 x2 Q S0 → va_P G.1 classes (wX9 G o0 d0 S0) H → va_D A (wX9 G o0 d0 S0) → va_S A s.heap H locs → lv_has ls 3 [(0, .ref o0), (1, .int x1), (2, .int x2)] → W p l e rm_X9_block s m args below meth c H locs 0 0 QQ (F0 m 133 ls []) := by
    intro S0 H locs ls hg hP hD hS hl
    refine lv_aload_n hx hb dX9_block_133 rfl (lv_at hl 0 rfl) ?_
    refine lv_iload_n hx hb dX9_block_134 rfl (lv_at hl 1 rfl) ?_
    refine lv_iload_n hx hb dX9_block_135 rfl (lv_at hl 2 rfl) ?_
    refine lv_bipush (v := 6) hx hb dX9_block_136 (by decide) ?_
    refine lv_isub hx hb dX9_block_138 ?_
    refine lv_iconst (v := 0) hx hb dX9_block_139 (by decide) ?_
    refine zcVi (As := [.int x1, .int (x2 - 6), .int 0]) (rest := []) (C := RX9) Cx (c_X9_isEdge l G o0 d0 x1 (x2 - 6) 0 S0 _ hg) zv_X9_isEdge q_941 ⟨⟨rfl, rfl⟩, Nat.le_of_ble_eq_true rfl, Nat.le_of_ble_eq_true rfl⟩ (zJ.all hP hD hS hA) hS 7 rfl rfl rfl rfl hl.1 rfl (Nat.le_of_ble_eq_true rfl) dX9_block_140 (fun r_1 _u H locs hg hP hD hS => ?_)
    refine lv_if_eq (tgt := 150) hx hb dX9_block_143 (by decide) (fun c_2 => ?_) (fun c_2 => ?_)
    · have hg := hg.1 c_2
      refine lv_iconst (v := 0) hx hb dX9_block_150 (by decide) ?_
      exact hret _ _ _ (S0) _ _ hg rfl hP hD hS dX9_block_151
    · have hg := hg.2 c_2
      refine lv_iconst (v := 1) hx hb dX9_block_146 (by decide) ?_
      refine lv_goto (tgt := 151) hx hb dX9_block_147 (by decide) ?_
      exact hret _ _ _ (S0) _ _ hg rfl hP hD hS dX9_block_151
  have J117 : ∀ (S0 : ZS) (H : Heap) (locs : List Loc) (ls : Array Slot), G_X9_block_117 x1 x2 Q S0 → va_P G.1 classes (wX9 G o0 d0 S0) H → va_D A (wX9 G o0 d0 S0) → va_S A s.heap H locs → lv_has ls 3 [(0, .ref o0), (1, .int x1), (2, .int x2)] → W p l e rm_X9_block s m args below meth c H locs 0 0 QQ (F0 m 117 ls []) := by
    intro S0 H locs ls hg hP hD hS hl
    refine lv_aload_n hx hb dX9_block_117 rfl (lv_at hl 0 rfl) ?_
    refine va_get (D := G.1) (ci := 7) (v := .ref (d0 16)) (C := RX9) (T := TX9) (N := 49) hx hb hT iX9 hown hK hP 0 rfl rfl 16 (by decide) (hT _ q_688) (fun _ h9 => h9) rfl dX9_block_118 ?_
    refine lv_bipush (v := 96) hx hb dX9_block_121 (by decide) ?_
    refine lv_iconst (v := 2) hx hb dX9_block_123 (by decide) ?_
    refine lv_iload_n hx hb dX9_block_124 rfl (lv_at hl 1 rfl) ?_
    refine lv_imul hx hb dX9_block_125 ?_
    refine lv_iadd hx hb dX9_block_126 ?_
    refine lv_iload_n hx hb dX9_block_127 rfl (lv_at hl 2 rfl) ?_
    refine lv_iadd hx hb dX9_block_128 ?_
    refine lv_iconst (v := 4) hx hb dX9_block_129 (by decide) ?_
    refine lv_isub hx hb dX9_block_130 ?_
    refine va_iald hx hb hK hP 14 0 rfl rfl hg.1 dX9_block_131 ?_
    have hg := hg.2
    exact hret _ _ _ (S0) _ _ hg rfl hP hD hS dX9_block_132
  refine lv_aload_n hx hb dX9_block_0 rfl (lv_at hl 0 rfl) ?_
  refine lv_iload_n hx hb dX9_block_1 rfl (lv_at hl 1 rfl) ?_
  refine zcVi (As := [.int x1]) (rest := []) (C := RX9) Cx (c_X9_isBlock l G o0 d0 x1 S0 _ hg) zv_X9_isBlock q_957 ⟨⟨rfl, rfl⟩, Nat.le_of_ble_eq_true rfl, Nat.le_of_ble_eq_true rfl⟩ (zJ.all hP hD hS hA) hS 7 rfl rfl rfl rfl hl.1 rfl (Nat.le_of_ble_eq_true rfl) dX9_block_2 (fun r_1 _u H locs hg hP hD hS => ?_)
  refine lv_if_eq (tgt := 18) hx hb dX9_block_5 (by decide) (fun c_2 => ?_) (fun c_2 => ?_)
  · have hg := hg.1 c_2
    refine lv_iconst (v := (-1)) hx hb dX9_block_18 (by decide) ?_
    exact hret _ _ _ (S0) _ _ hg rfl hP hD hS dX9_block_19
  · have hg := hg.2 c_2
    refine lv_iload_n hx hb dX9_block_8 rfl (lv_at hl 2 rfl) ?_
    refine lv_iconst (v := 0) hx hb dX9_block_9 (by decide) ?_
    refine lv_bipush (v := 8) hx hb dX9_block_10 (by decide) ?_
    refine zcSi (As := [.int x2, .int 0, .int 8]) (rest := []) Cx (c_X9_in l G x2 0 8 _ hg) zv_X9_in q_825 ⟨⟨rfl, rfl⟩, Nat.le_of_ble_eq_true rfl, Nat.le_of_ble_eq_true rfl⟩ (zJ.none (S := Unit) hP hD hS hA) hS rfl hl.1 rfl (Nat.le_of_ble_eq_true rfl) dX9_block_12 (fun r_3 _u H locs hg hP hD hS => ?_)
    refine lv_if_ne (tgt := 20) hx hb dX9_block_15 (by decide) (fun c_4 => ?_) (fun c_4 => ?_)
    · have hg := hg.2 c_4
      refine lv_aload_n hx hb dX9_block_20 rfl (lv_at hl 0 rfl) ?_
      refine lv_iconst (v := 0) hx hb dX9_block_21 (by decide) ?_
      refine zcVv (As := [.int 0]) (rest := []) (C := RX9) Cx (c_X9_finds l G o0 d0 0 S0 _ hg) zv_X9_finds q_917 ⟨⟨rfl, rfl⟩, Nat.le_of_ble_eq_true rfl, Nat.le_of_ble_eq_true rfl⟩ (zJ.all hP hD hS hA) hS 7 rfl rfl rfl rfl hl.1 rfl (Nat.le_of_ble_eq_true rfl) dX9_block_22 (fun S0_5 H locs hg hP hD hS => ?_)
      have hP : va_P G.1 classes (wX9 G o0 d0 S0_5) H := hP
      have hD : va_D A (wX9 G o0 d0 S0_5) := hD
      refine lv_iload_n hx hb dX9_block_25 rfl (lv_at hl 2 rfl) ?_
      by_cases k0 : x2 = 0
      · have hg := hg.1 k0
        refine lv_tableIn (tgt := 72) hx hb dX9_block_26 (by rw [k0]; decide) (by rw [k0]; decide) (by rw [k0]; rfl) (by decide) ?_
        refine lv_aload_n hx hb dX9_block_72 rfl (lv_at hl 0 rfl) ?_
        refine va_get (D := G.1) (ci := 7) (v := .ref (d0 42)) (C := RX9) (T := TX9) (N := 49) hx hb hT iX9 hown hK hP 0 rfl rfl 42 (by decide) (hT _ q_714) (fun _ h9 => h9) rfl dX9_block_73 ?_
        refine lv_iload_n hx hb dX9_block_76 rfl (lv_at hl 1 rfl) ?_
        refine va_zald hx hb hK hP 33 1 rfl rfl hg.1 dX9_block_77 ?_
        have hg := hg.2
        refine lv_if_eq (tgt := 85) hx hb dX9_block_78 (by decide) (fun c_6 => ?_) (fun c_6 => ?_)
        · have hg := hg.1 c_6
          refine lv_iconst (v := 0) hx hb dX9_block_85 (by decide) ?_
          exact hret _ _ _ (S0_5) _ _ hg rfl hP hD hS dX9_block_86
        · have hg := hg.2 c_6
          refine lv_iconst (v := 1) hx hb dX9_block_81 (by decide) ?_
          refine lv_goto (tgt := 86) hx hb dX9_block_82 (by decide) ?_
          exact hret _ _ _ (S0_5) _ _ hg rfl hP hD hS dX9_block_86
      by_cases k1 : x2 = 1
      · have hg := hg.2.1 k1
        refine lv_tableIn (tgt := 87) hx hb dX9_block_26 (by rw [k1]; decide) (by rw [k1]; decide) (by rw [k1]; rfl) (by decide) ?_
        refine lv_aload_n hx hb dX9_block_87 rfl (lv_at hl 0 rfl) ?_
        refine va_get (D := G.1) (ci := 7) (v := .ref (d0 12)) (C := RX9) (T := TX9) (N := 49) hx hb hT iX9 hown hK hP 0 rfl rfl 12 (by decide) (hT _ q_684) (fun _ h9 => h9) rfl dX9_block_88 ?_
        refine lv_iload_n hx hb dX9_block_91 rfl (lv_at hl 1 rfl) ?_
        refine lv_iconst (v := 1) hx hb dX9_block_92 (by decide) ?_
        refine lv_iadd hx hb dX9_block_93 ?_
        refine va_iald hx hb hK hP 10 0 rfl rfl hg.1 dX9_block_94 ?_
        have hg := hg.2
        refine lv_aload_n hx hb dX9_block_95 rfl (lv_at hl 0 rfl) ?_
        refine va_get (D := G.1) (ci := 7) (v := .ref (d0 12)) (C := RX9) (T := TX9) (N := 49) hx hb hT iX9 hown hK hP 0 rfl rfl 12 (by decide) (hT _ q_684) (fun _ h9 => h9) rfl dX9_block_96 ?_
        refine lv_iload_n hx hb dX9_block_99 rfl (lv_at hl 1 rfl) ?_
        refine va_iald hx hb hK hP 10 0 rfl rfl hg.1 dX9_block_100 ?_
        have hg := hg.2
        refine lv_isub hx hb dX9_block_101 ?_
        exact hret _ _ _ (S0_5) _ _ hg rfl hP hD hS dX9_block_102
      by_cases k2 : x2 = 2
      · have hg := hg.2.2.1 k2
        refine lv_tableIn (tgt := 103) hx hb dX9_block_26 (by rw [k2]; decide) (by rw [k2]; decide) (by rw [k2]; rfl) (by decide) ?_
        refine lv_aload_n hx hb dX9_block_103 rfl (lv_at hl 0 rfl) ?_
        refine va_get (D := G.1) (ci := 7) (v := .ref (d0 13)) (C := RX9) (T := TX9) (N := 49) hx hb hT iX9 hown hK hP 0 rfl rfl 13 (by decide) (hT _ q_685) (fun _ h9 => h9) rfl dX9_block_104 ?_
        refine lv_iload_n hx hb dX9_block_107 rfl (lv_at hl 1 rfl) ?_
        refine va_iald hx hb hK hP 11 0 rfl rfl hg.1 dX9_block_108 ?_
        have hg := hg.2
        exact hret _ _ _ (S0_5) _ _ hg rfl hP hD hS dX9_block_109
      by_cases k3 : x2 = 3
      · have hg := hg.2.2.2.1 k3
        refine lv_tableIn (tgt := 110) hx hb dX9_block_26 (by rw [k3]; decide) (by rw [k3]; decide) (by rw [k3]; rfl) (by decide) ?_
        refine lv_aload_n hx hb dX9_block_110 rfl (lv_at hl 0 rfl) ?_
        refine va_get (D := G.1) (ci := 7) (v := .ref (d0 14)) (C := RX9) (T := TX9) (N := 49) hx hb hT iX9 hown hK hP 0 rfl rfl 14 (by decide) (hT _ q_686) (fun _ h9 => h9) rfl dX9_block_111 ?_
        refine lv_iload_n hx hb dX9_block_114 rfl (lv_at hl 1 rfl) ?_
        refine va_iald hx hb hK hP 12 0 rfl rfl hg.1 dX9_block_115 ?_
        have hg := hg.2
        exact hret _ _ _ (S0_5) _ _ hg rfl hP hD hS dX9_block_116
      by_cases k4 : x2 = 4
      · have hg := hg.2.2.2.2.1 k4
        refine lv_tableIn (tgt := 117) hx hb dX9_block_26 (by rw [k4]; decide) (by rw [k4]; decide) (by rw [k4]; rfl) (by decide) ?_
        exact J117 _ _ _ _ hg hP hD hS (lv_sub hl [0, 1, 2] rfl)
      by_cases k5 : x2 = 5
      · have hg := hg.2.2.2.2.2.1 k5
        refine lv_tableIn (tgt := 117) hx hb dX9_block_26 (by rw [k5]; decide) (by rw [k5]; decide) (by rw [k5]; rfl) (by decide) ?_
        exact J117 _ _ _ _ hg hP hD hS (lv_sub hl [0, 1, 2] rfl)
      by_cases k6 : x2 = 6
      · have hg := hg.2.2.2.2.2.2.1 k6
        refine lv_tableIn (tgt := 133) hx hb dX9_block_26 (by rw [k6]; decide) (by rw [k6]; decide) (by rw [k6]; rfl) (by decide) ?_
        exact J133 _ _ _ _ hg hP hD hS (lv_sub hl [0, 1, 2] rfl)
      by_cases k7 : x2 = 7
      · have hg := hg.2.2.2.2.2.2.2.1 k7
        refine lv_tableIn (tgt := 133) hx hb dX9_block_26 (by rw [k7]; decide) (by rw [k7]; decide) (by rw [k7]; rfl) (by decide) ?_
        exact J133 _ _ _ _ hg hP hD hS (lv_sub hl [0, 1, 2] rfl)
      have hg := hg.2.2.2.2.2.2.2.2 k0 k1 k2 k3 k4 k5 k6 k7
      have nk0 := lv_neT k0 (a := 0) (by decide)
      have nk1 := lv_neT k1 (a := 1) (by decide)
      have nk2 := lv_neT k2 (a := 2) (by decide)
      have nk3 := lv_neT k3 (a := 3) (by decide)
      have nk4 := lv_neT k4 (a := 4) (by decide)
      have nk5 := lv_neT k5 (a := 5) (by decide)
      have nk6 := lv_neT k6 (a := 6) (by decide)
      have nk7 := lv_neT k7 (a := 7) (by decide)
      refine lv_tableOut (tgt := 152) hx hb dX9_block_26 (by omega) (by decide) ?_
      refine lv_aload_n hx hb dX9_block_152 rfl (lv_at hl 0 rfl) ?_
      refine va_get (D := G.1) (ci := 7) (v := .ref (d0 15)) (C := RX9) (T := TX9) (N := 49) hx hb hT iX9 hown hK hP 0 rfl rfl 15 (by decide) (hT _ q_687) (fun _ h9 => h9) rfl dX9_block_153 ?_
      refine lv_iload_n hx hb dX9_block_156 rfl (lv_at hl 1 rfl) ?_
      refine va_iald hx hb hK hP 13 0 rfl rfl hg.1 dX9_block_157 ?_
      have hg := hg.2
      exact hret _ _ _ (S0_5) _ _ hg rfl hP hD hS dX9_block_158
    · have hg := hg.1 c_4
      refine lv_iconst (v := (-1)) hx hb dX9_block_18 (by decide) ?_
      exact hret _ _ _ (S0) _ _ hg rfl hP hD hS dX9_block_19
theorem zv_X9_notes : zV yX9_notes RX9 cX9_notes 1 none 0 := ⟨q_971, qp_28, q_8, q_972, by decide +kernel⟩
set_option maxHeartbeats 4000000 in
set_option maxRecDepth 100000 in
theorem c_X9_notes (l : Launch) (G : ZG) (o0 : Nat) (d0 : Nat → Nat) (S0 : ZS) (Q : ZS → Prop) (hg : g_X9_notes S0 Q) : Kv l G yX9_notes cX9_notes 1 rm_X9_notes [.ref o0] (wX9 G o0 d0 S0) (fun u : ZS => wX9 G o0 d0 u) (fun u => Q u) := by
  refine Kv.of (by decide) (Nat.le_of_ble_eq_true rfl) ?_
  intro p e s m args below meth c A QQ ls Cx hret hl hP hD hS
  obtain ⟨hx, hb, hml, hown, hT, hK, hA⟩ := id Cx
  have hl : lv_has ls 1 [(0, .ref o0)] := hl
  have J36 : ∀ (S0 : ZS) (H : Heap) (locs : List Loc) (ls : Array Slot), G_X9_notes_36 Q S0 → va_P G.1 classes (wX9 G o0 d0 S0) H → va_D A (wX9 G o0 d0 S0) → va_S A s.heap H locs → lv_has ls 1 [(0, .ref o0)] → W p l e rm_X9_notes s m args below meth c H locs 0 0 QQ (F0 m 36 ls []) := by
    intro S0 H locs ls hg hP hD hS hl
    refine lv_aload_n hx hb dX9_notes_36 rfl (lv_at hl 0 rfl) ?_
    refine va_get (D := G.1) (ci := 7) (v := .ref (d0 16)) (C := RX9) (T := TX9) (N := 49) hx hb hT iX9 hown hK hP 0 rfl rfl 16 (by decide) (hT _ q_688) (fun _ h9 => h9) rfl dX9_notes_37 ?_
    refine lv_iconst (v := 0) hx hb dX9_notes_40 (by decide) ?_
    refine lv_aload_n hx hb dX9_notes_41 rfl (lv_at hl 0 rfl) ?_
    refine va_get (D := G.1) (ci := 7) (v := .ref (d0 17)) (C := RX9) (T := TX9) (N := 49) hx hb hT iX9 hown hK hP 0 rfl rfl 17 (by decide) (hT _ q_689) (fun _ h9 => h9) rfl dX9_notes_42 ?_
    refine lv_bipush (v := 112) hx hb dX9_notes_45 (by decide) ?_
    refine lv_aload_n hx hb dX9_notes_47 rfl (lv_at hl 0 rfl) ?_
    refine va_get (D := G.1) (ci := 7) (v := .int (S0 18 0)) (C := RX9) (T := TX9) (N := 49) hx hb hT iX9 hown hK hP 0 rfl rfl 18 (by decide) (hT _ q_690) (fun _ h9 => h9) rfl dX9_notes_48 ?_
    refine lv_imul hx hb dX9_notes_51 ?_
    refine lv_bipush (v := 112) hx hb dX9_notes_52 (by decide) ?_
    refine zcSv (As := [.ref (d0 16), .int 0, .ref (d0 17), .int (112 * (S0 18 0)), .int 112]) (rest := []) Cx (c_X9_bring l G (d0 16) (d0 17) 112 1120 0 (112 * (S0 18 0)) 112 (S0 16) (S0 17) _ hg) zv_X9_bring q_906 ⟨⟨rfl, rfl⟩, Nat.le_of_ble_eq_true rfl, Nat.le_of_ble_eq_true rfl⟩ (zJ.sub (wr := [0, 1, 2, 3, 4, 5, 6, 7, 8, 9, 10, 11, 12, 13, 16, 17, 18, 19, 20, 21, 22, 23, 24, 25, 26, 27, 28, 29, 30, 31, 32, 33, 34, 35, 36, 37].filterMap (fun i => (wX9 G o0 d0 S0)[i]?)) (w2 := (fun u : ZR => wX9 G o0 d0 ((zrp S0 17 u)))) hP hD hS hA [14, 15] [0, 1, 2, 3, 4, 5, 6, 7, 8, 9, 10, 11, 12, 13, 16, 17, 18, 19, 20, 21, 22, 23, 24, 25, 26, 27, 28, 29, 30, 31, 32, 33, 34, 35, 36, 37] [0, 1, 2, 3, 4, 5, 6, 7, 8, 9, 10, 11, 12, 13, 36, 37, 14, 15, 16, 17, 18, 19, 20, 21, 22, 23, 24, 25, 26, 27, 28, 29, 30, 31, 32, 33, 34, 35] rfl rfl (by decide) (fun u => rfl)) hS rfl hl.1 rfl (Nat.le_of_ble_eq_true rfl) dX9_notes_54 (fun f_1 H locs hg hP hD hS => ?_)
    have hP : va_P G.1 classes (wX9 G o0 d0 ((zrp S0 17 f_1))) H := hP
    have hD : va_D A (wX9 G o0 d0 ((zrp S0 17 f_1))) := hD
    refine lv_aload_n hx hb dX9_notes_57 rfl (lv_at hl 0 rfl) ?_
    refine lv_dup hx hb dX9_notes_58 rfl ?_
    refine va_get (D := G.1) (ci := 7) (v := .int (((zrp S0 17 f_1) 18 0))) (C := RX9) (T := TX9) (N := 49) hx hb hT iX9 hown hK hP 0 rfl rfl 18 (by decide) (hT _ q_690) (fun _ h9 => h9) rfl dX9_notes_59 ?_
    refine lv_iconst (v := 1) hx hb dX9_notes_62 (by decide) ?_
    refine lv_iadd hx hb dX9_notes_63 ?_
    refine z_put (D := G.1) (ci := 7) (v := .int ((((zrp S0 17 f_1) 18 0)) + 1)) (ty := .int) (C := RX9) (T := TX9) (N := 49) hx hb hT iX9 tyX9 tyX9_ok nmX9 hown hK hP hD hS 0 rfl rfl 18 (by decide) (hT _ q_690) (fun _ h9 => h9) rfl (by decide +kernel) rfl rfl (Nat.le_of_ble_eq_true rfl) dX9_notes_64 (zst (zrp S0 17 f_1) 18 0 ((((zrp S0 17 f_1) 18 0)) + 1)) (fun S : ZS => wX9 G o0 d0 S) rfl (fun S0_2 H locs eS0_2 hP hD hS => ?_)
    have hg := hg S0_2 eS0_2
    exact hret _ _ (S0_2) _ _ hg hP hD hS dX9_notes_67
  refine lv_aload_n hx hb dX9_notes_0 rfl (lv_at hl 0 rfl) ?_
  refine va_get (D := G.1) (ci := 7) (v := .int (S0 18 0)) (C := RX9) (T := TX9) (N := 49) hx hb hT iX9 hown hK hP 0 rfl rfl 18 (by decide) (hT _ q_690) (fun _ h9 => h9) rfl dX9_notes_1 ?_
  refine lv_bipush (v := 10) hx hb dX9_notes_4 (by decide) ?_
  refine lv_icmp_ne (tgt := 36) hx hb dX9_notes_6 (by decide) (fun c_1 => ?_) (fun c_1 => ?_)
  · have hg := hg.2 c_1
    exact J36 _ _ _ _ hg hP hD hS (lv_sub hl [0] rfl)
  · have hg := hg.1 c_1
    refine lv_aload_n hx hb dX9_notes_9 rfl (lv_at hl 0 rfl) ?_
    refine va_get (D := G.1) (ci := 7) (v := .ref (d0 17)) (C := RX9) (T := TX9) (N := 49) hx hb hT iX9 hown hK hP 0 rfl rfl 17 (by decide) (hT _ q_689) (fun _ h9 => h9) rfl dX9_notes_10 ?_
    refine lv_bipush (v := 112) hx hb dX9_notes_13 (by decide) ?_
    refine lv_aload_n hx hb dX9_notes_15 rfl (lv_at hl 0 rfl) ?_
    refine va_get (D := G.1) (ci := 7) (v := .ref (d0 17)) (C := RX9) (T := TX9) (N := 49) hx hb hT iX9 hown hK hP 0 rfl rfl 17 (by decide) (hT _ q_689) (fun _ h9 => h9) rfl dX9_notes_16 ?_
    refine lv_iconst (v := 0) hx hb dX9_notes_19 (by decide) ?_
    refine lv_sipush (v := 1008) hx hb dX9_notes_20 (by decide) ?_
    refine zcSv (As := [.ref (d0 17), .int 112, .ref (d0 17), .int 0, .int 1008]) (rest := []) Cx (c_X9_bringA l G (d0 17) 1120 112 0 1008 (S0 17) _ hg) zv_X9_bring q_906 ⟨⟨rfl, rfl⟩, Nat.le_of_ble_eq_true rfl, Nat.le_of_ble_eq_true rfl⟩ (zJ.sub (wr := [0, 1, 2, 3, 4, 5, 6, 7, 8, 9, 10, 11, 12, 13, 14, 16, 17, 18, 19, 20, 21, 22, 23, 24, 25, 26, 27, 28, 29, 30, 31, 32, 33, 34, 35, 36, 37].filterMap (fun i => (wX9 G o0 d0 S0)[i]?)) (w2 := (fun u : ZR => wX9 G o0 d0 ((zrp S0 17 u)))) hP hD hS hA [15] [0, 1, 2, 3, 4, 5, 6, 7, 8, 9, 10, 11, 12, 13, 14, 16, 17, 18, 19, 20, 21, 22, 23, 24, 25, 26, 27, 28, 29, 30, 31, 32, 33, 34, 35, 36, 37] [0, 1, 2, 3, 4, 5, 6, 7, 8, 9, 10, 11, 12, 13, 14, 37, 15, 16, 17, 18, 19, 20, 21, 22, 23, 24, 25, 26, 27, 28, 29, 30, 31, 32, 33, 34, 35, 36] rfl rfl (by decide) (fun u => rfl)) hS rfl hl.1 rfl (Nat.le_of_ble_eq_true rfl) dX9_notes_23 (fun f_2 H locs hg hP hD hS => ?_)
    have hP : va_P G.1 classes (wX9 G o0 d0 ((zrp S0 17 f_2))) H := hP
    have hD : va_D A (wX9 G o0 d0 ((zrp S0 17 f_2))) := hD
    refine lv_aload_n hx hb dX9_notes_26 rfl (lv_at hl 0 rfl) ?_
    refine lv_dup hx hb dX9_notes_27 rfl ?_
    refine va_get (D := G.1) (ci := 7) (v := .int (((zrp S0 17 f_2) 18 0))) (C := RX9) (T := TX9) (N := 49) hx hb hT iX9 hown hK hP 0 rfl rfl 18 (by decide) (hT _ q_690) (fun _ h9 => h9) rfl dX9_notes_28 ?_
    refine lv_iconst (v := 1) hx hb dX9_notes_31 (by decide) ?_
    refine lv_isub hx hb dX9_notes_32 ?_
    refine z_put (D := G.1) (ci := 7) (v := .int ((((zrp S0 17 f_2) 18 0)) - 1)) (ty := .int) (C := RX9) (T := TX9) (N := 49) hx hb hT iX9 tyX9 tyX9_ok nmX9 hown hK hP hD hS 0 rfl rfl 18 (by decide) (hT _ q_690) (fun _ h9 => h9) rfl (by decide +kernel) rfl rfl (Nat.le_of_ble_eq_true rfl) dX9_notes_33 (zst (zrp S0 17 f_2) 18 0 ((((zrp S0 17 f_2) 18 0)) - 1)) (fun S : ZS => wX9 G o0 d0 S) rfl (fun S0_3 H locs eS0_3 hP hD hS => ?_)
    have hg := hg S0_3 eS0_3
    exact J36 _ _ _ _ hg hP hD hS (lv_sub hl [0] rfl)
theorem zv_X9_isMade : zV yX9_isMade RX9 cX9_isMade 3 (some .boolean) 2 := ⟨q_967, qp_27, q_8, q_968, by decide +kernel⟩
set_option maxHeartbeats 4000000 in
set_option maxRecDepth 100000 in
theorem c_X9_isMade (l : Launch) (G : ZG) (o0 : Nat) (d0 : Nat → Nat) (x1 : Int32) (x2 : Int32) (S0 : ZS) (Q : Int32 → Prop) (hg : g_X9_isMade x1 x2 S0 Q) : Ki l G yX9_isMade cX9_isMade 3 .boolean rm_X9_isMade [.ref o0, .int x1, .int x2] (wX9 G o0 d0 S0) (fun _ : Unit => wX9 G o0 d0 S0) (fun r _ => Q r ) := by
  refine Ki.of (by decide) (Nat.le_of_ble_eq_true rfl) ?_
  intro p e s m args below meth c A QQ ls Cx hret hl hP hD hS
  obtain ⟨hx, hb, hml, hown, hT, hK, hA⟩ := id Cx
  have hl : lv_has ls 3 [(0, .ref o0), (1, .int x1), (2, .int x2)] := hl
  refine lv_aload_n hx hb dX9_isMade_0 rfl (lv_at hl 0 rfl) ?_
  refine lv_iload_n hx hb dX9_isMade_1 rfl (lv_at hl 1 rfl) ?_
  refine zcVi (As := [.int x1]) (rest := []) (C := RX9) Cx (c_X9_isName l G o0 d0 x1 S0 _ hg) zv_X9_isName q_913 ⟨⟨rfl, rfl⟩, Nat.le_of_ble_eq_true rfl, Nat.le_of_ble_eq_true rfl⟩ (zJ.all hP hD hS hA) hS 7 rfl rfl rfl rfl hl.1 rfl (Nat.le_of_ble_eq_true rfl) dX9_isMade_2 (fun r_1 _u H locs hg hP hD hS => ?_)
  refine lv_if_eq (tgt := 22) hx hb dX9_isMade_5 (by decide) (fun c_2 => ?_) (fun c_2 => ?_)
  · have hg := hg.1 c_2
    refine lv_iconst (v := 0) hx hb dX9_isMade_22 (by decide) ?_
    exact hret _ _ _ () _ _ hg rfl hP hD hS dX9_isMade_23
  · have hg := hg.2 c_2
    refine lv_aload_n hx hb dX9_isMade_8 rfl (lv_at hl 0 rfl) ?_
    refine va_get (D := G.1) (ci := 7) (v := .ref (d0 4)) (C := RX9) (T := TX9) (N := 49) hx hb hT iX9 hown hK hP 0 rfl rfl 4 (by decide) (hT _ q_676) (fun _ h9 => h9) rfl dX9_isMade_9 ?_
    refine lv_iload_n hx hb dX9_isMade_12 rfl (lv_at hl 1 rfl) ?_
    refine va_iald hx hb hK hP 2 0 rfl rfl hg.1 dX9_isMade_13 ?_
    have hg := hg.2
    refine lv_iload_n hx hb dX9_isMade_14 rfl (lv_at hl 2 rfl) ?_
    refine lv_icmp_ne (tgt := 22) hx hb dX9_isMade_15 (by decide) (fun c_3 => ?_) (fun c_3 => ?_)
    · have hg := hg.2 c_3
      refine lv_iconst (v := 0) hx hb dX9_isMade_22 (by decide) ?_
      exact hret _ _ _ () _ _ hg rfl hP hD hS dX9_isMade_23
    · have hg := hg.1 c_3
      refine lv_iconst (v := 1) hx hb dX9_isMade_18 (by decide) ?_
      refine lv_goto (tgt := 23) hx hb dX9_isMade_19 (by decide) ?_
      exact hret _ _ _ () _ _ hg rfl hP hD hS dX9_isMade_23
theorem zv_X9_knows : zV yX9_knows RX9 cX9_knows 3 (some .int) 2 := ⟨q_962, q_963, q_8, q_964, by decide +kernel⟩
set_option maxHeartbeats 4000000 in
set_option maxRecDepth 100000 in
theorem c_X9_knows (l : Launch) (G : ZG) (o0 : Nat) (d0 : Nat → Nat) (x1 : Int32) (x2 : Int32) (S0 : ZS) (Q : Int32 → ZS → Prop) (hg : g_X9_knows x1 x2 S0 Q) : Ki l G yX9_knows cX9_knows 3 .int rm_X9_knows [.ref o0, .int x1, .int x2] (wX9 G o0 d0 S0) (fun u : ZS => wX9 G o0 d0 u) (fun r u => Q r u) := by
  refine Ki.of (by decide) (Nat.le_of_ble_eq_true rfl) ?_
  intro p e s m args below meth c A QQ ls Cx hret hl hP hD hS
  obtain ⟨hx, hb, hml, hown, hT, hK, hA⟩ := id Cx
  have hl : lv_has ls 3 [(0, .ref o0), (1, .int x1), (2, .int x2)] := hl
  refine lv_aload_n hx hb dX9_knows_0 rfl (lv_at hl 0 rfl) ?_
  refine lv_iload_n hx hb dX9_knows_1 rfl (lv_at hl 1 rfl) ?_
  refine lv_iconst (v := 1) hx hb dX9_knows_2 (by decide) ?_
  refine zcVi (As := [.int x1, .int 1]) (rest := []) (C := RX9) Cx (c_X9_isMade l G o0 d0 x1 1 S0 _ hg) zv_X9_isMade q_965 ⟨⟨rfl, rfl⟩, Nat.le_of_ble_eq_true rfl, Nat.le_of_ble_eq_true rfl⟩ (zJ.all hP hD hS hA) hS 7 rfl rfl rfl rfl hl.1 rfl (Nat.le_of_ble_eq_true rfl) dX9_knows_3 (fun r_1 _u H locs hg hP hD hS => ?_)
  refine lv_if_ne (tgt := 11) hx hb dX9_knows_6 (by decide) (fun c_2 => ?_) (fun c_2 => ?_)
  · have hg := hg.2 c_2
    refine lv_aload_n hx hb dX9_knows_11 rfl (lv_at hl 0 rfl) ?_
    refine zcVv (As := []) (rest := []) (C := RX9) Cx (c_X9_notes l G o0 d0 S0 _ hg) zv_X9_notes q_969 ⟨⟨rfl, rfl⟩, Nat.le_of_ble_eq_true rfl, Nat.le_of_ble_eq_true rfl⟩ (zJ.all hP hD hS hA) hS 7 rfl rfl rfl rfl hl.1 rfl (Nat.le_of_ble_eq_true rfl) dX9_knows_12 (fun S0_3 H locs hg hP hD hS => ?_)
    have hP : va_P G.1 classes (wX9 G o0 d0 S0_3) H := hP
    have hD : va_D A (wX9 G o0 d0 S0_3) := hD
    refine lv_aload_n hx hb dX9_knows_15 rfl (lv_at hl 0 rfl) ?_
    refine va_get (D := G.1) (ci := 7) (v := .ref (d0 16)) (C := RX9) (T := TX9) (N := 49) hx hb hT iX9 hown hK hP 0 rfl rfl 16 (by decide) (hT _ q_688) (fun _ h9 => h9) rfl dX9_knows_16 ?_
    refine lv_iconst (v := 0) hx hb dX9_knows_19 (by decide) ?_
    refine lv_iload_n hx hb dX9_knows_20 rfl (lv_at hl 1 rfl) ?_
    refine lv_iadd hx hb dX9_knows_21 ?_
    refine lv_iconst (v := 1) hx hb dX9_knows_22 (by decide) ?_
    refine z_iast hx hb hK hP hD hS 14 0 rfl rfl hg.1 dX9_knows_23 (zst S0_3 16 (0 + x1).toNatClampNeg 1) (fun S : ZS => wX9 G o0 d0 S) rfl (fun S0_4 H locs eS0_4 hP hD hS => ?_)
    have hg := hg.2 S0_4 eS0_4
    refine lv_aload_n hx hb dX9_knows_24 rfl (lv_at hl 0 rfl) ?_
    refine va_get (D := G.1) (ci := 7) (v := .ref (d0 16)) (C := RX9) (T := TX9) (N := 49) hx hb hT iX9 hown hK hP 0 rfl rfl 16 (by decide) (hT _ q_688) (fun _ h9 => h9) rfl dX9_knows_25 ?_
    refine lv_bipush (v := 24) hx hb dX9_knows_28 (by decide) ?_
    refine lv_iload_n hx hb dX9_knows_30 rfl (lv_at hl 1 rfl) ?_
    refine lv_iadd hx hb dX9_knows_31 ?_
    refine lv_iload_n hx hb dX9_knows_32 rfl (lv_at hl 2 rfl) ?_
    refine z_iast hx hb hK hP hD hS 14 0 rfl rfl hg.1 dX9_knows_33 (zst S0_4 16 (24 + x1).toNatClampNeg x2) (fun S : ZS => wX9 G o0 d0 S) rfl (fun S0_5 H locs eS0_5 hP hD hS => ?_)
    have hg := hg.2 S0_5 eS0_5
    refine lv_aload_n hx hb dX9_knows_34 rfl (lv_at hl 0 rfl) ?_
    refine lv_iconst (v := 0) hx hb dX9_knows_35 (by decide) ?_
    refine zcVv (As := [.int 0]) (rest := []) (C := RX9) Cx (c_X9_finds l G o0 d0 0 S0_5 _ hg) zv_X9_finds q_917 ⟨⟨rfl, rfl⟩, Nat.le_of_ble_eq_true rfl, Nat.le_of_ble_eq_true rfl⟩ (zJ.all hP hD hS hA) hS 7 rfl rfl rfl rfl hl.1 rfl (Nat.le_of_ble_eq_true rfl) dX9_knows_36 (fun S0_6 H locs hg hP hD hS => ?_)
    have hP : va_P G.1 classes (wX9 G o0 d0 S0_6) H := hP
    have hD : va_D A (wX9 G o0 d0 S0_6) := hD
    refine lv_aload_n hx hb dX9_knows_39 rfl (lv_at hl 0 rfl) ?_
    refine lv_iconst (v := 1) hx hb dX9_knows_40 (by decide) ?_
    refine zcVi (As := [.int 1]) (rest := []) (C := RX9) Cx (c_X9_those l G o0 d0 1 S0_6 _ hg) zv_X9_those q_973 ⟨⟨rfl, rfl⟩, Nat.le_of_ble_eq_true rfl, Nat.le_of_ble_eq_true rfl⟩ (zJ.all hP hD hS hA) hS 7 rfl rfl rfl rfl hl.1 rfl (Nat.le_of_ble_eq_true rfl) dX9_knows_41 (fun r_7 _u H locs hg hP hD hS => ?_)
    exact hret _ _ _ (S0_6) _ _ hg rfl hP hD hS dX9_knows_44
  · have hg := hg.1 c_2
    refine lv_iconst (v := (-1)) hx hb dX9_knows_9 (by decide) ?_
    exact hret _ _ _ (S0) _ _ hg rfl hP hD hS dX9_knows_10
theorem zv_X9_forgets : zV yX9_forgets RX9 cX9_forgets 2 (some .int) 1 := ⟨q_978, q_979, q_8, q_980, by decide +kernel⟩
set_option maxHeartbeats 4000000 in
set_option maxRecDepth 100000 in
theorem c_X9_forgets (l : Launch) (G : ZG) (o0 : Nat) (d0 : Nat → Nat) (x1 : Int32) (S0 : ZS) (Q : Int32 → ZS → Prop) (hg : g_X9_forgets x1 S0 Q) : Ki l G yX9_forgets cX9_forgets 2 .int rm_X9_forgets [.ref o0, .int x1] (wX9 G o0 d0 S0) (fun u : ZS => wX9 G o0 d0 u) (fun r u => Q r u) := by
  refine Ki.of (by decide) (Nat.le_of_ble_eq_true rfl) ?_
  intro p e s m args below meth c A QQ ls Cx hret hl hP hD hS
  obtain ⟨hx, hb, hml, hown, hT, hK, hA⟩ := id Cx
  have hl : lv_has ls 2 [(0, .ref o0), (1, .int x1)] := hl
  refine lv_aload_n hx hb dX9_forgets_0 rfl (lv_at hl 0 rfl) ?_
  refine lv_iload_n hx hb dX9_forgets_1 rfl (lv_at hl 1 rfl) ?_
  refine lv_iconst (v := 1) hx hb dX9_forgets_2 (by decide) ?_
  refine zcVi (As := [.int x1, .int 1]) (rest := []) (C := RX9) Cx (c_X9_isMade l G o0 d0 x1 1 S0 _ hg) zv_X9_isMade q_965 ⟨⟨rfl, rfl⟩, Nat.le_of_ble_eq_true rfl, Nat.le_of_ble_eq_true rfl⟩ (zJ.all hP hD hS hA) hS 7 rfl rfl rfl rfl hl.1 rfl (Nat.le_of_ble_eq_true rfl) dX9_forgets_3 (fun r_1 _u H locs hg hP hD hS => ?_)
  refine lv_if_ne (tgt := 11) hx hb dX9_forgets_6 (by decide) (fun c_2 => ?_) (fun c_2 => ?_)
  · have hg := hg.2 c_2
    refine lv_aload_n hx hb dX9_forgets_11 rfl (lv_at hl 0 rfl) ?_
    refine va_get (D := G.1) (ci := 7) (v := .ref (d0 16)) (C := RX9) (T := TX9) (N := 49) hx hb hT iX9 hown hK hP 0 rfl rfl 16 (by decide) (hT _ q_688) (fun _ h9 => h9) rfl dX9_forgets_12 ?_
    refine lv_iconst (v := 0) hx hb dX9_forgets_15 (by decide) ?_
    refine lv_iload_n hx hb dX9_forgets_16 rfl (lv_at hl 1 rfl) ?_
    refine lv_iadd hx hb dX9_forgets_17 ?_
    refine va_iald hx hb hK hP 14 0 rfl rfl hg.1 dX9_forgets_18 ?_
    have hg := hg.2
    refine lv_if_ne (tgt := 25) hx hb dX9_forgets_19 (by decide) (fun c_3 => ?_) (fun c_3 => ?_)
    · have hg := hg.2 c_3
      refine lv_aload_n hx hb dX9_forgets_25 rfl (lv_at hl 0 rfl) ?_
      refine zcVv (As := []) (rest := []) (C := RX9) Cx (c_X9_notes l G o0 d0 S0 _ hg) zv_X9_notes q_969 ⟨⟨rfl, rfl⟩, Nat.le_of_ble_eq_true rfl, Nat.le_of_ble_eq_true rfl⟩ (zJ.all hP hD hS hA) hS 7 rfl rfl rfl rfl hl.1 rfl (Nat.le_of_ble_eq_true rfl) dX9_forgets_26 (fun S0_4 H locs hg hP hD hS => ?_)
      have hP : va_P G.1 classes (wX9 G o0 d0 S0_4) H := hP
      have hD : va_D A (wX9 G o0 d0 S0_4) := hD
      refine lv_aload_n hx hb dX9_forgets_29 rfl (lv_at hl 0 rfl) ?_
      refine va_get (D := G.1) (ci := 7) (v := .ref (d0 16)) (C := RX9) (T := TX9) (N := 49) hx hb hT iX9 hown hK hP 0 rfl rfl 16 (by decide) (hT _ q_688) (fun _ h9 => h9) rfl dX9_forgets_30 ?_
      refine lv_iconst (v := 0) hx hb dX9_forgets_33 (by decide) ?_
      refine lv_iload_n hx hb dX9_forgets_34 rfl (lv_at hl 1 rfl) ?_
      refine lv_iadd hx hb dX9_forgets_35 ?_
      refine lv_iconst (v := 0) hx hb dX9_forgets_36 (by decide) ?_
      refine z_iast hx hb hK hP hD hS 14 0 rfl rfl hg.1 dX9_forgets_37 (zst S0_4 16 (0 + x1).toNatClampNeg 0) (fun S : ZS => wX9 G o0 d0 S) rfl (fun S0_5 H locs eS0_5 hP hD hS => ?_)
      have hg := hg.2 S0_5 eS0_5
      refine lv_aload_n hx hb dX9_forgets_38 rfl (lv_at hl 0 rfl) ?_
      refine lv_iconst (v := 0) hx hb dX9_forgets_39 (by decide) ?_
      refine zcVv (As := [.int 0]) (rest := []) (C := RX9) Cx (c_X9_finds l G o0 d0 0 S0_5 _ hg) zv_X9_finds q_917 ⟨⟨rfl, rfl⟩, Nat.le_of_ble_eq_true rfl, Nat.le_of_ble_eq_true rfl⟩ (zJ.all hP hD hS hA) hS 7 rfl rfl rfl rfl hl.1 rfl (Nat.le_of_ble_eq_true rfl) dX9_forgets_40 (fun S0_6 H locs hg hP hD hS => ?_)
      have hP : va_P G.1 classes (wX9 G o0 d0 S0_6) H := hP
      have hD : va_D A (wX9 G o0 d0 S0_6) := hD
      refine lv_aload_n hx hb dX9_forgets_43 rfl (lv_at hl 0 rfl) ?_
      refine lv_iconst (v := 1) hx hb dX9_forgets_44 (by decide) ?_
      refine zcVi (As := [.int 1]) (rest := []) (C := RX9) Cx (c_X9_those l G o0 d0 1 S0_6 _ hg) zv_X9_those q_973 ⟨⟨rfl, rfl⟩, Nat.le_of_ble_eq_true rfl, Nat.le_of_ble_eq_true rfl⟩ (zJ.all hP hD hS hA) hS 7 rfl rfl rfl rfl hl.1 rfl (Nat.le_of_ble_eq_true rfl) dX9_forgets_45 (fun r_7 _u H locs hg hP hD hS => ?_)
      exact hret _ _ _ (S0_6) _ _ hg rfl hP hD hS dX9_forgets_48
    · have hg := hg.1 c_3
      refine lv_bipush (v := (-2)) hx hb dX9_forgets_22 (by decide) ?_
      exact hret _ _ _ (S0) _ _ hg rfl hP hD hS dX9_forgets_24
  · have hg := hg.1 c_2
    refine lv_iconst (v := (-1)) hx hb dX9_forgets_9 (by decide) ?_
    exact hret _ _ _ (S0) _ _ hg rfl hP hD hS dX9_forgets_10
theorem zv_X9_gives : zV yX9_gives RX9 cX9_gives 4 (some .int) 2 := ⟨q_982, q_983, q_8, q_984, by decide +kernel⟩
set_option maxHeartbeats 4000000 in
set_option maxRecDepth 100000 in
theorem c_X9_gives (l : Launch) (G : ZG) (o0 : Nat) (d0 : Nat → Nat) (x1 : Int32) (x2 : Int32) (S0 : ZS) (Q : Int32 → ZS → Prop) (hg : g_X9_gives x1 x2 S0 Q) : Ki l G yX9_gives cX9_gives 4 .int rm_X9_gives [.ref o0, .int x1, .int x2] (wX9 G o0 d0 S0) (fun u : ZS => wX9 G o0 d0 u) (fun r u => Q r u) := by
  refine Ki.of (by decide) (Nat.le_of_ble_eq_true rfl) ?_
  intro p e s m args below meth c A QQ ls Cx hret hl hP hD hS
  obtain ⟨hx, hb, hml, hown, hT, hK, hA⟩ := id Cx
  have hl : lv_has ls 4 [(0, .ref o0), (1, .int x1), (2, .int x2)] := hl
  refine lv_aload_n hx hb dX9_gives_0 rfl (lv_at hl 0 rfl) ?_
  refine lv_iload_n hx hb dX9_gives_1 rfl (lv_at hl 1 rfl) ?_
  refine lv_iconst (v := 1) hx hb dX9_gives_2 (by decide) ?_
  refine zcVi (As := [.int x1, .int 1]) (rest := []) (C := RX9) Cx (c_X9_isMade l G o0 d0 x1 1 S0 _ hg) zv_X9_isMade q_965 ⟨⟨rfl, rfl⟩, Nat.le_of_ble_eq_true rfl, Nat.le_of_ble_eq_true rfl⟩ (zJ.all hP hD hS hA) hS 7 rfl rfl rfl rfl hl.1 rfl (Nat.le_of_ble_eq_true rfl) dX9_gives_3 (fun r_1 _u H locs hg hP hD hS => ?_)
  refine lv_if_ne (tgt := 11) hx hb dX9_gives_6 (by decide) (fun c_2 => ?_) (fun c_2 => ?_)
  · have hg := hg.2 c_2
    refine lv_aload_n hx hb dX9_gives_11 rfl (lv_at hl 0 rfl) ?_
    refine zcVv (As := []) (rest := []) (C := RX9) Cx (c_X9_notes l G o0 d0 S0 _ hg) zv_X9_notes q_969 ⟨⟨rfl, rfl⟩, Nat.le_of_ble_eq_true rfl, Nat.le_of_ble_eq_true rfl⟩ (zJ.all hP hD hS hA) hS 7 rfl rfl rfl rfl hl.1 rfl (Nat.le_of_ble_eq_true rfl) dX9_gives_12 (fun S0_3 H locs hg hP hD hS => ?_)
    have hP : va_P G.1 classes (wX9 G o0 d0 S0_3) H := hP
    have hD : va_D A (wX9 G o0 d0 S0_3) := hD
    refine lv_aload_n hx hb dX9_gives_15 rfl (lv_at hl 0 rfl) ?_
    refine va_get (D := G.1) (ci := 7) (v := .ref (d0 16)) (C := RX9) (T := TX9) (N := 49) hx hb hT iX9 hown hK hP 0 rfl rfl 16 (by decide) (hT _ q_688) (fun _ h9 => h9) rfl dX9_gives_16 ?_
    refine lv_bipush (v := 48) hx hb dX9_gives_19 (by decide) ?_
    refine lv_iload_n hx hb dX9_gives_21 rfl (lv_at hl 1 rfl) ?_
    refine lv_iadd hx hb dX9_gives_22 ?_
    refine va_iald hx hb hK hP 14 0 rfl rfl hg.1 dX9_gives_23 ?_
    have hg := hg.2
    refine lv_topi (fun x3_4 ex3_4 => ?_)
    have hg := hg x3_4 ex3_4
    refine lv_istore_n (lv' := [(3, .int x3_4), (0, .ref o0), (1, .int x1), (2, .int x2)]) hx hb dX9_gives_24 rfl hl (by decide) rfl (fun ls hl => ?_)
    refine lv_aload_n hx hb dX9_gives_25 rfl (lv_at hl 1 rfl) ?_
    refine va_get (D := G.1) (ci := 7) (v := .ref (d0 16)) (C := RX9) (T := TX9) (N := 49) hx hb hT iX9 hown hK hP 0 rfl rfl 16 (by decide) (hT _ q_688) (fun _ h9 => h9) rfl dX9_gives_26 ?_
    refine lv_bipush (v := 48) hx hb dX9_gives_29 (by decide) ?_
    refine lv_iload_n hx hb dX9_gives_31 rfl (lv_at hl 2 rfl) ?_
    refine lv_iadd hx hb dX9_gives_32 ?_
    refine lv_iload_n hx hb dX9_gives_33 rfl (lv_at hl 3 rfl) ?_
    refine z_iast hx hb hK hP hD hS 14 0 rfl rfl hg.1 dX9_gives_34 (zst S0_3 16 (48 + x1).toNatClampNeg x2) (fun S : ZS => wX9 G o0 d0 S) rfl (fun S0_5 H locs eS0_5 hP hD hS => ?_)
    have hg := hg.2 S0_5 eS0_5
    refine lv_aload_n hx hb dX9_gives_35 rfl (lv_at hl 1 rfl) ?_
    refine lv_iload_n hx hb dX9_gives_36 rfl (lv_at hl 0 rfl) ?_
    refine lv_iconst (v := 1) hx hb dX9_gives_37 (by decide) ?_
    refine zcVi (As := [.int x3_4, .int 1]) (rest := []) (C := RX9) Cx (c_X9_tells l G o0 d0 x3_4 1 S0_5 _ hg) zv_X9_tells q_949 ⟨⟨rfl, rfl⟩, Nat.le_of_ble_eq_true rfl, Nat.le_of_ble_eq_true rfl⟩ (zJ.all hP hD hS hA) hS 7 rfl rfl rfl rfl hl.1 rfl (Nat.le_of_ble_eq_true rfl) dX9_gives_38 (fun r_7 S0_6 H locs hg hP hD hS => ?_)
    have hP : va_P G.1 classes (wX9 G o0 d0 S0_6) H := hP
    have hD : va_D A (wX9 G o0 d0 S0_6) := hD
    exact hret _ _ _ (S0_6) _ _ hg rfl hP hD hS dX9_gives_41
  · have hg := hg.1 c_2
    refine lv_iconst (v := (-1)) hx hb dX9_gives_9 (by decide) ?_
    exact hret _ _ _ (S0) _ _ hg rfl hP hD hS dX9_gives_10
theorem zv_X9_patches : zV yX9_patches RX9 cX9_patches 4 (some .int) 2 := ⟨q_986, q_987, q_8, q_988, by decide +kernel⟩
set_option maxHeartbeats 4000000 in
set_option maxRecDepth 100000 in
theorem c_X9_patches (l : Launch) (G : ZG) (o0 : Nat) (d0 : Nat → Nat) (x1 : Int32) (x2 : Int32) (S0 : ZS) (Q : Int32 → ZS → Prop) (hg : g_X9_patches x1 x2 S0 Q) : Ki l G yX9_patches cX9_patches 4 .int rm_X9_patches [.ref o0, .int x1, .int x2] (wX9 G o0 d0 S0) (fun u : ZS => wX9 G o0 d0 u) (fun r u => Q r u) := by
  refine Ki.of (by decide) (Nat.le_of_ble_eq_true rfl) ?_
  intro p e s m args below meth c A QQ ls Cx hret hl hP hD hS
  obtain ⟨hx, hb, hml, hown, hT, hK, hA⟩ := id Cx
  have hl : lv_has ls 4 [(0, .ref o0), (1, .int x1), (2, .int x2)] := hl
  refine lv_aload_n hx hb dX9_patches_0 rfl (lv_at hl 0 rfl) ?_
  refine lv_iload_n hx hb dX9_patches_1 rfl (lv_at hl 1 rfl) ?_
  refine lv_iconst (v := 0) hx hb dX9_patches_2 (by decide) ?_
  refine zcVi (As := [.int x1, .int 0]) (rest := []) (C := RX9) Cx (c_X9_isMade l G o0 d0 x1 0 S0 _ hg) zv_X9_isMade q_965 ⟨⟨rfl, rfl⟩, Nat.le_of_ble_eq_true rfl, Nat.le_of_ble_eq_true rfl⟩ (zJ.all hP hD hS hA) hS 7 rfl rfl rfl rfl hl.1 rfl (Nat.le_of_ble_eq_true rfl) dX9_patches_3 (fun r_1 _u H locs hg hP hD hS => ?_)
  refine lv_if_eq (tgt := 20) hx hb dX9_patches_6 (by decide) (fun c_2 => ?_) (fun c_2 => ?_)
  · have hg := hg.1 c_2
    refine lv_iconst (v := (-1)) hx hb dX9_patches_20 (by decide) ?_
    exact hret _ _ _ (S0) _ _ hg rfl hP hD hS dX9_patches_21
  · have hg := hg.2 c_2
    refine lv_iload_n hx hb dX9_patches_9 rfl (lv_at hl 2 rfl) ?_
    refine lv_iconst (v := 0) hx hb dX9_patches_10 (by decide) ?_
    refine lv_sipush (v := 999) hx hb dX9_patches_11 (by decide) ?_
    refine zcSi (As := [.int x2, .int 0, .int 999]) (rest := []) Cx (c_X9_in l G x2 0 999 _ hg) zv_X9_in q_825 ⟨⟨rfl, rfl⟩, Nat.le_of_ble_eq_true rfl, Nat.le_of_ble_eq_true rfl⟩ (zJ.none (S := Unit) hP hD hS hA) hS rfl hl.1 rfl (Nat.le_of_ble_eq_true rfl) dX9_patches_14 (fun r_3 _u H locs hg hP hD hS => ?_)
    refine lv_if_ne (tgt := 22) hx hb dX9_patches_17 (by decide) (fun c_4 => ?_) (fun c_4 => ?_)
    · have hg := hg.2 c_4
      refine lv_aload_n hx hb dX9_patches_22 rfl (lv_at hl 0 rfl) ?_
      refine va_get (D := G.1) (ci := 7) (v := .ref (d0 16)) (C := RX9) (T := TX9) (N := 49) hx hb hT iX9 hown hK hP 0 rfl rfl 16 (by decide) (hT _ q_688) (fun _ h9 => h9) rfl dX9_patches_23 ?_
      refine lv_bipush (v := 72) hx hb dX9_patches_26 (by decide) ?_
      refine lv_iload_n hx hb dX9_patches_28 rfl (lv_at hl 1 rfl) ?_
      refine lv_iadd hx hb dX9_patches_29 ?_
      refine va_iald hx hb hK hP 14 0 rfl rfl hg.1 dX9_patches_30 ?_
      have hg := hg.2
      refine lv_topi (fun x3_5 ex3_5 => ?_)
      have hg := hg x3_5 ex3_5
      refine lv_istore_n (lv' := [(3, .int x3_5), (0, .ref o0), (1, .int x1), (2, .int x2)]) hx hb dX9_patches_31 rfl hl (by decide) rfl (fun ls hl => ?_)
      refine lv_iload_n hx hb dX9_patches_32 rfl (lv_at hl 0 rfl) ?_
      refine lv_iload_n hx hb dX9_patches_33 rfl (lv_at hl 3 rfl) ?_
      refine lv_icmp_ne (tgt := 40) hx hb dX9_patches_34 (by decide) (fun c_6 => ?_) (fun c_6 => ?_)
      · have hg := hg.2 c_6
        refine lv_aload_n hx hb dX9_patches_40 rfl (lv_at hl 1 rfl) ?_
        refine zcVv (As := []) (rest := []) (C := RX9) Cx (c_X9_notes l G o0 d0 S0 _ hg) zv_X9_notes q_969 ⟨⟨rfl, rfl⟩, Nat.le_of_ble_eq_true rfl, Nat.le_of_ble_eq_true rfl⟩ (zJ.all hP hD hS hA) hS 7 rfl rfl rfl rfl hl.1 rfl (Nat.le_of_ble_eq_true rfl) dX9_patches_41 (fun S0_7 H locs hg hP hD hS => ?_)
        have hP : va_P G.1 classes (wX9 G o0 d0 S0_7) H := hP
        have hD : va_D A (wX9 G o0 d0 S0_7) := hD
        refine lv_aload_n hx hb dX9_patches_44 rfl (lv_at hl 1 rfl) ?_
        refine va_get (D := G.1) (ci := 7) (v := .ref (d0 16)) (C := RX9) (T := TX9) (N := 49) hx hb hT iX9 hown hK hP 0 rfl rfl 16 (by decide) (hT _ q_688) (fun _ h9 => h9) rfl dX9_patches_45 ?_
        refine lv_bipush (v := 72) hx hb dX9_patches_48 (by decide) ?_
        refine lv_iload_n hx hb dX9_patches_50 rfl (lv_at hl 2 rfl) ?_
        refine lv_iadd hx hb dX9_patches_51 ?_
        refine lv_iload_n hx hb dX9_patches_52 rfl (lv_at hl 3 rfl) ?_
        refine z_iast hx hb hK hP hD hS 14 0 rfl rfl hg.1 dX9_patches_53 (zst S0_7 16 (72 + x1).toNatClampNeg x2) (fun S : ZS => wX9 G o0 d0 S) rfl (fun S0_8 H locs eS0_8 hP hD hS => ?_)
        have hg := hg.2 S0_8 eS0_8
        refine lv_iload_n hx hb dX9_patches_54 rfl (lv_at hl 0 rfl) ?_
        exact hret _ _ _ (S0_8) _ _ hg rfl hP hD hS dX9_patches_55
      · have hg := hg.1 c_6
        refine lv_bipush (v := (-2)) hx hb dX9_patches_37 (by decide) ?_
        exact hret _ _ _ (S0) _ _ hg rfl hP hD hS dX9_patches_39
    · have hg := hg.1 c_4
      refine lv_iconst (v := (-1)) hx hb dX9_patches_20 (by decide) ?_
      exact hret _ _ _ (S0) _ _ hg rfl hP hD hS dX9_patches_21
theorem zv_X9_turned : zV yX9_turned RX9 cX9_turned 3 (some .int) 1 := ⟨q_990, q_991, q_8, q_992, by decide +kernel⟩
set_option maxHeartbeats 4000000 in
set_option maxRecDepth 100000 in
theorem c_X9_turned (l : Launch) (G : ZG) (o0 : Nat) (d0 : Nat → Nat) (x1 : Int32) (S0 : ZS) (Q : Int32 → ZS → Prop) (hg : g_X9_turned x1 S0 Q) : Ki l G yX9_turned cX9_turned 3 .int rm_X9_turned [.ref o0, .int x1] (wX9 G o0 d0 S0) (fun u : ZS => wX9 G o0 d0 u) (fun r u => Q r u) := by
  refine Ki.of (by decide) (Nat.le_of_ble_eq_true rfl) ?_
  intro p e s m args below meth c A QQ ls Cx hret hl hP hD hS
  obtain ⟨hx, hb, hml, hown, hT, hK, hA⟩ := id Cx
  have hl : lv_has ls 3 [(0, .ref o0), (1, .int x1)] := hl
  refine lv_aload_n hx hb dX9_turned_0 rfl (lv_at hl 0 rfl) ?_
  refine lv_iload_n hx hb dX9_turned_1 rfl (lv_at hl 1 rfl) ?_
  refine zcVi (As := [.int x1]) (rest := []) (C := RX9) Cx (c_X9_isBlock l G o0 d0 x1 S0 _ hg) zv_X9_isBlock q_957 ⟨⟨rfl, rfl⟩, Nat.le_of_ble_eq_true rfl, Nat.le_of_ble_eq_true rfl⟩ (zJ.all hP hD hS hA) hS 7 rfl rfl rfl rfl hl.1 rfl (Nat.le_of_ble_eq_true rfl) dX9_turned_2 (fun r_1 _u H locs hg hP hD hS => ?_)
  refine lv_if_ne (tgt := 10) hx hb dX9_turned_5 (by decide) (fun c_2 => ?_) (fun c_2 => ?_)
  · have hg := hg.2 c_2
    refine lv_aload_n hx hb dX9_turned_10 rfl (lv_at hl 0 rfl) ?_
    refine va_get (D := G.1) (ci := 7) (v := .ref (d0 13)) (C := RX9) (T := TX9) (N := 49) hx hb hT iX9 hown hK hP 0 rfl rfl 13 (by decide) (hT _ q_685) (fun _ h9 => h9) rfl dX9_turned_11 ?_
    refine lv_iload_n hx hb dX9_turned_14 rfl (lv_at hl 1 rfl) ?_
    refine va_iald hx hb hK hP 11 0 rfl rfl hg.1 dX9_turned_15 ?_
    have hg := hg.2
    refine lv_iconst (v := 1) hx hb dX9_turned_16 (by decide) ?_
    refine lv_icmp_eq (tgt := 23) hx hb dX9_turned_17 (by decide) (fun c_3 => ?_) (fun c_3 => ?_)
    · have hg := hg.1 c_3
      refine lv_aload_n hx hb dX9_turned_23 rfl (lv_at hl 0 rfl) ?_
      refine zcVv (As := []) (rest := []) (C := RX9) Cx (c_X9_notes l G o0 d0 S0 _ hg) zv_X9_notes q_969 ⟨⟨rfl, rfl⟩, Nat.le_of_ble_eq_true rfl, Nat.le_of_ble_eq_true rfl⟩ (zJ.all hP hD hS hA) hS 7 rfl rfl rfl rfl hl.1 rfl (Nat.le_of_ble_eq_true rfl) dX9_turned_24 (fun S0_4 H locs hg hP hD hS => ?_)
      have hP : va_P G.1 classes (wX9 G o0 d0 S0_4) H := hP
      have hD : va_D A (wX9 G o0 d0 S0_4) := hD
      refine lv_aload_n hx hb dX9_turned_27 rfl (lv_at hl 0 rfl) ?_
      refine va_get (D := G.1) (ci := 7) (v := .ref (d0 16)) (C := RX9) (T := TX9) (N := 49) hx hb hT iX9 hown hK hP 0 rfl rfl 16 (by decide) (hT _ q_688) (fun _ h9 => h9) rfl dX9_turned_28 ?_
      refine lv_bipush (v := 96) hx hb dX9_turned_31 (by decide) ?_
      refine lv_iconst (v := 2) hx hb dX9_turned_33 (by decide) ?_
      refine lv_iload_n hx hb dX9_turned_34 rfl (lv_at hl 1 rfl) ?_
      refine lv_imul hx hb dX9_turned_35 ?_
      refine lv_iadd hx hb dX9_turned_36 ?_
      refine va_iald hx hb hK hP 14 0 rfl rfl hg.1 dX9_turned_37 ?_
      have hg := hg.2
      refine lv_topi (fun x2_5 ex2_5 => ?_)
      have hg := hg x2_5 ex2_5
      refine lv_istore_n (lv' := [(2, .int x2_5), (0, .ref o0), (1, .int x1)]) hx hb dX9_turned_38 rfl hl (by decide) rfl (fun ls hl => ?_)
      refine lv_aload_n hx hb dX9_turned_39 rfl (lv_at hl 1 rfl) ?_
      refine va_get (D := G.1) (ci := 7) (v := .ref (d0 16)) (C := RX9) (T := TX9) (N := 49) hx hb hT iX9 hown hK hP 0 rfl rfl 16 (by decide) (hT _ q_688) (fun _ h9 => h9) rfl dX9_turned_40 ?_
      refine lv_bipush (v := 96) hx hb dX9_turned_43 (by decide) ?_
      refine lv_iconst (v := 2) hx hb dX9_turned_45 (by decide) ?_
      refine lv_iload_n hx hb dX9_turned_46 rfl (lv_at hl 2 rfl) ?_
      refine lv_imul hx hb dX9_turned_47 ?_
      refine lv_iadd hx hb dX9_turned_48 ?_
      refine lv_aload_n hx hb dX9_turned_49 rfl (lv_at hl 1 rfl) ?_
      refine va_get (D := G.1) (ci := 7) (v := .ref (d0 16)) (C := RX9) (T := TX9) (N := 49) hx hb hT iX9 hown hK hP 0 rfl rfl 16 (by decide) (hT _ q_688) (fun _ h9 => h9) rfl dX9_turned_50 ?_
      refine lv_bipush (v := 96) hx hb dX9_turned_53 (by decide) ?_
      refine lv_iconst (v := 2) hx hb dX9_turned_55 (by decide) ?_
      refine lv_iload_n hx hb dX9_turned_56 rfl (lv_at hl 2 rfl) ?_
      refine lv_imul hx hb dX9_turned_57 ?_
      refine lv_iadd hx hb dX9_turned_58 ?_
      refine lv_iconst (v := 1) hx hb dX9_turned_59 (by decide) ?_
      refine lv_iadd hx hb dX9_turned_60 ?_
      refine va_iald hx hb hK hP 14 0 rfl rfl hg.1 dX9_turned_61 ?_
      have hg := hg.2
      refine z_iast hx hb hK hP hD hS 14 0 rfl rfl hg.1 dX9_turned_62 (zst S0_4 16 (96 + (2 * x1)).toNatClampNeg (S0_4 16 ((96 + (2 * x1)) + 1).toNatClampNeg)) (fun S : ZS => wX9 G o0 d0 S) rfl (fun S0_6 H locs eS0_6 hP hD hS => ?_)
      have hg := hg.2 S0_6 eS0_6
      refine lv_aload_n hx hb dX9_turned_63 rfl (lv_at hl 1 rfl) ?_
      refine va_get (D := G.1) (ci := 7) (v := .ref (d0 16)) (C := RX9) (T := TX9) (N := 49) hx hb hT iX9 hown hK hP 0 rfl rfl 16 (by decide) (hT _ q_688) (fun _ h9 => h9) rfl dX9_turned_64 ?_
      refine lv_bipush (v := 96) hx hb dX9_turned_67 (by decide) ?_
      refine lv_iconst (v := 2) hx hb dX9_turned_69 (by decide) ?_
      refine lv_iload_n hx hb dX9_turned_70 rfl (lv_at hl 2 rfl) ?_
      refine lv_imul hx hb dX9_turned_71 ?_
      refine lv_iadd hx hb dX9_turned_72 ?_
      refine lv_iconst (v := 1) hx hb dX9_turned_73 (by decide) ?_
      refine lv_iadd hx hb dX9_turned_74 ?_
      refine lv_iload_n hx hb dX9_turned_75 rfl (lv_at hl 0 rfl) ?_
      refine z_iast hx hb hK hP hD hS 14 0 rfl rfl hg.1 dX9_turned_76 (zst S0_6 16 ((96 + (2 * x1)) + 1).toNatClampNeg x2_5) (fun S : ZS => wX9 G o0 d0 S) rfl (fun S0_7 H locs eS0_7 hP hD hS => ?_)
      have hg := hg.2 S0_7 eS0_7
      refine lv_aload_n hx hb dX9_turned_77 rfl (lv_at hl 1 rfl) ?_
      refine lv_iconst (v := 0) hx hb dX9_turned_78 (by decide) ?_
      refine zcVv (As := [.int 0]) (rest := []) (C := RX9) Cx (c_X9_finds l G o0 d0 0 S0_7 _ hg) zv_X9_finds q_917 ⟨⟨rfl, rfl⟩, Nat.le_of_ble_eq_true rfl, Nat.le_of_ble_eq_true rfl⟩ (zJ.all hP hD hS hA) hS 7 rfl rfl rfl rfl hl.1 rfl (Nat.le_of_ble_eq_true rfl) dX9_turned_79 (fun S0_8 H locs hg hP hD hS => ?_)
      have hP : va_P G.1 classes (wX9 G o0 d0 S0_8) H := hP
      have hD : va_D A (wX9 G o0 d0 S0_8) := hD
      refine lv_aload_n hx hb dX9_turned_82 rfl (lv_at hl 1 rfl) ?_
      refine zcVi (As := []) (rest := []) (C := RX9) Cx (c_X9_liveBlocks l G o0 d0 S0_8 _ hg) zv_X9_liveBlocks q_993 ⟨⟨rfl, rfl⟩, Nat.le_of_ble_eq_true rfl, Nat.le_of_ble_eq_true rfl⟩ (zJ.all hP hD hS hA) hS 7 rfl rfl rfl rfl hl.1 rfl (Nat.le_of_ble_eq_true rfl) dX9_turned_83 (fun r_9 _u H locs hg hP hD hS => ?_)
      exact hret _ _ _ (S0_8) _ _ hg rfl hP hD hS dX9_turned_86
    · have hg := hg.2 c_3
      refine lv_bipush (v := (-2)) hx hb dX9_turned_20 (by decide) ?_
      exact hret _ _ _ (S0) _ _ hg rfl hP hD hS dX9_turned_22
  · have hg := hg.1 c_2
    refine lv_iconst (v := (-1)) hx hb dX9_turned_8 (by decide) ?_
    exact hret _ _ _ (S0) _ _ hg rfl hP hD hS dX9_turned_9
theorem zv_X9_undo : zV yX9_undo RX9 cX9_undo 1 (some .int) 0 := ⟨q_998, q_999, q_8, q_1000, by decide +kernel⟩
set_option maxHeartbeats 4000000 in
set_option maxRecDepth 100000 in
theorem c_X9_undo (l : Launch) (G : ZG) (o0 : Nat) (d0 : Nat → Nat) (S0 : ZS) (Q : Int32 → ZS → Prop) (hg : g_X9_undo S0 Q) : Ki l G yX9_undo cX9_undo 1 .int rm_X9_undo [.ref o0] (wX9 G o0 d0 S0) (fun u : ZS => wX9 G o0 d0 u) (fun r u => Q r u) := by
  refine Ki.of (by decide) (Nat.le_of_ble_eq_true rfl) ?_
  intro p e s m args below meth c A QQ ls Cx hret hl hP hD hS
  obtain ⟨hx, hb, hml, hown, hT, hK, hA⟩ := id Cx
  have hl : lv_has ls 1 [(0, .ref o0)] := hl
  refine lv_aload_n hx hb dX9_undo_0 rfl (lv_at hl 0 rfl) ?_
  refine va_get (D := G.1) (ci := 7) (v := .int (S0 18 0)) (C := RX9) (T := TX9) (N := 49) hx hb hT iX9 hown hK hP 0 rfl rfl 18 (by decide) (hT _ q_690) (fun _ h9 => h9) rfl dX9_undo_1 ?_
  refine lv_if_ne (tgt := 10) hx hb dX9_undo_4 (by decide) (fun c_1 => ?_) (fun c_1 => ?_)
  · have hg := hg.2 c_1
    refine lv_aload_n hx hb dX9_undo_10 rfl (lv_at hl 0 rfl) ?_
    refine lv_dup hx hb dX9_undo_11 rfl ?_
    refine va_get (D := G.1) (ci := 7) (v := .int (S0 18 0)) (C := RX9) (T := TX9) (N := 49) hx hb hT iX9 hown hK hP 0 rfl rfl 18 (by decide) (hT _ q_690) (fun _ h9 => h9) rfl dX9_undo_12 ?_
    refine lv_iconst (v := 1) hx hb dX9_undo_15 (by decide) ?_
    refine lv_isub hx hb dX9_undo_16 ?_
    refine z_put (D := G.1) (ci := 7) (v := .int ((S0 18 0) - 1)) (ty := .int) (C := RX9) (T := TX9) (N := 49) hx hb hT iX9 tyX9 tyX9_ok nmX9 hown hK hP hD hS 0 rfl rfl 18 (by decide) (hT _ q_690) (fun _ h9 => h9) rfl (by decide +kernel) rfl rfl (Nat.le_of_ble_eq_true rfl) dX9_undo_17 (zst S0 18 0 ((S0 18 0) - 1)) (fun S : ZS => wX9 G o0 d0 S) rfl (fun S0_2 H locs eS0_2 hP hD hS => ?_)
    have hg := hg S0_2 eS0_2
    refine lv_aload_n hx hb dX9_undo_20 rfl (lv_at hl 0 rfl) ?_
    refine va_get (D := G.1) (ci := 7) (v := .ref (d0 17)) (C := RX9) (T := TX9) (N := 49) hx hb hT iX9 hown hK hP 0 rfl rfl 17 (by decide) (hT _ q_689) (fun _ h9 => h9) rfl dX9_undo_21 ?_
    refine lv_bipush (v := 112) hx hb dX9_undo_24 (by decide) ?_
    refine lv_aload_n hx hb dX9_undo_26 rfl (lv_at hl 0 rfl) ?_
    refine va_get (D := G.1) (ci := 7) (v := .int (S0_2 18 0)) (C := RX9) (T := TX9) (N := 49) hx hb hT iX9 hown hK hP 0 rfl rfl 18 (by decide) (hT _ q_690) (fun _ h9 => h9) rfl dX9_undo_27 ?_
    refine lv_imul hx hb dX9_undo_30 ?_
    refine lv_aload_n hx hb dX9_undo_31 rfl (lv_at hl 0 rfl) ?_
    refine va_get (D := G.1) (ci := 7) (v := .ref (d0 16)) (C := RX9) (T := TX9) (N := 49) hx hb hT iX9 hown hK hP 0 rfl rfl 16 (by decide) (hT _ q_688) (fun _ h9 => h9) rfl dX9_undo_32 ?_
    refine lv_iconst (v := 0) hx hb dX9_undo_35 (by decide) ?_
    refine lv_bipush (v := 112) hx hb dX9_undo_36 (by decide) ?_
    refine zcSv (As := [.ref (d0 17), .int (112 * (S0_2 18 0)), .ref (d0 16), .int 0, .int 112]) (rest := []) Cx (c_X9_bring l G (d0 17) (d0 16) 1120 112 (112 * (S0_2 18 0)) 0 112 (S0_2 17) (S0_2 16) _ hg) zv_X9_bring q_906 ⟨⟨rfl, rfl⟩, Nat.le_of_ble_eq_true rfl, Nat.le_of_ble_eq_true rfl⟩ (zJ.sub (wr := [0, 1, 2, 3, 4, 5, 6, 7, 8, 9, 10, 11, 12, 13, 16, 17, 18, 19, 20, 21, 22, 23, 24, 25, 26, 27, 28, 29, 30, 31, 32, 33, 34, 35, 36, 37].filterMap (fun i => (wX9 G o0 d0 S0_2)[i]?)) (w2 := (fun u : ZR => wX9 G o0 d0 ((zrp S0_2 16 u)))) hP hD hS hA [15, 14] [0, 1, 2, 3, 4, 5, 6, 7, 8, 9, 10, 11, 12, 13, 16, 17, 18, 19, 20, 21, 22, 23, 24, 25, 26, 27, 28, 29, 30, 31, 32, 33, 34, 35, 36, 37] [0, 1, 2, 3, 4, 5, 6, 7, 8, 9, 10, 11, 12, 13, 37, 36, 14, 15, 16, 17, 18, 19, 20, 21, 22, 23, 24, 25, 26, 27, 28, 29, 30, 31, 32, 33, 34, 35] rfl rfl (by decide) (fun u => rfl)) hS rfl hl.1 rfl (Nat.le_of_ble_eq_true rfl) dX9_undo_38 (fun f_3 H locs hg hP hD hS => ?_)
    have hP : va_P G.1 classes (wX9 G o0 d0 ((zrp S0_2 16 f_3))) H := hP
    have hD : va_D A (wX9 G o0 d0 ((zrp S0_2 16 f_3))) := hD
    refine lv_aload_n hx hb dX9_undo_41 rfl (lv_at hl 0 rfl) ?_
    refine va_get (D := G.1) (ci := 7) (v := .int (((zrp S0_2 16 f_3) 18 0))) (C := RX9) (T := TX9) (N := 49) hx hb hT iX9 hown hK hP 0 rfl rfl 18 (by decide) (hT _ q_690) (fun _ h9 => h9) rfl dX9_undo_42 ?_
    exact hret _ _ _ ((zrp S0_2 16 f_3)) _ _ hg rfl hP hD hS dX9_undo_45
  · have hg := hg.1 c_1
    refine lv_bipush (v := (-2)) hx hb dX9_undo_7 (by decide) ?_
    exact hret _ _ _ (S0) _ _ hg rfl hP hD hS dX9_undo_9
theorem zv_X9_takes : zV yX9_takes RX9 cX9_takes 5 none 2 := ⟨q_1011, qp_32, q_8, q_1012, by decide +kernel⟩
set_option maxHeartbeats 4000000 in
set_option maxRecDepth 100000 in
theorem c_X9_takes (l : Launch) (G : ZG) (o0 : Nat) (d0 : Nat → Nat) (x1 : Int32) (x2 : Int32) (S0 : ZS) (Q : ZS → Prop) (hg : g_X9_takes x1 x2 S0 Q) : Kv l G yX9_takes cX9_takes 5 rm_X9_takes [.ref o0, .int x1, .int x2] (wX9 G o0 d0 S0) (fun u : ZS => wX9 G o0 d0 u) (fun u => Q u) := by
  refine Kv.of (by decide) (Nat.le_of_ble_eq_true rfl) ?_
  intro p e s m args below meth c A QQ ls Cx hret hl hP hD hS
  obtain ⟨hx, hb, hml, hown, hT, hK, hA⟩ := id Cx
  have hl : lv_has ls 5 [(0, .ref o0), (1, .int x1), (2, .int x2)] := hl
  have L89 : ∀ (n : Nat) (x3 : Int32) (S0 : ZS) (H : Heap) (locs : List Loc) (ls : Array Slot), fx (F_X9_takes_89 x1 x2 Q) n (x3, S0) → va_P G.1 classes (wX9 G o0 d0 S0) H → va_D A (wX9 G o0 d0 S0) → va_S A s.heap H locs → lv_has ls 5 [(0, .ref o0), (1, .int x1), (3, .int x3)] → W p l e rm_X9_takes s m args below meth c H locs 0 0 QQ (F0 m 89 ls []) := by
    intro n
    induction n with
    | zero => intro x3 S0 H locs ls hg; exact hg.elim
    | succ n ih =>
      have hX89 := ih
      intro x3 S0 H locs ls hg hP hD hS hl
      refine lv_iload_n hx hb dX9_takes_89 rfl (lv_at hl 2 rfl) ?_
      refine lv_aload_n hx hb dX9_takes_90 rfl (lv_at hl 0 rfl) ?_
      refine va_get (D := G.1) (ci := 7) (v := .ref (d0 12)) (C := RX9) (T := TX9) (N := 49) hx hb hT iX9 hown hK hP 0 rfl rfl 12 (by decide) (hT _ q_684) (fun _ h9 => h9) rfl dX9_takes_91 ?_
      refine lv_iload_n hx hb dX9_takes_94 rfl (lv_at hl 1 rfl) ?_
      refine lv_iconst (v := 1) hx hb dX9_takes_95 (by decide) ?_
      refine lv_iadd hx hb dX9_takes_96 ?_
      refine va_iald hx hb hK hP 10 0 rfl rfl hg.1 dX9_takes_97 ?_
      have hg := hg.2
      refine lv_icmp_ge (tgt := 138) hx hb dX9_takes_98 (by decide) (fun c_1 => ?_) (fun c_1 => ?_)
      · have hg := hg.1 c_1
        exact hret _ _ (S0) _ _ hg hP hD hS dX9_takes_138
      · have hg := hg.2 c_1
        refine lv_aload_n hx hb dX9_takes_101 rfl (lv_at hl 0 rfl) ?_
        refine va_get (D := G.1) (ci := 7) (v := .ref (d0 45)) (C := RX9) (T := TX9) (N := 49) hx hb hT iX9 hown hK hP 0 rfl rfl 45 (by decide) (hT _ q_717) (fun _ h9 => h9) rfl dX9_takes_102 ?_
        refine lv_iload_n hx hb dX9_takes_105 rfl (lv_at hl 2 rfl) ?_
        refine lv_aload_n hx hb dX9_takes_106 rfl (lv_at hl 0 rfl) ?_
        refine va_get (D := G.1) (ci := 7) (v := .ref (d0 4)) (C := RX9) (T := TX9) (N := 49) hx hb hT iX9 hown hK hP 0 rfl rfl 4 (by decide) (hT _ q_676) (fun _ h9 => h9) rfl dX9_takes_107 ?_
        refine lv_iload_n hx hb dX9_takes_110 rfl (lv_at hl 2 rfl) ?_
        refine va_iald hx hb hK hP 2 0 rfl rfl hg.1 dX9_takes_111 ?_
        have hg := hg.2
        refine lv_iconst (v := 3) hx hb dX9_takes_112 (by decide) ?_
        refine lv_icmp_ne (tgt := 125) hx hb dX9_takes_113 (by decide) (fun c_2 => ?_) (fun c_2 => ?_)
        · have hg := hg.2 c_2
          refine lv_aload_n hx hb dX9_takes_125 rfl (lv_at hl 0 rfl) ?_
          refine va_get (D := G.1) (ci := 7) (v := .ref (d0 45)) (C := RX9) (T := TX9) (N := 49) hx hb hT iX9 hown hK hP 0 rfl rfl 45 (by decide) (hT _ q_717) (fun _ h9 => h9) rfl dX9_takes_126 ?_
          refine lv_iload_n hx hb dX9_takes_129 rfl (lv_at hl 2 rfl) ?_
          refine va_iald hx hb hK hP 35 0 rfl rfl hg.1 dX9_takes_130 ?_
          have hg := hg.2
          refine z_iast hx hb hK hP hD hS 35 0 rfl rfl hg.1 dX9_takes_131 (zst S0 45 x3.toNatClampNeg (S0 45 x3.toNatClampNeg)) (fun S : ZS => wX9 G o0 d0 S) rfl (fun S0_3 H locs eS0_3 hP hD hS => ?_)
          have hg := hg.2 S0_3 eS0_3
          obtain ⟨x3_4, ex3_4⟩ : ∃ y : Int32, y = x3 + 1 := ⟨_, rfl⟩
          have hg := hg x3_4 ex3_4
          refine lv_iinc (v := x3_4) (lv' := [(3, .int x3_4), (0, .ref o0), (1, .int x1)]) hx hb dX9_takes_132 hl (k := 2) rfl (by rw [ex3_4]; rfl) (by decide) rfl (fun ls hl => ?_)
          refine lv_goto (tgt := 89) hx hb dX9_takes_135 (by decide) ?_
          exact hX89 _ _ _ _ _ hg hP hD hS (lv_sub hl [1, 2, 0] rfl)
        · have hg := hg.1 c_2
          refine lv_aload_n hx hb dX9_takes_116 rfl (lv_at hl 0 rfl) ?_
          refine va_get (D := G.1) (ci := 7) (v := .ref (d0 46)) (C := RX9) (T := TX9) (N := 49) hx hb hT iX9 hown hK hP 0 rfl rfl 46 (by decide) (hT _ q_718) (fun _ h9 => h9) rfl dX9_takes_117 ?_
          refine lv_iload_n hx hb dX9_takes_120 rfl (lv_at hl 2 rfl) ?_
          refine va_iald hx hb hK hP 36 0 rfl rfl hg.1 dX9_takes_121 ?_
          have hg := hg.2
          refine lv_goto (tgt := 131) hx hb dX9_takes_122 (by decide) ?_
          refine z_iast hx hb hK hP hD hS 35 0 rfl rfl hg.1 dX9_takes_131 (zst S0 45 x3.toNatClampNeg (S0 46 x3.toNatClampNeg)) (fun S : ZS => wX9 G o0 d0 S) rfl (fun S0_5 H locs eS0_5 hP hD hS => ?_)
          have hg := hg.2 S0_5 eS0_5
          obtain ⟨x3_6, ex3_6⟩ : ∃ y : Int32, y = x3 + 1 := ⟨_, rfl⟩
          have hg := hg x3_6 ex3_6
          refine lv_iinc (v := x3_6) (lv' := [(3, .int x3_6), (0, .ref o0), (1, .int x1)]) hx hb dX9_takes_132 hl (k := 2) rfl (by rw [ex3_6]; rfl) (by decide) rfl (fun ls hl => ?_)
          refine lv_goto (tgt := 89) hx hb dX9_takes_135 (by decide) ?_
          exact hX89 _ _ _ _ _ hg hP hD hS (lv_sub hl [1, 2, 0] rfl)
  have L22 : ∀ (X7 : Int32 × ZS → Prop) (hX7 : ∀ (x3 : Int32) (S0 : ZS) (H : Heap) (locs : List Loc) (ls : Array Slot), X7 (x3, S0) → va_P G.1 classes (wX9 G o0 d0 S0) H → va_D A (wX9 G o0 d0 S0) → va_S A s.heap H locs → lv_has ls 5 [(0, .ref o0), (1, .int x1), (2, .int x2), (3, .int x3)] → W p l e rm_X9_takes s m args below meth c H locs 0 0 QQ (F0 m 7 ls [])) (n : Nat) (x3 : Int32) (x4 : Int32) (S0 : ZS) (H : Heap) (locs : List Loc) (ls : Array Slot), fx (F_X9_takes_22 x1 x2 Q X7) n (x3, x4, S0) → va_P G.1 classes (wX9 G o0 d0 S0) H → va_D A (wX9 G o0 d0 S0) → va_S A s.heap H locs → lv_has ls 5 [(0, .ref o0), (1, .int x1), (2, .int x2), (3, .int x3), (4, .int x4)] → W p l e rm_X9_takes s m args below meth c H locs 0 0 QQ (F0 m 22 ls []) := by
    intro X7 hX7 n
    induction n with
    | zero => intro x3 x4 S0 H locs ls hg; exact hg.elim
    | succ n ih =>
      have hX22 := ih
      intro x3 x4 S0 H locs ls hg hP hD hS hl
      refine lv_iload hx hb dX9_takes_22 (lv_at hl 4 rfl) ?_
      refine lv_aload_n hx hb dX9_takes_24 rfl (lv_at hl 0 rfl) ?_
      refine va_get (D := G.1) (ci := 7) (v := .ref (d0 9)) (C := RX9) (T := TX9) (N := 49) hx hb hT iX9 hown hK hP 0 rfl rfl 9 (by decide) (hT _ q_681) (fun _ h9 => h9) rfl dX9_takes_25 ?_
      refine lv_iload_n hx hb dX9_takes_28 rfl (lv_at hl 3 rfl) ?_
      refine va_iald hx hb hK hP 7 0 rfl rfl hg.1 dX9_takes_29 ?_
      have hg := hg.2
      refine lv_icmp_ge (tgt := 76) hx hb dX9_takes_30 (by decide) (fun c_1 => ?_) (fun c_1 => ?_)
      · have hg := hg.1 c_1
        obtain ⟨x3_2, ex3_2⟩ : ∃ y : Int32, y = x3 + 1 := ⟨_, rfl⟩
        have hg := hg x3_2 ex3_2
        refine lv_iinc (v := x3_2) (lv' := [(3, .int x3_2), (0, .ref o0), (1, .int x1), (2, .int x2), (4, .int x4)]) hx hb dX9_takes_76 hl (k := 3) rfl (by rw [ex3_2]; rfl) (by decide) rfl (fun ls hl => ?_)
        refine lv_goto (tgt := 7) hx hb dX9_takes_79 (by decide) ?_
        exact hX7 _ _ _ _ _ hg hP hD hS (lv_sub hl [1, 2, 3, 0] rfl)
      · have hg := hg.2 c_1
        refine lv_aload_n hx hb dX9_takes_33 rfl (lv_at hl 0 rfl) ?_
        refine va_get (D := G.1) (ci := 7) (v := .ref (d0 10)) (C := RX9) (T := TX9) (N := 49) hx hb hT iX9 hown hK hP 0 rfl rfl 10 (by decide) (hT _ q_682) (fun _ h9 => h9) rfl dX9_takes_34 ?_
        refine lv_iconst (v := 3) hx hb dX9_takes_37 (by decide) ?_
        refine lv_iload_n hx hb dX9_takes_38 rfl (lv_at hl 3 rfl) ?_
        refine lv_imul hx hb dX9_takes_39 ?_
        refine lv_iload hx hb dX9_takes_40 (lv_at hl 4 rfl) ?_
        refine lv_iadd hx hb dX9_takes_42 ?_
        refine va_iald hx hb hK hP 8 0 rfl rfl hg.1 dX9_takes_43 ?_
        have hg := hg.2
        refine lv_iload_n hx hb dX9_takes_44 rfl (lv_at hl 2 rfl) ?_
        refine lv_icmp_ne (tgt := 70) hx hb dX9_takes_45 (by decide) (fun c_3 => ?_) (fun c_3 => ?_)
        · have hg := hg.2 c_3
          obtain ⟨x4_4, ex4_4⟩ : ∃ y : Int32, y = x4 + 1 := ⟨_, rfl⟩
          have hg := hg x4_4 ex4_4
          refine lv_iinc (v := x4_4) (lv' := [(4, .int x4_4), (0, .ref o0), (1, .int x1), (2, .int x2), (3, .int x3)]) hx hb dX9_takes_70 hl (k := 4) rfl (by rw [ex4_4]; rfl) (by decide) rfl (fun ls hl => ?_)
          refine lv_goto (tgt := 22) hx hb dX9_takes_73 (by decide) ?_
          exact hX22 _ _ _ _ _ _ hg hP hD hS (lv_sub hl [1, 2, 3, 4, 0] rfl)
        · have hg := hg.1 c_3
          refine lv_aload_n hx hb dX9_takes_48 rfl (lv_at hl 0 rfl) ?_
          refine va_get (D := G.1) (ci := 7) (v := .ref (d0 46)) (C := RX9) (T := TX9) (N := 49) hx hb hT iX9 hown hK hP 0 rfl rfl 46 (by decide) (hT _ q_718) (fun _ h9 => h9) rfl dX9_takes_49 ?_
          refine lv_iload_n hx hb dX9_takes_52 rfl (lv_at hl 3 rfl) ?_
          refine lv_aload_n hx hb dX9_takes_53 rfl (lv_at hl 0 rfl) ?_
          refine va_get (D := G.1) (ci := 7) (v := .ref (d0 45)) (C := RX9) (T := TX9) (N := 49) hx hb hT iX9 hown hK hP 0 rfl rfl 45 (by decide) (hT _ q_717) (fun _ h9 => h9) rfl dX9_takes_54 ?_
          refine lv_aload_n hx hb dX9_takes_57 rfl (lv_at hl 0 rfl) ?_
          refine va_get (D := G.1) (ci := 7) (v := .ref (d0 11)) (C := RX9) (T := TX9) (N := 49) hx hb hT iX9 hown hK hP 0 rfl rfl 11 (by decide) (hT _ q_683) (fun _ h9 => h9) rfl dX9_takes_58 ?_
          refine lv_iconst (v := 3) hx hb dX9_takes_61 (by decide) ?_
          refine lv_iload_n hx hb dX9_takes_62 rfl (lv_at hl 3 rfl) ?_
          refine lv_imul hx hb dX9_takes_63 ?_
          refine lv_iload hx hb dX9_takes_64 (lv_at hl 4 rfl) ?_
          refine lv_iadd hx hb dX9_takes_66 ?_
          refine va_iald hx hb hK hP 9 0 rfl rfl hg.1 dX9_takes_67 ?_
          have hg := hg.2
          refine va_iald hx hb hK hP 35 0 rfl rfl hg.1 dX9_takes_68 ?_
          have hg := hg.2
          refine z_iast hx hb hK hP hD hS 36 0 rfl rfl hg.1 dX9_takes_69 (zst S0 46 x3.toNatClampNeg (S0 45 (S0 11 ((3 * x3) + x4).toNatClampNeg).toNatClampNeg)) (fun S : ZS => wX9 G o0 d0 S) rfl (fun S0_5 H locs eS0_5 hP hD hS => ?_)
          have hg := hg.2 S0_5 eS0_5
          obtain ⟨x4_6, ex4_6⟩ : ∃ y : Int32, y = x4 + 1 := ⟨_, rfl⟩
          have hg := hg x4_6 ex4_6
          refine lv_iinc (v := x4_6) (lv' := [(4, .int x4_6), (0, .ref o0), (1, .int x1), (2, .int x2), (3, .int x3)]) hx hb dX9_takes_70 hl (k := 4) rfl (by rw [ex4_6]; rfl) (by decide) rfl (fun ls hl => ?_)
          refine lv_goto (tgt := 22) hx hb dX9_takes_73 (by decide) ?_
          exact hX22 _ _ _ _ _ _ hg hP hD hS (lv_sub hl [1, 2, 3, 4, 0] rfl)
  have L7 : ∀ (n : Nat) (x3 : Int32) (S0 : ZS) (H : Heap) (locs : List Loc) (ls : Array Slot), fx (F_X9_takes_7 x1 x2 Q) n (x3, S0) → va_P G.1 classes (wX9 G o0 d0 S0) H → va_D A (wX9 G o0 d0 S0) → va_S A s.heap H locs → lv_has ls 5 [(0, .ref o0), (1, .int x1), (2, .int x2), (3, .int x3)] → W p l e rm_X9_takes s m args below meth c H locs 0 0 QQ (F0 m 7 ls []) := by
    intro n
    induction n with
    | zero => intro x3 S0 H locs ls hg; exact hg.elim
    | succ n ih =>
      have hX7 := ih
      intro x3 S0 H locs ls hg hP hD hS hl
      refine lv_iload_n hx hb dX9_takes_7 rfl (lv_at hl 3 rfl) ?_
      refine lv_aload_n hx hb dX9_takes_8 rfl (lv_at hl 0 rfl) ?_
      refine va_get (D := G.1) (ci := 7) (v := .ref (d0 12)) (C := RX9) (T := TX9) (N := 49) hx hb hT iX9 hown hK hP 0 rfl rfl 12 (by decide) (hT _ q_684) (fun _ h9 => h9) rfl dX9_takes_9 ?_
      refine lv_iload_n hx hb dX9_takes_12 rfl (lv_at hl 1 rfl) ?_
      refine lv_iconst (v := 1) hx hb dX9_takes_13 (by decide) ?_
      refine lv_iadd hx hb dX9_takes_14 ?_
      refine va_iald hx hb hK hP 10 0 rfl rfl hg.1 dX9_takes_15 ?_
      have hg := hg.2
      refine lv_icmp_ge (tgt := 82) hx hb dX9_takes_16 (by decide) (fun c_1 => ?_) (fun c_1 => ?_)
      · have hg := hg.1 c_1
        refine lv_aload_n hx hb dX9_takes_82 rfl (lv_at hl 0 rfl) ?_
        refine va_get (D := G.1) (ci := 7) (v := .ref (d0 12)) (C := RX9) (T := TX9) (N := 49) hx hb hT iX9 hown hK hP 0 rfl rfl 12 (by decide) (hT _ q_684) (fun _ h9 => h9) rfl dX9_takes_83 ?_
        refine lv_iload_n hx hb dX9_takes_86 rfl (lv_at hl 1 rfl) ?_
        refine va_iald hx hb hK hP 10 0 rfl rfl hg.1 dX9_takes_87 ?_
        have hg := hg.2
        refine lv_topi (fun x3_2 ex3_2 => ?_)
        have hg := hg x3_2 ex3_2
        refine lv_istore_n (lv' := [(3, .int x3_2), (0, .ref o0), (1, .int x1), (2, .int x2)]) hx hb dX9_takes_88 rfl hl (by decide) rfl (fun ls hl => ?_)
        obtain ⟨n, hg⟩ := hg
        exact L89 n _ _ _ _ _ hg hP hD hS (lv_sub hl [1, 2, 0] rfl)
      · have hg := hg.2 c_1
        refine lv_iconst (v := 0) hx hb dX9_takes_19 (by decide) ?_
        refine lv_istore (lv' := [(4, .int 0), (0, .ref o0), (1, .int x1), (2, .int x2), (3, .int x3)]) hx hb dX9_takes_20 hl (by decide) rfl (fun ls hl => ?_)
        obtain ⟨n, hg⟩ := hg
        exact L22 _ hX7 n _ _ _ _ _ _ hg hP hD hS (lv_sub hl [1, 2, 3, 4, 0] rfl)
  refine lv_aload_n hx hb dX9_takes_0 rfl (lv_at hl 0 rfl) ?_
  refine va_get (D := G.1) (ci := 7) (v := .ref (d0 12)) (C := RX9) (T := TX9) (N := 49) hx hb hT iX9 hown hK hP 0 rfl rfl 12 (by decide) (hT _ q_684) (fun _ h9 => h9) rfl dX9_takes_1 ?_
  refine lv_iload_n hx hb dX9_takes_4 rfl (lv_at hl 1 rfl) ?_
  refine va_iald hx hb hK hP 10 0 rfl rfl hg.1 dX9_takes_5 ?_
  have hg := hg.2
  refine lv_topi (fun x3_1 ex3_1 => ?_)
  have hg := hg x3_1 ex3_1
  refine lv_istore_n (lv' := [(3, .int x3_1), (0, .ref o0), (1, .int x1), (2, .int x2)]) hx hb dX9_takes_6 rfl hl (by decide) rfl (fun ls hl => ?_)
  obtain ⟨n, hg⟩ := hg
  exact L7 n _ _ _ _ _ hg hP hD hS (lv_sub hl [1, 2, 3, 0] rfl)
theorem zv_X9_makes : zV yX9_makes RX9 cX9_makes 4 (some .int) 1 := ⟨q_1015, qp_33, q_8, q_1016, by decide +kernel⟩
set_option maxHeartbeats 4000000 in
set_option maxRecDepth 100000 in
theorem c_X9_makes (l : Launch) (G : ZG) (o0 : Nat) (d0 : Nat → Nat) (x1 : Int32) (S0 : ZS) (Q : Int32 → ZS → Prop) (hg : g_X9_makes x1 S0 Q) : Ki l G yX9_makes cX9_makes 4 .int rm_X9_makes [.ref o0, .int x1] (wX9 G o0 d0 S0) (fun u : ZS => wX9 G o0 d0 u) (fun r u => Q r u) := by
  refine Ki.of (by decide) (Nat.le_of_ble_eq_true rfl) ?_
  intro p e s m args below meth c A QQ ls Cx hret hl hP hD hS
  obtain ⟨hx, hb, hml, hown, hT, hK, hA⟩ := id Cx
  have hl : lv_has ls 4 [(0, .ref o0), (1, .int x1)] := hl
  have L7 : ∀ (n : Nat) (x2 : Int32) (S0 : ZS) (H : Heap) (locs : List Loc) (ls : Array Slot), fx (F_X9_makes_7 x1 Q) n (x2, S0) → va_P G.1 classes (wX9 G o0 d0 S0) H → va_D A (wX9 G o0 d0 S0) → va_S A s.heap H locs → lv_has ls 4 [(0, .ref o0), (1, .int x1), (2, .int x2)] → W p l e rm_X9_makes s m args below meth c H locs 0 0 QQ (F0 m 7 ls []) := by
    intro n
    induction n with
    | zero => intro x2 S0 H locs ls hg; exact hg.elim
    | succ n ih =>
      have hX7 := ih
      intro x2 S0 H locs ls hg hP hD hS hl
      refine lv_iload_n hx hb dX9_makes_7 rfl (lv_at hl 2 rfl) ?_
      refine lv_aload_n hx hb dX9_makes_8 rfl (lv_at hl 0 rfl) ?_
      refine va_get (D := G.1) (ci := 7) (v := .ref (d0 12)) (C := RX9) (T := TX9) (N := 49) hx hb hT iX9 hown hK hP 0 rfl rfl 12 (by decide) (hT _ q_684) (fun _ h9 => h9) rfl dX9_makes_9 ?_
      refine lv_iload_n hx hb dX9_makes_12 rfl (lv_at hl 1 rfl) ?_
      refine lv_iconst (v := 1) hx hb dX9_makes_13 (by decide) ?_
      refine lv_iadd hx hb dX9_makes_14 ?_
      refine va_iald hx hb hK hP 10 0 rfl rfl hg.1 dX9_makes_15 ?_
      have hg := hg.2
      refine lv_icmp_ge (tgt := 163) hx hb dX9_makes_16 (by decide) (fun c_1 => ?_) (fun c_1 => ?_)
      · have hg := hg.1 c_1
        refine lv_bipush (v := (-9)) hx hb dX9_makes_163 (by decide) ?_
        exact hret _ _ _ (S0) _ _ hg rfl hP hD hS dX9_makes_165
      · have hg := hg.2 c_1
        refine lv_aload_n hx hb dX9_makes_19 rfl (lv_at hl 0 rfl) ?_
        refine va_get (D := G.1) (ci := 7) (v := .ref (d0 4)) (C := RX9) (T := TX9) (N := 49) hx hb hT iX9 hown hK hP 0 rfl rfl 4 (by decide) (hT _ q_676) (fun _ h9 => h9) rfl dX9_makes_20 ?_
        refine lv_iload_n hx hb dX9_makes_23 rfl (lv_at hl 2 rfl) ?_
        refine va_iald hx hb hK hP 2 0 rfl rfl hg.1 dX9_makes_24 ?_
        have hg := hg.2
        refine lv_iconst (v := 2) hx hb dX9_makes_25 (by decide) ?_
        refine lv_icmp_ne (tgt := 81) hx hb dX9_makes_26 (by decide) (fun c_2 => ?_) (fun c_2 => ?_)
        · have hg := hg.2 c_2
          refine lv_aload_n hx hb dX9_makes_81 rfl (lv_at hl 0 rfl) ?_
          refine va_get (D := G.1) (ci := 7) (v := .ref (d0 4)) (C := RX9) (T := TX9) (N := 49) hx hb hT iX9 hown hK hP 0 rfl rfl 4 (by decide) (hT _ q_676) (fun _ h9 => h9) rfl dX9_makes_82 ?_
          refine lv_iload_n hx hb dX9_makes_85 rfl (lv_at hl 2 rfl) ?_
          refine va_iald hx hb hK hP 2 0 rfl rfl hg.1 dX9_makes_86 ?_
          have hg := hg.2
          refine lv_if_ne (tgt := 108) hx hb dX9_makes_87 (by decide) (fun c_3 => ?_) (fun c_3 => ?_)
          · have hg := hg.2 c_3
            refine lv_aload_n hx hb dX9_makes_108 rfl (lv_at hl 0 rfl) ?_
            refine va_get (D := G.1) (ci := 7) (v := .ref (d0 4)) (C := RX9) (T := TX9) (N := 49) hx hb hT iX9 hown hK hP 0 rfl rfl 4 (by decide) (hT _ q_676) (fun _ h9 => h9) rfl dX9_makes_109 ?_
            refine lv_iload_n hx hb dX9_makes_112 rfl (lv_at hl 2 rfl) ?_
            refine va_iald hx hb hK hP 2 0 rfl rfl hg.1 dX9_makes_113 ?_
            have hg := hg.2
            refine lv_iconst (v := 1) hx hb dX9_makes_114 (by decide) ?_
            refine lv_icmp_ne (tgt := 157) hx hb dX9_makes_115 (by decide) (fun c_4 => ?_) (fun c_4 => ?_)
            · have hg := hg.2 c_4
              obtain ⟨x2_5, ex2_5⟩ : ∃ y : Int32, y = x2 + 1 := ⟨_, rfl⟩
              have hg := hg x2_5 ex2_5
              refine lv_iinc (v := x2_5) (lv' := [(2, .int x2_5), (0, .ref o0), (1, .int x1)]) hx hb dX9_makes_157 hl (k := 2) rfl (by rw [ex2_5]; rfl) (by decide) rfl (fun ls hl => ?_)
              refine lv_goto (tgt := 7) hx hb dX9_makes_160 (by decide) ?_
              exact hX7 _ _ _ _ _ hg hP hD hS (lv_sub hl [1, 2, 0] rfl)
            · have hg := hg.1 c_4
              refine lv_aload_n hx hb dX9_makes_118 rfl (lv_at hl 0 rfl) ?_
              refine va_get (D := G.1) (ci := 7) (v := .ref (d0 45)) (C := RX9) (T := TX9) (N := 49) hx hb hT iX9 hown hK hP 0 rfl rfl 45 (by decide) (hT _ q_717) (fun _ h9 => h9) rfl dX9_makes_119 ?_
              refine lv_iload_n hx hb dX9_makes_122 rfl (lv_at hl 2 rfl) ?_
              refine lv_aload_n hx hb dX9_makes_123 rfl (lv_at hl 0 rfl) ?_
              refine va_get (D := G.1) (ci := 7) (v := .ref (d0 16)) (C := RX9) (T := TX9) (N := 49) hx hb hT iX9 hown hK hP 0 rfl rfl 16 (by decide) (hT _ q_688) (fun _ h9 => h9) rfl dX9_makes_124 ?_
              refine lv_iconst (v := 0) hx hb dX9_makes_127 (by decide) ?_
              refine lv_iload_n hx hb dX9_makes_128 rfl (lv_at hl 2 rfl) ?_
              refine lv_iadd hx hb dX9_makes_129 ?_
              refine va_iald hx hb hK hP 14 0 rfl rfl hg.1 dX9_makes_130 ?_
              have hg := hg.2
              refine lv_iconst (v := 1) hx hb dX9_makes_131 (by decide) ?_
              refine lv_icmp_ne (tgt := 147) hx hb dX9_makes_132 (by decide) (fun c_6 => ?_) (fun c_6 => ?_)
              · have hg := hg.2 c_6
                refine lv_aload_n hx hb dX9_makes_147 rfl (lv_at hl 0 rfl) ?_
                refine va_get (D := G.1) (ci := 7) (v := .ref (d0 16)) (C := RX9) (T := TX9) (N := 49) hx hb hT iX9 hown hK hP 0 rfl rfl 16 (by decide) (hT _ q_688) (fun _ h9 => h9) rfl dX9_makes_148 ?_
                refine lv_bipush (v := 48) hx hb dX9_makes_151 (by decide) ?_
                refine lv_iload_n hx hb dX9_makes_153 rfl (lv_at hl 2 rfl) ?_
                refine lv_iadd hx hb dX9_makes_154 ?_
                refine va_iald hx hb hK hP 14 0 rfl rfl hg.1 dX9_makes_155 ?_
                have hg := hg.2
                refine z_iast hx hb hK hP hD hS 35 0 rfl rfl hg.1 dX9_makes_156 (zst S0 45 x2.toNatClampNeg (S0 16 (48 + x2).toNatClampNeg)) (fun S : ZS => wX9 G o0 d0 S) rfl (fun S0_7 H locs eS0_7 hP hD hS => ?_)
                have hg := hg.2 S0_7 eS0_7
                obtain ⟨x2_8, ex2_8⟩ : ∃ y : Int32, y = x2 + 1 := ⟨_, rfl⟩
                have hg := hg x2_8 ex2_8
                refine lv_iinc (v := x2_8) (lv' := [(2, .int x2_8), (0, .ref o0), (1, .int x1)]) hx hb dX9_makes_157 hl (k := 2) rfl (by rw [ex2_8]; rfl) (by decide) rfl (fun ls hl => ?_)
                refine lv_goto (tgt := 7) hx hb dX9_makes_160 (by decide) ?_
                exact hX7 _ _ _ _ _ hg hP hD hS (lv_sub hl [1, 2, 0] rfl)
              · have hg := hg.1 c_6
                refine lv_aload_n hx hb dX9_makes_135 rfl (lv_at hl 0 rfl) ?_
                refine va_get (D := G.1) (ci := 7) (v := .ref (d0 16)) (C := RX9) (T := TX9) (N := 49) hx hb hT iX9 hown hK hP 0 rfl rfl 16 (by decide) (hT _ q_688) (fun _ h9 => h9) rfl dX9_makes_136 ?_
                refine lv_bipush (v := 24) hx hb dX9_makes_139 (by decide) ?_
                refine lv_iload_n hx hb dX9_makes_141 rfl (lv_at hl 2 rfl) ?_
                refine lv_iadd hx hb dX9_makes_142 ?_
                refine va_iald hx hb hK hP 14 0 rfl rfl hg.1 dX9_makes_143 ?_
                have hg := hg.2
                refine lv_goto (tgt := 156) hx hb dX9_makes_144 (by decide) ?_
                refine z_iast hx hb hK hP hD hS 35 0 rfl rfl hg.1 dX9_makes_156 (zst S0 45 x2.toNatClampNeg (S0 16 (24 + x2).toNatClampNeg)) (fun S : ZS => wX9 G o0 d0 S) rfl (fun S0_9 H locs eS0_9 hP hD hS => ?_)
                have hg := hg.2 S0_9 eS0_9
                obtain ⟨x2_10, ex2_10⟩ : ∃ y : Int32, y = x2 + 1 := ⟨_, rfl⟩
                have hg := hg x2_10 ex2_10
                refine lv_iinc (v := x2_10) (lv' := [(2, .int x2_10), (0, .ref o0), (1, .int x1)]) hx hb dX9_makes_157 hl (k := 2) rfl (by rw [ex2_10]; rfl) (by decide) rfl (fun ls hl => ?_)
                refine lv_goto (tgt := 7) hx hb dX9_makes_160 (by decide) ?_
                exact hX7 _ _ _ _ _ hg hP hD hS (lv_sub hl [1, 2, 0] rfl)
          · have hg := hg.1 c_3
            refine lv_aload_n hx hb dX9_makes_90 rfl (lv_at hl 0 rfl) ?_
            refine va_get (D := G.1) (ci := 7) (v := .ref (d0 45)) (C := RX9) (T := TX9) (N := 49) hx hb hT iX9 hown hK hP 0 rfl rfl 45 (by decide) (hT _ q_717) (fun _ h9 => h9) rfl dX9_makes_91 ?_
            refine lv_iload_n hx hb dX9_makes_94 rfl (lv_at hl 2 rfl) ?_
            refine lv_aload_n hx hb dX9_makes_95 rfl (lv_at hl 0 rfl) ?_
            refine va_get (D := G.1) (ci := 7) (v := .ref (d0 16)) (C := RX9) (T := TX9) (N := 49) hx hb hT iX9 hown hK hP 0 rfl rfl 16 (by decide) (hT _ q_688) (fun _ h9 => h9) rfl dX9_makes_96 ?_
            refine lv_bipush (v := 72) hx hb dX9_makes_99 (by decide) ?_
            refine lv_iload_n hx hb dX9_makes_101 rfl (lv_at hl 2 rfl) ?_
            refine lv_iadd hx hb dX9_makes_102 ?_
            refine va_iald hx hb hK hP 14 0 rfl rfl hg.1 dX9_makes_103 ?_
            have hg := hg.2
            refine z_iast hx hb hK hP hD hS 35 0 rfl rfl hg.1 dX9_makes_104 (zst S0 45 x2.toNatClampNeg (S0 16 (72 + x2).toNatClampNeg)) (fun S : ZS => wX9 G o0 d0 S) rfl (fun S0_11 H locs eS0_11 hP hD hS => ?_)
            have hg := hg.2 S0_11 eS0_11
            refine lv_goto (tgt := 157) hx hb dX9_makes_105 (by decide) ?_
            obtain ⟨x2_12, ex2_12⟩ : ∃ y : Int32, y = x2 + 1 := ⟨_, rfl⟩
            have hg := hg x2_12 ex2_12
            refine lv_iinc (v := x2_12) (lv' := [(2, .int x2_12), (0, .ref o0), (1, .int x1)]) hx hb dX9_makes_157 hl (k := 2) rfl (by rw [ex2_12]; rfl) (by decide) rfl (fun ls hl => ?_)
            refine lv_goto (tgt := 7) hx hb dX9_makes_160 (by decide) ?_
            exact hX7 _ _ _ _ _ hg hP hD hS (lv_sub hl [1, 2, 0] rfl)
        · have hg := hg.1 c_2
          refine lv_aload_n hx hb dX9_makes_29 rfl (lv_at hl 0 rfl) ?_
          refine lv_aload_n hx hb dX9_makes_30 rfl (lv_at hl 0 rfl) ?_
          refine va_get (D := G.1) (ci := 7) (v := .ref (d0 6)) (C := RX9) (T := TX9) (N := 49) hx hb hT iX9 hown hK hP 0 rfl rfl 6 (by decide) (hT _ q_678) (fun _ h9 => h9) rfl dX9_makes_31 ?_
          refine lv_iload_n hx hb dX9_makes_34 rfl (lv_at hl 2 rfl) ?_
          refine va_iald hx hb hK hP 4 0 rfl rfl hg.1 dX9_makes_35 ?_
          have hg := hg.2
          refine lv_aload_n hx hb dX9_makes_36 rfl (lv_at hl 0 rfl) ?_
          refine va_get (D := G.1) (ci := 7) (v := .ref (d0 45)) (C := RX9) (T := TX9) (N := 49) hx hb hT iX9 hown hK hP 0 rfl rfl 45 (by decide) (hT _ q_717) (fun _ h9 => h9) rfl dX9_makes_37 ?_
          refine lv_aload_n hx hb dX9_makes_40 rfl (lv_at hl 0 rfl) ?_
          refine va_get (D := G.1) (ci := 7) (v := .ref (d0 7)) (C := RX9) (T := TX9) (N := 49) hx hb hT iX9 hown hK hP 0 rfl rfl 7 (by decide) (hT _ q_679) (fun _ h9 => h9) rfl dX9_makes_41 ?_
          refine lv_iload_n hx hb dX9_makes_44 rfl (lv_at hl 2 rfl) ?_
          refine va_iald hx hb hK hP 5 0 rfl rfl hg.1 dX9_makes_45 ?_
          have hg := hg.2
          refine va_iald hx hb hK hP 35 0 rfl rfl hg.1 dX9_makes_46 ?_
          have hg := hg.2
          refine lv_aload_n hx hb dX9_makes_47 rfl (lv_at hl 0 rfl) ?_
          refine va_get (D := G.1) (ci := 7) (v := .ref (d0 45)) (C := RX9) (T := TX9) (N := 49) hx hb hT iX9 hown hK hP 0 rfl rfl 45 (by decide) (hT _ q_717) (fun _ h9 => h9) rfl dX9_makes_48 ?_
          refine lv_aload_n hx hb dX9_makes_51 rfl (lv_at hl 0 rfl) ?_
          refine va_get (D := G.1) (ci := 7) (v := .ref (d0 8)) (C := RX9) (T := TX9) (N := 49) hx hb hT iX9 hown hK hP 0 rfl rfl 8 (by decide) (hT _ q_680) (fun _ h9 => h9) rfl dX9_makes_52 ?_
          refine lv_iload_n hx hb dX9_makes_55 rfl (lv_at hl 2 rfl) ?_
          refine va_iald hx hb hK hP 6 0 rfl rfl hg.1 dX9_makes_56 ?_
          have hg := hg.2
          refine va_iald hx hb hK hP 35 0 rfl rfl hg.1 dX9_makes_57 ?_
          have hg := hg.2
          refine zcVi (As := [.int (S0 6 x2.toNatClampNeg), .int (S0 45 (S0 7 x2.toNatClampNeg).toNatClampNeg), .int (S0 45 (S0 8 x2.toNatClampNeg).toNatClampNeg)]) (rest := []) (C := RX9) Cx (c_X9_doneBy l G o0 d0 (S0 6 x2.toNatClampNeg) (S0 45 (S0 7 x2.toNatClampNeg).toNatClampNeg) (S0 45 (S0 8 x2.toNatClampNeg).toNatClampNeg) S0 _ hg) zv_X9_doneBy q_929 ⟨⟨rfl, rfl⟩, Nat.le_of_ble_eq_true rfl, Nat.le_of_ble_eq_true rfl⟩ (zJ.all hP hD hS hA) hS 7 rfl rfl rfl rfl hl.1 rfl (Nat.le_of_ble_eq_true rfl) dX9_makes_58 (fun r_14 S0_13 H locs hg hP hD hS => ?_)
          have hP : va_P G.1 classes (wX9 G o0 d0 S0_13) H := hP
          have hD : va_D A (wX9 G o0 d0 S0_13) := hD
          refine lv_istore_n (lv' := [(3, .int r_14), (0, .ref o0), (1, .int x1), (2, .int x2)]) hx hb dX9_makes_61 rfl hl (by decide) rfl (fun ls hl => ?_)
          refine lv_aload_n hx hb dX9_makes_62 rfl (lv_at hl 1 rfl) ?_
          refine va_get (D := G.1) (ci := 7) (v := .int (S0_13 44 0)) (C := RX9) (T := TX9) (N := 49) hx hb hT iX9 hown hK hP 0 rfl rfl 44 (by decide) (hT _ q_716) (fun _ h9 => h9) rfl dX9_makes_63 ?_
          refine lv_if_eq (tgt := 71) hx hb dX9_makes_66 (by decide) (fun c_15 => ?_) (fun c_15 => ?_)
          · have hg := hg.1 c_15
            refine lv_aload_n hx hb dX9_makes_71 rfl (lv_at hl 1 rfl) ?_
            refine va_get (D := G.1) (ci := 7) (v := .ref (d0 45)) (C := RX9) (T := TX9) (N := 49) hx hb hT iX9 hown hK hP 0 rfl rfl 45 (by decide) (hT _ q_717) (fun _ h9 => h9) rfl dX9_makes_72 ?_
            refine lv_iload_n hx hb dX9_makes_75 rfl (lv_at hl 3 rfl) ?_
            refine lv_iload_n hx hb dX9_makes_76 rfl (lv_at hl 0 rfl) ?_
            refine z_iast hx hb hK hP hD hS 35 0 rfl rfl hg.1 dX9_makes_77 (zst S0_13 45 x2.toNatClampNeg r_14) (fun S : ZS => wX9 G o0 d0 S) rfl (fun S0_16 H locs eS0_16 hP hD hS => ?_)
            have hg := hg.2 S0_16 eS0_16
            refine lv_goto (tgt := 157) hx hb dX9_makes_78 (by decide) ?_
            obtain ⟨x2_17, ex2_17⟩ : ∃ y : Int32, y = x2 + 1 := ⟨_, rfl⟩
            have hg := hg x2_17 ex2_17
            refine lv_iinc (v := x2_17) (lv' := [(2, .int x2_17), (3, .int r_14), (0, .ref o0), (1, .int x1)]) hx hb dX9_makes_157 hl (k := 3) rfl (by rw [ex2_17]; rfl) (by decide) rfl (fun ls hl => ?_)
            refine lv_goto (tgt := 7) hx hb dX9_makes_160 (by decide) ?_
            exact hX7 _ _ _ _ _ hg hP hD hS (lv_sub hl [2, 3, 0] rfl)
          · have hg := hg.2 c_15
            refine lv_iload_n hx hb dX9_makes_69 rfl (lv_at hl 3 rfl) ?_
            exact hret _ _ _ (S0_13) _ _ hg rfl hP hD hS dX9_makes_70
  refine lv_aload_n hx hb dX9_makes_0 rfl (lv_at hl 0 rfl) ?_
  refine va_get (D := G.1) (ci := 7) (v := .ref (d0 12)) (C := RX9) (T := TX9) (N := 49) hx hb hT iX9 hown hK hP 0 rfl rfl 12 (by decide) (hT _ q_684) (fun _ h9 => h9) rfl dX9_makes_1 ?_
  refine lv_iload_n hx hb dX9_makes_4 rfl (lv_at hl 1 rfl) ?_
  refine va_iald hx hb hK hP 10 0 rfl rfl hg.1 dX9_makes_5 ?_
  have hg := hg.2
  refine lv_topi (fun x2_1 ex2_1 => ?_)
  have hg := hg x2_1 ex2_1
  refine lv_istore_n (lv' := [(2, .int x2_1), (0, .ref o0), (1, .int x1)]) hx hb dX9_makes_6 rfl hl (by decide) rfl (fun ls hl => ?_)
  obtain ⟨n, hg⟩ := hg
  exact L7 n _ _ _ _ _ hg hP hD hS (lv_sub hl [1, 2, 0] rfl)
theorem zv_X9_runs : zV yX9_runs RX9 cX9_runs 5 (some .int) 0 := ⟨q_1007, qp_31, q_8, q_1008, by decide +kernel⟩
set_option maxHeartbeats 4000000 in
set_option maxRecDepth 100000 in
theorem c_X9_runs (l : Launch) (G : ZG) (o0 : Nat) (d0 : Nat → Nat) (S0 : ZS) (Q : Int32 → ZS → Prop) (hg : g_X9_runs S0 Q) : Ki l G yX9_runs cX9_runs 5 .int rm_X9_runs [.ref o0] (wX9 G o0 d0 S0) (fun u : ZS => wX9 G o0 d0 u) (fun r u => Q r u) := by
  refine Ki.of (by decide) (Nat.le_of_ble_eq_true rfl) ?_
  intro p e s m args below meth c A QQ ls Cx hret hl hP hD hS
  obtain ⟨hx, hb, hml, hown, hT, hK, hA⟩ := id Cx
  have hl : lv_has ls 5 [(0, .ref o0)] := hl
  have L54 : ∀ (n : Nat) (x1 : Int32) (x2 : Int32) (x3 : Int32) (S0 : ZS) (H : Heap) (locs : List Loc) (ls : Array Slot), fx (F_X9_runs_54 Q) n (x1, x2, x3, S0) → va_P G.1 classes (wX9 G o0 d0 S0) H → va_D A (wX9 G o0 d0 S0) → va_S A s.heap H locs → lv_has ls 5 [(0, .ref o0), (1, .int x1), (2, .int x2), (3, .int x3)] → W p l e rm_X9_runs s m args below meth c H locs 0 0 QQ (F0 m 54 ls []) := by
    intro n
    induction n with
    | zero => intro x1 x2 x3 S0 H locs ls hg; exact hg.elim
    | succ n ih =>
      have hX54 := ih
      intro x1 x2 x3 S0 H locs ls hg hP hD hS hl
      refine lv_iload_n hx hb dX9_runs_54 rfl (lv_at hl 3 rfl) ?_
      refine lv_bipush (v := 60) hx hb dX9_runs_55 (by decide) ?_
      refine lv_icmp_ge (tgt := 175) hx hb dX9_runs_57 (by decide) (fun c_1 => ?_) (fun c_1 => ?_)
      · have hg := hg.1 c_1
        refine lv_iconst (v := 2) hx hb dX9_runs_175 (by decide) ?_
        exact hret _ _ _ (S0) _ _ hg rfl hP hD hS dX9_runs_176
      · have hg := hg.2 c_1
        refine lv_aload_n hx hb dX9_runs_60 rfl (lv_at hl 0 rfl) ?_
        refine va_get (D := G.1) (ci := 7) (v := .ref (d0 47)) (C := RX9) (T := TX9) (N := 49) hx hb hT iX9 hown hK hP 0 rfl rfl 47 (by decide) (hT _ q_719) (fun _ h9 => h9) rfl dX9_runs_61 ?_
        refine lv_iload_n hx hb dX9_runs_64 rfl (lv_at hl 2 rfl) ?_
        refine lv_dup2_11 hx hb dX9_runs_65 rfl rfl ?_
        refine va_iald hx hb hK hP 37 0 rfl rfl hg.1 dX9_runs_66 ?_
        have hg := hg.2
        refine lv_iconst (v := 1) hx hb dX9_runs_67 (by decide) ?_
        refine lv_iadd hx hb dX9_runs_68 ?_
        refine z_iast hx hb hK hP hD hS 37 0 rfl rfl hg.1 dX9_runs_69 (zst S0 47 x2.toNatClampNeg ((S0 47 x2.toNatClampNeg) + 1)) (fun S : ZS => wX9 G o0 d0 S) rfl (fun S0_2 H locs eS0_2 hP hD hS => ?_)
        have hg := hg.2 S0_2 eS0_2
        refine lv_aload_n hx hb dX9_runs_70 rfl (lv_at hl 0 rfl) ?_
        refine lv_iload_n hx hb dX9_runs_71 rfl (lv_at hl 2 rfl) ?_
        refine lv_iload_n hx hb dX9_runs_72 rfl (lv_at hl 1 rfl) ?_
        refine zcVv (As := [.int x2, .int x1]) (rest := []) (C := RX9) Cx (c_X9_takes l G o0 d0 x2 x1 S0_2 _ hg) zv_X9_takes q_1009 ⟨⟨rfl, rfl⟩, Nat.le_of_ble_eq_true rfl, Nat.le_of_ble_eq_true rfl⟩ (zJ.all hP hD hS hA) hS 7 rfl rfl rfl rfl hl.1 rfl (Nat.le_of_ble_eq_true rfl) dX9_runs_73 (fun S0_3 H locs hg hP hD hS => ?_)
        have hP : va_P G.1 classes (wX9 G o0 d0 S0_3) H := hP
        have hD : va_D A (wX9 G o0 d0 S0_3) := hD
        refine lv_aload_n hx hb dX9_runs_76 rfl (lv_at hl 0 rfl) ?_
        refine lv_iload_n hx hb dX9_runs_77 rfl (lv_at hl 2 rfl) ?_
        refine zcVi (As := [.int x2]) (rest := []) (C := RX9) Cx (c_X9_makes l G o0 d0 x2 S0_3 _ hg) zv_X9_makes q_1013 ⟨⟨rfl, rfl⟩, Nat.le_of_ble_eq_true rfl, Nat.le_of_ble_eq_true rfl⟩ (zJ.all hP hD hS hA) hS 7 rfl rfl rfl rfl hl.1 rfl (Nat.le_of_ble_eq_true rfl) dX9_runs_78 (fun r_5 S0_4 H locs hg hP hD hS => ?_)
        have hP : va_P G.1 classes (wX9 G o0 d0 S0_4) H := hP
        have hD : va_D A (wX9 G o0 d0 S0_4) := hD
        refine lv_istore (lv' := [(4, .int r_5), (0, .ref o0), (1, .int x1), (2, .int x2), (3, .int x3)]) hx hb dX9_runs_81 hl (by decide) rfl (fun ls hl => ?_)
        refine lv_iload hx hb dX9_runs_83 (lv_at hl 0 rfl) ?_
        refine lv_bipush (v := (-9)) hx hb dX9_runs_85 (by decide) ?_
        refine lv_icmp_eq (tgt := 98) hx hb dX9_runs_87 (by decide) (fun c_6 => ?_) (fun c_6 => ?_)
        · have hg := hg.1 c_6
          refine lv_aload_n hx hb dX9_runs_98 rfl (lv_at hl 1 rfl) ?_
          refine va_get (D := G.1) (ci := 7) (v := .ref (d0 13)) (C := RX9) (T := TX9) (N := 49) hx hb hT iX9 hown hK hP 0 rfl rfl 13 (by decide) (hT _ q_685) (fun _ h9 => h9) rfl dX9_runs_99 ?_
          refine lv_iload_n hx hb dX9_runs_102 rfl (lv_at hl 3 rfl) ?_
          refine va_iald hx hb hK hP 11 0 rfl rfl hg.1 dX9_runs_103 ?_
          have hg := hg.2
          refine lv_iconst (v := 2) hx hb dX9_runs_104 (by decide) ?_
          refine lv_icmp_ne (tgt := 125) hx hb dX9_runs_105 (by decide) (fun c_7 => ?_) (fun c_7 => ?_)
          · have hg := hg.2 c_7
            refine lv_iload_n hx hb dX9_runs_125 rfl (lv_at hl 3 rfl) ?_
            refine lv_istore_n (lv' := [(1, .int x2), (4, .int r_5), (0, .ref o0), (2, .int x2), (3, .int x3)]) hx hb dX9_runs_126 rfl hl (by decide) rfl (fun ls hl => ?_)
            refine lv_aload_n hx hb dX9_runs_127 rfl (lv_at hl 2 rfl) ?_
            refine va_get (D := G.1) (ci := 7) (v := .ref (d0 16)) (C := RX9) (T := TX9) (N := 49) hx hb hT iX9 hown hK hP 0 rfl rfl 16 (by decide) (hT _ q_688) (fun _ h9 => h9) rfl dX9_runs_128 ?_
            refine lv_bipush (v := 96) hx hb dX9_runs_131 (by decide) ?_
            refine lv_iconst (v := 2) hx hb dX9_runs_133 (by decide) ?_
            refine lv_iload_n hx hb dX9_runs_134 rfl (lv_at hl 3 rfl) ?_
            refine lv_imul hx hb dX9_runs_135 ?_
            refine lv_iadd hx hb dX9_runs_136 ?_
            refine lv_aload_n hx hb dX9_runs_137 rfl (lv_at hl 2 rfl) ?_
            refine va_get (D := G.1) (ci := 7) (v := .ref (d0 13)) (C := RX9) (T := TX9) (N := 49) hx hb hT iX9 hown hK hP 0 rfl rfl 13 (by decide) (hT _ q_685) (fun _ h9 => h9) rfl dX9_runs_138 ?_
            refine lv_iload_n hx hb dX9_runs_141 rfl (lv_at hl 3 rfl) ?_
            refine va_iald hx hb hK hP 11 0 rfl rfl hg.1 dX9_runs_142 ?_
            have hg := hg.2
            refine lv_iconst (v := 1) hx hb dX9_runs_143 (by decide) ?_
            refine lv_icmp_ne (tgt := 165) hx hb dX9_runs_144 (by decide) (fun c_8 => ?_) (fun c_8 => ?_)
            · have hg := hg.2 c_8
              refine lv_iconst (v := 0) hx hb dX9_runs_165 (by decide) ?_
              refine lv_iadd hx hb dX9_runs_166 ?_
              refine va_iald hx hb hK hP 14 0 rfl rfl hg.1 dX9_runs_167 ?_
              have hg := hg.2
              refine lv_topi (fun x2_9 ex2_9 => ?_)
              have hg := hg x2_9 ex2_9
              refine lv_istore_n (lv' := [(2, .int x2_9), (1, .int x2), (4, .int r_5), (0, .ref o0), (3, .int x3)]) hx hb dX9_runs_168 rfl hl (by decide) rfl (fun ls hl => ?_)
              obtain ⟨x3_10, ex3_10⟩ : ∃ y : Int32, y = x3 + 1 := ⟨_, rfl⟩
              have hg := hg x3_10 ex3_10
              refine lv_iinc (v := x3_10) (lv' := [(3, .int x3_10), (2, .int x2_9), (1, .int x2), (4, .int r_5), (0, .ref o0)]) hx hb dX9_runs_169 hl (k := 4) rfl (by rw [ex3_10]; rfl) (by decide) rfl (fun ls hl => ?_)
              refine lv_goto (tgt := 54) hx hb dX9_runs_172 (by decide) ?_
              exact hX54 _ _ _ _ _ _ _ hg hP hD hS (lv_sub hl [4, 2, 1, 0] rfl)
            · have hg := hg.1 c_8
              refine lv_aload_n hx hb dX9_runs_147 rfl (lv_at hl 2 rfl) ?_
              refine va_get (D := G.1) (ci := 7) (v := .ref (d0 45)) (C := RX9) (T := TX9) (N := 49) hx hb hT iX9 hown hK hP 0 rfl rfl 45 (by decide) (hT _ q_717) (fun _ h9 => h9) rfl dX9_runs_148 ?_
              refine lv_aload_n hx hb dX9_runs_151 rfl (lv_at hl 2 rfl) ?_
              refine va_get (D := G.1) (ci := 7) (v := .ref (d0 14)) (C := RX9) (T := TX9) (N := 49) hx hb hT iX9 hown hK hP 0 rfl rfl 14 (by decide) (hT _ q_686) (fun _ h9 => h9) rfl dX9_runs_152 ?_
              refine lv_iload_n hx hb dX9_runs_155 rfl (lv_at hl 3 rfl) ?_
              refine va_iald hx hb hK hP 12 0 rfl rfl hg.1 dX9_runs_156 ?_
              have hg := hg.2
              refine va_iald hx hb hK hP 35 0 rfl rfl hg.1 dX9_runs_157 ?_
              have hg := hg.2
              refine lv_if_ne (tgt := 165) hx hb dX9_runs_158 (by decide) (fun c_11 => ?_) (fun c_11 => ?_)
              · have hg := hg.2 c_11
                refine lv_iconst (v := 0) hx hb dX9_runs_165 (by decide) ?_
                refine lv_iadd hx hb dX9_runs_166 ?_
                refine va_iald hx hb hK hP 14 0 rfl rfl hg.1 dX9_runs_167 ?_
                have hg := hg.2
                refine lv_topi (fun x2_12 ex2_12 => ?_)
                have hg := hg x2_12 ex2_12
                refine lv_istore_n (lv' := [(2, .int x2_12), (1, .int x2), (4, .int r_5), (0, .ref o0), (3, .int x3)]) hx hb dX9_runs_168 rfl hl (by decide) rfl (fun ls hl => ?_)
                obtain ⟨x3_13, ex3_13⟩ : ∃ y : Int32, y = x3 + 1 := ⟨_, rfl⟩
                have hg := hg x3_13 ex3_13
                refine lv_iinc (v := x3_13) (lv' := [(3, .int x3_13), (2, .int x2_12), (1, .int x2), (4, .int r_5), (0, .ref o0)]) hx hb dX9_runs_169 hl (k := 4) rfl (by rw [ex3_13]; rfl) (by decide) rfl (fun ls hl => ?_)
                refine lv_goto (tgt := 54) hx hb dX9_runs_172 (by decide) ?_
                exact hX54 _ _ _ _ _ _ _ hg hP hD hS (lv_sub hl [4, 2, 1, 0] rfl)
              · have hg := hg.1 c_11
                refine lv_iconst (v := 1) hx hb dX9_runs_161 (by decide) ?_
                refine lv_goto (tgt := 166) hx hb dX9_runs_162 (by decide) ?_
                refine lv_iadd hx hb dX9_runs_166 ?_
                refine va_iald hx hb hK hP 14 0 rfl rfl hg.1 dX9_runs_167 ?_
                have hg := hg.2
                refine lv_topi (fun x2_14 ex2_14 => ?_)
                have hg := hg x2_14 ex2_14
                refine lv_istore_n (lv' := [(2, .int x2_14), (1, .int x2), (4, .int r_5), (0, .ref o0), (3, .int x3)]) hx hb dX9_runs_168 rfl hl (by decide) rfl (fun ls hl => ?_)
                obtain ⟨x3_15, ex3_15⟩ : ∃ y : Int32, y = x3 + 1 := ⟨_, rfl⟩
                have hg := hg x3_15 ex3_15
                refine lv_iinc (v := x3_15) (lv' := [(3, .int x3_15), (2, .int x2_14), (1, .int x2), (4, .int r_5), (0, .ref o0)]) hx hb dX9_runs_169 hl (k := 4) rfl (by rw [ex3_15]; rfl) (by decide) rfl (fun ls hl => ?_)
                refine lv_goto (tgt := 54) hx hb dX9_runs_172 (by decide) ?_
                exact hX54 _ _ _ _ _ _ _ hg hP hD hS (lv_sub hl [4, 2, 1, 0] rfl)
          · have hg := hg.1 c_7
            refine lv_aload_n hx hb dX9_runs_108 rfl (lv_at hl 1 rfl) ?_
            refine lv_aload_n hx hb dX9_runs_109 rfl (lv_at hl 1 rfl) ?_
            refine va_get (D := G.1) (ci := 7) (v := .ref (d0 45)) (C := RX9) (T := TX9) (N := 49) hx hb hT iX9 hown hK hP 0 rfl rfl 45 (by decide) (hT _ q_717) (fun _ h9 => h9) rfl dX9_runs_110 ?_
            refine lv_aload_n hx hb dX9_runs_113 rfl (lv_at hl 1 rfl) ?_
            refine va_get (D := G.1) (ci := 7) (v := .ref (d0 14)) (C := RX9) (T := TX9) (N := 49) hx hb hT iX9 hown hK hP 0 rfl rfl 14 (by decide) (hT _ q_686) (fun _ h9 => h9) rfl dX9_runs_114 ?_
            refine lv_iload_n hx hb dX9_runs_117 rfl (lv_at hl 3 rfl) ?_
            refine va_iald hx hb hK hP 12 0 rfl rfl hg.1 dX9_runs_118 ?_
            have hg := hg.2
            refine va_iald hx hb hK hP 35 0 rfl rfl hg.1 dX9_runs_119 ?_
            have hg := hg.2
            refine z_put (D := G.1) (ci := 7) (v := .int (S0_4 45 (S0_4 14 x2.toNatClampNeg).toNatClampNeg)) (ty := .int) (C := RX9) (T := TX9) (N := 49) hx hb hT iX9 tyX9 tyX9_ok nmX9 hown hK hP hD hS 0 rfl rfl 48 (by decide) (hT _ q_720) (fun _ h9 => h9) rfl (by decide +kernel) rfl rfl (Nat.le_of_ble_eq_true rfl) dX9_runs_120 (zst S0_4 48 0 (S0_4 45 (S0_4 14 x2.toNatClampNeg).toNatClampNeg)) (fun S : ZS => wX9 G o0 d0 S) rfl (fun S0_16 H locs eS0_16 hP hD hS => ?_)
            have hg := hg S0_16 eS0_16
            refine lv_iconst (v := 0) hx hb dX9_runs_123 (by decide) ?_
            exact hret _ _ _ (S0_16) _ _ hg rfl hP hD hS dX9_runs_124
        · have hg := hg.2 c_6
          refine lv_aload_n hx hb dX9_runs_90 rfl (lv_at hl 1 rfl) ?_
          refine lv_iload hx hb dX9_runs_91 (lv_at hl 0 rfl) ?_
          refine z_put (D := G.1) (ci := 7) (v := .int r_5) (ty := .int) (C := RX9) (T := TX9) (N := 49) hx hb hT iX9 tyX9 tyX9_ok nmX9 hown hK hP hD hS 0 rfl rfl 48 (by decide) (hT _ q_720) (fun _ h9 => h9) rfl (by decide +kernel) rfl rfl (Nat.le_of_ble_eq_true rfl) dX9_runs_93 (zst S0_4 48 0 r_5) (fun S : ZS => wX9 G o0 d0 S) rfl (fun S0_17 H locs eS0_17 hP hD hS => ?_)
          have hg := hg S0_17 eS0_17
          refine lv_iconst (v := 1) hx hb dX9_runs_96 (by decide) ?_
          exact hret _ _ _ (S0_17) _ _ hg rfl hP hD hS dX9_runs_97
  have L23 : ∀ (n : Nat) (x1 : Int32) (S0 : ZS) (H : Heap) (locs : List Loc) (ls : Array Slot), fx (F_X9_runs_23 Q) n (x1, S0) → va_P G.1 classes (wX9 G o0 d0 S0) H → va_D A (wX9 G o0 d0 S0) → va_S A s.heap H locs → lv_has ls 5 [(0, .ref o0), (1, .int x1)] → W p l e rm_X9_runs s m args below meth c H locs 0 0 QQ (F0 m 23 ls []) := by
    intro n
    induction n with
    | zero => intro x1 S0 H locs ls hg; exact hg.elim
    | succ n ih =>
      have hX23 := ih
      intro x1 S0 H locs ls hg hP hD hS hl
      refine lv_iload_n hx hb dX9_runs_23 rfl (lv_at hl 1 rfl) ?_
      refine lv_bipush (v := 8) hx hb dX9_runs_24 (by decide) ?_
      refine lv_icmp_ge (tgt := 42) hx hb dX9_runs_26 (by decide) (fun c_1 => ?_) (fun c_1 => ?_)
      · have hg := hg.1 c_1
        refine lv_bipush (v := (-9)) hx hb dX9_runs_42 (by decide) ?_
        refine lv_istore_n (lv' := [(1, .int (-9)), (0, .ref o0)]) hx hb dX9_runs_44 rfl hl (by decide) rfl (fun ls hl => ?_)
        refine lv_iconst (v := 0) hx hb dX9_runs_45 (by decide) ?_
        refine lv_istore_n (lv' := [(2, .int 0), (1, .int (-9)), (0, .ref o0)]) hx hb dX9_runs_46 rfl hl (by decide) rfl (fun ls hl => ?_)
        refine lv_aload_n hx hb dX9_runs_47 rfl (lv_at hl 2 rfl) ?_
        refine lv_iconst (v := 0) hx hb dX9_runs_48 (by decide) ?_
        refine z_put (D := G.1) (ci := 7) (v := .int 0) (ty := .int) (C := RX9) (T := TX9) (N := 49) hx hb hT iX9 tyX9 tyX9_ok nmX9 hown hK hP hD hS 0 rfl rfl 48 (by decide) (hT _ q_720) (fun _ h9 => h9) rfl (by decide +kernel) rfl rfl (Nat.le_of_ble_eq_true rfl) dX9_runs_49 (zst S0 48 0 0) (fun S : ZS => wX9 G o0 d0 S) rfl (fun S0_2 H locs eS0_2 hP hD hS => ?_)
        have hg := hg S0_2 eS0_2
        refine lv_iconst (v := 0) hx hb dX9_runs_52 (by decide) ?_
        refine lv_istore_n (lv' := [(3, .int 0), (2, .int 0), (1, .int (-9)), (0, .ref o0)]) hx hb dX9_runs_53 rfl hl (by decide) rfl (fun ls hl => ?_)
        obtain ⟨n, hg⟩ := hg
        exact L54 n _ _ _ _ _ _ _ hg hP hD hS (lv_sub hl [3, 2, 1, 0] rfl)
      · have hg := hg.2 c_1
        refine lv_aload_n hx hb dX9_runs_29 rfl (lv_at hl 0 rfl) ?_
        refine va_get (D := G.1) (ci := 7) (v := .ref (d0 47)) (C := RX9) (T := TX9) (N := 49) hx hb hT iX9 hown hK hP 0 rfl rfl 47 (by decide) (hT _ q_719) (fun _ h9 => h9) rfl dX9_runs_30 ?_
        refine lv_iload_n hx hb dX9_runs_33 rfl (lv_at hl 1 rfl) ?_
        refine lv_iconst (v := 0) hx hb dX9_runs_34 (by decide) ?_
        refine z_iast hx hb hK hP hD hS 37 0 rfl rfl hg.1 dX9_runs_35 (zst S0 47 x1.toNatClampNeg 0) (fun S : ZS => wX9 G o0 d0 S) rfl (fun S0_3 H locs eS0_3 hP hD hS => ?_)
        have hg := hg.2 S0_3 eS0_3
        obtain ⟨x1_4, ex1_4⟩ : ∃ y : Int32, y = x1 + 1 := ⟨_, rfl⟩
        have hg := hg x1_4 ex1_4
        refine lv_iinc (v := x1_4) (lv' := [(1, .int x1_4), (0, .ref o0)]) hx hb dX9_runs_36 hl (k := 1) rfl (by rw [ex1_4]; rfl) (by decide) rfl (fun ls hl => ?_)
        refine lv_goto (tgt := 23) hx hb dX9_runs_39 (by decide) ?_
        exact hX23 _ _ _ _ _ hg hP hD hS (lv_sub hl [1, 0] rfl)
  have L2 : ∀ (n : Nat) (x1 : Int32) (S0 : ZS) (H : Heap) (locs : List Loc) (ls : Array Slot), fx (F_X9_runs_2 Q) n (x1, S0) → va_P G.1 classes (wX9 G o0 d0 S0) H → va_D A (wX9 G o0 d0 S0) → va_S A s.heap H locs → lv_has ls 5 [(0, .ref o0), (1, .int x1)] → W p l e rm_X9_runs s m args below meth c H locs 0 0 QQ (F0 m 2 ls []) := by
    intro n
    induction n with
    | zero => intro x1 S0 H locs ls hg; exact hg.elim
    | succ n ih =>
      have hX2 := ih
      intro x1 S0 H locs ls hg hP hD hS hl
      refine lv_iload_n hx hb dX9_runs_2 rfl (lv_at hl 1 rfl) ?_
      refine lv_bipush (v := 24) hx hb dX9_runs_3 (by decide) ?_
      refine lv_icmp_ge (tgt := 21) hx hb dX9_runs_5 (by decide) (fun c_1 => ?_) (fun c_1 => ?_)
      · have hg := hg.1 c_1
        refine lv_iconst (v := 0) hx hb dX9_runs_21 (by decide) ?_
        refine lv_istore_n (lv' := [(1, .int 0), (0, .ref o0)]) hx hb dX9_runs_22 rfl hl (by decide) rfl (fun ls hl => ?_)
        obtain ⟨n, hg⟩ := hg
        exact L23 n _ _ _ _ _ hg hP hD hS (lv_sub hl [1, 0] rfl)
      · have hg := hg.2 c_1
        refine lv_aload_n hx hb dX9_runs_8 rfl (lv_at hl 0 rfl) ?_
        refine va_get (D := G.1) (ci := 7) (v := .ref (d0 45)) (C := RX9) (T := TX9) (N := 49) hx hb hT iX9 hown hK hP 0 rfl rfl 45 (by decide) (hT _ q_717) (fun _ h9 => h9) rfl dX9_runs_9 ?_
        refine lv_iload_n hx hb dX9_runs_12 rfl (lv_at hl 1 rfl) ?_
        refine lv_iconst (v := 0) hx hb dX9_runs_13 (by decide) ?_
        refine z_iast hx hb hK hP hD hS 35 0 rfl rfl hg.1 dX9_runs_14 (zst S0 45 x1.toNatClampNeg 0) (fun S : ZS => wX9 G o0 d0 S) rfl (fun S0_2 H locs eS0_2 hP hD hS => ?_)
        have hg := hg.2 S0_2 eS0_2
        obtain ⟨x1_3, ex1_3⟩ : ∃ y : Int32, y = x1 + 1 := ⟨_, rfl⟩
        have hg := hg x1_3 ex1_3
        refine lv_iinc (v := x1_3) (lv' := [(1, .int x1_3), (0, .ref o0)]) hx hb dX9_runs_15 hl (k := 1) rfl (by rw [ex1_3]; rfl) (by decide) rfl (fun ls hl => ?_)
        refine lv_goto (tgt := 2) hx hb dX9_runs_18 (by decide) ?_
        exact hX2 _ _ _ _ _ hg hP hD hS (lv_sub hl [1, 0] rfl)
  refine lv_iconst (v := 0) hx hb dX9_runs_0 (by decide) ?_
  refine lv_istore_n (lv' := [(1, .int 0), (0, .ref o0)]) hx hb dX9_runs_1 rfl hl (by decide) rfl (fun ls hl => ?_)
  obtain ⟨n, hg⟩ := hg
  exact L2 n _ _ _ _ _ hg hP hD hS (lv_sub hl [1, 0] rfl)
theorem zv_X9_run : zV yX9_run RX9 cX9_run 2 (some .int) 0 := ⟨q_1002, q_1003, q_8, q_1004, by decide +kernel⟩
set_option maxHeartbeats 4000000 in
set_option maxRecDepth 100000 in
theorem c_X9_run (l : Launch) (G : ZG) (o0 : Nat) (d0 : Nat → Nat) (S0 : ZS) (Q : Int32 → ZS → Prop) (hg : g_X9_run S0 Q) : Ki l G yX9_run cX9_run 2 .int rm_X9_run [.ref o0] (wX9 G o0 d0 S0) (fun u : ZS => wX9 G o0 d0 u) (fun r u => Q r u) := by
  refine Ki.of (by decide) (Nat.le_of_ble_eq_true rfl) ?_
  intro p e s m args below meth c A QQ ls Cx hret hl hP hD hS
  obtain ⟨hx, hb, hml, hown, hT, hK, hA⟩ := id Cx
  have hl : lv_has ls 2 [(0, .ref o0)] := hl
  refine lv_aload_n hx hb dX9_run_0 rfl (lv_at hl 0 rfl) ?_
  refine va_get (D := G.1) (ci := 7) (v := .int (S0 3 0)) (C := RX9) (T := TX9) (N := 49) hx hb hT iX9 hown hK hP 0 rfl rfl 3 (by decide) (hT _ q_675) (fun _ h9 => h9) rfl dX9_run_1 ?_
  refine lv_if_ne (tgt := 10) hx hb dX9_run_4 (by decide) (fun c_1 => ?_) (fun c_1 => ?_)
  · have hg := hg.2 c_1
    refine lv_aload_n hx hb dX9_run_10 rfl (lv_at hl 0 rfl) ?_
    refine zcVi (As := []) (rest := []) (C := RX9) Cx (c_X9_runs l G o0 d0 S0 _ hg) zv_X9_runs q_1005 ⟨⟨rfl, rfl⟩, Nat.le_of_ble_eq_true rfl, Nat.le_of_ble_eq_true rfl⟩ (zJ.all hP hD hS hA) hS 7 rfl rfl rfl rfl hl.1 rfl (Nat.le_of_ble_eq_true rfl) dX9_run_11 (fun r_3 S0_2 H locs hg hP hD hS => ?_)
    have hP : va_P G.1 classes (wX9 G o0 d0 S0_2) H := hP
    have hD : va_D A (wX9 G o0 d0 S0_2) := hD
    refine lv_istore_n (lv' := [(1, .int r_3), (0, .ref o0)]) hx hb dX9_run_14 rfl hl (by decide) rfl (fun ls hl => ?_)
    refine lv_aload_n hx hb dX9_run_15 rfl (lv_at hl 1 rfl) ?_
    refine lv_aload_n hx hb dX9_run_16 rfl (lv_at hl 1 rfl) ?_
    refine va_get (D := G.1) (ci := 7) (v := .int (S0_2 48 0)) (C := RX9) (T := TX9) (N := 49) hx hb hT iX9 hown hK hP 0 rfl rfl 48 (by decide) (hT _ q_720) (fun _ h9 => h9) rfl dX9_run_17 ?_
    refine lv_iload_n hx hb dX9_run_20 rfl (lv_at hl 0 rfl) ?_
    refine zcVi (As := [.int (S0_2 48 0), .int r_3]) (rest := []) (C := RX9) Cx (c_X9_tells l G o0 d0 (S0_2 48 0) r_3 S0_2 _ hg) zv_X9_tells q_949 ⟨⟨rfl, rfl⟩, Nat.le_of_ble_eq_true rfl, Nat.le_of_ble_eq_true rfl⟩ (zJ.all hP hD hS hA) hS 7 rfl rfl rfl rfl hl.1 rfl (Nat.le_of_ble_eq_true rfl) dX9_run_21 (fun r_5 S0_4 H locs hg hP hD hS => ?_)
    have hP : va_P G.1 classes (wX9 G o0 d0 S0_4) H := hP
    have hD : va_D A (wX9 G o0 d0 S0_4) := hD
    exact hret _ _ _ (S0_4) _ _ hg rfl hP hD hS dX9_run_24
  · have hg := hg.1 c_1
    refine lv_bipush (v := (-2)) hx hb dX9_run_7 (by decide) ?_
    exact hret _ _ _ (S0) _ _ hg rfl hP hD hS dX9_run_9
theorem zv_X9_visits : zV yX9_visits RX9 cX9_visits 2 (some .int) 1 := ⟨q_1018, q_1019, q_8, q_1020, by decide +kernel⟩
set_option maxHeartbeats 4000000 in
set_option maxRecDepth 100000 in
theorem c_X9_visits (l : Launch) (G : ZG) (o0 : Nat) (d0 : Nat → Nat) (x1 : Int32) (S0 : ZS) (Q : Int32 → ZS → Prop) (hg : g_X9_visits x1 S0 Q) : Ki l G yX9_visits cX9_visits 2 .int rm_X9_visits [.ref o0, .int x1] (wX9 G o0 d0 S0) (fun u : ZS => wX9 G o0 d0 u) (fun r u => Q r u) := by
  refine Ki.of (by decide) (Nat.le_of_ble_eq_true rfl) ?_
  intro p e s m args below meth c A QQ ls Cx hret hl hP hD hS
  obtain ⟨hx, hb, hml, hown, hT, hK, hA⟩ := id Cx
  have hl : lv_has ls 2 [(0, .ref o0), (1, .int x1)] := hl
  refine lv_aload_n hx hb dX9_visits_0 rfl (lv_at hl 0 rfl) ?_
  refine lv_iload_n hx hb dX9_visits_1 rfl (lv_at hl 1 rfl) ?_
  refine zcVi (As := [.int x1]) (rest := []) (C := RX9) Cx (c_X9_isBlock l G o0 d0 x1 S0 _ hg) zv_X9_isBlock q_957 ⟨⟨rfl, rfl⟩, Nat.le_of_ble_eq_true rfl, Nat.le_of_ble_eq_true rfl⟩ (zJ.all hP hD hS hA) hS 7 rfl rfl rfl rfl hl.1 rfl (Nat.le_of_ble_eq_true rfl) dX9_visits_2 (fun r_1 _u H locs hg hP hD hS => ?_)
  refine lv_if_ne (tgt := 10) hx hb dX9_visits_5 (by decide) (fun c_2 => ?_) (fun c_2 => ?_)
  · have hg := hg.2 c_2
    refine lv_aload_n hx hb dX9_visits_10 rfl (lv_at hl 0 rfl) ?_
    refine zcVi (As := []) (rest := []) (C := RX9) Cx (c_X9_runs l G o0 d0 S0 _ hg) zv_X9_runs q_1005 ⟨⟨rfl, rfl⟩, Nat.le_of_ble_eq_true rfl, Nat.le_of_ble_eq_true rfl⟩ (zJ.all hP hD hS hA) hS 7 rfl rfl rfl rfl hl.1 rfl (Nat.le_of_ble_eq_true rfl) dX9_visits_11 (fun r_4 S0_3 H locs hg hP hD hS => ?_)
    have hP : va_P G.1 classes (wX9 G o0 d0 S0_3) H := hP
    have hD : va_D A (wX9 G o0 d0 S0_3) := hD
    refine lv_pop hx hb dX9_visits_14 rfl ?_
    refine lv_aload_n hx hb dX9_visits_15 rfl (lv_at hl 0 rfl) ?_
    refine va_get (D := G.1) (ci := 7) (v := .ref (d0 47)) (C := RX9) (T := TX9) (N := 49) hx hb hT iX9 hown hK hP 0 rfl rfl 47 (by decide) (hT _ q_719) (fun _ h9 => h9) rfl dX9_visits_16 ?_
    refine lv_iload_n hx hb dX9_visits_19 rfl (lv_at hl 1 rfl) ?_
    refine va_iald hx hb hK hP 37 0 rfl rfl hg.1 dX9_visits_20 ?_
    have hg := hg.2
    exact hret _ _ _ (S0_3) _ _ hg rfl hP hD hS dX9_visits_21
  · have hg := hg.1 c_2
    refine lv_iconst (v := (-1)) hx hb dX9_visits_8 (by decide) ?_
    exact hret _ _ _ (S0) _ _ hg rfl hP hD hS dX9_visits_9
theorem zv_X9_last : zV yX9_last RX9 cX9_last 2 (some .int) 1 := ⟨q_1022, q_1023, q_8, q_1024, by decide +kernel⟩
set_option maxHeartbeats 4000000 in
set_option maxRecDepth 100000 in
theorem c_X9_last (l : Launch) (G : ZG) (o0 : Nat) (d0 : Nat → Nat) (x1 : Int32) (S0 : ZS) (Q : Int32 → ZS → Prop) (hg : g_X9_last x1 S0 Q) : Ki l G yX9_last cX9_last 2 .int rm_X9_last [.ref o0, .int x1] (wX9 G o0 d0 S0) (fun u : ZS => wX9 G o0 d0 u) (fun r u => Q r u) := by
  refine Ki.of (by decide) (Nat.le_of_ble_eq_true rfl) ?_
  intro p e s m args below meth c A QQ ls Cx hret hl hP hD hS
  obtain ⟨hx, hb, hml, hown, hT, hK, hA⟩ := id Cx
  have hl : lv_has ls 2 [(0, .ref o0), (1, .int x1)] := hl
  refine lv_aload_n hx hb dX9_last_0 rfl (lv_at hl 0 rfl) ?_
  refine lv_iload_n hx hb dX9_last_1 rfl (lv_at hl 1 rfl) ?_
  refine zcVi (As := [.int x1]) (rest := []) (C := RX9) Cx (c_X9_isName l G o0 d0 x1 S0 _ hg) zv_X9_isName q_913 ⟨⟨rfl, rfl⟩, Nat.le_of_ble_eq_true rfl, Nat.le_of_ble_eq_true rfl⟩ (zJ.all hP hD hS hA) hS 7 rfl rfl rfl rfl hl.1 rfl (Nat.le_of_ble_eq_true rfl) dX9_last_2 (fun r_1 _u H locs hg hP hD hS => ?_)
  refine lv_if_ne (tgt := 10) hx hb dX9_last_5 (by decide) (fun c_2 => ?_) (fun c_2 => ?_)
  · have hg := hg.2 c_2
    refine lv_aload_n hx hb dX9_last_10 rfl (lv_at hl 0 rfl) ?_
    refine zcVi (As := []) (rest := []) (C := RX9) Cx (c_X9_runs l G o0 d0 S0 _ hg) zv_X9_runs q_1005 ⟨⟨rfl, rfl⟩, Nat.le_of_ble_eq_true rfl, Nat.le_of_ble_eq_true rfl⟩ (zJ.all hP hD hS hA) hS 7 rfl rfl rfl rfl hl.1 rfl (Nat.le_of_ble_eq_true rfl) dX9_last_11 (fun r_4 S0_3 H locs hg hP hD hS => ?_)
    have hP : va_P G.1 classes (wX9 G o0 d0 S0_3) H := hP
    have hD : va_D A (wX9 G o0 d0 S0_3) := hD
    refine lv_pop hx hb dX9_last_14 rfl ?_
    refine lv_aload_n hx hb dX9_last_15 rfl (lv_at hl 0 rfl) ?_
    refine lv_aload_n hx hb dX9_last_16 rfl (lv_at hl 0 rfl) ?_
    refine va_get (D := G.1) (ci := 7) (v := .ref (d0 45)) (C := RX9) (T := TX9) (N := 49) hx hb hT iX9 hown hK hP 0 rfl rfl 45 (by decide) (hT _ q_717) (fun _ h9 => h9) rfl dX9_last_17 ?_
    refine lv_iload_n hx hb dX9_last_20 rfl (lv_at hl 1 rfl) ?_
    refine va_iald hx hb hK hP 35 0 rfl rfl hg.1 dX9_last_21 ?_
    have hg := hg.2
    refine lv_iconst (v := 1) hx hb dX9_last_22 (by decide) ?_
    refine zcVi (As := [.int (S0_3 45 x1.toNatClampNeg), .int 1]) (rest := []) (C := RX9) Cx (c_X9_tells l G o0 d0 (S0_3 45 x1.toNatClampNeg) 1 S0_3 _ hg) zv_X9_tells q_949 ⟨⟨rfl, rfl⟩, Nat.le_of_ble_eq_true rfl, Nat.le_of_ble_eq_true rfl⟩ (zJ.all hP hD hS hA) hS 7 rfl rfl rfl rfl hl.1 rfl (Nat.le_of_ble_eq_true rfl) dX9_last_23 (fun r_6 S0_5 H locs hg hP hD hS => ?_)
    have hP : va_P G.1 classes (wX9 G o0 d0 S0_5) H := hP
    have hD : va_D A (wX9 G o0 d0 S0_5) := hD
    exact hret _ _ _ (S0_5) _ _ hg rfl hP hD hS dX9_last_26
  · have hg := hg.1 c_2
    refine lv_iconst (v := (-1)) hx hb dX9_last_8 (by decide) ?_
    exact hret _ _ _ (S0) _ _ hg rfl hP hD hS dX9_last_9
theorem zv_X9_edges : zV yX9_edges RX9 cX9_edges 5 (some .int) 1 := ⟨q_1031, qp_34, q_8, q_1032, by decide +kernel⟩
set_option maxHeartbeats 4000000 in
set_option maxRecDepth 100000 in
theorem c_X9_edges (l : Launch) (G : ZG) (o0 : Nat) (d0 : Nat → Nat) (x1 : Int32) (S0 : ZS) (Q : Int32 → Prop) (hg : g_X9_edges x1 S0 Q) : Ki l G yX9_edges cX9_edges 5 .int rm_X9_edges [.ref o0, .int x1] (wX9 G o0 d0 S0) (fun _ : Unit => wX9 G o0 d0 S0) (fun r _ => Q r ) := by
  refine Ki.of (by decide) (Nat.le_of_ble_eq_true rfl) ?_
  intro p e s m args below meth c A QQ ls Cx hret hl hP hD hS
  obtain ⟨hx, hb, hml, hown, hT, hK, hA⟩ := id Cx
  have hl : lv_has ls 5 [(0, .ref o0), (1, .int x1)] := hl
  have L15 : ∀ (X4 : Int32 × Int32 → Prop) (hX4 : ∀ (x2 : Int32) (x3 : Int32) (H : Heap) (locs : List Loc) (ls : Array Slot), X4 (x2, x3) → va_P G.1 classes (wX9 G o0 d0 S0) H → va_D A (wX9 G o0 d0 S0) → va_S A s.heap H locs → lv_has ls 5 [(0, .ref o0), (1, .int x1), (2, .int x2), (3, .int x3)] → W p l e rm_X9_edges s m args below meth c H locs 0 0 QQ (F0 m 4 ls [])) (n : Nat) (x2 : Int32) (x3 : Int32) (x4 : Int32) (H : Heap) (locs : List Loc) (ls : Array Slot), fx (F_X9_edges_15 x1 S0 Q X4) n (x2, x3, x4) → va_P G.1 classes (wX9 G o0 d0 S0) H → va_D A (wX9 G o0 d0 S0) → va_S A s.heap H locs → lv_has ls 5 [(0, .ref o0), (1, .int x1), (2, .int x2), (3, .int x3), (4, .int x4)] → W p l e rm_X9_edges s m args below meth c H locs 0 0 QQ (F0 m 15 ls []) := by
    intro X4 hX4 n
    induction n with
    | zero => intro x2 x3 x4 H locs ls hg; exact hg.elim
    | succ n ih =>
      have hX15 := ih
      intro x2 x3 x4 H locs ls hg hP hD hS hl
      refine lv_iload hx hb dX9_edges_15 (lv_at hl 4 rfl) ?_
      refine lv_iconst (v := 2) hx hb dX9_edges_17 (by decide) ?_
      refine lv_icmp_ge (tgt := 69) hx hb dX9_edges_18 (by decide) (fun c_1 => ?_) (fun c_1 => ?_)
      · have hg := hg.1 c_1
        obtain ⟨x3_2, ex3_2⟩ : ∃ y : Int32, y = x3 + 1 := ⟨_, rfl⟩
        have hg := hg x3_2 ex3_2
        refine lv_iinc (v := x3_2) (lv' := [(3, .int x3_2), (0, .ref o0), (1, .int x1), (2, .int x2), (4, .int x4)]) hx hb dX9_edges_69 hl (k := 3) rfl (by rw [ex3_2]; rfl) (by decide) rfl (fun ls hl => ?_)
        refine lv_goto (tgt := 4) hx hb dX9_edges_72 (by decide) ?_
        exact hX4 _ _ _ _ _ hg hP hD hS (lv_sub hl [1, 2, 3, 0] rfl)
      · have hg := hg.2 c_1
        refine lv_iload_n hx hb dX9_edges_21 rfl (lv_at hl 2 rfl) ?_
        refine lv_aload_n hx hb dX9_edges_22 rfl (lv_at hl 0 rfl) ?_
        refine va_get (D := G.1) (ci := 7) (v := .ref (d0 16)) (C := RX9) (T := TX9) (N := 49) hx hb hT iX9 hown hK hP 0 rfl rfl 16 (by decide) (hT _ q_688) (fun _ h9 => h9) rfl dX9_edges_23 ?_
        refine lv_bipush (v := 96) hx hb dX9_edges_26 (by decide) ?_
        refine lv_iconst (v := 2) hx hb dX9_edges_28 (by decide) ?_
        refine lv_iload_n hx hb dX9_edges_29 rfl (lv_at hl 3 rfl) ?_
        refine lv_imul hx hb dX9_edges_30 ?_
        refine lv_iadd hx hb dX9_edges_31 ?_
        refine lv_iload hx hb dX9_edges_32 (lv_at hl 4 rfl) ?_
        refine lv_iadd hx hb dX9_edges_34 ?_
        refine va_iald hx hb hK hP 14 0 rfl rfl hg.1 dX9_edges_35 ?_
        have hg := hg.2
        refine lv_bipush (v := (-9)) hx hb dX9_edges_36 (by decide) ?_
        refine lv_icmp_eq (tgt := 60) hx hb dX9_edges_38 (by decide) (fun c_3 => ?_) (fun c_3 => ?_)
        · have hg := hg.1 c_3
          refine lv_iconst (v := 0) hx hb dX9_edges_60 (by decide) ?_
          refine lv_iadd hx hb dX9_edges_61 ?_
          refine lv_topi (fun x2_4 ex2_4 => ?_)
          have hg := hg x2_4 ex2_4
          refine lv_istore_n (lv' := [(2, .int x2_4), (0, .ref o0), (1, .int x1), (3, .int x3), (4, .int x4)]) hx hb dX9_edges_62 rfl hl (by decide) rfl (fun ls hl => ?_)
          obtain ⟨x4_5, ex4_5⟩ : ∃ y : Int32, y = x4 + 1 := ⟨_, rfl⟩
          have hg := hg x4_5 ex4_5
          refine lv_iinc (v := x4_5) (lv' := [(4, .int x4_5), (2, .int x2_4), (0, .ref o0), (1, .int x1), (3, .int x3)]) hx hb dX9_edges_63 hl (k := 4) rfl (by rw [ex4_5]; rfl) (by decide) rfl (fun ls hl => ?_)
          refine lv_goto (tgt := 15) hx hb dX9_edges_66 (by decide) ?_
          exact hX15 _ _ _ _ _ _ hg hP hD hS (lv_sub hl [2, 3, 1, 4, 0] rfl)
        · have hg := hg.2 c_3
          refine lv_iload_n hx hb dX9_edges_41 rfl (lv_at hl 1 rfl) ?_
          refine lv_if_eq (tgt := 56) hx hb dX9_edges_42 (by decide) (fun c_6 => ?_) (fun c_6 => ?_)
          · have hg := hg.1 c_6
            refine lv_iconst (v := 1) hx hb dX9_edges_56 (by decide) ?_
            refine lv_goto (tgt := 61) hx hb dX9_edges_57 (by decide) ?_
            refine lv_iadd hx hb dX9_edges_61 ?_
            refine lv_topi (fun x2_7 ex2_7 => ?_)
            have hg := hg x2_7 ex2_7
            refine lv_istore_n (lv' := [(2, .int x2_7), (0, .ref o0), (1, .int x1), (3, .int x3), (4, .int x4)]) hx hb dX9_edges_62 rfl hl (by decide) rfl (fun ls hl => ?_)
            obtain ⟨x4_8, ex4_8⟩ : ∃ y : Int32, y = x4 + 1 := ⟨_, rfl⟩
            have hg := hg x4_8 ex4_8
            refine lv_iinc (v := x4_8) (lv' := [(4, .int x4_8), (2, .int x2_7), (0, .ref o0), (1, .int x1), (3, .int x3)]) hx hb dX9_edges_63 hl (k := 4) rfl (by rw [ex4_8]; rfl) (by decide) rfl (fun ls hl => ?_)
            refine lv_goto (tgt := 15) hx hb dX9_edges_66 (by decide) ?_
            exact hX15 _ _ _ _ _ _ hg hP hD hS (lv_sub hl [2, 3, 1, 4, 0] rfl)
          · have hg := hg.2 c_6
            refine lv_aload_n hx hb dX9_edges_45 rfl (lv_at hl 0 rfl) ?_
            refine lv_iload_n hx hb dX9_edges_46 rfl (lv_at hl 3 rfl) ?_
            refine lv_iload hx hb dX9_edges_47 (lv_at hl 4 rfl) ?_
            refine lv_iconst (v := 0) hx hb dX9_edges_49 (by decide) ?_
            refine zcVi (As := [.int x3, .int x4, .int 0]) (rest := [.int x2]) (C := RX9) Cx (c_X9_isEdge l G o0 d0 x3 x4 0 S0 _ hg) zv_X9_isEdge q_941 ⟨⟨rfl, rfl⟩, Nat.le_of_ble_eq_true rfl, Nat.le_of_ble_eq_true rfl⟩ (zJ.all hP hD hS hA) hS 7 rfl rfl rfl rfl hl.1 rfl (Nat.le_of_ble_eq_true rfl) dX9_edges_50 (fun r_9 _u H locs hg hP hD hS => ?_)
            refine lv_if_eq (tgt := 60) hx hb dX9_edges_53 (by decide) (fun c_10 => ?_) (fun c_10 => ?_)
            · have hg := hg.1 c_10
              refine lv_iconst (v := 0) hx hb dX9_edges_60 (by decide) ?_
              refine lv_iadd hx hb dX9_edges_61 ?_
              refine lv_topi (fun x2_11 ex2_11 => ?_)
              have hg := hg x2_11 ex2_11
              refine lv_istore_n (lv' := [(2, .int x2_11), (0, .ref o0), (1, .int x1), (3, .int x3), (4, .int x4)]) hx hb dX9_edges_62 rfl hl (by decide) rfl (fun ls hl => ?_)
              obtain ⟨x4_12, ex4_12⟩ : ∃ y : Int32, y = x4 + 1 := ⟨_, rfl⟩
              have hg := hg x4_12 ex4_12
              refine lv_iinc (v := x4_12) (lv' := [(4, .int x4_12), (2, .int x2_11), (0, .ref o0), (1, .int x1), (3, .int x3)]) hx hb dX9_edges_63 hl (k := 4) rfl (by rw [ex4_12]; rfl) (by decide) rfl (fun ls hl => ?_)
              refine lv_goto (tgt := 15) hx hb dX9_edges_66 (by decide) ?_
              exact hX15 _ _ _ _ _ _ hg hP hD hS (lv_sub hl [2, 3, 1, 4, 0] rfl)
            · have hg := hg.2 c_10
              refine lv_iconst (v := 1) hx hb dX9_edges_56 (by decide) ?_
              refine lv_goto (tgt := 61) hx hb dX9_edges_57 (by decide) ?_
              refine lv_iadd hx hb dX9_edges_61 ?_
              refine lv_topi (fun x2_13 ex2_13 => ?_)
              have hg := hg x2_13 ex2_13
              refine lv_istore_n (lv' := [(2, .int x2_13), (0, .ref o0), (1, .int x1), (3, .int x3), (4, .int x4)]) hx hb dX9_edges_62 rfl hl (by decide) rfl (fun ls hl => ?_)
              obtain ⟨x4_14, ex4_14⟩ : ∃ y : Int32, y = x4 + 1 := ⟨_, rfl⟩
              have hg := hg x4_14 ex4_14
              refine lv_iinc (v := x4_14) (lv' := [(4, .int x4_14), (2, .int x2_13), (0, .ref o0), (1, .int x1), (3, .int x3)]) hx hb dX9_edges_63 hl (k := 4) rfl (by rw [ex4_14]; rfl) (by decide) rfl (fun ls hl => ?_)
              refine lv_goto (tgt := 15) hx hb dX9_edges_66 (by decide) ?_
              exact hX15 _ _ _ _ _ _ hg hP hD hS (lv_sub hl [2, 3, 1, 4, 0] rfl)
  have L4 : ∀ (n : Nat) (x2 : Int32) (x3 : Int32) (H : Heap) (locs : List Loc) (ls : Array Slot), fx (F_X9_edges_4 x1 S0 Q) n (x2, x3) → va_P G.1 classes (wX9 G o0 d0 S0) H → va_D A (wX9 G o0 d0 S0) → va_S A s.heap H locs → lv_has ls 5 [(0, .ref o0), (1, .int x1), (2, .int x2), (3, .int x3)] → W p l e rm_X9_edges s m args below meth c H locs 0 0 QQ (F0 m 4 ls []) := by
    intro n
    induction n with
    | zero => intro x2 x3 H locs ls hg; exact hg.elim
    | succ n ih =>
      have hX4 := ih
      intro x2 x3 H locs ls hg hP hD hS hl
      refine lv_iload_n hx hb dX9_edges_4 rfl (lv_at hl 3 rfl) ?_
      refine lv_aload_n hx hb dX9_edges_5 rfl (lv_at hl 0 rfl) ?_
      refine va_get (D := G.1) (ci := 7) (v := .int (S0 3 0)) (C := RX9) (T := TX9) (N := 49) hx hb hT iX9 hown hK hP 0 rfl rfl 3 (by decide) (hT _ q_675) (fun _ h9 => h9) rfl dX9_edges_6 ?_
      refine lv_icmp_ge (tgt := 75) hx hb dX9_edges_9 (by decide) (fun c_1 => ?_) (fun c_1 => ?_)
      · have hg := hg.1 c_1
        refine lv_iload_n hx hb dX9_edges_75 rfl (lv_at hl 2 rfl) ?_
        exact hret _ _ _ () _ _ hg rfl hP hD hS dX9_edges_76
      · have hg := hg.2 c_1
        refine lv_iconst (v := 0) hx hb dX9_edges_12 (by decide) ?_
        refine lv_istore (lv' := [(4, .int 0), (0, .ref o0), (1, .int x1), (2, .int x2), (3, .int x3)]) hx hb dX9_edges_13 hl (by decide) rfl (fun ls hl => ?_)
        obtain ⟨n, hg⟩ := hg
        exact L15 _ hX4 n _ _ _ _ _ _ hg hP hD hS (lv_sub hl [1, 2, 3, 4, 0] rfl)
  refine lv_iconst (v := 0) hx hb dX9_edges_0 (by decide) ?_
  refine lv_istore_n (lv' := [(2, .int 0), (0, .ref o0), (1, .int x1)]) hx hb dX9_edges_1 rfl hl (by decide) rfl (fun ls hl => ?_)
  refine lv_iconst (v := 0) hx hb dX9_edges_2 (by decide) ?_
  refine lv_istore_n (lv' := [(3, .int 0), (2, .int 0), (0, .ref o0), (1, .int x1)]) hx hb dX9_edges_3 rfl hl (by decide) rfl (fun ls hl => ?_)
  obtain ⟨n, hg⟩ := hg
  exact L4 n _ _ _ _ _ hg hP hD hS (lv_sub hl [2, 3, 1, 0] rfl)
theorem zv_X9_folds : zV yX9_folds RX9 cX9_folds 3 (some .int) 0 := ⟨q_1035, qp_35, q_8, q_1036, by decide +kernel⟩
set_option maxHeartbeats 4000000 in
set_option maxRecDepth 100000 in
theorem c_X9_folds (l : Launch) (G : ZG) (o0 : Nat) (d0 : Nat → Nat) (S0 : ZS) (Q : Int32 → Prop) (hg : g_X9_folds S0 Q) : Ki l G yX9_folds cX9_folds 3 .int rm_X9_folds [.ref o0] (wX9 G o0 d0 S0) (fun _ : Unit => wX9 G o0 d0 S0) (fun r _ => Q r ) := by
  refine Ki.of (by decide) (Nat.le_of_ble_eq_true rfl) ?_
  intro p e s m args below meth c A QQ ls Cx hret hl hP hD hS
  obtain ⟨hx, hb, hml, hown, hT, hK, hA⟩ := id Cx
  have hl : lv_has ls 3 [(0, .ref o0)] := hl
  have L4 : ∀ (n : Nat) (x1 : Int32) (x2 : Int32) (H : Heap) (locs : List Loc) (ls : Array Slot), fx (F_X9_folds_4 S0 Q) n (x1, x2) → va_P G.1 classes (wX9 G o0 d0 S0) H → va_D A (wX9 G o0 d0 S0) → va_S A s.heap H locs → lv_has ls 3 [(0, .ref o0), (1, .int x1), (2, .int x2)] → W p l e rm_X9_folds s m args below meth c H locs 0 0 QQ (F0 m 4 ls []) := by
    intro n
    induction n with
    | zero => intro x1 x2 H locs ls hg; exact hg.elim
    | succ n ih =>
      have hX4 := ih
      intro x1 x2 H locs ls hg hP hD hS hl
      refine lv_iload_n hx hb dX9_folds_4 rfl (lv_at hl 2 rfl) ?_
      refine lv_aload_n hx hb dX9_folds_5 rfl (lv_at hl 0 rfl) ?_
      refine va_get (D := G.1) (ci := 7) (v := .int (S0 2 0)) (C := RX9) (T := TX9) (N := 49) hx hb hT iX9 hown hK hP 0 rfl rfl 2 (by decide) (hT _ q_674) (fun _ h9 => h9) rfl dX9_folds_6 ?_
      refine lv_icmp_ge (tgt := 45) hx hb dX9_folds_9 (by decide) (fun c_1 => ?_) (fun c_1 => ?_)
      · have hg := hg.1 c_1
        refine lv_iload_n hx hb dX9_folds_45 rfl (lv_at hl 1 rfl) ?_
        exact hret _ _ _ () _ _ hg rfl hP hD hS dX9_folds_46
      · have hg := hg.2 c_1
        refine lv_iload_n hx hb dX9_folds_12 rfl (lv_at hl 1 rfl) ?_
        refine lv_aload_n hx hb dX9_folds_13 rfl (lv_at hl 0 rfl) ?_
        refine va_get (D := G.1) (ci := 7) (v := .ref (d0 40)) (C := RX9) (T := TX9) (N := 49) hx hb hT iX9 hown hK hP 0 rfl rfl 40 (by decide) (hT _ q_712) (fun _ h9 => h9) rfl dX9_folds_14 ?_
        refine lv_iload_n hx hb dX9_folds_17 rfl (lv_at hl 2 rfl) ?_
        refine va_iald hx hb hK hP 31 0 rfl rfl hg.1 dX9_folds_18 ?_
        have hg := hg.2
        refine lv_iconst (v := 1) hx hb dX9_folds_19 (by decide) ?_
        refine lv_icmp_ne (tgt := 36) hx hb dX9_folds_20 (by decide) (fun c_2 => ?_) (fun c_2 => ?_)
        · have hg := hg.2 c_2
          refine lv_iconst (v := 0) hx hb dX9_folds_36 (by decide) ?_
          refine lv_iadd hx hb dX9_folds_37 ?_
          refine lv_topi (fun x1_3 ex1_3 => ?_)
          have hg := hg x1_3 ex1_3
          refine lv_istore_n (lv' := [(1, .int x1_3), (0, .ref o0), (2, .int x2)]) hx hb dX9_folds_38 rfl hl (by decide) rfl (fun ls hl => ?_)
          obtain ⟨x2_4, ex2_4⟩ : ∃ y : Int32, y = x2 + 1 := ⟨_, rfl⟩
          have hg := hg x2_4 ex2_4
          refine lv_iinc (v := x2_4) (lv' := [(2, .int x2_4), (1, .int x1_3), (0, .ref o0)]) hx hb dX9_folds_39 hl (k := 2) rfl (by rw [ex2_4]; rfl) (by decide) rfl (fun ls hl => ?_)
          refine lv_goto (tgt := 4) hx hb dX9_folds_42 (by decide) ?_
          exact hX4 _ _ _ _ _ hg hP hD hS (lv_sub hl [2, 1, 0] rfl)
        · have hg := hg.1 c_2
          refine lv_aload_n hx hb dX9_folds_23 rfl (lv_at hl 0 rfl) ?_
          refine va_get (D := G.1) (ci := 7) (v := .ref (d0 4)) (C := RX9) (T := TX9) (N := 49) hx hb hT iX9 hown hK hP 0 rfl rfl 4 (by decide) (hT _ q_676) (fun _ h9 => h9) rfl dX9_folds_24 ?_
          refine lv_iload_n hx hb dX9_folds_27 rfl (lv_at hl 2 rfl) ?_
          refine va_iald hx hb hK hP 2 0 rfl rfl hg.1 dX9_folds_28 ?_
          have hg := hg.2
          refine lv_if_eq (tgt := 36) hx hb dX9_folds_29 (by decide) (fun c_5 => ?_) (fun c_5 => ?_)
          · have hg := hg.1 c_5
            refine lv_iconst (v := 0) hx hb dX9_folds_36 (by decide) ?_
            refine lv_iadd hx hb dX9_folds_37 ?_
            refine lv_topi (fun x1_6 ex1_6 => ?_)
            have hg := hg x1_6 ex1_6
            refine lv_istore_n (lv' := [(1, .int x1_6), (0, .ref o0), (2, .int x2)]) hx hb dX9_folds_38 rfl hl (by decide) rfl (fun ls hl => ?_)
            obtain ⟨x2_7, ex2_7⟩ : ∃ y : Int32, y = x2 + 1 := ⟨_, rfl⟩
            have hg := hg x2_7 ex2_7
            refine lv_iinc (v := x2_7) (lv' := [(2, .int x2_7), (1, .int x1_6), (0, .ref o0)]) hx hb dX9_folds_39 hl (k := 2) rfl (by rw [ex2_7]; rfl) (by decide) rfl (fun ls hl => ?_)
            refine lv_goto (tgt := 4) hx hb dX9_folds_42 (by decide) ?_
            exact hX4 _ _ _ _ _ hg hP hD hS (lv_sub hl [2, 1, 0] rfl)
          · have hg := hg.2 c_5
            refine lv_iconst (v := 1) hx hb dX9_folds_32 (by decide) ?_
            refine lv_goto (tgt := 37) hx hb dX9_folds_33 (by decide) ?_
            refine lv_iadd hx hb dX9_folds_37 ?_
            refine lv_topi (fun x1_8 ex1_8 => ?_)
            have hg := hg x1_8 ex1_8
            refine lv_istore_n (lv' := [(1, .int x1_8), (0, .ref o0), (2, .int x2)]) hx hb dX9_folds_38 rfl hl (by decide) rfl (fun ls hl => ?_)
            obtain ⟨x2_9, ex2_9⟩ : ∃ y : Int32, y = x2 + 1 := ⟨_, rfl⟩
            have hg := hg x2_9 ex2_9
            refine lv_iinc (v := x2_9) (lv' := [(2, .int x2_9), (1, .int x1_8), (0, .ref o0)]) hx hb dX9_folds_39 hl (k := 2) rfl (by rw [ex2_9]; rfl) (by decide) rfl (fun ls hl => ?_)
            refine lv_goto (tgt := 4) hx hb dX9_folds_42 (by decide) ?_
            exact hX4 _ _ _ _ _ hg hP hD hS (lv_sub hl [2, 1, 0] rfl)
  refine lv_iconst (v := 0) hx hb dX9_folds_0 (by decide) ?_
  refine lv_istore_n (lv' := [(1, .int 0), (0, .ref o0)]) hx hb dX9_folds_1 rfl hl (by decide) rfl (fun ls hl => ?_)
  refine lv_iconst (v := 0) hx hb dX9_folds_2 (by decide) ?_
  refine lv_istore_n (lv' := [(2, .int 0), (1, .int 0), (0, .ref o0)]) hx hb dX9_folds_3 rfl hl (by decide) rfl (fun ls hl => ?_)
  obtain ⟨n, hg⟩ := hg
  exact L4 n _ _ _ _ _ hg hP hD hS (lv_sub hl [2, 1, 0] rfl)
theorem zv_X9_foldedEnds : zV yX9_foldedEnds RX9 cX9_foldedEnds 3 (some .int) 0 := ⟨q_1039, qp_36, q_8, q_1040, by decide +kernel⟩
set_option maxHeartbeats 4000000 in
set_option maxRecDepth 100000 in
theorem c_X9_foldedEnds (l : Launch) (G : ZG) (o0 : Nat) (d0 : Nat → Nat) (S0 : ZS) (Q : Int32 → Prop) (hg : g_X9_foldedEnds S0 Q) : Ki l G yX9_foldedEnds cX9_foldedEnds 3 .int rm_X9_foldedEnds [.ref o0] (wX9 G o0 d0 S0) (fun _ : Unit => wX9 G o0 d0 S0) (fun r _ => Q r ) := by
  refine Ki.of (by decide) (Nat.le_of_ble_eq_true rfl) ?_
  intro p e s m args below meth c A QQ ls Cx hret hl hP hD hS
  obtain ⟨hx, hb, hml, hown, hT, hK, hA⟩ := id Cx
  have hl : lv_has ls 3 [(0, .ref o0)] := hl
  have L4 : ∀ (n : Nat) (x1 : Int32) (x2 : Int32) (H : Heap) (locs : List Loc) (ls : Array Slot), fx (F_X9_foldedEnds_4 S0 Q) n (x1, x2) → va_P G.1 classes (wX9 G o0 d0 S0) H → va_D A (wX9 G o0 d0 S0) → va_S A s.heap H locs → lv_has ls 3 [(0, .ref o0), (1, .int x1), (2, .int x2)] → W p l e rm_X9_foldedEnds s m args below meth c H locs 0 0 QQ (F0 m 4 ls []) := by
    intro n
    induction n with
    | zero => intro x1 x2 H locs ls hg; exact hg.elim
    | succ n ih =>
      have hX4 := ih
      intro x1 x2 H locs ls hg hP hD hS hl
      refine lv_iload_n hx hb dX9_foldedEnds_4 rfl (lv_at hl 2 rfl) ?_
      refine lv_aload_n hx hb dX9_foldedEnds_5 rfl (lv_at hl 0 rfl) ?_
      refine va_get (D := G.1) (ci := 7) (v := .int (S0 3 0)) (C := RX9) (T := TX9) (N := 49) hx hb hT iX9 hown hK hP 0 rfl rfl 3 (by decide) (hT _ q_675) (fun _ h9 => h9) rfl dX9_foldedEnds_6 ?_
      refine lv_icmp_ge (tgt := 53) hx hb dX9_foldedEnds_9 (by decide) (fun c_1 => ?_) (fun c_1 => ?_)
      · have hg := hg.1 c_1
        refine lv_iload_n hx hb dX9_foldedEnds_53 rfl (lv_at hl 1 rfl) ?_
        exact hret _ _ _ () _ _ hg rfl hP hD hS dX9_foldedEnds_54
      · have hg := hg.2 c_1
        refine lv_iload_n hx hb dX9_foldedEnds_12 rfl (lv_at hl 1 rfl) ?_
        refine lv_aload_n hx hb dX9_foldedEnds_13 rfl (lv_at hl 0 rfl) ?_
        refine va_get (D := G.1) (ci := 7) (v := .ref (d0 13)) (C := RX9) (T := TX9) (N := 49) hx hb hT iX9 hown hK hP 0 rfl rfl 13 (by decide) (hT _ q_685) (fun _ h9 => h9) rfl dX9_foldedEnds_14 ?_
        refine lv_iload_n hx hb dX9_foldedEnds_17 rfl (lv_at hl 2 rfl) ?_
        refine va_iald hx hb hK hP 11 0 rfl rfl hg.1 dX9_foldedEnds_18 ?_
        have hg := hg.2
        refine lv_iconst (v := 1) hx hb dX9_foldedEnds_19 (by decide) ?_
        refine lv_icmp_ne (tgt := 44) hx hb dX9_foldedEnds_20 (by decide) (fun c_2 => ?_) (fun c_2 => ?_)
        · have hg := hg.2 c_2
          refine lv_iconst (v := 0) hx hb dX9_foldedEnds_44 (by decide) ?_
          refine lv_iadd hx hb dX9_foldedEnds_45 ?_
          refine lv_topi (fun x1_3 ex1_3 => ?_)
          have hg := hg x1_3 ex1_3
          refine lv_istore_n (lv' := [(1, .int x1_3), (0, .ref o0), (2, .int x2)]) hx hb dX9_foldedEnds_46 rfl hl (by decide) rfl (fun ls hl => ?_)
          obtain ⟨x2_4, ex2_4⟩ : ∃ y : Int32, y = x2 + 1 := ⟨_, rfl⟩
          have hg := hg x2_4 ex2_4
          refine lv_iinc (v := x2_4) (lv' := [(2, .int x2_4), (1, .int x1_3), (0, .ref o0)]) hx hb dX9_foldedEnds_47 hl (k := 2) rfl (by rw [ex2_4]; rfl) (by decide) rfl (fun ls hl => ?_)
          refine lv_goto (tgt := 4) hx hb dX9_foldedEnds_50 (by decide) ?_
          exact hX4 _ _ _ _ _ hg hP hD hS (lv_sub hl [2, 1, 0] rfl)
        · have hg := hg.1 c_2
          refine lv_aload_n hx hb dX9_foldedEnds_23 rfl (lv_at hl 0 rfl) ?_
          refine lv_iload_n hx hb dX9_foldedEnds_24 rfl (lv_at hl 2 rfl) ?_
          refine lv_iconst (v := 0) hx hb dX9_foldedEnds_25 (by decide) ?_
          refine lv_iconst (v := 0) hx hb dX9_foldedEnds_26 (by decide) ?_
          refine zcVi (As := [.int x2, .int 0, .int 0]) (rest := [.int x1]) (C := RX9) Cx (c_X9_isEdge l G o0 d0 x2 0 0 S0 _ hg) zv_X9_isEdge q_941 ⟨⟨rfl, rfl⟩, Nat.le_of_ble_eq_true rfl, Nat.le_of_ble_eq_true rfl⟩ (zJ.all hP hD hS hA) hS 7 rfl rfl rfl rfl hl.1 rfl (Nat.le_of_ble_eq_true rfl) dX9_foldedEnds_27 (fun r_5 _u H locs hg hP hD hS => ?_)
          refine lv_aload_n hx hb dX9_foldedEnds_30 rfl (lv_at hl 0 rfl) ?_
          refine lv_iload_n hx hb dX9_foldedEnds_31 rfl (lv_at hl 2 rfl) ?_
          refine lv_iconst (v := 1) hx hb dX9_foldedEnds_32 (by decide) ?_
          refine lv_iconst (v := 0) hx hb dX9_foldedEnds_33 (by decide) ?_
          refine zcVi (As := [.int x2, .int 1, .int 0]) (rest := [.int r_5, .int x1]) (C := RX9) Cx (c_X9_isEdge l G o0 d0 x2 1 0 S0 _ hg) zv_X9_isEdge q_941 ⟨⟨rfl, rfl⟩, Nat.le_of_ble_eq_true rfl, Nat.le_of_ble_eq_true rfl⟩ (zJ.all hP hD hS hA) hS 7 rfl rfl rfl rfl hl.1 rfl (Nat.le_of_ble_eq_true rfl) dX9_foldedEnds_34 (fun r_6 _u H locs hg hP hD hS => ?_)
          refine lv_icmp_eq (tgt := 44) hx hb dX9_foldedEnds_37 (by decide) (fun c_7 => ?_) (fun c_7 => ?_)
          · have hg := hg.1 c_7
            refine lv_iconst (v := 0) hx hb dX9_foldedEnds_44 (by decide) ?_
            refine lv_iadd hx hb dX9_foldedEnds_45 ?_
            refine lv_topi (fun x1_8 ex1_8 => ?_)
            have hg := hg x1_8 ex1_8
            refine lv_istore_n (lv' := [(1, .int x1_8), (0, .ref o0), (2, .int x2)]) hx hb dX9_foldedEnds_46 rfl hl (by decide) rfl (fun ls hl => ?_)
            obtain ⟨x2_9, ex2_9⟩ : ∃ y : Int32, y = x2 + 1 := ⟨_, rfl⟩
            have hg := hg x2_9 ex2_9
            refine lv_iinc (v := x2_9) (lv' := [(2, .int x2_9), (1, .int x1_8), (0, .ref o0)]) hx hb dX9_foldedEnds_47 hl (k := 2) rfl (by rw [ex2_9]; rfl) (by decide) rfl (fun ls hl => ?_)
            refine lv_goto (tgt := 4) hx hb dX9_foldedEnds_50 (by decide) ?_
            exact hX4 _ _ _ _ _ hg hP hD hS (lv_sub hl [2, 1, 0] rfl)
          · have hg := hg.2 c_7
            refine lv_iconst (v := 1) hx hb dX9_foldedEnds_40 (by decide) ?_
            refine lv_goto (tgt := 45) hx hb dX9_foldedEnds_41 (by decide) ?_
            refine lv_iadd hx hb dX9_foldedEnds_45 ?_
            refine lv_topi (fun x1_10 ex1_10 => ?_)
            have hg := hg x1_10 ex1_10
            refine lv_istore_n (lv' := [(1, .int x1_10), (0, .ref o0), (2, .int x2)]) hx hb dX9_foldedEnds_46 rfl hl (by decide) rfl (fun ls hl => ?_)
            obtain ⟨x2_11, ex2_11⟩ : ∃ y : Int32, y = x2 + 1 := ⟨_, rfl⟩
            have hg := hg x2_11 ex2_11
            refine lv_iinc (v := x2_11) (lv' := [(2, .int x2_11), (1, .int x1_10), (0, .ref o0)]) hx hb dX9_foldedEnds_47 hl (k := 2) rfl (by rw [ex2_11]; rfl) (by decide) rfl (fun ls hl => ?_)
            refine lv_goto (tgt := 4) hx hb dX9_foldedEnds_50 (by decide) ?_
            exact hX4 _ _ _ _ _ hg hP hD hS (lv_sub hl [2, 1, 0] rfl)
  refine lv_iconst (v := 0) hx hb dX9_foldedEnds_0 (by decide) ?_
  refine lv_istore_n (lv' := [(1, .int 0), (0, .ref o0)]) hx hb dX9_foldedEnds_1 rfl hl (by decide) rfl (fun ls hl => ?_)
  refine lv_iconst (v := 0) hx hb dX9_foldedEnds_2 (by decide) ?_
  refine lv_istore_n (lv' := [(2, .int 0), (1, .int 0), (0, .ref o0)]) hx hb dX9_foldedEnds_3 rfl hl (by decide) rfl (fun ls hl => ?_)
  obtain ⟨n, hg⟩ := hg
  exact L4 n _ _ _ _ _ hg hP hD hS (lv_sub hl [2, 1, 0] rfl)
theorem zv_X9_stays : zV yX9_stays RX9 cX9_stays 3 (some .int) 0 := ⟨q_1043, qp_37, q_8, q_1044, by decide +kernel⟩
set_option maxHeartbeats 4000000 in
set_option maxRecDepth 100000 in
theorem c_X9_stays (l : Launch) (G : ZG) (o0 : Nat) (d0 : Nat → Nat) (S0 : ZS) (Q : Int32 → Prop) (hg : g_X9_stays S0 Q) : Ki l G yX9_stays cX9_stays 3 .int rm_X9_stays [.ref o0] (wX9 G o0 d0 S0) (fun _ : Unit => wX9 G o0 d0 S0) (fun r _ => Q r ) := by
  refine Ki.of (by decide) (Nat.le_of_ble_eq_true rfl) ?_
  intro p e s m args below meth c A QQ ls Cx hret hl hP hD hS
  obtain ⟨hx, hb, hml, hown, hT, hK, hA⟩ := id Cx
  have hl : lv_has ls 3 [(0, .ref o0)] := hl
  have L4 : ∀ (n : Nat) (x1 : Int32) (x2 : Int32) (H : Heap) (locs : List Loc) (ls : Array Slot), fx (F_X9_stays_4 S0 Q) n (x1, x2) → va_P G.1 classes (wX9 G o0 d0 S0) H → va_D A (wX9 G o0 d0 S0) → va_S A s.heap H locs → lv_has ls 3 [(0, .ref o0), (1, .int x1), (2, .int x2)] → W p l e rm_X9_stays s m args below meth c H locs 0 0 QQ (F0 m 4 ls []) := by
    intro n
    induction n with
    | zero => intro x1 x2 H locs ls hg; exact hg.elim
    | succ n ih =>
      have hX4 := ih
      intro x1 x2 H locs ls hg hP hD hS hl
      refine lv_iload_n hx hb dX9_stays_4 rfl (lv_at hl 2 rfl) ?_
      refine lv_aload_n hx hb dX9_stays_5 rfl (lv_at hl 0 rfl) ?_
      refine va_get (D := G.1) (ci := 7) (v := .int (S0 2 0)) (C := RX9) (T := TX9) (N := 49) hx hb hT iX9 hown hK hP 0 rfl rfl 2 (by decide) (hT _ q_674) (fun _ h9 => h9) rfl dX9_stays_6 ?_
      refine lv_icmp_ge (tgt := 59) hx hb dX9_stays_9 (by decide) (fun c_1 => ?_) (fun c_1 => ?_)
      · have hg := hg.1 c_1
        refine lv_iload_n hx hb dX9_stays_59 rfl (lv_at hl 1 rfl) ?_
        exact hret _ _ _ () _ _ hg rfl hP hD hS dX9_stays_60
      · have hg := hg.2 c_1
        refine lv_iload_n hx hb dX9_stays_12 rfl (lv_at hl 1 rfl) ?_
        refine lv_aload_n hx hb dX9_stays_13 rfl (lv_at hl 0 rfl) ?_
        refine va_get (D := G.1) (ci := 7) (v := .ref (d0 42)) (C := RX9) (T := TX9) (N := 49) hx hb hT iX9 hown hK hP 0 rfl rfl 42 (by decide) (hT _ q_714) (fun _ h9 => h9) rfl dX9_stays_14 ?_
        refine lv_aload_n hx hb dX9_stays_17 rfl (lv_at hl 0 rfl) ?_
        refine va_get (D := G.1) (ci := 7) (v := .ref (d0 5)) (C := RX9) (T := TX9) (N := 49) hx hb hT iX9 hown hK hP 0 rfl rfl 5 (by decide) (hT _ q_677) (fun _ h9 => h9) rfl dX9_stays_18 ?_
        refine lv_iload_n hx hb dX9_stays_21 rfl (lv_at hl 2 rfl) ?_
        refine va_iald hx hb hK hP 3 0 rfl rfl hg.1 dX9_stays_22 ?_
        have hg := hg.2
        refine va_zald hx hb hK hP 33 1 rfl rfl hg.1 dX9_stays_23 ?_
        have hg := hg.2
        refine lv_if_eq (tgt := 50) hx hb dX9_stays_24 (by decide) (fun c_2 => ?_) (fun c_2 => ?_)
        · have hg := hg.1 c_2
          refine lv_iconst (v := 0) hx hb dX9_stays_50 (by decide) ?_
          refine lv_iadd hx hb dX9_stays_51 ?_
          refine lv_topi (fun x1_3 ex1_3 => ?_)
          have hg := hg x1_3 ex1_3
          refine lv_istore_n (lv' := [(1, .int x1_3), (0, .ref o0), (2, .int x2)]) hx hb dX9_stays_52 rfl hl (by decide) rfl (fun ls hl => ?_)
          obtain ⟨x2_4, ex2_4⟩ : ∃ y : Int32, y = x2 + 1 := ⟨_, rfl⟩
          have hg := hg x2_4 ex2_4
          refine lv_iinc (v := x2_4) (lv' := [(2, .int x2_4), (1, .int x1_3), (0, .ref o0)]) hx hb dX9_stays_53 hl (k := 2) rfl (by rw [ex2_4]; rfl) (by decide) rfl (fun ls hl => ?_)
          refine lv_goto (tgt := 4) hx hb dX9_stays_56 (by decide) ?_
          exact hX4 _ _ _ _ _ hg hP hD hS (lv_sub hl [2, 1, 0] rfl)
        · have hg := hg.2 c_2
          refine lv_aload_n hx hb dX9_stays_27 rfl (lv_at hl 0 rfl) ?_
          refine va_get (D := G.1) (ci := 7) (v := .ref (d0 4)) (C := RX9) (T := TX9) (N := 49) hx hb hT iX9 hown hK hP 0 rfl rfl 4 (by decide) (hT _ q_676) (fun _ h9 => h9) rfl dX9_stays_28 ?_
          refine lv_iload_n hx hb dX9_stays_31 rfl (lv_at hl 2 rfl) ?_
          refine va_iald hx hb hK hP 2 0 rfl rfl hg.1 dX9_stays_32 ?_
          have hg := hg.2
          refine lv_if_eq (tgt := 50) hx hb dX9_stays_33 (by decide) (fun c_5 => ?_) (fun c_5 => ?_)
          · have hg := hg.1 c_5
            refine lv_iconst (v := 0) hx hb dX9_stays_50 (by decide) ?_
            refine lv_iadd hx hb dX9_stays_51 ?_
            refine lv_topi (fun x1_6 ex1_6 => ?_)
            have hg := hg x1_6 ex1_6
            refine lv_istore_n (lv' := [(1, .int x1_6), (0, .ref o0), (2, .int x2)]) hx hb dX9_stays_52 rfl hl (by decide) rfl (fun ls hl => ?_)
            obtain ⟨x2_7, ex2_7⟩ : ∃ y : Int32, y = x2 + 1 := ⟨_, rfl⟩
            have hg := hg x2_7 ex2_7
            refine lv_iinc (v := x2_7) (lv' := [(2, .int x2_7), (1, .int x1_6), (0, .ref o0)]) hx hb dX9_stays_53 hl (k := 2) rfl (by rw [ex2_7]; rfl) (by decide) rfl (fun ls hl => ?_)
            refine lv_goto (tgt := 4) hx hb dX9_stays_56 (by decide) ?_
            exact hX4 _ _ _ _ _ hg hP hD hS (lv_sub hl [2, 1, 0] rfl)
          · have hg := hg.2 c_5
            refine lv_aload_n hx hb dX9_stays_36 rfl (lv_at hl 0 rfl) ?_
            refine va_get (D := G.1) (ci := 7) (v := .ref (d0 40)) (C := RX9) (T := TX9) (N := 49) hx hb hT iX9 hown hK hP 0 rfl rfl 40 (by decide) (hT _ q_712) (fun _ h9 => h9) rfl dX9_stays_37 ?_
            refine lv_iload_n hx hb dX9_stays_40 rfl (lv_at hl 2 rfl) ?_
            refine va_iald hx hb hK hP 31 0 rfl rfl hg.1 dX9_stays_41 ?_
            have hg := hg.2
            refine lv_iconst (v := 1) hx hb dX9_stays_42 (by decide) ?_
            refine lv_icmp_eq (tgt := 50) hx hb dX9_stays_43 (by decide) (fun c_8 => ?_) (fun c_8 => ?_)
            · have hg := hg.1 c_8
              refine lv_iconst (v := 0) hx hb dX9_stays_50 (by decide) ?_
              refine lv_iadd hx hb dX9_stays_51 ?_
              refine lv_topi (fun x1_9 ex1_9 => ?_)
              have hg := hg x1_9 ex1_9
              refine lv_istore_n (lv' := [(1, .int x1_9), (0, .ref o0), (2, .int x2)]) hx hb dX9_stays_52 rfl hl (by decide) rfl (fun ls hl => ?_)
              obtain ⟨x2_10, ex2_10⟩ : ∃ y : Int32, y = x2 + 1 := ⟨_, rfl⟩
              have hg := hg x2_10 ex2_10
              refine lv_iinc (v := x2_10) (lv' := [(2, .int x2_10), (1, .int x1_9), (0, .ref o0)]) hx hb dX9_stays_53 hl (k := 2) rfl (by rw [ex2_10]; rfl) (by decide) rfl (fun ls hl => ?_)
              refine lv_goto (tgt := 4) hx hb dX9_stays_56 (by decide) ?_
              exact hX4 _ _ _ _ _ hg hP hD hS (lv_sub hl [2, 1, 0] rfl)
            · have hg := hg.2 c_8
              refine lv_iconst (v := 1) hx hb dX9_stays_46 (by decide) ?_
              refine lv_goto (tgt := 51) hx hb dX9_stays_47 (by decide) ?_
              refine lv_iadd hx hb dX9_stays_51 ?_
              refine lv_topi (fun x1_11 ex1_11 => ?_)
              have hg := hg x1_11 ex1_11
              refine lv_istore_n (lv' := [(1, .int x1_11), (0, .ref o0), (2, .int x2)]) hx hb dX9_stays_52 rfl hl (by decide) rfl (fun ls hl => ?_)
              obtain ⟨x2_12, ex2_12⟩ : ∃ y : Int32, y = x2 + 1 := ⟨_, rfl⟩
              have hg := hg x2_12 ex2_12
              refine lv_iinc (v := x2_12) (lv' := [(2, .int x2_12), (1, .int x1_11), (0, .ref o0)]) hx hb dX9_stays_53 hl (k := 2) rfl (by rw [ex2_12]; rfl) (by decide) rfl (fun ls hl => ?_)
              refine lv_goto (tgt := 4) hx hb dX9_stays_56 (by decide) ?_
              exact hX4 _ _ _ _ _ hg hP hD hS (lv_sub hl [2, 1, 0] rfl)
  refine lv_iconst (v := 0) hx hb dX9_stays_0 (by decide) ?_
  refine lv_istore_n (lv' := [(1, .int 0), (0, .ref o0)]) hx hb dX9_stays_1 rfl hl (by decide) rfl (fun ls hl => ?_)
  refine lv_iconst (v := 0) hx hb dX9_stays_2 (by decide) ?_
  refine lv_istore_n (lv' := [(2, .int 0), (1, .int 0), (0, .ref o0)]) hx hb dX9_stays_3 rfl hl (by decide) rfl (fun ls hl => ?_)
  obtain ⟨n, hg⟩ := hg
  exact L4 n _ _ _ _ _ hg hP hD hS (lv_sub hl [2, 1, 0] rfl)
theorem zv_X9_gain : zV yX9_gain RX9 cX9_gain 3 (some .int) 0 := ⟨q_1047, qp_38, q_8, q_1048, by decide +kernel⟩
set_option maxHeartbeats 4000000 in
set_option maxRecDepth 100000 in
theorem c_X9_gain (l : Launch) (G : ZG) (o0 : Nat) (d0 : Nat → Nat) (S0 : ZS) (Q : Int32 → ZS → Prop) (hg : g_X9_gain S0 Q) : Ki l G yX9_gain cX9_gain 3 .int rm_X9_gain [.ref o0] (wX9 G o0 d0 S0) (fun u : ZS => wX9 G o0 d0 u) (fun r u => Q r u) := by
  refine Ki.of (by decide) (Nat.le_of_ble_eq_true rfl) ?_
  intro p e s m args below meth c A QQ ls Cx hret hl hP hD hS
  obtain ⟨hx, hb, hml, hown, hT, hK, hA⟩ := id Cx
  have hl : lv_has ls 3 [(0, .ref o0)] := hl
  have L29 : ∀ (n : Nat) (x1 : Int32) (x2 : Int32) (S0 : ZS) (H : Heap) (locs : List Loc) (ls : Array Slot), fx (F_X9_gain_29 Q) n (x1, x2, S0) → va_P G.1 classes (wX9 G o0 d0 S0) H → va_D A (wX9 G o0 d0 S0) → va_S A s.heap H locs → lv_has ls 3 [(0, .ref o0), (1, .int x1), (2, .int x2)] → W p l e rm_X9_gain s m args below meth c H locs 0 0 QQ (F0 m 29 ls []) := by
    intro n
    induction n with
    | zero => intro x1 x2 S0 H locs ls hg; exact hg.elim
    | succ n ih =>
      have hX29 := ih
      intro x1 x2 S0 H locs ls hg hP hD hS hl
      refine lv_iload_n hx hb dX9_gain_29 rfl (lv_at hl 2 rfl) ?_
      refine lv_aload_n hx hb dX9_gain_30 rfl (lv_at hl 0 rfl) ?_
      refine va_get (D := G.1) (ci := 7) (v := .int (S0 2 0)) (C := RX9) (T := TX9) (N := 49) hx hb hT iX9 hown hK hP 0 rfl rfl 2 (by decide) (hT _ q_674) (fun _ h9 => h9) rfl dX9_gain_31 ?_
      refine lv_icmp_ge (tgt := 71) hx hb dX9_gain_34 (by decide) (fun c_1 => ?_) (fun c_1 => ?_)
      · have hg := hg.1 c_1
        refine lv_iload_n hx hb dX9_gain_71 rfl (lv_at hl 1 rfl) ?_
        exact hret _ _ _ (S0) _ _ hg rfl hP hD hS dX9_gain_72
      · have hg := hg.2 c_1
        refine lv_iload_n hx hb dX9_gain_37 rfl (lv_at hl 1 rfl) ?_
        refine lv_aload_n hx hb dX9_gain_38 rfl (lv_at hl 0 rfl) ?_
        refine va_get (D := G.1) (ci := 7) (v := .ref (d0 43)) (C := RX9) (T := TX9) (N := 49) hx hb hT iX9 hown hK hP 0 rfl rfl 43 (by decide) (hT _ q_715) (fun _ h9 => h9) rfl dX9_gain_39 ?_
        refine lv_iload_n hx hb dX9_gain_42 rfl (lv_at hl 2 rfl) ?_
        refine va_iald hx hb hK hP 34 0 rfl rfl hg.1 dX9_gain_43 ?_
        have hg := hg.2
        refine lv_iconst (v := 2) hx hb dX9_gain_44 (by decide) ?_
        refine lv_icmp_ne (tgt := 62) hx hb dX9_gain_45 (by decide) (fun c_2 => ?_) (fun c_2 => ?_)
        · have hg := hg.2 c_2
          refine lv_iconst (v := 0) hx hb dX9_gain_62 (by decide) ?_
          refine lv_iadd hx hb dX9_gain_63 ?_
          refine lv_topi (fun x1_3 ex1_3 => ?_)
          have hg := hg x1_3 ex1_3
          refine lv_istore_n (lv' := [(1, .int x1_3), (0, .ref o0), (2, .int x2)]) hx hb dX9_gain_64 rfl hl (by decide) rfl (fun ls hl => ?_)
          obtain ⟨x2_4, ex2_4⟩ : ∃ y : Int32, y = x2 + 1 := ⟨_, rfl⟩
          have hg := hg x2_4 ex2_4
          refine lv_iinc (v := x2_4) (lv' := [(2, .int x2_4), (1, .int x1_3), (0, .ref o0)]) hx hb dX9_gain_65 hl (k := 2) rfl (by rw [ex2_4]; rfl) (by decide) rfl (fun ls hl => ?_)
          refine lv_goto (tgt := 29) hx hb dX9_gain_68 (by decide) ?_
          exact hX29 _ _ _ _ _ _ hg hP hD hS (lv_sub hl [2, 1, 0] rfl)
        · have hg := hg.1 c_2
          refine lv_aload_n hx hb dX9_gain_48 rfl (lv_at hl 0 rfl) ?_
          refine va_get (D := G.1) (ci := 7) (v := .ref (d0 40)) (C := RX9) (T := TX9) (N := 49) hx hb hT iX9 hown hK hP 0 rfl rfl 40 (by decide) (hT _ q_712) (fun _ h9 => h9) rfl dX9_gain_49 ?_
          refine lv_iload_n hx hb dX9_gain_52 rfl (lv_at hl 2 rfl) ?_
          refine va_iald hx hb hK hP 31 0 rfl rfl hg.1 dX9_gain_53 ?_
          have hg := hg.2
          refine lv_iconst (v := 2) hx hb dX9_gain_54 (by decide) ?_
          refine lv_icmp_eq (tgt := 62) hx hb dX9_gain_55 (by decide) (fun c_5 => ?_) (fun c_5 => ?_)
          · have hg := hg.1 c_5
            refine lv_iconst (v := 0) hx hb dX9_gain_62 (by decide) ?_
            refine lv_iadd hx hb dX9_gain_63 ?_
            refine lv_topi (fun x1_6 ex1_6 => ?_)
            have hg := hg x1_6 ex1_6
            refine lv_istore_n (lv' := [(1, .int x1_6), (0, .ref o0), (2, .int x2)]) hx hb dX9_gain_64 rfl hl (by decide) rfl (fun ls hl => ?_)
            obtain ⟨x2_7, ex2_7⟩ : ∃ y : Int32, y = x2 + 1 := ⟨_, rfl⟩
            have hg := hg x2_7 ex2_7
            refine lv_iinc (v := x2_7) (lv' := [(2, .int x2_7), (1, .int x1_6), (0, .ref o0)]) hx hb dX9_gain_65 hl (k := 2) rfl (by rw [ex2_7]; rfl) (by decide) rfl (fun ls hl => ?_)
            refine lv_goto (tgt := 29) hx hb dX9_gain_68 (by decide) ?_
            exact hX29 _ _ _ _ _ _ hg hP hD hS (lv_sub hl [2, 1, 0] rfl)
          · have hg := hg.2 c_5
            refine lv_iconst (v := 1) hx hb dX9_gain_58 (by decide) ?_
            refine lv_goto (tgt := 63) hx hb dX9_gain_59 (by decide) ?_
            refine lv_iadd hx hb dX9_gain_63 ?_
            refine lv_topi (fun x1_8 ex1_8 => ?_)
            have hg := hg x1_8 ex1_8
            refine lv_istore_n (lv' := [(1, .int x1_8), (0, .ref o0), (2, .int x2)]) hx hb dX9_gain_64 rfl hl (by decide) rfl (fun ls hl => ?_)
            obtain ⟨x2_9, ex2_9⟩ : ∃ y : Int32, y = x2 + 1 := ⟨_, rfl⟩
            have hg := hg x2_9 ex2_9
            refine lv_iinc (v := x2_9) (lv' := [(2, .int x2_9), (1, .int x1_8), (0, .ref o0)]) hx hb dX9_gain_65 hl (k := 2) rfl (by rw [ex2_9]; rfl) (by decide) rfl (fun ls hl => ?_)
            refine lv_goto (tgt := 29) hx hb dX9_gain_68 (by decide) ?_
            exact hX29 _ _ _ _ _ _ hg hP hD hS (lv_sub hl [2, 1, 0] rfl)
  refine lv_aload_n hx hb dX9_gain_0 rfl (lv_at hl 0 rfl) ?_
  refine lv_iconst (v := 1) hx hb dX9_gain_1 (by decide) ?_
  refine zcVv (As := [.int 1]) (rest := []) (C := RX9) Cx (c_X9_finds l G o0 d0 1 S0 _ hg) zv_X9_finds q_917 ⟨⟨rfl, rfl⟩, Nat.le_of_ble_eq_true rfl, Nat.le_of_ble_eq_true rfl⟩ (zJ.all hP hD hS hA) hS 7 rfl rfl rfl rfl hl.1 rfl (Nat.le_of_ble_eq_true rfl) dX9_gain_2 (fun S0_1 H locs hg hP hD hS => ?_)
  have hP : va_P G.1 classes (wX9 G o0 d0 S0_1) H := hP
  have hD : va_D A (wX9 G o0 d0 S0_1) := hD
  refine lv_aload_n hx hb dX9_gain_5 rfl (lv_at hl 0 rfl) ?_
  refine va_get (D := G.1) (ci := 7) (v := .ref (d0 40)) (C := RX9) (T := TX9) (N := 49) hx hb hT iX9 hown hK hP 0 rfl rfl 40 (by decide) (hT _ q_712) (fun _ h9 => h9) rfl dX9_gain_6 ?_
  refine lv_iconst (v := 0) hx hb dX9_gain_9 (by decide) ?_
  refine lv_aload_n hx hb dX9_gain_10 rfl (lv_at hl 0 rfl) ?_
  refine va_get (D := G.1) (ci := 7) (v := .ref (d0 43)) (C := RX9) (T := TX9) (N := 49) hx hb hT iX9 hown hK hP 0 rfl rfl 43 (by decide) (hT _ q_715) (fun _ h9 => h9) rfl dX9_gain_11 ?_
  refine lv_iconst (v := 0) hx hb dX9_gain_14 (by decide) ?_
  refine lv_bipush (v := 24) hx hb dX9_gain_15 (by decide) ?_
  refine zcSv (As := [.ref (d0 40), .int 0, .ref (d0 43), .int 0, .int 24]) (rest := []) Cx (c_X9_bring l G (d0 40) (d0 43) 24 24 0 0 24 (S0_1 40) (S0_1 43) _ hg) zv_X9_bring q_906 ⟨⟨rfl, rfl⟩, Nat.le_of_ble_eq_true rfl, Nat.le_of_ble_eq_true rfl⟩ (zJ.sub (wr := [0, 1, 2, 3, 4, 5, 6, 7, 8, 9, 10, 11, 12, 13, 14, 15, 16, 17, 18, 19, 20, 21, 22, 23, 24, 25, 26, 27, 28, 29, 30, 32, 33, 35, 36, 37].filterMap (fun i => (wX9 G o0 d0 S0_1)[i]?)) (w2 := (fun u : ZR => wX9 G o0 d0 ((zrp S0_1 43 u)))) hP hD hS hA [31, 34] [0, 1, 2, 3, 4, 5, 6, 7, 8, 9, 10, 11, 12, 13, 14, 15, 16, 17, 18, 19, 20, 21, 22, 23, 24, 25, 26, 27, 28, 29, 30, 32, 33, 35, 36, 37] [0, 1, 2, 3, 4, 5, 6, 7, 8, 9, 10, 11, 12, 13, 14, 15, 16, 17, 18, 19, 20, 21, 22, 23, 24, 25, 26, 27, 28, 29, 30, 36, 31, 32, 37, 33, 34, 35] rfl rfl (by decide) (fun u => rfl)) hS rfl hl.1 rfl (Nat.le_of_ble_eq_true rfl) dX9_gain_17 (fun f_2 H locs hg hP hD hS => ?_)
  have hP : va_P G.1 classes (wX9 G o0 d0 ((zrp S0_1 43 f_2))) H := hP
  have hD : va_D A (wX9 G o0 d0 ((zrp S0_1 43 f_2))) := hD
  refine lv_aload_n hx hb dX9_gain_20 rfl (lv_at hl 0 rfl) ?_
  refine lv_iconst (v := 0) hx hb dX9_gain_21 (by decide) ?_
  refine zcVv (As := [.int 0]) (rest := []) (C := RX9) Cx (c_X9_finds l G o0 d0 0 (zrp S0_1 43 f_2) _ hg) zv_X9_finds q_917 ⟨⟨rfl, rfl⟩, Nat.le_of_ble_eq_true rfl, Nat.le_of_ble_eq_true rfl⟩ (zJ.all hP hD hS hA) hS 7 rfl rfl rfl rfl hl.1 rfl (Nat.le_of_ble_eq_true rfl) dX9_gain_22 (fun S0_3 H locs hg hP hD hS => ?_)
  have hP : va_P G.1 classes (wX9 G o0 d0 S0_3) H := hP
  have hD : va_D A (wX9 G o0 d0 S0_3) := hD
  refine lv_iconst (v := 0) hx hb dX9_gain_25 (by decide) ?_
  refine lv_istore_n (lv' := [(1, .int 0), (0, .ref o0)]) hx hb dX9_gain_26 rfl hl (by decide) rfl (fun ls hl => ?_)
  refine lv_iconst (v := 0) hx hb dX9_gain_27 (by decide) ?_
  refine lv_istore_n (lv' := [(2, .int 0), (1, .int 0), (0, .ref o0)]) hx hb dX9_gain_28 rfl hl (by decide) rfl (fun ls hl => ?_)
  obtain ⟨n, hg⟩ := hg
  exact L29 n _ _ _ _ _ _ hg hP hD hS (lv_sub hl [2, 1, 0] rfl)
theorem zv_X9_count : zV yX9_count RX9 cX9_count 2 (some .int) 1 := ⟨q_1026, q_1027, q_8, q_1028, by decide +kernel⟩
set_option maxHeartbeats 4000000 in
set_option maxRecDepth 100000 in
theorem c_X9_count (l : Launch) (G : ZG) (o0 : Nat) (d0 : Nat → Nat) (x1 : Int32) (S0 : ZS) (Q : Int32 → ZS → Prop) (hg : g_X9_count x1 S0 Q) : Ki l G yX9_count cX9_count 2 .int rm_X9_count [.ref o0, .int x1] (wX9 G o0 d0 S0) (fun u : ZS => wX9 G o0 d0 u) (fun r u => Q r u) := by
  refine Ki.of (by decide) (Nat.le_of_ble_eq_true rfl) ?_
  intro p e s m args below meth c A QQ ls Cx hret hl hP hD hS
  obtain ⟨hx, hb, hml, hown, hT, hK, hA⟩ := id Cx
  have hl : lv_has ls 2 [(0, .ref o0), (1, .int x1)] := hl
  refine lv_aload_n hx hb dX9_count_0 rfl (lv_at hl 0 rfl) ?_
  refine lv_iconst (v := 0) hx hb dX9_count_1 (by decide) ?_
  refine zcVv (As := [.int 0]) (rest := []) (C := RX9) Cx (c_X9_finds l G o0 d0 0 S0 _ hg) zv_X9_finds q_917 ⟨⟨rfl, rfl⟩, Nat.le_of_ble_eq_true rfl, Nat.le_of_ble_eq_true rfl⟩ (zJ.all hP hD hS hA) hS 7 rfl rfl rfl rfl hl.1 rfl (Nat.le_of_ble_eq_true rfl) dX9_count_2 (fun S0_1 H locs hg hP hD hS => ?_)
  have hP : va_P G.1 classes (wX9 G o0 d0 S0_1) H := hP
  have hD : va_D A (wX9 G o0 d0 S0_1) := hD
  refine lv_iload_n hx hb dX9_count_5 rfl (lv_at hl 1 rfl) ?_
  by_cases k0 : x1 = 0
  · have hg := hg.1 k0
    refine lv_tableIn (tgt := 72) hx hb dX9_count_6 (by rw [k0]; decide) (by rw [k0]; decide) (by rw [k0]; rfl) (by decide) ?_
    refine lv_aload_n hx hb dX9_count_72 rfl (lv_at hl 0 rfl) ?_
    refine va_get (D := G.1) (ci := 7) (v := .int (S0_1 2 0)) (C := RX9) (T := TX9) (N := 49) hx hb hT iX9 hown hK hP 0 rfl rfl 2 (by decide) (hT _ q_674) (fun _ h9 => h9) rfl dX9_count_73 ?_
    exact hret _ _ _ (S0_1) _ _ hg rfl hP hD hS dX9_count_76
  by_cases k1 : x1 = 1
  · have hg := hg.2.1 k1
    refine lv_tableIn (tgt := 77) hx hb dX9_count_6 (by rw [k1]; decide) (by rw [k1]; decide) (by rw [k1]; rfl) (by decide) ?_
    refine lv_aload_n hx hb dX9_count_77 rfl (lv_at hl 0 rfl) ?_
    refine va_get (D := G.1) (ci := 7) (v := .int (S0_1 3 0)) (C := RX9) (T := TX9) (N := 49) hx hb hT iX9 hown hK hP 0 rfl rfl 3 (by decide) (hT _ q_675) (fun _ h9 => h9) rfl dX9_count_78 ?_
    exact hret _ _ _ (S0_1) _ _ hg rfl hP hD hS dX9_count_81
  by_cases k2 : x1 = 2
  · have hg := hg.2.2.1 k2
    refine lv_tableIn (tgt := 82) hx hb dX9_count_6 (by rw [k2]; decide) (by rw [k2]; decide) (by rw [k2]; rfl) (by decide) ?_
    refine lv_aload_n hx hb dX9_count_82 rfl (lv_at hl 0 rfl) ?_
    refine lv_iconst (v := 0) hx hb dX9_count_83 (by decide) ?_
    refine zcVi (As := [.int 0]) (rest := []) (C := RX9) Cx (c_X9_edges l G o0 d0 0 S0_1 _ hg) zv_X9_edges q_1029 ⟨⟨rfl, rfl⟩, Nat.le_of_ble_eq_true rfl, Nat.le_of_ble_eq_true rfl⟩ (zJ.all hP hD hS hA) hS 7 rfl rfl rfl rfl hl.1 rfl (Nat.le_of_ble_eq_true rfl) dX9_count_84 (fun r_2 _u H locs hg hP hD hS => ?_)
    exact hret _ _ _ (S0_1) _ _ hg rfl hP hD hS dX9_count_87
  by_cases k3 : x1 = 3
  · have hg := hg.2.2.2.1 k3
    refine lv_tableIn (tgt := 88) hx hb dX9_count_6 (by rw [k3]; decide) (by rw [k3]; decide) (by rw [k3]; rfl) (by decide) ?_
    refine lv_aload_n hx hb dX9_count_88 rfl (lv_at hl 0 rfl) ?_
    refine zcVi (As := []) (rest := []) (C := RX9) Cx (c_X9_liveBlocks l G o0 d0 S0_1 _ hg) zv_X9_liveBlocks q_993 ⟨⟨rfl, rfl⟩, Nat.le_of_ble_eq_true rfl, Nat.le_of_ble_eq_true rfl⟩ (zJ.all hP hD hS hA) hS 7 rfl rfl rfl rfl hl.1 rfl (Nat.le_of_ble_eq_true rfl) dX9_count_89 (fun r_3 _u H locs hg hP hD hS => ?_)
    exact hret _ _ _ (S0_1) _ _ hg rfl hP hD hS dX9_count_92
  by_cases k4 : x1 = 4
  · have hg := hg.2.2.2.2.1 k4
    refine lv_tableIn (tgt := 93) hx hb dX9_count_6 (by rw [k4]; decide) (by rw [k4]; decide) (by rw [k4]; rfl) (by decide) ?_
    refine lv_aload_n hx hb dX9_count_93 rfl (lv_at hl 0 rfl) ?_
    refine lv_iconst (v := 1) hx hb dX9_count_94 (by decide) ?_
    refine zcVi (As := [.int 1]) (rest := []) (C := RX9) Cx (c_X9_edges l G o0 d0 1 S0_1 _ hg) zv_X9_edges q_1029 ⟨⟨rfl, rfl⟩, Nat.le_of_ble_eq_true rfl, Nat.le_of_ble_eq_true rfl⟩ (zJ.all hP hD hS hA) hS 7 rfl rfl rfl rfl hl.1 rfl (Nat.le_of_ble_eq_true rfl) dX9_count_95 (fun r_4 _u H locs hg hP hD hS => ?_)
    exact hret _ _ _ (S0_1) _ _ hg rfl hP hD hS dX9_count_98
  by_cases k5 : x1 = 5
  · have hg := hg.2.2.2.2.2.1 k5
    refine lv_tableIn (tgt := 99) hx hb dX9_count_6 (by rw [k5]; decide) (by rw [k5]; decide) (by rw [k5]; rfl) (by decide) ?_
    refine lv_aload_n hx hb dX9_count_99 rfl (lv_at hl 0 rfl) ?_
    refine lv_iconst (v := 1) hx hb dX9_count_100 (by decide) ?_
    refine zcVi (As := [.int 1]) (rest := []) (C := RX9) Cx (c_X9_those l G o0 d0 1 S0_1 _ hg) zv_X9_those q_973 ⟨⟨rfl, rfl⟩, Nat.le_of_ble_eq_true rfl, Nat.le_of_ble_eq_true rfl⟩ (zJ.all hP hD hS hA) hS 7 rfl rfl rfl rfl hl.1 rfl (Nat.le_of_ble_eq_true rfl) dX9_count_101 (fun r_5 _u H locs hg hP hD hS => ?_)
    exact hret _ _ _ (S0_1) _ _ hg rfl hP hD hS dX9_count_104
  by_cases k6 : x1 = 6
  · have hg := hg.2.2.2.2.2.2.1 k6
    refine lv_tableIn (tgt := 105) hx hb dX9_count_6 (by rw [k6]; decide) (by rw [k6]; decide) (by rw [k6]; rfl) (by decide) ?_
    refine lv_aload_n hx hb dX9_count_105 rfl (lv_at hl 0 rfl) ?_
    refine lv_iconst (v := 0) hx hb dX9_count_106 (by decide) ?_
    refine zcVi (As := [.int 0]) (rest := []) (C := RX9) Cx (c_X9_those l G o0 d0 0 S0_1 _ hg) zv_X9_those q_973 ⟨⟨rfl, rfl⟩, Nat.le_of_ble_eq_true rfl, Nat.le_of_ble_eq_true rfl⟩ (zJ.all hP hD hS hA) hS 7 rfl rfl rfl rfl hl.1 rfl (Nat.le_of_ble_eq_true rfl) dX9_count_107 (fun r_6 _u H locs hg hP hD hS => ?_)
    exact hret _ _ _ (S0_1) _ _ hg rfl hP hD hS dX9_count_110
  by_cases k7 : x1 = 7
  · have hg := hg.2.2.2.2.2.2.2.1 k7
    refine lv_tableIn (tgt := 111) hx hb dX9_count_6 (by rw [k7]; decide) (by rw [k7]; decide) (by rw [k7]; rfl) (by decide) ?_
    refine lv_aload_n hx hb dX9_count_111 rfl (lv_at hl 0 rfl) ?_
    refine zcVi (As := []) (rest := []) (C := RX9) Cx (c_X9_folds l G o0 d0 S0_1 _ hg) zv_X9_folds q_1033 ⟨⟨rfl, rfl⟩, Nat.le_of_ble_eq_true rfl, Nat.le_of_ble_eq_true rfl⟩ (zJ.all hP hD hS hA) hS 7 rfl rfl rfl rfl hl.1 rfl (Nat.le_of_ble_eq_true rfl) dX9_count_112 (fun r_7 _u H locs hg hP hD hS => ?_)
    exact hret _ _ _ (S0_1) _ _ hg rfl hP hD hS dX9_count_115
  by_cases k8 : x1 = 8
  · have hg := hg.2.2.2.2.2.2.2.2.1 k8
    refine lv_tableIn (tgt := 116) hx hb dX9_count_6 (by rw [k8]; decide) (by rw [k8]; decide) (by rw [k8]; rfl) (by decide) ?_
    refine lv_aload_n hx hb dX9_count_116 rfl (lv_at hl 0 rfl) ?_
    refine zcVi (As := []) (rest := []) (C := RX9) Cx (c_X9_foldedEnds l G o0 d0 S0_1 _ hg) zv_X9_foldedEnds q_1037 ⟨⟨rfl, rfl⟩, Nat.le_of_ble_eq_true rfl, Nat.le_of_ble_eq_true rfl⟩ (zJ.all hP hD hS hA) hS 7 rfl rfl rfl rfl hl.1 rfl (Nat.le_of_ble_eq_true rfl) dX9_count_117 (fun r_8 _u H locs hg hP hD hS => ?_)
    exact hret _ _ _ (S0_1) _ _ hg rfl hP hD hS dX9_count_120
  by_cases k9 : x1 = 9
  · have hg := hg.2.2.2.2.2.2.2.2.2.1 k9
    refine lv_tableIn (tgt := 121) hx hb dX9_count_6 (by rw [k9]; decide) (by rw [k9]; decide) (by rw [k9]; rfl) (by decide) ?_
    refine lv_aload_n hx hb dX9_count_121 rfl (lv_at hl 0 rfl) ?_
    refine zcVi (As := []) (rest := []) (C := RX9) Cx (c_X9_stays l G o0 d0 S0_1 _ hg) zv_X9_stays q_1041 ⟨⟨rfl, rfl⟩, Nat.le_of_ble_eq_true rfl, Nat.le_of_ble_eq_true rfl⟩ (zJ.all hP hD hS hA) hS 7 rfl rfl rfl rfl hl.1 rfl (Nat.le_of_ble_eq_true rfl) dX9_count_122 (fun r_9 _u H locs hg hP hD hS => ?_)
    exact hret _ _ _ (S0_1) _ _ hg rfl hP hD hS dX9_count_125
  by_cases k10 : x1 = 10
  · have hg := hg.2.2.2.2.2.2.2.2.2.2.1 k10
    refine lv_tableIn (tgt := 126) hx hb dX9_count_6 (by rw [k10]; decide) (by rw [k10]; decide) (by rw [k10]; rfl) (by decide) ?_
    refine lv_aload_n hx hb dX9_count_126 rfl (lv_at hl 0 rfl) ?_
    refine zcVi (As := []) (rest := []) (C := RX9) Cx (c_X9_gain l G o0 d0 S0_1 _ hg) zv_X9_gain q_1045 ⟨⟨rfl, rfl⟩, Nat.le_of_ble_eq_true rfl, Nat.le_of_ble_eq_true rfl⟩ (zJ.all hP hD hS hA) hS 7 rfl rfl rfl rfl hl.1 rfl (Nat.le_of_ble_eq_true rfl) dX9_count_127 (fun r_11 S0_10 H locs hg hP hD hS => ?_)
    have hP : va_P G.1 classes (wX9 G o0 d0 S0_10) H := hP
    have hD : va_D A (wX9 G o0 d0 S0_10) := hD
    exact hret _ _ _ (S0_10) _ _ hg rfl hP hD hS dX9_count_130
  by_cases k11 : x1 = 11
  · have hg := hg.2.2.2.2.2.2.2.2.2.2.2.1 k11
    refine lv_tableIn (tgt := 131) hx hb dX9_count_6 (by rw [k11]; decide) (by rw [k11]; decide) (by rw [k11]; rfl) (by decide) ?_
    refine lv_aload_n hx hb dX9_count_131 rfl (lv_at hl 0 rfl) ?_
    refine va_get (D := G.1) (ci := 7) (v := .int (S0_1 18 0)) (C := RX9) (T := TX9) (N := 49) hx hb hT iX9 hown hK hP 0 rfl rfl 18 (by decide) (hT _ q_690) (fun _ h9 => h9) rfl dX9_count_132 ?_
    exact hret _ _ _ (S0_1) _ _ hg rfl hP hD hS dX9_count_135
  by_cases k12 : x1 = 12
  · have hg := hg.2.2.2.2.2.2.2.2.2.2.2.2.1 k12
    refine lv_tableIn (tgt := 136) hx hb dX9_count_6 (by rw [k12]; decide) (by rw [k12]; decide) (by rw [k12]; rfl) (by decide) ?_
    refine lv_aload_n hx hb dX9_count_136 rfl (lv_at hl 0 rfl) ?_
    refine va_get (D := G.1) (ci := 7) (v := .int (S0_1 1 0)) (C := RX9) (T := TX9) (N := 49) hx hb hT iX9 hown hK hP 0 rfl rfl 1 (by decide) (hT _ q_673) (fun _ h9 => h9) rfl dX9_count_137 ?_
    exact hret _ _ _ (S0_1) _ _ hg rfl hP hD hS dX9_count_140
  have hg := hg.2.2.2.2.2.2.2.2.2.2.2.2.2 k0 k1 k2 k3 k4 k5 k6 k7 k8 k9 k10 k11 k12
  have nk0 := lv_neT k0 (a := 0) (by decide)
  have nk1 := lv_neT k1 (a := 1) (by decide)
  have nk2 := lv_neT k2 (a := 2) (by decide)
  have nk3 := lv_neT k3 (a := 3) (by decide)
  have nk4 := lv_neT k4 (a := 4) (by decide)
  have nk5 := lv_neT k5 (a := 5) (by decide)
  have nk6 := lv_neT k6 (a := 6) (by decide)
  have nk7 := lv_neT k7 (a := 7) (by decide)
  have nk8 := lv_neT k8 (a := 8) (by decide)
  have nk9 := lv_neT k9 (a := 9) (by decide)
  have nk10 := lv_neT k10 (a := 10) (by decide)
  have nk11 := lv_neT k11 (a := 11) (by decide)
  have nk12 := lv_neT k12 (a := 12) (by decide)
  refine lv_tableOut (tgt := 141) hx hb dX9_count_6 (by omega) (by decide) ?_
  refine lv_iconst (v := (-1)) hx hb dX9_count_141 (by decide) ?_
  exact hret _ _ _ (S0_1) _ _ hg rfl hP hD hS dX9_count_142
theorem zv_X9_best : zV yX9_best RX9 cX9_best 8 (some .int) 1 := ⟨q_1050, q_1051, q_8, q_1052, by decide +kernel⟩
set_option maxHeartbeats 4000000 in
set_option maxRecDepth 100000 in
theorem c_X9_best (l : Launch) (G : ZG) (o0 : Nat) (d0 : Nat → Nat) (x1 : Int32) (S0 : ZS) (Q : Int32 → ZS → Prop) (hg : g_X9_best x1 S0 Q) : Ki l G yX9_best cX9_best 8 .int rm_X9_best [.ref o0, .int x1] (wX9 G o0 d0 S0) (fun u : ZS => wX9 G o0 d0 u) (fun r u => Q r u) := by
  refine Ki.of (by decide) (Nat.le_of_ble_eq_true rfl) ?_
  intro p e s m args below meth c A QQ ls Cx hret hl hP hD hS
  obtain ⟨hx, hb, hml, hown, hT, hK, hA⟩ := id Cx
  have hl : lv_has ls 8 [(0, .ref o0), (1, .int x1)] := hl
  have J156 : ∀ (X33 : Int32 × Int32 × Int32 × Int32 × ZS → Prop) (hX33 : ∀ (x2 : Int32) (x3 : Int32) (x4 : Int32) (x5 : Int32) (S0 : ZS) (H : Heap) (locs : List Loc) (ls : Array Slot), X33 (x2, x3, x4, x5, S0) → va_P G.1 classes (wX9 G o0 d0 S0) H → va_D A (wX9 G o0 d0 S0) → va_S A s.heap H locs → lv_has ls 8 [(0, .ref o0), (1, .int x1), (2, .int x2), (3, .int x3), (4, .int x4), (5, .int x5)] → W p l e rm_X9_best s m args below meth c H locs 0 0 QQ (F0 m 33 ls [])) (x2 : Int32) (x4 : Int32) (x5 : Int32) (x7 : Int32) (t0 : Int32) (S0 : ZS) (H : Heap) (locs : List Loc) (ls : Array Slot), G_X9_best_156 x1 Q X33 x2 x4 x5 x7 t0 S0 → va_P G.1 classes (wX9 G o0 d0 S0) H → va_D A (wX9 G o0 d0 S0) → va_S A s.heap H locs → lv_has ls 8 [(0, .ref o0), (1, .int x1), (2, .int x2), (4, .int x4), (5, .int x5), (7, .int x7)] → W p l e rm_X9_best s m args below meth c H locs 0 0 QQ (F0 m 156 ls [.int t0]) := by
    intro X33 hX33 x2 x4 x5 x7 t0 S0 H locs ls hg hP hD hS hl
    refine lv_istore_n (lv' := [(3, .int t0), (0, .ref o0), (1, .int x1), (2, .int x2), (4, .int x4), (5, .int x5), (7, .int x7)]) hx hb dX9_best_156 rfl hl (by decide) rfl (fun ls hl => ?_)
    refine lv_iload hx hb dX9_best_157 (lv_at hl 6 rfl) ?_
    refine lv_iload hx hb dX9_best_159 (lv_at hl 4 rfl) ?_
    refine lv_icmp_le (tgt := 169) hx hb dX9_best_161 (by decide) (fun c_1 => ?_) (fun c_1 => ?_)
    · have hg := hg.1 c_1
      refine lv_iload hx hb dX9_best_169 (lv_at hl 4 rfl) ?_
      refine lv_istore (lv' := [(4, .int x4), (3, .int t0), (0, .ref o0), (1, .int x1), (2, .int x2), (5, .int x5), (7, .int x7)]) hx hb dX9_best_171 hl (by decide) rfl (fun ls hl => ?_)
      obtain ⟨x5_2, ex5_2⟩ : ∃ y : Int32, y = x5 + 1 := ⟨_, rfl⟩
      have hg := hg x5_2 ex5_2
      refine lv_iinc (v := x5_2) (lv' := [(5, .int x5_2), (4, .int x4), (3, .int t0), (0, .ref o0), (1, .int x1), (2, .int x2), (7, .int x7)]) hx hb dX9_best_173 hl (k := 5) rfl (by rw [ex5_2]; rfl) (by decide) rfl (fun ls hl => ?_)
      refine lv_goto (tgt := 33) hx hb dX9_best_176 (by decide) ?_
      exact hX33 _ _ _ _ _ _ _ _ hg hP hD hS (lv_sub hl [3, 4, 5, 2, 1, 0] rfl)
    · have hg := hg.2 c_1
      refine lv_iload hx hb dX9_best_164 (lv_at hl 6 rfl) ?_
      refine lv_goto (tgt := 171) hx hb dX9_best_166 (by decide) ?_
      refine lv_istore (lv' := [(4, .int x7), (3, .int t0), (0, .ref o0), (1, .int x1), (2, .int x2), (5, .int x5), (7, .int x7)]) hx hb dX9_best_171 hl (by decide) rfl (fun ls hl => ?_)
      obtain ⟨x5_3, ex5_3⟩ : ∃ y : Int32, y = x5 + 1 := ⟨_, rfl⟩
      have hg := hg x5_3 ex5_3
      refine lv_iinc (v := x5_3) (lv' := [(5, .int x5_3), (4, .int x7), (3, .int t0), (0, .ref o0), (1, .int x1), (2, .int x2), (7, .int x7)]) hx hb dX9_best_173 hl (k := 5) rfl (by rw [ex5_3]; rfl) (by decide) rfl (fun ls hl => ?_)
      refine lv_goto (tgt := 33) hx hb dX9_best_176 (by decide) ?_
      exact hX33 _ _ _ _ _ _ _ _ hg hP hD hS (lv_sub hl [3, 4, 5, 2, 1, 0] rfl)
  have L33 : ∀ (n : Nat) (x2 : Int32) (x3 : Int32) (x4 : Int32) (x5 : Int32) (S0 : ZS) (H : Heap) (locs : List Loc) (ls : Array Slot), fx (F_X9_best_33 x1 Q) n (x2, x3, x4, x5, S0) → va_P G.1 classes (wX9 G o0 d0 S0) H → va_D A (wX9 G o0 d0 S0) → va_S A s.heap H locs → lv_has ls 8 [(0, .ref o0), (1, .int x1), (2, .int x2), (3, .int x3), (4, .int x4), (5, .int x5)] → W p l e rm_X9_best s m args below meth c H locs 0 0 QQ (F0 m 33 ls []) := by
    intro n
    induction n with
    | zero => intro x2 x3 x4 x5 S0 H locs ls hg; exact hg.elim
    | succ n ih =>
      have hX33 := ih
      intro x2 x3 x4 x5 S0 H locs ls hg hP hD hS hl
      refine lv_iload hx hb dX9_best_33 (lv_at hl 5 rfl) ?_
      refine lv_aload_n hx hb dX9_best_35 rfl (lv_at hl 0 rfl) ?_
      refine va_get (D := G.1) (ci := 7) (v := .int (S0 2 0)) (C := RX9) (T := TX9) (N := 49) hx hb hT iX9 hown hK hP 0 rfl rfl 2 (by decide) (hT _ q_674) (fun _ h9 => h9) rfl dX9_best_36 ?_
      refine lv_icmp_ge (tgt := 179) hx hb dX9_best_39 (by decide) (fun c_1 => ?_) (fun c_1 => ?_)
      · have hg := hg.1 c_1
        refine lv_iload_n hx hb dX9_best_179 rfl (lv_at hl 3 rfl) ?_
        refine lv_bipush (v := (-9)) hx hb dX9_best_180 (by decide) ?_
        refine lv_icmp_eq (tgt := 189) hx hb dX9_best_182 (by decide) (fun c_2 => ?_) (fun c_2 => ?_)
        · have hg := hg.1 c_2
          refine lv_iload_n hx hb dX9_best_189 rfl (lv_at hl 3 rfl) ?_
          refine lv_goto (tgt := 195) hx hb dX9_best_190 (by decide) ?_
          exact hret _ _ _ (S0) _ _ hg rfl hP hD hS dX9_best_195
        · have hg := hg.2 c_2
          refine lv_iload_n hx hb dX9_best_185 rfl (lv_at hl 1 rfl) ?_
          refine lv_if_ne (tgt := 193) hx hb dX9_best_186 (by decide) (fun c_3 => ?_) (fun c_3 => ?_)
          · have hg := hg.2 c_3
            refine lv_iload hx hb dX9_best_193 (lv_at hl 4 rfl) ?_
            exact hret _ _ _ (S0) _ _ hg rfl hP hD hS dX9_best_195
          · have hg := hg.1 c_3
            refine lv_iload_n hx hb dX9_best_189 rfl (lv_at hl 3 rfl) ?_
            refine lv_goto (tgt := 195) hx hb dX9_best_190 (by decide) ?_
            exact hret _ _ _ (S0) _ _ hg rfl hP hD hS dX9_best_195
      · have hg := hg.2 c_1
        refine lv_aload_n hx hb dX9_best_42 rfl (lv_at hl 0 rfl) ?_
        refine va_get (D := G.1) (ci := 7) (v := .ref (d0 4)) (C := RX9) (T := TX9) (N := 49) hx hb hT iX9 hown hK hP 0 rfl rfl 4 (by decide) (hT _ q_676) (fun _ h9 => h9) rfl dX9_best_43 ?_
        refine lv_iload hx hb dX9_best_46 (lv_at hl 5 rfl) ?_
        refine va_iald hx hb hK hP 2 0 rfl rfl hg.1 dX9_best_48 ?_
        have hg := hg.2
        refine lv_iconst (v := 1) hx hb dX9_best_49 (by decide) ?_
        refine lv_icmp_ne (tgt := 173) hx hb dX9_best_50 (by decide) (fun c_4 => ?_) (fun c_4 => ?_)
        · have hg := hg.2 c_4
          obtain ⟨x5_5, ex5_5⟩ : ∃ y : Int32, y = x5 + 1 := ⟨_, rfl⟩
          have hg := hg x5_5 ex5_5
          refine lv_iinc (v := x5_5) (lv' := [(5, .int x5_5), (0, .ref o0), (1, .int x1), (2, .int x2), (3, .int x3), (4, .int x4)]) hx hb dX9_best_173 hl (k := 5) rfl (by rw [ex5_5]; rfl) (by decide) rfl (fun ls hl => ?_)
          refine lv_goto (tgt := 33) hx hb dX9_best_176 (by decide) ?_
          exact hX33 _ _ _ _ _ _ _ _ hg hP hD hS (lv_sub hl [1, 2, 3, 4, 5, 0] rfl)
        · have hg := hg.1 c_4
          refine lv_aload_n hx hb dX9_best_53 rfl (lv_at hl 0 rfl) ?_
          refine va_get (D := G.1) (ci := 7) (v := .ref (d0 16)) (C := RX9) (T := TX9) (N := 49) hx hb hT iX9 hown hK hP 0 rfl rfl 16 (by decide) (hT _ q_688) (fun _ h9 => h9) rfl dX9_best_54 ?_
          refine lv_iconst (v := 0) hx hb dX9_best_57 (by decide) ?_
          refine lv_iload hx hb dX9_best_58 (lv_at hl 5 rfl) ?_
          refine lv_iadd hx hb dX9_best_60 ?_
          refine va_iald hx hb hK hP 14 0 rfl rfl hg.1 dX9_best_61 ?_
          have hg := hg.2
          refine lv_if_ne (tgt := 173) hx hb dX9_best_62 (by decide) (fun c_6 => ?_) (fun c_6 => ?_)
          · have hg := hg.2 c_6
            obtain ⟨x5_7, ex5_7⟩ : ∃ y : Int32, y = x5 + 1 := ⟨_, rfl⟩
            have hg := hg x5_7 ex5_7
            refine lv_iinc (v := x5_7) (lv' := [(5, .int x5_7), (0, .ref o0), (1, .int x1), (2, .int x2), (3, .int x3), (4, .int x4)]) hx hb dX9_best_173 hl (k := 5) rfl (by rw [ex5_7]; rfl) (by decide) rfl (fun ls hl => ?_)
            refine lv_goto (tgt := 33) hx hb dX9_best_176 (by decide) ?_
            exact hX33 _ _ _ _ _ _ _ _ hg hP hD hS (lv_sub hl [1, 2, 3, 4, 5, 0] rfl)
          · have hg := hg.1 c_6
            refine lv_aload_n hx hb dX9_best_65 rfl (lv_at hl 0 rfl) ?_
            refine va_get (D := G.1) (ci := 7) (v := .ref (d0 16)) (C := RX9) (T := TX9) (N := 49) hx hb hT iX9 hown hK hP 0 rfl rfl 16 (by decide) (hT _ q_688) (fun _ h9 => h9) rfl dX9_best_66 ?_
            refine lv_bipush (v := 24) hx hb dX9_best_69 (by decide) ?_
            refine lv_iload hx hb dX9_best_71 (lv_at hl 5 rfl) ?_
            refine lv_iadd hx hb dX9_best_73 ?_
            refine va_iald hx hb hK hP 14 0 rfl rfl hg.1 dX9_best_74 ?_
            have hg := hg.2
            refine lv_topi (fun x6_8 ex6_8 => ?_)
            have hg := hg x6_8 ex6_8
            refine lv_istore (lv' := [(6, .int x6_8), (0, .ref o0), (1, .int x1), (2, .int x2), (3, .int x3), (4, .int x4), (5, .int x5)]) hx hb dX9_best_75 hl (by decide) rfl (fun ls hl => ?_)
            refine lv_aload_n hx hb dX9_best_77 rfl (lv_at hl 1 rfl) ?_
            refine va_get (D := G.1) (ci := 7) (v := .ref (d0 16)) (C := RX9) (T := TX9) (N := 49) hx hb hT iX9 hown hK hP 0 rfl rfl 16 (by decide) (hT _ q_688) (fun _ h9 => h9) rfl dX9_best_78 ?_
            refine lv_iconst (v := 0) hx hb dX9_best_81 (by decide) ?_
            refine lv_iload hx hb dX9_best_82 (lv_at hl 6 rfl) ?_
            refine lv_iadd hx hb dX9_best_84 ?_
            refine lv_iconst (v := 1) hx hb dX9_best_85 (by decide) ?_
            refine z_iast hx hb hK hP hD hS 14 0 rfl rfl hg.1 dX9_best_86 (zst S0 16 (0 + x5).toNatClampNeg 1) (fun S : ZS => wX9 G o0 d0 S) rfl (fun S0_9 H locs eS0_9 hP hD hS => ?_)
            have hg := hg.2 S0_9 eS0_9
            refine lv_aload_n hx hb dX9_best_87 rfl (lv_at hl 1 rfl) ?_
            refine va_get (D := G.1) (ci := 7) (v := .ref (d0 16)) (C := RX9) (T := TX9) (N := 49) hx hb hT iX9 hown hK hP 0 rfl rfl 16 (by decide) (hT _ q_688) (fun _ h9 => h9) rfl dX9_best_88 ?_
            refine lv_bipush (v := 24) hx hb dX9_best_91 (by decide) ?_
            refine lv_iload hx hb dX9_best_93 (lv_at hl 6 rfl) ?_
            refine lv_iadd hx hb dX9_best_95 ?_
            refine lv_aload_n hx hb dX9_best_96 rfl (lv_at hl 1 rfl) ?_
            refine va_get (D := G.1) (ci := 7) (v := .ref (d0 16)) (C := RX9) (T := TX9) (N := 49) hx hb hT iX9 hown hK hP 0 rfl rfl 16 (by decide) (hT _ q_688) (fun _ h9 => h9) rfl dX9_best_97 ?_
            refine lv_bipush (v := 48) hx hb dX9_best_100 (by decide) ?_
            refine lv_iload hx hb dX9_best_102 (lv_at hl 6 rfl) ?_
            refine lv_iadd hx hb dX9_best_104 ?_
            refine va_iald hx hb hK hP 14 0 rfl rfl hg.1 dX9_best_105 ?_
            have hg := hg.2
            refine z_iast hx hb hK hP hD hS 14 0 rfl rfl hg.1 dX9_best_106 (zst S0_9 16 (24 + x5).toNatClampNeg (S0_9 16 (48 + x5).toNatClampNeg)) (fun S : ZS => wX9 G o0 d0 S) rfl (fun S0_10 H locs eS0_10 hP hD hS => ?_)
            have hg := hg.2 S0_10 eS0_10
            refine lv_aload_n hx hb dX9_best_107 rfl (lv_at hl 1 rfl) ?_
            refine lv_iconst (v := 0) hx hb dX9_best_108 (by decide) ?_
            refine zcVv (As := [.int 0]) (rest := []) (C := RX9) Cx (c_X9_finds l G o0 d0 0 S0_10 _ hg) zv_X9_finds q_917 ⟨⟨rfl, rfl⟩, Nat.le_of_ble_eq_true rfl, Nat.le_of_ble_eq_true rfl⟩ (zJ.all hP hD hS hA) hS 7 rfl rfl rfl rfl hl.1 rfl (Nat.le_of_ble_eq_true rfl) dX9_best_109 (fun S0_11 H locs hg hP hD hS => ?_)
            have hP : va_P G.1 classes (wX9 G o0 d0 S0_11) H := hP
            have hD : va_D A (wX9 G o0 d0 S0_11) := hD
            refine lv_iload_n hx hb dX9_best_112 rfl (lv_at hl 3 rfl) ?_
            refine lv_aload_n hx hb dX9_best_113 rfl (lv_at hl 1 rfl) ?_
            refine lv_iconst (v := 2) hx hb dX9_best_114 (by decide) ?_
            refine zcVi (As := [.int 2]) (rest := [.int x2]) (C := RX9) Cx (c_X9_those l G o0 d0 2 S0_11 _ hg) zv_X9_those q_973 ⟨⟨rfl, rfl⟩, Nat.le_of_ble_eq_true rfl, Nat.le_of_ble_eq_true rfl⟩ (zJ.all hP hD hS hA) hS 7 rfl rfl rfl rfl hl.1 rfl (Nat.le_of_ble_eq_true rfl) dX9_best_115 (fun r_12 _u H locs hg hP hD hS => ?_)
            refine lv_isub hx hb dX9_best_118 ?_
            refine lv_topi (fun x7_13 ex7_13 => ?_)
            have hg := hg x7_13 ex7_13
            refine lv_istore (lv' := [(7, .int x7_13), (6, .int x6_8), (0, .ref o0), (1, .int x1), (2, .int x2), (3, .int x3), (4, .int x4), (5, .int x5)]) hx hb dX9_best_119 hl (by decide) rfl (fun ls hl => ?_)
            refine lv_aload_n hx hb dX9_best_121 rfl (lv_at hl 2 rfl) ?_
            refine va_get (D := G.1) (ci := 7) (v := .ref (d0 16)) (C := RX9) (T := TX9) (N := 49) hx hb hT iX9 hown hK hP 0 rfl rfl 16 (by decide) (hT _ q_688) (fun _ h9 => h9) rfl dX9_best_122 ?_
            refine lv_iconst (v := 0) hx hb dX9_best_125 (by decide) ?_
            refine lv_iload hx hb dX9_best_126 (lv_at hl 7 rfl) ?_
            refine lv_iadd hx hb dX9_best_128 ?_
            refine lv_iconst (v := 0) hx hb dX9_best_129 (by decide) ?_
            refine z_iast hx hb hK hP hD hS 14 0 rfl rfl hg.1 dX9_best_130 (zst S0_11 16 (0 + x5).toNatClampNeg 0) (fun S : ZS => wX9 G o0 d0 S) rfl (fun S0_14 H locs eS0_14 hP hD hS => ?_)
            have hg := hg.2 S0_14 eS0_14
            refine lv_aload_n hx hb dX9_best_131 rfl (lv_at hl 2 rfl) ?_
            refine va_get (D := G.1) (ci := 7) (v := .ref (d0 16)) (C := RX9) (T := TX9) (N := 49) hx hb hT iX9 hown hK hP 0 rfl rfl 16 (by decide) (hT _ q_688) (fun _ h9 => h9) rfl dX9_best_132 ?_
            refine lv_bipush (v := 24) hx hb dX9_best_135 (by decide) ?_
            refine lv_iload hx hb dX9_best_137 (lv_at hl 7 rfl) ?_
            refine lv_iadd hx hb dX9_best_139 ?_
            refine lv_iload hx hb dX9_best_140 (lv_at hl 1 rfl) ?_
            refine z_iast hx hb hK hP hD hS 14 0 rfl rfl hg.1 dX9_best_142 (zst S0_14 16 (24 + x5).toNatClampNeg x6_8) (fun S : ZS => wX9 G o0 d0 S) rfl (fun S0_15 H locs eS0_15 hP hD hS => ?_)
            have hg := hg.2 S0_15 eS0_15
            refine lv_iload hx hb dX9_best_143 (lv_at hl 0 rfl) ?_
            refine lv_iload hx hb dX9_best_145 (lv_at hl 6 rfl) ?_
            refine lv_icmp_le (tgt := 155) hx hb dX9_best_147 (by decide) (fun c_16 => ?_) (fun c_16 => ?_)
            · have hg := hg.1 c_16
              refine lv_iload_n hx hb dX9_best_155 rfl (lv_at hl 5 rfl) ?_
              exact J156 _ hX33 _ _ _ _ _ _ _ _ _ hg hP hD hS (lv_sub hl [2, 3, 4, 6, 7, 0] rfl)
            · have hg := hg.2 c_16
              refine lv_iload hx hb dX9_best_150 (lv_at hl 7 rfl) ?_
              refine lv_goto (tgt := 156) hx hb dX9_best_152 (by decide) ?_
              exact J156 _ hX33 _ _ _ _ _ _ _ _ _ hg hP hD hS (lv_sub hl [2, 3, 4, 6, 7, 0] rfl)
  refine lv_iload_n hx hb dX9_best_0 rfl (lv_at hl 1 rfl) ?_
  refine lv_iconst (v := 0) hx hb dX9_best_1 (by decide) ?_
  refine lv_iconst (v := 1) hx hb dX9_best_2 (by decide) ?_
  refine zcSi (As := [.int x1, .int 0, .int 1]) (rest := []) Cx (c_X9_in l G x1 0 1 _ hg) zv_X9_in q_825 ⟨⟨rfl, rfl⟩, Nat.le_of_ble_eq_true rfl, Nat.le_of_ble_eq_true rfl⟩ (zJ.none (S := Unit) hP hD hS hA) hS rfl hl.1 rfl (Nat.le_of_ble_eq_true rfl) dX9_best_3 (fun r_1 _u H locs hg hP hD hS => ?_)
  refine lv_if_ne (tgt := 11) hx hb dX9_best_6 (by decide) (fun c_2 => ?_) (fun c_2 => ?_)
  · have hg := hg.2 c_2
    refine lv_aload_n hx hb dX9_best_11 rfl (lv_at hl 0 rfl) ?_
    refine lv_iconst (v := 0) hx hb dX9_best_12 (by decide) ?_
    refine zcVv (As := [.int 0]) (rest := []) (C := RX9) Cx (c_X9_finds l G o0 d0 0 S0 _ hg) zv_X9_finds q_917 ⟨⟨rfl, rfl⟩, Nat.le_of_ble_eq_true rfl, Nat.le_of_ble_eq_true rfl⟩ (zJ.all hP hD hS hA) hS 7 rfl rfl rfl rfl hl.1 rfl (Nat.le_of_ble_eq_true rfl) dX9_best_13 (fun S0_3 H locs hg hP hD hS => ?_)
    have hP : va_P G.1 classes (wX9 G o0 d0 S0_3) H := hP
    have hD : va_D A (wX9 G o0 d0 S0_3) := hD
    refine lv_aload_n hx hb dX9_best_16 rfl (lv_at hl 0 rfl) ?_
    refine lv_iconst (v := 2) hx hb dX9_best_17 (by decide) ?_
    refine zcVi (As := [.int 2]) (rest := []) (C := RX9) Cx (c_X9_those l G o0 d0 2 S0_3 _ hg) zv_X9_those q_973 ⟨⟨rfl, rfl⟩, Nat.le_of_ble_eq_true rfl, Nat.le_of_ble_eq_true rfl⟩ (zJ.all hP hD hS hA) hS 7 rfl rfl rfl rfl hl.1 rfl (Nat.le_of_ble_eq_true rfl) dX9_best_18 (fun r_4 _u H locs hg hP hD hS => ?_)
    refine lv_istore_n (lv' := [(2, .int r_4), (0, .ref o0), (1, .int x1)]) hx hb dX9_best_21 rfl hl (by decide) rfl (fun ls hl => ?_)
    refine lv_bipush (v := (-9)) hx hb dX9_best_22 (by decide) ?_
    refine lv_istore_n (lv' := [(3, .int (-9)), (2, .int r_4), (0, .ref o0), (1, .int x1)]) hx hb dX9_best_24 rfl hl (by decide) rfl (fun ls hl => ?_)
    refine lv_sipush (v := (-1000)) hx hb dX9_best_25 (by decide) ?_
    refine lv_istore (lv' := [(4, .int (-1000)), (3, .int (-9)), (2, .int r_4), (0, .ref o0), (1, .int x1)]) hx hb dX9_best_28 hl (by decide) rfl (fun ls hl => ?_)
    refine lv_iconst (v := 0) hx hb dX9_best_30 (by decide) ?_
    refine lv_istore (lv' := [(5, .int 0), (4, .int (-1000)), (3, .int (-9)), (2, .int r_4), (0, .ref o0), (1, .int x1)]) hx hb dX9_best_31 hl (by decide) rfl (fun ls hl => ?_)
    obtain ⟨n, hg⟩ := hg
    exact L33 n _ _ _ _ _ _ _ _ hg hP hD hS (lv_sub hl [4, 5, 3, 2, 1, 0] rfl)
  · have hg := hg.1 c_2
    refine lv_iconst (v := (-1)) hx hb dX9_best_9 (by decide) ?_
    exact hret _ _ _ (S0) _ _ hg rfl hP hD hS dX9_best_10
theorem zv_X9_keep : zV yX9_keep RX9 cX9_keep 2 (some .int) 1 := ⟨q_1054, q_1055, q_8, q_1056, by decide +kernel⟩
set_option maxHeartbeats 4000000 in
set_option maxRecDepth 100000 in
theorem c_X9_keep (l : Launch) (G : ZG) (o0 : Nat) (d0 : Nat → Nat) (x1 : Int32) (S0 : ZS) (Q : Int32 → ZS → Prop) (hg : g_X9_keep x1 S0 Q) : Ki l G yX9_keep cX9_keep 2 .int rm_X9_keep [.ref o0, .int x1] (wX9 G o0 d0 S0) (fun u : ZS => wX9 G o0 d0 u) (fun r u => Q r u) := by
  refine Ki.of (by decide) (Nat.le_of_ble_eq_true rfl) ?_
  intro p e s m args below meth c A QQ ls Cx hret hl hP hD hS
  obtain ⟨hx, hb, hml, hown, hT, hK, hA⟩ := id Cx
  have hl : lv_has ls 2 [(0, .ref o0), (1, .int x1)] := hl
  refine lv_iload_n hx hb dX9_keep_0 rfl (lv_at hl 1 rfl) ?_
  refine lv_iconst (v := 0) hx hb dX9_keep_1 (by decide) ?_
  refine lv_iconst (v := 1) hx hb dX9_keep_2 (by decide) ?_
  refine zcSi (As := [.int x1, .int 0, .int 1]) (rest := []) Cx (c_X9_in l G x1 0 1 _ hg) zv_X9_in q_825 ⟨⟨rfl, rfl⟩, Nat.le_of_ble_eq_true rfl, Nat.le_of_ble_eq_true rfl⟩ (zJ.none (S := Unit) hP hD hS hA) hS rfl hl.1 rfl (Nat.le_of_ble_eq_true rfl) dX9_keep_3 (fun r_1 _u H locs hg hP hD hS => ?_)
  refine lv_if_ne (tgt := 11) hx hb dX9_keep_6 (by decide) (fun c_2 => ?_) (fun c_2 => ?_)
  · have hg := hg.2 c_2
    refine lv_aload_n hx hb dX9_keep_11 rfl (lv_at hl 0 rfl) ?_
    refine va_get (D := G.1) (ci := 7) (v := .ref (d0 16)) (C := RX9) (T := TX9) (N := 49) hx hb hT iX9 hown hK hP 0 rfl rfl 16 (by decide) (hT _ q_688) (fun _ h9 => h9) rfl dX9_keep_12 ?_
    refine lv_iconst (v := 0) hx hb dX9_keep_15 (by decide) ?_
    refine lv_aload_n hx hb dX9_keep_16 rfl (lv_at hl 0 rfl) ?_
    refine va_get (D := G.1) (ci := 7) (v := .ref (d0 19)) (C := RX9) (T := TX9) (N := 49) hx hb hT iX9 hown hK hP 0 rfl rfl 19 (by decide) (hT _ q_691) (fun _ h9 => h9) rfl dX9_keep_17 ?_
    refine lv_bipush (v := 112) hx hb dX9_keep_20 (by decide) ?_
    refine lv_iload_n hx hb dX9_keep_22 rfl (lv_at hl 1 rfl) ?_
    refine lv_imul hx hb dX9_keep_23 ?_
    refine lv_bipush (v := 112) hx hb dX9_keep_24 (by decide) ?_
    refine zcSv (As := [.ref (d0 16), .int 0, .ref (d0 19), .int (112 * x1), .int 112]) (rest := []) Cx (c_X9_bring l G (d0 16) (d0 19) 112 224 0 (112 * x1) 112 (S0 16) (S0 19) _ hg) zv_X9_bring q_906 ⟨⟨rfl, rfl⟩, Nat.le_of_ble_eq_true rfl, Nat.le_of_ble_eq_true rfl⟩ (zJ.sub (wr := [0, 1, 2, 3, 4, 5, 6, 7, 8, 9, 10, 11, 12, 13, 15, 17, 18, 19, 20, 21, 22, 23, 24, 25, 26, 27, 28, 29, 30, 31, 32, 33, 34, 35, 36, 37].filterMap (fun i => (wX9 G o0 d0 S0)[i]?)) (w2 := (fun u : ZR => wX9 G o0 d0 ((zrp S0 19 u)))) hP hD hS hA [14, 16] [0, 1, 2, 3, 4, 5, 6, 7, 8, 9, 10, 11, 12, 13, 15, 17, 18, 19, 20, 21, 22, 23, 24, 25, 26, 27, 28, 29, 30, 31, 32, 33, 34, 35, 36, 37] [0, 1, 2, 3, 4, 5, 6, 7, 8, 9, 10, 11, 12, 13, 36, 14, 37, 15, 16, 17, 18, 19, 20, 21, 22, 23, 24, 25, 26, 27, 28, 29, 30, 31, 32, 33, 34, 35] rfl rfl (by decide) (fun u => rfl)) hS rfl hl.1 rfl (Nat.le_of_ble_eq_true rfl) dX9_keep_26 (fun f_3 H locs hg hP hD hS => ?_)
    have hP : va_P G.1 classes (wX9 G o0 d0 ((zrp S0 19 f_3))) H := hP
    have hD : va_D A (wX9 G o0 d0 ((zrp S0 19 f_3))) := hD
    refine lv_aload_n hx hb dX9_keep_29 rfl (lv_at hl 0 rfl) ?_
    refine va_get (D := G.1) (ci := 7) (v := .ref (d0 20)) (C := RX9) (T := TX9) (N := 49) hx hb hT iX9 hown hK hP 0 rfl rfl 20 (by decide) (hT _ q_692) (fun _ h9 => h9) rfl dX9_keep_30 ?_
    refine lv_iload_n hx hb dX9_keep_33 rfl (lv_at hl 1 rfl) ?_
    refine lv_iconst (v := 1) hx hb dX9_keep_34 (by decide) ?_
    refine z_zast hx hb hK hP hD hS 17 1 rfl rfl hg.1 dX9_keep_35 (zst (zrp S0 19 f_3) 20 x1.toNatClampNeg (vp_nar .boolean 1)) (fun S : ZS => wX9 G o0 d0 S) rfl (fun S0_4 H locs eS0_4 hP hD hS => ?_)
    have hg := hg.2 S0_4 eS0_4
    refine lv_aload_n hx hb dX9_keep_36 rfl (lv_at hl 0 rfl) ?_
    refine va_get (D := G.1) (ci := 7) (v := .int (S0_4 2 0)) (C := RX9) (T := TX9) (N := 49) hx hb hT iX9 hown hK hP 0 rfl rfl 2 (by decide) (hT _ q_674) (fun _ h9 => h9) rfl dX9_keep_37 ?_
    exact hret _ _ _ (S0_4) _ _ hg rfl hP hD hS dX9_keep_40
  · have hg := hg.1 c_2
    refine lv_iconst (v := (-1)) hx hb dX9_keep_9 (by decide) ?_
    exact hret _ _ _ (S0) _ _ hg rfl hP hD hS dX9_keep_10
theorem zv_X9_back : zV yX9_back RX9 cX9_back 2 (some .int) 1 := ⟨q_1058, q_1059, q_8, q_1060, by decide +kernel⟩
set_option maxHeartbeats 4000000 in
set_option maxRecDepth 100000 in
theorem c_X9_back (l : Launch) (G : ZG) (o0 : Nat) (d0 : Nat → Nat) (x1 : Int32) (S0 : ZS) (Q : Int32 → ZS → Prop) (hg : g_X9_back x1 S0 Q) : Ki l G yX9_back cX9_back 2 .int rm_X9_back [.ref o0, .int x1] (wX9 G o0 d0 S0) (fun u : ZS => wX9 G o0 d0 u) (fun r u => Q r u) := by
  refine Ki.of (by decide) (Nat.le_of_ble_eq_true rfl) ?_
  intro p e s m args below meth c A QQ ls Cx hret hl hP hD hS
  obtain ⟨hx, hb, hml, hown, hT, hK, hA⟩ := id Cx
  have hl : lv_has ls 2 [(0, .ref o0), (1, .int x1)] := hl
  refine lv_iload_n hx hb dX9_back_0 rfl (lv_at hl 1 rfl) ?_
  refine lv_iconst (v := 0) hx hb dX9_back_1 (by decide) ?_
  refine lv_iconst (v := 1) hx hb dX9_back_2 (by decide) ?_
  refine zcSi (As := [.int x1, .int 0, .int 1]) (rest := []) Cx (c_X9_in l G x1 0 1 _ hg) zv_X9_in q_825 ⟨⟨rfl, rfl⟩, Nat.le_of_ble_eq_true rfl, Nat.le_of_ble_eq_true rfl⟩ (zJ.none (S := Unit) hP hD hS hA) hS rfl hl.1 rfl (Nat.le_of_ble_eq_true rfl) dX9_back_3 (fun r_1 _u H locs hg hP hD hS => ?_)
  refine lv_if_ne (tgt := 11) hx hb dX9_back_6 (by decide) (fun c_2 => ?_) (fun c_2 => ?_)
  · have hg := hg.2 c_2
    refine lv_aload_n hx hb dX9_back_11 rfl (lv_at hl 0 rfl) ?_
    refine va_get (D := G.1) (ci := 7) (v := .ref (d0 20)) (C := RX9) (T := TX9) (N := 49) hx hb hT iX9 hown hK hP 0 rfl rfl 20 (by decide) (hT _ q_692) (fun _ h9 => h9) rfl dX9_back_12 ?_
    refine lv_iload_n hx hb dX9_back_15 rfl (lv_at hl 1 rfl) ?_
    refine va_zald hx hb hK hP 17 1 rfl rfl hg.1 dX9_back_16 ?_
    have hg := hg.2
    refine lv_if_ne (tgt := 23) hx hb dX9_back_17 (by decide) (fun c_3 => ?_) (fun c_3 => ?_)
    · have hg := hg.2 c_3
      refine lv_aload_n hx hb dX9_back_23 rfl (lv_at hl 0 rfl) ?_
      refine va_get (D := G.1) (ci := 7) (v := .ref (d0 19)) (C := RX9) (T := TX9) (N := 49) hx hb hT iX9 hown hK hP 0 rfl rfl 19 (by decide) (hT _ q_691) (fun _ h9 => h9) rfl dX9_back_24 ?_
      refine lv_bipush (v := 112) hx hb dX9_back_27 (by decide) ?_
      refine lv_iload_n hx hb dX9_back_29 rfl (lv_at hl 1 rfl) ?_
      refine lv_imul hx hb dX9_back_30 ?_
      refine lv_aload_n hx hb dX9_back_31 rfl (lv_at hl 0 rfl) ?_
      refine va_get (D := G.1) (ci := 7) (v := .ref (d0 16)) (C := RX9) (T := TX9) (N := 49) hx hb hT iX9 hown hK hP 0 rfl rfl 16 (by decide) (hT _ q_688) (fun _ h9 => h9) rfl dX9_back_32 ?_
      refine lv_iconst (v := 0) hx hb dX9_back_35 (by decide) ?_
      refine lv_bipush (v := 112) hx hb dX9_back_36 (by decide) ?_
      refine zcSv (As := [.ref (d0 19), .int (112 * x1), .ref (d0 16), .int 0, .int 112]) (rest := []) Cx (c_X9_bring l G (d0 19) (d0 16) 224 112 (112 * x1) 0 112 (S0 19) (S0 16) _ hg) zv_X9_bring q_906 ⟨⟨rfl, rfl⟩, Nat.le_of_ble_eq_true rfl, Nat.le_of_ble_eq_true rfl⟩ (zJ.sub (wr := [0, 1, 2, 3, 4, 5, 6, 7, 8, 9, 10, 11, 12, 13, 15, 17, 18, 19, 20, 21, 22, 23, 24, 25, 26, 27, 28, 29, 30, 31, 32, 33, 34, 35, 36, 37].filterMap (fun i => (wX9 G o0 d0 S0)[i]?)) (w2 := (fun u : ZR => wX9 G o0 d0 ((zrp S0 16 u)))) hP hD hS hA [16, 14] [0, 1, 2, 3, 4, 5, 6, 7, 8, 9, 10, 11, 12, 13, 15, 17, 18, 19, 20, 21, 22, 23, 24, 25, 26, 27, 28, 29, 30, 31, 32, 33, 34, 35, 36, 37] [0, 1, 2, 3, 4, 5, 6, 7, 8, 9, 10, 11, 12, 13, 37, 14, 36, 15, 16, 17, 18, 19, 20, 21, 22, 23, 24, 25, 26, 27, 28, 29, 30, 31, 32, 33, 34, 35] rfl rfl (by decide) (fun u => rfl)) hS rfl hl.1 rfl (Nat.le_of_ble_eq_true rfl) dX9_back_38 (fun f_4 H locs hg hP hD hS => ?_)
      have hP : va_P G.1 classes (wX9 G o0 d0 ((zrp S0 16 f_4))) H := hP
      have hD : va_D A (wX9 G o0 d0 ((zrp S0 16 f_4))) := hD
      refine lv_aload_n hx hb dX9_back_41 rfl (lv_at hl 0 rfl) ?_
      refine lv_iconst (v := 0) hx hb dX9_back_42 (by decide) ?_
      refine z_put (D := G.1) (ci := 7) (v := .int 0) (ty := .int) (C := RX9) (T := TX9) (N := 49) hx hb hT iX9 tyX9 tyX9_ok nmX9 hown hK hP hD hS 0 rfl rfl 18 (by decide) (hT _ q_690) (fun _ h9 => h9) rfl (by decide +kernel) rfl rfl (Nat.le_of_ble_eq_true rfl) dX9_back_43 (zst (zrp S0 16 f_4) 18 0 0) (fun S : ZS => wX9 G o0 d0 S) rfl (fun S0_5 H locs eS0_5 hP hD hS => ?_)
      have hg := hg S0_5 eS0_5
      refine lv_aload_n hx hb dX9_back_46 rfl (lv_at hl 0 rfl) ?_
      refine va_get (D := G.1) (ci := 7) (v := .int (S0_5 2 0)) (C := RX9) (T := TX9) (N := 49) hx hb hT iX9 hown hK hP 0 rfl rfl 2 (by decide) (hT _ q_674) (fun _ h9 => h9) rfl dX9_back_47 ?_
      exact hret _ _ _ (S0_5) _ _ hg rfl hP hD hS dX9_back_50
    · have hg := hg.1 c_3
      refine lv_bipush (v := (-2)) hx hb dX9_back_20 (by decide) ?_
      exact hret _ _ _ (S0) _ _ hg rfl hP hD hS dX9_back_22
  · have hg := hg.1 c_2
    refine lv_iconst (v := (-1)) hx hb dX9_back_9 (by decide) ?_
    exact hret _ _ _ (S0) _ _ hg rfl hP hD hS dX9_back_10
theorem zv_X9_asked : zV yX9_asked RX9 cX9_asked 1 (some .int) 0 := ⟨q_1062, q_1063, q_8, q_1064, by decide +kernel⟩
set_option maxHeartbeats 4000000 in
set_option maxRecDepth 100000 in
theorem c_X9_asked (l : Launch) (G : ZG) (o0 : Nat) (d0 : Nat → Nat) (S0 : ZS) (Q : Int32 → Prop) (hg : g_X9_asked S0 Q) : Ki l G yX9_asked cX9_asked 1 .int rm_X9_asked [.ref o0] (wX9 G o0 d0 S0) (fun _ : Unit => wX9 G o0 d0 S0) (fun r _ => Q r ) := by
  refine Ki.of (by decide) (Nat.le_of_ble_eq_true rfl) ?_
  intro p e s m args below meth c A QQ ls Cx hret hl hP hD hS
  obtain ⟨hx, hb, hml, hown, hT, hK, hA⟩ := id Cx
  have hl : lv_has ls 1 [(0, .ref o0)] := hl
  refine lv_aload_n hx hb dX9_asked_0 rfl (lv_at hl 0 rfl) ?_
  refine va_get (D := G.1) (ci := 7) (v := .int (S0 21 0)) (C := RX9) (T := TX9) (N := 49) hx hb hT iX9 hown hK hP 0 rfl rfl 21 (by decide) (hT _ q_693) (fun _ h9 => h9) rfl dX9_asked_1 ?_
  exact hret _ _ _ () _ _ hg rfl hP hD hS dX9_asked_4
