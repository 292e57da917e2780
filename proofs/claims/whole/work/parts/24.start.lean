/-! the start: classes, arrays' classes, the two objects -/
theorem q_over : (Cond.arrayOver (.object "FlowConstants$Now") : Cond) ∈ lw_tbl := List.mem_of_getElem? (i := 304) (by decide +kernel)
theorem q_nest_X6 : (Cond.methodLinkNest RX8 11 yX6_init "FlowConstants" : Cond) ∈ lw_tbl := List.mem_of_getElem? (i := 62) (by decide +kernel)
theorem q_nest_X4 : (Cond.methodLinkNest RX8 18 yX4_init "FlowConstants" : Cond) ∈ lw_tbl := List.mem_of_getElem? (i := 97) (by decide +kernel)
theorem q_nest_X2 : (Cond.methodLinkNest RX8 28 yX2_init "FlowConstants" : Cond) ∈ lw_tbl := List.mem_of_getElem? (i := 198) (by decide +kernel)
theorem q_nest_X0 : (Cond.methodLinkNest RX8 35 yX0_init "FlowConstants" : Cond) ∈ lw_tbl := List.mem_of_getElem? (i := 234) (by decide +kernel)
theorem q_nest_X7 : (Cond.methodLinkNest RX8 48 yX7_init "FlowConstants" : Cond) ∈ lw_tbl := List.mem_of_getElem? (i := 257) (by decide +kernel)
theorem q_nest_X1 : (Cond.methodLinkNest RX8 55 yX1_init "FlowConstants" : Cond) ∈ lw_tbl := List.mem_of_getElem? (i := 283) (by decide +kernel)
set_option maxHeartbeats 4000000 in
set_option maxRecDepth 100000 in
theorem z_known {s : State} {args : Array Value} (hts : ∀ w ∈ lw_tbl, w.before args s = true) : ∃ G : ZG, zK G s := by
  have hT : ∀ w ∈ lw_gt, w.before args s = true := fun w h => hts w (List.mem_filter.mp h).1
  obtain ⟨c0, iS0, hKn0⟩ := u_known (C := RX0) (T := TX0) (N := 4) (n := 4) hT iX0 (hT _ q_194)
  obtain ⟨c1, iS1, hKn1⟩ := u_known (C := RX1) (T := TX1) (N := 5) (n := 5) hT iX1 (hT _ q_243)
  obtain ⟨c2, iS2, hKn2⟩ := u_known (C := RX2) (T := TX2) (N := 5) (n := 5) hT iX2 (hT _ q_158)
  obtain ⟨c3, iS3, hKn3⟩ := u_known (C := RX4) (T := TX4) (N := 17) (n := 17) hT iX4 (hT _ q_57)
  obtain ⟨c4, iS4, hKn4⟩ := u_known (C := RX6) (T := TX6) (N := 7) (n := 7) hT iX6 (hT _ q_22)
  obtain ⟨c5, iS5, hKn5⟩ := u_known (C := RX7) (T := TX7) (N := 5) (n := 5) hT iX7 (hT _ q_217)
  obtain ⟨c6, iS6, hKn6⟩ := u_known (C := RX8) (T := TX8) (N := 12) (n := 12) hT iX8 (hT _ q_14)
  obtain ⟨c7, iS7, hKn7⟩ := u_known (C := RX9) (T := TX9) (N := 49) (n := 49) hT iX9 (hT _ q_667)
  obtain ⟨cI, kI, qI, f1, f2, f3⟩ := Cond.arrayClass_spec (hT _ q_55)
  obtain ⟨cZ, kZ, qZ, g1, g2, g3⟩ := Cond.arrayClass_spec (hT _ q_820)
  obtain ⟨comp, cN, kN, j1, j2, j3, j4, j5⟩ := Cond.arrayOver_spec (hts _ q_over)
  refine ⟨((fun k => if k = 0 then c0 else if k = 1 then c1 else if k = 2 then c2 else if k = 3 then c3 else if k = 4 then c4 else if k = 5 then c5 else if k = 6 then c6 else c7, fun k => if k = 0 then iS0 else if k = 1 then iS1 else if k = 2 then iS2 else if k = 3 then iS3 else if k = 4 then iS4 else if k = 5 then iS5 else if k = 6 then iS6 else iS7), cI, cZ, cN), fun k q hq => ?_, fun k q hq => ?_⟩
  · match k, hq with
    | 0, hq => cases hq; exact hKn0
    | 1, hq => cases hq; exact hKn1
    | 2, hq => cases hq; exact hKn2
    | 3, hq => cases hq; exact hKn3
    | 4, hq => cases hq; exact hKn4
    | 5, hq => cases hq; exact hKn5
    | 6, hq => cases hq; exact hKn6
    | 7, hq => cases hq; exact hKn7
    | k + 8, hq => simp [classes] at hq
  · match k, hq with
    | 0, hq => cases hq; exact ⟨fun n z => ⟨fun k h => (by cases h), kI, f2, qI, f3⟩, f1⟩
    | 1, hq => cases hq; exact ⟨fun n z => ⟨fun k h => (by cases h), kZ, g2, qZ, g3⟩, g1⟩
    | 2, hq => cases hq; exact ⟨fun n z => ⟨fun k h => (by cases h), kN, j3, comp, j4⟩, kN, comp, j3, j4, j1, j5⟩
    | k + 3, hq => simp at hq
theorem z_nest {s : State} {args : Array Value} (hts : ∀ w ∈ lw_tbl, w.before args s = true) : zNest s :=
  ⟨va_AO.of (hts _ q_over), va_Nw.of rfl (hts _ q_nest_X6), va_Nw.of rfl (hts _ q_nest_X4), va_Nw.of rfl (hts _ q_nest_X2), va_Nw.of rfl (hts _ q_nest_X0), va_Nw.of rfl (hts _ q_nest_X7), va_Nw.of rfl (hts _ q_nest_X1)⟩
set_option maxHeartbeats 4000000 in
set_option maxRecDepth 100000 in
/-- the law, from its entry, over what is owed of the states -/
theorem whole_start_of (RR : ZRel) (OK : LawOK RR) {p : Program} {e : Env} {s : State} {m : MethodId} {below : List Frame} {meth : Method} {c : Code} (l : Launch) {b L : Nat} {xs : Nat → Int32} (hL : L ≤ 1536) (C0 : lw_At p s m meth c b L xs) : W p l e room_1 s m #[Value.ref b] below meth c s.heap [] 0 0 (lw_Z below #[Value.ref b] s) (entryFrame m ([Value.ref b] : List Value).toArray 4) := by
  obtain ⟨hx, hb, hr, hml, hown, hts, hX, hbl, hlocks, hgv⟩ := id C0
  have hT : ∀ w ∈ lw_gt, w.before #[Value.ref b] s = true := fun w h => hts w (List.mem_filter.mp h).1
  have hA : ∀ q : Nat, s.heap.size ≤ q → (fun q : Nat => s.heap.size ≤ q) q := fun _ h => h
  obtain ⟨G, hK⟩ := z_known hts
  have hN := z_nest hts
  have Cx : zC p s m #[Value.ref b] c code 4 G (fun q : Nat => s.heap.size ≤ q) RL := ⟨hx, hb, hml, hown, hT, hK, hA⟩
  have hS : va_S (fun q : Nat => s.heap.size ≤ q) s.heap s.heap [] := va_S.rf
  have hP : va_P G.1 classes [] s.heap := fun k q h => by simp at h
  have hD : va_D (fun q : Nat => s.heap.size ≤ q) [] := ⟨fun i j p q h => by simp at h, fun k q h => by simp at h⟩
  have hl := lv_entry ([.ref b]) (n := 4) (Nat.le_of_ble_eq_true rfl)
  rw [lg_entry_eq]
  generalize (lg_sl ([.ref b]) ++ List.replicate (4 - (lg_sl ([.ref b])).length) Slot.unset).toArray = ls at hl ⊢
  have hl : lv_has ls 4 [(0, .ref b)] := hl
  refine z_make8 (rest := []) Cx hN q_13 q_14 q_1 q_15 q_16 q_17 (by decide +kernel) ⟨Nat.le_of_ble_eq_true rfl, Nat.le_of_ble_eq_true rfl⟩ ⟨Nat.le_of_ble_eq_true rfl, Nat.le_of_ble_eq_true rfl⟩ (Nat.le_of_ble_eq_true rfl) hP hD hS hl.1 dL_law_0 dL_law_3 dL_law_4 (fun o0 u H locs hP hD hS => ?_)
  refine lv_astore_n (lv' := [(1, .ref o0), (0, .ref b)]) hx hb dL_law_7 rfl hl (by decide) rfl (fun ls hl => ?_)
  refine z_makeI (C := RX9) (T := TX9) (N := 49) (ci := 7) (fs := [.null, .int 0, .int 0, .int 0, .null, .null, .null, .null, .null, .null, .null, .null, .null, .null, .null, .null, .null, .null, .int 0, .null, .null, .int 0, .int 0, .int 0, .int 0, .int 0, .int 0, .null, .null, .null, .null, .null, .null, .null, .null, .null, .null, .null, .null, .null, .null, .null, .null, .null, .int 0, .null, .null, .null, .int 0]) (y := yX9_init) (b := cX9_init) (n := 1) (rm := rmi_X9) (w1 := fun h d => wX9 G h d (fun _ _ => 0)) (mc := 37) (ms := 2498) (rest := []) Cx iX9 tyX9 tyX9_ok q_666 q_667 q_8 rfl hfs_X9 (fun h => ci_X9 l G h) q_668 q_669 q_670 ⟨rfl, rfl⟩ (by decide +kernel) ⟨⟨rfl, rfl⟩, Nat.le_of_ble_eq_true rfl, Nat.le_of_ble_eq_true rfl⟩ ⟨Nat.le_of_ble_eq_true rfl, Nat.le_of_ble_eq_true rfl⟩ (Nat.le_of_ble_eq_true rfl) hP hD hS hl.1 dL_law_8 dL_law_11 dL_law_12 (fun o12 d12 H locs hP hD hS => ?_)
  refine lv_astore_n (lv' := [(2, .ref o12), (1, .ref o0), (0, .ref b)]) hx hb dL_law_15 rfl hl (by decide) rfl (fun ls hl => ?_)
  refine lv_iconst (v := 0) hx hb dL_law_16 (by decide) ?_
  refine lv_istore_n (lv' := [(3, .int 0), (2, .ref o12), (1, .ref o0), (0, .ref b)]) hx hb dL_law_17 rfl hl (by decide) rfl (fun ls hl => ?_)
  obtain ⟨d0, i0, i1, d1, d2, d3, d4, d5, d6, d7, d8, d9, d10, d11⟩ := u
  rw [List.nil_append] at hP hD
  rw [show wFCu G o0 (d0, i0, i1, d1, d2, d3, d4, d5, d6, d7, d8, d9, d10, d11) (fun _ _ => 0) (fun _ _ => 0) (fun _ _ => 0) (fun _ _ => 0) (fun _ _ => 0) (fun _ _ => 0) (fun _ _ => 0) (fun _ _ => 0) (zst (fun _ _ => 0) 0 0 2) (fun _ _ => 0) (fun _ _ => 0) (fun _ _ => 0) = (wX8 G o0 d0 i0 i1 (fun _ _ => 0) ++ (wX6 G (d0 0) d1 (fun _ _ => 0) ++ (wX4 G (d0 1) d2 (fun _ _ => 0) ++ (wX4 G (d0 2) d3 (fun _ _ => 0) ++ (wX2 G (d0 3) d4 (fun _ _ => 0) ++ (wX0 G (d0 4) d5 (fun _ _ => 0) ++ (wX0 G (d0 5) d6 (fun _ _ => 0) ++ (wX0 G (d0 6) d7 (fun _ _ => 0) ++ (wX7 G (d0 7) d8 (zst (fun _ _ => 0) 0 0 2) ++ (wX1 G (d0 8) d9 (fun _ _ => 0) ++ (wX2 G i0 d10 (fun _ _ => 0) ++ (wX2 G i1 d11 (fun _ _ => 0))))))))))))) from rfl] at hP hD
  rw [List.append_assoc, List.append_assoc, List.append_assoc, List.append_assoc, List.append_assoc, List.append_assoc, List.append_assoc, List.append_assoc, List.append_assoc, List.append_assoc, List.append_assoc] at hP hD
  exact law_loop (G := G) RR OK hL C0 hK (L + 6) 0 0 (Nat.zero_le _) (by omega) nI_0.symm o0 d0 i0 i1 d1 d2 d3 d4 d5 d6 d7 d8 d9 d10 d11 o12 d12 _ _ _ _ _ _ _ _ _ _ _ _ _ _ _ ls OK.1 hP hD hS (lv_sub hl [3, 2, 1, 0] rfl)
