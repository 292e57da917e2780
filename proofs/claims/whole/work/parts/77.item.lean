/-! an item, whole -/
section ITEM
variable {f : ZR} {len lo : Nat} {S T M : ZS} {F : Nat → Nat} {nN nB c : Nat}
theorem j_j (t : JT f len lo S M) (d : DR T M F nN nB c) (hc : c + 1 = nB) (hN : nN < 24) (h1 : 1 < nB) (h6 : S 6 0 = 0) (hj : F c < nN → M 27 (nN - 1) = 3) (Q : ZS → ZS → Prop) (hQ : IT f len lo M (fun R => g_X9_readsJoin M R) Q) : g_X3_readArms S T (fun S' T' => G_X3_readItem_177 Q S' T') := by
  obtain ⟨d1, d2, d3, d4, d5, d6⟩ := d.1
  unfold g_X3_readArms
  refine addName_sp 3 d1 d2 hc d5 hN _ (fun T1 ft a2 a3 a4 a5 a6 a7 a8 => ?_)
  obtain ⟨M1, sr, fm, lowk, m27, m28, m29, m32, m38, mo⟩ := starts_rn (M := M) 3 d3 d4 hc d5 hN
  have z38 : M1 38 (72 + nN) = 0 := by rw [m38]; exact d.2.2.2.2.2.2.2 nN (Nat.le_refl _) hN
  have ao0 : AO f len lo T T1 M S nN c 0 (fun R => g_X9_readsJoin M R) := by
    refine ⟨M1, 1, fun R h => ?_, JT_M lowk t, h6, ⟨fm, ⟨m27, m28, m32, z38⟩, fun k hk => absurd hk (by omega), fun i j hi => absurd hi (by omega)⟩, Or.inl ⟨rfl, by omega, Or.inl rfl⟩⟩
    unfold g_X9_readsJoin
    refine sr _ ?_
    rw [d4]
    exact h
  have out : ∀ a S' T', a ≤ 3 → (a = 3 ∨ S' 2 0 = 4) → ¬ a = 0 → AC T T' nN c a → (AO f len lo T T' M S' nN c a (fun R => g_X9_readsJoin M R) ∨ AX f len lo M S' (fun R => g_X9_readsJoin M R)) → G_X3_readItem_177 Q S' T' := by
    intro a S' T' ha3 hx hne ac hso
    rcases hso with ⟨M', more, hr, jt, s6, ar, alt⟩ | ⟨M', hr, jt, s6, fr⟩
    · rcases alt with ⟨-, b1, b2⟩ | ⟨rfl, -, -⟩
      · rcases hx with hx | hx
        · omega
        · exact absurd hx (b2.resolve_left hne)
      · obtain ⟨ar1, ⟨ar2, ar3, ar4, ar5⟩, ar6, ar7⟩ := ar
        obtain ⟨c1, c2, c3, c4, c6, c7, c8⟩ := ac
        refine it_close jt (fun k hk => ar1.1 k (Or.inl hk)) (fun R h => hr R (join12 h)) (fun _ => ⟨_, _, _, _, DR_name d hc hN c1 ar1 ⟨⟨⟨c2.trans ar3.symm, by rw [ar3]; exact vp_in_nI (by omega) (by omega)⟩, ⟨c3.trans ar2.symm, by rw [ar2]; exact vp_in_nI (n := 3) (by omega) (by omega)⟩, c4.trans ar5.symm⟩, ⟨fun h => absurd (ar2.symm.trans h) (by decide), fun _ => ⟨c6, c7⟩⟩, ⟨a, c8, ar4, ha3, fun h => absurd ar2 h, ar6, ar7⟩, fun _ => ?_⟩ ar3 (fun h _ => hj h)⟩) hQ
        rw [ar3]
        exact fun y => by
          have := (nI_eq (a := c) (b := 0) (by omega) (by omega)).mp y
          omega
    · unfold G_X3_readItem_177
      refine take_stuck _ _ (fun y => absurd (s6.symm.trans y) (by decide)) _ ?_
      rw [zs_self s6]
      exact hQ S' T' M' hr jt fr (fun y => absurd (s6.symm.trans y) (by decide))
  refine fx_all (fun p => ∃ a S' T', a ≤ 3 ∧ p = (nI nN, nI a, S', T') ∧ AC T T' nN c a ∧ (AO f len lo T T' M S' nN c a (fun R => g_X9_readsJoin M R) ∨ AX f len lo M S' (fun R => g_X9_readsJoin M R))) (fun p => 3 - p.2.1.toNatClampNeg) ?_ _ ⟨0, S, T1, by omega, rfl, ⟨ft, a2, a3, a4, a6, a7, a8⟩, Or.inl ao0⟩
  rintro X p ⟨a, S', T', ha3, rfl, ac, hso⟩ hX
  have acl := nI_clamp (n := a) (by omega)
  have go : a < 3 → (a = 0 ∨ ¬ S' 2 0 = 4) → G_X3_readArms_25 (fun S' T' => G_X3_readItem_177 Q S' T') X (nI nN) (nI a) S' T' := by
    intro ha hgo
    refine j_arm hN ha ac (hso.imp (fun y => ⟨y, hgo⟩) id) _ X (fun S2 T2 ac2 hso2 => hX _ ⟨a + 1, S2, T2, by omega, rfl, ac2, hso2⟩ ?_)
    show 3 - (nI (a + 1)).toNatClampNeg < 3 - (nI a).toNatClampNeg
    rw [acl, nI_clamp (by omega)]
    omega
  unfold F_X3_readArms_8
  simp only []
  refine ⟨fun y => out a S' T' ha3 (Or.inl ?_) ?_ ac hso, fun y => ⟨fun z => go ?_ (Or.inl ?_), fun z => ⟨fun w => out a S' T' ha3 (Or.inr w) (fun k => z (by rw [k]; rfl)) ac hso, fun w => go ?_ (Or.inr w)⟩⟩⟩
  · have := (nI_leI (a := 3) (b := a) (by omega) (by omega)).mp y
    omega
  · have := (nI_leI (a := 3) (b := a) (by omega) (by omega)).mp y
    omega
  · exact Nat.not_le.mp (fun k => y ((nI_leI (a := 3) (b := a) (by omega) (by omega)).mpr k))
  · exact (nI_eq (a := a) (b := 0) (by omega) (by omega)).mp z
  · exact Nat.not_le.mp (fun k => y ((nI_leI (a := 3) (b := a) (by omega) (by omega)).mpr k))
def ADM (M : ZS) (F : Nat → Nat) (nN nB c : Nat) (x : Int32) : Prop := (x = 98 ∧ c = nB ∧ nB < 8) ∨ ((x = 105 ∨ x = 107 ∨ x = 111) ∧ c + 1 = nB ∧ nN < 24) ∨ (x = 106 ∧ c + 1 = nB ∧ nN < 24 ∧ 1 < nB ∧ (F c < nN → M 27 (nN - 1) = 3)) ∨ ((x = 103 ∨ x = 113 ∨ x = 122) ∧ c + 1 = nB)
theorem ADM_b : ADM M F nN nB c 98 ↔ (c = nB ∧ nB < 8) := ⟨fun h => by
  rcases h with h | h | h | h
  · exact h.2
  · exact absurd h.1 (by decide)
  · exact absurd h.1 (by decide)
  · exact absurd h.1 (by decide), fun h => Or.inl ⟨rfl, h⟩⟩
theorem ADM_n {x : Int32} (hx : x = 105 ∨ x = 107 ∨ x = 111) : ADM M F nN nB c x ↔ (c + 1 = nB ∧ nN < 24) := ⟨fun h => by
  rcases h with h | h | h | h
  · rcases hx with e | e | e <;> subst e <;> exact absurd h.1 (by decide)
  · exact h.2
  · rcases hx with e | e | e <;> subst e <;> exact absurd h.1 (by decide)
  · rcases hx with e | e | e <;> subst e <;> exact absurd h.1 (by decide), fun h => Or.inr (Or.inl ⟨hx, h⟩)⟩
theorem ADM_j : ADM M F nN nB c 106 ↔ (c + 1 = nB ∧ nN < 24 ∧ 1 < nB ∧ (F c < nN → M 27 (nN - 1) = 3)) := ⟨fun h => by
  rcases h with h | h | h | h
  · exact absurd h.1 (by decide)
  · exact absurd h.1 (by decide)
  · exact h.2
  · exact absurd h.1 (by decide), fun h => Or.inr (Or.inr (Or.inl ⟨rfl, h⟩))⟩
theorem ADM_e {x : Int32} (hx : x = 103 ∨ x = 113 ∨ x = 122) : ADM M F nN nB c x ↔ c + 1 = nB := ⟨fun h => by
  rcases h with h | h | h | h
  · rcases hx with e | e | e <;> subst e <;> exact absurd h.1 (by decide)
  · rcases hx with e | e | e <;> subst e <;> exact absurd h.1 (by decide)
  · rcases hx with e | e | e <;> subst e <;> exact absurd h.1 (by decide)
  · exact h.2, fun h => Or.inr (Or.inr (Or.inr ⟨hx, h⟩))⟩
theorem ADM_no {x : Int32} (h1 : ¬ x = 98) (h2 : ¬ x = 103) (h3 : ¬ x = 105) (h4 : ¬ x = 106) (h5 : ¬ x = 107) (h6 : ¬ x = 111) (h7 : ¬ x = 113) (h8 : ¬ x = 122) : ¬ ADM M F nN nB c x := by
  rintro (h | h | h | h)
  · exact h1 h.1
  · rcases h.1 with e | e | e
    · exact h3 e
    · exact h5 e
    · exact h6 e
  · exact h4 h.1
  · rcases h.1 with e | e | e
    · exact h2 e
    · exact h7 e
    · exact h8 e
theorem ADM_L {x : Int32} (h : ADM M F nN nB c x) : isL x := by
  unfold isL
  rcases h with h | h | h | h
  · rw [h.1]; decide
  · rcases h.1 with e | e | e <;> subst e <;> decide
  · rw [h.1]; decide
  · rcases h.1 with e | e | e <;> subst e <;> decide
theorem cAdm_sp (d : DR T M F nN nB c) (x : Int32) (Q : Int32 → Prop) (h1 : ADM M F nN nB c x → Q 1) (h0 : ¬ ADM M F nN nB c x → Q 0) : g_X4_admits x T Q := by
  obtain ⟨d1, d2, d3, d4, d5, d6⟩ := d.1
  obtain ⟨-, ⟨f0, fN⟩, dn, db, dc, dop, -⟩ := d
  have le8 : (8 : Int32) ≤ nI nB ↔ 8 ≤ nB := nI_leI (a := 8) (b := nB) (by omega) (by omega)
  have le24 : (24 : Int32) ≤ nI nN ↔ 24 ≤ nN := nI_leI (a := 24) (b := nN) (by omega) (by omega)
  have le1 : nI nB ≤ 1 ↔ nB ≤ 1 := nI_leI (a := nB) (b := 1) (by omega) (by omega)
  have main : ∀ t0 : Int32, ((t0 = 1 ∧ c + 1 = nB) ∨ (t0 = 0 ∧ c = nB)) → G_X4_admits_27 x T Q t0 := by
    intro t0 ht
    have nm : (x = 105 ∨ x = 107 ∨ x = 111) → G_X4_admits_163 x T Q t0 := by
      intro hx
      unfold G_X4_admits_163
      rw [d2, le24]
      rcases ht with ⟨rfl, ho⟩ | ⟨rfl, ho⟩
      · exact ⟨fun y => absurd y (by decide), fun _ => ⟨fun y => h0 (fun k => by have := ((ADM_n hx).mp k).2; omega), fun y => h1 ((ADM_n hx).mpr ⟨ho, by omega⟩)⟩⟩
      · exact ⟨fun _ => h0 (fun k => by have := ((ADM_n hx).mp k).1; omega), fun y => (y rfl).elim⟩
    have en : (x = 103 ∨ x = 113 ∨ x = 122) → isB t0 ∧ Q t0 := by
      intro hx
      rcases ht with ⟨rfl, ho⟩ | ⟨rfl, ho⟩
      · exact ⟨isB_1, h1 ((ADM_e hx).mpr ho)⟩
      · exact ⟨isB_0, h0 (fun k => by have := (ADM_e hx).mp k; omega)⟩
    unfold G_X4_admits_27
    refine ⟨fun e => ?_, fun e => en (Or.inl e), fun e => nm (Or.inl e), fun e => ?_, fun e => nm (Or.inr (Or.inl e)), fun e => nm (Or.inr (Or.inr e)), fun e => en (Or.inr (Or.inl e)), fun e => en (Or.inr (Or.inr e)), fun a1 a2 a3 a4 a5 a6 a7 a8 => h0 (ADM_no a1 a2 a3 a4 a5 a6 a7 a8)⟩
    · subst e
      rw [d1, le8]
      rcases ht with ⟨rfl, ho⟩ | ⟨rfl, ho⟩
      · exact ⟨fun y => absurd y (by decide), fun _ => h0 (fun k => by have := (ADM_b.mp k).1; omega)⟩
      · exact ⟨fun _ => ⟨fun y => h0 (fun k => by have := (ADM_b.mp k).2; omega), fun y => h1 (ADM_b.mpr ⟨ho, by omega⟩)⟩, fun y => (y rfl).elim⟩
    · subst e
      rw [d2, le24]
      rcases ht with ⟨rfl, ho⟩ | ⟨rfl, ho⟩
      · refine ⟨fun y => absurd y (by decide), fun _ => ⟨fun y => h0 (fun k => by have := (ADM_j.mp k).2.1; omega), fun y => ?_⟩⟩
        unfold g_X4_admitsJoin
        have e1 : nI nB - 1 = nI c := by rw [show (1 : Int32) = nI 1 from rfl, pk_sub (by omega)]; congr 1; omega
        rw [d1, le1, e1, nI_clamp (show c < 2 ^ 31 by omega)]
        refine ⟨fun z => ⟨fun _ => h0 (fun k => by have := (ADM_j.mp k).2.2.1; omega), fun k => (k rfl).elim⟩, fun z => ⟨vp_in_nI (by omega) (by omega), fun w => ⟨fun k => absurd k (by decide), fun _ => ?_⟩, fun w => ?_⟩⟩
        · rw [(db c (by omega)).2.2.2, ho, fN] at w
          have : nN - F c = 0 := (nI_eq (a := nN - F c) (b := 0) (by omega) (by omega)).mp w
          exact h1 (ADM_j.mpr ⟨ho, by omega, by omega, fun k => by omega⟩)
        · rw [(db c (by omega)).2.2.2, ho, fN] at w
          have hlt : F c < nN := Nat.not_le.mp (fun k => w (by rw [show nN - F c = 0 by omega]; rfl))
          have e2 : nI nN - 1 = nI (nN - 1) := by rw [show (1 : Int32) = nI 1 from rfl, pk_sub (by omega)]
          unfold g_X4_isMade g_X4_hasName
          rw [d2, e2, nI_clamp (show nN - 1 < 2 ^ 31 by omega), (dn (nN - 1) (by omega)).1.1.2.1.1]
          refine ⟨fun k => absurd k (nI_pos (by omega)), fun _ => ⟨fun k => absurd k (leI_not (by omega) (by omega)), fun _ => ⟨fun k => absurd k (by decide), fun _ => ⟨vp_in_nI (by omega) (by omega), fun k => ⟨fun k => absurd k (by decide), fun _ => ⟨fun k => absurd k (by decide), fun _ => h1 (ADM_j.mpr ⟨ho, by omega, by omega, fun _ => k⟩)⟩⟩, fun k => ⟨fun _ => ⟨fun _ => h0 (fun k2 => k ((ADM_j.mp k2).2.2.2 hlt)), fun k => (k rfl).elim⟩, fun k => (k rfl).elim⟩⟩⟩⟩⟩
      · exact ⟨fun _ => h0 (fun k => by have := (ADM_j.mp k).1; omega), fun y => (y rfl).elim⟩
  unfold g_X4_admits G_X4_admits_26
  rw [d1]
  refine ⟨fun y => main 0 (Or.inr ⟨rfl, ?_⟩), fun y => ?_⟩
  · have : nB ≤ 0 := (nI_leI (a := nB) (b := 0) (by omega) (by omega)).mp y
    rcases dop with o | o <;> omega
  · have hB : ¬ nB ≤ 0 := fun k => y ((nI_leI (a := nB) (b := 0) (by omega) (by omega)).mpr k)
    have e1 : nI nB - 1 = nI (nB - 1) := by rw [show (1 : Int32) = nI 1 from rfl, pk_sub (by omega)]
    rw [e1, nI_clamp (show nB - 1 < 2 ^ 31 by omega)]
    refine ⟨vp_in_nI (by omega) (by omega), fun z => main 1 (Or.inl ⟨rfl, ?_⟩), fun z => main 0 (Or.inr ⟨rfl, ?_⟩)⟩
    · rcases dop with o | o
      · obtain ⟨⟨q1, -⟩, q2⟩ := dc (nB - 1) (by omega)
        rw [q1] at z
        rcases q2 with q | q | q
        · exact absurd (q.1.symm.trans z) (by decide)
        · exact absurd (q.1.symm.trans z) (by decide)
        · exact absurd (q.1.symm.trans z) (by decide)
      · exact o.1
    · rcases dop with o | o
      · exact o.1
      · have := o.2.2.1.1
        rw [show c = nB - 1 by omega] at this
        exact absurd this z
theorem onlyJoins_sp (d : DR T M F nN nB c) (hc : c + 1 = nB) (Q : Int32 → Prop) (h1 : (F c < nN → M 27 (nN - 1) = 3) → Q 1) (h0 : ¬ (F c < nN → M 27 (nN - 1) = 3) → Q 0) : g_X9_onlyJoins M Q := by
  obtain ⟨d1, d2, d3, d4, d5, d6⟩ := d.1
  obtain ⟨-, ⟨f0, fN⟩, dn, db, dc, dop, -⟩ := d
  have pre : ∀ n, F c ≤ n → n + 1 < nN → M 27 (n + 1) = 3 → M 27 n = 3 := by
    rcases dop with o | o
    · omega
    · exact o.2.2.2
  have eqv : (F c < nN → M 27 (nN - 1) = 3) ↔ ∀ n, F c ≤ n → n < nN → M 27 n = 3 := by
    refine ⟨fun h => ?_, fun h k => h _ (by omega) (by omega)⟩
    have key : ∀ j n, n + j + 1 = nN → F c ≤ n → M 27 n = 3 := by
      intro j
      induction j with
      | zero =>
        intro n e1 e2
        have := h (by omega)
        rw [show nN - 1 = n by omega] at this
        exact this
      | succ j ih =>
        intro n e1 e2
        exact pre n e2 (by omega) (ih (n + 1) (by omega) (by omega))
    exact fun n a b => key (nN - 1 - n) n (by omega) a
  have fle : F c ≤ nN := by
    have := (db c (by omega)).2.2.1
    rw [hc, fN] at this
    exact this
  unfold g_X9_onlyJoins
  have e1 : nI nB - 1 = nI c := by rw [show (1 : Int32) = nI 1 from rfl, pk_sub (by omega)]; congr 1; omega
  rw [d3, e1, nI_clamp (show c < 2 ^ 31 by omega), (db c (by omega)).2.1]
  simp only [forall_eq]
  refine ⟨vp_in_nI (by omega) (by omega), ?_⟩
  refine fx_all (fun p => ∃ j x, F c ≤ j ∧ j ≤ nN ∧ p = (x, nI j) ∧ ((x = 1 ∧ ∀ n, F c ≤ n → n < j → M 27 n = 3) ∨ (x = 0 ∧ ¬ ∀ n, F c ≤ n → n < nN → M 27 n = 3))) (fun p => nN - p.2.toNatClampNeg) ?_ _ ⟨F c, 1, Nat.le_refl _, fle, rfl, Or.inl ⟨rfl, fun n a b => absurd a (by omega)⟩⟩
  rintro X p ⟨j, x, hj1, hj2, rfl, alt⟩ hX
  have jc := nI_clamp (n := j) (by omega)
  unfold F_X9_onlyJoins_14
  simp only [d4, forall_eq, nI_1, jc]
  refine ⟨fun y => ?_, fun y => ?_⟩
  · have : nN ≤ j := (nI_leI (by omega) (by omega)).mp y
    rcases alt with ⟨rfl, h⟩ | ⟨rfl, h⟩
    · exact ⟨isB_1, h1 (eqv.mpr (fun n a b => h n a (by omega)))⟩
    · exact ⟨isB_0, h0 (fun k => h (eqv.mp k))⟩
  · have hlt : j < nN := Nat.not_le.mp (fun k => y ((nI_leI (by omega) (by omega)).mpr k))
    have dec : ∀ x' : Int32, (fun p : Int32 × Int32 => nN - p.2.toNatClampNeg) (x', nI (j + 1)) < (fun p : Int32 × Int32 => nN - p.2.toNatClampNeg) (x, nI j) := by
      intro x'
      show nN - (nI (j + 1)).toNatClampNeg < nN - (nI j).toNatClampNeg
      rw [jc, nI_clamp (by omega)]
      omega
    rcases alt with ⟨rfl, h⟩ | ⟨rfl, h⟩
    · refine ⟨fun k => absurd k (by decide), fun _ => ⟨vp_in_nI (by omega) (by omega), fun k => hX _ ⟨j + 1, 1, by omega, by omega, rfl, Or.inl ⟨rfl, fun n a b => ?_⟩⟩ (dec 1), fun k => hX _ ⟨j + 1, 0, by omega, by omega, rfl, Or.inr ⟨rfl, fun z => k (z j hj1 hlt)⟩⟩ (dec 0)⟩⟩
      by_cases q : n = j
      · rw [q]; exact k
      · exact h n a (by omega)
    · exact ⟨fun _ => hX _ ⟨j + 1, 0, by omega, by omega, rfl, Or.inr ⟨rfl, h⟩⟩ (dec 0), fun k => (k rfl).elim⟩
theorem mBeg_sp (d : DR T M F nN nB c) (hl : len ≤ 150) (t0 : M 0 = f) (t1 : M 1 0 = nI len) {q : Nat} (hq : q < len) (h22 : M 22 0 = nI q) (x : Int32) (Q : Int32 → Prop) (h1 : sg f len q → ADM M F nN nB c x → Q 1) (h0 : ¬ (sg f len q ∧ ADM M F nN nB c x) → Q 0) : g_X9_mayBegin x M Q := by
  obtain ⟨d1, d2, d3, d4, d5, d6⟩ := d.1
  have dop := d.2.2.2.2.2.1
  have le8 : (8 : Int32) ≤ nI nB ↔ 8 ≤ nB := nI_leI (a := 8) (b := nB) (by omega) (by omega)
  have le24 : (24 : Int32) ≤ nI nN ↔ 24 ≤ nN := nI_leI (a := 24) (b := nN) (by omega) (by omega)
  have le1 : nI nB ≤ 1 ↔ nB ≤ 1 := nI_leI (a := nB) (b := 1) (by omega) (by omega)
  have op26 : M 26 0 = 0 ↔ c = nB := by
    rcases dop with o | o
    · exact ⟨fun _ => o.1, fun _ => o.2⟩
    · exact ⟨fun y => absurd (o.2.1.symm.trans y) (by decide), fun y => by omega⟩
  have op1 : ¬ c = nB → c + 1 = nB := by
    intro y
    rcases dop with o | o
    · exact absurd o.1 y
    · exact o.1
  have main : ∀ t : Int32, ((t = 1 ∧ sg f len q) ∨ (t = 0 ∧ ¬ sg f len q)) → G_X9_mayBegin_39 x M Q t := by
    intro t ht
    have z : t = 0 → Q 0 := by
      intro e
      rcases ht with h | h
      · rw [h.1] at e; exact absurd e (by decide)
      · exact h0 (fun k => h.2 k.1)
    have s : ¬ t = 0 → sg f len q := by
      intro e
      rcases ht with h | h
      · exact h.2
      · exact absurd h.1 e
    have nm : (x = 105 ∨ x = 107 ∨ x = 111) → G_X9_mayBegin_182 x M Q t := by
      intro hx
      unfold G_X9_mayBegin_182
      rw [op26, d4, le24]
      exact ⟨z, fun e => ⟨fun y => h0 (fun k => by have := ((ADM_n hx).mp k.2).1; omega), fun y => ⟨fun w => h0 (fun k => by have := ((ADM_n hx).mp k.2).2; omega), fun w => h1 (s e) ((ADM_n hx).mpr ⟨op1 y, by omega⟩)⟩⟩⟩
    have en : (x = 103 ∨ x = 113 ∨ x = 122) → G_X9_mayBegin_249 x M Q t := by
      intro hx
      unfold G_X9_mayBegin_249
      rw [op26]
      exact ⟨z, fun e => ⟨fun y => h0 (fun k => by have := (ADM_e hx).mp k.2; omega), fun y => h1 (s e) ((ADM_e hx).mpr (op1 y))⟩⟩
    unfold G_X9_mayBegin_39
    refine ⟨fun e => ?_, fun e => en (Or.inl e), fun e => nm (Or.inl e), fun e => ?_, fun e => nm (Or.inr (Or.inl e)), fun e => nm (Or.inr (Or.inr e)), fun e => en (Or.inr (Or.inl e)), fun e => en (Or.inr (Or.inr e)), fun a1 a2 a3 a4 a5 a6 a7 a8 => h0 (fun k => ADM_no a1 a2 a3 a4 a5 a6 a7 a8 k.2)⟩
    · subst e
      rw [op26, d3, le8]
      exact ⟨z, fun e => ⟨fun y => ⟨fun w => h0 (fun k => by have := (ADM_b.mp k.2).2; omega), fun w => h1 (s e) (ADM_b.mpr ⟨y, by omega⟩)⟩, fun y => h0 (fun k => y (ADM_b.mp k.2).1)⟩⟩
    · subst e
      rw [op26, d4, le24, d3, le1]
      refine ⟨z, fun e => ⟨fun y => h0 (fun k => by have := (ADM_j.mp k.2).1; omega), fun y => ⟨fun w => h0 (fun k => by have := (ADM_j.mp k.2).2.1; omega), fun w => ⟨fun v => h0 (fun k => by have := (ADM_j.mp k.2).2.2.1; omega), fun v => ?_⟩⟩⟩⟩
      refine onlyJoins_sp d (op1 y) _ (fun k => ⟨fun k => absurd k (by decide), fun _ => h1 (s e) (ADM_j.mpr ⟨op1 y, by omega, by omega, k⟩)⟩) (fun k => ⟨fun _ => h0 (fun k2 => k (ADM_j.mp k2.2).2.2.2), fun k => (k rfl).elim⟩)
  unfold g_X9_mayBegin G_X9_mayBegin_34
  rw [t1, h22, nI_1, t0, nI_clamp (show q + 1 < 2 ^ 31 by omega)]
  refine ⟨fun y => main 1 (Or.inl ⟨rfl, fun k => absurd y (leI_not k (by omega))⟩), fun y => ?_⟩
  have hlt : q + 1 < len := Nat.not_le.mp (fun k => y ((nI_leI (by omega) (by omega)).mpr k))
  exact ⟨vp_in_nI (by omega) (by omega), inL_sp _ _ (fun k => ⟨fun w => absurd w (by decide), fun _ => main 0 (Or.inr ⟨rfl, fun w => w hlt k⟩)⟩) (fun k => ⟨fun _ => main 1 (Or.inl ⟨rfl, fun _ => k⟩), fun w => (w rfl).elim⟩)⟩
theorem j_item (t : JT f len lo S M) (h6 : S 6 0 = 0) (h2 : ¬ S 2 0 = 0) (d : DR T M F nN nB c) (Q : ZS → ZS → Prop) (hQ : IT f len (lo + 1) M (fun R => g_X9_readsItem M R) Q) : g_X3_readItem S T Q := by
  obtain ⟨-, h23, p, q, h22, hlo, hpq, hq, hb, hn, tk⟩ := JT_po t h6
  have hl := t.1.1.1
  have hlt : q < len := by
    rcases Nat.lt_or_ge q len with y | y
    · exact y
    · exact absurd ((tk_end hq tk).mpr (by omega)) h2
  have dq : DR T (zst M 22 0 (nI q)) F nN nB c := DR_M (fun k a b => zs_ne _ _ _ a) d
  have e23 : zst M 22 0 (nI q) 23 0 = 0 := by rw [zs_ne _ _ _ (by decide)]; exact h23
  have reads : ∀ R : ZS → Prop, (sg f len q → ADM M F nN nB c (f q) → G_X9_readsItem_19 R (f q) 0 (zst M 22 0 (nI q))) → (¬ (sg f len q ∧ ADM M F nN nB c (f q)) → R (zst (zst M 22 0 (nI q)) 23 0 1)) → g_X9_readsItem M R := by
    intro R r1 r0
    unfold g_X9_readsItem
    refine here_rn hl hpq hq hb hn t.1.2.2.2.1 t.1.2.2.2.2 h22 _ (fun _ => ?_) (fun y => absurd hlt y)
    refine mBeg_sp dq hl (by rw [zs_ne _ _ _ (by decide)]; exact t.1.2.2.2.1) (by rw [zs_ne _ _ _ (by decide)]; exact t.1.2.2.2.2) hlt (zs_at _ _ _ _) _ _ (fun y1 y2 => ⟨fun k => absurd k (by decide), fun _ => r1 y1 y2⟩) (fun y => ⟨fun _ => ?_, fun k => (k rfl).elim⟩)
    unfold G_X9_readsItem_19
    simp only [forall_eq, zs_at]
    exact ⟨isB_1, fun k => absurd k (by decide), fun _ => r0 y⟩
  have stuck : ¬ (sg f len q ∧ ADM M F nN nB c (f q)) → Q (zst S 6 0 1) T := by
    intro y
    refine hQ _ _ (zst (zst M 22 0 (nI q)) 23 0 1) (fun R hR => reads R (fun y1 y2 => absurd ⟨y1, y2⟩ y) (fun _ => hR)) (j_stuck (by omega) t.1 tk.1 ?_ ?_ ?_ (zs_at _ _ _ _)) (fun k hk => ?_) (fun z => ?_)
    · rw [zs_ne _ _ _ (by decide), zs_ne _ _ _ (by decide)]
    · rw [zs_ne _ _ _ (by decide), zs_ne _ _ _ (by decide)]
    · rw [zs_ne _ _ _ (by decide), zs_at]
    · rw [zs_ne _ _ _ (by omega), zs_ne _ _ _ (by omega)]
    · rw [zs_at] at z
      exact absurd z (by decide)
  have no : ¬ (sg f len q ∧ ADM M F nN nB c (f q)) → G_X3_readItem_16 Q 0 S T := by
    intro y
    unfold G_X3_readItem_16
    simp only [forall_eq]
    exact cAdm_sp d 0 _ (fun k => absurd (ADM_L k) (by unfold isL; decide)) (fun _ => ⟨fun _ => stuck y, fun k => (k rfl).elim⟩)
  have yes : isL (f q) → sg f len q → S 4 0 = nI (q + 1) → G_X3_readItem_16 Q (f q) S T := by
    intro hL hs h4
    unfold G_X3_readItem_16
    simp only [forall_eq]
    refine cAdm_sp d (f q) _ (fun ha => ⟨fun k => absurd k (by decide), fun _ => ?_⟩) (fun ha => ⟨fun _ => stuck (fun k => ha k.2), fun k => (k rfl).elim⟩)
    have g19 : ∀ R : ZS → Prop, ((f q = 98 → RB (zst M 22 0 (nI (q + 1))) R) ∧ (f q = 105 → RI (zst M 22 0 (nI (q + 1))) R) ∧ (f q = 106 → g_X9_readsJoin (zst M 22 0 (nI (q + 1))) R) ∧ (f q = 107 → RK (zst M 22 0 (nI (q + 1))) R) ∧ (f q = 111 → g_X9_readsOperation (zst M 22 0 (nI (q + 1))) R) ∧ (¬ f q = 98 → ¬ f q = 105 → ¬ f q = 106 → ¬ f q = 107 → ¬ f q = 111 → g_X9_readsEnd (f q) (zst M 22 0 (nI (q + 1))) R)) → g_X9_readsItem M R := by
      intro R h
      refine reads R (fun _ _ => ?_) (fun k => absurd ⟨hs, ha⟩ k)
      unfold G_X9_readsItem_19
      simp only [forall_eq, zs_at]
      refine ⟨isB_0, fun _ => ?_, fun k => (k (by trivial)).elim⟩
      rw [zs_self e23, zs_at, nI_1, zs_zs]
      unfold RB RI RK at h
      simp only [forall_eq] at h
      exact h
    have db : DR T (zst M 22 0 (nI (q + 1))) F nN nB c := DR_M (fun k a b => zs_ne _ _ _ a) d
    have dj : (F c < nN → M 27 (nN - 1) = 3) → (F c < nN → zst M 22 0 (nI (q + 1)) 27 (nN - 1) = 3) := fun h y => by rw [zs_ne _ _ _ (by decide)]; exact h y
    refine j_step (M' := zst M 22 0 (nI (q + 1))) (lo := lo + 1) t.1 h6 (by omega) h4 (by omega) (zs_ne _ _ _ (by decide)) (zs_ne _ _ _ (by decide)) (zs_at _ _ _ _) (by rw [zs_ne _ _ _ (by decide)]; exact h23) _ (fun S3 jt s6 => ?_)
    have it : ∀ run : (ZS → Prop) → Prop, (∀ R, run R → g_X9_readsItem M R) → IT f len (lo + 1) (zst M 22 0 (nI (q + 1))) run Q := fun run hr S' T' M' r j fr dr => hQ S' T' M' (fun R hR => hr R (r R hR)) j (fun k hk => by rw [fr k hk, zs_ne _ _ _ (by omega)]) dr
    refine ⟨fun e => ?_, fun e => ?_, fun e => ?_, fun e => ?_, fun e => ?_, fun e => ?_, fun e => ?_, fun a1 a2 a3 a4 a5 a6 a7 => ?_⟩
    · rw [e] at ha
      obtain ⟨k1, k2⟩ := ADM_b.mp ha
      exact j_b jt db k1 k2 Q (it _ (fun R h => g19 R ⟨fun _ => h, fun k => absurd (e.symm.trans k) (by decide), fun k => absurd (e.symm.trans k) (by decide), fun k => absurd (e.symm.trans k) (by decide), fun k => absurd (e.symm.trans k) (by decide), fun k => absurd e k⟩))
    · rw [e] at ha
      have k1 := (ADM_e (Or.inl rfl)).mp ha
      exact j_g jt db k1 Q (it _ (fun R h => g19 R ⟨fun k => absurd (e.symm.trans k) (by decide), fun k => absurd (e.symm.trans k) (by decide), fun k => absurd (e.symm.trans k) (by decide), fun k => absurd (e.symm.trans k) (by decide), fun k => absurd (e.symm.trans k) (by decide), fun _ _ _ _ _ => by rw [e]; exact h⟩))
    · rw [e] at ha
      obtain ⟨k1, k2⟩ := (ADM_n (Or.inl rfl)).mp ha
      exact j_i jt db k1 k2 Q (it _ (fun R h => g19 R ⟨fun k => absurd (e.symm.trans k) (by decide), fun _ => h, fun k => absurd (e.symm.trans k) (by decide), fun k => absurd (e.symm.trans k) (by decide), fun k => absurd (e.symm.trans k) (by decide), fun _ k => absurd e k⟩))
    · rw [e] at ha
      obtain ⟨k1, k2, k3, k4⟩ := ADM_j.mp ha
      exact j_j jt db k1 k2 k3 s6 (dj k4) Q (it _ (fun R h => g19 R ⟨fun k => absurd (e.symm.trans k) (by decide), fun k => absurd (e.symm.trans k) (by decide), fun _ => h, fun k => absurd (e.symm.trans k) (by decide), fun k => absurd (e.symm.trans k) (by decide), fun _ _ k => absurd e k⟩))
    · rw [e] at ha
      obtain ⟨k1, k2⟩ := (ADM_n (Or.inr (Or.inl rfl))).mp ha
      exact j_k jt db k1 k2 Q (it _ (fun R h => g19 R ⟨fun k => absurd (e.symm.trans k) (by decide), fun k => absurd (e.symm.trans k) (by decide), fun k => absurd (e.symm.trans k) (by decide), fun _ => h, fun k => absurd (e.symm.trans k) (by decide), fun _ _ _ k => absurd e k⟩))
    · rw [e] at ha
      obtain ⟨k1, k2⟩ := (ADM_n (Or.inr (Or.inr rfl))).mp ha
      exact j_o jt db k1 k2 Q (it _ (fun R h => g19 R ⟨fun k => absurd (e.symm.trans k) (by decide), fun k => absurd (e.symm.trans k) (by decide), fun k => absurd (e.symm.trans k) (by decide), fun k => absurd (e.symm.trans k) (by decide), fun _ => h, fun _ _ _ _ k => absurd e k⟩))
    · rw [e] at ha
      have k1 := (ADM_e (Or.inr (Or.inl rfl))).mp ha
      exact j_q jt db k1 Q (it _ (fun R h => g19 R ⟨fun k => absurd (e.symm.trans k) (by decide), fun k => absurd (e.symm.trans k) (by decide), fun k => absurd (e.symm.trans k) (by decide), fun k => absurd (e.symm.trans k) (by decide), fun k => absurd (e.symm.trans k) (by decide), fun _ _ _ _ _ => by rw [e]; exact h⟩))
    · have e : f q = 122 := by
        by_cases y : f q = 122
        · exact y
        · exact absurd ha (ADM_no a1 a2 a3 a4 a5 a6 a7 y)
      rw [e] at ha
      have k1 := (ADM_e (Or.inr (Or.inr rfl))).mp ha
      unfold G_X3_readItem_172
      exact j_z jt db k1 Q (it _ (fun R h => g19 R ⟨fun k => absurd (e.symm.trans k) (by decide), fun k => absurd (e.symm.trans k) (by decide), fun k => absurd (e.symm.trans k) (by decide), fun k => absurd (e.symm.trans k) (by decide), fun k => absurd (e.symm.trans k) (by decide), fun _ _ _ _ _ => by rw [e]; exact h⟩))
  have kl := tk_let hq tk
  unfold g_X3_readItem
  refine ⟨fun y => ?_, fun y => no (fun k => y (kl.mpr ⟨hlt, ADM_L k.2⟩))⟩
  obtain ⟨-, hL⟩ := kl.mp y
  obtain ⟨k1, k2, k3⟩ := (tk.2.2 hlt).1 hL
  by_cases hs : sg f len q
  · rw [(k2 hs).1]
    exact yes hL hs (k2 hs).2
  · rw [k3 hs]
    exact no (fun k => hs k.1)
end ITEM
