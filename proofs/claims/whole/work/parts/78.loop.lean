/-! the whole text read -/
section LOOP
variable {f : ZR} {len lo : Nat} {S T M : ZS} {F : Nat → Nat} {nN nB c : Nat}
theorem hasMore_sp (S : ZS) (Q : Int32 → Prop) (h1 : S 6 0 = 0 → ¬ S 2 0 = 0 → Q 1) (h0 : (¬ S 6 0 = 0 ∨ S 2 0 = 0) → Q 0) : g_X6_hasMore S Q := ⟨fun y => ⟨fun z => h0 (Or.inr z), fun z => h1 y z⟩, fun y => h0 (Or.inl y)⟩
theorem j_loop {M0 : ZS} {run : (Int32 → ZS → Prop) → Prop} (hr : ∀ R : Int32 → ZS → Prop, (∃ n, fx (F_X9_program_4 R) n M) → run R) (t : JT f len 0 S M) (fr : ∀ k, k ≤ 21 → M k = M0 k) (dr : S 6 0 = 0 → ∃ F nN nB c, DR T M F nN nB c) (Q : Int32 → ZS → ZS → Prop) (hQ : ∀ S' T' M', (∀ R : Int32 → ZS → Prop, G_X9_program_25 R M' → run R) → TX f len S' M' → (∀ k, k ≤ 21 → M' k = M0 k) → (PX S' M' ∨ (S' 6 0 = 0 ∧ M' 23 0 = 0 ∧ S' 3 0 = nI len ∧ ∃ F nN nB c, DR T' M' F nN nB c)) → G_X3_faultOf_35 Q S' T') : ∃ n, fx (F_X3_faultOf_10 Q) n (0, S, T) := by
  refine fx_all (fun p => ∃ i S' T' M', i ≤ 150 ∧ p = (nI i, S', T') ∧ (∀ R : Int32 → ZS → Prop, (∃ n, fx (F_X9_program_4 R) n M') → run R) ∧ JT f len i S' M' ∧ (∀ k, k ≤ 21 → M' k = M0 k) ∧ (S' 6 0 = 0 → ∃ F nN nB c, DR T' M' F nN nB c)) (fun p => 150 - p.1.toNatClampNeg) ?_ _ ⟨0, S, T, M, by omega, rfl, hr, t, fr, dr⟩
  rintro X p ⟨i, S', T', M', hi, rfl, hr', jt, fr', dr'⟩ hX
  have ic := nI_clamp (n := i) (by omega)
  have hl := jt.1.1.1
  have stuck : PX S' M' → G_X3_faultOf_35 Q S' T' := by
    intro px
    refine hQ S' T' M' (fun R h => hr' R ⟨1, ?_⟩) jt.1 fr' (Or.inl px)
    show F_X9_program_4 R (fx (F_X9_program_4 R) 0) M'
    unfold F_X9_program_4
    exact ⟨fun y => absurd (px.2.1.symm.trans y) (by decide), fun _ => h⟩
  have ended : S' 6 0 = 0 → ∀ p q, AT f len i S' M' p q → M' 23 0 = 0 → q = len → G_X3_faultOf_35 Q S' T' := by
    rintro s6 p q ⟨h22, hlo, hpq, hq, hb, hn, tk⟩ h23 e
    have fz : ∀ k, k ≠ 22 → zst M' 22 0 (nI q) k = M' k := fun k hk => zs_ne _ _ _ hk
    refine hQ S' T' (zst M' 22 0 (nI q)) (fun R h => hr' R ⟨1, ?_⟩) (TX_M (fz 0 (by decide)) (fz 1 (by decide)) jt.1) (fun k hk => by rw [fz k (by omega)]; exact fr' k hk) (Or.inr ⟨s6, by rw [fz 23 (by decide)]; exact h23, by rw [tk.1, e], ?_⟩)
    · show F_X9_program_4 R (fx (F_X9_program_4 R) 0) M'
      unfold F_X9_program_4
      exact ⟨fun _ => here_rn hl hpq hq hb hn jt.1.2.2.2.1 jt.1.2.2.2.2 h22 _ (fun y => absurd y (by omega)) (fun _ => ⟨fun _ => h, fun y => absurd (by decide) y⟩), fun y => absurd h23 y⟩
    · obtain ⟨F, a, b, d, e⟩ := dr' s6
      exact ⟨F, a, b, d, DR_M (fun k k1 _ => fz k k1) e⟩
  unfold F_X3_faultOf_10
  simp only [forall_eq]
  refine ⟨fun y => ?_, fun y => ?_⟩
  · have h150 : 150 ≤ i := (nI_leI (a := 150) (b := i) (by omega) (by omega)).mp y
    rcases JT_st jt with ⟨s6, po⟩ | ⟨s6, px⟩
    · obtain ⟨-, h23, p, q, at'⟩ := po
      obtain ⟨h22, hlo, hpq, hq, -⟩ := id at'
      exact ended s6 p q at' h23 (by omega)
    · exact stuck px
  · have hlt : i < 150 := Nat.not_le.mp (fun k => y ((nI_leI (a := 150) (b := i) (by omega) (by omega)).mpr k))
    refine hasMore_sp _ _ (fun s6 s2 => ⟨fun k => absurd k (by decide), fun _ => ?_⟩) (fun w => ⟨fun _ => ?_, fun k => (k rfl).elim⟩)
    · obtain ⟨-, h23, p, q, h22, hlo, hpq, hq, hb, hn, tk⟩ := JT_po jt s6
      have hqlt : q < len := by
        rcases Nat.lt_or_ge q len with z | z
        · exact z
        · exact absurd ((tk_end hq tk).mpr (by omega)) s2
      have fz : ∀ k, k ≠ 22 → zst M' 22 0 (nI q) k = M' k := fun k hk => zs_ne _ _ _ hk
      have jt2 : JT f len i S' (zst M' 22 0 (nI q)) := ⟨TX_M (fz 0 (by decide)) (fz 1 (by decide)) jt.1, Or.inl ⟨s6, by rw [fz 23 (by decide)]; exact h23, q, q, zs_at _ _ _ _, by omega, Nat.le_refl _, hq, fun i a b => absurd a (by omega), hn, tk⟩⟩
      obtain ⟨F, a, b, d, e⟩ := dr' s6
      refine j_item jt2 s6 s2 (DR_M (fun k k1 _ => fz k k1) e) _ (fun S3 T3 M3 rd jt3 fr3 dr3 => ?_)
      rw [nI_1]
      refine hX _ ⟨i + 1, S3, T3, M3, by omega, rfl, fun R ⟨n, hn'⟩ => hr' R ⟨n + 1, ?_⟩, jt3, fun k hk => by rw [fr3 k hk, fz k (by omega)]; exact fr' k hk, dr3⟩ ?_
      · show F_X9_program_4 R (fx (F_X9_program_4 R) n) M'
        unfold F_X9_program_4
        refine ⟨fun _ => here_rn hl hpq hq hb hn jt.1.2.2.2.1 jt.1.2.2.2.2 h22 _ (fun _ => ⟨fun z => ?_, fun _ => rd _ hn'⟩) (fun z => absurd hqlt z), fun z => absurd h23 z⟩
        obtain ⟨j, hj, ej⟩ := vp_in_of (jt.1.1.2 q hqlt) (by omega)
        rw [ej] at z
        exact absurd z (nI_pos (by omega))
      · show 150 - (nI (i + 1)).toNatClampNeg < 150 - (nI i).toNatClampNeg
        rw [ic, nI_clamp (by omega)]
        omega
    · rcases JT_st jt with ⟨s6, po⟩ | ⟨s6, px⟩
      · obtain ⟨-, h23, p, q, at'⟩ := po
        obtain ⟨h22, hlo, hpq, hq, hb, hn, tk⟩ := id at'
        exact ended s6 p q at' h23 ((tk_end hq tk).mp (w.resolve_left (fun k => k s6)))
      · exact stuck px
/-! from the drafts to STRICT -/
def hmF (M : ZS) : Nat → Nat := fun n => (M 28 n).toNatClampNeg
def aF (M : ZS) : Nat → Nat := fun n => (M 32 n).toNatClampNeg
theorem dr_hm (d : DR T M F nN nB c) {n : Nat} (hn : n < nN) : M 28 n = nI (hmF M n) ∧ hmF M n < nB ∧ F (hmF M n) ≤ n ∧ n < F (hmF M n + 1) := by
  obtain ⟨-, b, hb, e, h1, h2⟩ := d.2.2.1 n hn
  have : hmF M n = b := by
    show (M 28 n).toNatClampNeg = b
    rw [e, nI_clamp (by have := d.1; omega)]
  rw [this]
  exact ⟨e, hb, h1, h2⟩
theorem dr_a (d : DR T M F nN nB c) {n : Nat} (hn : n < nN) : T 8 n = nI (aF M n) ∧ M 32 n = nI (aF M n) ∧ aF M n ≤ 3 ∧ (¬ M 27 n = 3 → aF M n = 0) ∧ (∀ k, k < aF M n → (T 9 (3 * n + k) = M 33 (3 * n + k) ∧ T 10 (3 * n + k) = M 34 (3 * n + k)) ∧ vp_in (M 33 (3 * n + k)) 8 ∧ vp_in (M 34 (3 * n + k)) 24) ∧ ∀ i j, i < aF M n → j < aF M n → M 33 (3 * n + i) = M 33 (3 * n + j) → i = j := by
  obtain ⟨⟨-, -, ⟨a, h⟩, -⟩, -⟩ := d.2.2.1 n hn
  have : aF M n = a := by
    show (M 32 n).toNatClampNeg = a
    rw [h.2.1, nI_clamp (by omega)]
  rw [this]
  exact h
theorem dr_tw (d : DR T M F nN nB c) : TW T nN nB (hmF M) (aF M) := by
  obtain ⟨d1, d2, d3, d4, d5, d6⟩ := d.1
  refine ⟨⟨d1, d2, d5, d6⟩, fun n hn => ⟨⟨?_, (dr_hm d hn).2.1⟩, (dr_a d hn).1, (dr_a d hn).2.2.1⟩⟩
  rw [(d.2.2.1 n hn).1.1.1.1]
  exact (dr_hm d hn).1
theorem dr_way (d : DR T M F nN nB nB) {b k : Nat} (hb : b < nB) (hk : k < 2) : T 15 (2 * b + k) = M 38 (96 + (2 * b + k)) ∧ (M 38 (96 + (2 * b + k)) = -9 ∨ vp_in (M 38 (96 + (2 * b + k))) 8) := by
  obtain ⟨⟨-, -, w0, w1⟩, alt⟩ := d.2.2.2.2.1 b hb
  have hk' : k = 0 ∨ k = 1 := by omega
  rcases hk' with e | e
  · subst e
    refine ⟨w0, ?_⟩
    rcases alt with a | a | a
    · exact Or.inr a.2.2.1
    · exact Or.inr a.2.2.1
    · exact Or.inl a.2.2.1
  · subst e
    refine ⟨w1, ?_⟩
    rcases alt with a | a | a
    · exact Or.inl a.2.2.2
    · exact Or.inr a.2.2.2
    · exact Or.inl a.2.2.2
theorem dr_wayE (d : DR T M F nN nB nB) {e : Nat} (he : e < 2 * nB) : T 15 e = M 38 (96 + e) ∧ (M 38 (96 + e) = -9 ∨ vp_in (M 38 (96 + e)) 8) := by
  have := dr_way d (b := e / 2) (k := e % 2) (by omega) (by omega)
  rw [show 2 * (e / 2) + e % 2 = e by omega] at this
  exact this
theorem dr_mw (d : DR T M F nN nB nB) : MW M nN nB (hmF M) (aF M) := by
  obtain ⟨d1, d2, d3, d4, d5, d6⟩ := d.1
  refine ⟨⟨d3, d4, d5, d6⟩, fun n hn => ⟨⟨(dr_hm d hn).1, (dr_hm d hn).2.1⟩, ⟨(dr_a d hn).2.1, (dr_a d hn).2.2.1⟩, fun h => ((d.2.2.1 n hn).1.2.1.1 h).2, fun k hk => ((dr_a d hn).2.2.2.2.1 k hk).2⟩, fun b hb => ?_, fun e he => (dr_wayE d he).2⟩
  rcases (d.2.2.2.2.1 b hb).2 with a | a | a
  · exact Or.inl ⟨a.1, a.2.1⟩
  · exact Or.inr ⟨by rw [a.1]; decide, a.2.1⟩
  · exact Or.inr ⟨by rw [a.1]; decide, a.2.1⟩
def STM (M : ZS) (nN nB : Nat) : Prop := STR (M 27) (hmF M) (M 30) (M 31) (aF M) (M 33) (M 34) (M 37) (fun e => M 38 (96 + e)) nN nB
theorem dr_str (d : DR T M F nN nB nB) : STR (T 3) (hmF M) (T 6) (T 7) (aF M) (T 9) (T 10) (T 14) (T 15) nN nB ↔ STM M nN nB := by
  refine ⟨fun s => STR_cong (fun n hn => ?_) (fun n hn h => ?_) (fun n k hn hk => ?_) (fun b hb => ?_) (fun e he => ?_) (fun n hn => (dr_hm d hn).2.1) s, fun s => STR_cong (fun n hn => ?_) (fun n hn h => ?_) (fun n k hn hk => ?_) (fun b hb => ?_) (fun e he => ?_) (fun n hn => (dr_hm d hn).2.1) s⟩
  · exact (d.2.2.1 n hn).1.1.2.1.1.symm
  · rw [(d.2.2.1 n hn).1.1.2.1.1] at h
    have := ((d.2.2.1 n hn).1.2.1.1 h).1
    exact ⟨this.2.1.symm, this.2.2.symm⟩
  · have := ((dr_a d hn).2.2.2.2.1 k hk).1
    exact ⟨this.1.symm, this.2.symm⟩
  · exact (d.2.2.2.2.1 b hb).1.2.1.symm
  · exact (dr_wayE d he).1.symm
  · exact (d.2.2.1 n hn).1.1.2.1.1
  · have := ((d.2.2.1 n hn).1.2.1.1 h).1
    exact ⟨this.2.1, this.2.2⟩
  · exact ((dr_a d hn).2.2.2.2.1 k hk).1
  · exact (d.2.2.2.2.1 b hb).1.2.1
  · exact (dr_wayE d he).1
/-! the reference begins -/
theorem reading_rn (M : ZS) : ∃ M', (∀ R : ZS → Prop, R M' → g_X9_startsReading M R) ∧ (∀ k, k ≤ 21 → M' k = M k) ∧ M' 22 0 = 0 ∧ M' 23 0 = 0 ∧ M' 24 0 = 0 ∧ M' 25 0 = 0 ∧ M' 26 0 = 0 ∧ ∀ i, i < 112 → M' 38 i = 0 := by
  refine ⟨zrp (zst (zst (zst (zst (zst M 22 0 0) 23 0 0) 24 0 0) 25 0 0) 26 0 0) 38 (fun i => if i < 112 then 0 else zst (zst (zst (zst (zst M 22 0 0) 23 0 0) 24 0 0) 25 0 0) 26 0 0 38 i), fun R hR => ?_, fun k hk => ?_, ?_, ?_, ?_, ?_, ?_, fun i hi => ?_⟩
  · unfold g_X9_startsReading
    simp only [forall_eq]
    generalize zst (zst (zst (zst (zst M 22 0 0) 23 0 0) 24 0 0) 25 0 0) 26 0 0 = M5 at hR ⊢
    refine fx_all (fun p => ∃ j, j ≤ 112 ∧ p = (nI j, zrp M5 38 (fun i => if i < j then 0 else M5 38 i))) (fun p => 112 - p.1.toNatClampNeg) ?_ _ ⟨0, Nat.zero_le _, ?_⟩
    · rintro X p ⟨j, hj, rfl⟩ hX
      have jc := nI_clamp (n := j) (by omega)
      unfold F_X9_startsReading_27
      simp only [forall_eq, nI_1, jc]
      refine ⟨fun y => ?_, fun y => ⟨?_, hX _ ⟨j + 1, ?_, ?_⟩ ?_⟩⟩
      · have := (nI_leI (a := 112) (b := j) (by omega) (by omega)).mp y
        have e : j = 112 := by omega
        subst e
        exact hR
      · have hlt : ¬ 112 ≤ j := fun k => y ((nI_leI (a := 112) (b := j) (by omega) (by omega)).mpr k)
        exact vp_in_nI (by omega) (by omega)
      · have hlt : ¬ 112 ≤ j := fun k => y ((nI_leI (a := 112) (b := j) (by omega) (by omega)).mpr k)
        omega
      · refine congrArg _ ?_
        funext k i
        rw [zs_if]
        by_cases q : k = 38
        · subst q
          rw [if_pos rfl, zr_kk, zr_kk]
          by_cases w : i = j
          · rw [if_pos w, w]
            show 0 = if j < j + 1 then 0 else M5 38 j
            rw [if_pos (by omega)]
          · rw [if_neg w]
            show (if i < j then 0 else M5 38 i) = if i < j + 1 then 0 else M5 38 i
            by_cases v : i < j
            · rw [if_pos v, if_pos (by omega)]
            · rw [if_neg v, if_neg (by omega)]
        · rw [if_neg q, zr_ne _ _ q, zr_ne _ _ q]
      · have hlt : ¬ 112 ≤ j := fun k => y ((nI_leI (a := 112) (b := j) (by omega) (by omega)).mpr k)
        show 112 - (nI (j + 1)).toNatClampNeg < 112 - (nI j).toNatClampNeg
        rw [jc, nI_clamp (by omega)]
        omega
    · refine congrArg (Prod.mk 0) ?_
      funext k i
      by_cases q : k = 38
      · subst q
        rw [zr_kk]
        show M5 38 i = if i < 0 then 0 else M5 38 i
        rw [if_neg (by omega)]
      · rw [zr_ne _ _ q]
  · rw [zr_ne _ _ (by omega), zs_ne _ _ _ (by omega), zs_ne _ _ _ (by omega), zs_ne _ _ _ (by omega), zs_ne _ _ _ (by omega), zs_ne _ _ _ (by omega)]
  · rw [zr_ne _ _ (by decide), zs_ne _ _ _ (by decide), zs_ne _ _ _ (by decide), zs_ne _ _ _ (by decide), zs_ne _ _ _ (by decide), zs_at]
  · rw [zr_ne _ _ (by decide), zs_ne _ _ _ (by decide), zs_ne _ _ _ (by decide), zs_ne _ _ _ (by decide), zs_at]
  · rw [zr_ne _ _ (by decide), zs_ne _ _ _ (by decide), zs_ne _ _ _ (by decide), zs_at]
  · rw [zr_ne _ _ (by decide), zs_ne _ _ _ (by decide), zs_at]
  · rw [zr_ne _ _ (by decide), zs_at]
  · rw [zr_kk]
    exact if_pos hi
/-- what the two readers say -/
theorem j_fault (hl : len ≤ 150) (s1 : S 1 0 = nI len) (s0 : ∀ i, i < len → S 0 i = M 0 i) (hb : ∀ i, i < len → vp_in (M 0 i) 256) (m1 : M 1 0 = nI len) (Q : Int32 → ZS → ZS → Prop)
    (hf : ∀ v S' T', (∀ R : Int32 → ZS → Prop, (∀ M', (∀ k, k ≤ 21 → M' k = M k) → R (-10 - v) M') → g_X9_program M R) → ¬ v = -1 → S' 1 0 = nI len → (∀ i, i < len → S' 0 i = M 0 i) → Q v S' T')
    (hs : ∀ S' T' M' F nN nB, (∀ R : Int32 → ZS → Prop, (∀ M'', (∀ k, k ≠ 39 → M'' k = M' k) → DM (fun e => M' 38 (96 + e)) nB (M'' 39) → G_X9_program_66 R M'') → g_X9_program M R) → M' 23 0 = 0 → S' 1 0 = nI len → (∀ k, k ≤ 21 → M' k = M k) → DR T' M' F nN nB nB → 0 < nB → STM M' nN nB → DM (T' 15) nB (T' 16) → Q (-1) S' T') : g_X3_faultOf S T Q := by
  obtain ⟨MS, rr, rf, r22, r23, r24, r25, r26, r38⟩ := reading_rn M
  unfold g_X3_faultOf g_X4_empty g_X6_rewind
  simp only [forall_eq]
  have tx0 : TX (M 0) len (zst (zst S 6 0 0) 4 0 0) MS := ⟨⟨hl, hb⟩, by rw [zs_ne _ _ _ (by decide), zs_ne _ _ _ (by decide)]; exact s1, by rw [zs_ne _ _ _ (by decide), zs_ne _ _ _ (by decide)]; exact s0, rf 0 (by decide), by rw [rf 1 (by decide)]; exact m1⟩
  have dr0 : DR (zst (zst T 0 0 0) 1 0 0) MS (fun _ => 0) 0 0 0 := ⟨⟨by rw [zs_ne _ _ _ (by decide), zs_at]; rfl, by rw [zs_at]; rfl, r25, r24, by omega, by omega⟩, ⟨rfl, rfl⟩, fun n hn => absurd hn (by omega), fun b h => absurd h (by omega), fun b h => absurd h (by omega), Or.inl ⟨rfl, r26⟩, fun i hi => r38 i (by omega), fun n _ hn => r38 _ (by omega)⟩
  refine j_step (M' := MS) (lo := 0) (e := 0) tx0 (by rw [zs_ne _ _ _ (by decide), zs_at]) (by omega) (by rw [zs_at]; rfl) (by omega) rfl rfl r22 r23 _ (fun S2 jt s6 => ?_)
  refine j_loop (M0 := M) (run := fun R => g_X9_program M R) (fun R h => ?_) jt rf (fun _ => ⟨_, _, _, _, dr0⟩) Q (fun S' T' M' run tx fr alt => ?_)
  · unfold g_X9_program
    exact rr _ h
  unfold G_X3_faultOf_35 G_X3_faultOf_60 G_X3_faultOf_61
  rcases alt with px | ⟨z6, z23, z3, F, nN, nB, c, d⟩
  · refine ⟨fun y => absurd (px.1.symm.trans y) (by decide), fun _ => ⟨fun _ => ?_, fun k => (k rfl).elim⟩⟩
    refine hf _ S' T' (fun R hR => run R ?_) (fun e => px.2.2.2 (by rw [e]; decide)) tx.2.1 tx.2.2.1
    unfold G_X9_program_25 G_X9_program_66
    rw [← px.2.2.1]
    exact ⟨fun y => absurd (px.2.1.symm.trans y) (by decide), fun _ => ⟨fun y => absurd (px.2.1.symm.trans y) (by decide), fun _ => hR M' fr⟩⟩
  · obtain ⟨d1, d2, d3, d4, d5, d6⟩ := d.1
    have dop := d.2.2.2.2.2.1
    -- a fault at the end
    have bad53 : ∀ M'', M'' 1 0 = nI len → ∀ R : Int32 → ZS → Prop, R (-10 - nI len) (zst (zst M'' 23 0 1) 22 0 (nI len)) → G_X9_program_53 R M'' := by
      intro M'' e1 R hR
      unfold G_X9_program_53 G_X9_program_66
      simp only [forall_eq]
      have g1 : zst M'' 23 0 1 1 0 = nI len := by rw [zs_ne _ _ _ (by decide)]; exact e1
      have g22 : zst (zst M'' 23 0 1) 22 0 (nI len) 22 0 = nI len := zs_at _ _ _ _
      have g23 : zst (zst M'' 23 0 1) 22 0 (nI len) 23 0 = 1 := by rw [zs_ne _ _ _ (by decide), zs_at]
      rw [g1]
      refine ⟨fun y => absurd (g23.symm.trans y) (by decide), fun _ => ?_⟩
      rw [g22]
      exact hR
    have badQ : ∀ (T'' : ZS), (∀ R : Int32 → ZS → Prop, (∀ M'', (∀ k, k ≤ 21 → M'' k = M' k) → G_X9_program_53 R M'') → g_X9_program M R) → Q (S' 3 0) S' T'' := by
      intro T'' run''
      rw [z3]
      refine hf _ S' T'' (fun R hR => run'' R (fun M'' f'' => bad53 M'' (by rw [f'' 1 (by decide)]; exact tx.2.2.2.2) R (hR _ (fun k hk => ?_)))) (fun e => ?_) tx.2.1 tx.2.2.1
      · rw [zs_ne _ _ _ (by omega), zs_ne _ _ _ (by omega), f'' k hk]; exact fr k hk
      · have := nI_pos (n := len) (by omega)
        rw [e] at this
        exact this (by decide)
    have n25 : M' 25 0 = 0 ↔ nB = 0 := by
      rw [d3]
      exact nI_eq (a := nB) (b := 0) (by omega) (by omega)
    have notwhole : ¬ (0 < nB ∧ c = nB) → Q (S' 3 0) S' T' := by
      intro w
      refine badQ T' (fun R h => run R ?_)
      have h := h M' (fun _ _ => rfl)
      unfold G_X9_program_25
      refine ⟨fun _ => ⟨fun y26 => ⟨fun _ => h, fun y25 => ?_⟩, fun _ => h⟩, fun y => absurd z23 y⟩
      rcases dop with o | o
      · exact absurd ⟨Nat.pos_of_ne_zero (fun k => y25 (n25.mpr k)), o.1⟩ w
      · exact absurd (o.2.1.symm.trans y26) (by decide)
    refine ⟨fun _ => ?_, fun y => absurd z6 y⟩
    unfold g_X4_isWhole
    rw [d1]
    refine ⟨fun y => ⟨fun _ => ⟨fun _ => notwhole (fun k => ?_), fun k => (k rfl).elim⟩, fun k => (k rfl).elim⟩, fun y => ?_⟩
    · have : nB ≤ 0 := (nI_leI (a := nB) (b := 0) (by omega) (by omega)).mp y
      omega
    · have hB : ¬ nB ≤ 0 := fun k => y ((nI_leI (a := nB) (b := 0) (by omega) (by omega)).mpr k)
      have e1 : nI nB - 1 = nI (nB - 1) := by rw [show (1 : Int32) = nI 1 from rfl, pk_sub (by omega)]
      rw [e1, nI_clamp (show nB - 1 < 2 ^ 31 by omega)]
      refine ⟨vp_in_nI (by omega) (by omega), fun z => ⟨fun _ => ⟨fun _ => notwhole (fun k => ?_), fun k => (k rfl).elim⟩, fun k => (k rfl).elim⟩, fun z => ⟨fun k => absurd k (by decide), fun _ => ?_⟩⟩
      · obtain ⟨⟨q1, -⟩, q2⟩ := d.2.2.2.2.1 (nB - 1) (by omega)
        rw [q1] at z
        rcases q2 with q | q | q
        · exact absurd (q.1.symm.trans z) (by decide)
        · exact absurd (q.1.symm.trans z) (by decide)
        · exact absurd (q.1.symm.trans z) (by decide)
      · have hc : c = nB ∧ M' 26 0 = 0 := by
          rcases dop with o | o
          · exact o
          · have := o.2.2.1.1
            rw [show c = nB - 1 by omega] at this
            exact absurd this z
        obtain ⟨rfl, h26⟩ := hc
        have run2 : ∀ R : Int32 → ZS → Prop, g_X9_isStrict M' (fun r_5 S0_4 => (((r_5 = 0) → G_X9_program_53 R S0_4) ∧ (¬ r_5 = 0 → G_X9_program_66 R S0_4))) → g_X9_program M R := by
          intro R h
          refine run R ?_
          unfold G_X9_program_25
          exact ⟨fun _ => ⟨fun _ => ⟨fun k => absurd (n25.mp k) (by omega), fun _ => h⟩, fun k => absurd h26 k⟩, fun k => absurd z23 k⟩
        refine cStrict_sp (dr_tw d) (fun n hn h => ?_) _ (fun s T'' ft dm => ⟨fun k => absurd k (by decide), fun _ => ⟨fun k => absurd k (by decide), fun _ => ?_⟩⟩) (fun s T'' => ⟨fun _ => ⟨fun _ => ?_, fun k => (k rfl).elim⟩, fun k => (k rfl).elim⟩)
        · rw [(d.2.2.1 n hn).1.1.2.1.1] at h
          exact (dr_a d hn).2.2.2.1 h
        · have sm := (dr_str d).mp s
          refine hs S' T'' M' F nN c (fun R hR => run2 R (mStrict_sp (dr_mw d) _ (fun _ M'' f'' dm'' => ⟨fun k => absurd k (by decide), fun _ => hR M'' f'' dm''⟩) (fun k => absurd sm k))) z23 tx.2.1 fr ?_ (by omega) sm ?_
          · unfold DR NR BR CR OB at d ⊢
            rw [ft 0 (by decide), ft 1 (by decide), ft 2 (by decide), ft 3 (by decide), ft 4 (by decide), ft 5 (by decide), ft 6 (by decide), ft 7 (by decide), ft 8 (by decide), ft 9 (by decide), ft 10 (by decide), ft 11 (by decide), ft 12 (by decide), ft 13 (by decide), ft 14 (by decide), ft 15 (by decide)]
            exact d
          · rw [ft 15 (by decide)]
            exact dm
        · have sm : ¬ STM M' nN c := fun k => s ((dr_str d).mpr k)
          exact badQ T'' (fun R h => run2 R (mStrict_sp (dr_mw d) _ (fun k => absurd k sm) (fun _ M'' f'' => ⟨fun _ => h M'' (fun k hk => f'' k (by omega)), fun k => (k rfl).elim⟩)))
end LOOP
