/-! the two texts side by side -/
section PAIR
variable {f : ZR} {len : Nat}
theorem LnD {c : Int32} (hL : isL c) : ¬ isD c := by
  intro hD
  obtain ⟨d, hd, e⟩ := isD_of hD
  exact hL.1 (by rw [e]; exact (nI_ltI (a := 48 + d) (b := 97) (by omega) (by omega)).mpr (by omega))
theorem SnL {c : Int32} (h : isS c) : ¬ isL c ∧ ¬ isD c ∧ ¬ c = 59 ∧ ¬ c = 32 := by
  unfold isS at h
  unfold isL isD
  rcases h with h | h | h | h | h | h | h | h | h <;> subst h <;> decide
theorem SlT {c : Int32} (h : isS c) : c < 1000 := by
  unfold isS at h
  rcases h with h | h | h | h | h | h | h | h | h <;> subst h <;> decide
theorem tk_num {q : Nat} {S : ZS} (hq : q ≤ len) (tk : TK f len q S) : ∃ m, q + m ≤ len ∧ (∀ i, i < m → isD (f (q + i))) ∧ (q + m < len → ¬ isD (f (q + m))) ∧ (S 2 0 = 2 ↔ (1 ≤ m ∧ ng f q m)) ∧ (S 2 0 = 2 → S 5 0 = dv f q m ∧ S 4 0 = nI (q + m)) ∧ (q < len → isD (f q) → 1 ≤ m) := by
  obtain ⟨t3, te, tt⟩ := tk
  have none : ∀ x : Int32, S 2 0 = x → x ≠ 2 → (q < len → ¬ isD (f q)) → ∃ m, q + m ≤ len ∧ (∀ i, i < m → isD (f (q + i))) ∧ (q + m < len → ¬ isD (f (q + m))) ∧ (S 2 0 = 2 ↔ (1 ≤ m ∧ ng f q m)) ∧ (S 2 0 = 2 → S 5 0 = dv f q m ∧ S 4 0 = nI (q + m)) ∧ (q < len → isD (f q) → 1 ≤ m) := by
    intro x e ne hd
    refine ⟨0, hq, fun i hi => absurd hi (by omega), hd, ⟨fun y => absurd (e.symm.trans y) ne, fun y => absurd y.1 (by omega)⟩, fun y => absurd (e.symm.trans y) ne, fun a b => absurd b (hd a)⟩
  by_cases h : q = len
  · exact none _ (te h) (by decide) (fun w => absurd w (by omega))
  have hlt : q < len := by omega
  obtain ⟨tL, tD, tS, t59, t0⟩ := tt hlt
  by_cases hL : isL (f q)
  · exact none _ (tL hL).1 (by decide) (fun _ => LnD hL)
  by_cases hD : isD (f q)
  · obtain ⟨m, m1, m2, m3, m4, m5, m6⟩ := tD hD
    refine ⟨m, m2, m3, m4, ⟨fun y => ⟨m1, ?_⟩, fun y => (m5 y.2).1⟩, fun y => ?_, fun _ _ => m1⟩
    · by_cases g : ng f q m
      · exact g
      · exact absurd ((m6 g).symm.trans y) (by decide)
    · by_cases g : ng f q m
      · exact (m5 g).2
      · exact absurd ((m6 g).symm.trans y) (by decide)
  by_cases hS : isS (f q)
  · exact none _ (tS hL hD hS).1 (by decide) (fun _ => hD)
  by_cases h59 : f q = 59
  · exact none _ (t59 h59).1 (by decide) (fun _ => hD)
  · exact none _ (t0 hL hD hS h59) (by decide) (fun _ => hD)
theorem tk_end {q : Nat} {S : ZS} (hq : q ≤ len) (tk : TK f len q S) : S 2 0 = 0 ↔ q = len := by
  obtain ⟨t3, te, tt⟩ := tk
  refine ⟨fun y => ?_, te⟩
  by_cases h : q = len
  · exact h
  have hlt : q < len := by omega
  obtain ⟨tL, tD, tS, t59, t0⟩ := tt hlt
  have no : ∀ {x : Int32}, S 2 0 = x → x ≠ 0 → q = len := fun e ne => absurd (e.symm.trans y) ne
  by_cases hL : isL (f q)
  · exact no (tL hL).1 (by decide)
  by_cases hD : isD (f q)
  · obtain ⟨m, m1, m2, m3, m4, m5, m6⟩ := tD hD
    by_cases g : ng f q m
    · exact no (m5 g).1 (by decide)
    · exact no (m6 g) (by decide)
  by_cases hS : isS (f q)
  · exact no (tS hL hD hS).1 (by decide)
  by_cases h59 : f q = 59
  · exact no (t59 h59).1 (by decide)
  · exact no (t0 hL hD hS h59) (by decide)
theorem tk_let {q : Nat} {S : ZS} (hq : q ≤ len) (tk : TK f len q S) : S 2 0 = 1 ↔ (q < len ∧ isL (f q)) := by
  obtain ⟨t3, te, tt⟩ := tk
  refine ⟨fun y => ?_, fun y => ((tt y.1).1 y.2).1⟩
  have no : ∀ {x : Int32}, S 2 0 = x → x ≠ 1 → q < len ∧ isL (f q) := fun e ne => absurd (e.symm.trans y) ne
  by_cases h : q = len
  · exact no (te h) (by decide)
  have hlt : q < len := by omega
  obtain ⟨tL, tD, tS, t59, t0⟩ := tt hlt
  by_cases hL : isL (f q)
  · exact ⟨hlt, hL⟩
  by_cases hD : isD (f q)
  · obtain ⟨m, m1, m2, m3, m4, m5, m6⟩ := tD hD
    by_cases g : ng f q m
    · exact no (m5 g).1 (by decide)
    · exact no (m6 g) (by decide)
  by_cases hS : isS (f q)
  · exact no (tS hL hD hS).1 (by decide)
  by_cases h59 : f q = 59
  · exact no (t59 h59).1 (by decide)
  · exact no (t0 hL hD hS h59) (by decide)
theorem tk_sign {q : Nat} {S : ZS} (hq : q ≤ len) (tk : TK f len q S) : (S 2 0 = 3 ↔ (q < len ∧ isS (f q))) ∧ (S 2 0 = 3 → S 5 0 = f q ∧ S 4 0 = nI (q + 1)) := by
  obtain ⟨t3, te, tt⟩ := tk
  have fw : S 2 0 = 3 → q < len ∧ isS (f q) := by
    intro y
    have no : ∀ {x : Int32}, S 2 0 = x → x ≠ 3 → q < len ∧ isS (f q) := fun e ne => absurd (e.symm.trans y) ne
    by_cases h : q = len
    · exact no (te h) (by decide)
    have hlt : q < len := by omega
    obtain ⟨tL, tD, tS, t59, t0⟩ := tt hlt
    by_cases hS : isS (f q)
    · exact ⟨hlt, hS⟩
    by_cases hL : isL (f q)
    · exact no (tL hL).1 (by decide)
    by_cases hD : isD (f q)
    · obtain ⟨m, m1, m2, m3, m4, m5, m6⟩ := tD hD
      by_cases g : ng f q m
      · exact no (m5 g).1 (by decide)
      · exact no (m6 g) (by decide)
    by_cases h59 : f q = 59
    · exact no (t59 h59).1 (by decide)
    · exact no (t0 hL hD hS h59) (by decide)
  refine ⟨⟨fw, fun y => ?_⟩, fun y => ?_⟩
  · exact ((tt y.1).2.2.1 (SnL y.2).1 (SnL y.2).2.1 y.2).1
  · have y := fw y
    exact ((tt y.1).2.2.1 (SnL y.2).1 (SnL y.2).2.1 y.2).2
theorem tk_stop {q : Nat} {S : ZS} (hq : q ≤ len) (tk : TK f len q S) : (S 2 0 = 4 ↔ (q < len ∧ f q = 59)) ∧ (S 2 0 = 4 → S 4 0 = nI (q + 1) ∧ S 5 0 = 0) := by
  obtain ⟨t3, te, tt⟩ := tk
  have fw : S 2 0 = 4 → q < len ∧ f q = 59 := by
    intro y
    have no : ∀ {x : Int32}, S 2 0 = x → x ≠ 4 → q < len ∧ f q = 59 := fun e ne => absurd (e.symm.trans y) ne
    by_cases h : q = len
    · exact no (te h) (by decide)
    have hlt : q < len := by omega
    obtain ⟨tL, tD, tS, t59, t0⟩ := tt hlt
    by_cases h59 : f q = 59
    · exact ⟨hlt, h59⟩
    by_cases hL : isL (f q)
    · exact no (tL hL).1 (by decide)
    by_cases hD : isD (f q)
    · obtain ⟨m, m1, m2, m3, m4, m5, m6⟩ := tD hD
      by_cases g : ng f q m
      · exact no (m5 g).1 (by decide)
      · exact no (m6 g) (by decide)
    by_cases hS : isS (f q)
    · exact no (tS hL hD hS).1 (by decide)
    · exact no (t0 hL hD hS h59) (by decide)
  exact ⟨⟨fw, fun y => ((tt y.1).2.2.2.1 y.2).1⟩, fun y => ((tt (fw y).1).2.2.2.1 (fw y).2).2⟩
/-- the two texts -/
def TX (f : ZR) (len : Nat) (S M : ZS) : Prop := (len ≤ 150 ∧ ∀ i, i < len → vp_in (f i) 256) ∧ S 1 0 = nI len ∧ (∀ i, i < len → S 0 i = f i) ∧ M 0 = f ∧ M 1 0 = nI len
def AT (f : ZR) (len lo : Nat) (S M : ZS) (p q : Nat) : Prop := M 22 0 = nI p ∧ lo ≤ p ∧ p ≤ q ∧ q ≤ len ∧ bl f p q ∧ (q < len → ¬ f q = 32) ∧ TK f len q S
def PO (f : ZR) (len lo : Nat) (S M : ZS) : Prop := S 6 0 = 0 ∧ M 23 0 = 0 ∧ ∃ p q, AT f len lo S M p q
def PX (S M : ZS) : Prop := S 6 0 = 1 ∧ M 23 0 = 1 ∧ S 3 0 = M 22 0 ∧ ¬ S 3 0 < 0
def JT (f : ZR) (len lo : Nat) (S M : ZS) : Prop := TX f len S M ∧ (PO f len lo S M ∨ PX S M)
theorem TX_M {S M M' : ZS} (h0 : M' 0 = M 0) (h1 : M' 1 = M 1) (t : TX f len S M) : TX f len S M' := ⟨t.1, t.2.1, t.2.2.1, by rw [h0]; exact t.2.2.2.1, by rw [h1]; exact t.2.2.2.2⟩
theorem TX_S {S S' M : ZS} (h0 : S' 0 = S 0) (h1 : S' 1 = S 1) (t : TX f len S M) : TX f len S' M := ⟨t.1, by rw [h1]; exact t.2.1, by rw [h0]; exact t.2.2.1, t.2.2.2⟩
theorem JT_M {lo : Nat} {S M M' : ZS} (h : ∀ k, k ≤ 23 → M' k = M k) (t : JT f len lo S M) : JT f len lo S M' := by
  refine ⟨TX_M (h 0 (by decide)) (h 1 (by decide)) t.1, ?_⟩
  unfold PO PX AT
  rw [h 22 (by decide), h 23 (by decide)]
  exact t.2
theorem JT_put {lo : Nat} {S M : ZS} {k : Nat} (i : Nat) (v : Int32) (hk : 24 ≤ k) (t : JT f len lo S M) : JT f len lo S (zst M k i v) := JT_M (fun j hj => zs_ne _ _ _ (by omega)) t
theorem JT_mono {lo lo' : Nat} {S M : ZS} (h : lo' ≤ lo) (t : JT f len lo S M) : JT f len lo' S M := by
  refine ⟨t.1, t.2.imp (fun ⟨a, b, p, q, c, d, e⟩ => ⟨a, b, p, q, c, by omega, e⟩) id⟩
theorem JT_st {lo : Nat} {S M : ZS} (t : JT f len lo S M) : (S 6 0 = 0 ∧ PO f len lo S M) ∨ (S 6 0 = 1 ∧ PX S M) := t.2.imp (fun y => ⟨y.1, y⟩) (fun y => ⟨y.1, y⟩)
theorem JT_po {lo : Nat} {S M : ZS} (t : JT f len lo S M) (h : S 6 0 = 0) : PO f len lo S M := t.2.resolve_right (fun y => absurd (y.1.symm.trans h) (by decide))
/-- the class takes the token, the reference has it behind it -/
theorem j_step {lo e : Nat} {S M M' : ZS} (t : TX f len S M) (h6 : S 6 0 = 0) (he : e ≤ len) (h4 : S 4 0 = nI e) (hlo : lo ≤ e) (m0 : M' 0 = M 0) (m1 : M' 1 = M 1) (m22 : M' 22 0 = nI e) (m23 : M' 23 0 = 0) (Q : ZS → Prop) (hQ : ∀ S', JT f len lo S' M' → S' 6 0 = 0 → Q S') : g_X6_step S Q := by
  refine step_sp t.1.1 he t.2.1 t.2.2.1 h4 Q (fun S' q a b c d e0 e1 e6 tk => ?_)
  have s6 : S' 6 0 = 0 := by rw [e6]; exact h6
  exact hQ S' ⟨TX_S e0 e1 (TX_M m0 m1 t), Or.inl ⟨s6, m23, e, q, m22, hlo, a, b, c, d, tk⟩⟩ s6
/-- the class is stuck -/
theorem j_stuck {lo q : Nat} {S M M' : ZS} (hq31 : q < 2 ^ 31) (t : TX f len S M) (h3 : S 3 0 = nI q) (m0 : M' 0 = M 0) (m1 : M' 1 = M 1) (m22 : M' 22 0 = nI q) (m23 : M' 23 0 = 1) : JT f len lo (zst S 6 0 1) M' := by
  refine ⟨TX_S (zs_ne _ _ _ (by decide)) (zs_ne _ _ _ (by decide)) (TX_M m0 m1 t), Or.inr ⟨zs_at _ _ _ _, m23, ?_, ?_⟩⟩
  · rw [zs_ne _ _ _ (by decide), h3, m22]
  · rw [zs_ne _ _ _ (by decide), h3]
    exact nI_pos hq31
theorem j_stuck2 {lo : Nat} {S M : ZS} (t : TX f len S M) (h : PX S M) : JT f len lo (zst S 6 0 1) M := by
  rw [zs_self h.1]
  exact ⟨t, Or.inr h⟩
theorem take_stuck (x : Int32) {b : Int32} (S : ZS) (h : ¬ S 6 0 = 0) (Q : Int32 → ZS → Prop) (hQ : Q 0 (zst S 6 0 1)) : g_X6_take x b S Q := by
  unfold g_X6_take
  simp only [forall_eq]
  exact ⟨fun y => absurd y h, fun _ => hQ⟩
theorem below_stuck (x : Int32) (S : ZS) (h : ¬ S 6 0 = 0) (Q : Int32 → ZS → Prop) (hQ : Q 0 (zst S 6 0 1)) : g_X6_take 2 x S Q := take_stuck _ _ h _ hQ
/-- the reference's numeral, seen from the class's token -/
theorem j_numx {lo B : Nat} {S M : ZS} (hB : 1 ≤ B) (hB2 : B ≤ 1000) (t : JT f len lo S M) : ∃ v M', (∀ R : Int32 → ZS → Prop, R v M' → g_X9_numeral (nI (B - 1)) M R) ∧ (∀ k, k ≠ 22 → k ≠ 23 → M' k = M k) ∧ ((S 6 0 = 0 ∧ S 2 0 = 2 ∧ S 5 0 = v ∧ ∃ k e, k < B ∧ v = nI k ∧ e ≤ len ∧ lo + 1 ≤ e ∧ S 4 0 = nI e ∧ M' 22 0 = nI e ∧ M' 23 0 = 0) ∨ (S 6 0 = 0 ∧ ¬ (S 2 0 = 2 ∧ S 5 0 < nI B) ∧ M' 23 0 = 1 ∧ ∃ q, q < 2 ^ 31 ∧ S 3 0 = nI q ∧ M' 22 0 = nI q) ∨ (PX S M ∧ M' = M)) := by
  rcases t.2 with ⟨h6, h23, p, q, h22, hlo, hpq, hq, hb, hn, tk⟩ | hx
  · obtain ⟨m, m1, m2, m3, m4, m5, -⟩ := tk_num hq tk
    have hl := t.1.1.1
    obtain ⟨v, M', run, alt⟩ := num_rn (B := B - 1) hl hpq hq hb hn t.1.2.2.2.1 t.1.2.2.2.2 h22 h23 m1 m2 m3 (by omega)
    refine ⟨v, M', run, ?_⟩
    rcases alt with ⟨a1, a2, a3, a4, rfl⟩ | ⟨a1, rfl⟩
    · refine ⟨fun k k1 k2 => zs_ne _ _ _ k1, Or.inl ?_⟩
      have s2 := m4.mpr ⟨a1, a2⟩
      obtain ⟨k, ek, hk, -⟩ := dv_of (by have := a2.1; omega) m2
      have hk3 : k < 10 ^ 3 := Nat.lt_of_lt_of_le hk (Nat.pow_le_pow_right (by omega) a2.1)
      rw [ek] at a3
      have kl := (nI_leI (a := k) (b := B - 1) (by omega) (by omega)).mp a3
      exact ⟨h6, s2, (m5 s2).1.trans a4.symm, k, q + m, by omega, a4.trans ek, m1, by omega, (m5 s2).2, zs_at _ _ _ _, by rw [zs_ne _ _ _ (by decide)]; exact h23⟩
    · refine ⟨fun k k1 k2 => by rw [zs_ne _ _ _ k2, zs_ne _ _ _ k1], Or.inr (Or.inl ⟨h6, fun y => a1 ?_, zs_at _ _ _ _, q, by omega, tk.1, by rw [zs_ne _ _ _ (by decide), zs_at]⟩)⟩
      obtain ⟨b1, b2⟩ := m4.mp y.1
      refine ⟨b1, b2, ?_⟩
      obtain ⟨k, ek, hk, -⟩ := dv_of (by have := b2.1; omega) m2
      have hk3 : k < 10 ^ 3 := Nat.lt_of_lt_of_le hk (Nat.pow_le_pow_right (by omega) b2.1)
      have y2 := y.2
      rw [(m5 y.1).1, ek] at y2
      have := (nI_ltI (a := k) (b := B) (by omega) (by omega)).mp y2
      rw [ek]
      exact (nI_leI (by omega) (by omega)).mpr (by omega)
  · refine ⟨0, M, fun R hR => ⟨fun y => ?_, fun _ => hR⟩, fun _ _ _ => rfl, Or.inr (Or.inr ⟨hx, rfl⟩)⟩
    exact absurd (hx.2.1.symm.trans y) (by decide)
theorem j_below {lo B : Nat} {S M : ZS} (hB : 1 ≤ B) (hB2 : B ≤ 1000) (t : JT f len lo S M) (Q : Int32 → ZS → Prop) (hQ : ∀ v S' w M', (∀ R : Int32 → ZS → Prop, R w M' → g_X9_numeral (nI (B - 1)) M R) → JT f len (lo + 1) S' M' → (∀ k, k ≠ 22 → k ≠ 23 → M' k = M k) → (S' 6 0 = 0 → S 6 0 = 0 ∧ v = w ∧ (S 2 0 = 2 ∧ S 5 0 = w) ∧ ∃ k, k < B ∧ w = nI k) → Q v S') : g_X6_take 2 (nI B) S Q := by
  obtain ⟨w, M', run, fr, alt⟩ := j_numx hB hB2 t
  have f0 := fr 0 (by decide) (by decide)
  have f1 := fr 1 (by decide) (by decide)
  rcases alt with ⟨h6, h2, h5, k, e, hk, ew, he, hlo, h4, m22, m23⟩ | ⟨h6, hno, m23, q, hq31, h3, m22⟩ | ⟨hx, rfl⟩
  · unfold g_X6_take
    simp only [forall_eq]
    have lt : S 5 0 < nI B := by rw [h5, ew]; exact (nI_ltI (by omega) (by omega)).mpr hk
    refine ⟨fun _ => ⟨fun _ => ⟨fun _ => ?_, fun y => absurd lt y⟩, fun y => absurd h2 y⟩, fun y => absurd h6 y⟩
    exact j_step t.1 h6 he h4 hlo f0 f1 m22 m23 _ (fun S' jt s6 => hQ _ _ _ _ run jt fr (fun _ => ⟨h6, h5, ⟨h2, h5⟩, k, hk, ew⟩))
  · have fin : Q 0 (zst S 6 0 1) := hQ _ _ _ _ run (j_stuck hq31 t.1 h3 f0 f1 m22 m23) fr (fun y => by rw [zs_at] at y; exact absurd y (by decide))
    unfold g_X6_take
    simp only [forall_eq]
    exact ⟨fun _ => ⟨fun z => ⟨fun y => absurd ⟨z, y⟩ hno, fun _ => fin⟩, fun _ => fin⟩, fun z => absurd h6 z⟩
  · exact below_stuck _ _ (fun y => absurd (hx.1.symm.trans y) (by decide)) _ (hQ _ _ _ _ run (j_stuck2 t.1 hx) fr (fun y => by rw [zs_at] at y; exact absurd y (by decide)))
theorem j_numb {lo : Nat} {S M : ZS} (t : JT f len lo S M) (Q : Int32 → ZS → Prop) (hQ : ∀ v S' w M', (∀ R : Int32 → ZS → Prop, R w M' → g_X9_numeral (nI 999) M R) → JT f len (lo + 1) S' M' → (∀ k, k ≠ 22 → k ≠ 23 → M' k = M k) → (S' 6 0 = 0 → S 6 0 = 0 ∧ v = w) → Q v S') : g_X6_take 2 1000 S Q :=
  j_below (B := 1000) (by omega) (by omega) t Q (fun v S' w M' run jt fr st => hQ v S' w M' run jt fr (fun z => ⟨(st z).1, (st z).2.1⟩))
/-- the end of an item -/
theorem j_close {lo : Nat} {S M : ZS} (t : JT f len lo S M) (Q : Int32 → ZS → Prop) (hQ : ∀ v S' M', (∀ R : ZS → Prop, R M' → g_X9_closes M R) → JT f len (lo + 1) S' M' → (∀ k, k ≠ 22 → k ≠ 23 → M' k = M k) → (S' 6 0 = 0 → S 6 0 = 0) → Q v S') : g_X6_take 4 1000 S Q := by
  rcases t.2 with ⟨h6, h23, p, q, h22, hlo, hpq, hq, hb, hn, tk⟩ | hx
  · obtain ⟨k1, k2⟩ := tk_stop hq tk
    have hl := t.1.1.1
    have run : ∀ R : ZS → Prop, (q < len → f q = 59 → R (zst M 22 0 (nI (q + 1)))) → (¬ (q < len ∧ f q = 59) → R (zst (zst M 22 0 (nI q)) 23 0 1)) → g_X9_closes M R := by
      intro R r1 r0
      unfold g_X9_closes
      refine ⟨fun _ => ?_, fun y => absurd h23 y⟩
      have c1 : q < len → f q = 59 → G_X9_closes_22 R 0 (zst M 22 0 (nI q)) := by
        intro w1 w2
        unfold G_X9_closes_22
        simp only [forall_eq, zs_at]
        refine ⟨isB_0, fun _ => ?_, fun y => (y (by trivial)).elim⟩
        rw [zs_self (show zst M 22 0 (nI q) 23 0 = 0 by rw [zs_ne _ _ _ (by decide)]; exact h23), zs_at, nI_1, zs_zs]
        exact r1 w1 w2
      have c0 : ¬ (q < len ∧ f q = 59) → G_X9_closes_22 R 1 (zst M 22 0 (nI q)) := by
        intro w
        unfold G_X9_closes_22
        simp only [forall_eq, zs_at]
        refine ⟨isB_1, fun y => absurd y (by decide), fun _ => ?_⟩
        rw [zs_self (v := zst (zst M 22 0 (nI q)) 23 0 1 22 0 + 0) (by rw [Int32.add_zero])]
        exact r0 w
      refine here_rn hl hpq hq hb hn t.1.2.2.2.1 t.1.2.2.2.2 h22 _ (fun w => ⟨fun y => c1 w y, fun y => c0 (fun z => y z.2)⟩) (fun w => ⟨fun y => absurd y (by decide), fun _ => c0 (fun z => w z.1)⟩)
    unfold g_X6_take
    simp only [forall_eq]
    refine ⟨fun _ => ⟨fun y => ⟨fun _ => ?_, fun y5 => ?_⟩, fun y => ?_⟩, fun y => absurd h6 y⟩
    · obtain ⟨w1, w2⟩ := k1.mp y
      refine j_step (M' := zst M 22 0 (nI (q + 1))) t.1 h6 w1 (k2 y).1 (by omega) (zs_ne _ _ _ (by decide)) (zs_ne _ _ _ (by decide)) (zs_at _ _ _ _) (by rw [zs_ne _ _ _ (by decide)]; exact h23) _ (fun S' jt s6 => hQ _ _ _ (fun R hR => run R (fun _ _ => hR) (fun z => absurd ⟨w1, w2⟩ z)) jt (fun k a b => zs_ne _ _ _ a) (fun _ => h6))
    · exact absurd (by rw [(k2 y).2]; decide) y5
    · refine hQ _ _ (zst (zst M 22 0 (nI q)) 23 0 1) (fun R hR => run R (fun a b => absurd (k1.mpr ⟨a, b⟩) y) (fun _ => hR)) (j_stuck (by omega) t.1 tk.1 (by rw [zs_ne _ _ _ (by decide), zs_ne _ _ _ (by decide)]) (by rw [zs_ne _ _ _ (by decide), zs_ne _ _ _ (by decide)]) (by rw [zs_ne _ _ _ (by decide), zs_at]) (zs_at _ _ _ _)) (fun k a b => by rw [zs_ne _ _ _ b, zs_ne _ _ _ a]) (fun z => by rw [zs_at] at z; exact absurd z (by decide))
  · refine take_stuck _ _ (fun y => absurd (hx.1.symm.trans y) (by decide)) _ (hQ _ _ M (fun R hR => ?_) (j_stuck2 t.1 hx) (fun _ _ _ => rfl) (fun y => by rw [zs_at] at y; exact absurd y (by decide)))
    unfold g_X9_closes
    exact ⟨fun y => absurd (hx.2.1.symm.trans y) (by decide), fun _ => hR⟩
/-- the sign of an operation -/
theorem j_sign {lo n : Nat} {S M : ZS} (hn24 : n < 24) (t : JT f len lo S M) (Q : Int32 → ZS → Prop) (hQ : ∀ v S' M', (∀ R : ZS → Prop, (G_X9_readsOperation_79 R (nI n) M') → (M 23 0 = 0 → g_X9_here M (fun r_7 S0_6 => g_X9_isSign r_7 (fun r_8 => (((r_8 = 0) → G_X9_readsOperation_45 R (nI n) 1 S0_6) ∧ (¬ r_8 = 0 → G_X9_readsOperation_45 R (nI n) 0 S0_6))))) ∧ (¬ M 23 0 = 0 → G_X9_readsOperation_79 R (nI n) M)) → JT f len (lo + 1) S' M' → (∀ k, k ≠ 22 → k ≠ 23 → k ≠ 29 → M' k = M k) → (∀ i, i ≠ n → M' 29 i = M 29 i) → (S' 6 0 = 0 → S 6 0 = 0 ∧ M' 29 n = v) → Q v S') : g_X6_take 3 1000 S Q := by
  rcases t.2 with ⟨h6, h23, p, q, h22, hlo, hpq, hq, hb, hn, tk⟩ | hx
  · obtain ⟨k1, k2⟩ := tk_sign hq tk
    have hl := t.1.1.1
    have t0 : zst M 22 0 (nI q) 0 = f := by rw [zs_ne _ _ _ (by decide)]; exact t.1.2.2.2.1
    have t1 : zst M 22 0 (nI q) 1 0 = nI len := by rw [zs_ne _ _ _ (by decide)]; exact t.1.2.2.2.2
    have ncl := nI_clamp (n := n) (by omega)
    have run1 : q < len → isS (f q) → ∀ R : ZS → Prop, G_X9_readsOperation_79 R (nI n) (zst (zst (zst M 22 0 (nI q)) 29 n (f q)) 22 0 (nI (q + 1))) → g_X9_here M (fun r_7 S0_6 => g_X9_isSign r_7 (fun r_8 => (((r_8 = 0) → G_X9_readsOperation_45 R (nI n) 1 S0_6) ∧ (¬ r_8 = 0 → G_X9_readsOperation_45 R (nI n) 0 S0_6)))) := by
      intro w1 w2 R hR
      refine here_rn hl hpq hq hb hn t.1.2.2.2.1 t.1.2.2.2.2 h22 _ (fun _ => ?_) (fun w => absurd w1 w)
      refine mSign_sp _ _ (fun _ => ⟨fun y => absurd y (by decide), fun _ => ?_⟩) (fun w => absurd w2 w)
      unfold G_X9_readsOperation_45
      simp only [forall_eq]
      rw [zs_self (show zst M 22 0 (nI q) 23 0 = 0 by rw [zs_ne _ _ _ (by decide)]; exact h23)]
      refine ⟨isB_0, here_rn hl (Nat.le_refl q) hq (fun i a b => absurd a (by omega)) hn t0 t1 (zs_at _ _ _ _) _ (fun _ => ?_) (fun w => absurd w1 w)⟩
      rw [zs_zs, ncl]
      refine ⟨vp_in_nI (by omega) (by omega), fun _ => ?_, fun y => ?_⟩
      · unfold G_X9_readsOperation_75
        simp only [forall_eq]
        rw [zs_ne _ _ _ (show 22 ≠ 29 by decide), zs_at, nI_1]
        exact hR
      · rw [zs_ne _ _ _ (by decide), zs_ne _ _ _ (by decide)] at y
        exact absurd h23 y
    have run0 : ¬ (q < len ∧ isS (f q)) → ∃ c, ∀ R : ZS → Prop, G_X9_readsOperation_79 R (nI n) (zst (zst (zst M 22 0 (nI q)) 23 0 1) 29 n c) → g_X9_here M (fun r_7 S0_6 => g_X9_isSign r_7 (fun r_8 => (((r_8 = 0) → G_X9_readsOperation_45 R (nI n) 1 S0_6) ∧ (¬ r_8 = 0 → G_X9_readsOperation_45 R (nI n) 0 S0_6)))) := by
      intro w
      have t0' : zst (zst M 22 0 (nI q)) 23 0 1 0 = f := by rw [zs_ne _ _ _ (by decide)]; exact t0
      have t1' : zst (zst M 22 0 (nI q)) 23 0 1 1 0 = nI len := by rw [zs_ne _ _ _ (by decide)]; exact t1
      have t22' : zst (zst M 22 0 (nI q)) 23 0 1 22 0 = nI q := by rw [zs_ne _ _ _ (by decide), zs_at]
      have r45 : ∀ c, (q < len → f q = c) → (¬ q < len → -1 = c) → ∀ R : ZS → Prop, G_X9_readsOperation_79 R (nI n) (zst (zst (zst M 22 0 (nI q)) 23 0 1) 29 n c) → G_X9_readsOperation_45 R (nI n) 1 (zst M 22 0 (nI q)) := by
        intro c hc1 hc2 R hR
        unfold G_X9_readsOperation_45
        simp only [forall_eq]
        have g : zst (zst (zst M 22 0 (nI q)) 23 0 1) 29 n c 23 0 = 1 := by rw [zs_ne _ _ _ (by decide), zs_at]
        have g2 : zst (zst (zst M 22 0 (nI q)) 23 0 1) 29 n c 22 0 = nI q := by rw [zs_ne _ _ _ (by decide)]; exact t22'
        refine ⟨isB_1, here_rn hl (Nat.le_refl q) hq (fun i a b => absurd a (by omega)) hn t0' t1' t22' _ (fun w => ?_) (fun w => ?_)⟩
        all_goals
          rw [zs_self t22', ncl]
          first
            | rw [hc1 w]
            | rw [hc2 w]
          refine ⟨vp_in_nI (by omega) (by omega), fun y => absurd (g.symm.trans y) (by decide), fun _ => ?_⟩
          unfold G_X9_readsOperation_75
          simp only [forall_eq]
          rw [zs_self (v := zst (zst (zst M 22 0 (nI q)) 23 0 1) 29 n c 22 0 + 0) (by rw [Int32.add_zero])]
          exact hR
      by_cases w1 : q < len
      · refine ⟨f q, fun R hR => here_rn hl hpq hq hb hn t.1.2.2.2.1 t.1.2.2.2.2 h22 _ (fun _ => ?_) (fun z => absurd w1 z)⟩
        exact mSign_sp _ _ (fun z => absurd ⟨w1, z⟩ w) (fun _ => ⟨fun _ => r45 _ (fun _ => rfl) (fun z => absurd w1 z) R hR, fun y => (y rfl).elim⟩)
      · refine ⟨-1, fun R hR => here_rn hl hpq hq hb hn t.1.2.2.2.1 t.1.2.2.2.2 h22 _ (fun z => absurd z w1) (fun _ => ?_)⟩
        exact mSign_sp _ _ (fun z => absurd z (by unfold isS; decide)) (fun _ => ⟨fun _ => r45 _ (fun z => absurd z w1) (fun _ => rfl) R hR, fun y => (y rfl).elim⟩)
    unfold g_X6_take
    simp only [forall_eq]
    refine ⟨fun _ => ⟨fun y => ⟨fun _ => ?_, fun y5 => ?_⟩, fun y => ?_⟩, fun y => absurd h6 y⟩
    · obtain ⟨w1, w2⟩ := k1.mp y
      refine j_step (M' := zst (zst (zst M 22 0 (nI q)) 29 n (f q)) 22 0 (nI (q + 1))) (lo := lo + 1) t.1 h6 w1 (k2 y).2 (by omega) ?_ ?_ (zs_at _ _ _ _) ?_ _ (fun S' jt s6 => hQ _ _ _ (fun R hR => ⟨fun _ => run1 w1 w2 R hR, fun z => absurd h23 z⟩) jt (fun k a b c => ?_) (fun i hi => ?_) (fun _ => ⟨h6, ?_⟩))
      · rw [zs_ne _ _ _ (by decide), zs_ne _ _ _ (by decide), zs_ne _ _ _ (by decide)]
      · rw [zs_ne _ _ _ (by decide), zs_ne _ _ _ (by decide), zs_ne _ _ _ (by decide)]
      · rw [zs_ne _ _ _ (by decide), zs_ne _ _ _ (by decide), zs_ne _ _ _ (by decide)]; exact h23
      · rw [zs_ne _ _ _ a, zs_ne _ _ _ c, zs_ne _ _ _ a]
      · rw [zs_ne _ _ _ (by decide), zs_ni _ _ _ hi, zs_ne _ _ _ (by decide)]
      · rw [zs_ne _ _ _ (by decide), zs_at, (k2 y).1]
    · exact absurd (by rw [(k2 y).1]; exact SlT (k1.mp y).2) y5
    · obtain ⟨c, run⟩ := run0 (fun z => y (k1.mpr z))
      refine hQ _ _ _ (fun R hR => ⟨fun _ => run R hR, fun z => absurd h23 z⟩) (j_stuck (by omega) t.1 tk.1 ?_ ?_ ?_ ?_) (fun k a b d => ?_) (fun i hi => ?_) (fun z => ?_)
      · rw [zs_ne _ _ _ (by decide), zs_ne _ _ _ (by decide), zs_ne _ _ _ (by decide)]
      · rw [zs_ne _ _ _ (by decide), zs_ne _ _ _ (by decide), zs_ne _ _ _ (by decide)]
      · rw [zs_ne _ _ _ (by decide), zs_ne _ _ _ (by decide), zs_at]
      · rw [zs_ne _ _ _ (by decide), zs_at]
      · rw [zs_ne _ _ _ d, zs_ne _ _ _ b, zs_ne _ _ _ a]
      · rw [zs_ni _ _ _ hi, zs_ne _ _ _ (by decide), zs_ne _ _ _ (by decide)]
      · rw [zs_at] at z
        exact absurd z (by decide)
  · refine take_stuck _ _ (fun y => absurd (hx.1.symm.trans y) (by decide)) _ (hQ _ _ M (fun R hR => ⟨fun y => absurd (hx.2.1.symm.trans y) (by decide), fun _ => hR⟩) (j_stuck2 t.1 hx) (fun _ _ _ _ => rfl) (fun _ _ => rfl) (fun y => by rw [zs_at] at y; exact absurd y (by decide)))
end PAIR
