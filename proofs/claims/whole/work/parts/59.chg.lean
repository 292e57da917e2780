/-! calls that change what stands: what is common -/
def RC (nN nB len h : Nat) (S0 S1 S2 S4 S5 S6 S8 S9 S10 S11 M : ZS) : Prop :=
  (WS (pr M) nN nB ∧ WW (pr M) (wy (pr M)) nN nB) ∧
  (len ≤ 150 ∧ S1 1 0 = nI len ∧ M 1 0 = nI len ∧ ∀ i, i < len → S1 0 i = M 0 i ∧ vp_in (M 0 i) 256) ∧
  (SEq S2 (pr M) nN nB ∧ NE S4 (M 16) 0 nN nB) ∧
  (FF (pr M) nN nB False S5 ∧ FF (pr M) nN nB True S6 ∧ WK (pr M) nB S8) ∧
  (h ≤ 10 ∧ S9 0 0 = nI h ∧ M 18 0 = nI h ∧ HR S9 (pr M) (M 17) nN nB h S4) ∧
  ((∀ i, i < 2 → isB (S0 10 i) ∧ M 20 i = S0 10 i) ∧ (S0 10 0 = 1 → NE S10 (M 19) 0 nN nB ∧ WW (pr M) (fun e => M 19 (0 + (96 + e))) nN nB) ∧ (S0 10 1 = 1 → NE S11 (M 19) 112 nN nB ∧ WW (pr M) (fun e => M 19 (112 + (96 + e))) nN nB)) ∧
  S0 11 0 = M 21 0
theorem RR_of {nN nB len h : Nat} {S0 S1 S2 S4 S5 S6 S8 S9 S10 S11 M : ZS} (S3 S7 : ZS) (r : RC nN nB len h S0 S1 S2 S4 S5 S6 S8 S9 S10 S11 M) : RR S0 S1 S2 S3 S4 S5 S6 S7 S8 S9 S10 S11 M := ⟨nN, nB, len, h, r⟩
theorem RR_to {S0 S1 S2 S3 S4 S5 S6 S7 S8 S9 S10 S11 M : ZS} (r : RR S0 S1 S2 S3 S4 S5 S6 S7 S8 S9 S10 S11 M) : ∃ nN nB len h, RC nN nB len h S0 S1 S2 S4 S5 S6 S8 S9 S10 S11 M := r
theorem e16 {E E' : ZS} (h : ∀ k, k ≠ 16 → E' k = E k) : E' = zrp E 16 (E' 16) := by
  funext k
  by_cases q : k = 16
  · rw [q, zr_kk]
  · rw [zr_ne _ _ q, h k q]
theorem WS_cong {E E' : ZS} {nN nB : Nat} (h : ∀ k, k ≠ 16 → E' k = E k) (w : WS E nN nB) : WS E' nN nB := by
  rw [e16 h]
  exact w
theorem SEq_cong {T E E' : ZS} {nN nB : Nat} (h : ∀ k, k ≠ 16 → E' k = E k) (w : SEq T E nN nB) : SEq T E' nN nB := by
  rw [e16 h]
  exact w
theorem settle_sp {E T U : ZS} {nN nB : Nat} (ws : WS E nN nB) (ww : WW E (wy E) nN nB) (se : SEq T E nN nB) (ne : NE U (E 16) 0 nN nB) {z0 z1 z3 z5 z6 z7 z8 z9 z10 z11 : ZS} (Q : ZS → ZS → ZS → Prop) (hQ : ∀ T5 T6 T8, FF E nN nB False T5 → FF E nN nB True T6 → WK E nB T8 → Q T5 T6 T8) : g_X8_settle z0 z1 T z3 U z5 z6 z7 z8 z9 z10 z11 Q := by
  have W := wf_of ws ww
  have C := ce_of W.1.2.2.1 se ne
  unfold g_X8_settle
  refine climb_sp W ws.2.2.2.1 (wr_of ww) C (pl := False) ⟨fun z => z rfl, fun z => z.elim⟩ _ _ (fun T5 h5 => ?_)
  refine climb_sp W ws.2.2.2.1 (wr_of ww) C (pl := True) ⟨fun _ => trivial, fun _ => by decide⟩ _ _ (fun T6 h6 => ?_)
  exact start_sp W ws.2.2.2.1 (we_of ww) (wj_of ws ww) C (cg_of ne) _ _ (fun T8 h8 => hQ T5 T6 T8 h5 h6 h8)
theorem pr_cg {M M' : ZS} (h : ∀ k, k ≠ 16 → k ≠ 17 → k ≠ 18 → M' k = M k) : ∀ k, k ≠ 16 → pr M' k = pr M k := by
  intro k hk
  unfold pr
  by_cases q : 2 ≤ k ∧ k ≤ 16
  · rw [if_pos q, if_pos q, h k hk (by omega) (by omega)]
  · rw [if_neg q, if_neg q]
section CHG
variable {nN nB len h : Nat} {S0 S1 S2 S4 S5 S6 S8 S9 S10 S11 M U' : ZS}
theorem change_sp (r : RC nN nB len h S0 S1 S2 S4 S5 S6 S8 S9 S10 S11 M) (f' : ZR) (ww : WW (pr M) (fun e => f' (96 + e)) nN nB) (ne : NE U' f' 0 nN nB) {z0 z1 z3 z5 z6 z7 z8 z9 z10 z11 : ZS} (Q : ZS → ZS → ZS → Prop) (hQ : ∀ T5 T6 T8, (∀ (M' H' : ZS) (h' : Nat), (∀ k, k ≠ 16 → k ≠ 17 → k ≠ 18 → M' k = M k) → M' 16 = f' → (h' ≤ 10 ∧ H' 0 0 = nI h' ∧ M' 18 0 = nI h' ∧ HR H' (pr M) (M' 17) nN nB h' U') → FF M' nN nB False T5 ∧ WF M' nN nB ∧ WX M' nN ∧ RC nN nB len h' S0 S1 S2 U' T5 T6 T8 H' S10 S11 M') → Q T5 T6 T8) : g_X8_settle z0 z1 S2 z3 U' z5 z6 z7 z8 z9 z10 z11 Q := by
  obtain ⟨⟨ws, -⟩, tx, ⟨se, -⟩, -, -, im, tl⟩ := r
  have c : ∀ k, k ≠ 16 → pr (zrp M 16 f') k = pr M k := pr_cg (fun k h1 _ _ => zr_ne _ _ h1)
  have ws' := WS_cong c ws
  have se' := SEq_cong c se
  have ww' : WW (pr (zrp M 16 f')) (wy (pr (zrp M 16 f'))) nN nB := WW_cong c (fun _ _ => rfl) ww
  refine settle_sp (E := pr (zrp M 16 f')) ws' ww' se' ne Q (fun T5 T6 T8 h5 h6 h8 => hQ T5 T6 T8 (fun M' H' h' hk ek hh => ?_))
  have ep : pr (zrp M 16 f') = pr M' := pr_eq (fun k h1 h2 => by
    by_cases q : k = 16
    · rw [q, zr_kk, ek]
    · rw [zr_ne _ _ q, hk k q (by omega) (by omega)])
  rw [ep] at c ws' se' ww' h5 h6 h8
  refine ⟨h5, wf_of ws' ww', ws'.2.2.2.2.1, ⟨ws', ww'⟩, ?_, ⟨se', ?_⟩, ⟨h5, h6, h8⟩, ?_, ?_, ?_⟩
  · rw [hk 0 (by decide) (by decide) (by decide), hk 1 (by decide) (by decide) (by decide)]
    exact tx
  · rw [ek]
    exact ne
  · exact ⟨hh.1, hh.2.1, hh.2.2.1, HR_cong ws.1.2.2.1 ws.1.2.2.2 c h' _ (fun _ _ _ _ _ => rfl) (fun _ _ => rfl) hh.2.2.2⟩
  · rw [hk 19 (by decide) (by decide) (by decide), hk 20 (by decide) (by decide) (by decide)]
    exact ⟨im.1, fun q => ⟨(im.2.1 q).1, WW_cong c (fun _ _ => rfl) (im.2.1 q).2⟩, fun q => ⟨(im.2.2 q).1, WW_cong c (fun _ _ => rfl) (im.2.2 q).2⟩⟩
  · rw [hk 21 (by decide) (by decide) (by decide)]
    exact tl
end CHG
theorem NE_upd {U : ZS} {f : ZR} {nN nB k n o : Nat} {v : Int32} (hN : nN ≤ 24) (hk : k < 4) (hn : n < nN) (ho : o = 24 * k + n) (hv : k = 0 → isB v) (r : NE U f 0 nN nB) : NE (zst U k n v) (upd f o v) 0 nN nB := by
  have one : ∀ j m, j < 4 → m < nN → U j m = f (0 + (24 * j + m)) → zst U k n v j m = upd f o v (0 + (24 * j + m)) := by
    intro j m hj hm e
    by_cases q : j = k
    · subst q
      by_cases q2 : m = n
      · subst q2
        rw [zs_at, ho, Nat.zero_add, pk_us]
      · rw [zs_ni _ _ _ q2, pk_un (by omega), e]
    · rw [zs_ne _ _ _ q, pk_un (by omega), e]
  refine ⟨fun m hm => ?_, fun e he => ?_, fun m hm => ?_⟩
  · obtain ⟨a, b, c, d⟩ := r.1 m hm
    refine ⟨?_, one 1 m (by omega) hm b, one 2 m (by omega) hm c, one 3 m (by omega) hm d⟩
    have := one 0 m (by omega) hm (by rw [Nat.mul_zero, Nat.zero_add]; exact a)
    rw [Nat.mul_zero, Nat.zero_add m] at this
    exact this
  · rw [zs_ne _ _ _ (by omega), pk_un (by omega)]
    exact r.2.1 e he
  · by_cases q : k = 0
    · by_cases q2 : m = n
      · subst q2
        rw [show 0 + m = o by omega, pk_us]
        exact hv q
      · rw [pk_un (by omega)]
        exact r.2.2 m hm
    · rw [pk_un (by omega)]
      exact r.2.2 m hm
theorem un_k0 (U : ZS) (n : Nat) (a b : Int32) : zst (zst (zst (zst U 0 n a) 1 n b) 0 n (U 0 n)) 1 n (U 1 n) = U := by
  funext k j
  simp only [zrp]
  by_cases q1 : k = 1
  · subst q1
    by_cases q : j = n
    · subst q; simp [pk_us]
    · simp [pk_un q]
  · by_cases q0 : k = 0
    · subst q0
      by_cases q : j = n
      · subst q; simp [pk_us]
      · simp [pk_un q]
    · simp [q0, q1]
theorem un_k0' (U : ZS) (n : Nat) (a : Int32) : zst (zst (zst U 0 n a) 0 n (U 0 n)) 1 n (U 1 n) = U := by
  funext k j
  simp only [zrp]
  by_cases q1 : k = 1
  · subst q1
    by_cases q : j = n
    · subst q; simp [pk_us]
    · simp [pk_un q]
  · by_cases q0 : k = 0
    · subst q0
      by_cases q : j = n
      · subst q; simp [pk_us]
      · simp [pk_un q]
    · simp [q0, q1]
theorem un_k (U : ZS) (i n : Nat) (a : Int32) : zst (zst U i n a) i n (U i n) = U := by
  funext k j
  simp only [zrp]
  by_cases q1 : k = i
  · subst q1
    by_cases q : j = n
    · subst q; simp [pk_us]
    · simp [pk_un q]
  · simp [q1]
theorem un_sw (U : ZS) (k a b : Nat) (h : a ≠ b) : zst (zst (zst (zst U k a (U k b)) k b (U k a)) k a (zst (zst U k a (U k b)) k b (U k a) k b)) k b (zst (zst U k a (U k b)) k b (U k a) k a) = U := by
  have e1 : zst (zst U k a (U k b)) k b (U k a) k b = U k a := zs_at _ _ _ _
  have e2 : zst (zst U k a (U k b)) k b (U k a) k a = U k b := by rw [zs_ni _ _ _ h, zs_at]
  rw [e1, e2]
  funext i j
  simp only [zrp]
  by_cases q1 : i = k
  · subst q1
    by_cases q : j = b
    · subst q; simp [pk_us]
    · by_cases q' : j = a
      · subst q'; simp [pk_un q, pk_us]
      · simp [pk_un q, pk_un q']
  · simp [q1]
/-- made in such a way, on both sides -/
theorem cMade_sp {T : ZS} {nN : Nat} (x w : Int32) (hN : nN ≤ 24) (hT : T 1 0 = nI nN) (Q : Int32 → Prop) (h1 : ∀ n, n < nN → x = nI n → T 3 n = w → Q 1) (h0 : (¬ ∃ n, n < nN ∧ x = nI n ∧ T 3 n = w) → Q 0) : g_X4_isMade x w T Q := by
  unfold g_X4_isMade
  refine hasName_sp x hN hT _ (fun n hn e => ⟨fun z => absurd z (by decide), fun _ => ?_⟩) (fun hx => ⟨fun _ => h0 (fun ⟨n, a, b, _⟩ => hx ⟨n, a, b⟩), fun z => (z rfl).elim⟩)
  subst e
  rw [nI_clamp (by omega)]
  refine ⟨vp_in_nI (by omega) (by omega), fun z => h1 n hn rfl z, fun z => h0 ?_⟩
  rintro ⟨m, a, b, c⟩
  have : n = m := (nI_eq (by omega) (by omega)).mp b
  rw [this] at z
  exact z c
theorem mMade_sp {M : ZS} {nN : Nat} (x w : Int32) (hN : nN ≤ 24) (hT : M 2 0 = nI nN) (Q : Int32 → Prop) (h1 : ∀ n, n < nN → x = nI n → M 4 n = w → Q 1) (h0 : (¬ ∃ n, n < nN ∧ x = nI n ∧ M 4 n = w) → Q 0) : g_X9_isMade x w M Q := by
  unfold g_X9_isMade
  refine isName_sp x hN hT _ (fun n hn e => ⟨fun z => absurd z (by decide), fun _ => ?_⟩) (fun hx => ⟨fun _ => h0 (fun ⟨n, a, b, _⟩ => hx ⟨n, a, b⟩), fun z => (z rfl).elim⟩)
  subst e
  rw [nI_clamp (by omega)]
  refine ⟨vp_in_nI (by omega) (by omega), fun z => h1 n hn rfl z, fun z => h0 ?_⟩
  rintro ⟨m, a, b, c⟩
  have : n = m := (nI_eq (by omega) (by omega)).mp b
  rw [this] at z
  exact z c
