/-! pure base: sums (starting text: the kit's COUNTS), numbers, states -/
def fb_sm (f : Nat → Nat) : Nat → Nat
  | 0 => 0
  | n + 1 => fb_sm f n + f n
theorem fb_sm_succ (f : Nat → Nat) (n : Nat) : fb_sm f (n + 1) = fb_sm f n + f n := rfl
theorem fb_sm_cong {f g : Nat → Nat} : ∀ {n : Nat}, (∀ k, k < n → f k = g k) → fb_sm f n = fb_sm g n
  | 0, _ => rfl
  | n + 1, h => by rw [fb_sm_succ, fb_sm_succ, fb_sm_cong (fun k hk => h k (by omega)), h n (by omega)]
theorem fb_sm_out (f : Nat → Nat) (v : Nat) {i n : Nat} (h : n ≤ i) : fb_sm (fun k => if k = i then v else f k) n = fb_sm f n :=
  fb_sm_cong fun k hk => if_neg (by omega)
theorem fb_sm_upd (f : Nat → Nat) (v : Nat) {i : Nat} : ∀ {n : Nat}, i < n → fb_sm (fun k => if k = i then v else f k) n + f i = fb_sm f n + v
  | 0, h => absurd h (Nat.not_lt_zero i)
  | n + 1, h => by
    rw [fb_sm_succ, fb_sm_succ]
    rcases Nat.lt_or_ge i n with q | q
    · have := fb_sm_upd f v q
      have e : (if n = i then v else f n) = f n := if_neg (by omega)
      rw [e]
      omega
    · have e : i = n := by omega
      subst e
      rw [fb_sm_out f v (Nat.le_refl _)]
      simp only [if_true]
      omega
theorem fb_sm_le {f g : Nat → Nat} : ∀ {n : Nat}, (∀ k, k < n → f k ≤ g k) → fb_sm f n ≤ fb_sm g n
  | 0, _ => Nat.le_refl _
  | n + 1, h => by
    have h1 := fb_sm_le (n := n) (f := f) (g := g) (fun k hk => h k (by omega))
    have h2 := h n (by omega)
    rw [fb_sm_succ, fb_sm_succ]
    omega
theorem fb_sm_const (c : Nat) : ∀ n, fb_sm (fun _ => c) n = n * c
  | 0 => by rw [Nat.zero_mul]; rfl
  | n + 1 => by rw [fb_sm_succ, fb_sm_const c n, Nat.succ_mul]
theorem fb_sm_bound {f : Nat → Nat} {c n : Nat} (h : ∀ k, k < n → f k ≤ c) : fb_sm f n ≤ n * c := by
  rw [← fb_sm_const c n]
  exact fb_sm_le h
theorem vi_mono {x : Int32} {n m : Nat} (h : vp_in x n) (hm : n ≤ m) : vp_in x m := fun q => h (q.imp id (fun q => Nat.le_trans hm q))
theorem vi_cl {x : Int32} {n : Nat} (h : vp_in x n) : x.toNatClampNeg < n := Nat.not_le.mp fun q => h (Or.inr q)
theorem vi_eq {x : Int32} {n : Nat} (h : vp_in x n) (hn : n < 2 ^ 31) : x = nI x.toNatClampNeg := by
  obtain ⟨j, hj, rfl⟩ := vp_in_of h hn
  rw [nI_clamp (by omega)]
theorem zs_kk (S : ZS) (k i : Nat) (v : Int32) : zst S k i v k = upd (S k) i v := if_pos rfl
theorem zs_at (S : ZS) (k i : Nat) (v : Int32) : zst S k i v k i = v := by rw [zs_kk]; exact pk_us
theorem zs_ne {k k' : Nat} (S : ZS) (i : Nat) (v : Int32) (h : k' ≠ k) : zst S k i v k' = S k' := if_neg h
theorem zs_ni {i j : Nat} (S : ZS) (k : Nat) (v : Int32) (h : j ≠ i) : zst S k i v k j = S k j := by rw [zs_kk]; exact pk_un h
theorem zr_kk (S : ZS) (k : Nat) (f : ZR) : zrp S k f k = f := if_pos rfl
theorem zr_ne {k k' : Nat} (S : ZS) (f : ZR) (h : k' ≠ k) : zrp S k f k' = S k' := if_neg h
/-- Arrays.fill -/
theorem fill_sp (n : Nat) (hn : n < 2 ^ 31) (v : Int32) (f : ZR) (Q : ZR → Prop) (hQ : Q (fun j => if j < n then v else f j)) : g_J7_fill_53178 n v f Q := by
  unfold g_J7_fill_53178
  intro x3 hx3
  refine fx_all (fun a => ∃ i : Nat, i ≤ n ∧ a = (nI i, nI n, fun j => if j < i then v else f j)) (fun a => n - a.1.toNatClampNeg) ?_ _ ⟨0, Nat.zero_le _, by rw [hx3, nI_0]; simp⟩
  rintro X a ⟨i, hi, rfl⟩ hX
  unfold F_J7_fill_53178_5
  simp only []
  have e := nI_clamp (n := i) (by omega)
  refine ⟨fun h => ?_, fun h => ⟨vp_in_nI ?_ hn, ?_⟩⟩
  · have : n ≤ i := (nI_leI (by omega) (by omega)).mp h
    have : i = n := by omega
    subst this
    exact hQ
  · have := mt (nI_leI (a := n) (b := i) (by omega) (by omega)).mpr h
    omega
  · intro f2 hf2 y hy
    have hlt : i < n := by
      have := mt (nI_leI (a := n) (b := i) (by omega) (by omega)).mpr h
      omega
    rw [hf2, hy, e]
    refine hX _ ⟨i + 1, hlt, ?_⟩ ?_
    · rw [nI_1]
      refine congrArg _ (congrArg _ ?_)
      funext j
      unfold upd
      by_cases h1 : j = i
      · simp [h1]
      · have : (j < i + 1) = (j < i) := by apply propext; omega
        simp [h1, this]
    · simp only [nI_1, e]
      rw [nI_clamp (by omega)]
      omega
