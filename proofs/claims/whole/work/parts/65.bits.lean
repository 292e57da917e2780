/-! bits -/
def bt (x : Int32) (i : Nat) : Bool := x.toBitVec.getLsbD i
theorem bt_or (x y : Int32) (i : Nat) : bt (x ||| y) i = (bt x i || bt y i) := by
  unfold bt
  rw [Int32.toBitVec_or, BitVec.getLsbD_or]
theorem bt_and (x y : Int32) (i : Nat) : bt (x &&& y) i = (bt x i && bt y i) := by
  unfold bt
  rw [Int32.toBitVec_and, BitVec.getLsbD_and]
theorem bt_ext {x y : Int32} (h : ∀ i, i < 32 → bt x i = bt y i) : x = y :=
  Int32.toBitVec_inj.mp (BitVec.eq_of_getLsbD_eq fun i hi => h i hi)
theorem bt_0 (i : Nat) : bt 0 i = false := by
  unfold bt
  exact BitVec.getLsbD_zero
theorem bt_pw' : ∀ j : Fin 8, ∀ i : Fin 32, bt ((1 : Int32) <<< (nI j.val &&& 31)) i.val = decide (i.val = j.val) := by decide
theorem bt_pw {j i : Nat} (hj : j < 8) (hi : i < 32) : bt ((1 : Int32) <<< (nI j &&& 31)) i = decide (i = j) := bt_pw' ⟨j, hj⟩ ⟨i, hi⟩
theorem bt_np' : ∀ j : Fin 8, ∀ i : Fin 32, bt (((1 : Int32) <<< (nI j.val &&& 31)) ^^^ (-1)) i.val = !decide (i.val = j.val) := by decide
theorem bt_np {j i : Nat} (hj : j < 8) (hi : i < 32) : bt (((1 : Int32) <<< (nI j &&& 31)) ^^^ (-1)) i = !decide (i = j) := bt_np' ⟨j, hj⟩ ⟨i, hi⟩
theorem bt_1 : ∀ i : Fin 32, bt 1 i.val = decide (i.val = 0) := by decide
theorem bt_all' : ∀ n : Fin 9, ∀ i : Fin 32, bt (((1 : Int32) <<< (nI n.val &&& 31)) - 1) i.val = decide (i.val < n.val) := by decide
theorem bt_all {n i : Nat} (hn : n ≤ 8) (hi : i < 32) : bt (((1 : Int32) <<< (nI n &&& 31)) - 1) i = decide (i < n) := bt_all' ⟨n, by omega⟩ ⟨i, hi⟩
theorem sm_j : ∀ j : Fin 8, ((nI j.val &&& 31).toBitVec.smod 32).toNat = j.val := by decide
theorem one_bt (w : Int32) : (w &&& 1 = 1) ↔ bt w 0 = true := by
  constructor
  · intro h
    have : bt (w &&& 1) 0 = true := by rw [h]; decide
    rw [bt_and] at this
    cases q : bt w 0
    · rw [q] at this
      exact absurd this (by decide)
    · rfl
  · intro h
    refine bt_ext (fun i hi => ?_)
    rw [bt_and, bt_1 ⟨i, hi⟩]
    by_cases q : i = 0
    · subst q
      rw [h]
      rfl
    · rw [decide_eq_false q, Bool.and_false]
theorem in_bt (x : Int32) {b : Nat} (hb : b < 8) : ((x >>> (nI b &&& 31)) &&& 1 = 1) ↔ bt x b = true := by
  rw [one_bt]
  unfold bt
  rw [Int32.toBitVec_shiftRight, BitVec.sshiftRight_eq', BitVec.getLsbD_sshiftRight, sm_j ⟨b, hb⟩]
  simp only [Nat.add_zero]
  rw [if_pos (by omega)]
  simp
