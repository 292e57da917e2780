theorem rr_zero : RR (fun _ _ => 0) (fun _ _ => 0) (fun _ _ => 0) (fun _ _ => 0) (fun _ _ => 0) (fun _ _ => 0) (fun _ _ => 0) (fun _ _ => 0) (zst (fun _ _ => 0) 0 0 2) (fun _ _ => 0) (fun _ _ => 0) (fun _ _ => 0) (fun _ _ => 0) := by
  have ep : pr (fun _ _ => 0) = fun _ _ => 0 := by
    funext k i
    unfold pr
    by_cases q : 2 ≤ k ∧ k ≤ 16
    · rw [if_pos q]
    · rw [if_neg q]
  have ff : ∀ pl : Prop, FF (fun _ _ => 0) 0 0 pl (fun _ _ => 0) := by
    intro pl
    refine ⟨⟨fun _ _ => Or.inl rfl, fun _ _ => Or.inl rfl, fun _ _ => Or.inl rfl⟩, ⟨⟨fun h => absurd h (Nat.not_lt_zero 0), fun b t hb => absurd hb (Nat.not_lt_zero b), fun n hn => absurd hn (Nat.not_lt_zero n)⟩, fun s v lv h => ⟨fun n hn => absurd hn (Nat.not_lt_zero n), fun b hb => absurd hb (Nat.not_lt_zero b)⟩⟩, fun b k hb => absurd hb (Nat.not_lt_zero b), fun _ _ _ => rfl⟩
  refine RR_of (nN := 0) (nB := 0) (len := 0) (h := 0) _ _ ?_
  unfold RC
  rw [ep]
  refine ⟨⟨⟨⟨rfl, rfl, by omega, by omega⟩, fun n hn => absurd hn (Nat.not_lt_zero n), fun b hb => absurd hb (Nat.not_lt_zero b), ⟨fun b hb => ?_, rfl, rfl, fun b hb => absurd hb (Nat.not_lt_zero b), fun b hb => ?_, fun n b hn => absurd hn (Nat.not_lt_zero n)⟩, fun n hn => absurd hn (Nat.not_lt_zero n), fun n hn => absurd hn (Nat.not_lt_zero n), fun n i j hn => absurd hn (Nat.not_lt_zero n)⟩, fun e he => absurd he (by omega), fun b hb => absurd hb (Nat.not_lt_zero b), fun n f k hn => absurd hn (Nat.not_lt_zero n)⟩, ⟨by omega, rfl, rfl, fun i hi => absurd hi (Nat.not_lt_zero i)⟩, ⟨⟨⟨rfl, rfl⟩, fun n hn => absurd hn (Nat.not_lt_zero n), fun b hb => absurd hb (Nat.not_lt_zero b)⟩, fun n hn => absurd hn (Nat.not_lt_zero n), fun e he => absurd he (by omega), fun n hn => absurd hn (Nat.not_lt_zero n)⟩, ⟨ff _, ff _, Or.inl rfl⟩, ⟨by omega, rfl, rfl, trivial⟩, ⟨fun i hi => ⟨Or.inl rfl, rfl⟩, fun q => absurd q (by decide), fun q => absurd q (by decide)⟩, rfl⟩
  · exact vp_in_nI (n := 0) (by omega) (by omega)
  · exact Nat.le_refl _
