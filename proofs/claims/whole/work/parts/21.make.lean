/-! making an object: new, dup, its constructor -/
section ZMK
variable {p : Program} {l : Launch} {e : Env} {R : Room} {s : State} {m : MethodId} {args : Array Value} {below : List Frame} {meth : Method} {c : Code} {H : Heap} {locs : List Loc} {cells slots : Nat} {Q : State → Prop}
variable {cc : ByteArray} {nL : Nat} {G : ZG} {A : Nat → Prop} {own C host : String} {T : u_T} {N ci idx1 idx2 pc : Nat} {y : MethodName} {b : ByteArray} {n : Nat} {rm : Room} {rest : List Value} {ws : va_W} {ls : Array Slot} {fs : List Value} {w1 : Nat → (Nat → Nat) → va_W} {mc ms : Nat}
/-- a fresh cell's method world, put back beside the rest -/
theorem z_back {H1 : Heap} {q : Nat} {e0 : va_E} {w : va_W} (hP : va_P G.1 classes (ws ++ [(q, e0)]) H) (hD : va_D A (ws ++ [(q, e0)])) (hF : ∀ x, va_A [(q, e0)] H.size x → A x) (hk : ∀ x : Nat, x < H.size → ¬ va_A [(q, e0)] H.size x → H1[x]? = H[x]?) (hP1 : va_P G.1 classes w H1) (hD1 : va_D (va_A [(q, e0)] H.size) w) : va_P G.1 classes (ws ++ w) H1 ∧ va_D A (ws ++ w) := by
  have hin : ∀ (k : Nat) (x : Nat × va_E), ws[k]? = some x → (ws ++ [(q, e0)])[k]? = some x := fun k x h => by
    rw [List.getElem?_append_left (List.getElem?_eq_some_iff.mp h).1]; exact h
  have hlast : (ws ++ [(q, e0)])[ws.length]? = some (q, e0) := by simp
  have apart : ∀ (k : Nat) (x : Nat × va_E), ws[k]? = some x → x.1 < H.size ∧ ¬ va_A [(q, e0)] H.size x.1 := fun k x h => by
    have hl := (hP k x (hin k x h)).lt
    refine ⟨hl, fun z => ?_⟩
    rcases z with ⟨j, e1, z⟩ | z
    · have hj : j < 1 := (List.getElem?_eq_some_iff.mp z).1
      rw [show j = 0 by omega] at z
      cases z
      have := hD.1 k ws.length x _ (hin k x h) hlast rfl
      have h2 := (List.getElem?_eq_some_iff.mp h).1
      omega
    · omega
  refine ⟨va_P.app (fun k x h => (hP k x (hin k x h)).kept (hk x.1 (apart k x h).1 (apart k x h).2)) hP1, va_D.app ⟨fun i j x z hi hj e => hD.1 i j x z (hin i x hi) (hin j z hj) e, fun k x h => hD.2 k x (hin k x h)⟩ (hD1.weaken (fun _ x _ h => hF x.1 h)) (fun i j x z hx hz hxz => ?_)⟩
  exact (apart i x hx).2 (by rw [hxz]; exact hD1.2 j z hz)
theorem z_freshF {q : Nat} {e0 : va_E} {H0 : Heap} (hD : va_D A (ws ++ [(q, e0)])) (hS : va_S A H0 H locs) (hA : ∀ q, H0.size ≤ q → A q) : ∀ x, va_A [(q, e0)] H.size x → A x := by
  intro x h
  rcases h with ⟨j, e1, z⟩ | z
  · have hj : j < 1 := (List.getElem?_eq_some_iff.mp z).1
    rw [show j = 0 by omega] at z
    cases z
    exact hD.2 ws.length (q, e0) (by simp)
  · exact hA x (Nat.le_trans hS.1 z)
theorem z_fresh1 {q : Nat} {e0 : va_E} (hP : va_P G.1 classes (ws ++ [(q, e0)]) H) : va_P G.1 classes [(q, e0)] H := fun k x h => by
  have hj : k < 1 := (List.getElem?_eq_some_iff.mp h).1
  rw [show k = 0 by omega] at h
  cases h
  exact hP ws.length (q, e0) (by simp)
theorem z_fresh2 {q : Nat} {e0 : va_E} : va_D (fun _ => True) [(q, e0)] := ⟨fun i j x z hi hj _ => by
  have h1 : i < 1 := (List.getElem?_eq_some_iff.mp hi).1
  have h2 : j < 1 := (List.getElem?_eq_some_iff.mp hj).1
  omega, fun _ _ _ => trivial⟩
theorem z_makeN (Cx : zC p s m args c cc nL G A own) (hin : ∀ w ∈ u_ws C T N, w ∈ lw_gt) (ty : Nat → FieldType) (hty : ∀ k, k < N → parseFieldDescriptor (T k).2.2.1 = some (ty k)) (h1 : Cond.classLink own idx1 C ∈ lw_gt) (h2 : Cond.instantiable C N ∈ lw_gt) (h3 : Cond.initialized C ∈ lw_gt) (hc : classes[ci]? = some (C, T, N)) (hfs : ∀ j, j < N → defaultValue (ty j) = vp_V fs j)
    (hM : ∀ h, Kc l G y b n rm h ci fs (w1 h) mc ms) (hnw : va_Nw (.methodLinkNest own idx2 y host) s) (h4 : Cond.instanceMethod y ∈ lw_gt) (h5 : Cond.code y b n none ∈ lw_gt) (hy : y.cls = C ∧ y.name = "<init>") (hd : y.cls ≠ "java/lang/invoke/MethodHandle" ∧ y.cls ≠ "java/lang/invoke/VarHandle" ∧ (parseMethodDescriptor y.desc).map (fun d => d.parameters.length) = some 0)
    (hr : (rm.cells = mc ∧ rm.slots = ms) ∧ rm.frames + 1 ≤ R.frames ∧ 8 + (n + 11) + rm.locals ≤ R.locals) (hroom : cells + 1 + mc ≤ R.cells ∧ slots + N + ms ≤ R.slots) (hrest : (rest.map fun v => v.category).sum ≤ 7) (hP : va_P G.1 classes ws H) (hD : va_D A ws) (hS : va_S A s.heap H locs) (hsz : ls.size = nL)
    (d1 : decode cc pc = .ok (.new idx1, 3)) (d2 : decode cc (pc + 3) = .ok (.dup, 1)) (d3 : decode cc (pc + 3 + 1) = .ok (.invokespecial idx2, 3))
    (kk : ∀ (q : Nat) (d : Nat → Nat) (H1 : Heap) (locs1 : List Loc), va_P G.1 classes (ws ++ w1 q d) H1 → va_D A (ws ++ w1 q d) → va_S A s.heap H1 locs1 → W p l e R s m args below meth c H1 locs1 (cells + 1 + mc) (slots + N + ms) Q (F0 m (pc + 3 + 1 + 3) ls (.ref q :: rest))) : W p l e R s m args below meth c H locs cells slots Q (F0 m pc ls rest) := by
  obtain ⟨hx, hb, hml, hown, hT, hK, hA⟩ := id Cx
  refine va_new (ci := ci) (fs := fs) (C := C) (T := T) (N := N) hx hb hT hin ty hty hown (hT _ h1) (hT _ h2) (hT _ h3) hK hP hD hS hA hc hfs (by omega) (by omega) d1 (fun q H hP hD hS => ?_)
  refine lv_dup hx hb d2 rfl ?_
  have hF := z_freshF hD hS hA
  refine va_callv (va_runIN (As := []) (rest := .ref q :: rest) ⟨hx, hb, hml, hown, hT⟩ (hM q H.size) ⟨va_cnB 0 hT (wc_good h5) rfl hr.1.1 hr.1.2 hnw (by rw [hy.1]; exact hT _ h3) hd hr.2, hy.2, hT _ h4⟩ ⟨zblind, fun U hU hW => ⟨rfl, by rw [hU], by rw [hU]; exact z_fresh1 hP, va_K.moved hW.alike hK, z_fresh2⟩⟩ rfl rfl hsz rfl (lv_room (by simp only [List.map_cons, List.sum_cons]; show 1 + _ ≤ 8; omega)) d3 hroom) hS (fun q _ h => hF q h) hF (fun u t H1 locs1 ht hvm hw hB hz1 hk1 hS1 => ?_)
  obtain ⟨hP1, hK1, hD1⟩ := hB
  rw [ht] at hP1
  obtain ⟨g1, g2⟩ := z_back hP hD hF hk1 hP1 hD1
  exact kk q u H1 locs1 g1 g2 hS1
end ZMK
