/-! my own layer over the kit: object states as one function, contracts with a continuation, calls with a world cut out -/
def zrp (S : Nat → Nat → Int32) (k : Nat) (f : Nat → Int32) : Nat → Nat → Int32 := fun a => if a = k then f else S a
abbrev zst (S : Nat → Nat → Int32) (k i : Nat) (v : Int32) : Nat → Nat → Int32 := zrp S k (upd (S k) i v)
/-- a value that a boolean may be -/
def isB (v : Int32) : Prop := v = 0 ∨ v = 1
theorem isB_0 : isB 0 := Or.inl rfl
theorem isB_1 : isB 1 := Or.inr rfl
theorem isB.nar {v : Int32} (h : isB v) : narrow .boolean (.int v) = .int v := by rcases h with rfl | rfl <;> rfl
theorem isB.fit {v : Int32} (h : isB v) : fits .boolean (.int v) = true := by rcases h with rfl | rfl <;> rfl
/-- a loop's rounds -/
def fx {α : Type} (F : (α → Prop) → α → Prop) : Nat → α → Prop
  | 0, _ => False
  | n + 1, a => F (fx F n) a
theorem fx_all {α : Type} {F : (α → Prop) → α → Prop} (I : α → Prop) (μ : α → Nat) (h : ∀ (X : α → Prop) a, I a → (∀ b, I b → μ b < μ a → X b) → F X a) : ∀ a, I a → ∃ n, fx F n a := by
  have key : ∀ n a, I a → μ a < n → fx F n a := by
    intro n
    induction n with
    | zero => intro a _ h; exact absurd h (Nat.not_lt_zero _)
    | succ n ih => intro a ha hn; exact h (fx F n) a ha (fun b hb hlt => ih b hb (by omega))
  exact fun a ha => ⟨μ a + 1, key _ a ha (by omega)⟩
abbrev ztys (cI cZ cN : ClassId) : List (ClassId × FieldType) := [(cI, .int), (cZ, .boolean), (cN, .object "FlowConstants$Now")]
abbrev ZG : Type := va_G × ClassId × ClassId × ClassId
abbrev zK (G : ZG) (U : State) : Prop := va_K G.1 classes (ztys G.2.1 G.2.2.1 G.2.2.2) U
def zPc (G : ZG) (av : List Value) (w0 : va_W) (sz : Nat) : Array Value → State → Prop := va_Pc av (fun U => U.heap.size = sz ∧ va_P G.1 classes w0 U.heap ∧ zK G U ∧ va_D (fun _ => True) w0)
def zB (G : ZG) (A : Nat → Prop) {S : Type} (w1 : S → va_W) : S → State → Prop := fun u t => va_P G.1 classes (w1 u) t.heap ∧ zK G t ∧ va_D A (w1 u)
/-- the contract of a method that answers an int (a boolean) -/
def Ki (l : Launch) (G : ZG) (y : MethodName) (b : ByteArray) (n : Nat) (ty : FieldType) (rm : Room) (av : List Value) (w0 : va_W) {S : Type} (w1 : S → va_W) (post : Int32 → S → Prop) : Prop :=
  ∀ sz, Met l y (wc y b n (some ty)) rm (zPc G av w0 sz) (va_Qi post (zB G (va_A w0 sz) w1) (va_A w0 sz)) 0 0 (va_A w0 sz)
def Kv (l : Launch) (G : ZG) (y : MethodName) (b : ByteArray) (n : Nat) (rm : Room) (av : List Value) (w0 : va_W) {S : Type} (w1 : S → va_W) (post : S → Prop) : Prop :=
  ∀ sz, Met l y (wc y b n none) rm (zPc G av w0 sz) (va_Qv post (zB G (va_A w0 sz) w1) (va_A w0 sz)) 0 0 (va_A w0 sz)
/-- what stands in a method's body -/
def zC (p : Program) (s : State) (m : MethodId) (args : Array Value) (c : Code) (b : ByteArray) (n : Nat) (G : ZG) (A : Nat → Prop) (own : String) : Prop :=
  p.tables.exec = Jvm.exec ∧ c.code = b ∧ c.maxLocals = n ∧ s.vm.findClass own = some m.cls ∧ (∀ w ∈ lw_gt, w.before args s = true) ∧ zK G s ∧ (∀ q, s.heap.size ≤ q → A q)
def zRet (p : Program) (l : Launch) (e : Env) (R : Room) (s : State) (m : MethodId) (args : Array Value) (below : List Frame) (meth : Method) (c : Code) (QQ : State → Prop) (b : ByteArray) (ty : FieldType) (G : ZG) (A : Nat → Prop) {S : Type} (w1 : S → va_W) (post : Int32 → S → Prop) : Prop :=
  ∀ (H : Heap) (locs : List Loc) (v : Int32) (u : S) (pc : Nat) (ls : Array Slot), post v u → narrow ty (.int v) = .int v → va_P G.1 classes (w1 u) H → va_D A (w1 u) → va_S A s.heap H locs → decode b pc = .ok (.ireturn, 1) → W p l e R s m args below meth c H locs 0 0 QQ (F0 m pc ls [.int v])
def zRev (p : Program) (l : Launch) (e : Env) (R : Room) (s : State) (m : MethodId) (args : Array Value) (below : List Frame) (meth : Method) (c : Code) (QQ : State → Prop) (b : ByteArray) (G : ZG) (A : Nat → Prop) {S : Type} (w1 : S → va_W) (post : S → Prop) : Prop :=
  ∀ (H : Heap) (locs : List Loc) (u : S) (pc : Nat) (ls : Array Slot), post u → va_P G.1 classes (w1 u) H → va_D A (w1 u) → va_S A s.heap H locs → decode b pc = .ok (.return_, 1) → W p l e R s m args below meth c H locs 0 0 QQ (F0 m pc ls [])
theorem Ki.of {l : Launch} {G : ZG} {y : MethodName} {b : ByteArray} {n : Nat} {ty : FieldType} {rm : Room} {av : List Value} {w0 : va_W} {S : Type} {w1 : S → va_W} {post : Int32 → S → Prop} (hy : plainName y.cls = true) (hn : (lg_sl av).length ≤ n)
    (body : ∀ (p : Program) (e : Env) (s : State) (m : MethodId) (args : Array Value) (below : List Frame) (meth : Method) (c : Code) (A : Nat → Prop) (QQ : State → Prop) (ls : Array Slot), zC p s m args c b n G A y.cls → zRet p l e rm s m args below meth c QQ b ty G A w1 post → lv_has ls n (lv_args 0 av) → va_P G.1 classes w0 s.heap → va_D A w0 → va_S A s.heap s.heap [] →
      W p l e rm s m args below meth c s.heap [] 0 0 QQ (F0 m 0 ls [])) : Ki l G y b n ty rm av w0 w1 post := by
  intro sz
  refine Met.ofW (cc := b) (maxL := n) (ret := some ty) hy rfl ?_
  intro p e s m args below meth c s₁ B hml hv
  obtain ⟨rfl, hsz, hP, hK, hD0⟩ := hv
  have hts := atoms_spec (ws := wc y b n (some ty)) B.pre
  have hown : s.vm.findClass y.cls = some m.cls := findClass_of_methodNamed B.named
  have hlocks := B.notSynchronized
  have hr := B.returns
  subst hsz
  have hD := hD0.self (sz := s.heap.size)
  generalize hAe : va_A w0 s.heap.size = A at hD ⊢
  have hA : ∀ q : Nat, s.heap.size ≤ q → A q := fun q h => by rw [← hAe]; exact Or.inr h
  have hl := lv_entry av (n := n) hn
  rw [lg_entry_eq]
  generalize (lg_sl av ++ List.replicate (n - (lg_sl av).length) Slot.unset).toArray = ls at hl ⊢
  refine body p e s m _ below meth c A _ ls ⟨B.exec, B.bytes, hml, hown, fun w h => hts w (List.mem_cons_of_mem _ h), hK, hA⟩ ?_ hl hP hD va_S.rf
  intro H locs v u pc ls hp hnar hP hD hS hdg
  exact W.zret (v := v) B.exec B.bytes hr hnar (fun t ht hW => ⟨⟨v, u, rfl, hp, by rw [ht]; exact hP, va_K.moved hW.alike hK, hD⟩, hS.F ht⟩) hS.2.2 hdg
theorem Kv.of {l : Launch} {G : ZG} {y : MethodName} {b : ByteArray} {n : Nat} {rm : Room} {av : List Value} {w0 : va_W} {S : Type} {w1 : S → va_W} {post : S → Prop} (hy : plainName y.cls = true) (hn : (lg_sl av).length ≤ n)
    (body : ∀ (p : Program) (e : Env) (s : State) (m : MethodId) (args : Array Value) (below : List Frame) (meth : Method) (c : Code) (A : Nat → Prop) (QQ : State → Prop) (ls : Array Slot), zC p s m args c b n G A y.cls → zRev p l e rm s m args below meth c QQ b G A w1 post → lv_has ls n (lv_args 0 av) → va_P G.1 classes w0 s.heap → va_D A w0 → va_S A s.heap s.heap [] →
      W p l e rm s m args below meth c s.heap [] 0 0 QQ (F0 m 0 ls [])) : Kv l G y b n rm av w0 w1 post := by
  intro sz
  refine Met.ofW (cc := b) (maxL := n) (ret := none) hy rfl ?_
  intro p e s m args below meth c s₁ B hml hv
  obtain ⟨rfl, hsz, hP, hK, hD0⟩ := hv
  have hts := atoms_spec (ws := wc y b n none) B.pre
  have hown : s.vm.findClass y.cls = some m.cls := findClass_of_methodNamed B.named
  have hlocks := B.notSynchronized
  have hr := B.returns
  subst hsz
  have hD := hD0.self (sz := s.heap.size)
  generalize hAe : va_A w0 s.heap.size = A at hD ⊢
  have hA : ∀ q : Nat, s.heap.size ≤ q → A q := fun q h => by rw [← hAe]; exact Or.inr h
  have hl := lv_entry av (n := n) hn
  rw [lg_entry_eq]
  generalize (lg_sl av ++ List.replicate (n - (lg_sl av).length) Slot.unset).toArray = ls at hl ⊢
  refine body p e s m _ below meth c A _ ls ⟨B.exec, B.bytes, hml, hown, fun w h => hts w (List.mem_cons_of_mem _ h), hK, hA⟩ ?_ hl hP hD va_S.rf
  intro H locs u pc ls hp hP hD hS hdg
  exact W.vret B.exec B.bytes hr (fun t ht hW => ⟨⟨u, rfl, hp, by rw [ht]; exact hP, va_K.moved hW.alike hK, hD⟩, hS.F ht⟩) hS.2.2 hdg
/-- a callee's world w0 cut out of the caller's: what comes back (w1) beside the rest is w2 -/
def zJ (G : ZG) (A : Nat → Prop) (w0 : va_W) {S : Type} (w1 w2 : S → va_W) (H : Heap) : Prop :=
  va_P G.1 classes w0 H ∧ va_D (fun _ => True) w0 ∧ (∀ q, va_A w0 H.size q → A q) ∧ ∀ (u : S) (H1 : Heap), (∀ q : Nat, q < H.size → ¬ va_A w0 H.size q → H1[q]? = H[q]?) → va_P G.1 classes (w1 u) H1 → va_D (va_A w0 H.size) (w1 u) → va_P G.1 classes (w2 u) H1 ∧ va_D A (w2 u)
theorem zJ.all {G : ZG} {A : Nat → Prop} {ws : va_W} {S : Type} {w1 : S → va_W} {H0 H : Heap} {locs : List Loc} (hP : va_P G.1 classes ws H) (hD : va_D A ws) (hS : va_S A H0 H locs) (hA : ∀ q, H0.size ≤ q → A q) : zJ G A ws w1 w1 H := by
  have hF : ∀ q, va_A ws H.size q → A q := fun q h => h.elim (fun ⟨k, e, h⟩ => hD.2 k _ h) (fun h => hA q (Nat.le_trans hS.1 h))
  exact ⟨hP, hD.weaken (fun _ _ _ _ => trivial), hF, fun u H1 _ hP1 hD1 => ⟨hP1, hD1.weaken (fun _ q _ h => hF q.1 h)⟩⟩
theorem zJ.none {G : ZG} {A : Nat → Prop} {ws : va_W} {S : Type} {H0 H : Heap} {locs : List Loc} (hP : va_P G.1 classes ws H) (hD : va_D A ws) (hS : va_S A H0 H locs) (hA : ∀ q, H0.size ≤ q → A q) : zJ G A [] (fun _ : S => []) (fun _ => ws) H := by
  refine ⟨fun k q h => by simp at h, ⟨fun i j p q h => by simp at h, fun k q h => by simp at h⟩, fun q h => h.elim (fun ⟨k, e, h⟩ => by simp at h) (fun h => hA q (Nat.le_trans hS.1 h)), fun u H1 hk _ _ => ⟨hP.kept (fun k q hq => ?_), hD⟩⟩
  have hl := (hP k q hq).lt
  exact hk q.1 hl (fun h => h.elim (fun ⟨k, e, h⟩ => by simp at h) (fun h => by omega))
theorem zJ.sub {G : ZG} {A : Nat → Prop} {ws w0 wr : va_W} {S : Type} {w1 w2 : S → va_W} {H0 H : Heap} {locs : List Loc} (hP : va_P G.1 classes ws H) (hD : va_D A ws) (hS : va_S A H0 H locs) (hA : ∀ q, H0.size ≤ q → A q) (isC isR pm : List Nat) (hC : isC.map (fun i => ws[i]?) = w0.map some) (hR : isR.map (fun i => ws[i]?) = wr.map some) (hn : (va_nd isC && va_nd isR && isR.all (fun i => !isC.contains i) && va_nd pm) = true) (hp : ∀ u, pm.map (fun i => (wr ++ w1 u)[i]?) = (w2 u).map some) : zJ G A w0 w1 w2 H := by
  simp only [Bool.and_eq_true] at hn
  obtain ⟨⟨⟨n1, n2⟩, n3⟩, n4⟩ := hn
  have hF := va_free (wc := w0) hD hS hA isC hC
  refine ⟨fun k q hk => ?_, (hD.sub isC n1 hC).weaken (fun _ _ _ _ => trivial), hF, fun u H1 hk hP1 hD1 => ?_⟩
  · have h1 : (isC.map (fun i => ws[i]?))[k]? = some (some q) := by rw [hC, List.getElem?_map, hk]; rfl
    rw [List.getElem?_map] at h1
    cases hi : isC[k]? with
    | none => rw [hi] at h1; cases h1
    | some i => rw [hi] at h1; exact hP i q (Option.some.inj h1)
  · obtain ⟨a, b⟩ := va_join (wr := wr) (w1 := w1 u) hP hD isC isR hC hR n2 (fun i hi hc => by
      have := List.all_eq_true.mp n3 i hi
      simp at this
      exact this hc) hk hF hP1 hD1
    refine ⟨fun k q hk => ?_, b.sub pm n4 (hp u)⟩
    have h1 : (pm.map (fun i => (wr ++ w1 u)[i]?))[k]? = some (some q) := by rw [hp u, List.getElem?_map, hk]; rfl
    rw [List.getElem?_map] at h1
    cases hi : pm[k]? with
    | none => rw [hi] at h1; cases h1
    | some i => rw [hi] at h1; exact a i q (Option.some.inj h1)
/-- what the tables say of a method -/
def zV (y : MethodName) (C : String) (b : ByteArray) (n : Nat) (r : Option FieldType) (k : Nat) : Prop := Cond.instanceMethod y ∈ lw_gt ∧ Cond.selects C y y ∈ lw_gt ∧ Cond.initialized C ∈ lw_gt ∧ Cond.code y b n r ∈ lw_gt ∧ (y.cls = C ∧ y.cls ≠ "java/lang/invoke/MethodHandle" ∧ y.cls ≠ "java/lang/invoke/VarHandle" ∧ (parseMethodDescriptor y.desc).map (fun d => d.parameters.length) = some k)
def zSt (y : MethodName) (b : ByteArray) (n : Nat) (r : Option FieldType) (k : Nat) : Prop := Cond.static y ∈ lw_gt ∧ Cond.initialized y.cls ∈ lw_gt ∧ Cond.code y b n r ∈ lw_gt ∧ (y.cls ≠ "java/lang/invoke/MethodHandle" ∧ y.cls ≠ "java/lang/invoke/VarHandle" ∧ (parseMethodDescriptor y.desc).map (fun d => d.parameters.length) = some k)
theorem zblind {G : ZG} {av : List Value} {w0 : va_W} {sz : Nat} : FrameBlind (zPc G av w0 sz) := fun a U g mk q => by
  obtain ⟨q0, q1, qP, qK, qD⟩ := q
  exact ⟨q0, q1, qP, va_K.moved (u := U) (U := U.calling g mk a) (Vm.Alike.refl U.vm) qK, qD⟩
section ZCALL
variable {p : Program} {l : Launch} {e : Env} {R : Room} {s : State} {m : MethodId} {args : Array Value} {below : List Frame} {meth : Method} {c : Code} {H : Heap} {locs : List Loc} {Q : State → Prop}
variable {cc : ByteArray} {nL : Nat} {G : ZG} {A : Nat → Prop} {own C : String} {y : MethodName} {b : ByteArray} {n k index pc : Nat} {ty : FieldType} {rm : Room} {a : Nat} {As rest st0 : List Value} {w0 : va_W} {S : Type} {w1 w2 : S → va_W} {ls : Array Slot}
theorem zcVi {post : Int32 → S → Prop} (Cx : zC p s m args c cc nL G A own) (hM : Ki l G y b n ty rm (.ref a :: As) w0 w1 post) (hV : zV y C b n (some ty) k) (hL : Cond.methodLink own index y ∈ lw_gt) (hr : (rm.cells = 0 ∧ rm.slots = 0) ∧ rm.frames + 1 ≤ R.frames ∧ 8 + (n + 11) + rm.locals ≤ R.locals) (J : zJ G A w0 w1 w2 H) (hS : va_S A s.heap H locs) (ci : Nat) {q : vw_C} {fs : List Value} (hc : classes[ci]? = some q) (hq : q.1 = C) (he : w0[0]? = some (a, .inr (ci, fs))) (hn : As.length = k) (hsz : ls.size = nL) (hst : st0 = As.reverse ++ .ref a :: rest) (hroom : (rest.map fun v => v.category).sum ≤ 8) (hdg : decode cc pc = .ok (.invokevirtual index, 3))
    (kk : ∀ (r : Int32) (u : S) (H1 : Heap) (locs1 : List Loc), post r u → va_P G.1 classes (w2 u) H1 → va_D A (w2 u) → va_S A s.heap H1 locs1 → W p l e R s m args below meth c H1 locs1 0 0 Q (F0 m (pc + 3) ls (.int r :: rest))) : W p l e R s m args below meth c H locs 0 0 Q (F0 m pc ls st0) := by
  obtain ⟨hx, hb, hml, hown, hT, hK, hA⟩ := Cx
  obtain ⟨v1, v2, v3, v4, v5⟩ := hV
  obtain ⟨hPc, hDc, hF, hj⟩ := J
  subst hst
  refine va_calli (va_runV (As := As) (rest := rest) ⟨hx, hb, hml, hown, hT⟩ (hM H.size) (cwV k hT (gdV hL v1 v2 v3 v4) rfl hr.1.1 hr.1.2 v5 hr.2) ⟨zblind, ?_, fun U hU hW => ⟨rfl, by rw [hU], by rw [hU]; exact hPc, va_K.moved hW.alike hK, hDc⟩⟩ rfl hn hsz rfl (lv_room hroom) hdg ⟨Nat.zero_le _, Nat.zero_le _⟩) hS (fun q _ h => hF q h) hF (fun r u t H1 locs1 ht hvm hw hB hz1 hk1 hS1 => ?_)
  · obtain ⟨cell, g1, g2, g3⟩ := va_recv hK hPc hc he
    exact ⟨cell, g1, g2, by rw [← hq]; exact g3⟩
  · obtain ⟨hP1, hK1, hD1⟩ := hB
    rw [ht] at hP1
    obtain ⟨h1, h2⟩ := hj u H1 hk1 hP1 hD1
    exact kk r u H1 locs1 hw h1 h2 hS1
theorem zcVv {post : S → Prop} (Cx : zC p s m args c cc nL G A own) (hM : Kv l G y b n rm (.ref a :: As) w0 w1 post) (hV : zV y C b n none k) (hL : Cond.methodLink own index y ∈ lw_gt) (hr : (rm.cells = 0 ∧ rm.slots = 0) ∧ rm.frames + 1 ≤ R.frames ∧ 8 + (n + 11) + rm.locals ≤ R.locals) (J : zJ G A w0 w1 w2 H) (hS : va_S A s.heap H locs) (ci : Nat) {q : vw_C} {fs : List Value} (hc : classes[ci]? = some q) (hq : q.1 = C) (he : w0[0]? = some (a, .inr (ci, fs))) (hn : As.length = k) (hsz : ls.size = nL) (hst : st0 = As.reverse ++ .ref a :: rest) (hroom : (rest.map fun v => v.category).sum ≤ 8) (hdg : decode cc pc = .ok (.invokevirtual index, 3))
    (kk : ∀ (u : S) (H1 : Heap) (locs1 : List Loc), post u → va_P G.1 classes (w2 u) H1 → va_D A (w2 u) → va_S A s.heap H1 locs1 → W p l e R s m args below meth c H1 locs1 0 0 Q (F0 m (pc + 3) ls rest)) : W p l e R s m args below meth c H locs 0 0 Q (F0 m pc ls st0) := by
  obtain ⟨hx, hb, hml, hown, hT, hK, hA⟩ := Cx
  obtain ⟨v1, v2, v3, v4, v5⟩ := hV
  obtain ⟨hPc, hDc, hF, hj⟩ := J
  subst hst
  refine va_callv (va_runV (As := As) (rest := rest) ⟨hx, hb, hml, hown, hT⟩ (hM H.size) (cwV k hT (gdV hL v1 v2 v3 v4) rfl hr.1.1 hr.1.2 v5 hr.2) ⟨zblind, ?_, fun U hU hW => ⟨rfl, by rw [hU], by rw [hU]; exact hPc, va_K.moved hW.alike hK, hDc⟩⟩ rfl hn hsz rfl (lv_room hroom) hdg ⟨Nat.zero_le _, Nat.zero_le _⟩) hS (fun q _ h => hF q h) hF (fun u t H1 locs1 ht hvm hw hB hz1 hk1 hS1 => ?_)
  · obtain ⟨cell, g1, g2, g3⟩ := va_recv hK hPc hc he
    exact ⟨cell, g1, g2, by rw [← hq]; exact g3⟩
  · obtain ⟨hP1, hK1, hD1⟩ := hB
    rw [ht] at hP1
    obtain ⟨h1, h2⟩ := hj u H1 hk1 hP1 hD1
    exact kk u H1 locs1 hw h1 h2 hS1
theorem zcSi {post : Int32 → S → Prop} (Cx : zC p s m args c cc nL G A own) (hM : Ki l G y b n ty rm As w0 w1 post) (hV : zSt y b n (some ty) k) (hL : Cond.methodLink own index y ∈ lw_gt) (hr : (rm.cells = 0 ∧ rm.slots = 0) ∧ rm.frames + 1 ≤ R.frames ∧ 8 + (n + 11) + rm.locals ≤ R.locals) (J : zJ G A w0 w1 w2 H) (hS : va_S A s.heap H locs) (hn : As.length = k) (hsz : ls.size = nL) (hst : st0 = As.reverse ++ rest) (hroom : (rest.map fun v => v.category).sum ≤ 8) (hdg : decode cc pc = .ok (.invokestatic index, 3))
    (kk : ∀ (r : Int32) (u : S) (H1 : Heap) (locs1 : List Loc), post r u → va_P G.1 classes (w2 u) H1 → va_D A (w2 u) → va_S A s.heap H1 locs1 → W p l e R s m args below meth c H1 locs1 0 0 Q (F0 m (pc + 3) ls (.int r :: rest))) : W p l e R s m args below meth c H locs 0 0 Q (F0 m pc ls st0) := by
  obtain ⟨hx, hb, hml, hown, hT, hK, hA⟩ := Cx
  obtain ⟨v1, v3, v4, v5⟩ := hV
  obtain ⟨hPc, hDc, hF, hj⟩ := J
  subst hst
  refine va_calli (va_runS (As := As) (rest := rest) ⟨hx, hb, hml, hown, hT⟩ (hM H.size) (va_cwS k hT (gdS hL v1 v3 v4) rfl hr.1.1 hr.1.2 v5 hr.2) ⟨zblind, fun U hU hW => ⟨rfl, by rw [hU], by rw [hU]; exact hPc, va_K.moved hW.alike hK, hDc⟩⟩ rfl hn hsz rfl (lv_room hroom) hdg ⟨Nat.zero_le _, Nat.zero_le _⟩) hS (fun q _ h => hF q h) hF (fun r u t H1 locs1 ht hvm hw hB hz1 hk1 hS1 => ?_)
  obtain ⟨hP1, hK1, hD1⟩ := hB
  rw [ht] at hP1
  obtain ⟨h1, h2⟩ := hj u H1 hk1 hP1 hD1
  exact kk r u H1 locs1 hw h1 h2 hS1
theorem zcSv {post : S → Prop} (Cx : zC p s m args c cc nL G A own) (hM : Kv l G y b n rm As w0 w1 post) (hV : zSt y b n none k) (hL : Cond.methodLink own index y ∈ lw_gt) (hr : (rm.cells = 0 ∧ rm.slots = 0) ∧ rm.frames + 1 ≤ R.frames ∧ 8 + (n + 11) + rm.locals ≤ R.locals) (J : zJ G A w0 w1 w2 H) (hS : va_S A s.heap H locs) (hn : As.length = k) (hsz : ls.size = nL) (hst : st0 = As.reverse ++ rest) (hroom : (rest.map fun v => v.category).sum ≤ 8) (hdg : decode cc pc = .ok (.invokestatic index, 3))
    (kk : ∀ (u : S) (H1 : Heap) (locs1 : List Loc), post u → va_P G.1 classes (w2 u) H1 → va_D A (w2 u) → va_S A s.heap H1 locs1 → W p l e R s m args below meth c H1 locs1 0 0 Q (F0 m (pc + 3) ls rest)) : W p l e R s m args below meth c H locs 0 0 Q (F0 m pc ls st0) := by
  obtain ⟨hx, hb, hml, hown, hT, hK, hA⟩ := Cx
  obtain ⟨v1, v3, v4, v5⟩ := hV
  obtain ⟨hPc, hDc, hF, hj⟩ := J
  subst hst
  refine va_callv (va_runS (As := As) (rest := rest) ⟨hx, hb, hml, hown, hT⟩ (hM H.size) (va_cwS k hT (gdS hL v1 v3 v4) rfl hr.1.1 hr.1.2 v5 hr.2) ⟨zblind, fun U hU hW => ⟨rfl, by rw [hU], by rw [hU]; exact hPc, va_K.moved hW.alike hK, hDc⟩⟩ rfl hn hsz rfl (lv_room hroom) hdg ⟨Nat.zero_le _, Nat.zero_le _⟩) hS (fun q _ h => hF q h) hF (fun u t H1 locs1 ht hvm hw hB hz1 hk1 hS1 => ?_)
  obtain ⟨hP1, hK1, hD1⟩ := hB
  rw [ht] at hP1
  obtain ⟨h1, h2⟩ := hj u H1 hk1 hP1 hD1
  exact kk u H1 locs1 hw h1 h2 hS1
end ZCALL
