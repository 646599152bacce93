/-! What every method of this claim shares: the environment, a contract's start, its end, calls that keep the addresses. -/
section KB1
/-- the texts of the class's exceptions, by their places in its pool -/
def kStrs : List (Nat × String) := [(162, "no such issuer"), (168, "day out of range"), (43, "the last day is ahead of the first one"), (48, "limit out of range"), (56, "no place for another issuer"), (166, "no such name"), (86, "subject out of range"), (88, "length out of range"), (93, "the issuer can't issue"), (99, "days out of range"), (101, "today would be too late"), (164, "no such certificate"), (132, "no such place")]
abbrev xIX : String := "java/lang/IndexOutOfBoundsException"
abbrev xIA : String := "java/lang/IllegalArgumentException"
abbrev xIS : String := "java/lang/IllegalStateException"
/-- what the tables say of the exceptions' classes, beside a method's own words -/
def kEX (U : State) : Prop :=
  (∀ Y ∈ ["java/lang/RuntimeException", "java/lang/Exception", Bundle.tN], va_Nw (.declares (Bundle.initS Y)) U) ∧
  (∀ X ∈ [xIX, xIA, xIS], va_Nw (.castable X X) U) ∧ True ∧ True ∧ True ∧ va_Nw (.methodLinkNest RX2 9 yX1_init RX2) U ∧ va_Nw (.methodLinkNest RX2 18 yX0_init RX2) U
theorem kEX.warm {s U : State} (hW : s.WarmedH U.vm) (h : kEX s) : kEX U :=
  ⟨fun Y hY => va_Nw.warmD hW (h.1 Y hY), fun X hX => va_Nw.warmC hW (h.2.1 X hX), trivial, trivial, trivial, va_Nw.warmM hW h.2.2.2.2.2.1, va_Nw.warmM hW h.2.2.2.2.2.2⟩
theorem kEX.same {u U : State} (hv : U.vm = u.vm) (h : kEX u) : kEX U := by
  have ha : u.vm.Alike U.vm := by rw [hv]; exact Vm.Alike.refl u.vm
  exact ⟨fun Y hY => va_Nw.same rfl hv.symm (h.1 Y hY), fun X hX => va_Nw.same rfl hv.symm (h.2.1 X hX), trivial, trivial, trivial, va_Nw.same rfl hv.symm h.2.2.2.2.2.1, va_Nw.same rfl hv.symm h.2.2.2.2.2.2⟩
/-- what the tables say, at any state of a run: the classes, the array classes, the nest mates' private methods, the texts -/
def kE (D : va_G) (cy : ClassId × ClassId × ClassId) (U : State) : Prop :=
  va_K D vwCl [(cy.1, .int)] U ∧
  va_Nw (.methodLinkNest RX0 44 yX2_weekOf RX2) U ∧ va_Nw (.methodLinkNest RX1 64 yX2_contains RX2) U ∧ va_Nw (.methodLinkNest RX0 55 yX2_contains RX2) U ∧ va_Nw (.methodLinkNest RX0 58 yX2_namesOf RX2) U ∧
  (∀ q ∈ kStrs, ∃ a, vk_R RX2 q.1 q.2 a U) ∧ kEX U
theorem kE.warm {D : va_G} {cy : ClassId × ClassId × ClassId} {s U : State} (hW : s.WarmedH U.vm) (h : kE D cy s) : kE D cy U :=
  ⟨va_K.moved hW.alike h.1, va_Nw.warmM hW h.2.1, va_Nw.warmM hW h.2.2.1, va_Nw.warmM hW h.2.2.2.1, va_Nw.warmM hW h.2.2.2.2.1, fun q hq => (h.2.2.2.2.2.1 q hq).elim fun a ha => ⟨a, vk_R.warm hW ha⟩, kEX.warm hW h.2.2.2.2.2.2⟩
theorem kE.same {D : va_G} {cy : ClassId × ClassId × ClassId} {u U : State} (hv : U.vm = u.vm) (h : kE D cy u) : kE D cy U :=
  ⟨va_K.moved (u := u) (U := U) (by rw [hv]; exact Vm.Alike.refl u.vm) h.1, va_Nw.same rfl hv.symm h.2.1, va_Nw.same rfl hv.symm h.2.2.1, va_Nw.same rfl hv.symm h.2.2.2.1, va_Nw.same rfl hv.symm h.2.2.2.2.1, fun q hq => (h.2.2.2.2.2.1 q hq).elim fun a ha => ⟨a, vk_R.same hv ha⟩, kEX.same hv h.2.2.2.2.2.2⟩
/-- a contract's start -/
def kPc (D : va_G) (cy : ClassId × ClassId × ClassId) (av : List Value) (w : va_W) (sz : Nat) : Array Value → State → Prop :=
  va_Pc av (fun U => U.heap.size = sz ∧ va_P D vwCl w U.heap ∧ kE D cy U ∧ va_D (fun _ => True) w)
theorem kPc.blind {D : va_G} {cy : ClassId × ClassId × ClassId} {av : List Value} {w : va_W} {sz : Nat} : FrameBlind (kPc D cy av w sz) := by
  intro a U g mk q
  obtain ⟨q0, q1, qP, qK, qD⟩ := q
  exact ⟨q0, q1, qP, kE.same (u := U) (U := U.calling g mk a) rfl qK, qD⟩
/-- a contract: an int (or a boolean) is answered; no cell comes, no address changes -/
def kI (l : Launch) (D : va_G) (cy : ClassId × ClassId × ClassId) (y : MethodName) (wr : List Cond) (rm : Room) (av : List Value) (w : va_W) {S : Type} (post : Int32 → S → Prop) (wf : S → va_W) : Prop :=
  ∀ sz : Nat, Met l y wr rm (kPc D cy av w sz) (va_Qi post (fun u t => va_P D vwCl (wf u) t.heap) (va_A w sz)) 0 0 (va_A w sz)
/-- .. nothing is answered -/
def kV (l : Launch) (D : va_G) (cy : ClassId × ClassId × ClassId) (y : MethodName) (wr : List Cond) (rm : Room) (av : List Value) (w : va_W) {S : Type} (post : S → Prop) (wf : S → va_W) : Prop :=
  ∀ sz : Nat, Met l y wr rm (kPc D cy av w sz) (va_Qv post (fun u t => va_P D vwCl (wf u) t.heap) (va_A w sz)) 0 0 (va_A w sz)
theorem va_P_mem {D : va_G} {cl : List vw_C} {ws : va_W} {H : Heap} : va_P D cl ws H ↔ ∀ q ∈ ws, va_at D cl q H :=
  ⟨fun h q hq => (List.getElem?_of_mem hq).elim fun i hi => h i q hi, fun h _ q hk => h q (List.mem_of_getElem? hk)⟩
theorem va_D.alike {A : Nat → Prop} {ws ws' : va_W} (h : ws'.map (fun q => q.1) = ws.map (fun q => q.1)) (hD : va_D A ws) : va_D A ws' := by
  have key : ∀ (k : Nat) (q : Nat × va_E), ws'[k]? = some q → ∃ q0, ws[k]? = some q0 ∧ q0.1 = q.1 := by
    intro k q hk
    have h1 : (ws'.map (fun q => q.1))[k]? = some q.1 := by rw [List.getElem?_map, hk]; rfl
    rw [h, List.getElem?_map] at h1
    cases hq : ws[k]? with
    | none => rw [hq] at h1; cases h1
    | some q0 => rw [hq] at h1; exact ⟨q0, rfl, Option.some.inj h1⟩
  refine ⟨fun i j x y hi hj hxy => ?_, fun k q hk => ?_⟩
  · obtain ⟨x0, h1, h2⟩ := key i x hi
    obtain ⟨y0, h3, h4⟩ := key j y hj
    exact hD.1 i j x0 y0 h1 h3 (h2.trans (hxy.trans h4.symm))
  · obtain ⟨q0, h1, h2⟩ := key k q hk
    rw [← h2]
    exact hD.2 k q0 h1
theorem k_at_mid {X wc Y : va_W} {j : Nat} {q : Nat × va_E} (hj : wc[j]? = some q) : (X ++ (wc ++ Y))[X.length + j]? = some q := by
  have hjl : j < wc.length := (List.getElem?_eq_some_iff.mp hj).1
  rw [List.getElem?_append_right (Nat.le_add_right _ _), Nat.add_sub_cancel_left, List.getElem?_append_left hjl]
  exact hj
theorem k_D_mid {A : Nat → Prop} {X wc Y : va_W} (h : va_D A (X ++ (wc ++ Y))) : va_D A wc := by
  refine ⟨fun i j x y hi hj hxy => ?_, fun k q hk => h.2 _ q (k_at_mid hk)⟩
  have := h.1 _ _ x y (k_at_mid (X := X) (Y := Y) hi) (k_at_mid (X := X) (Y := Y) hj) hxy
  omega
theorem k_P_mid {D : va_G} {cl : List vw_C} {X wc Y : va_W} {H : Heap} (h : va_P D cl (X ++ (wc ++ Y)) H) : va_P D cl wc H := fun _ q hk => h _ q (k_at_mid hk)
theorem k_apart {A : Nat → Prop} {X wc Y : va_W} (h : va_D A (X ++ (wc ++ Y))) (x : Nat × va_E) (hx : x ∈ X ∨ x ∈ Y) (q : Nat × va_E) (hq : q ∈ wc) : x.1 ≠ q.1 := by
  intro e
  obtain ⟨j, hj⟩ := List.getElem?_of_mem hq
  have hjl : j < wc.length := (List.getElem?_eq_some_iff.mp hj).1
  have hj' := k_at_mid (X := X) (Y := Y) hj
  rcases hx with hx | hx
  · obtain ⟨i, hi⟩ := List.getElem?_of_mem hx
    have hil := (List.getElem?_eq_some_iff.mp hi).1
    have hi' : (X ++ (wc ++ Y))[i]? = some x := by rw [List.getElem?_append_left hil]; exact hi
    have := h.1 i _ x q hi' hj' e
    omega
  · obtain ⟨i, hi⟩ := List.getElem?_of_mem hx
    have hi' : (X ++ (wc ++ Y))[X.length + (wc.length + i)]? = some x := by
      rw [List.getElem?_append_right (Nat.le_add_right _ _), Nat.add_sub_cancel_left, List.getElem?_append_right (Nat.le_add_right _ _), Nat.add_sub_cancel_left]
      exact hi
    have := h.1 _ _ x q hi' hj' e
    omega
/-- behind a call that keeps the addresses: the callee's part is new, the rest is as it was -/
theorem k_upd {D : va_G} {A0 : Nat → Prop} {X wc Y w1 : va_W} {H H1 : Heap} (hP : va_P D vwCl (X ++ (wc ++ Y)) H) (hD : va_D A0 (X ++ (wc ++ Y))) (hk : ∀ q : Nat, q < H.size → ¬ va_A wc H.size q → H1[q]? = H[q]?) (hP1 : va_P D vwCl w1 H1) : va_P D vwCl (X ++ (w1 ++ Y)) H1 := by
  have hP' := va_P_mem.mp hP
  have hP1' := va_P_mem.mp hP1
  refine va_P_mem.mpr ?_
  have out : ∀ q, q ∈ X ∨ q ∈ Y → va_at D vwCl q H1 := by
    intro q hx
    have hat : va_at D vwCl q H := hP' q (by
      rcases hx with h | h
      · exact List.mem_append_left _ h
      · exact List.mem_append_right _ (List.mem_append_right _ h))
    refine hat.kept (hk q.1 hat.lt ?_)
    rintro (⟨k, e, h⟩ | h)
    · exact k_apart hD q hx (q.1, e) (List.mem_of_getElem? h) rfl
    · exact absurd hat.lt (Nat.not_lt.mpr h)
  intro q hq
  rcases List.mem_append.mp hq with h | h
  · exact out q (Or.inl h)
  · rcases List.mem_append.mp h with h | h
    · exact hP1' q h
    · exact out q (Or.inr h)
theorem k_free {A0 : Nat → Prop} {X wc Y : va_W} {H0 H : Heap} {locs : List Loc} (hD : va_D A0 (X ++ (wc ++ Y))) (hS : va_S A0 H0 H locs) (hA : ∀ q : Nat, H0.size ≤ q → A0 q) : ∀ q, va_A wc H.size q → A0 q := by
  rintro q (⟨k, e, h⟩ | h)
  · exact (k_D_mid hD).2 k (q, e) h
  · exact hA q (Nat.le_trans hS.1 h)
theorem k_same {X wc Y w1 : va_W} (h : w1.map (fun q => q.1) = wc.map (fun q => q.1)) : (X ++ (w1 ++ Y)).map (fun q => q.1) = (X ++ (wc ++ Y)).map (fun q => q.1) := by
  simp only [List.map_append, h]
/-- a truth value as an int -/
def bI (P : Prop) [Decidable P] : Int32 := if P then 1 else 0
theorem bI_t {P : Prop} [Decidable P] (h : P) : bI P = 1 := if_pos h
theorem bI_f {P : Prop} [Decidable P] (h : ¬ P) : bI P = 0 := if_neg h
theorem bI_01 (P : Prop) [Decidable P] : bI P = 0 ∨ bI P = 1 := by
  by_cases h : P
  · exact Or.inr (bI_t h)
  · exact Or.inl (bI_f h)
theorem bI_0 {P : Prop} [Decidable P] : bI P = 0 ↔ ¬ P := by
  by_cases h : P
  · rw [bI_t h]; exact ⟨fun q => absurd q (by decide), fun q => absurd h q⟩
  · rw [bI_f h]; exact ⟨fun _ => h, fun _ => rfl⟩
theorem bI_1 {P : Prop} [Decidable P] : bI P = 1 ↔ P := by
  by_cases h : P
  · rw [bI_t h]; exact ⟨fun _ => h, fun _ => rfl⟩
  · rw [bI_f h]; exact ⟨fun q => absurd q (by decide), fun q => absurd q h⟩
theorem bI_cong {P Q : Prop} [Decidable P] [Decidable Q] (h : P ↔ Q) : bI P = bI Q := by
  by_cases hq : Q
  · rw [bI_t hq, bI_t (h.mpr hq)]
  · rw [bI_f hq, bI_f (fun p => hq (h.mp p))]
theorem bI_eq {P : Prop} [Decidable P] {x : Int32} (h1 : P → x = 1) (h0 : ¬ P → x = 0) : x = bI P := by
  by_cases h : P
  · rw [bI_t h, h1 h]
  · rw [bI_f h, h0 h]
theorem k_narrow {r : Int32} (h : r = 0 ∨ r = 1) : narrow .boolean (.int r) = .int r := by
  rcases h with rfl | rfl <;> rfl
end KB1
section KB2
variable {l : Launch} {D : va_G} {cy : ClassId × ClassId × ClassId} {y : MethodName} {wr wr' : List Cond} {rm : Room} {av : List Value} {w : va_W}
set_option maxHeartbeats 4000000 in
theorem kI.of {S : Type} {post : Int32 → S → Prop} {wf : S → va_W} {cc : ByteArray} {maxL : Nat} {rt : FieldType} (hrt : rt = .int ∨ rt = .boolean) (hy : plainName y.cls = true) (hw : wr = Cond.code y cc maxL (some rt) :: wr') (hlen : (lg_sl av).length ≤ maxL)
    (body : ∀ (p : Program) (e : Env) (s : State) (m : MethodId) (args : Array Value) (below : List Frame) (meth : Method) (c : Code) (Q : State → Prop) (A : Nat → Prop) (ls : Array Slot),
      p.tables.exec = Jvm.exec → c.code = cc → c.maxLocals = maxL → s.vm.findClass y.cls = some m.cls → (∀ q ∈ wr, q.before args s = true) → kE D cy s → (∀ q : Nat, s.heap.size ≤ q → A q) → va_P D vwCl w s.heap → va_D A w → lv_has ls maxL (lv_args 0 av) →
      (∀ (H : Heap) (locs : List Loc) (pc : Nat) (ls : Array Slot) (r : Int32) (u : S), decode cc pc = .ok (.ireturn, 1) → (rt = .int ∨ r = 0 ∨ r = 1) → post r u → va_P D vwCl (wf u) H → va_S A s.heap H locs → W p l e rm s m args below meth c H locs 0 0 Q (F0 m pc ls [.int r])) →
      W p l e rm s m args below meth c s.heap [] 0 0 Q (F0 m 0 ls [])) : kI l D cy y wr rm av w post wf := by
  intro sz
  refine Met.ofW (cc := cc) (maxL := maxL) (ret := some rt) hy hw ?_
  intro p e s m args below meth c s₁ B hml hv
  obtain ⟨rfl, hsz, hP, hE, hD0⟩ := hv
  subst hsz
  have hl := lv_entry av (n := maxL) hlen
  rw [lg_entry_eq]
  have hlocks := B.notSynchronized
  refine body p e s m _ below meth c _ (va_A w s.heap.size) _ B.exec B.bytes hml (findClass_of_methodNamed B.named) (atoms_spec (ws := wr) B.pre) hE (fun q h => Or.inr h) hP hD0.self hl ?_
  intro H locs pc ls r u hd h01 hp hPu hS
  rcases hrt with rfl | rfl
  · exact W.iret (v := r) B.exec B.bytes B.returns (fun t ht hW => ⟨⟨r, u, rfl, hp, by show va_P D vwCl (wf u) t.heap; rw [ht]; exact hPu⟩, hS.F ht⟩) hS.2.2 hd
  · refine W.zret (v := r) (ty := .boolean) B.exec B.bytes B.returns (k_narrow ?_) (fun t ht hW => ⟨⟨r, u, rfl, hp, by show va_P D vwCl (wf u) t.heap; rw [ht]; exact hPu⟩, hS.F ht⟩) hS.2.2 hd
    rcases h01 with h | h
    · exact absurd h (by decide)
    · exact h
set_option maxHeartbeats 4000000 in
theorem kV.of {S : Type} {post : S → Prop} {wf : S → va_W} {cc : ByteArray} {maxL : Nat} (hy : plainName y.cls = true) (hw : wr = Cond.code y cc maxL none :: wr') (hlen : (lg_sl av).length ≤ maxL)
    (body : ∀ (p : Program) (e : Env) (s : State) (m : MethodId) (args : Array Value) (below : List Frame) (meth : Method) (c : Code) (Q : State → Prop) (A : Nat → Prop) (ls : Array Slot),
      p.tables.exec = Jvm.exec → c.code = cc → c.maxLocals = maxL → s.vm.findClass y.cls = some m.cls → (∀ q ∈ wr, q.before args s = true) → kE D cy s → (∀ q : Nat, s.heap.size ≤ q → A q) → va_P D vwCl w s.heap → va_D A w → lv_has ls maxL (lv_args 0 av) →
      (∀ (H : Heap) (locs : List Loc) (pc : Nat) (ls : Array Slot) (u : S), decode cc pc = .ok (.return_, 1) → post u → va_P D vwCl (wf u) H → va_S A s.heap H locs → W p l e rm s m args below meth c H locs 0 0 Q (F0 m pc ls [])) →
      W p l e rm s m args below meth c s.heap [] 0 0 Q (F0 m 0 ls [])) : kV l D cy y wr rm av w post wf := by
  intro sz
  refine Met.ofW (cc := cc) (maxL := maxL) (ret := none) hy hw ?_
  intro p e s m args below meth c s₁ B hml hv
  obtain ⟨rfl, hsz, hP, hE, hD0⟩ := hv
  subst hsz
  have hl := lv_entry av (n := maxL) hlen
  rw [lg_entry_eq]
  have hlocks := B.notSynchronized
  refine body p e s m _ below meth c _ (va_A w s.heap.size) _ B.exec B.bytes hml (findClass_of_methodNamed B.named) (atoms_spec (ws := wr) B.pre) hE (fun q h => Or.inr h) hP hD0.self hl ?_
  intro H locs pc ls u hd hp hPu hS
  exact W.vret B.exec B.bytes B.returns (fun t ht hW => ⟨⟨u, rfl, hp, by show va_P D vwCl (wf u) t.heap; rw [ht]; exact hPu⟩, hS.F ht⟩) hS.2.2 hd
end KB2
section KB3
variable {p : Program} {l : Launch} {e : Env} {R : Room} {s : State} {m : MethodId} {args : Array Value} {below : List Frame} {meth : Method} {c : Code} {H H0 : Heap} {locs : List Loc} {cells slots : Nat} {Q : State → Prop}
variable {cc : ByteArray} {nL : Nat} {Ts : List Cond} {own : String} {D : va_G} {cy : ClassId × ClassId × ClassId} {A0 : Nat → Prop}
variable {y : MethodName} {wr wr' : List Cond} {rm : Room} {b : Addr} {As rest st : List Value} {C host : String} {index maxL n : Nat} {bytes : ByteArray} {pc : Nat} {ls : Array Slot}
theorem k_preV {X Y wc : va_W} (hE : kE D cy s) (hP : va_P D vwCl (X ++ (wc ++ Y)) H) (hD : va_D A0 (X ++ (wc ++ Y))) {q0 ci : Nat} {fs : List Value} {q : vw_C} (hc : vwCl[ci]? = some q) (he : wc[q0]? = some (b, .inr (ci, fs))) : PreV s H q.1 b (kPc D cy (.ref b :: As) wc H.size) As :=
  ⟨kPc.blind, va_recv hE.1 (k_P_mid hP) hc he, fun U hU hW => ⟨rfl, by rw [hU], by rw [hU]; exact k_P_mid hP, kE.warm hW hE, (k_D_mid hD).weaken (fun _ _ _ _ => trivial)⟩⟩
theorem k_preS {X Y wc : va_W} (hE : kE D cy s) (hP : va_P D vwCl (X ++ (wc ++ Y)) H) (hD : va_D A0 (X ++ (wc ++ Y))) : PreS s H (kPc D cy As wc H.size) As :=
  ⟨kPc.blind, fun U hU hW => ⟨rfl, by rw [hU], by rw [hU]; exact k_P_mid hP, kE.warm hW hE, (k_D_mid hD).weaken (fun _ _ _ _ => trivial)⟩⟩
/-- a call of a method of an object, that answers an int -/
theorem kcV_i (S0 : CallFix p m c cc nL s args Ts own) (hE : kE D cy s) (hA : ∀ q : Nat, H0.size ≤ q → A0 q) {X wc Y : va_W} (hP : va_P D vwCl (X ++ (wc ++ Y)) H) (hD : va_D A0 (X ++ (wc ++ Y))) (hS : va_S A0 H0 H locs)
    {S : Type} {post : Int32 → S → Prop} {wf : S → va_W} (hM : kI l D cy y wr rm (.ref b :: As) wc post wf) (hsame : ∀ u, (wf u).map (fun q => q.1) = wc.map (fun q => q.1))
    {ret : Option FieldType} {q0 ci : Nat} {fs : List Value} {q : vw_C} (hc : vwCl[ci]? = some q) (he : wc[q0]? = some (b, .inr (ci, fs))) (hT : GoodIn Ts (wsV own index q.1 y wr)) (hw : wr = Cond.code y bytes maxL ret :: wr') (hrc : rm.cells = 0) (hrs : rm.slots = 0)
    (hd : y.cls = q.1 ∧ y.cls ≠ "java/lang/invoke/MethodHandle" ∧ y.cls ≠ "java/lang/invoke/VarHandle" ∧ (parseMethodDescriptor y.desc).map (fun d => d.parameters.length) = some n) (hR : rm.frames + 1 ≤ R.frames ∧ 8 + (maxL + 11) + rm.locals ≤ R.locals)
    (hn : As.length = n) (hsize : ls.size = nL) (hst : st = As.reverse ++ .ref b :: rest) (hW : (rest.map fun v => v.category).sum ≤ 8) (hdg : decode cc pc = .ok (.invokevirtual index, 3)) (hf : cells ≤ R.cells ∧ slots ≤ R.slots)
    (kk : ∀ (r : Int32) (u : S) (H1 : Heap) (locs1 : List Loc), post r u → va_P D vwCl (X ++ (wf u ++ Y)) H1 → va_D A0 (X ++ (wf u ++ Y)) → va_S A0 H0 H1 locs1 → W p l e R s m args below meth c H1 locs1 cells slots Q (F0 m (pc + 3) ls (.int r :: rest))) :
    W p l e R s m args below meth c H locs cells slots Q (F0 m pc ls st) := by
  refine va_calli (va_runV (As := As) (rest := rest) S0 (hM H.size) (cwV n S0.2.2.2.2 hT hw hrc hrs hd hR) (k_preV hE hP hD hc he) rfl hn hsize hst (lv_room hW) hdg hf) hS (fun q _ h => k_free hD hS hA q h) (k_free hD hS hA) ?_
  intro r u t H1 locs1 ht hvm hp hB hz hk hS1
  exact kk r u H1 locs1 hp (k_upd hP hD hk (by rw [← ht]; exact hB)) (va_D.alike (k_same (hsame u)) hD) hS1
theorem kcV_v (S0 : CallFix p m c cc nL s args Ts own) (hE : kE D cy s) (hA : ∀ q : Nat, H0.size ≤ q → A0 q) {X wc Y : va_W} (hP : va_P D vwCl (X ++ (wc ++ Y)) H) (hD : va_D A0 (X ++ (wc ++ Y))) (hS : va_S A0 H0 H locs)
    {S : Type} {post : S → Prop} {wf : S → va_W} (hM : kV l D cy y wr rm (.ref b :: As) wc post wf) (hsame : ∀ u, (wf u).map (fun q => q.1) = wc.map (fun q => q.1))
    {ret : Option FieldType} {q0 ci : Nat} {fs : List Value} {q : vw_C} (hc : vwCl[ci]? = some q) (he : wc[q0]? = some (b, .inr (ci, fs))) (hT : GoodIn Ts (wsV own index q.1 y wr)) (hw : wr = Cond.code y bytes maxL ret :: wr') (hrc : rm.cells = 0) (hrs : rm.slots = 0)
    (hd : y.cls = q.1 ∧ y.cls ≠ "java/lang/invoke/MethodHandle" ∧ y.cls ≠ "java/lang/invoke/VarHandle" ∧ (parseMethodDescriptor y.desc).map (fun d => d.parameters.length) = some n) (hR : rm.frames + 1 ≤ R.frames ∧ 8 + (maxL + 11) + rm.locals ≤ R.locals)
    (hn : As.length = n) (hsize : ls.size = nL) (hst : st = As.reverse ++ .ref b :: rest) (hW : (rest.map fun v => v.category).sum ≤ 8) (hdg : decode cc pc = .ok (.invokevirtual index, 3)) (hf : cells ≤ R.cells ∧ slots ≤ R.slots)
    (kk : ∀ (u : S) (H1 : Heap) (locs1 : List Loc), post u → va_P D vwCl (X ++ (wf u ++ Y)) H1 → va_D A0 (X ++ (wf u ++ Y)) → va_S A0 H0 H1 locs1 → W p l e R s m args below meth c H1 locs1 cells slots Q (F0 m (pc + 3) ls rest)) :
    W p l e R s m args below meth c H locs cells slots Q (F0 m pc ls st) := by
  refine va_callv (va_runV (As := As) (rest := rest) S0 (hM H.size) (cwV n S0.2.2.2.2 hT hw hrc hrs hd hR) (k_preV hE hP hD hc he) rfl hn hsize hst (lv_room hW) hdg hf) hS (fun q _ h => k_free hD hS hA q h) (k_free hD hS hA) ?_
  intro u t H1 locs1 ht hvm hp hB hz hk hS1
  exact kk u H1 locs1 hp (k_upd hP hD hk (by rw [← ht]; exact hB)) (va_D.alike (k_same (hsame u)) hD) hS1
/-- a call of a static method, that answers an int -/
theorem kcS_i (S0 : CallFix p m c cc nL s args Ts own) (hE : kE D cy s) (hA : ∀ q : Nat, H0.size ≤ q → A0 q) {X wc Y : va_W} (hP : va_P D vwCl (X ++ (wc ++ Y)) H) (hD : va_D A0 (X ++ (wc ++ Y))) (hS : va_S A0 H0 H locs)
    {S : Type} {post : Int32 → S → Prop} {wf : S → va_W} (hM : kI l D cy y wr rm As wc post wf) (hsame : ∀ u, (wf u).map (fun q => q.1) = wc.map (fun q => q.1))
    {ret : Option FieldType} (hT : GoodIn Ts (va_wsS own index y wr)) (hw : wr = Cond.code y bytes maxL ret :: wr') (hrc : rm.cells = 0) (hrs : rm.slots = 0)
    (hd : y.cls ≠ "java/lang/invoke/MethodHandle" ∧ y.cls ≠ "java/lang/invoke/VarHandle" ∧ (parseMethodDescriptor y.desc).map (fun d => d.parameters.length) = some n) (hR : rm.frames + 1 ≤ R.frames ∧ 8 + (maxL + 11) + rm.locals ≤ R.locals)
    (hn : As.length = n) (hsize : ls.size = nL) (hst : st = As.reverse ++ rest) (hW : (rest.map fun v => v.category).sum ≤ 8) (hdg : decode cc pc = .ok (.invokestatic index, 3)) (hf : cells ≤ R.cells ∧ slots ≤ R.slots)
    (kk : ∀ (r : Int32) (u : S) (H1 : Heap) (locs1 : List Loc), post r u → va_P D vwCl (X ++ (wf u ++ Y)) H1 → va_D A0 (X ++ (wf u ++ Y)) → va_S A0 H0 H1 locs1 → W p l e R s m args below meth c H1 locs1 cells slots Q (F0 m (pc + 3) ls (.int r :: rest))) :
    W p l e R s m args below meth c H locs cells slots Q (F0 m pc ls st) := by
  refine va_calli (va_runS (As := As) (rest := rest) S0 (hM H.size) (va_cwS n S0.2.2.2.2 hT hw hrc hrs hd hR) (k_preS hE hP hD) rfl hn hsize hst (lv_room hW) hdg hf) hS (fun q _ h => k_free hD hS hA q h) (k_free hD hS hA) ?_
  intro r u t H1 locs1 ht hvm hp hB hz hk hS1
  exact kk r u H1 locs1 hp (k_upd hP hD hk (by rw [← ht]; exact hB)) (va_D.alike (k_same (hsame u)) hD) hS1
/-- a call of a nest mate's private static method, that answers an int -/
theorem kcN_i (S0 : CallFix p m c cc nL s args Ts own) (hE : kE D cy s) (hA : ∀ q : Nat, H0.size ≤ q → A0 q) {X wc Y : va_W} (hP : va_P D vwCl (X ++ (wc ++ Y)) H) (hD : va_D A0 (X ++ (wc ++ Y))) (hS : va_S A0 H0 H locs)
    {S : Type} {post : Int32 → S → Prop} {wf : S → va_W} (hM : kI l D cy y wr rm As wc post wf) (hsame : ∀ u, (wf u).map (fun q => q.1) = wc.map (fun q => q.1))
    {ret : Option FieldType} (hl : va_Nw (.methodLinkNest own index y host) s) (hstat : (Cond.static y).before args s = true) (hini : (Cond.initialized y.cls).before args s = true) (hG : GoodIn Ts wr) (hw : wr = Cond.code y bytes maxL ret :: wr') (hrc : rm.cells = 0) (hrs : rm.slots = 0)
    (hd : y.cls ≠ "java/lang/invoke/MethodHandle" ∧ y.cls ≠ "java/lang/invoke/VarHandle" ∧ (parseMethodDescriptor y.desc).map (fun d => d.parameters.length) = some n) (hR : rm.frames + 1 ≤ R.frames ∧ 8 + (maxL + 11) + rm.locals ≤ R.locals)
    (hn : As.length = n) (hsize : ls.size = nL) (hst : st = As.reverse ++ rest) (hW : (rest.map fun v => v.category).sum ≤ 8) (hdg : decode cc pc = .ok (.invokestatic index, 3)) (hf : cells ≤ R.cells ∧ slots ≤ R.slots)
    (kk : ∀ (r : Int32) (u : S) (H1 : Heap) (locs1 : List Loc), post r u → va_P D vwCl (X ++ (wf u ++ Y)) H1 → va_D A0 (X ++ (wf u ++ Y)) → va_S A0 H0 H1 locs1 → W p l e R s m args below meth c H1 locs1 cells slots Q (F0 m (pc + 3) ls (.int r :: rest))) :
    W p l e R s m args below meth c H locs cells slots Q (F0 m pc ls st) := by
  refine va_calli (va_runSN (As := As) (rest := rest) S0 (hM H.size) ⟨va_cnB n S0.2.2.2.2 hG hw hrc hrs hl hini hd hR, hstat, trivial⟩ (k_preS hE hP hD) rfl hn hsize hst (lv_room hW) hdg hf) hS (fun q _ h => k_free hD hS hA q h) (k_free hD hS hA) ?_
  intro r u t H1 locs1 ht hvm hp hB hz hk hS1
  exact kk r u H1 locs1 hp (k_upd hP hD hk (by rw [← ht]; exact hB)) (va_D.alike (k_same (hsame u)) hD) hS1
end KB3
section KB4
variable {p : Program} {l : Launch} {e : Env} {R : Room} {s : State} {m : MethodId} {args : Array Value} {below : List Frame} {meth : Method} {c : Code} {H H0 : Heap} {locs : List Loc} {cells slots : Nat} {Q : State → Prop}
variable {cc : ByteArray} {pc : Nat} {ls : Array Slot} {rest : List Value} {D : va_G} {cl : List vw_C} {A : Nat → Prop} {a : Nat} {tys : List (ClassId × FieldType)} {ws : va_W}
theorem k_ild (hx : p.tables.exec = Jvm.exec) (hb : c.code = cc) (hK : va_K D cl tys s) (hP : va_P D cl ws H) (q0 t0 : Nat) {cA : ClassId} {n : Nat} {f : Nat → Int32} (ha : ws[q0]? = some (a, .inl (cA, n, .inl f))) (ht : tys[t0]? = some (cA, .int)) {j : Nat} (hj : j < n) (hn : n < 2147483648) (hdg : decode cc pc = .ok (.iaload, 1))
    (kk : W p l e R s m args below meth c H locs cells slots Q (F0 m (pc + 1) ls (.int (f j) :: rest))) : W p l e R s m args below meth c H locs cells slots Q (F0 m pc ls (.int (nI j) :: .ref a :: rest)) := by
  refine va_iald hx hb hK hP q0 t0 ha ht (vp_in_nI hj hn) hdg ?_
  rw [nI_clamp (by omega)]
  exact kk
theorem k_zld (hx : p.tables.exec = Jvm.exec) (hb : c.code = cc) (hK : va_K D cl tys s) (hP : va_P D cl ws H) (q0 t0 : Nat) {cA : ClassId} {n : Nat} {f : Nat → Int32} (ha : ws[q0]? = some (a, .inl (cA, n, .inl f))) (ht : tys[t0]? = some (cA, .boolean)) {j : Nat} (hj : j < n) (hn : n < 2147483648) (hdg : decode cc pc = .ok (.baload, 1))
    (kk : W p l e R s m args below meth c H locs cells slots Q (F0 m (pc + 1) ls (.int (f j) :: rest))) : W p l e R s m args below meth c H locs cells slots Q (F0 m pc ls (.int (nI j) :: .ref a :: rest)) := by
  refine va_zald hx hb hK hP q0 t0 ha ht (vp_in_nI hj hn) hdg ?_
  rw [nI_clamp (by omega)]
  exact kk
theorem k_ist (hx : p.tables.exec = Jvm.exec) (hb : c.code = cc) (hK : va_K D cl tys s) (hP : va_P D cl ws H) (hD : va_D A ws) (hS : va_S A H0 H locs) (q0 t0 : Nat) {cA : ClassId} {n : Nat} {f : Nat → Int32} (ha : ws[q0]? = some (a, .inl (cA, n, .inl f))) (ht : tys[t0]? = some (cA, .int)) {j : Nat} {x : Int32} (hj : j < n) (hn : n < 2147483648) (hdg : decode cc pc = .ok (.iastore, 1))
    (kk : ∀ (H1 : Heap) (locs1 : List Loc), va_P D cl (ws.set q0 (a, .inl (cA, n, .inl (upd f j x)))) H1 → va_D A (ws.set q0 (a, .inl (cA, n, .inl (upd f j x)))) → va_S A H0 H1 locs1 → W p l e R s m args below meth c H1 locs1 cells slots Q (F0 m (pc + 1) ls rest)) : W p l e R s m args below meth c H locs cells slots Q (F0 m pc ls (.int x :: .int (nI j) :: .ref a :: rest)) := by
  refine va_iast hx hb hK hP hD hS q0 t0 ha ht (vp_in_nI hj hn) hdg ?_
  rw [nI_clamp (by omega)]
  exact kk
theorem k_nar {x : Int32} (h : x = 0 ∨ x = 1) : vp_nar .boolean x = x := by
  rcases h with rfl | rfl <;> rfl
theorem k_zst (hx : p.tables.exec = Jvm.exec) (hb : c.code = cc) (hK : va_K D cl tys s) (hP : va_P D cl ws H) (hD : va_D A ws) (hS : va_S A H0 H locs) (q0 t0 : Nat) {cA : ClassId} {n : Nat} {f : Nat → Int32} (ha : ws[q0]? = some (a, .inl (cA, n, .inl f))) (ht : tys[t0]? = some (cA, .boolean)) {j : Nat} {x : Int32} (h01 : x = 0 ∨ x = 1) (hj : j < n) (hn : n < 2147483648) (hdg : decode cc pc = .ok (.bastore, 1))
    (kk : ∀ (H1 : Heap) (locs1 : List Loc), va_P D cl (ws.set q0 (a, .inl (cA, n, .inl (upd f j x)))) H1 → va_D A (ws.set q0 (a, .inl (cA, n, .inl (upd f j x)))) → va_S A H0 H1 locs1 → W p l e R s m args below meth c H1 locs1 cells slots Q (F0 m (pc + 1) ls rest)) : W p l e R s m args below meth c H locs cells slots Q (F0 m pc ls (.int x :: .int (nI j) :: .ref a :: rest)) := by
  refine va_zast hx hb hK hP hD hS q0 t0 ha ht (vp_in_nI hj hn) hdg ?_
  rw [nI_clamp (by omega), k_nar h01]
  exact kk
theorem k_ifeq (hx : p.tables.exec = Jvm.exec) (hb : c.code = cc) {P : Prop} [Decidable P] {off : Int} {tgt : Nat} (hdg : decode cc pc = .ok (.ifCond .eq off, 3)) (ht : (pc : Int) + off = (tgt : Int))
    (kt : ¬ P → W p l e R s m args below meth c H locs cells slots Q (F0 m tgt ls rest)) (kf : P → W p l e R s m args below meth c H locs cells slots Q (F0 m (pc + 3) ls rest)) : W p l e R s m args below meth c H locs cells slots Q (F0 m pc ls (.int (bI P) :: rest)) :=
  lv_if_eq hx hb hdg ht (fun h => kt (bI_0.mp h)) (fun h => kf (Decidable.byContradiction fun q => h (bI_0.mpr q)))
theorem k_ifne (hx : p.tables.exec = Jvm.exec) (hb : c.code = cc) {P : Prop} [Decidable P] {off : Int} {tgt : Nat} (hdg : decode cc pc = .ok (.ifCond .ne off, 3)) (ht : (pc : Int) + off = (tgt : Int))
    (kt : P → W p l e R s m args below meth c H locs cells slots Q (F0 m tgt ls rest)) (kf : ¬ P → W p l e R s m args below meth c H locs cells slots Q (F0 m (pc + 3) ls rest)) : W p l e R s m args below meth c H locs cells slots Q (F0 m pc ls (.int (bI P) :: rest)) :=
  lv_if_ne hx hb hdg ht (fun h => kt (Decidable.byContradiction fun q => h (bI_0.mpr q))) (fun h => kf (bI_0.mp h))
/-- the top is another term for the same number -/
theorem k_top {x z : Int32} (h : x = z) (k : W p l e R s m args below meth c H locs cells slots Q (F0 m pc ls (.int z :: rest))) : W p l e R s m args below meth c H locs cells slots Q (F0 m pc ls (.int x :: rest)) := by
  rw [h]; exact k
end KB4
theorem k_inc (k : Nat) : nI k + Int32.ofInt 1 = nI (k + 1) := by
  rw [show Int32.ofInt 1 = 1 by decide]
  exact (nI_succ k).symm
theorem k_eqN {a b : Nat} (ha : a < 2147483648) (hb : b < 2147483648) (h : nI a = nI b) : a = b := (nI_eq ha hb).mp h
theorem k_neN {a b : Nat} (ha : a < 2147483648) (hb : b < 2147483648) (h : ¬ nI a = nI b) : ¬ a = b := fun q => h ((nI_eq ha hb).mpr q)
theorem k_ltN {a b : Nat} (ha : a < 2147483648) (hb : b < 2147483648) (h : nI a < nI b) : a < b := (nI_ltI ha hb).mp h
theorem k_nltN {a b : Nat} (ha : a < 2147483648) (hb : b < 2147483648) (h : ¬ nI a < nI b) : ¬ a < b := fun q => h ((nI_ltI ha hb).mpr q)
theorem k_leN {a b : Nat} (ha : a < 2147483648) (hb : b < 2147483648) (h : nI a ≤ nI b) : a ≤ b := (nI_leI ha hb).mp h
theorem k_nleN {a b : Nat} (ha : a < 2147483648) (hb : b < 2147483648) (h : ¬ nI a ≤ nI b) : ¬ a ≤ b := fun q => h ((nI_leI ha hb).mpr q)
abbrev krm (f lo : Nat) : Room := { frames := f, cells := 0, slots := 0, locals := lo }
section KB5
variable {p : Program} {l : Launch} {e : Env} {R : Room} {s : State} {m : MethodId} {args : Array Value} {below : List Frame} {meth : Method} {c : Code} {H H0 : Heap} {locs : List Loc} {cells slots : Nat} {Q : State → Prop}
variable {cc : ByteArray} {nL : Nat} {Ts : List Cond} {own : String} {D : va_G} {cy : ClassId × ClassId × ClassId} {A0 : Nat → Prop}
variable {y : MethodName} {wr wr' : List Cond} {rm : Room} {b : Addr} {As rest st : List Value} {C host : String} {index maxL n : Nat} {bytes : ByteArray} {pc : Nat} {ls : Array Slot}
/-- .. of a method whose world is the whole of the caller's -/
theorem kcW_i (S0 : CallFix p m c cc nL s args Ts own) (hE : kE D cy s) (hA : ∀ q : Nat, H0.size ≤ q → A0 q) {wc : va_W} (hP : va_P D vwCl wc H) (hD : va_D A0 wc) (hS : va_S A0 H0 H locs)
    {S : Type} {post : Int32 → S → Prop} {wf : S → va_W} (hM : kI l D cy y wr rm (.ref b :: As) wc post wf) (hsame : ∀ u, (wf u).map (fun q => q.1) = wc.map (fun q => q.1))
    {ret : Option FieldType} {q0 ci : Nat} {fs : List Value} {q : vw_C} (hc : vwCl[ci]? = some q) (he : wc[q0]? = some (b, .inr (ci, fs))) (hT : GoodIn Ts (wsV own index q.1 y wr)) (hw : wr = Cond.code y bytes maxL ret :: wr') (hrc : rm.cells = 0) (hrs : rm.slots = 0)
    (hd : y.cls = q.1 ∧ y.cls ≠ "java/lang/invoke/MethodHandle" ∧ y.cls ≠ "java/lang/invoke/VarHandle" ∧ (parseMethodDescriptor y.desc).map (fun d => d.parameters.length) = some n) (hR : rm.frames + 1 ≤ R.frames ∧ 8 + (maxL + 11) + rm.locals ≤ R.locals)
    (hn : As.length = n) (hsize : ls.size = nL) (hst : st = As.reverse ++ .ref b :: rest) (hW : (rest.map fun v => v.category).sum ≤ 8) (hdg : decode cc pc = .ok (.invokevirtual index, 3)) (hf : cells ≤ R.cells ∧ slots ≤ R.slots)
    (kk : ∀ (r : Int32) (u : S) (H1 : Heap) (locs1 : List Loc), post r u → va_P D vwCl (wf u) H1 → va_D A0 (wf u) → va_S A0 H0 H1 locs1 → W p l e R s m args below meth c H1 locs1 cells slots Q (F0 m (pc + 3) ls (.int r :: rest))) :
    W p l e R s m args below meth c H locs cells slots Q (F0 m pc ls st) := by
  refine kcV_i (X := []) (Y := []) (wc := wc) S0 hE hA (by simpa using hP) (by simpa using hD) hS hM hsame hc he hT hw hrc hrs hd hR hn hsize hst hW hdg hf ?_
  intro r u H1 locs1 hp h1 h2 h3
  exact kk r u H1 locs1 hp (by simpa using h1) (by simpa using h2) h3
theorem kcW_v (S0 : CallFix p m c cc nL s args Ts own) (hE : kE D cy s) (hA : ∀ q : Nat, H0.size ≤ q → A0 q) {wc : va_W} (hP : va_P D vwCl wc H) (hD : va_D A0 wc) (hS : va_S A0 H0 H locs)
    {S : Type} {post : S → Prop} {wf : S → va_W} (hM : kV l D cy y wr rm (.ref b :: As) wc post wf) (hsame : ∀ u, (wf u).map (fun q => q.1) = wc.map (fun q => q.1))
    {ret : Option FieldType} {q0 ci : Nat} {fs : List Value} {q : vw_C} (hc : vwCl[ci]? = some q) (he : wc[q0]? = some (b, .inr (ci, fs))) (hT : GoodIn Ts (wsV own index q.1 y wr)) (hw : wr = Cond.code y bytes maxL ret :: wr') (hrc : rm.cells = 0) (hrs : rm.slots = 0)
    (hd : y.cls = q.1 ∧ y.cls ≠ "java/lang/invoke/MethodHandle" ∧ y.cls ≠ "java/lang/invoke/VarHandle" ∧ (parseMethodDescriptor y.desc).map (fun d => d.parameters.length) = some n) (hR : rm.frames + 1 ≤ R.frames ∧ 8 + (maxL + 11) + rm.locals ≤ R.locals)
    (hn : As.length = n) (hsize : ls.size = nL) (hst : st = As.reverse ++ .ref b :: rest) (hW : (rest.map fun v => v.category).sum ≤ 8) (hdg : decode cc pc = .ok (.invokevirtual index, 3)) (hf : cells ≤ R.cells ∧ slots ≤ R.slots)
    (kk : ∀ (u : S) (H1 : Heap) (locs1 : List Loc), post u → va_P D vwCl (wf u) H1 → va_D A0 (wf u) → va_S A0 H0 H1 locs1 → W p l e R s m args below meth c H1 locs1 cells slots Q (F0 m (pc + 3) ls rest)) :
    W p l e R s m args below meth c H locs cells slots Q (F0 m pc ls st) := by
  refine kcV_v (X := []) (Y := []) (wc := wc) S0 hE hA (by simpa using hP) (by simpa using hD) hS hM hsame hc he hT hw hrc hrs hd hR hn hsize hst hW hdg hf ?_
  intro u H1 locs1 hp h1 h2 h3
  exact kk u H1 locs1 hp (by simpa using h1) (by simpa using h2) h3
end KB5
