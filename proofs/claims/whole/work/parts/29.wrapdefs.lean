/-! The law's own methods: each calls one of the class's, and catches what it throws. -/
section KL1
variable {p : Program} {l : Launch} {e : Env} {R : Room} {s : State} {m : MethodId} {args : Array Value} {below : List Frame} {meth : Method} {c : Code} {H : Heap} {locs : List Loc} {cells slots : Nat} {Q : State → Prop}
variable {cc : ByteArray} {nL : Nat} {Ts : List Cond} {own : String} {D : va_G} {cy : ClassId × ClassId × ClassId} {A0 : Nat → Prop}
variable {y : MethodName} {wr wr' : List Cond} {rm : Room} {As rest st av : List Value} {index maxL n : Nat} {bytes : ByteArray} {pc : Nat} {ls : Array Slot} {w w' : va_W}
def kLI (l : Launch) (D : va_G) (cy : ClassId × ClassId × ClassId) (y : MethodName) (wr : List Cond) (rm : Room) (av : List Value) (w : va_W) (post : Int32 → Prop) (w' : va_W) : Prop :=
  ∀ sz : Nat, Met l y wr rm (kPx D cy av w sz) (va_Qi (fun r (_ : Unit) => post r) (fun _ t => va_P D vwCl w' t.heap) (va_A w sz)) 1 6 (va_A w sz)
set_option maxHeartbeats 4000000 in
theorem kLI.of {post : Int32 → Prop} {hh : List (Nat × Nat × Nat × Nat)} (hy : plainName y.cls = true) (hy2 : y.cls = RL) (hw : wr = Cond.codeWith y cc maxL (some .int) hh :: wr') (hlen : (lg_sl av).length ≤ maxL)
    (body : ∀ (p : Program) (e : Env) (s : State) (m : MethodId) (args : Array Value) (below : List Frame) (meth : Method) (c : Code) (Q : State → Prop) (A : Nat → Prop) (ls : Array Slot),
      p.tables.exec = Jvm.exec → c.code = cc → c.maxLocals = maxL → s.vm.findClass RL = some m.cls → (∀ q ∈ wr, q.before args s = true) → kE D cy s → (∀ q : Nat, s.heap.size ≤ q → A q) → va_P D vwCl w s.heap → va_D A w → lv_has ls maxL (lv_args 0 av) → kZ A s s.heap → c.exceptionTable.toList = tableOf hh →
      (∀ (H : Heap) (locs : List Loc) (pc : Nat) (ls : Array Slot) (r : Int32) (cells slots : Nat), decode cc pc = .ok (.ireturn, 1) → cells ≤ 1 → slots ≤ 6 → post r → va_P D vwCl w' H → va_S A s.heap H locs → W p l e rm s m args below meth c H locs cells slots Q (F0 m pc ls [.int r])) →
      W p l e rm s m args below meth c s.heap [] 0 0 Q (F0 m 0 ls [])) : kLI l D cy y wr rm av w post w' := by
  intro sz
  refine va_MetW (cc := cc) (maxL := maxL) (ret := some .int) (hh := hh) hy hw ?_
  intro p e s m args below meth c s₁ B hml hv
  obtain ⟨rfl, hsz, hP, hE, hD0, hZ⟩ := hv
  subst hsz
  have hl := lv_entry av (n := maxL) hlen
  rw [lg_entry_eq]
  have hlocks := B.notSynchronized
  have hown : s.vm.findClass RL = some m.cls := by rw [← hy2]; exact findClass_of_methodNamed B.named
  have hts := atoms_spec (ws := wr) B.pre
  have htab : c.exceptionTable.toList = tableOf hh := vx_table (x := y) (y := y) (bytes := cc) (maxL' := maxL) (ret' := some .int) B (hts _ (by rw [hw]; exact List.mem_cons_self))
  refine body p e s m _ below meth c _ (va_A w s.heap.size) _ B.exec B.bytes hml hown hts hE (fun q h => Or.inr h) hP hD0.self hl hZ htab ?_
  intro H locs pc ls r cells slots hd h1 h2 hp hPu hS
  refine W.widen (k := 1) (n := 6) h1 h2 ?_
  exact W.iret (v := r) B.exec B.bytes B.returns (fun t ht hW => ⟨⟨r, (), rfl, hp, by show va_P D vwCl w' t.heap; rw [ht]; exact hPu⟩, hS.F ht⟩) hS.2.2 hd
theorem kcL_i {post : Int32 → Prop} {ret : Option FieldType} {hh : List (Nat × Nat × Nat × Nat)} (S0 : CallFix p m c cc nL s args Ts own) (hE : kE D cy s) (hA : ∀ q : Nat, s.heap.size ≤ q → A0 q) (hZ : kZ A0 s s.heap) {X wc Y : va_W} (hP : va_P D vwCl (X ++ (wc ++ Y)) H) (hD : va_D A0 (X ++ (wc ++ Y))) (hS : va_S A0 s.heap H locs)
    (hM : kLI l D cy y wr rm As wc post w') (hsame : w'.map (fun q => q.1) = wc.map (fun q => q.1))
    (hT : GoodIn Ts (va_wsS own index y wr)) (hw : wr = Cond.codeWith y bytes maxL ret hh :: wr') (hrc : rm.cells = 1) (hrs : rm.slots = 6)
    (hd : y.cls ≠ "java/lang/invoke/MethodHandle" ∧ y.cls ≠ "java/lang/invoke/VarHandle" ∧ (parseMethodDescriptor y.desc).map (fun d => d.parameters.length) = some n) (hR : rm.frames + 1 ≤ R.frames ∧ 8 + (maxL + 11) + rm.locals ≤ R.locals)
    (hn : As.length = n) (hsize : ls.size = nL) (hst : st = As.reverse ++ rest) (hW : (rest.map fun v => v.category).sum ≤ 8) (hdg : decode cc pc = .ok (.invokestatic index, 3)) (hf : cells + 1 ≤ R.cells ∧ slots + 6 ≤ R.slots)
    (kk : ∀ (r : Int32) (H1 : Heap) (locs1 : List Loc), post r → va_P D vwCl (X ++ (w' ++ Y)) H1 → va_D A0 (X ++ (w' ++ Y)) → va_S A0 s.heap H1 locs1 → W p l e R s m args below meth c H1 locs1 (cells + 1) (slots + 6) Q (F0 m (pc + 3) ls (.int r :: rest))) :
    W p l e R s m args below meth c H locs cells slots Q (F0 m pc ls st) := by
  refine va_calli (vx_runSW (As := As) (rest := rest) S0 (hM H.size) (vx_cwSW n S0.2.2.2.2 hT hw hrc hrs hd hR) (kx_preS hE hA hZ hP hD hS) rfl hn hsize hst (lv_room hW) hdg hf) hS (fun q _ h => k_free hD hS hA q h) (k_free hD hS hA) ?_
  intro r u t H1 locs1 ht hvm hp hB hz hk hS1
  exact kk r H1 locs1 hp (k_upd hP hD hk (by rw [← ht]; exact hB)) (va_D.alike (k_same hsame) hD) hS1
/-- a class is castable to itself -/
theorem kl_cast (hE : kE D cy s) {X : String} (hX : X ∈ [xIX, xIA, xIS]) : (Cond.castable X X).before args s = true :=
  va_tabs (by rfl) rfl (hE.2.2.2.2.2.2.2.1 X hX)
theorem kl_nc1 (hE : kE D cy s) : va_Nc xIA xIX s := hE.2.2.2.2.2.2.2.2.1
theorem kl_nc2 (hE : kE D cy s) : va_Nc xIS xIX s := hE.2.2.2.2.2.2.2.2.2.1
theorem kl_nc3 (hE : kE D cy s) : va_Nc xIS xIA s := hE.2.2.2.2.2.2.2.2.2.2.1
end KL1
theorem xkA_0 {E : String} : ¬ xkA E 0 := by rintro (⟨-, h⟩ | ⟨-, h⟩ | ⟨-, h⟩) <;> exact absurd h (by decide)
theorem xkB_0 {E : String} : ¬ xkB E 0 := by rintro (⟨-, h⟩ | ⟨-, h⟩) <;> exact absurd h (by decide)
theorem cdOne_12 {n : Nat} {i : Int32} : ¬ cdOne n i = 2 ∧ ¬ cdOne n i = 3 := by unfold cdOne; cases badI n i <;> exact ⟨by decide, by decide⟩
theorem cdID_3 {n : Nat} {i d : Int32} : ¬ cdID n i d = 3 := by unfold cdID; cases badI n i <;> cases badD d <;> decide
theorem cdND_3 {x d : Int32} : ¬ cdND x d = 3 := by unfold cdND; cases badN x <;> cases badD d <;> decide
theorem cdDis_3 {n : Nat} {i d : Int32} : ¬ cdDis n i d = 3 := by unfold cdDis; cases badI n i <;> cases (!decide (d = -1) && badD d) <;> decide
theorem cdPin_3 {x v : Int32} : ¬ cdPin x v = 3 := by unfold cdPin; cases badN x <;> cases (decide (v < 0) || !decide (v ≤ 255)) <;> decide
theorem cdD_2 {d : Int32} : ¬ cdD d = 2 := by unfold cdD; cases badD d <;> decide
/-- the answer's row: one long -/
abbrev kout (cy : ClassId × ClassId × ClassId) (o : Nat) (f : Nat → Int64) : va_W := [(o, .inl (cy.2.2, 1, .inr (.inl f)))]
theorem k_in0 : vp_in 0 1 := vp_in_nI (n := 0) (by decide) (by decide)
