/-! Constructors: cells come. -/
section KN1
/-- a constructor's contract: mc cells of ms slots come; u names their addresses -/
def kC (l : Launch) (D : va_G) (cy : ClassId × ClassId × ClassId) (y : MethodName) (wr : List Cond) (rm : Room) (av : List Value) (w : va_W) {S : Type} (wf : S → va_W) (mc ms : Nat) : Prop :=
  ∀ sz : Nat, Met l y wr rm (kPc D cy av w sz) (va_Qv (fun _ : S => True) (fun u t => va_P D vwCl (wf u) t.heap ∧ va_D (va_A w sz) (wf u)) (va_A w sz)) mc ms (va_A w sz)
theorem k_clsI {D : va_G} {cl : List vw_C} {cy : ClassId × ClassId × ClassId} {cA : ClassId} {s : State} (h : va_K D cl ([(cy.1, .int)] ++ [(cA, .int)]) s) : cA = cy.1 := by
  have h1 := (h.2 1 _ rfl).2
  have h2 := (h.2 0 _ rfl).2
  exact Option.some.inj (h1.symm.trans h2)
/-- behind a constructor's call: its cells in the place of the one that it was given, which stands last -/
theorem k_updN {D : va_G} {A0 : Nat → Prop} {X wc w1 : va_W} {H H1 : Heap} (hP : va_P D vwCl (X ++ wc) H) (hD : va_D A0 (X ++ wc)) (hk : ∀ q : Nat, q < H.size → ¬ va_A wc H.size q → H1[q]? = H[q]?) (hF : ∀ q, va_A wc H.size q → A0 q) (hP1 : va_P D vwCl w1 H1) (hD1 : va_D (va_A wc H.size) w1) : va_P D vwCl (X ++ w1) H1 ∧ va_D A0 (X ++ w1) := by
  have hD' : va_D A0 (X ++ (wc ++ [])) := by simpa using hD
  have hP' : va_P D vwCl (X ++ (wc ++ [])) H := by simpa using hP
  have ap : ∀ x ∈ X, x.1 < H.size ∧ ¬ va_A wc H.size x.1 := by
    intro x hx
    have hat : va_at D vwCl x H := va_P_mem.mp hP x (List.mem_append_left _ hx)
    refine ⟨hat.lt, ?_⟩
    rintro (⟨k, e, h⟩ | h)
    · exact k_apart hD' x (Or.inl hx) (x.1, e) (List.mem_of_getElem? h) rfl
    · exact absurd hat.lt (Nat.not_lt.mpr h)
  refine ⟨?_, va_D.app ?_ (hD1.weaken (fun k q _ h => hF q.1 h)) (fun i j x y hx hy e => ?_)⟩
  · have := k_upd hP' hD' hk hP1
    simpa using this
  · refine ⟨fun i j x y hi hj e => ?_, fun k q hk2 => ?_⟩
    · have li := (List.getElem?_eq_some_iff.mp hi).1
      have lj := (List.getElem?_eq_some_iff.mp hj).1
      exact hD.1 i j x y (by rw [List.getElem?_append_left li]; exact hi) (by rw [List.getElem?_append_left lj]; exact hj) e
    · have lk := (List.getElem?_eq_some_iff.mp hk2).1
      exact hD.2 k q (by rw [List.getElem?_append_left lk]; exact hk2)
  · have h1 := (ap x (List.mem_of_getElem? hx)).2
    exact h1 (by rw [e]; exact hD1.2 j y hy)
end KN1
section KN2
variable {l : Launch} {D : va_G} {cy : ClassId × ClassId × ClassId} {y : MethodName} {wr wr' : List Cond} {rm : Room} {av : List Value} {w : va_W}
set_option maxHeartbeats 4000000 in
theorem kC.of {S : Type} {wf : S → va_W} {cc : ByteArray} {maxL mc ms : Nat} (hy : plainName y.cls = true) (hy3 : y.name = "<init>") (hw : wr = Cond.code y cc maxL none :: wr') (hlen : (lg_sl av).length ≤ maxL)
    (body : ∀ (p : Program) (e : Env) (s : State) (m : MethodId) (args : Array Value) (below : List Frame) (meth : Method) (c : Code) (Q : State → Prop) (A : Nat → Prop) (ls : Array Slot),
      p.tables.exec = Jvm.exec → c.code = cc → c.maxLocals = maxL → s.vm.findClass y.cls = some m.cls → meth.name = "<init>" → (∀ q ∈ wr, q.before args s = true) → kE D cy s → (∀ q : Nat, s.heap.size ≤ q → A q) → va_P D vwCl w s.heap → va_D A w → lv_has ls maxL (lv_args 0 av) →
      (∀ (H : Heap) (locs : List Loc) (pc : Nat) (ls : Array Slot) (u : S), decode cc pc = .ok (.return_, 1) → va_P D vwCl (wf u) H → va_D A (wf u) → va_S A s.heap H locs → W p l e rm s m args below meth c H locs mc ms Q (F0 m pc ls [])) →
      W p l e rm s m args below meth c s.heap [] 0 0 Q (F0 m 0 ls [])) : kC l D cy y wr rm av w wf mc ms := by
  intro sz
  refine Met.ofW (cc := cc) (maxL := maxL) (ret := none) hy hw ?_
  intro p e s m args below meth c s₁ B hml hv
  obtain ⟨rfl, hsz, hP, hE, hD0⟩ := hv
  subst hsz
  have hl := lv_entry av (n := maxL) hlen
  rw [lg_entry_eq]
  have hlocks := B.notSynchronized
  have hin : meth.name = "<init>" := (name_of_methodNamed B.named B.method).1.trans hy3
  refine body p e s m _ below meth c _ (va_A w s.heap.size) _ B.exec B.bytes hml (findClass_of_methodNamed B.named) hin (atoms_spec (ws := wr) B.pre) hE (fun q h => Or.inr h) hP hD0.self hl ?_
  intro H locs pc ls u hd hPu hDu hS
  exact W.vret B.exec B.bytes B.returns (fun t ht hW => ⟨⟨u, rfl, trivial, by show va_P D vwCl (wf u) t.heap; rw [ht]; exact hPu, hDu⟩, hS.F ht⟩) hS.2.2 hd
end KN2
section KN3
variable {p : Program} {l : Launch} {e : Env} {R : Room} {s : State} {m : MethodId} {args : Array Value} {below : List Frame} {meth : Method} {c : Code} {H H0 : Heap} {locs : List Loc} {cells slots : Nat} {Q : State → Prop}
variable {cc : ByteArray} {nL : Nat} {Ts : List Cond} {own : String} {D : va_G} {cy : ClassId × ClassId × ClassId} {A0 : Nat → Prop}
variable {y : MethodName} {wr wr' : List Cond} {rm : Room} {b : Addr} {rest st : List Value} {host : String} {index maxL mc ms : Nat} {bytes : ByteArray} {pc : Nat} {ls : Array Slot}
theorem k_preI {X wc : va_W} {As : List Value} (hE : kE D cy s) (hP : va_P D vwCl (X ++ wc) H) (hD : va_D A0 (X ++ wc)) : PreS s H (kPc D cy As wc H.size) As := by
  have h := k_preS (X := X) (wc := wc) (Y := []) (As := As) hE (by simpa using hP) (by simpa using hD)
  exact h
/-- a nest mate's private constructor without arguments, of the object that is the last cell -/
theorem kcNC (S0 : CallFix p m c cc nL s args Ts own) (hE : kE D cy s) (hA : ∀ q : Nat, H0.size ≤ q → A0 q) {X wc : va_W} (hP : va_P D vwCl (X ++ wc) H) (hD : va_D A0 (X ++ wc)) (hS : va_S A0 H0 H locs)
    {S : Type} {wf : S → va_W} (hM : kC l D cy y wr rm [.ref b] wc wf mc ms)
    (hl : va_Nw (.methodLinkNest own index y host) s) (hy1 : y.name = "<init>") (hins : (Cond.instanceMethod y).before args s = true) (hini : (Cond.initialized y.cls).before args s = true) (hG : GoodIn Ts wr) (hw : wr = Cond.code y bytes maxL none :: wr') (hrc : rm.cells = mc) (hrs : rm.slots = ms)
    (hd : y.cls ≠ "java/lang/invoke/MethodHandle" ∧ y.cls ≠ "java/lang/invoke/VarHandle" ∧ (parseMethodDescriptor y.desc).map (fun d => d.parameters.length) = some 0) (hR : rm.frames + 1 ≤ R.frames ∧ 8 + (maxL + 11) + rm.locals ≤ R.locals)
    (hsize : ls.size = nL) (hst : st = .ref b :: rest) (hW : (rest.map fun v => v.category).sum ≤ 8) (hdg : decode cc pc = .ok (.invokespecial index, 3)) (hf : cells + mc ≤ R.cells ∧ slots + ms ≤ R.slots)
    (kk : ∀ (u : S) (H1 : Heap) (locs1 : List Loc), va_P D vwCl (X ++ wf u) H1 → va_D A0 (X ++ wf u) → va_S A0 H0 H1 locs1 → W p l e R s m args below meth c H1 locs1 (cells + mc) (slots + ms) Q (F0 m (pc + 3) ls rest)) :
    W p l e R s m args below meth c H locs cells slots Q (F0 m pc ls st) := by
  have hD' : va_D A0 (X ++ (wc ++ [])) := by simpa using hD
  refine va_callv (va_runIN (As := []) (rest := rest) S0 (hM H.size) ⟨va_cnB 0 S0.2.2.2.2 hG hw hrc hrs hl hini hd hR, hy1, hins⟩ (k_preI hE hP hD) rfl rfl hsize hst (lv_room hW) hdg hf) hS (fun q _ h => k_free hD' hS hA q h) (k_free hD' hS hA) ?_
  intro u t H1 locs1 ht hvm hp hB hz hk hS1
  obtain ⟨h1, h2⟩ := k_updN hP hD hk (k_free hD' hS hA) (by rw [← ht]; exact hB.1) hB.2
  exact kk u H1 locs1 h1 h2 hS1
/-- a constructor without arguments, of the object that is the last cell -/
theorem kcIC (S0 : CallFix p m c cc nL s args Ts own) (hE : kE D cy s) (hA : ∀ q : Nat, H0.size ≤ q → A0 q) {X wc : va_W} (hP : va_P D vwCl (X ++ wc) H) (hD : va_D A0 (X ++ wc)) (hS : va_S A0 H0 H locs)
    {S : Type} {wf : S → va_W} (hM : kC l D cy y wr rm [.ref b] wc wf mc ms)
    (hl : (Cond.methodLink own index y).before args s = true) (hy1 : y.name = "<init>") (hins : (Cond.instanceMethod y).before args s = true) (hini : (Cond.initialized y.cls).before args s = true) (hG : GoodIn Ts wr) (hw : wr = Cond.code y bytes maxL none :: wr') (hrc : rm.cells = mc) (hrs : rm.slots = ms)
    (hd : y.cls ≠ "java/lang/invoke/MethodHandle" ∧ y.cls ≠ "java/lang/invoke/VarHandle" ∧ (parseMethodDescriptor y.desc).map (fun d => d.parameters.length) = some 0) (hR : rm.frames + 1 ≤ R.frames ∧ 8 + (maxL + 11) + rm.locals ≤ R.locals)
    (hsize : ls.size = nL) (hst : st = .ref b :: rest) (hW : (rest.map fun v => v.category).sum ≤ 8) (hdg : decode cc pc = .ok (.invokespecial index, 3)) (hf : cells + mc ≤ R.cells ∧ slots + ms ≤ R.slots)
    (kk : ∀ (u : S) (H1 : Heap) (locs1 : List Loc), va_P D vwCl (X ++ wf u) H1 → va_D A0 (X ++ wf u) → va_S A0 H0 H1 locs1 → W p l e R s m args below meth c H1 locs1 (cells + mc) (slots + ms) Q (F0 m (pc + 3) ls rest)) :
    W p l e R s m args below meth c H locs cells slots Q (F0 m pc ls st) := by
  have hD' : va_D A0 (X ++ (wc ++ [])) := by simpa using hD
  refine va_callv (va_runI (As := []) (rest := rest) S0 (hM H.size) (cwI 0 S0.2.2.2.2 hG hw hrc hrs hini hl hins hy1 hd hR) (k_preI hE hP hD) rfl rfl hsize hst (lv_room hW) hdg hf) hS (fun q _ h => k_free hD' hS hA q h) (k_free hD' hS hA) ?_
  intro u t H1 locs1 ht hvm hp hB hz hk hS1
  obtain ⟨h1, h2⟩ := k_updN hP hD hk (k_free hD' hS hA) (by rw [← ht]; exact hB.1) hB.2
  exact kk u H1 locs1 h1 h2 hS1
end KN3
abbrev krc (f c s lo : Nat) : Room := { frames := f, cells := c, slots := s, locals := lo }
set_option maxHeartbeats 4000000 in
set_option maxRecDepth 100000 in
theorem c_X1_init (l : Launch) (D : va_G) (cy : ClassId × ClassId × ClassId) (a0 : Nat) : kC l D cy yX1_init wsX1_init (krc 1 8 64 12) [.ref a0] [(a0, .inr (1, [.null, .null, .null, .null, .null, .null, .null, .null, .int 0]))] (fun u : Nat × Nat × Nat × Nat × Nat × Nat × Nat × Nat => wT cy a0 u.1 u.2.1 u.2.2.1 u.2.2.2.1 u.2.2.2.2.1 u.2.2.2.2.2.1 u.2.2.2.2.2.2.1 u.2.2.2.2.2.2.2 (fun _ => 0) (fun _ => 0) (fun _ => 0) (fun _ => 0) (fun _ => 0) (fun _ => 0) (fun _ => 0) (fun _ => 0) 0) 8 64 := by
  refine kC.of (cc := cX1_init) (maxL := 1) (by decide) rfl rfl (Nat.le_of_ble_eq_true rfl) ?_
  intro p e s m args below meth c Q A ls hx hb hml hown hin hts hE hA hP hD hl hret
  have hS : va_S A s.heap s.heap [] := va_S.rf
  have hl : lv_has ls 1 [(0, .ref a0)] := hl
  have g_X1 : ∀ w ∈ wsX10, w ∈ wsX1_init := by decide +kernel
  have f_11 := hts (.fieldLink RX1 11 "CertHerd$IssuerTable" "firstSigners" "[I") (by decide +kernel)
  have f_15 := hts (.fieldLink RX1 15 "CertHerd$IssuerTable" "secondSigners" "[I") (by decide +kernel)
  have f_18 := hts (.fieldLink RX1 18 "CertHerd$IssuerTable" "firstDays" "[I") (by decide +kernel)
  have f_21 := hts (.fieldLink RX1 21 "CertHerd$IssuerTable" "endDays" "[I") (by decide +kernel)
  have f_24 := hts (.fieldLink RX1 24 "CertHerd$IssuerTable" "limits" "[I") (by decide +kernel)
  have f_27 := hts (.fieldLink RX1 27 "CertHerd$IssuerTable" "distrustDays" "[I") (by decide +kernel)
  have f_30 := hts (.fieldLink RX1 30 "CertHerd$IssuerTable" "chainEnds" "[I") (by decide +kernel)
  have f_33 := hts (.fieldLink RX1 33 "CertHerd$IssuerTable" "chainCounts" "[I") (by decide +kernel)
  have f_36 := hts (.fieldLink RX1 36 "CertHerd$IssuerTable" "count" "I") (by decide +kernel)
  have ar_int := hts (.arrayClass .int) (by decide +kernel)
  refine lv_aload_n hx hb dX1_init_0 rfl (lv_at hl 0 rfl) ?_
  refine W.objInit hx hb hown (hts (.methodLink RX1 3 objectInit) (by decide +kernel)) (hts (.instanceMethod objectInit) (by decide +kernel)) (hts (.code objectInit ⟨#[0xb1]⟩ 1 none) (by decide +kernel)) rfl (by rw [hml]; exact hl.1) rfl dX1_init_1 (Nat.le_of_ble_eq_true rfl) (Nat.le_of_ble_eq_true rfl) ?_
  refine W.eq (g2 := F0 m 4 ls []) rfl ?_
  refine lv_aload_n hx hb dX1_init_4 rfl (lv_at hl 0 rfl) ?_
  refine lv_bipush (v := 8) hx hb dX1_init_5 (by decide) ?_
  refine va_newa (atype := .int) (ty := .int) (N' := 8) (a0 := (8, .inl (fun _ => 0))) hx hb ar_int rfl hE.1 hP hD hS hA (fun _ => rfl) (by decide) (by decide) (Nat.le_of_ble_eq_true rfl) (Nat.le_of_ble_eq_true rfl) (Nat.le_of_ble_eq_true rfl) dX1_init_7 (fun q1 cA H hK1 hP hD hS => ?_)
  have eA := k_clsI hK1
  subst eA
  have hP : va_P D vwCl ([(a0, .inr (1, [.null, .null, .null, .null, .null, .null, .null, .null, .int 0])), (q1, .inl (cy.1, 8, .inl (fun _ => 0)))]) H := hP
  have hD : va_D A ([(a0, .inr (1, [.null, .null, .null, .null, .null, .null, .null, .null, .int 0])), (q1, .inl (cy.1, 8, .inl (fun _ => 0)))]) := hD
  refine va_putF (D := D) (ci := 1) (v := .ref q1) (ty := .array .int) (C := RX1) (T := TX1) (N := 9) hx hb hts g_X1 tyX1 tyX1_ok nmX1 hown hE.1 hP hD hS 0 rfl rfl 0 (by decide) f_11 (fun _ h9 => h9) rfl hin rfl (by decide +kernel) rfl rfl (Nat.le_of_ble_eq_true rfl) dX1_init_9 (fun H locs hP hD hS => ?_)
  have hP : va_P D vwCl ([(a0, .inr (1, [.ref q1, .null, .null, .null, .null, .null, .null, .null, .int 0])), (q1, .inl (cy.1, 8, .inl (fun _ => 0)))]) H := hP
  have hD : va_D A ([(a0, .inr (1, [.ref q1, .null, .null, .null, .null, .null, .null, .null, .int 0])), (q1, .inl (cy.1, 8, .inl (fun _ => 0)))]) := hD
  refine lv_aload_n hx hb dX1_init_12 rfl (lv_at hl 0 rfl) ?_
  refine lv_bipush (v := 8) hx hb dX1_init_13 (by decide) ?_
  refine va_newa (atype := .int) (ty := .int) (N' := 8) (a0 := (8, .inl (fun _ => 0))) hx hb ar_int rfl hE.1 hP hD hS hA (fun _ => rfl) (by decide) (by decide) (Nat.le_of_ble_eq_true rfl) (Nat.le_of_ble_eq_true rfl) (Nat.le_of_ble_eq_true rfl) dX1_init_15 (fun q2 cA H hK1 hP hD hS => ?_)
  have eA := k_clsI hK1
  subst eA
  have hP : va_P D vwCl ([(a0, .inr (1, [.ref q1, .null, .null, .null, .null, .null, .null, .null, .int 0])), (q1, .inl (cy.1, 8, .inl (fun _ => 0))), (q2, .inl (cy.1, 8, .inl (fun _ => 0)))]) H := hP
  have hD : va_D A ([(a0, .inr (1, [.ref q1, .null, .null, .null, .null, .null, .null, .null, .int 0])), (q1, .inl (cy.1, 8, .inl (fun _ => 0))), (q2, .inl (cy.1, 8, .inl (fun _ => 0)))]) := hD
  refine va_putF (D := D) (ci := 1) (v := .ref q2) (ty := .array .int) (C := RX1) (T := TX1) (N := 9) hx hb hts g_X1 tyX1 tyX1_ok nmX1 hown hE.1 hP hD hS 0 rfl rfl 1 (by decide) f_15 (fun _ h9 => h9) rfl hin rfl (by decide +kernel) rfl rfl (Nat.le_of_ble_eq_true rfl) dX1_init_17 (fun H locs hP hD hS => ?_)
  have hP : va_P D vwCl ([(a0, .inr (1, [.ref q1, .ref q2, .null, .null, .null, .null, .null, .null, .int 0])), (q1, .inl (cy.1, 8, .inl (fun _ => 0))), (q2, .inl (cy.1, 8, .inl (fun _ => 0)))]) H := hP
  have hD : va_D A ([(a0, .inr (1, [.ref q1, .ref q2, .null, .null, .null, .null, .null, .null, .int 0])), (q1, .inl (cy.1, 8, .inl (fun _ => 0))), (q2, .inl (cy.1, 8, .inl (fun _ => 0)))]) := hD
  refine lv_aload_n hx hb dX1_init_20 rfl (lv_at hl 0 rfl) ?_
  refine lv_bipush (v := 8) hx hb dX1_init_21 (by decide) ?_
  refine va_newa (atype := .int) (ty := .int) (N' := 8) (a0 := (8, .inl (fun _ => 0))) hx hb ar_int rfl hE.1 hP hD hS hA (fun _ => rfl) (by decide) (by decide) (Nat.le_of_ble_eq_true rfl) (Nat.le_of_ble_eq_true rfl) (Nat.le_of_ble_eq_true rfl) dX1_init_23 (fun q3 cA H hK1 hP hD hS => ?_)
  have eA := k_clsI hK1
  subst eA
  have hP : va_P D vwCl ([(a0, .inr (1, [.ref q1, .ref q2, .null, .null, .null, .null, .null, .null, .int 0])), (q1, .inl (cy.1, 8, .inl (fun _ => 0))), (q2, .inl (cy.1, 8, .inl (fun _ => 0))), (q3, .inl (cy.1, 8, .inl (fun _ => 0)))]) H := hP
  have hD : va_D A ([(a0, .inr (1, [.ref q1, .ref q2, .null, .null, .null, .null, .null, .null, .int 0])), (q1, .inl (cy.1, 8, .inl (fun _ => 0))), (q2, .inl (cy.1, 8, .inl (fun _ => 0))), (q3, .inl (cy.1, 8, .inl (fun _ => 0)))]) := hD
  refine va_putF (D := D) (ci := 1) (v := .ref q3) (ty := .array .int) (C := RX1) (T := TX1) (N := 9) hx hb hts g_X1 tyX1 tyX1_ok nmX1 hown hE.1 hP hD hS 0 rfl rfl 2 (by decide) f_18 (fun _ h9 => h9) rfl hin rfl (by decide +kernel) rfl rfl (Nat.le_of_ble_eq_true rfl) dX1_init_25 (fun H locs hP hD hS => ?_)
  have hP : va_P D vwCl ([(a0, .inr (1, [.ref q1, .ref q2, .ref q3, .null, .null, .null, .null, .null, .int 0])), (q1, .inl (cy.1, 8, .inl (fun _ => 0))), (q2, .inl (cy.1, 8, .inl (fun _ => 0))), (q3, .inl (cy.1, 8, .inl (fun _ => 0)))]) H := hP
  have hD : va_D A ([(a0, .inr (1, [.ref q1, .ref q2, .ref q3, .null, .null, .null, .null, .null, .int 0])), (q1, .inl (cy.1, 8, .inl (fun _ => 0))), (q2, .inl (cy.1, 8, .inl (fun _ => 0))), (q3, .inl (cy.1, 8, .inl (fun _ => 0)))]) := hD
  refine lv_aload_n hx hb dX1_init_28 rfl (lv_at hl 0 rfl) ?_
  refine lv_bipush (v := 8) hx hb dX1_init_29 (by decide) ?_
  refine va_newa (atype := .int) (ty := .int) (N' := 8) (a0 := (8, .inl (fun _ => 0))) hx hb ar_int rfl hE.1 hP hD hS hA (fun _ => rfl) (by decide) (by decide) (Nat.le_of_ble_eq_true rfl) (Nat.le_of_ble_eq_true rfl) (Nat.le_of_ble_eq_true rfl) dX1_init_31 (fun q4 cA H hK1 hP hD hS => ?_)
  have eA := k_clsI hK1
  subst eA
  have hP : va_P D vwCl ([(a0, .inr (1, [.ref q1, .ref q2, .ref q3, .null, .null, .null, .null, .null, .int 0])), (q1, .inl (cy.1, 8, .inl (fun _ => 0))), (q2, .inl (cy.1, 8, .inl (fun _ => 0))), (q3, .inl (cy.1, 8, .inl (fun _ => 0))), (q4, .inl (cy.1, 8, .inl (fun _ => 0)))]) H := hP
  have hD : va_D A ([(a0, .inr (1, [.ref q1, .ref q2, .ref q3, .null, .null, .null, .null, .null, .int 0])), (q1, .inl (cy.1, 8, .inl (fun _ => 0))), (q2, .inl (cy.1, 8, .inl (fun _ => 0))), (q3, .inl (cy.1, 8, .inl (fun _ => 0))), (q4, .inl (cy.1, 8, .inl (fun _ => 0)))]) := hD
  refine va_putF (D := D) (ci := 1) (v := .ref q4) (ty := .array .int) (C := RX1) (T := TX1) (N := 9) hx hb hts g_X1 tyX1 tyX1_ok nmX1 hown hE.1 hP hD hS 0 rfl rfl 3 (by decide) f_21 (fun _ h9 => h9) rfl hin rfl (by decide +kernel) rfl rfl (Nat.le_of_ble_eq_true rfl) dX1_init_33 (fun H locs hP hD hS => ?_)
  have hP : va_P D vwCl ([(a0, .inr (1, [.ref q1, .ref q2, .ref q3, .ref q4, .null, .null, .null, .null, .int 0])), (q1, .inl (cy.1, 8, .inl (fun _ => 0))), (q2, .inl (cy.1, 8, .inl (fun _ => 0))), (q3, .inl (cy.1, 8, .inl (fun _ => 0))), (q4, .inl (cy.1, 8, .inl (fun _ => 0)))]) H := hP
  have hD : va_D A ([(a0, .inr (1, [.ref q1, .ref q2, .ref q3, .ref q4, .null, .null, .null, .null, .int 0])), (q1, .inl (cy.1, 8, .inl (fun _ => 0))), (q2, .inl (cy.1, 8, .inl (fun _ => 0))), (q3, .inl (cy.1, 8, .inl (fun _ => 0))), (q4, .inl (cy.1, 8, .inl (fun _ => 0)))]) := hD
  refine lv_aload_n hx hb dX1_init_36 rfl (lv_at hl 0 rfl) ?_
  refine lv_bipush (v := 8) hx hb dX1_init_37 (by decide) ?_
  refine va_newa (atype := .int) (ty := .int) (N' := 8) (a0 := (8, .inl (fun _ => 0))) hx hb ar_int rfl hE.1 hP hD hS hA (fun _ => rfl) (by decide) (by decide) (Nat.le_of_ble_eq_true rfl) (Nat.le_of_ble_eq_true rfl) (Nat.le_of_ble_eq_true rfl) dX1_init_39 (fun q5 cA H hK1 hP hD hS => ?_)
  have eA := k_clsI hK1
  subst eA
  have hP : va_P D vwCl ([(a0, .inr (1, [.ref q1, .ref q2, .ref q3, .ref q4, .null, .null, .null, .null, .int 0])), (q1, .inl (cy.1, 8, .inl (fun _ => 0))), (q2, .inl (cy.1, 8, .inl (fun _ => 0))), (q3, .inl (cy.1, 8, .inl (fun _ => 0))), (q4, .inl (cy.1, 8, .inl (fun _ => 0))), (q5, .inl (cy.1, 8, .inl (fun _ => 0)))]) H := hP
  have hD : va_D A ([(a0, .inr (1, [.ref q1, .ref q2, .ref q3, .ref q4, .null, .null, .null, .null, .int 0])), (q1, .inl (cy.1, 8, .inl (fun _ => 0))), (q2, .inl (cy.1, 8, .inl (fun _ => 0))), (q3, .inl (cy.1, 8, .inl (fun _ => 0))), (q4, .inl (cy.1, 8, .inl (fun _ => 0))), (q5, .inl (cy.1, 8, .inl (fun _ => 0)))]) := hD
  refine va_putF (D := D) (ci := 1) (v := .ref q5) (ty := .array .int) (C := RX1) (T := TX1) (N := 9) hx hb hts g_X1 tyX1 tyX1_ok nmX1 hown hE.1 hP hD hS 0 rfl rfl 4 (by decide) f_24 (fun _ h9 => h9) rfl hin rfl (by decide +kernel) rfl rfl (Nat.le_of_ble_eq_true rfl) dX1_init_41 (fun H locs hP hD hS => ?_)
  have hP : va_P D vwCl ([(a0, .inr (1, [.ref q1, .ref q2, .ref q3, .ref q4, .ref q5, .null, .null, .null, .int 0])), (q1, .inl (cy.1, 8, .inl (fun _ => 0))), (q2, .inl (cy.1, 8, .inl (fun _ => 0))), (q3, .inl (cy.1, 8, .inl (fun _ => 0))), (q4, .inl (cy.1, 8, .inl (fun _ => 0))), (q5, .inl (cy.1, 8, .inl (fun _ => 0)))]) H := hP
  have hD : va_D A ([(a0, .inr (1, [.ref q1, .ref q2, .ref q3, .ref q4, .ref q5, .null, .null, .null, .int 0])), (q1, .inl (cy.1, 8, .inl (fun _ => 0))), (q2, .inl (cy.1, 8, .inl (fun _ => 0))), (q3, .inl (cy.1, 8, .inl (fun _ => 0))), (q4, .inl (cy.1, 8, .inl (fun _ => 0))), (q5, .inl (cy.1, 8, .inl (fun _ => 0)))]) := hD
  refine lv_aload_n hx hb dX1_init_44 rfl (lv_at hl 0 rfl) ?_
  refine lv_bipush (v := 8) hx hb dX1_init_45 (by decide) ?_
  refine va_newa (atype := .int) (ty := .int) (N' := 8) (a0 := (8, .inl (fun _ => 0))) hx hb ar_int rfl hE.1 hP hD hS hA (fun _ => rfl) (by decide) (by decide) (Nat.le_of_ble_eq_true rfl) (Nat.le_of_ble_eq_true rfl) (Nat.le_of_ble_eq_true rfl) dX1_init_47 (fun q6 cA H hK1 hP hD hS => ?_)
  have eA := k_clsI hK1
  subst eA
  have hP : va_P D vwCl ([(a0, .inr (1, [.ref q1, .ref q2, .ref q3, .ref q4, .ref q5, .null, .null, .null, .int 0])), (q1, .inl (cy.1, 8, .inl (fun _ => 0))), (q2, .inl (cy.1, 8, .inl (fun _ => 0))), (q3, .inl (cy.1, 8, .inl (fun _ => 0))), (q4, .inl (cy.1, 8, .inl (fun _ => 0))), (q5, .inl (cy.1, 8, .inl (fun _ => 0))), (q6, .inl (cy.1, 8, .inl (fun _ => 0)))]) H := hP
  have hD : va_D A ([(a0, .inr (1, [.ref q1, .ref q2, .ref q3, .ref q4, .ref q5, .null, .null, .null, .int 0])), (q1, .inl (cy.1, 8, .inl (fun _ => 0))), (q2, .inl (cy.1, 8, .inl (fun _ => 0))), (q3, .inl (cy.1, 8, .inl (fun _ => 0))), (q4, .inl (cy.1, 8, .inl (fun _ => 0))), (q5, .inl (cy.1, 8, .inl (fun _ => 0))), (q6, .inl (cy.1, 8, .inl (fun _ => 0)))]) := hD
  refine va_putF (D := D) (ci := 1) (v := .ref q6) (ty := .array .int) (C := RX1) (T := TX1) (N := 9) hx hb hts g_X1 tyX1 tyX1_ok nmX1 hown hE.1 hP hD hS 0 rfl rfl 5 (by decide) f_27 (fun _ h9 => h9) rfl hin rfl (by decide +kernel) rfl rfl (Nat.le_of_ble_eq_true rfl) dX1_init_49 (fun H locs hP hD hS => ?_)
  have hP : va_P D vwCl ([(a0, .inr (1, [.ref q1, .ref q2, .ref q3, .ref q4, .ref q5, .ref q6, .null, .null, .int 0])), (q1, .inl (cy.1, 8, .inl (fun _ => 0))), (q2, .inl (cy.1, 8, .inl (fun _ => 0))), (q3, .inl (cy.1, 8, .inl (fun _ => 0))), (q4, .inl (cy.1, 8, .inl (fun _ => 0))), (q5, .inl (cy.1, 8, .inl (fun _ => 0))), (q6, .inl (cy.1, 8, .inl (fun _ => 0)))]) H := hP
  have hD : va_D A ([(a0, .inr (1, [.ref q1, .ref q2, .ref q3, .ref q4, .ref q5, .ref q6, .null, .null, .int 0])), (q1, .inl (cy.1, 8, .inl (fun _ => 0))), (q2, .inl (cy.1, 8, .inl (fun _ => 0))), (q3, .inl (cy.1, 8, .inl (fun _ => 0))), (q4, .inl (cy.1, 8, .inl (fun _ => 0))), (q5, .inl (cy.1, 8, .inl (fun _ => 0))), (q6, .inl (cy.1, 8, .inl (fun _ => 0)))]) := hD
  refine lv_aload_n hx hb dX1_init_52 rfl (lv_at hl 0 rfl) ?_
  refine lv_bipush (v := 8) hx hb dX1_init_53 (by decide) ?_
  refine va_newa (atype := .int) (ty := .int) (N' := 8) (a0 := (8, .inl (fun _ => 0))) hx hb ar_int rfl hE.1 hP hD hS hA (fun _ => rfl) (by decide) (by decide) (Nat.le_of_ble_eq_true rfl) (Nat.le_of_ble_eq_true rfl) (Nat.le_of_ble_eq_true rfl) dX1_init_55 (fun q7 cA H hK1 hP hD hS => ?_)
  have eA := k_clsI hK1
  subst eA
  have hP : va_P D vwCl ([(a0, .inr (1, [.ref q1, .ref q2, .ref q3, .ref q4, .ref q5, .ref q6, .null, .null, .int 0])), (q1, .inl (cy.1, 8, .inl (fun _ => 0))), (q2, .inl (cy.1, 8, .inl (fun _ => 0))), (q3, .inl (cy.1, 8, .inl (fun _ => 0))), (q4, .inl (cy.1, 8, .inl (fun _ => 0))), (q5, .inl (cy.1, 8, .inl (fun _ => 0))), (q6, .inl (cy.1, 8, .inl (fun _ => 0))), (q7, .inl (cy.1, 8, .inl (fun _ => 0)))]) H := hP
  have hD : va_D A ([(a0, .inr (1, [.ref q1, .ref q2, .ref q3, .ref q4, .ref q5, .ref q6, .null, .null, .int 0])), (q1, .inl (cy.1, 8, .inl (fun _ => 0))), (q2, .inl (cy.1, 8, .inl (fun _ => 0))), (q3, .inl (cy.1, 8, .inl (fun _ => 0))), (q4, .inl (cy.1, 8, .inl (fun _ => 0))), (q5, .inl (cy.1, 8, .inl (fun _ => 0))), (q6, .inl (cy.1, 8, .inl (fun _ => 0))), (q7, .inl (cy.1, 8, .inl (fun _ => 0)))]) := hD
  refine va_putF (D := D) (ci := 1) (v := .ref q7) (ty := .array .int) (C := RX1) (T := TX1) (N := 9) hx hb hts g_X1 tyX1 tyX1_ok nmX1 hown hE.1 hP hD hS 0 rfl rfl 6 (by decide) f_30 (fun _ h9 => h9) rfl hin rfl (by decide +kernel) rfl rfl (Nat.le_of_ble_eq_true rfl) dX1_init_57 (fun H locs hP hD hS => ?_)
  have hP : va_P D vwCl ([(a0, .inr (1, [.ref q1, .ref q2, .ref q3, .ref q4, .ref q5, .ref q6, .ref q7, .null, .int 0])), (q1, .inl (cy.1, 8, .inl (fun _ => 0))), (q2, .inl (cy.1, 8, .inl (fun _ => 0))), (q3, .inl (cy.1, 8, .inl (fun _ => 0))), (q4, .inl (cy.1, 8, .inl (fun _ => 0))), (q5, .inl (cy.1, 8, .inl (fun _ => 0))), (q6, .inl (cy.1, 8, .inl (fun _ => 0))), (q7, .inl (cy.1, 8, .inl (fun _ => 0)))]) H := hP
  have hD : va_D A ([(a0, .inr (1, [.ref q1, .ref q2, .ref q3, .ref q4, .ref q5, .ref q6, .ref q7, .null, .int 0])), (q1, .inl (cy.1, 8, .inl (fun _ => 0))), (q2, .inl (cy.1, 8, .inl (fun _ => 0))), (q3, .inl (cy.1, 8, .inl (fun _ => 0))), (q4, .inl (cy.1, 8, .inl (fun _ => 0))), (q5, .inl (cy.1, 8, .inl (fun _ => 0))), (q6, .inl (cy.1, 8, .inl (fun _ => 0))), (q7, .inl (cy.1, 8, .inl (fun _ => 0)))]) := hD
  refine lv_aload_n hx hb dX1_init_60 rfl (lv_at hl 0 rfl) ?_
  refine lv_bipush (v := 8) hx hb dX1_init_61 (by decide) ?_
  refine va_newa (atype := .int) (ty := .int) (N' := 8) (a0 := (8, .inl (fun _ => 0))) hx hb ar_int rfl hE.1 hP hD hS hA (fun _ => rfl) (by decide) (by decide) (Nat.le_of_ble_eq_true rfl) (Nat.le_of_ble_eq_true rfl) (Nat.le_of_ble_eq_true rfl) dX1_init_63 (fun q8 cA H hK1 hP hD hS => ?_)
  have eA := k_clsI hK1
  subst eA
  have hP : va_P D vwCl ([(a0, .inr (1, [.ref q1, .ref q2, .ref q3, .ref q4, .ref q5, .ref q6, .ref q7, .null, .int 0])), (q1, .inl (cy.1, 8, .inl (fun _ => 0))), (q2, .inl (cy.1, 8, .inl (fun _ => 0))), (q3, .inl (cy.1, 8, .inl (fun _ => 0))), (q4, .inl (cy.1, 8, .inl (fun _ => 0))), (q5, .inl (cy.1, 8, .inl (fun _ => 0))), (q6, .inl (cy.1, 8, .inl (fun _ => 0))), (q7, .inl (cy.1, 8, .inl (fun _ => 0))), (q8, .inl (cy.1, 8, .inl (fun _ => 0)))]) H := hP
  have hD : va_D A ([(a0, .inr (1, [.ref q1, .ref q2, .ref q3, .ref q4, .ref q5, .ref q6, .ref q7, .null, .int 0])), (q1, .inl (cy.1, 8, .inl (fun _ => 0))), (q2, .inl (cy.1, 8, .inl (fun _ => 0))), (q3, .inl (cy.1, 8, .inl (fun _ => 0))), (q4, .inl (cy.1, 8, .inl (fun _ => 0))), (q5, .inl (cy.1, 8, .inl (fun _ => 0))), (q6, .inl (cy.1, 8, .inl (fun _ => 0))), (q7, .inl (cy.1, 8, .inl (fun _ => 0))), (q8, .inl (cy.1, 8, .inl (fun _ => 0)))]) := hD
  refine va_putF (D := D) (ci := 1) (v := .ref q8) (ty := .array .int) (C := RX1) (T := TX1) (N := 9) hx hb hts g_X1 tyX1 tyX1_ok nmX1 hown hE.1 hP hD hS 0 rfl rfl 7 (by decide) f_33 (fun _ h9 => h9) rfl hin rfl (by decide +kernel) rfl rfl (Nat.le_of_ble_eq_true rfl) dX1_init_65 (fun H locs hP hD hS => ?_)
  have hP : va_P D vwCl ([(a0, .inr (1, [.ref q1, .ref q2, .ref q3, .ref q4, .ref q5, .ref q6, .ref q7, .ref q8, .int 0])), (q1, .inl (cy.1, 8, .inl (fun _ => 0))), (q2, .inl (cy.1, 8, .inl (fun _ => 0))), (q3, .inl (cy.1, 8, .inl (fun _ => 0))), (q4, .inl (cy.1, 8, .inl (fun _ => 0))), (q5, .inl (cy.1, 8, .inl (fun _ => 0))), (q6, .inl (cy.1, 8, .inl (fun _ => 0))), (q7, .inl (cy.1, 8, .inl (fun _ => 0))), (q8, .inl (cy.1, 8, .inl (fun _ => 0)))]) H := hP
  have hD : va_D A ([(a0, .inr (1, [.ref q1, .ref q2, .ref q3, .ref q4, .ref q5, .ref q6, .ref q7, .ref q8, .int 0])), (q1, .inl (cy.1, 8, .inl (fun _ => 0))), (q2, .inl (cy.1, 8, .inl (fun _ => 0))), (q3, .inl (cy.1, 8, .inl (fun _ => 0))), (q4, .inl (cy.1, 8, .inl (fun _ => 0))), (q5, .inl (cy.1, 8, .inl (fun _ => 0))), (q6, .inl (cy.1, 8, .inl (fun _ => 0))), (q7, .inl (cy.1, 8, .inl (fun _ => 0))), (q8, .inl (cy.1, 8, .inl (fun _ => 0)))]) := hD
  refine lv_aload_n hx hb dX1_init_68 rfl (lv_at hl 0 rfl) ?_
  refine lv_iconst (v := 0) hx hb dX1_init_69 (by decide) ?_
  refine va_put (D := D) (ci := 1) (v := .int 0) (ty := .int) (C := RX1) (T := TX1) (N := 9) hx hb hts g_X1 tyX1 tyX1_ok nmX1 hown hE.1 hP hD hS 0 rfl rfl 8 (by decide) f_36 (fun _ h9 => h9) rfl (by decide +kernel) rfl rfl (Nat.le_of_ble_eq_true rfl) dX1_init_70 (fun H locs hP hD hS => ?_)
  have hP : va_P D vwCl ([(a0, .inr (1, [.ref q1, .ref q2, .ref q3, .ref q4, .ref q5, .ref q6, .ref q7, .ref q8, .int 0])), (q1, .inl (cy.1, 8, .inl (fun _ => 0))), (q2, .inl (cy.1, 8, .inl (fun _ => 0))), (q3, .inl (cy.1, 8, .inl (fun _ => 0))), (q4, .inl (cy.1, 8, .inl (fun _ => 0))), (q5, .inl (cy.1, 8, .inl (fun _ => 0))), (q6, .inl (cy.1, 8, .inl (fun _ => 0))), (q7, .inl (cy.1, 8, .inl (fun _ => 0))), (q8, .inl (cy.1, 8, .inl (fun _ => 0)))]) H := hP
  have hD : va_D A ([(a0, .inr (1, [.ref q1, .ref q2, .ref q3, .ref q4, .ref q5, .ref q6, .ref q7, .ref q8, .int 0])), (q1, .inl (cy.1, 8, .inl (fun _ => 0))), (q2, .inl (cy.1, 8, .inl (fun _ => 0))), (q3, .inl (cy.1, 8, .inl (fun _ => 0))), (q4, .inl (cy.1, 8, .inl (fun _ => 0))), (q5, .inl (cy.1, 8, .inl (fun _ => 0))), (q6, .inl (cy.1, 8, .inl (fun _ => 0))), (q7, .inl (cy.1, 8, .inl (fun _ => 0))), (q8, .inl (cy.1, 8, .inl (fun _ => 0)))]) := hD
  exact hret _ _ _ ls (q1, q2, q3, q4, q5, q6, q7, q8) dX1_init_73 hP hD hS
set_option maxHeartbeats 4000000 in
set_option maxRecDepth 100000 in
theorem c_X0_init (l : Launch) (D : va_G) (cy : ClassId × ClassId × ClassId) (b0 : Nat) : kC l D cy yX0_init wsX0_init (krc 1 7 420 12) [.ref b0] [(b0, .inr (0, [.null, .null, .null, .null, .null, .null, .null, .int 0]))] (fun u : Nat × Nat × Nat × Nat × Nat × Nat × Nat => wC cy b0 u.1 u.2.1 u.2.2.1 u.2.2.2.1 u.2.2.2.2.1 u.2.2.2.2.2.1 u.2.2.2.2.2.2 (fun _ => 0) (fun _ => 0) (fun _ => 0) (fun _ => 0) (fun _ => 0) (fun _ => 0) (fun _ => 0) 0) 7 420 := by
  refine kC.of (cc := cX0_init) (maxL := 1) (by decide) rfl rfl (Nat.le_of_ble_eq_true rfl) ?_
  intro p e s m args below meth c Q A ls hx hb hml hown hin hts hE hA hP hD hl hret
  have hS : va_S A s.heap s.heap [] := va_S.rf
  have hl : lv_has ls 1 [(0, .ref b0)] := hl
  have g_X0 : ∀ w ∈ wsX00, w ∈ wsX0_init := by decide +kernel
  have f_11 := hts (.fieldLink RX0 11 "CertHerd$CertificateTable" "issuerNumbers" "[I") (by decide +kernel)
  have f_15 := hts (.fieldLink RX0 15 "CertHerd$CertificateTable" "subjects" "[I") (by decide +kernel)
  have f_18 := hts (.fieldLink RX0 18 "CertHerd$CertificateTable" "firstDays" "[I") (by decide +kernel)
  have f_21 := hts (.fieldLink RX0 21 "CertHerd$CertificateTable" "lengths" "[I") (by decide +kernel)
  have f_24 := hts (.fieldLink RX0 24 "CertHerd$CertificateTable" "offsets" "[I") (by decide +kernel)
  have f_27 := hts (.fieldLink RX0 27 "CertHerd$CertificateTable" "renewals" "[I") (by decide +kernel)
  have f_30 := hts (.fieldLink RX0 30 "CertHerd$CertificateTable" "queue" "[I") (by decide +kernel)
  have f_33 := hts (.fieldLink RX0 33 "CertHerd$CertificateTable" "count" "I") (by decide +kernel)
  have ar_int := hts (.arrayClass .int) (by decide +kernel)
  refine lv_aload_n hx hb dX0_init_0 rfl (lv_at hl 0 rfl) ?_
  refine W.objInit hx hb hown (hts (.methodLink RX0 3 objectInit) (by decide +kernel)) (hts (.instanceMethod objectInit) (by decide +kernel)) (hts (.code objectInit ⟨#[0xb1]⟩ 1 none) (by decide +kernel)) rfl (by rw [hml]; exact hl.1) rfl dX0_init_1 (Nat.le_of_ble_eq_true rfl) (Nat.le_of_ble_eq_true rfl) ?_
  refine W.eq (g2 := F0 m 4 ls []) rfl ?_
  refine lv_aload_n hx hb dX0_init_4 rfl (lv_at hl 0 rfl) ?_
  refine lv_bipush (v := 60) hx hb dX0_init_5 (by decide) ?_
  refine va_newa (atype := .int) (ty := .int) (N' := 60) (a0 := (60, .inl (fun _ => 0))) hx hb ar_int rfl hE.1 hP hD hS hA (fun _ => rfl) (by decide) (by decide) (Nat.le_of_ble_eq_true rfl) (Nat.le_of_ble_eq_true rfl) (Nat.le_of_ble_eq_true rfl) dX0_init_7 (fun q1 cA H hK1 hP hD hS => ?_)
  have eA := k_clsI hK1
  subst eA
  have hP : va_P D vwCl ([(b0, .inr (0, [.null, .null, .null, .null, .null, .null, .null, .int 0])), (q1, .inl (cy.1, 60, .inl (fun _ => 0)))]) H := hP
  have hD : va_D A ([(b0, .inr (0, [.null, .null, .null, .null, .null, .null, .null, .int 0])), (q1, .inl (cy.1, 60, .inl (fun _ => 0)))]) := hD
  refine va_putF (D := D) (ci := 0) (v := .ref q1) (ty := .array .int) (C := RX0) (T := TX0) (N := 8) hx hb hts g_X0 tyX0 tyX0_ok nmX0 hown hE.1 hP hD hS 0 rfl rfl 0 (by decide) f_11 (fun _ h9 => h9) rfl hin rfl (by decide +kernel) rfl rfl (Nat.le_of_ble_eq_true rfl) dX0_init_9 (fun H locs hP hD hS => ?_)
  have hP : va_P D vwCl ([(b0, .inr (0, [.ref q1, .null, .null, .null, .null, .null, .null, .int 0])), (q1, .inl (cy.1, 60, .inl (fun _ => 0)))]) H := hP
  have hD : va_D A ([(b0, .inr (0, [.ref q1, .null, .null, .null, .null, .null, .null, .int 0])), (q1, .inl (cy.1, 60, .inl (fun _ => 0)))]) := hD
  refine lv_aload_n hx hb dX0_init_12 rfl (lv_at hl 0 rfl) ?_
  refine lv_bipush (v := 60) hx hb dX0_init_13 (by decide) ?_
  refine va_newa (atype := .int) (ty := .int) (N' := 60) (a0 := (60, .inl (fun _ => 0))) hx hb ar_int rfl hE.1 hP hD hS hA (fun _ => rfl) (by decide) (by decide) (Nat.le_of_ble_eq_true rfl) (Nat.le_of_ble_eq_true rfl) (Nat.le_of_ble_eq_true rfl) dX0_init_15 (fun q2 cA H hK1 hP hD hS => ?_)
  have eA := k_clsI hK1
  subst eA
  have hP : va_P D vwCl ([(b0, .inr (0, [.ref q1, .null, .null, .null, .null, .null, .null, .int 0])), (q1, .inl (cy.1, 60, .inl (fun _ => 0))), (q2, .inl (cy.1, 60, .inl (fun _ => 0)))]) H := hP
  have hD : va_D A ([(b0, .inr (0, [.ref q1, .null, .null, .null, .null, .null, .null, .int 0])), (q1, .inl (cy.1, 60, .inl (fun _ => 0))), (q2, .inl (cy.1, 60, .inl (fun _ => 0)))]) := hD
  refine va_putF (D := D) (ci := 0) (v := .ref q2) (ty := .array .int) (C := RX0) (T := TX0) (N := 8) hx hb hts g_X0 tyX0 tyX0_ok nmX0 hown hE.1 hP hD hS 0 rfl rfl 1 (by decide) f_15 (fun _ h9 => h9) rfl hin rfl (by decide +kernel) rfl rfl (Nat.le_of_ble_eq_true rfl) dX0_init_17 (fun H locs hP hD hS => ?_)
  have hP : va_P D vwCl ([(b0, .inr (0, [.ref q1, .ref q2, .null, .null, .null, .null, .null, .int 0])), (q1, .inl (cy.1, 60, .inl (fun _ => 0))), (q2, .inl (cy.1, 60, .inl (fun _ => 0)))]) H := hP
  have hD : va_D A ([(b0, .inr (0, [.ref q1, .ref q2, .null, .null, .null, .null, .null, .int 0])), (q1, .inl (cy.1, 60, .inl (fun _ => 0))), (q2, .inl (cy.1, 60, .inl (fun _ => 0)))]) := hD
  refine lv_aload_n hx hb dX0_init_20 rfl (lv_at hl 0 rfl) ?_
  refine lv_bipush (v := 60) hx hb dX0_init_21 (by decide) ?_
  refine va_newa (atype := .int) (ty := .int) (N' := 60) (a0 := (60, .inl (fun _ => 0))) hx hb ar_int rfl hE.1 hP hD hS hA (fun _ => rfl) (by decide) (by decide) (Nat.le_of_ble_eq_true rfl) (Nat.le_of_ble_eq_true rfl) (Nat.le_of_ble_eq_true rfl) dX0_init_23 (fun q3 cA H hK1 hP hD hS => ?_)
  have eA := k_clsI hK1
  subst eA
  have hP : va_P D vwCl ([(b0, .inr (0, [.ref q1, .ref q2, .null, .null, .null, .null, .null, .int 0])), (q1, .inl (cy.1, 60, .inl (fun _ => 0))), (q2, .inl (cy.1, 60, .inl (fun _ => 0))), (q3, .inl (cy.1, 60, .inl (fun _ => 0)))]) H := hP
  have hD : va_D A ([(b0, .inr (0, [.ref q1, .ref q2, .null, .null, .null, .null, .null, .int 0])), (q1, .inl (cy.1, 60, .inl (fun _ => 0))), (q2, .inl (cy.1, 60, .inl (fun _ => 0))), (q3, .inl (cy.1, 60, .inl (fun _ => 0)))]) := hD
  refine va_putF (D := D) (ci := 0) (v := .ref q3) (ty := .array .int) (C := RX0) (T := TX0) (N := 8) hx hb hts g_X0 tyX0 tyX0_ok nmX0 hown hE.1 hP hD hS 0 rfl rfl 2 (by decide) f_18 (fun _ h9 => h9) rfl hin rfl (by decide +kernel) rfl rfl (Nat.le_of_ble_eq_true rfl) dX0_init_25 (fun H locs hP hD hS => ?_)
  have hP : va_P D vwCl ([(b0, .inr (0, [.ref q1, .ref q2, .ref q3, .null, .null, .null, .null, .int 0])), (q1, .inl (cy.1, 60, .inl (fun _ => 0))), (q2, .inl (cy.1, 60, .inl (fun _ => 0))), (q3, .inl (cy.1, 60, .inl (fun _ => 0)))]) H := hP
  have hD : va_D A ([(b0, .inr (0, [.ref q1, .ref q2, .ref q3, .null, .null, .null, .null, .int 0])), (q1, .inl (cy.1, 60, .inl (fun _ => 0))), (q2, .inl (cy.1, 60, .inl (fun _ => 0))), (q3, .inl (cy.1, 60, .inl (fun _ => 0)))]) := hD
  refine lv_aload_n hx hb dX0_init_28 rfl (lv_at hl 0 rfl) ?_
  refine lv_bipush (v := 60) hx hb dX0_init_29 (by decide) ?_
  refine va_newa (atype := .int) (ty := .int) (N' := 60) (a0 := (60, .inl (fun _ => 0))) hx hb ar_int rfl hE.1 hP hD hS hA (fun _ => rfl) (by decide) (by decide) (Nat.le_of_ble_eq_true rfl) (Nat.le_of_ble_eq_true rfl) (Nat.le_of_ble_eq_true rfl) dX0_init_31 (fun q4 cA H hK1 hP hD hS => ?_)
  have eA := k_clsI hK1
  subst eA
  have hP : va_P D vwCl ([(b0, .inr (0, [.ref q1, .ref q2, .ref q3, .null, .null, .null, .null, .int 0])), (q1, .inl (cy.1, 60, .inl (fun _ => 0))), (q2, .inl (cy.1, 60, .inl (fun _ => 0))), (q3, .inl (cy.1, 60, .inl (fun _ => 0))), (q4, .inl (cy.1, 60, .inl (fun _ => 0)))]) H := hP
  have hD : va_D A ([(b0, .inr (0, [.ref q1, .ref q2, .ref q3, .null, .null, .null, .null, .int 0])), (q1, .inl (cy.1, 60, .inl (fun _ => 0))), (q2, .inl (cy.1, 60, .inl (fun _ => 0))), (q3, .inl (cy.1, 60, .inl (fun _ => 0))), (q4, .inl (cy.1, 60, .inl (fun _ => 0)))]) := hD
  refine va_putF (D := D) (ci := 0) (v := .ref q4) (ty := .array .int) (C := RX0) (T := TX0) (N := 8) hx hb hts g_X0 tyX0 tyX0_ok nmX0 hown hE.1 hP hD hS 0 rfl rfl 3 (by decide) f_21 (fun _ h9 => h9) rfl hin rfl (by decide +kernel) rfl rfl (Nat.le_of_ble_eq_true rfl) dX0_init_33 (fun H locs hP hD hS => ?_)
  have hP : va_P D vwCl ([(b0, .inr (0, [.ref q1, .ref q2, .ref q3, .ref q4, .null, .null, .null, .int 0])), (q1, .inl (cy.1, 60, .inl (fun _ => 0))), (q2, .inl (cy.1, 60, .inl (fun _ => 0))), (q3, .inl (cy.1, 60, .inl (fun _ => 0))), (q4, .inl (cy.1, 60, .inl (fun _ => 0)))]) H := hP
  have hD : va_D A ([(b0, .inr (0, [.ref q1, .ref q2, .ref q3, .ref q4, .null, .null, .null, .int 0])), (q1, .inl (cy.1, 60, .inl (fun _ => 0))), (q2, .inl (cy.1, 60, .inl (fun _ => 0))), (q3, .inl (cy.1, 60, .inl (fun _ => 0))), (q4, .inl (cy.1, 60, .inl (fun _ => 0)))]) := hD
  refine lv_aload_n hx hb dX0_init_36 rfl (lv_at hl 0 rfl) ?_
  refine lv_bipush (v := 60) hx hb dX0_init_37 (by decide) ?_
  refine va_newa (atype := .int) (ty := .int) (N' := 60) (a0 := (60, .inl (fun _ => 0))) hx hb ar_int rfl hE.1 hP hD hS hA (fun _ => rfl) (by decide) (by decide) (Nat.le_of_ble_eq_true rfl) (Nat.le_of_ble_eq_true rfl) (Nat.le_of_ble_eq_true rfl) dX0_init_39 (fun q5 cA H hK1 hP hD hS => ?_)
  have eA := k_clsI hK1
  subst eA
  have hP : va_P D vwCl ([(b0, .inr (0, [.ref q1, .ref q2, .ref q3, .ref q4, .null, .null, .null, .int 0])), (q1, .inl (cy.1, 60, .inl (fun _ => 0))), (q2, .inl (cy.1, 60, .inl (fun _ => 0))), (q3, .inl (cy.1, 60, .inl (fun _ => 0))), (q4, .inl (cy.1, 60, .inl (fun _ => 0))), (q5, .inl (cy.1, 60, .inl (fun _ => 0)))]) H := hP
  have hD : va_D A ([(b0, .inr (0, [.ref q1, .ref q2, .ref q3, .ref q4, .null, .null, .null, .int 0])), (q1, .inl (cy.1, 60, .inl (fun _ => 0))), (q2, .inl (cy.1, 60, .inl (fun _ => 0))), (q3, .inl (cy.1, 60, .inl (fun _ => 0))), (q4, .inl (cy.1, 60, .inl (fun _ => 0))), (q5, .inl (cy.1, 60, .inl (fun _ => 0)))]) := hD
  refine va_putF (D := D) (ci := 0) (v := .ref q5) (ty := .array .int) (C := RX0) (T := TX0) (N := 8) hx hb hts g_X0 tyX0 tyX0_ok nmX0 hown hE.1 hP hD hS 0 rfl rfl 4 (by decide) f_24 (fun _ h9 => h9) rfl hin rfl (by decide +kernel) rfl rfl (Nat.le_of_ble_eq_true rfl) dX0_init_41 (fun H locs hP hD hS => ?_)
  have hP : va_P D vwCl ([(b0, .inr (0, [.ref q1, .ref q2, .ref q3, .ref q4, .ref q5, .null, .null, .int 0])), (q1, .inl (cy.1, 60, .inl (fun _ => 0))), (q2, .inl (cy.1, 60, .inl (fun _ => 0))), (q3, .inl (cy.1, 60, .inl (fun _ => 0))), (q4, .inl (cy.1, 60, .inl (fun _ => 0))), (q5, .inl (cy.1, 60, .inl (fun _ => 0)))]) H := hP
  have hD : va_D A ([(b0, .inr (0, [.ref q1, .ref q2, .ref q3, .ref q4, .ref q5, .null, .null, .int 0])), (q1, .inl (cy.1, 60, .inl (fun _ => 0))), (q2, .inl (cy.1, 60, .inl (fun _ => 0))), (q3, .inl (cy.1, 60, .inl (fun _ => 0))), (q4, .inl (cy.1, 60, .inl (fun _ => 0))), (q5, .inl (cy.1, 60, .inl (fun _ => 0)))]) := hD
  refine lv_aload_n hx hb dX0_init_44 rfl (lv_at hl 0 rfl) ?_
  refine lv_bipush (v := 60) hx hb dX0_init_45 (by decide) ?_
  refine va_newa (atype := .int) (ty := .int) (N' := 60) (a0 := (60, .inl (fun _ => 0))) hx hb ar_int rfl hE.1 hP hD hS hA (fun _ => rfl) (by decide) (by decide) (Nat.le_of_ble_eq_true rfl) (Nat.le_of_ble_eq_true rfl) (Nat.le_of_ble_eq_true rfl) dX0_init_47 (fun q6 cA H hK1 hP hD hS => ?_)
  have eA := k_clsI hK1
  subst eA
  have hP : va_P D vwCl ([(b0, .inr (0, [.ref q1, .ref q2, .ref q3, .ref q4, .ref q5, .null, .null, .int 0])), (q1, .inl (cy.1, 60, .inl (fun _ => 0))), (q2, .inl (cy.1, 60, .inl (fun _ => 0))), (q3, .inl (cy.1, 60, .inl (fun _ => 0))), (q4, .inl (cy.1, 60, .inl (fun _ => 0))), (q5, .inl (cy.1, 60, .inl (fun _ => 0))), (q6, .inl (cy.1, 60, .inl (fun _ => 0)))]) H := hP
  have hD : va_D A ([(b0, .inr (0, [.ref q1, .ref q2, .ref q3, .ref q4, .ref q5, .null, .null, .int 0])), (q1, .inl (cy.1, 60, .inl (fun _ => 0))), (q2, .inl (cy.1, 60, .inl (fun _ => 0))), (q3, .inl (cy.1, 60, .inl (fun _ => 0))), (q4, .inl (cy.1, 60, .inl (fun _ => 0))), (q5, .inl (cy.1, 60, .inl (fun _ => 0))), (q6, .inl (cy.1, 60, .inl (fun _ => 0)))]) := hD
  refine va_putF (D := D) (ci := 0) (v := .ref q6) (ty := .array .int) (C := RX0) (T := TX0) (N := 8) hx hb hts g_X0 tyX0 tyX0_ok nmX0 hown hE.1 hP hD hS 0 rfl rfl 5 (by decide) f_27 (fun _ h9 => h9) rfl hin rfl (by decide +kernel) rfl rfl (Nat.le_of_ble_eq_true rfl) dX0_init_49 (fun H locs hP hD hS => ?_)
  have hP : va_P D vwCl ([(b0, .inr (0, [.ref q1, .ref q2, .ref q3, .ref q4, .ref q5, .ref q6, .null, .int 0])), (q1, .inl (cy.1, 60, .inl (fun _ => 0))), (q2, .inl (cy.1, 60, .inl (fun _ => 0))), (q3, .inl (cy.1, 60, .inl (fun _ => 0))), (q4, .inl (cy.1, 60, .inl (fun _ => 0))), (q5, .inl (cy.1, 60, .inl (fun _ => 0))), (q6, .inl (cy.1, 60, .inl (fun _ => 0)))]) H := hP
  have hD : va_D A ([(b0, .inr (0, [.ref q1, .ref q2, .ref q3, .ref q4, .ref q5, .ref q6, .null, .int 0])), (q1, .inl (cy.1, 60, .inl (fun _ => 0))), (q2, .inl (cy.1, 60, .inl (fun _ => 0))), (q3, .inl (cy.1, 60, .inl (fun _ => 0))), (q4, .inl (cy.1, 60, .inl (fun _ => 0))), (q5, .inl (cy.1, 60, .inl (fun _ => 0))), (q6, .inl (cy.1, 60, .inl (fun _ => 0)))]) := hD
  refine lv_aload_n hx hb dX0_init_52 rfl (lv_at hl 0 rfl) ?_
  refine lv_bipush (v := 60) hx hb dX0_init_53 (by decide) ?_
  refine va_newa (atype := .int) (ty := .int) (N' := 60) (a0 := (60, .inl (fun _ => 0))) hx hb ar_int rfl hE.1 hP hD hS hA (fun _ => rfl) (by decide) (by decide) (Nat.le_of_ble_eq_true rfl) (Nat.le_of_ble_eq_true rfl) (Nat.le_of_ble_eq_true rfl) dX0_init_55 (fun q7 cA H hK1 hP hD hS => ?_)
  have eA := k_clsI hK1
  subst eA
  have hP : va_P D vwCl ([(b0, .inr (0, [.ref q1, .ref q2, .ref q3, .ref q4, .ref q5, .ref q6, .null, .int 0])), (q1, .inl (cy.1, 60, .inl (fun _ => 0))), (q2, .inl (cy.1, 60, .inl (fun _ => 0))), (q3, .inl (cy.1, 60, .inl (fun _ => 0))), (q4, .inl (cy.1, 60, .inl (fun _ => 0))), (q5, .inl (cy.1, 60, .inl (fun _ => 0))), (q6, .inl (cy.1, 60, .inl (fun _ => 0))), (q7, .inl (cy.1, 60, .inl (fun _ => 0)))]) H := hP
  have hD : va_D A ([(b0, .inr (0, [.ref q1, .ref q2, .ref q3, .ref q4, .ref q5, .ref q6, .null, .int 0])), (q1, .inl (cy.1, 60, .inl (fun _ => 0))), (q2, .inl (cy.1, 60, .inl (fun _ => 0))), (q3, .inl (cy.1, 60, .inl (fun _ => 0))), (q4, .inl (cy.1, 60, .inl (fun _ => 0))), (q5, .inl (cy.1, 60, .inl (fun _ => 0))), (q6, .inl (cy.1, 60, .inl (fun _ => 0))), (q7, .inl (cy.1, 60, .inl (fun _ => 0)))]) := hD
  refine va_putF (D := D) (ci := 0) (v := .ref q7) (ty := .array .int) (C := RX0) (T := TX0) (N := 8) hx hb hts g_X0 tyX0 tyX0_ok nmX0 hown hE.1 hP hD hS 0 rfl rfl 6 (by decide) f_30 (fun _ h9 => h9) rfl hin rfl (by decide +kernel) rfl rfl (Nat.le_of_ble_eq_true rfl) dX0_init_57 (fun H locs hP hD hS => ?_)
  have hP : va_P D vwCl ([(b0, .inr (0, [.ref q1, .ref q2, .ref q3, .ref q4, .ref q5, .ref q6, .ref q7, .int 0])), (q1, .inl (cy.1, 60, .inl (fun _ => 0))), (q2, .inl (cy.1, 60, .inl (fun _ => 0))), (q3, .inl (cy.1, 60, .inl (fun _ => 0))), (q4, .inl (cy.1, 60, .inl (fun _ => 0))), (q5, .inl (cy.1, 60, .inl (fun _ => 0))), (q6, .inl (cy.1, 60, .inl (fun _ => 0))), (q7, .inl (cy.1, 60, .inl (fun _ => 0)))]) H := hP
  have hD : va_D A ([(b0, .inr (0, [.ref q1, .ref q2, .ref q3, .ref q4, .ref q5, .ref q6, .ref q7, .int 0])), (q1, .inl (cy.1, 60, .inl (fun _ => 0))), (q2, .inl (cy.1, 60, .inl (fun _ => 0))), (q3, .inl (cy.1, 60, .inl (fun _ => 0))), (q4, .inl (cy.1, 60, .inl (fun _ => 0))), (q5, .inl (cy.1, 60, .inl (fun _ => 0))), (q6, .inl (cy.1, 60, .inl (fun _ => 0))), (q7, .inl (cy.1, 60, .inl (fun _ => 0)))]) := hD
  refine lv_aload_n hx hb dX0_init_60 rfl (lv_at hl 0 rfl) ?_
  refine lv_iconst (v := 0) hx hb dX0_init_61 (by decide) ?_
  refine va_put (D := D) (ci := 0) (v := .int 0) (ty := .int) (C := RX0) (T := TX0) (N := 8) hx hb hts g_X0 tyX0 tyX0_ok nmX0 hown hE.1 hP hD hS 0 rfl rfl 7 (by decide) f_33 (fun _ h9 => h9) rfl (by decide +kernel) rfl rfl (Nat.le_of_ble_eq_true rfl) dX0_init_62 (fun H locs hP hD hS => ?_)
  have hP : va_P D vwCl ([(b0, .inr (0, [.ref q1, .ref q2, .ref q3, .ref q4, .ref q5, .ref q6, .ref q7, .int 0])), (q1, .inl (cy.1, 60, .inl (fun _ => 0))), (q2, .inl (cy.1, 60, .inl (fun _ => 0))), (q3, .inl (cy.1, 60, .inl (fun _ => 0))), (q4, .inl (cy.1, 60, .inl (fun _ => 0))), (q5, .inl (cy.1, 60, .inl (fun _ => 0))), (q6, .inl (cy.1, 60, .inl (fun _ => 0))), (q7, .inl (cy.1, 60, .inl (fun _ => 0)))]) H := hP
  have hD : va_D A ([(b0, .inr (0, [.ref q1, .ref q2, .ref q3, .ref q4, .ref q5, .ref q6, .ref q7, .int 0])), (q1, .inl (cy.1, 60, .inl (fun _ => 0))), (q2, .inl (cy.1, 60, .inl (fun _ => 0))), (q3, .inl (cy.1, 60, .inl (fun _ => 0))), (q4, .inl (cy.1, 60, .inl (fun _ => 0))), (q5, .inl (cy.1, 60, .inl (fun _ => 0))), (q6, .inl (cy.1, 60, .inl (fun _ => 0))), (q7, .inl (cy.1, 60, .inl (fun _ => 0)))]) := hD
  exact hret _ _ _ ls (q1, q2, q3, q4, q5, q6, q7) dX0_init_65 hP hD hS
set_option maxHeartbeats 4000000 in
set_option maxRecDepth 100000 in
theorem c_X2_init (l : Launch) (D : va_G) (cy : ClassId × ClassId × ClassId) (h0 : Nat) : kC l D cy yX2_init wsX2_init (krc 2 18 517 32) [.ref h0] [(h0, .inr (2, [.null, .null, .null, .int 0, .int 0]))] (fun u : Nat × Nat × Nat × Nat × Nat × Nat × Nat × Nat × Nat × Nat × Nat × Nat × Nat × Nat × Nat × Nat × Nat × Nat => wH cy h0 u.2.2.2.2.2.2.2.2.2.2.2.2.2.2.2.2.2 u.1 u.2.1 u.2.2.1 u.2.2.2.1 u.2.2.2.2.1 u.2.2.2.2.2.1 u.2.2.2.2.2.2.1 u.2.2.2.2.2.2.2.1 u.2.2.2.2.2.2.2.2.1 u.2.2.2.2.2.2.2.2.2.1 u.2.2.2.2.2.2.2.2.2.2.1 u.2.2.2.2.2.2.2.2.2.2.2.1 u.2.2.2.2.2.2.2.2.2.2.2.2.1 u.2.2.2.2.2.2.2.2.2.2.2.2.2.1 u.2.2.2.2.2.2.2.2.2.2.2.2.2.2.1 u.2.2.2.2.2.2.2.2.2.2.2.2.2.2.2.1 u.2.2.2.2.2.2.2.2.2.2.2.2.2.2.2.2.1 (fun _ => 0) (fun _ => 0) (fun _ => 0) (fun _ => 0) (fun _ => 0) (fun _ => 0) (fun _ => 0) (fun _ => 0) 0 (fun _ => 0) (fun _ => 0) (fun _ => 0) (fun _ => 0) (fun _ => 0) (fun _ => 0) (fun _ => 0) 0 (fun _ => 0) 1 0) 18 517 := by
  refine kC.of (cc := cX2_init) (maxL := 1) (by decide) rfl rfl (Nat.le_of_ble_eq_true rfl) ?_
  intro p e s m args below meth c Q A ls hx hb hml hown hin hts hE hA hP hD hl hret
  have hS : va_S A s.heap s.heap [] := va_S.rf
  have hl : lv_has ls 1 [(0, .ref h0)] := hl
  have g_X2 : ∀ w ∈ wsX20, w ∈ wsX2_init := by decide +kernel
  have f_10 := hts (.fieldLink RX2 10 "CertHerd" "issuerTable" "LCertHerd$IssuerTable;") (by decide +kernel)
  have f_19 := hts (.fieldLink RX2 19 "CertHerd" "certificateTable" "LCertHerd$CertificateTable;") (by decide +kernel)
  have f_23 := hts (.fieldLink RX2 23 "CertHerd" "pinsOfName" "[I") (by decide +kernel)
  have f_27 := hts (.fieldLink RX2 27 "CertHerd" "seedNow" "I") (by decide +kernel)
  have f_31 := hts (.fieldLink RX2 31 "CertHerd" "dayNow" "I") (by decide +kernel)
  have g_X1 : ∀ w ∈ wsX10, w ∈ wsX2_init := by decide +kernel
  have g_X0 : ∀ w ∈ wsX00, w ∈ wsX2_init := by decide +kernel
  have ar_int := hts (.arrayClass .int) (by decide +kernel)
  refine lv_aload_n hx hb dX2_init_0 rfl (lv_at hl 0 rfl) ?_
  refine W.objInit hx hb hown (hts (.methodLink RX2 1 objectInit) (by decide +kernel)) (hts (.instanceMethod objectInit) (by decide +kernel)) (hts (.code objectInit ⟨#[0xb1]⟩ 1 none) (by decide +kernel)) rfl (by rw [hml]; exact hl.1) rfl dX2_init_1 (Nat.le_of_ble_eq_true rfl) (Nat.le_of_ble_eq_true rfl) ?_
  refine W.eq (g2 := F0 m 4 ls []) rfl ?_
  refine lv_aload_n hx hb dX2_init_4 rfl (lv_at hl 0 rfl) ?_
  refine va_new (ci := 1) (fs := [.null, .null, .null, .null, .null, .null, .null, .null, .int 0]) (C := RX1) (T := TX1) (N := 9) hx hb hts g_X1 tyX1 tyX1_ok hown (hts (.classLink RX2 7 RX1) (by decide +kernel)) (hts (.instantiable RX1 9) (by decide +kernel)) (hts (.initialized RX1) (by decide +kernel)) hE.1 hP hD hS hA rfl (fun j hj => by rcases (show j = 0 ∨ j = 1 ∨ j = 2 ∨ j = 3 ∨ j = 4 ∨ j = 5 ∨ j = 6 ∨ j = 7 ∨ j = 8 by omega) with rfl | rfl | rfl | rfl | rfl | rfl | rfl | rfl | rfl <;> rfl) (Nat.le_of_ble_eq_true rfl) (Nat.le_of_ble_eq_true rfl) dX2_init_5 (fun a0 H hP hD hS => ?_)
  refine lv_dup hx hb dX2_init_8 rfl ?_
  refine kcNC (X := [(h0, .inr (2, [.null, .null, .null, .int 0, .int 0]))]) (wc := [(a0, .inr (1, [.null, .null, .null, .null, .null, .null, .null, .null, .int 0]))]) (rest := [.ref a0, .ref h0]) ⟨hx, hb, hml, hown, hts⟩ hE hA hP hD hS (c_X1_init l D cy a0) hE.2.2.2.2.2.2.2.2.2.2.2.1 rfl (hts (.instanceMethod yX1_init) (by decide +kernel)) (hts (.initialized RX1) (by decide +kernel)) gX2_init_X1_init_n9 rfl rfl rfl ⟨by decide, by decide, by decide +kernel⟩ ⟨(Nat.le_of_ble_eq_true rfl), (Nat.le_of_ble_eq_true rfl)⟩ hl.1 rfl (Nat.le_of_ble_eq_true rfl) dX2_init_9 ⟨(Nat.le_of_ble_eq_true rfl), (Nat.le_of_ble_eq_true rfl)⟩ (fun u H locs hP hD hS => ?_)
  obtain ⟨a1, a2, a3, a4, a5, a6, a7, a8⟩ := u
  have hP : va_P D vwCl ([(h0, .inr (2, [.null, .null, .null, .int 0, .int 0]))] ++ wT cy a0 a1 a2 a3 a4 a5 a6 a7 a8 (fun _ => 0) (fun _ => 0) (fun _ => 0) (fun _ => 0) (fun _ => 0) (fun _ => 0) (fun _ => 0) (fun _ => 0) 0) H := hP
  have hD : va_D A ([(h0, .inr (2, [.null, .null, .null, .int 0, .int 0]))] ++ wT cy a0 a1 a2 a3 a4 a5 a6 a7 a8 (fun _ => 0) (fun _ => 0) (fun _ => 0) (fun _ => 0) (fun _ => 0) (fun _ => 0) (fun _ => 0) (fun _ => 0) 0) := hD
  refine va_putF (D := D) (ci := 2) (v := .ref a0) (ty := .object "CertHerd$IssuerTable") (C := RX2) (T := TX2) (N := 5) hx hb hts g_X2 tyX2 tyX2_ok nmX2 hown hE.1 hP hD hS 0 rfl rfl 0 (by decide) f_10 (fun _ h9 => h9) rfl hin rfl (by decide +kernel) rfl rfl (Nat.le_of_ble_eq_true rfl) dX2_init_12 (fun H locs hP hD hS => ?_)
  have hP : va_P D vwCl ([(h0, .inr (2, [.ref a0, .null, .null, .int 0, .int 0]))] ++ wT cy a0 a1 a2 a3 a4 a5 a6 a7 a8 (fun _ => 0) (fun _ => 0) (fun _ => 0) (fun _ => 0) (fun _ => 0) (fun _ => 0) (fun _ => 0) (fun _ => 0) 0) H := hP
  have hD : va_D A ([(h0, .inr (2, [.ref a0, .null, .null, .int 0, .int 0]))] ++ wT cy a0 a1 a2 a3 a4 a5 a6 a7 a8 (fun _ => 0) (fun _ => 0) (fun _ => 0) (fun _ => 0) (fun _ => 0) (fun _ => 0) (fun _ => 0) (fun _ => 0) 0) := hD
  refine lv_aload_n hx hb dX2_init_15 rfl (lv_at hl 0 rfl) ?_
  refine va_new (ci := 0) (fs := [.null, .null, .null, .null, .null, .null, .null, .int 0]) (C := RX0) (T := TX0) (N := 8) hx hb hts g_X0 tyX0 tyX0_ok hown (hts (.classLink RX2 16 RX0) (by decide +kernel)) (hts (.instantiable RX0 8) (by decide +kernel)) (hts (.initialized RX0) (by decide +kernel)) hE.1 hP hD hS hA rfl (fun j hj => by rcases (show j = 0 ∨ j = 1 ∨ j = 2 ∨ j = 3 ∨ j = 4 ∨ j = 5 ∨ j = 6 ∨ j = 7 by omega) with rfl | rfl | rfl | rfl | rfl | rfl | rfl | rfl <;> rfl) (Nat.le_of_ble_eq_true rfl) (Nat.le_of_ble_eq_true rfl) dX2_init_16 (fun b0 H hP hD hS => ?_)
  refine lv_dup hx hb dX2_init_19 rfl ?_
  refine kcNC (X := [(h0, .inr (2, [.ref a0, .null, .null, .int 0, .int 0]))] ++ wT cy a0 a1 a2 a3 a4 a5 a6 a7 a8 (fun _ => 0) (fun _ => 0) (fun _ => 0) (fun _ => 0) (fun _ => 0) (fun _ => 0) (fun _ => 0) (fun _ => 0) 0) (wc := [(b0, .inr (0, [.null, .null, .null, .null, .null, .null, .null, .int 0]))]) (rest := [.ref b0, .ref h0]) ⟨hx, hb, hml, hown, hts⟩ hE hA hP hD hS (c_X0_init l D cy b0) hE.2.2.2.2.2.2.2.2.2.2.2.2 rfl (hts (.instanceMethod yX0_init) (by decide +kernel)) (hts (.initialized RX0) (by decide +kernel)) gX2_init_X0_init_n18 rfl rfl rfl ⟨by decide, by decide, by decide +kernel⟩ ⟨(Nat.le_of_ble_eq_true rfl), (Nat.le_of_ble_eq_true rfl)⟩ hl.1 rfl (Nat.le_of_ble_eq_true rfl) dX2_init_20 ⟨(Nat.le_of_ble_eq_true rfl), (Nat.le_of_ble_eq_true rfl)⟩ (fun u H locs hP hD hS => ?_)
  obtain ⟨b1, b2, b3, b4, b5, b6, b7⟩ := u
  have hP : va_P D vwCl (([(h0, .inr (2, [.ref a0, .null, .null, .int 0, .int 0]))] ++ wT cy a0 a1 a2 a3 a4 a5 a6 a7 a8 (fun _ => 0) (fun _ => 0) (fun _ => 0) (fun _ => 0) (fun _ => 0) (fun _ => 0) (fun _ => 0) (fun _ => 0) 0) ++ wC cy b0 b1 b2 b3 b4 b5 b6 b7 (fun _ => 0) (fun _ => 0) (fun _ => 0) (fun _ => 0) (fun _ => 0) (fun _ => 0) (fun _ => 0) 0) H := hP
  have hD : va_D A (([(h0, .inr (2, [.ref a0, .null, .null, .int 0, .int 0]))] ++ wT cy a0 a1 a2 a3 a4 a5 a6 a7 a8 (fun _ => 0) (fun _ => 0) (fun _ => 0) (fun _ => 0) (fun _ => 0) (fun _ => 0) (fun _ => 0) (fun _ => 0) 0) ++ wC cy b0 b1 b2 b3 b4 b5 b6 b7 (fun _ => 0) (fun _ => 0) (fun _ => 0) (fun _ => 0) (fun _ => 0) (fun _ => 0) (fun _ => 0) 0) := hD
  refine va_putF (D := D) (ci := 2) (v := .ref b0) (ty := .object "CertHerd$CertificateTable") (C := RX2) (T := TX2) (N := 5) hx hb hts g_X2 tyX2 tyX2_ok nmX2 hown hE.1 hP hD hS 0 rfl rfl 1 (by decide) f_19 (fun _ h9 => h9) rfl hin rfl (by decide +kernel) rfl rfl (Nat.le_of_ble_eq_true rfl) dX2_init_23 (fun H locs hP hD hS => ?_)
  have hP : va_P D vwCl (([(h0, .inr (2, [.ref a0, .ref b0, .null, .int 0, .int 0]))] ++ wT cy a0 a1 a2 a3 a4 a5 a6 a7 a8 (fun _ => 0) (fun _ => 0) (fun _ => 0) (fun _ => 0) (fun _ => 0) (fun _ => 0) (fun _ => 0) (fun _ => 0) 0) ++ wC cy b0 b1 b2 b3 b4 b5 b6 b7 (fun _ => 0) (fun _ => 0) (fun _ => 0) (fun _ => 0) (fun _ => 0) (fun _ => 0) (fun _ => 0) 0) H := hP
  have hD : va_D A (([(h0, .inr (2, [.ref a0, .ref b0, .null, .int 0, .int 0]))] ++ wT cy a0 a1 a2 a3 a4 a5 a6 a7 a8 (fun _ => 0) (fun _ => 0) (fun _ => 0) (fun _ => 0) (fun _ => 0) (fun _ => 0) (fun _ => 0) (fun _ => 0) 0) ++ wC cy b0 b1 b2 b3 b4 b5 b6 b7 (fun _ => 0) (fun _ => 0) (fun _ => 0) (fun _ => 0) (fun _ => 0) (fun _ => 0) (fun _ => 0) 0) := hD
  refine lv_aload_n hx hb dX2_init_26 rfl (lv_at hl 0 rfl) ?_
  refine lv_bipush (v := 16) hx hb dX2_init_27 (by decide) ?_
  refine va_newa (atype := .int) (ty := .int) (N' := 16) (a0 := (16, .inl (fun _ => 0))) hx hb ar_int rfl hE.1 hP hD hS hA (fun _ => rfl) (by decide) (by decide) (Nat.le_of_ble_eq_true rfl) (Nat.le_of_ble_eq_true rfl) (Nat.le_of_ble_eq_true rfl) dX2_init_29 (fun pn cA H hK1 hP hD hS => ?_)
  have eA := k_clsI hK1
  subst eA
  have hP : va_P D vwCl ((([(h0, .inr (2, [.ref a0, .ref b0, .null, .int 0, .int 0]))] ++ wT cy a0 a1 a2 a3 a4 a5 a6 a7 a8 (fun _ => 0) (fun _ => 0) (fun _ => 0) (fun _ => 0) (fun _ => 0) (fun _ => 0) (fun _ => 0) (fun _ => 0) 0) ++ wC cy b0 b1 b2 b3 b4 b5 b6 b7 (fun _ => 0) (fun _ => 0) (fun _ => 0) (fun _ => 0) (fun _ => 0) (fun _ => 0) (fun _ => 0) 0) ++ [(pn, .inl (cy.1, 16, .inl (fun _ => 0)))]) H := hP
  have hD : va_D A ((([(h0, .inr (2, [.ref a0, .ref b0, .null, .int 0, .int 0]))] ++ wT cy a0 a1 a2 a3 a4 a5 a6 a7 a8 (fun _ => 0) (fun _ => 0) (fun _ => 0) (fun _ => 0) (fun _ => 0) (fun _ => 0) (fun _ => 0) (fun _ => 0) 0) ++ wC cy b0 b1 b2 b3 b4 b5 b6 b7 (fun _ => 0) (fun _ => 0) (fun _ => 0) (fun _ => 0) (fun _ => 0) (fun _ => 0) (fun _ => 0) 0) ++ [(pn, .inl (cy.1, 16, .inl (fun _ => 0)))]) := hD
  refine va_putF (D := D) (ci := 2) (v := .ref pn) (ty := .array .int) (C := RX2) (T := TX2) (N := 5) hx hb hts g_X2 tyX2 tyX2_ok nmX2 hown hE.1 hP hD hS 0 rfl rfl 2 (by decide) f_23 (fun _ h9 => h9) rfl hin rfl (by decide +kernel) rfl rfl (Nat.le_of_ble_eq_true rfl) dX2_init_31 (fun H locs hP hD hS => ?_)
  have hP : va_P D vwCl ((([(h0, .inr (2, [.ref a0, .ref b0, .ref pn, .int 0, .int 0]))] ++ wT cy a0 a1 a2 a3 a4 a5 a6 a7 a8 (fun _ => 0) (fun _ => 0) (fun _ => 0) (fun _ => 0) (fun _ => 0) (fun _ => 0) (fun _ => 0) (fun _ => 0) 0) ++ wC cy b0 b1 b2 b3 b4 b5 b6 b7 (fun _ => 0) (fun _ => 0) (fun _ => 0) (fun _ => 0) (fun _ => 0) (fun _ => 0) (fun _ => 0) 0) ++ [(pn, .inl (cy.1, 16, .inl (fun _ => 0)))]) H := hP
  have hD : va_D A ((([(h0, .inr (2, [.ref a0, .ref b0, .ref pn, .int 0, .int 0]))] ++ wT cy a0 a1 a2 a3 a4 a5 a6 a7 a8 (fun _ => 0) (fun _ => 0) (fun _ => 0) (fun _ => 0) (fun _ => 0) (fun _ => 0) (fun _ => 0) (fun _ => 0) 0) ++ wC cy b0 b1 b2 b3 b4 b5 b6 b7 (fun _ => 0) (fun _ => 0) (fun _ => 0) (fun _ => 0) (fun _ => 0) (fun _ => 0) (fun _ => 0) 0) ++ [(pn, .inl (cy.1, 16, .inl (fun _ => 0)))]) := hD
  refine lv_aload_n hx hb dX2_init_34 rfl (lv_at hl 0 rfl) ?_
  refine lv_iconst (v := 1) hx hb dX2_init_35 (by decide) ?_
  refine va_put (D := D) (ci := 2) (v := .int 1) (ty := .int) (C := RX2) (T := TX2) (N := 5) hx hb hts g_X2 tyX2 tyX2_ok nmX2 hown hE.1 hP hD hS 0 rfl rfl 3 (by decide) f_27 (fun _ h9 => h9) rfl (by decide +kernel) rfl rfl (Nat.le_of_ble_eq_true rfl) dX2_init_36 (fun H locs hP hD hS => ?_)
  have hP : va_P D vwCl ((([(h0, .inr (2, [.ref a0, .ref b0, .ref pn, .int 1, .int 0]))] ++ wT cy a0 a1 a2 a3 a4 a5 a6 a7 a8 (fun _ => 0) (fun _ => 0) (fun _ => 0) (fun _ => 0) (fun _ => 0) (fun _ => 0) (fun _ => 0) (fun _ => 0) 0) ++ wC cy b0 b1 b2 b3 b4 b5 b6 b7 (fun _ => 0) (fun _ => 0) (fun _ => 0) (fun _ => 0) (fun _ => 0) (fun _ => 0) (fun _ => 0) 0) ++ [(pn, .inl (cy.1, 16, .inl (fun _ => 0)))]) H := hP
  have hD : va_D A ((([(h0, .inr (2, [.ref a0, .ref b0, .ref pn, .int 1, .int 0]))] ++ wT cy a0 a1 a2 a3 a4 a5 a6 a7 a8 (fun _ => 0) (fun _ => 0) (fun _ => 0) (fun _ => 0) (fun _ => 0) (fun _ => 0) (fun _ => 0) (fun _ => 0) 0) ++ wC cy b0 b1 b2 b3 b4 b5 b6 b7 (fun _ => 0) (fun _ => 0) (fun _ => 0) (fun _ => 0) (fun _ => 0) (fun _ => 0) (fun _ => 0) 0) ++ [(pn, .inl (cy.1, 16, .inl (fun _ => 0)))]) := hD
  refine lv_aload_n hx hb dX2_init_39 rfl (lv_at hl 0 rfl) ?_
  refine lv_iconst (v := 0) hx hb dX2_init_40 (by decide) ?_
  refine va_put (D := D) (ci := 2) (v := .int 0) (ty := .int) (C := RX2) (T := TX2) (N := 5) hx hb hts g_X2 tyX2 tyX2_ok nmX2 hown hE.1 hP hD hS 0 rfl rfl 4 (by decide) f_31 (fun _ h9 => h9) rfl (by decide +kernel) rfl rfl (Nat.le_of_ble_eq_true rfl) dX2_init_41 (fun H locs hP hD hS => ?_)
  have hP : va_P D vwCl ((([(h0, .inr (2, [.ref a0, .ref b0, .ref pn, .int 1, .int 0]))] ++ wT cy a0 a1 a2 a3 a4 a5 a6 a7 a8 (fun _ => 0) (fun _ => 0) (fun _ => 0) (fun _ => 0) (fun _ => 0) (fun _ => 0) (fun _ => 0) (fun _ => 0) 0) ++ wC cy b0 b1 b2 b3 b4 b5 b6 b7 (fun _ => 0) (fun _ => 0) (fun _ => 0) (fun _ => 0) (fun _ => 0) (fun _ => 0) (fun _ => 0) 0) ++ [(pn, .inl (cy.1, 16, .inl (fun _ => 0)))]) H := hP
  have hD : va_D A ((([(h0, .inr (2, [.ref a0, .ref b0, .ref pn, .int 1, .int 0]))] ++ wT cy a0 a1 a2 a3 a4 a5 a6 a7 a8 (fun _ => 0) (fun _ => 0) (fun _ => 0) (fun _ => 0) (fun _ => 0) (fun _ => 0) (fun _ => 0) (fun _ => 0) 0) ++ wC cy b0 b1 b2 b3 b4 b5 b6 b7 (fun _ => 0) (fun _ => 0) (fun _ => 0) (fun _ => 0) (fun _ => 0) (fun _ => 0) (fun _ => 0) 0) ++ [(pn, .inl (cy.1, 16, .inl (fun _ => 0)))]) := hD
  exact hret _ _ _ ls (a0, a1, a2, a3, a4, a5, a6, a7, a8, b0, b1, b2, b3, b4, b5, b6, b7, pn) dX2_init_44 hP hD hS
