/-! The law's helpers: contracts that return, over the class's that may throw; the script's cell. -/
section KL1
variable {p : Program} {l : Launch} {e : Env} {R : Room} {s : State} {m : MethodId} {args : Array Value} {below : List Frame} {meth : Method} {c : Code} {H : Heap} {locs : List Loc} {cells slots : Nat} {Q : State → Prop}
variable {cc : ByteArray} {nL : Nat} {Ts : List Cond} {own : String} {D : va_G} {cy : ClassId × ClassId × ClassId} {A0 : Nat → Prop}
variable {y : MethodName} {wr wr' : List Cond} {rm : Room} {b : Addr} {As rest st av : List Value} {C host : String} {index maxL n : Nat} {bytes : ByteArray} {pc : Nat} {ls : Array Slot} {px : String → Prop} {w wx : va_W}
set_option maxHeartbeats 4000000 in
theorem kXL.of {S : Type} {post : Int32 → S → Prop} {wf : S → va_W} {rt : FieldType} (hrt : rt = .int ∨ rt = .boolean) (hy : plainName y.cls = true) (hw : wr = Cond.code y cc maxL (some rt) :: wr') (hlen : (lg_sl av).length ≤ maxL)
    (body : ∀ (p : Program) (e : Env) (s : State) (m : MethodId) (args : Array Value) (below : List Frame) (meth : Method) (c : Code) (Q : State → Prop) (A : Nat → Prop) (ls : Array Slot),
      p.tables.exec = Jvm.exec → c.code = cc → c.maxLocals = maxL → s.vm.findClass y.cls = some m.cls → (∀ q ∈ wr, q.before args s = true) → kE D cy s → (∀ q : Nat, s.heap.size ≤ q → A q) → va_P D vwCl w s.heap → va_D A w → lv_has ls maxL (lv_args 0 av) → kZ A s s.heap →
      (∀ (H : Heap) (locs : List Loc) (pc : Nat) (ls : Array Slot) (r : Int32) (u : S), decode cc pc = .ok (.ireturn, 1) → (rt = .int ∨ r = 0 ∨ r = 1) → post r u → va_P D vwCl (wf u) H → va_S A s.heap H locs → W p l e rm s m args below meth c H locs 0 0 Q (F0 m pc ls [.int r])) →
      W p l e rm s m args below meth c s.heap [] 0 0 Q (F0 m 0 ls [])) : kXI l D cy y wr rm av w post wf (fun _ => False) w := by
  intro sz
  refine kx_ofW (cc := cc) (maxL := maxL) (ret := some rt) hy hw ?_
  intro p e s m args below meth c s₁ B hml hno hv
  obtain ⟨rfl, hsz, hP, hE, hD0, hZ⟩ := hv
  subst hsz
  have hl := lv_entry av (n := maxL) hlen
  rw [lg_entry_eq]
  have hlocks := B.notSynchronized
  refine body p e s m _ below meth c _ (va_A w s.heap.size) _ B.exec B.bytes hml (findClass_of_methodNamed B.named) (atoms_spec (ws := wr) B.pre) hE (fun q h => Or.inr h) hP hD0.self hl hZ ?_
  intro H locs pc ls r u hd h01 hp hPu hS
  refine kx_ret ?_
  rcases hrt with rfl | rfl
  · exact W.iret (v := r) B.exec B.bytes B.returns (fun t ht hW => ⟨⟨r, u, rfl, hp, by show va_P D vwCl (wf u) t.heap; rw [ht]; exact hPu⟩, hS.F ht⟩) hS.2.2 hd
  · refine W.zret (v := r) (ty := .boolean) B.exec B.bytes B.returns (k_narrow ?_) (fun t ht hW => ⟨⟨r, u, rfl, hp, by show va_P D vwCl (wf u) t.heap; rw [ht]; exact hPu⟩, hS.F ht⟩) hS.2.2 hd
    rcases h01 with h | h
    · exact absurd h (by decide)
    · exact h
/-- a call of an object's method that may throw, but doesn't; its world is the whole of the caller's -/
theorem kxO_i (S0 : CallFix p m c cc nL s args Ts own) (hE : kE D cy s) (hA : ∀ q : Nat, s.heap.size ≤ q → A0 q) (hZ : kZ A0 s s.heap) {wc : va_W} (hP : va_P D vwCl wc H) (hD : va_D A0 wc) (hS : va_S A0 s.heap H locs)
    {S : Type} {post : Int32 → S → Prop} {wf : S → va_W} (hM : kXI l D cy y wr rm (.ref b :: As) wc post wf px wx) (hno : ∀ E, ¬ px E) (hsame : ∀ u, (wf u).map (fun q => q.1) = wc.map (fun q => q.1))
    {ret : Option FieldType} {q0 ci : Nat} {fs : List Value} {q : vw_C} (hc : vwCl[ci]? = some q) (he : wc[q0]? = some (b, .inr (ci, fs))) (hT : GoodIn Ts (wsV own index q.1 y wr)) (hw : wr = Cond.code y bytes maxL ret :: wr') (hrc : rm.cells = 1) (hrs : rm.slots = 6)
    (hd : y.cls = q.1 ∧ y.cls ≠ "java/lang/invoke/MethodHandle" ∧ y.cls ≠ "java/lang/invoke/VarHandle" ∧ (parseMethodDescriptor y.desc).map (fun d => d.parameters.length) = some n) (hR : rm.frames + 1 ≤ R.frames ∧ 8 + (maxL + 11) + rm.locals ≤ R.locals)
    (hn : As.length = n) (hsize : ls.size = nL) (hst : st = As.reverse ++ .ref b :: rest) (hW : (rest.map fun v => v.category).sum ≤ 8) (hdg : decode cc pc = .ok (.invokevirtual index, 3)) (hf : cells + 1 ≤ R.cells ∧ slots + 6 ≤ R.slots)
    (kk : ∀ (r : Int32) (u : S) (H1 : Heap) (locs1 : List Loc), post r u → va_P D vwCl (wf u) H1 → va_D A0 (wf u) → va_S A0 s.heap H1 locs1 → W p l e R s m args below meth c H1 locs1 cells slots Q (F0 m (pc + 3) ls (.int r :: rest))) :
    W p l e R s m args below meth c H locs cells slots Q (F0 m pc ls st) := by
  refine kxV_i (X := []) (Y := []) (wc := wc) S0 hE hA hZ (by simpa using hP) (by simpa using hD) hS hM hsame hc he hT hw hrc hrs hd hR hn hsize hst hW hdg hf ?_ ?_
  · intro E ce q9 H1 locs1 hpx
    exact absurd hpx (hno E)
  · intro r u H1 locs1 hp h1 h2 h3
    exact kk r u H1 locs1 hp (by simpa using h1) (by simpa using h2) h3
/-- a call of a helper of the law, over the whole world -/
theorem kxT_i (S0 : CallFix p m c cc nL s args Ts own) (hE : kE D cy s) (hA : ∀ q : Nat, s.heap.size ≤ q → A0 q) (hZ : kZ A0 s s.heap) {wc : va_W} (hP : va_P D vwCl wc H) (hD : va_D A0 wc) (hS : va_S A0 s.heap H locs)
    {S : Type} {post : Int32 → S → Prop} {wf : S → va_W} (hM : kXI l D cy y wr rm As wc post wf px wx) (hno : ∀ E, ¬ px E) (hsame : ∀ u, (wf u).map (fun q => q.1) = wc.map (fun q => q.1))
    {ret : Option FieldType} (hT : GoodIn Ts (va_wsS own index y wr)) (hw : wr = Cond.code y bytes maxL ret :: wr') (hrc : rm.cells = 1) (hrs : rm.slots = 6)
    (hd : y.cls ≠ "java/lang/invoke/MethodHandle" ∧ y.cls ≠ "java/lang/invoke/VarHandle" ∧ (parseMethodDescriptor y.desc).map (fun d => d.parameters.length) = some n) (hR : rm.frames + 1 ≤ R.frames ∧ 8 + (maxL + 11) + rm.locals ≤ R.locals)
    (hn : As.length = n) (hsize : ls.size = nL) (hst : st = As.reverse ++ rest) (hW : (rest.map fun v => v.category).sum ≤ 8) (hdg : decode cc pc = .ok (.invokestatic index, 3)) (hf : cells + 1 ≤ R.cells ∧ slots + 6 ≤ R.slots)
    (kk : ∀ (r : Int32) (u : S) (H1 : Heap) (locs1 : List Loc), post r u → va_P D vwCl (wf u) H1 → va_D A0 (wf u) → va_S A0 s.heap H1 locs1 → W p l e R s m args below meth c H1 locs1 cells slots Q (F0 m (pc + 3) ls (.int r :: rest))) :
    W p l e R s m args below meth c H locs cells slots Q (F0 m pc ls st) := by
  have hP' : va_P D vwCl ([] ++ (wc ++ [])) H := by simpa using hP
  have hD' : va_D A0 ([] ++ (wc ++ [])) := by simpa using hD
  refine kx_calli (kx_runS (As := As) (rest := rest) S0 (hM H.size) (va_cwS n S0.2.2.2.2 hT hw hrc hrs hd hR) (kx_preS hE hA hZ hP' hD' hS) rfl hn hsize hst (lv_room hW) hdg hf) hS (fun q _ h => k_free hD' hS hA q h) (k_free hD' hS hA) (fun q _ h => k_free hD' hS hA q h) ?_ ?_
  · intro E ce q9 u t H1 locs1 ht hvm hp hB hz hk hS1 h1 h2 h3
    exact absurd hB.1 (hno E)
  · intro r u t H1 locs1 ht hvm hp hB hz hk hS1
    have h1 := k_upd hP' hD' hk (by rw [← ht]; exact hB)
    have h2 := va_D.alike (k_same (X := []) (Y := []) (hsame u)) hD'
    exact kk r u H1 locs1 hp (by simpa using h1) (by simpa using h2) hS1
end KL1
/-! The script's cell. -/
def kPs (b L : Nat) (xs : Nat → Int32) (av : List Value) (sz : Nat) : Array Value → State → Prop :=
  va_Pc av (fun U => U.heap.size = sz ∧ va_X b L xs U U.heap ∧ b < U.heap.size)
theorem kPs.blind {b L : Nat} {xs : Nat → Int32} {av : List Value} {sz : Nat} : FrameBlind (kPs b L xs av sz) := by
  intro a U g mk q
  obtain ⟨q0, q1, qX, qb⟩ := q
  exact ⟨q0, q1, va_X.moved (u := U) (U := U.calling g mk a) (Vm.Alike.refl U.vm) qX, qb⟩
def cellV (xs : Nat → Int32) (L k : Nat) : Int32 := if k < L then xs k else 7919 * (nI k + 3) * (nI k + 11)
def kCE (l : Launch) (b L : Nat) (xs : Nat → Int32) (k : Nat) : Prop :=
  ∀ sz : Nat, Met l yL_cell wsL_cell (krm 0 0) (kPs b L xs [.ref b, .int (nI k)] sz) (va_Qi (fun (r : Int32) (_ : Unit) => r = cellV xs L k) (fun _ _ => True) (va_A [] sz)) 0 0 (va_A [] sz)
set_option maxHeartbeats 4000000 in
theorem c_L_cell (l : Launch) (b L : Nat) (xs : Nat → Int32) (k : Nat) (hk : k < 2147483648) (hL : L < 2147483648) : kCE l b L xs k := by
  intro sz
  refine Met.ofW (cc := cL_cell) (maxL := 2) (ret := some .int) (by decide) rfl ?_
  intro p e s m args below meth c s₁ B hml hv
  obtain ⟨rfl, hsz, hX, hbl⟩ := hv
  subst hsz
  have hl := lv_entry [.ref b, .int (nI k)] (n := 2) (Nat.le_of_ble_eq_true rfl)
  rw [lg_entry_eq]
  generalize (lg_sl ([.ref b, .int (nI k)]) ++ List.replicate (2 - (lg_sl ([.ref b, .int (nI k)])).length) Slot.unset).toArray = ls at hl ⊢
  have hl : lv_has ls 2 [(0, .ref b), (1, .int (nI k))] := hl
  have hx := B.exec
  have hb := B.bytes
  have hS : va_S (va_A [] s.heap.size) s.heap s.heap [] := va_S.rf
  have hbA : ¬ va_A [] s.heap.size b := by
    rintro (⟨k, e, h⟩ | h)
    · simp at h
    · exact absurd hbl (Nat.not_lt.mpr h)
  have fin : ∀ (H : Heap) (locs : List Loc) (ls : Array Slot) (r : Int32), r = cellV xs L k → va_S (va_A [] s.heap.size) s.heap H locs → W p l e (headSpec wsL_cell (krm 0 0)).room s m ([Value.ref b, .int (nI k)] : List Value).toArray below meth c H locs 0 0 (MQ below (va_Qi (fun (r : Int32) (_ : Unit) => r = cellV xs L k) (fun _ _ => True) (va_A [] s.heap.size)) ([Value.ref b, .int (nI k)] : List Value).toArray s 0 0 (va_A [] s.heap.size)) (F0 m 24 ls [.int r]) := by
    intro H locs ls r hr hS
    exact W.iret (v := r) B.exec B.bytes B.returns (fun t ht hW => ⟨⟨r, (), rfl, hr, trivial⟩, hS.F ht⟩) hS.2.2 dL_cell_24
  refine lv_iload_n hx hb dL_cell_0 rfl (lv_at hl 1 rfl) ?_
  refine lv_aload_n hx hb dL_cell_1 rfl (lv_at hl 0 rfl) ?_
  refine va_slen hx hb hX hbl hbA hS dL_cell_2 ?_
  refine lv_icmp_ge (tgt := 12) hx hb dL_cell_3 (by decide) (fun c_3 => ?_) (fun c_3 => ?_)
  · have c_3n : L ≤ k := k_leN hL hk c_3
    refine lv_sipush (v := 7919) hx hb dL_cell_12 (by decide) ?_
    refine lv_iload_n hx hb dL_cell_15 rfl (lv_at hl 1 rfl) ?_
    refine lv_iconst (v := 3) hx hb dL_cell_16 (by decide) ?_
    refine lv_iadd hx hb dL_cell_17 ?_
    refine lv_imul hx hb dL_cell_18 ?_
    refine lv_iload_n hx hb dL_cell_19 rfl (lv_at hl 1 rfl) ?_
    refine lv_bipush (v := 11) hx hb dL_cell_20 (by decide) ?_
    refine lv_iadd hx hb dL_cell_22 ?_
    refine lv_imul hx hb dL_cell_23 ?_
    exact fin _ _ _ _ (by rw [cellV, if_neg (by omega)]) hS
  · have c_3n : k < L := by have := k_nleN hL hk c_3; omega
    refine lv_aload_n hx hb dL_cell_6 rfl (lv_at hl 0 rfl) ?_
    refine lv_iload_n hx hb dL_cell_7 rfl (lv_at hl 1 rfl) ?_
    refine va_sld hx hb hX hbl hbA hS (vp_in_nI c_3n hL) dL_cell_8 ?_
    refine lv_goto (tgt := 24) hx hb dL_cell_9 (by decide) ?_
    exact fin _ _ _ _ (by rw [cellV, if_pos c_3n, nI_clamp (by omega)]) hS
section KL2
variable {p : Program} {l : Launch} {e : Env} {R : Room} {s : State} {m : MethodId} {args : Array Value} {below : List Frame} {meth : Method} {c : Code} {H : Heap} {locs : List Loc} {cells slots : Nat} {Q : State → Prop}
variable {cc : ByteArray} {nL : Nat} {Ts : List Cond} {own : String} {D : va_G} {cy : ClassId × ClassId × ClassId} {A0 : Nat → Prop}
variable {y : MethodName} {wr wr' : List Cond} {rm : Room} {b : Addr} {As rest st av : List Value} {C host : String} {index maxL n : Nat} {bytes : ByteArray} {pc : Nat} {ls : Array Slot} {px : String → Prop} {w wx : va_W}
/-- a call of it -/
theorem kcCE {L : Nat} {xs : Nat → Int32} {k : Nat} (S0 : CallFix p m c cc nL s args Ts own) (hA : ∀ q : Nat, s.heap.size ≤ q → A0 q) {ws : va_W} (hP : va_P D vwCl ws H) (hD : va_D A0 ws) (hS : va_S A0 s.heap H locs)
    (hX : va_X b L xs s s.heap) (hbl : b < s.heap.size) (hbA : ¬ A0 b) (hM : kCE l b L xs k) (hT : GoodIn Ts (va_wsS own index yL_cell wsL_cell))
    (hR : (krm 0 0).frames + 1 ≤ R.frames ∧ 8 + (2 + 11) + (krm 0 0).locals ≤ R.locals)
    (hsize : ls.size = nL) (hst : st = [.int (nI k), .ref b] ++ rest) (hW : (rest.map fun v => v.category).sum ≤ 8) (hdg : decode cc pc = .ok (.invokestatic index, 3)) (hf : cells + 0 ≤ R.cells ∧ slots + 0 ≤ R.slots)
    (kk : ∀ (H1 : Heap) (locs1 : List Loc), va_P D vwCl ws H1 → va_S A0 s.heap H1 locs1 → W p l e R s m args below meth c H1 locs1 cells slots Q (F0 m (pc + 3) ls (.int (cellV xs L k) :: rest))) :
    W p l e R s m args below meth c H locs cells slots Q (F0 m pc ls st) := by
  have hP' : va_P D vwCl (ws ++ ([] ++ [])) H := by simpa using hP
  have hD' : va_D A0 (ws ++ ([] ++ [])) := by simpa using hD
  have hpre : PreS s H (kPs b L xs [.ref b, .int (nI k)] H.size) [.ref b, .int (nI k)] :=
    ⟨kPs.blind, fun U hU hW => ⟨rfl, by rw [hU], by rw [hU]; exact va_X.moved hW.alike (hX.kept (hS.2.1 b hbl hbA)), by rw [hU]; exact Nat.lt_of_lt_of_le hbl hS.1⟩⟩
  refine va_calli (va_runS (As := [.ref b, .int (nI k)]) (rest := rest) S0 (hM H.size) (va_cwS (maxL := 2) (bytes := cL_cell) (ret := some .int) 2 S0.2.2.2.2 hT rfl rfl rfl ⟨by decide, by decide, by decide +kernel⟩ hR) hpre rfl rfl hsize hst (lv_room hW) hdg hf) hS (fun q _ h => k_free hD' hS hA q h) (k_free hD' hS hA) ?_
  intro r u t H1 locs1 ht hvm hp hB hz hk hS1
  have hr : r = cellV xs L k := hp
  subst hr
  have h1 := k_upd (w1 := []) hP' hD' hk (fun k q h => by simp at h)
  exact kk H1 locs1 (by simpa using h1) hS1
end KL2
