/-! THE CLAIM OUT OF ONE WALK OF THE LAW'S BODY. Your part is whole_start (and what it stands on); all else here is the same for every law, but numbers. -/
def R_law : String := "CertHerdLaw"
def lw_P (b : Addr) (xs : List Int32) (args : Array Value) (s : State) : Prop := args = #[.ref b] ∧ s.IntsAt b xs ∧ xs.length ≤ 260 ∧ (Jvm.Cond.and given_1 narrow_1).before args s = true
def lw_Q (_ : Array Value) (s : State) (o : Outcome) (t : State) : Prop := o = .returned (some (.int 1)) ∧ Framed s o t [] 136 1432
def lw_Z (below : List Frame) (a : Array Value) (s : State) : State → Prop := fun t => ∃ o, t.status = .running ∧ Ended t below o ∧ lw_Q a s o t
/-- the law's own end, with 1 on the stack, nothing written that was there before, its room as the claim has it -/
theorem lw_ret {p : Program} {l : Launch} {e : Env} {s : State} {m : MethodId} {below : List Frame} {meth : Method} {c : Code} {b : Nat} (hx : p.tables.exec = Jvm.exec) (hb : c.code = code) (hr : meth.sig.returnType = ret) (hlocks : meth.locks = false) {pc : Nat} {H : Heap} {ls : Array Slot} (hdg : decode code pc = .ok (.ireturn, 1)) : W p l e room_1 s m #[Value.ref b] below meth c H [] 136 1432 (lw_Z below #[Value.ref b] s) (F0 m pc ls [.int 1]) := by
  intro T hT X
  obtain ⟨fs, hret, hrun, hended, hW, hframe⟩ := X.leave (v := some (.int 1)) (hlocks := hlocks) (fun h => by rw [hr] at h; cases h)
  have hmeth' : T.vm.method? m = some meth := X.method'
  refine ⟨T.setFrames fs, ?_, .returned (some (.int 1)), hrun, hended, rfl, ⟨_, rfl⟩, hW, hframe⟩
  jvm_step X.here [X.here.top, hx, hb, hdg, hmeth', hr, ret, narrow_b1]
  (try refine ⟨rfl, ?_⟩); (try refine ⟨rfl, ?_⟩)
  first | (intro acts; rw [hret _ acts rfl rfl rfl]) | rw [hret _ _ rfl rfl rfl]
  exact Steps.refl _
/-- what holds at the law's entry: the machine, the code, the tables' words (any of lw_tbl by 'hts w (by decide +kernel)'), the script of L ints xs at the cell b, what the Statement gives of the start (any of its parts by flat_of_before) -/
def lw_At (p : Program) (s : State) (m : MethodId) (meth : Method) (c : Code) (b L : Nat) (xs : Nat → Int32) : Prop :=
  p.tables.exec = Jvm.exec ∧ c.code = code ∧ meth.sig.returnType = ret ∧ c.maxLocals = 14 ∧ s.vm.findClass R_law = some m.cls ∧ (∀ w ∈ lw_tbl, w.before #[Value.ref b] s = true) ∧ va_X b L xs s s.heap ∧ b < s.heap.size ∧ meth.locks = false ∧ (Jvm.Cond.and given_1 narrow_1).before #[Value.ref b] s = true
set_option maxHeartbeats 4000000 in
set_option maxRecDepth 100000 in
theorem ks_str {s : State} {A : Array Value} {cur k : Nat} {tx : String} (hfc : s.vm.findClass RX2 = some cur) (h : (Cond.stringRef RX2 k tx).before A s = true) : ∃ a, vk_R RX2 k tx a s := by
  have h0 : (Cond.stringRef RX2 k tx).before #[] s = true := by first | exact h | exact va_tabs (by rfl) rfl h | (simpa [Cond.before, Cond.holds, Cond.value] using h)
  obtain ⟨k1, cf, i, a, -, -, -, -, -, hev⟩ := Cond.stringRef_spec hfc h0
  exact ⟨a, h0, hev⟩
theorem ks_arr {s : State} {A : Array Value} {ty : FieldType} (h : (Cond.arrayClass ty).before A s = true) : ∃ cA, ArrOfT s cA ty ∧ s.vm.findClass ("[" ++ ty.toString) = some cA := by
  obtain ⟨c, k, comp, h1, h2, h3⟩ := Cond.arrayClass_spec h
  exact ⟨c, fun n z => ⟨fun k h => (by cases h), k, h2, comp, h3⟩, h1⟩
set_option maxHeartbeats 4000000 in
set_option maxRecDepth 100000 in
/-- what the tables say at the start -/
theorem ks_E {s : State} {b : Addr} (hts : ∀ w ∈ lw_tbl, w.before #[Value.ref b] s = true) (hgv : (Jvm.Cond.and given_1 narrow_1).before #[Value.ref b] s = true) : ∃ (D : va_G) (cy : ClassId × ClassId × ClassId), kE D cy s := by
  obtain ⟨c0, iS0, hKn0⟩ := u_known (C := RX0) (T := TX0) (N := 8) (n := 8) hts inX0 (hts (Cond.instantiable RX0 8) (List.mem_of_getElem? (i := 72) rfl))
  obtain ⟨c1, iS1, hKn1⟩ := u_known (C := RX1) (T := TX1) (N := 9) (n := 9) hts inX1 (hts (Cond.instantiable RX1 9) (List.mem_of_getElem? (i := 32) rfl))
  obtain ⟨c2, iS2, hKn2⟩ := u_known (C := RX2) (T := TX2) (N := 5) (n := 5) hts inX2 (hts (Cond.instantiable RX2 5) (List.mem_of_getElem? (i := 24) rfl))
  obtain ⟨ai, hai, hbi⟩ := ks_arr (hts (Cond.arrayClass .int) (List.mem_of_getElem? (i := 70) rfl))
  have hs := flat_of_before _ hgv
  refine ⟨(fun k => if k = 0 then c0 else if k = 1 then c1 else c2, fun k => if k = 0 then iS0 else if k = 1 then iS1 else iS2), (ai, ai, ai), ⟨?_, ?_⟩, ?_, ?_, ?_, ?_, ?_, ?_, ?_, ?_, ?_, ?_, ?_, ?_⟩
  · intro k q hq
    match k, hq with
    | 0, hq => cases hq; exact hKn0
    | 1, hq => cases hq; exact hKn1
    | 2, hq => cases hq; exact hKn2
    | k + 3, hq => simp [vwCl] at hq
  · intro k q hq
    match k, hq with
    | 0, hq => cases hq; exact ⟨hai, hbi⟩
    | k + 1, hq => simp at hq
  · exact va_Nw.of (by rfl) (hts (Cond.methodLinkNest RX0 44 yX2_weekOf RX2) (List.mem_of_getElem? (i := 292) rfl))
  · exact va_Nw.of (by rfl) (hts (Cond.methodLinkNest RX1 64 yX2_contains RX2) (List.mem_of_getElem? (i := 315) rfl))
  · exact va_Nw.of (by rfl) (hts (Cond.methodLinkNest RX0 55 yX2_contains RX2) (List.mem_of_getElem? (i := 413) rfl))
  · exact va_Nw.of (by rfl) (hts (Cond.methodLinkNest RX0 58 yX2_namesOf RX2) (List.mem_of_getElem? (i := 414) rfl))
  · exact List.forall_mem_cons.mpr ⟨ks_str hKn2.2.1 (hts (Cond.stringRef RX2 162 "no such issuer") (List.mem_of_getElem? (i := 173) rfl)), List.forall_mem_cons.mpr ⟨ks_str hKn2.2.1 (hts (Cond.stringRef RX2 168 "day out of range") (List.mem_of_getElem? (i := 212) rfl)), List.forall_mem_cons.mpr ⟨ks_str hKn2.2.1 (hts (Cond.stringRef RX2 43 "the last day is ahead of the first one") (List.mem_of_getElem? (i := 219) rfl)), List.forall_mem_cons.mpr ⟨ks_str hKn2.2.1 (hts (Cond.stringRef RX2 48 "limit out of range") (List.mem_of_getElem? (i := 220) rfl)), List.forall_mem_cons.mpr ⟨ks_str hKn2.2.1 (hts (Cond.stringRef RX2 56 "no place for another issuer") (List.mem_of_getElem? (i := 234) rfl)), List.forall_mem_cons.mpr ⟨ks_str hKn2.2.1 (hts (Cond.stringRef RX2 166 "no such name") (List.mem_of_getElem? (i := 443) rfl)), List.forall_mem_cons.mpr ⟨ks_str hKn2.2.1 (hts (Cond.stringRef RX2 86 "subject out of range") (List.mem_of_getElem? (i := 271) rfl)), List.forall_mem_cons.mpr ⟨ks_str hKn2.2.1 (hts (Cond.stringRef RX2 88 "length out of range") (List.mem_of_getElem? (i := 272) rfl)), List.forall_mem_cons.mpr ⟨ks_str hKn2.2.1 (hts (Cond.stringRef RX2 93 "the issuer can't issue") (List.mem_of_getElem? (i := 316) rfl)), List.forall_mem_cons.mpr ⟨ks_str hKn2.2.1 (hts (Cond.stringRef RX2 99 "days out of range") (List.mem_of_getElem? (i := 334) rfl)), List.forall_mem_cons.mpr ⟨ks_str hKn2.2.1 (hts (Cond.stringRef RX2 101 "today would be too late") (List.mem_of_getElem? (i := 335) rfl)), List.forall_mem_cons.mpr ⟨ks_str hKn2.2.1 (hts (Cond.stringRef RX2 164 "no such certificate") (List.mem_of_getElem? (i := 376) rfl)), List.forall_mem_cons.mpr ⟨ks_str hKn2.2.1 (hts (Cond.stringRef RX2 132 "no such place") (List.mem_of_getElem? (i := 459) rfl)), fun q h => absurd h List.not_mem_nil⟩⟩⟩⟩⟩⟩⟩⟩⟩⟩⟩⟩⟩
  · exact List.forall_mem_cons.mpr ⟨va_Nw.of (by rfl) (hts (.declares (Bundle.initS "java/lang/RuntimeException")) (List.mem_of_getElem? (i := 136) rfl)), List.forall_mem_cons.mpr ⟨va_Nw.of (by rfl) (hts (.declares (Bundle.initS "java/lang/Exception")) (List.mem_of_getElem? (i := 138) rfl)), List.forall_mem_cons.mpr ⟨va_Nw.of (by rfl) (hts (.declares (Bundle.initS Bundle.tN)) (List.mem_of_getElem? (i := 140) rfl)), fun q h => absurd h List.not_mem_nil⟩⟩⟩
  · exact List.forall_mem_cons.mpr ⟨va_Nw.of (by rfl) (hts (.castable xIX xIX) (List.mem_of_getElem? (i := 134) rfl)), List.forall_mem_cons.mpr ⟨va_Nw.of (by rfl) (hts (.castable xIA xIA) (List.mem_of_getElem? (i := 205) rfl)), List.forall_mem_cons.mpr ⟨va_Nw.of (by rfl) (hts (.castable xIS xIS) (List.mem_of_getElem? (i := 227) rfl)), fun q h => absurd h List.not_mem_nil⟩⟩⟩
  · exact trivial
  · exact trivial
  · exact trivial
  · exact va_Nw.of (by rfl) (hts (Cond.methodLinkNest RX2 9 yX1_init RX2) (List.mem_of_getElem? (i := 33) rfl))
  · exact va_Nw.of (by rfl) (hts (Cond.methodLinkNest RX2 18 yX0_init RX2) (List.mem_of_getElem? (i := 73) rfl))
set_option maxHeartbeats 4000000 in
set_option maxRecDepth 100000 in
theorem ks_Z {s : State} {b : Addr} (hts : ∀ w ∈ lw_tbl, w.before #[Value.ref b] s = true) (hgv : (Jvm.Cond.and given_1 narrow_1).before #[Value.ref b] s = true) : kZ (lwA s) s s.heap := by
  have hs := flat_of_before _ hgv
  have h_UNA := vx_Zqof (A := lwA s) (hts (.laysStatic Bundle.tN "UNASSIGNED_STACK" Bundle.steD) (List.mem_of_getElem? (i := 159) rfl)) (hts (.initialized Bundle.tN) (List.mem_of_getElem? (i := 15) rfl)) (hs (.isRef (.static Bundle.tN "UNASSIGNED_STACK" Bundle.steD)) (by decide +kernel)) (fun a h => Nat.not_le.mpr h)
  have h_SUP := vx_Zqof (A := lwA s) (hts (.laysStatic Bundle.tN "SUPPRESSED_SENTINEL" Bundle.listD) (List.mem_of_getElem? (i := 161) rfl)) (hts (.initialized Bundle.tN) (List.mem_of_getElem? (i := 15) rfl)) (hs (.isRef (.static Bundle.tN "SUPPRESSED_SENTINEL" Bundle.listD)) (by decide +kernel)) (fun a h => Nat.not_le.mpr h)
  exact ⟨h_UNA, h_SUP⟩
theorem ks_fl {l : Launch} (h : l.flags = flags0) : l.stackTraces = false := by unfold Launch.stackTraces; rw [h]; decide
set_option maxHeartbeats 4000000 in
set_option maxRecDepth 100000 in
/-- the law's loop: at its head, before the turn t -/
theorem law_loop {p : Program} {l : Launch} {e : Env} {s : State} {m : MethodId} {below : List Frame} {meth : Method} {c : Code} {D : va_G} {cy : ClassId × ClassId × ClassId} {b L : Nat} {xs : Nat → Int32} (hL : L ≤ 260) (C0 : lw_At p s m meth c b L xs) (C : LC p l s m c D cy b L xs) (h pn a0 a1 a2 a3 a4 a5 a6 a7 a8 b0 b1 b2 b3 b4 b5 b6 b7 : Nat) : ∀ (N t : Nat), t ≤ 60 → 60 < t + N → LN p l e s m below meth c (lw_Z below #[Value.ref b] s) D cy b t h pn a0 a1 a2 a3 a4 a5 a6 a7 a8 b0 b1 b2 b3 b4 b5 b6 b7 := by
  obtain ⟨-, -, hr, -, -, -, -, -, hlocks, -⟩ := C0
  obtain ⟨hx, hb, hml, hown, hts, hX, hbl, hE, hZ, hfl⟩ := id C
  intro N
  induction N with
  | zero =>
    intro t ht hN
    exact absurd hN (by omega)
  | succ N ih =>
    intro t ht hN fs ss fd ed lm dd ce cw n iss sb fst len off ren que kc sd td H locs ls hI htd hP hD hS hl
    refine lv_iload hx hb dL_law_18 (lv_at hl 5 rfl) ?_
    refine lv_bipush (v := 60) hx hb dL_law_20 (by decide) ?_
    refine lv_icmp_ge (tgt := 493) hx hb dL_law_22 (by decide) (fun _ => ?_) (fun hc => ?_)
    · refine lv_iconst (v := 1) hx hb dL_law_493 (by decide) ?_
      refine va_forget (fun q hq => hS.2.2 q hq) ?_
      refine W.widen (k := 136) (n := 1432) (by omega) (by omega) ?_
      exact lw_ret hx hb hr hlocks dL_law_494
    · have ht60 : t < 60 := by have := k_nleN (a := 60) (b := t) (by omega) (by omega) hc; omega
      exact rd_turn C hI htd ht60 hL hP hD hS hl (fun fs ss fd ed lm dd ce cw n iss sb fst len off ren que kc sd td H locs ls hI htd hP hD hS hl => rd_tail C hI htd ht60 hP hD hS hl (ih (t + 1) (by omega) (by omega)))
set_option maxHeartbeats 4000000 in
set_option maxRecDepth 100000 in
/-- the law, from its entry -/
theorem whole_start {p : Program} {e : Env} {s : State} {m : MethodId} {below : List Frame} {meth : Method} {c : Code} (l : Launch) (hflags : l.flags = flags0) {b L : Nat} {xs : Nat → Int32} (hL : L ≤ 260) (C0 : lw_At p s m meth c b L xs) : W p l e room_1 s m #[Value.ref b] below meth c s.heap [] 0 0 (lw_Z below #[Value.ref b] s) (entryFrame m ([Value.ref b] : List Value).toArray 14) := by
  have hfl := ks_fl hflags
  obtain ⟨hx, hb, hr, hml, hown0, hts, hX, hbl, hlocks, hgv⟩ := id C0
  obtain ⟨D, cy, hE⟩ := ks_E hts hgv
  have hZ := ks_Z hts hgv
  have hown : s.vm.findClass RL = some m.cls := hown0
  have htl : ∀ w ∈ wsL_law, w.before #[Value.ref b] s = true := fun w h => hts w (wsL_law_in w h)
  have C : LC p l s m c D cy b L xs := ⟨hx, hb, hml, hown, htl, hX, hbl, hE, hZ, hfl⟩
  have hA : ∀ q : Nat, s.heap.size ≤ q → lwA s q := fun _ h => h
  have hS : va_S (lwA s) s.heap s.heap [] := va_S.rf
  have hP : va_P D vwCl [] s.heap := fun k q h => by simp at h
  have hD : va_D (lwA s) [] := ⟨fun i j p q h => by simp at h, fun k q h => by simp at h⟩
  have hl := lv_entry ([.ref b]) (n := 14) (Nat.le_of_ble_eq_true rfl)
  rw [lg_entry_eq]
  generalize (lg_sl ([.ref b]) ++ List.replicate (14 - (lg_sl ([.ref b])).length) Slot.unset).toArray = ls at hl ⊢
  have hl : lv_has ls 14 [(0, .ref b)] := hl
  refine va_new (ci := 2) (fs := [.null, .null, .null, .int 0, .int 0]) (C := RX2) (T := TX2) (N := 5) hx hb hts inX2 tyX2 tyX2_ok hown (hts (Cond.classLink RL 9 RX2) (List.mem_of_getElem? (i := 23) rfl)) (hts (Cond.instantiable RX2 5) (List.mem_of_getElem? (i := 24) rfl)) (hts (Cond.initialized RX2) (List.mem_of_getElem? (i := 12) rfl)) hE.1 hP hD hS hA rfl (fun j hj => by rcases (show j = 0 ∨ j = 1 ∨ j = 2 ∨ j = 3 ∨ j = 4 by omega) with rfl | rfl | rfl | rfl | rfl <;> rfl) (Nat.le_of_ble_eq_true rfl) (Nat.le_of_ble_eq_true rfl) dL_law_0 (fun h H hP hD hS => ?_)
  refine lv_dup hx hb dL_law_3 rfl ?_
  refine kcIC (X := []) (wc := [(h, .inr (2, [.null, .null, .null, .int 0, .int 0]))]) (rest := [.ref h]) ⟨hx, hb, hml, hown, htl⟩ hE hA hP hD hS (c_X2_init l D cy h) (hts (Cond.methodLink RL 70 yX2_init) (List.mem_of_getElem? (i := 25) rfl)) rfl (hts (Cond.instanceMethod yX2_init) (List.mem_of_getElem? (i := 26) rfl)) (hts (Cond.initialized RX2) (List.mem_of_getElem? (i := 12) rfl)) gL_law_X2_init rfl rfl rfl ⟨by decide, by decide, by decide +kernel⟩ ⟨Nat.le_of_ble_eq_true rfl, Nat.le_of_ble_eq_true rfl⟩ hl.1 rfl (Nat.le_of_ble_eq_true rfl) dL_law_4 ⟨Nat.le_of_ble_eq_true rfl, Nat.le_of_ble_eq_true rfl⟩ (fun u H locs hP hD hS => ?_)
  obtain ⟨a0, a1, a2, a3, a4, a5, a6, a7, a8, b0, b1, b2, b3, b4, b5, b6, b7, pn⟩ := u
  rw [List.nil_append] at hP hD
  have hP : va_P D vwCl (wH cy h pn a0 a1 a2 a3 a4 a5 a6 a7 a8 b0 b1 b2 b3 b4 b5 b6 b7 (fun _ => 0) (fun _ => 0) (fun _ => 0) (fun _ => 0) (fun _ => 0) (fun _ => 0) (fun _ => 0) (fun _ => 0) 0 (fun _ => 0) (fun _ => 0) (fun _ => 0) (fun _ => 0) (fun _ => 0) (fun _ => 0) (fun _ => 0) 0 (fun _ => 0) 1 0) H := hP
  have hD : va_D (lwA s) (wH cy h pn a0 a1 a2 a3 a4 a5 a6 a7 a8 b0 b1 b2 b3 b4 b5 b6 b7 (fun _ => 0) (fun _ => 0) (fun _ => 0) (fun _ => 0) (fun _ => 0) (fun _ => 0) (fun _ => 0) (fun _ => 0) 0 (fun _ => 0) (fun _ => 0) (fun _ => 0) (fun _ => 0) (fun _ => 0) (fun _ => 0) (fun _ => 0) 0 (fun _ => 0) 1 0) := hD
  refine lv_astore_n (lv' := [(1, .ref h), (0, .ref b)]) hx hb dL_law_7 rfl hl (by decide) rfl (fun ls hl => ?_)
  refine lv_iconst (v := 0) hx hb dL_law_8 (by decide) ?_
  refine lv_istore_n (lv' := [(2, .int 0), (1, .ref h), (0, .ref b)]) hx hb dL_law_9 rfl hl (by decide) rfl (fun ls hl => ?_)
  refine lv_iconst (v := 0) hx hb dL_law_10 (by decide) ?_
  refine lv_istore_n (lv' := [(3, .int 0), (2, .int 0), (1, .ref h), (0, .ref b)]) hx hb dL_law_11 rfl hl (by decide) rfl (fun ls hl => ?_)
  refine lv_iconst (v := 0) hx hb dL_law_12 (by decide) ?_
  refine lv_istore (lv' := [(4, .int 0), (3, .int 0), (2, .int 0), (1, .ref h), (0, .ref b)]) hx hb dL_law_13 hl (by decide) rfl (fun ls hl => ?_)
  refine lv_iconst (v := 0) hx hb dL_law_15 (by decide) ?_
  refine lv_istore (lv' := [(5, .int 0), (4, .int 0), (3, .int 0), (2, .int 0), (1, .ref h), (0, .ref b)]) hx hb dL_law_16 hl (by decide) rfl (fun ls hl => ?_)
  refine W.widen (k := 19) (n := 522) (by omega) (by omega) ?_
  exact law_loop hL C0 C h pn a0 a1 a2 a3 a4 a5 a6 a7 a8 b0 b1 b2 b3 b4 b5 b6 b7 61 0 (by omega) (by omega) (fun _ => 0) (fun _ => 0) (fun _ => 0) (fun _ => 0) (fun _ => 0) (fun _ => 0) (fun _ => 0) (fun _ => 0) 0 (fun _ => 0) (fun _ => 0) (fun _ => 0) (fun _ => 0) (fun _ => 0) (fun _ => 0) (fun _ => 0) 0 1 0 H _ ls PInv_0 (by omega) hP hD hS (lv_sub hl [5, 4, 3, 2, 1, 0] rfl)
