/-! THE CLAIM OUT OF ONE WALK OF THE LAW'S BODY. Your part is whole_start (and what it stands on); all else here is the same for every law, but numbers. -/
def R_law : String := "CertHerdLaw"
def lw_P (b : Addr) (xs : List Int32) (args : Array Value) (s : State) : Prop := args = #[.ref b] ∧ s.IntsAt b xs ∧ xs.length ≤ 2560 ∧ (Jvm.Cond.and given_1 narrow_1).before args s = true
def lw_Q (_ : Array Value) (s : State) (o : Outcome) (t : State) : Prop := o = .returned (some (.int 1)) ∧ Framed s o t [] 1078 9341
def lw_Z (below : List Frame) (a : Array Value) (s : State) : State → Prop := fun t => ∃ o, t.status = .running ∧ Ended t below o ∧ lw_Q a s o t
/-- the law's own end, with 1 on the stack, nothing written that was there before, its room as the claim has it -/
theorem lw_ret {p : Program} {l : Launch} {e : Env} {s : State} {m : MethodId} {below : List Frame} {meth : Method} {c : Code} {b : Nat} (hx : p.tables.exec = Jvm.exec) (hb : c.code = code) (hr : meth.sig.returnType = ret) (hlocks : meth.locks = false) {pc : Nat} {H : Heap} {ls : Array Slot} (hdg : decode code pc = .ok (.ireturn, 1)) : W p l e room_1 s m #[Value.ref b] below meth c H [] 1078 9341 (lw_Z below #[Value.ref b] s) (F0 m pc ls [.int 1]) := by
  intro T hT X
  obtain ⟨fs, hret, hrun, hended, hW, hframe⟩ := X.leave (v := some (.int 1)) (hlocks := hlocks) (fun h => by rw [hr] at h; cases h)
  have hmeth' : T.vm.method? m = some meth := X.method'
  refine ⟨T.setFrames fs, ?_, .returned (some (.int 1)), hrun, hended, rfl, ⟨_, rfl⟩, hW, hframe⟩
  jvm_step X.here [X.here.top, hx, hb, hdg, hmeth', hr, ret, narrow_b1]
  (try refine ⟨rfl, ?_⟩); (try refine ⟨rfl, ?_⟩)
  first | (intro acts; rw [hret _ acts rfl rfl rfl]) | rw [hret _ _ rfl rfl rfl]
  exact Steps.refl _
/-- what holds at the law's entry: the machine, the code, the tables' words (any of lw_tbl by 'hts w (by decide +kernel)'), the script of L ints xs at the cell b, what the Statement gives of the start (any of its parts by flat_of_before) -/
def lw_At (p : Program) (s : State) (m : MethodId) (meth : Method) (c : Code) (b L : Nat) (xs : Nat → Int32) : Prop :=
  p.tables.exec = Jvm.exec ∧ c.code = code ∧ meth.sig.returnType = ret ∧ c.maxLocals = 7 ∧ s.vm.findClass R_law = some m.cls ∧ (∀ w ∈ lw_tbl, w.before #[Value.ref b] s = true) ∧ va_X b L xs s s.heap ∧ b < s.heap.size ∧ meth.locks = false ∧ (Jvm.Cond.and given_1 narrow_1).before #[Value.ref b] s = true
set_option maxHeartbeats 4000000 in
set_option maxRecDepth 100000 in
theorem ks_str {s : State} {A : Array Value} {cur k : Nat} {tx : String} (hfc : s.vm.findClass RX2 = some cur) (h : (Cond.stringRef RX2 k tx).before A s = true) : ∃ a, vk_R RX2 k tx a s := by
  have h0 : (Cond.stringRef RX2 k tx).before #[] s = true := by first | exact h | exact va_tabs (by rfl) rfl h | (simpa [Cond.before, Cond.holds, Cond.value] using h)
  obtain ⟨k1, cf, i, a, -, -, -, -, -, hev⟩ := Cond.stringRef_spec hfc h0
  exact ⟨a, h0, hev⟩
theorem ks_arr {s : State} {A : Array Value} {ty : FieldType} (h : (Cond.arrayClass ty).before A s = true) : ∃ cA, ArrOfT s cA ty ∧ s.vm.findClass ("[" ++ ty.toString) = some cA := by
  obtain ⟨c, k, comp, h1, h2, h3⟩ := Cond.arrayClass_spec h
  exact ⟨c, fun n z => ⟨fun k h => (by cases h), k, h2, comp, h3⟩, h1⟩
set_option maxHeartbeats 4000000 in
set_option maxRecDepth 100000 in
/-- what the tables say at the start -/
theorem ks_E {s : State} {b : Addr} (hts : ∀ w ∈ lw_tbl, w.before #[Value.ref b] s = true) (hgv : (Jvm.Cond.and given_1 narrow_1).before #[Value.ref b] s = true) : ∃ (D : va_G) (cy : ClassId × ClassId × ClassId), kE D cy s := by
  obtain ⟨c0, iS0, hKn0⟩ := u_known (C := RX0) (T := TX0) (N := 8) (n := 8) hts inX0 (hts (Cond.instantiable RX0 8) (List.mem_of_getElem? (i := 89) rfl))
  obtain ⟨c1, iS1, hKn1⟩ := u_known (C := RX1) (T := TX1) (N := 9) (n := 9) hts inX1 (hts (Cond.instantiable RX1 9) (List.mem_of_getElem? (i := 49) rfl))
  obtain ⟨c2, iS2, hKn2⟩ := u_known (C := RX2) (T := TX2) (N := 5) (n := 5) hts inX2 (hts (Cond.instantiable RX2 5) (List.mem_of_getElem? (i := 41) rfl))
  obtain ⟨c3, iS3, hKn3⟩ := u_known (C := RX3) (T := TX3) (N := 22) (n := 22) hts inX3 (hts (Cond.instantiable RX3 22) (List.mem_of_getElem? (i := 564) rfl))
  obtain ⟨ai, hai, hbi⟩ := ks_arr (hts (Cond.arrayClass .int) (List.mem_of_getElem? (i := 87) rfl))
  obtain ⟨az, haz, hbz⟩ := ks_arr (hts (Cond.arrayClass .boolean) (List.mem_of_getElem? (i := 636) rfl))
  obtain ⟨al, hal, hbl⟩ := ks_arr (hts (Cond.arrayClass .long) (List.mem_of_getElem? (i := 818) rfl))
  have hs := flat_of_before _ hgv
  refine ⟨(fun k => if k = 0 then c0 else if k = 1 then c1 else if k = 2 then c2 else c3, fun k => if k = 0 then iS0 else if k = 1 then iS1 else if k = 2 then iS2 else iS3), (ai, az, al), ⟨?_, ?_⟩, ?_, ?_, ?_, ?_, ?_, ?_, ?_, ?_, ?_, ?_, ?_, ?_⟩
  · intro k q hq
    match k, hq with
    | 0, hq => cases hq; exact hKn0
    | 1, hq => cases hq; exact hKn1
    | 2, hq => cases hq; exact hKn2
    | 3, hq => cases hq; exact hKn3
    | k + 4, hq => simp [vwCl] at hq
  · intro k q hq
    match k, hq with
    | 0, hq => cases hq; exact ⟨hai, hbi⟩
    | 1, hq => cases hq; exact ⟨haz, hbz⟩
    | 2, hq => cases hq; exact ⟨hal, hbl⟩
    | k + 3, hq => simp at hq
  · exact va_Nw.of (by rfl) (hts (Cond.methodLinkNest RX0 44 yX2_weekOf RX2) (List.mem_of_getElem? (i := 386) rfl))
  · exact va_Nw.of (by rfl) (hts (Cond.methodLinkNest RX1 64 yX2_contains RX2) (List.mem_of_getElem? (i := 409) rfl))
  · exact va_Nw.of (by rfl) (hts (Cond.methodLinkNest RX0 55 yX2_contains RX2) (List.mem_of_getElem? (i := 523) rfl))
  · exact va_Nw.of (by rfl) (hts (Cond.methodLinkNest RX0 58 yX2_namesOf RX2) (List.mem_of_getElem? (i := 524) rfl))
  · exact List.forall_mem_cons.mpr ⟨ks_str hKn2.2.1 (hts (Cond.stringRef RX2 162 "no such issuer") (List.mem_of_getElem? (i := 236) rfl)), List.forall_mem_cons.mpr ⟨ks_str hKn2.2.1 (hts (Cond.stringRef RX2 168 "day out of range") (List.mem_of_getElem? (i := 275) rfl)), List.forall_mem_cons.mpr ⟨ks_str hKn2.2.1 (hts (Cond.stringRef RX2 43 "the last day is ahead of the first one") (List.mem_of_getElem? (i := 282) rfl)), List.forall_mem_cons.mpr ⟨ks_str hKn2.2.1 (hts (Cond.stringRef RX2 48 "limit out of range") (List.mem_of_getElem? (i := 283) rfl)), List.forall_mem_cons.mpr ⟨ks_str hKn2.2.1 (hts (Cond.stringRef RX2 56 "no place for another issuer") (List.mem_of_getElem? (i := 297) rfl)), List.forall_mem_cons.mpr ⟨ks_str hKn2.2.1 (hts (Cond.stringRef RX2 63 "the signer is not below the issuer") (List.mem_of_getElem? (i := 329) rfl)), List.forall_mem_cons.mpr ⟨ks_str hKn2.2.1 (hts (Cond.stringRef RX2 69 "this issuer can't be signed by that one, too") (List.mem_of_getElem? (i := 334) rfl)), List.forall_mem_cons.mpr ⟨ks_str hKn2.2.1 (hts (Cond.stringRef RX2 166 "no such name") (List.mem_of_getElem? (i := 356) rfl)), List.forall_mem_cons.mpr ⟨ks_str hKn2.2.1 (hts (Cond.stringRef RX2 84 "pins out of range") (List.mem_of_getElem? (i := 357) rfl)), List.forall_mem_cons.mpr ⟨ks_str hKn2.2.1 (hts (Cond.stringRef RX2 86 "subject out of range") (List.mem_of_getElem? (i := 365) rfl)), List.forall_mem_cons.mpr ⟨ks_str hKn2.2.1 (hts (Cond.stringRef RX2 88 "length out of range") (List.mem_of_getElem? (i := 366) rfl)), List.forall_mem_cons.mpr ⟨ks_str hKn2.2.1 (hts (Cond.stringRef RX2 93 "the issuer can't issue") (List.mem_of_getElem? (i := 410) rfl)), List.forall_mem_cons.mpr ⟨ks_str hKn2.2.1 (hts (Cond.stringRef RX2 99 "days out of range") (List.mem_of_getElem? (i := 431) rfl)), List.forall_mem_cons.mpr ⟨ks_str hKn2.2.1 (hts (Cond.stringRef RX2 101 "today would be too late") (List.mem_of_getElem? (i := 432) rfl)), List.forall_mem_cons.mpr ⟨ks_str hKn2.2.1 (hts (Cond.stringRef RX2 164 "no such certificate") (List.mem_of_getElem? (i := 448) rfl)), List.forall_mem_cons.mpr ⟨ks_str hKn2.2.1 (hts (Cond.stringRef RX2 132 "no such place") (List.mem_of_getElem? (i := 479) rfl)), fun q h => absurd h List.not_mem_nil⟩⟩⟩⟩⟩⟩⟩⟩⟩⟩⟩⟩⟩⟩⟩⟩
  · exact List.forall_mem_cons.mpr ⟨va_Nw.of (by rfl) (hts (.declares (Bundle.initS "java/lang/RuntimeException")) (List.mem_of_getElem? (i := 199) rfl)), List.forall_mem_cons.mpr ⟨va_Nw.of (by rfl) (hts (.declares (Bundle.initS "java/lang/Exception")) (List.mem_of_getElem? (i := 201) rfl)), List.forall_mem_cons.mpr ⟨va_Nw.of (by rfl) (hts (.declares (Bundle.initS Bundle.tN)) (List.mem_of_getElem? (i := 203) rfl)), fun q h => absurd h List.not_mem_nil⟩⟩⟩
  · exact List.forall_mem_cons.mpr ⟨va_Nw.of (by rfl) (hts (.castable xIX xIX) (List.mem_of_getElem? (i := 197) rfl)), List.forall_mem_cons.mpr ⟨va_Nw.of (by rfl) (hts (.castable xIA xIA) (List.mem_of_getElem? (i := 268) rfl)), List.forall_mem_cons.mpr ⟨va_Nw.of (by rfl) (hts (.castable xIS xIS) (List.mem_of_getElem? (i := 290) rfl)), fun q h => absurd h List.not_mem_nil⟩⟩⟩
  · exact va_Nc.of (hs (Cond.not (.castable xIA xIX)) (by decide +kernel))
  · exact va_Nc.of (hs (Cond.not (.castable xIS xIX)) (by decide +kernel))
  · exact va_Nc.of (hs (Cond.not (.castable xIS xIA)) (by decide +kernel))
  · exact va_Nw.of (by rfl) (hts (Cond.methodLinkNest RX2 9 yX1_init RX2) (List.mem_of_getElem? (i := 50) rfl))
  · exact va_Nw.of (by rfl) (hts (Cond.methodLinkNest RX2 18 yX0_init RX2) (List.mem_of_getElem? (i := 90) rfl))
set_option maxHeartbeats 4000000 in
set_option maxRecDepth 100000 in
theorem ks_Z {s : State} {b : Addr} (hts : ∀ w ∈ lw_tbl, w.before #[Value.ref b] s = true) (hgv : (Jvm.Cond.and given_1 narrow_1).before #[Value.ref b] s = true) : kZ (lwA s) s s.heap := by
  have hs := flat_of_before _ hgv
  have h_UNA := vx_Zqof (A := lwA s) (hts (.laysStatic Bundle.tN "UNASSIGNED_STACK" Bundle.steD) (List.mem_of_getElem? (i := 222) rfl)) (hts (.initialized Bundle.tN) (List.mem_of_getElem? (i := 32) rfl)) (hs (.isRef (.static Bundle.tN "UNASSIGNED_STACK" Bundle.steD)) (by decide +kernel)) (fun a h => Nat.not_le.mpr h)
  have h_SUP := vx_Zqof (A := lwA s) (hts (.laysStatic Bundle.tN "SUPPRESSED_SENTINEL" Bundle.listD) (List.mem_of_getElem? (i := 224) rfl)) (hts (.initialized Bundle.tN) (List.mem_of_getElem? (i := 32) rfl)) (hs (.isRef (.static Bundle.tN "SUPPRESSED_SENTINEL" Bundle.listD)) (by decide +kernel)) (fun a h => Nat.not_le.mpr h)
  exact ⟨h_UNA, h_SUP⟩
theorem ks_fl {l : Launch} (h : l.flags = flags0) : l.stackTraces = false := by unfold Launch.stackTraces; rw [h]; decide
theorem sw_y (y : Int32) : (y.toInt < 0 ∨ 24 < y.toInt) ∨ ∃ k : Nat, k < 25 ∧ y = nI k := by
  by_cases h : y.toInt < 0 ∨ 24 < y.toInt
  · exact Or.inl h
  · have h0 : ¬ y < 0 := by
      rw [i32_lt, show (0 : Int32).toInt = 0 by decide]; omega
    have e := k_ix h0
    have e2 : y.toInt = (ix y : Int) := by rw [e, ix_nI (ix_lt h0)]; exact nI_toInt (ix_lt h0)
    exact Or.inr ⟨ix y, by omega, e⟩
set_option maxHeartbeats 4000000 in
set_option maxRecDepth 100000 in
/-- the law's loop: at its head, with i ints read in t calls -/
theorem law_loop {p : Program} {l : Launch} {e : Env} {s : State} {m : MethodId} {below : List Frame} {meth : Method} {c : Code} {D : va_G} {cy : ClassId × ClassId × ClassId} {b L : Nat} {xs : Nat → Int32} (hL : L ≤ 2560) (C0 : lw_At p s m meth c b L xs) (C : LC p l s m c D cy b L xs) (h pn a0 a1 a2 a3 a4 a5 a6 a7 a8 b0 b1 b2 b3 b4 b5 b6 b7 m0 m1 m2 m3 m4 m5 m6 m7 m8 m9 m10 m11 m12 m13 m14 m15 m16 m17 o : Nat) :
    ∀ (N i t : Nat), i = 5 * t → i ≤ L → L + 6 ≤ i + 5 * N → ∀ (fs ss fd ed lm dd ce cw : Nat → Int32) (n : Nat) (iss sb fst len off ren que : Nat → Int32) (kc : Nat) (pins : Nat → Int32) (sd dy th : Int32) (ag en cm wsn : Nat → Int32) (f : Nat → Int64) (H : Heap) (locs : List Loc) (ls : Array Slot), LInv n kc fs ss ed lm ce cw iss sb len → va_P D vwCl (wWL cy h pn a0 a1 a2 a3 a4 a5 a6 a7 a8 b0 b1 b2 b3 b4 b5 b6 b7 m0 m1 m2 m3 m4 m5 m6 m7 m8 m9 m10 m11 m12 m13 m14 m15 m16 m17 o fs ss fd ed lm dd ce cw n iss sb fst len off ren que kc pins sd dy th ag en cm wsn f) H → va_D (lwA s) (wWL cy h pn a0 a1 a2 a3 a4 a5 a6 a7 a8 b0 b1 b2 b3 b4 b5 b6 b7 m0 m1 m2 m3 m4 m5 m6 m7 m8 m9 m10 m11 m12 m13 m14 m15 m16 m17 o fs ss fd ed lm dd ce cw n iss sb fst len off ren que kc pins sd dy th ag en cm wsn f) → va_S (lwA s) s.heap H locs → lv_has ls 7 [(0, .ref b), (1, .ref h), (2, .ref m0), (3, .ref o), (4, .int (nI i))] → W p l e room_1 s m #[Value.ref b] below meth c H locs (38 + t) (1053 + 6 * t) (lw_Z below #[Value.ref b] s) (F0 m 23 ls []) := by
  obtain ⟨-, -, hr, -, -, -, -, -, hlocks, -⟩ := C0
  obtain ⟨hx, hb, hml, hown, hts, hX, hbl, hE, hZ, hfl⟩ := id C
  intro N
  induction N with
  | zero =>
    intro i t hi ht hN
    exact absurd hN (by omega)
  | succ N ih =>
    intro i t hi ht hN fs ss fd ed lm dd ce cw n iss sb fst len off ren que kc pins sd dy th ag en cm wsn f H locs ls hI hP hD hS hl
    have hLi : (Int32.ofNat L - 5 : Int32).toInt = (L : Int) - 5 := by
      have e1 : (Int32.ofNat L : Int32).toInt = (L : Int) := nI_toInt (by omega)
      have e2 : (5 : Int32).toInt = 5 := by decide
      rw [fb_subI (by omega) (by omega), e1, e2]
    have hii : (nI i : Int32).toInt = (i : Int) := nI_toInt (by omega)
    refine lv_iload hx hb dL_law_23 (lv_at hl 4 rfl) ?_
    refine lv_aload_n hx hb dL_law_25 rfl (lv_at hl 0 rfl) ?_
    refine va_slen hx hb hX hbl (Nat.not_le.mpr hbl) hS dL_law_26 ?_
    refine lv_iconst (v := 5) hx hb dL_law_27 (by decide) ?_
    refine lv_isub hx hb dL_law_28 ?_
    refine lv_icmp_gt (tgt := 1511) hx hb dL_law_29 (by decide) (fun _ => ?_) (fun hc => ?_)
    · refine lv_iconst (v := 1) hx hb dL_law_1511 (by decide) ?_
      refine va_forget (fun q hq => hS.2.2 q hq) ?_
      refine W.widen (k := 1078) (n := 9341) (by omega) (by omega) ?_
      exact lw_ret hx hb hr hlocks dL_law_1512
    · rw [i32_lt, hLi, hii] at hc
      have h5 : i + 5 ≤ L := by omega
      refine lv_aload_n hx hb dL_law_32 rfl (lv_at hl 0 rfl) ?_
      refine lv_iload hx hb dL_law_33 (lv_at hl 4 rfl) ?_
      refine va_sld hx hb hX hbl (Nat.not_le.mpr hbl) hS (vp_in_nI (by omega) (by omega)) dL_law_35 ?_
      refine lv_bipush (v := 31) hx hb dL_law_36 (by decide) ?_
      refine lv_iand hx hb dL_law_38 ?_
      generalize xs (nI i).toNatClampNeg &&& 31 = y
      have hin : ∀ k, k < 5 → vp_in (nI i + nI k) L := by
        intro k hk
        rw [nI_add]; exact vp_in_nI (by omega) (by omega)
      have hf : (38 + t) + 1 ≤ 1078 ∧ (1053 + 6 * t) + 6 ≤ 9341 := ⟨by omega, by omega⟩
      have hkk : LK p l e s m below meth c (lw_Z below #[Value.ref b] s) D cy b (nI i) h pn a0 a1 a2 a3 a4 a5 a6 a7 a8 b0 b1 b2 b3 b4 b5 b6 b7 m0 m1 m2 m3 m4 m5 m6 m7 m8 m9 m10 m11 m12 m13 m14 m15 m16 m17 o ((38 + t) + 1) ((1053 + 6 * t) + 6) := by
        intro fs ss fd ed lm dd ce cw n iss sb fst len off ren que kc pins sd dy th ag en cm wsn f H locs ls hI hP hD hS hl
        refine lv_iinc (v := nI (i + 5)) (lv' := [(4, .int (nI (i + 5))), (0, .ref b), (1, .ref h), (2, .ref m0), (3, .ref o)]) hx hb dL_law_1505 hl (k := 4) rfl (by rw [show Int32.ofInt 5 = nI 5 by decide, nI_add]) (by decide) rfl (fun ls hl => ?_)
        refine lv_goto (tgt := 23) hx hb dL_law_1508 (by decide) ?_
        have e1 : (38 + t) + 1 = 38 + (t + 1) := by omega
        have e2 : (1053 + 6 * t) + 6 = 1053 + 6 * (t + 1) := by omega
        rw [e1, e2]
        exact ih (i + 5) (t + 1) (by omega) (by omega) (by omega) fs ss fd ed lm dd ce cw n iss sb fst len off ren que kc pins sd dy th ag en cm wsn f H locs ls hI hP hD hS (lv_sub hl [1, 2, 3, 4, 0] rfl)
      rcases sw_y y with hy | ⟨k, hk, rfl⟩
      · refine lv_tableOut (tgt := 1505) hx hb dL_law_39 hy (by decide) ?_
        refine W.widen (k := (38 + t) + 1) (n := (1053 + 6 * t) + 6) (by omega) (by omega) ?_
        exact hkk fs ss fd ed lm dd ce cw n iss sb fst len off ren que kc pins sd dy th ag en cm wsn f H locs ls hI hP hD hS hl
      · rcases (by omega : k = 0 ∨ k = 1 ∨ k = 2 ∨ k = 3 ∨ k = 4 ∨ k = 5 ∨ k = 6 ∨ k = 7 ∨ k = 8 ∨ k = 9 ∨ k = 10 ∨ k = 11 ∨ k = 12 ∨ k = 13 ∨ k = 14 ∨ k = 15 ∨ k = 16 ∨ k = 17 ∨ k = 18 ∨ k = 19 ∨ k = 20 ∨ k = 21 ∨ k = 22 ∨ k = 23 ∨ k = 24) with rfl | rfl | rfl | rfl | rfl | rfl | rfl | rfl | rfl | rfl | rfl | rfl | rfl | rfl | rfl | rfl | rfl | rfl | rfl | rfl | rfl | rfl | rfl | rfl | rfl
        · refine lv_tableIn (off := 113) (tgt := 152) hx hb dL_law_39 (by decide) (by decide) rfl (by decide) ?_
          exact rd_addIssuer h pn a0 a1 a2 a3 a4 a5 a6 a7 a8 b0 b1 b2 b3 b4 b5 b6 b7 m0 m1 m2 m3 m4 m5 m6 m7 m8 m9 m10 m11 m12 m13 m14 m15 m16 m17 o fs ss fd ed lm dd ce cw n iss sb fst len off ren que kc pins sd dy th ag en cm wsn f C hI hin rfl rfl rfl rfl hf hP hD hS hl hkk
        · refine lv_tableIn (off := 205) (tgt := 244) hx hb dL_law_39 (by decide) (by decide) rfl (by decide) ?_
          exact rd_cross h pn a0 a1 a2 a3 a4 a5 a6 a7 a8 b0 b1 b2 b3 b4 b5 b6 b7 m0 m1 m2 m3 m4 m5 m6 m7 m8 m9 m10 m11 m12 m13 m14 m15 m16 m17 o fs ss fd ed lm dd ce cw n iss sb fst len off ren que kc pins sd dy th ag en cm wsn f C hI hin rfl rfl hf hP hD hS hl hkk
        · refine lv_tableIn (off := 273) (tgt := 312) hx hb dL_law_39 (by decide) (by decide) rfl (by decide) ?_
          exact rd_distrust h pn a0 a1 a2 a3 a4 a5 a6 a7 a8 b0 b1 b2 b3 b4 b5 b6 b7 m0 m1 m2 m3 m4 m5 m6 m7 m8 m9 m10 m11 m12 m13 m14 m15 m16 m17 o fs ss fd ed lm dd ce cw n iss sb fst len off ren que kc pins sd dy th ag en cm wsn f C hI hin rfl rfl hf hP hD hS hl hkk
        · refine lv_tableIn (off := 341) (tgt := 380) hx hb dL_law_39 (by decide) (by decide) rfl (by decide) ?_
          exact rd_pin h pn a0 a1 a2 a3 a4 a5 a6 a7 a8 b0 b1 b2 b3 b4 b5 b6 b7 m0 m1 m2 m3 m4 m5 m6 m7 m8 m9 m10 m11 m12 m13 m14 m15 m16 m17 o fs ss fd ed lm dd ce cw n iss sb fst len off ren que kc pins sd dy th ag en cm wsn f C hI hin rfl rfl hf hP hD hS hl hkk
        · refine lv_tableIn (off := 409) (tgt := 448) hx hb dL_law_39 (by decide) (by decide) rfl (by decide) ?_
          exact rd_setSeed h pn a0 a1 a2 a3 a4 a5 a6 a7 a8 b0 b1 b2 b3 b4 b5 b6 b7 m0 m1 m2 m3 m4 m5 m6 m7 m8 m9 m10 m11 m12 m13 m14 m15 m16 m17 o fs ss fd ed lm dd ce cw n iss sb fst len off ren que kc pins sd dy th ag en cm wsn f C hI hin rfl hf hP hD hS hl hkk
        · refine lv_tableIn (off := 432) (tgt := 471) hx hb dL_law_39 (by decide) (by decide) rfl (by decide) ?_
          exact rd_issue h pn a0 a1 a2 a3 a4 a5 a6 a7 a8 b0 b1 b2 b3 b4 b5 b6 b7 m0 m1 m2 m3 m4 m5 m6 m7 m8 m9 m10 m11 m12 m13 m14 m15 m16 m17 o fs ss fd ed lm dd ce cw n iss sb fst len off ren que kc pins sd dy th ag en cm wsn f C hI hin rfl rfl rfl hf hP hD hS hl hkk
        · refine lv_tableIn (off := 512) (tgt := 551) hx hb dL_law_39 (by decide) (by decide) rfl (by decide) ?_
          exact rd_pass h pn a0 a1 a2 a3 a4 a5 a6 a7 a8 b0 b1 b2 b3 b4 b5 b6 b7 m0 m1 m2 m3 m4 m5 m6 m7 m8 m9 m10 m11 m12 m13 m14 m15 m16 m17 o fs ss fd ed lm dd ce cw n iss sb fst len off ren que kc pins sd dy th ag en cm wsn f C hI hin rfl hf hP hD hS hl hkk
        · refine lv_tableIn (off := 568) (tgt := 607) hx hb dL_law_39 (by decide) (by decide) rfl (by decide) ?_
          exact rd_today h pn a0 a1 a2 a3 a4 a5 a6 a7 a8 b0 b1 b2 b3 b4 b5 b6 b7 m0 m1 m2 m3 m4 m5 m6 m7 m8 m9 m10 m11 m12 m13 m14 m15 m16 m17 o fs ss fd ed lm dd ce cw n iss sb fst len off ren que kc pins sd dy th ag en cm wsn f C hI hin hf hP hD hS hl hkk
        · refine lv_tableIn (off := 581) (tgt := 620) hx hb dL_law_39 (by decide) (by decide) rfl (by decide) ?_
          exact rd_issuers h pn a0 a1 a2 a3 a4 a5 a6 a7 a8 b0 b1 b2 b3 b4 b5 b6 b7 m0 m1 m2 m3 m4 m5 m6 m7 m8 m9 m10 m11 m12 m13 m14 m15 m16 m17 o fs ss fd ed lm dd ce cw n iss sb fst len off ren que kc pins sd dy th ag en cm wsn f C hI hin hf hP hD hS hl hkk
        · refine lv_tableIn (off := 594) (tgt := 633) hx hb dL_law_39 (by decide) (by decide) rfl (by decide) ?_
          exact rd_certificates h pn a0 a1 a2 a3 a4 a5 a6 a7 a8 b0 b1 b2 b3 b4 b5 b6 b7 m0 m1 m2 m3 m4 m5 m6 m7 m8 m9 m10 m11 m12 m13 m14 m15 m16 m17 o fs ss fd ed lm dd ce cw n iss sb fst len off ren que kc pins sd dy th ag en cm wsn f C hI hin hf hP hD hS hl hkk
        · refine lv_tableIn (off := 607) (tgt := 646) hx hb dL_law_39 (by decide) (by decide) rfl (by decide) ?_
          exact rd_issuerOf h pn a0 a1 a2 a3 a4 a5 a6 a7 a8 b0 b1 b2 b3 b4 b5 b6 b7 m0 m1 m2 m3 m4 m5 m6 m7 m8 m9 m10 m11 m12 m13 m14 m15 m16 m17 o fs ss fd ed lm dd ce cw n iss sb fst len off ren que kc pins sd dy th ag en cm wsn f C hI hin rfl hf hP hD hS hl hkk
        · refine lv_tableIn (off := 663) (tgt := 702) hx hb dL_law_39 (by decide) (by decide) rfl (by decide) ?_
          exact rd_lastDay h pn a0 a1 a2 a3 a4 a5 a6 a7 a8 b0 b1 b2 b3 b4 b5 b6 b7 m0 m1 m2 m3 m4 m5 m6 m7 m8 m9 m10 m11 m12 m13 m14 m15 m16 m17 o fs ss fd ed lm dd ce cw n iss sb fst len off ren que kc pins sd dy th ag en cm wsn f C hI hin rfl hf hP hD hS hl hkk
        · refine lv_tableIn (off := 719) (tgt := 758) hx hb dL_law_39 (by decide) (by decide) rfl (by decide) ?_
          exact rd_dueOn h pn a0 a1 a2 a3 a4 a5 a6 a7 a8 b0 b1 b2 b3 b4 b5 b6 b7 m0 m1 m2 m3 m4 m5 m6 m7 m8 m9 m10 m11 m12 m13 m14 m15 m16 m17 o fs ss fd ed lm dd ce cw n iss sb fst len off ren que kc pins sd dy th ag en cm wsn f C hI hin rfl hf hP hD hS hl hkk
        · refine lv_tableIn (off := 775) (tgt := 814) hx hb dL_law_39 (by decide) (by decide) rfl (by decide) ?_
          exact rd_renewal h pn a0 a1 a2 a3 a4 a5 a6 a7 a8 b0 b1 b2 b3 b4 b5 b6 b7 m0 m1 m2 m3 m4 m5 m6 m7 m8 m9 m10 m11 m12 m13 m14 m15 m16 m17 o fs ss fd ed lm dd ce cw n iss sb fst len off ren que kc pins sd dy th ag en cm wsn f C hI hin rfl hf hP hD hS hl hkk
        · refine lv_tableIn (off := 831) (tgt := 870) hx hb dL_law_39 (by decide) (by decide) rfl (by decide) ?_
          exact rd_waiting h pn a0 a1 a2 a3 a4 a5 a6 a7 a8 b0 b1 b2 b3 b4 b5 b6 b7 m0 m1 m2 m3 m4 m5 m6 m7 m8 m9 m10 m11 m12 m13 m14 m15 m16 m17 o fs ss fd ed lm dd ce cw n iss sb fst len off ren que kc pins sd dy th ag en cm wsn f C hI hin hf hP hD hS hl hkk
        · refine lv_tableIn (off := 844) (tgt := 883) hx hb dL_law_39 (by decide) (by decide) rfl (by decide) ?_
          exact rd_waitingAt h pn a0 a1 a2 a3 a4 a5 a6 a7 a8 b0 b1 b2 b3 b4 b5 b6 b7 m0 m1 m2 m3 m4 m5 m6 m7 m8 m9 m10 m11 m12 m13 m14 m15 m16 m17 o fs ss fd ed lm dd ce cw n iss sb fst len off ren que kc pins sd dy th ag en cm wsn f C hI hin rfl hf hP hD hS hl hkk
        · refine lv_tableIn (off := 900) (tgt := 939) hx hb dL_law_39 (by decide) (by decide) rfl (by decide) ?_
          exact rd_room h pn a0 a1 a2 a3 a4 a5 a6 a7 a8 b0 b1 b2 b3 b4 b5 b6 b7 m0 m1 m2 m3 m4 m5 m6 m7 m8 m9 m10 m11 m12 m13 m14 m15 m16 m17 o fs ss fd ed lm dd ce cw n iss sb fst len off ren que kc pins sd dy th ag en cm wsn f C hI hin rfl hf hP hD hS hl hkk
        · refine lv_tableIn (off := 956) (tgt := 995) hx hb dL_law_39 (by decide) (by decide) rfl (by decide) ?_
          exact rd_isGood h pn a0 a1 a2 a3 a4 a5 a6 a7 a8 b0 b1 b2 b3 b4 b5 b6 b7 m0 m1 m2 m3 m4 m5 m6 m7 m8 m9 m10 m11 m12 m13 m14 m15 m16 m17 o fs ss fd ed lm dd ce cw n iss sb fst len off ren que kc pins sd dy th ag en cm wsn f C hI hin rfl rfl hf hP hD hS hl hkk
        · refine lv_tableIn (off := 1031) (tgt := 1070) hx hb dL_law_39 (by decide) (by decide) rfl (by decide) ?_
          exact rd_chainEnd h pn a0 a1 a2 a3 a4 a5 a6 a7 a8 b0 b1 b2 b3 b4 b5 b6 b7 m0 m1 m2 m3 m4 m5 m6 m7 m8 m9 m10 m11 m12 m13 m14 m15 m16 m17 o fs ss fd ed lm dd ce cw n iss sb fst len off ren que kc pins sd dy th ag en cm wsn f C hI hin rfl hf hP hD hS hl hkk
        · refine lv_tableIn (off := 1087) (tgt := 1126) hx hb dL_law_39 (by decide) (by decide) rfl (by decide) ?_
          exact rd_chains h pn a0 a1 a2 a3 a4 a5 a6 a7 a8 b0 b1 b2 b3 b4 b5 b6 b7 m0 m1 m2 m3 m4 m5 m6 m7 m8 m9 m10 m11 m12 m13 m14 m15 m16 m17 o fs ss fd ed lm dd ce cw n iss sb fst len off ren que kc pins sd dy th ag en cm wsn f C hI hin rfl hf hP hD hS hl hkk
        · refine lv_tableIn (off := 1143) (tgt := 1182) hx hb dL_law_39 (by decide) (by decide) rfl (by decide) ?_
          exact rd_isCovered h pn a0 a1 a2 a3 a4 a5 a6 a7 a8 b0 b1 b2 b3 b4 b5 b6 b7 m0 m1 m2 m3 m4 m5 m6 m7 m8 m9 m10 m11 m12 m13 m14 m15 m16 m17 o fs ss fd ed lm dd ce cw n iss sb fst len off ren que kc pins sd dy th ag en cm wsn f C hI hin rfl rfl hf hP hD hS hl hkk
        · refine lv_tableIn (off := 1218) (tgt := 1257) hx hb dL_law_39 (by decide) (by decide) rfl (by decide) ?_
          exact rd_nextGap h pn a0 a1 a2 a3 a4 a5 a6 a7 a8 b0 b1 b2 b3 b4 b5 b6 b7 m0 m1 m2 m3 m4 m5 m6 m7 m8 m9 m10 m11 m12 m13 m14 m15 m16 m17 o fs ss fd ed lm dd ce cw n iss sb fst len off ren que kc pins sd dy th ag en cm wsn f C hI hin rfl rfl hf hP hD hS hl hkk
        · refine lv_tableIn (off := 1286) (tgt := 1325) hx hb dL_law_39 (by decide) (by decide) rfl (by decide) ?_
          exact rd_covered h pn a0 a1 a2 a3 a4 a5 a6 a7 a8 b0 b1 b2 b3 b4 b5 b6 b7 m0 m1 m2 m3 m4 m5 m6 m7 m8 m9 m10 m11 m12 m13 m14 m15 m16 m17 o fs ss fd ed lm dd ce cw n iss sb fst len off ren que kc pins sd dy th ag en cm wsn f C hI hin rfl hf hP hD hS hl hkk
        · refine lv_tableIn (off := 1342) (tgt := 1381) hx hb dL_law_39 (by decide) (by decide) rfl (by decide) ?_
          exact rd_breaks h pn a0 a1 a2 a3 a4 a5 a6 a7 a8 b0 b1 b2 b3 b4 b5 b6 b7 m0 m1 m2 m3 m4 m5 m6 m7 m8 m9 m10 m11 m12 m13 m14 m15 m16 m17 o fs ss fd ed lm dd ce cw n iss sb fst len off ren que kc pins sd dy th ag en cm wsn f C hI hin rfl rfl hf hP hD hS hl hkk
        · refine lv_tableIn (off := 1410) (tgt := 1449) hx hb dL_law_39 (by decide) (by decide) rfl (by decide) ?_
          exact rd_weakest h pn a0 a1 a2 a3 a4 a5 a6 a7 a8 b0 b1 b2 b3 b4 b5 b6 b7 m0 m1 m2 m3 m4 m5 m6 m7 m8 m9 m10 m11 m12 m13 m14 m15 m16 m17 o fs ss fd ed lm dd ce cw n iss sb fst len off ren que kc pins sd dy th ag en cm wsn f C hI hin rfl hf hP hD hS hl hkk
set_option maxHeartbeats 4000000 in
set_option maxRecDepth 100000 in
/-- the law, from its entry -/
theorem whole_start {p : Program} {e : Env} {s : State} {m : MethodId} {below : List Frame} {meth : Method} {c : Code} (l : Launch) (hflags : l.flags = flags0) {b L : Nat} {xs : Nat → Int32} (hL : L ≤ 2560) (C0 : lw_At p s m meth c b L xs) : W p l e room_1 s m #[Value.ref b] below meth c s.heap [] 0 0 (lw_Z below #[Value.ref b] s) (entryFrame m ([Value.ref b] : List Value).toArray 7) := by
  have hfl := ks_fl hflags
  obtain ⟨hx, hb, hr, hml, hown0, hts, hX, hbl, hlocks, hgv⟩ := id C0
  obtain ⟨D, cy, hE⟩ := ks_E hts hgv
  have hZ := ks_Z hts hgv
  have hown : s.vm.findClass RL = some m.cls := hown0
  have htl : ∀ w ∈ wsL_law, w.before #[Value.ref b] s = true := fun w h => hts w (wsL_law_in w h)
  have C : LC p l s m c D cy b L xs := ⟨hx, hb, hml, hown, htl, hX, hbl, hE, hZ, hfl⟩
  have hA : ∀ q : Nat, s.heap.size ≤ q → lwA s q := fun _ h => h
  have hS : va_S (lwA s) s.heap s.heap [] := va_S.rf
  have hP : va_P D vwCl [] s.heap := fun k q h => by simp at h
  have hD : va_D (lwA s) [] := ⟨fun i j p q h => by simp at h, fun k q h => by simp at h⟩
  have hl := lv_entry ([.ref b]) (n := 7) (Nat.le_of_ble_eq_true rfl)
  rw [lg_entry_eq]
  generalize (lg_sl ([.ref b]) ++ List.replicate (7 - (lg_sl ([.ref b])).length) Slot.unset).toArray = ls at hl ⊢
  have hl : lv_has ls 7 [(0, .ref b)] := hl
  refine va_new (ci := 2) (fs := [.null, .null, .null, .int 0, .int 0]) (C := RX2) (T := TX2) (N := 5) hx hb hts inX2 tyX2 tyX2_ok hown (hts (Cond.classLink RL 8 RX2) (List.mem_of_getElem? (i := 40) rfl)) (hts (Cond.instantiable RX2 5) (List.mem_of_getElem? (i := 41) rfl)) (hts (Cond.initialized RX2) (List.mem_of_getElem? (i := 28) rfl)) hE.1 hP hD hS hA rfl (fun j hj => by rcases (show j = 0 ∨ j = 1 ∨ j = 2 ∨ j = 3 ∨ j = 4 by omega) with rfl | rfl | rfl | rfl | rfl <;> rfl) (Nat.le_of_ble_eq_true rfl) (Nat.le_of_ble_eq_true rfl) dL_law_0 (fun h H hP hD hS => ?_)
  refine lv_dup hx hb dL_law_3 rfl ?_
  refine kcIC (X := []) (wc := [(h, .inr (2, [.null, .null, .null, .int 0, .int 0]))]) (rest := [.ref h]) ⟨hx, hb, hml, hown, htl⟩ hE hA hP hD hS (c_X2_init l D cy h) (hts (Cond.methodLink RL 80 yX2_init) (List.mem_of_getElem? (i := 42) rfl)) rfl (hts (Cond.instanceMethod yX2_init) (List.mem_of_getElem? (i := 43) rfl)) (hts (Cond.initialized RX2) (List.mem_of_getElem? (i := 28) rfl)) gL_law_X2_init rfl rfl rfl ⟨by decide, by decide, by decide +kernel⟩ ⟨Nat.le_of_ble_eq_true rfl, Nat.le_of_ble_eq_true rfl⟩ hl.1 rfl (Nat.le_of_ble_eq_true rfl) dL_law_4 ⟨Nat.le_of_ble_eq_true rfl, Nat.le_of_ble_eq_true rfl⟩ (fun u H locs hP hD hS => ?_)
  obtain ⟨a0, a1, a2, a3, a4, a5, a6, a7, a8, b0, b1, b2, b3, b4, b5, b6, b7, pn⟩ := u
  rw [List.nil_append] at hP hD
  have hP : va_P D vwCl (wH cy h pn a0 a1 a2 a3 a4 a5 a6 a7 a8 b0 b1 b2 b3 b4 b5 b6 b7 (fun _ => 0) (fun _ => 0) (fun _ => 0) (fun _ => 0) (fun _ => 0) (fun _ => 0) (fun _ => 0) (fun _ => 0) 0 (fun _ => 0) (fun _ => 0) (fun _ => 0) (fun _ => 0) (fun _ => 0) (fun _ => 0) (fun _ => 0) 0 (fun _ => 0) 1 0) H := hP
  have hD : va_D (lwA s) (wH cy h pn a0 a1 a2 a3 a4 a5 a6 a7 a8 b0 b1 b2 b3 b4 b5 b6 b7 (fun _ => 0) (fun _ => 0) (fun _ => 0) (fun _ => 0) (fun _ => 0) (fun _ => 0) (fun _ => 0) (fun _ => 0) 0 (fun _ => 0) (fun _ => 0) (fun _ => 0) (fun _ => 0) (fun _ => 0) (fun _ => 0) (fun _ => 0) 0 (fun _ => 0) 1 0) := hD
  refine lv_astore_n (lv' := [(1, .ref h), (0, .ref b)]) hx hb dL_law_7 rfl hl (by decide) rfl (fun ls hl => ?_)
  refine va_new (ci := 3) (fs := [.int 0, .int 0, .int 0, .int 0, .null, .null, .null, .null, .null, .null, .null, .null, .null, .null, .int 0, .null, .null, .null, .null, .null, .null, .null]) (C := RX3) (T := TX3) (N := 22) hx hb hts inX3 tyX3 tyX3_ok hown (hts (Cond.classLink RL 81 RX3) (List.mem_of_getElem? (i := 563) rfl)) (hts (Cond.instantiable RX3 22) (List.mem_of_getElem? (i := 564) rfl)) (hts (Cond.initialized RX3) (List.mem_of_getElem? (i := 31) rfl)) hE.1 hP hD hS hA rfl (fun j hj => by rcases (show j = 0 ∨ j = 1 ∨ j = 2 ∨ j = 3 ∨ j = 4 ∨ j = 5 ∨ j = 6 ∨ j = 7 ∨ j = 8 ∨ j = 9 ∨ j = 10 ∨ j = 11 ∨ j = 12 ∨ j = 13 ∨ j = 14 ∨ j = 15 ∨ j = 16 ∨ j = 17 ∨ j = 18 ∨ j = 19 ∨ j = 20 ∨ j = 21 by omega) with rfl | rfl | rfl | rfl | rfl | rfl | rfl | rfl | rfl | rfl | rfl | rfl | rfl | rfl | rfl | rfl | rfl | rfl | rfl | rfl | rfl | rfl <;> rfl) (Nat.le_of_ble_eq_true rfl) (Nat.le_of_ble_eq_true rfl) dL_law_8 (fun m0 H hP hD hS => ?_)
  refine lv_dup hx hb dL_law_11 rfl ?_
  refine kcIC (X := wH cy h pn a0 a1 a2 a3 a4 a5 a6 a7 a8 b0 b1 b2 b3 b4 b5 b6 b7 (fun _ => 0) (fun _ => 0) (fun _ => 0) (fun _ => 0) (fun _ => 0) (fun _ => 0) (fun _ => 0) (fun _ => 0) 0 (fun _ => 0) (fun _ => 0) (fun _ => 0) (fun _ => 0) (fun _ => 0) (fun _ => 0) (fun _ => 0) 0 (fun _ => 0) 1 0) (wc := [(m0, .inr (3, [.int 0, .int 0, .int 0, .int 0, .null, .null, .null, .null, .null, .null, .null, .null, .null, .null, .int 0, .null, .null, .null, .null, .null, .null, .null]))]) (rest := [.ref m0]) ⟨hx, hb, hml, hown, htl⟩ hE hA hP hD hS (c_X3_init l D cy m0) (hts (Cond.methodLink RL 83 yX3_init) (List.mem_of_getElem? (i := 565) rfl)) rfl (hts (Cond.instanceMethod yX3_init) (List.mem_of_getElem? (i := 566) rfl)) (hts (Cond.initialized RX3) (List.mem_of_getElem? (i := 31) rfl)) gL_law_X3_init rfl rfl rfl ⟨by decide, by decide, by decide +kernel⟩ ⟨Nat.le_of_ble_eq_true rfl, Nat.le_of_ble_eq_true rfl⟩ hl.1 rfl (Nat.le_of_ble_eq_true rfl) dL_law_12 ⟨Nat.le_of_ble_eq_true rfl, Nat.le_of_ble_eq_true rfl⟩ (fun u H locs hP hD hS => ?_)
  obtain ⟨m1, m2, m3, m4, m5, m6, m7, m8, m9, m10, m11, m12, m13, m14, m15, m16, m17⟩ := u
  have hP : va_P D vwCl (wH cy h pn a0 a1 a2 a3 a4 a5 a6 a7 a8 b0 b1 b2 b3 b4 b5 b6 b7 (fun _ => 0) (fun _ => 0) (fun _ => 0) (fun _ => 0) (fun _ => 0) (fun _ => 0) (fun _ => 0) (fun _ => 0) 0 (fun _ => 0) (fun _ => 0) (fun _ => 0) (fun _ => 0) (fun _ => 0) (fun _ => 0) (fun _ => 0) 0 (fun _ => 0) 1 0 ++ wM cy m0 m1 m2 m3 m4 m5 m6 m7 m8 m9 m10 m11 m12 m13 m14 m15 m16 m17 0 0 1 0 (fun _ => 0) (fun _ => 0) (fun _ => 0) (fun _ => 0) (fun _ => 0) (fun _ => 0) (fun _ => 0) (fun _ => 0) (fun _ => 0) (fun _ => 0) 0 (fun _ => 0) (fun _ => 0) (fun _ => 0) (fun _ => 0) (fun _ => 0) (fun _ => 0) (fun _ => 0)) H := hP
  have hD : va_D (lwA s) (wH cy h pn a0 a1 a2 a3 a4 a5 a6 a7 a8 b0 b1 b2 b3 b4 b5 b6 b7 (fun _ => 0) (fun _ => 0) (fun _ => 0) (fun _ => 0) (fun _ => 0) (fun _ => 0) (fun _ => 0) (fun _ => 0) 0 (fun _ => 0) (fun _ => 0) (fun _ => 0) (fun _ => 0) (fun _ => 0) (fun _ => 0) (fun _ => 0) 0 (fun _ => 0) 1 0 ++ wM cy m0 m1 m2 m3 m4 m5 m6 m7 m8 m9 m10 m11 m12 m13 m14 m15 m16 m17 0 0 1 0 (fun _ => 0) (fun _ => 0) (fun _ => 0) (fun _ => 0) (fun _ => 0) (fun _ => 0) (fun _ => 0) (fun _ => 0) (fun _ => 0) (fun _ => 0) 0 (fun _ => 0) (fun _ => 0) (fun _ => 0) (fun _ => 0) (fun _ => 0) (fun _ => 0) (fun _ => 0)) := hD
  refine lv_astore_n (lv' := [(2, .ref m0), (1, .ref h), (0, .ref b)]) hx hb dL_law_15 rfl hl (by decide) rfl (fun ls hl => ?_)
  refine lv_iconst (v := 1) hx hb dL_law_16 (by decide) ?_
  refine va_newa (atype := .long) (ty := .long) (N' := 1) (a0 := (1, .inr (.inl (fun _ => 0)))) hx hb (hts (Cond.arrayClass .long) (List.mem_of_getElem? (i := 818) rfl)) rfl hE.1 hP hD hS hA (fun _ => rfl) (by decide) (by decide) (Nat.le_of_ble_eq_true rfl) (Nat.le_of_ble_eq_true rfl) (Nat.le_of_ble_eq_true rfl) dL_law_17 (fun o cA H hK1 hP hD hS => ?_)
  have hcA : cA = cy.2.2 := k_clsJ hK1
  subst hcA
  have hP := hP.sub (ws' := wWL cy h pn a0 a1 a2 a3 a4 a5 a6 a7 a8 b0 b1 b2 b3 b4 b5 b6 b7 m0 m1 m2 m3 m4 m5 m6 m7 m8 m9 m10 m11 m12 m13 m14 m15 m16 m17 o (fun _ => 0) (fun _ => 0) (fun _ => 0) (fun _ => 0) (fun _ => 0) (fun _ => 0) (fun _ => 0) (fun _ => 0) 0 (fun _ => 0) (fun _ => 0) (fun _ => 0) (fun _ => 0) (fun _ => 0) (fun _ => 0) (fun _ => 0) 0 (fun _ => 0) 1 0 0 (fun _ => 0) (fun _ => 0) (fun _ => 0) (fun _ => 0) (fun _ => 0)) [19, 20, 21, 22, 23, 24, 25, 26, 27, 28, 29, 30, 31, 32, 33, 34, 35, 36, 0, 1, 2, 3, 4, 5, 6, 7, 8, 9, 10, 11, 12, 13, 14, 15, 16, 17, 18, 37] rfl
  have hD := hD.sub (ws' := wWL cy h pn a0 a1 a2 a3 a4 a5 a6 a7 a8 b0 b1 b2 b3 b4 b5 b6 b7 m0 m1 m2 m3 m4 m5 m6 m7 m8 m9 m10 m11 m12 m13 m14 m15 m16 m17 o (fun _ => 0) (fun _ => 0) (fun _ => 0) (fun _ => 0) (fun _ => 0) (fun _ => 0) (fun _ => 0) (fun _ => 0) 0 (fun _ => 0) (fun _ => 0) (fun _ => 0) (fun _ => 0) (fun _ => 0) (fun _ => 0) (fun _ => 0) 0 (fun _ => 0) 1 0 0 (fun _ => 0) (fun _ => 0) (fun _ => 0) (fun _ => 0) (fun _ => 0)) [19, 20, 21, 22, 23, 24, 25, 26, 27, 28, 29, 30, 31, 32, 33, 34, 35, 36, 0, 1, 2, 3, 4, 5, 6, 7, 8, 9, 10, 11, 12, 13, 14, 15, 16, 17, 18, 37] (by decide) rfl
  refine lv_astore_n (lv' := [(3, .ref o), (2, .ref m0), (1, .ref h), (0, .ref b)]) hx hb dL_law_19 rfl hl (by decide) rfl (fun ls hl => ?_)
  refine lv_iconst (v := 0) hx hb dL_law_20 (by decide) ?_
  refine lv_istore (lv' := [(4, .int 0), (3, .ref o), (2, .ref m0), (1, .ref h), (0, .ref b)]) hx hb dL_law_21 hl (by decide) rfl (fun ls hl => ?_)
  exact law_loop hL C0 C h pn a0 a1 a2 a3 a4 a5 a6 a7 a8 b0 b1 b2 b3 b4 b5 b6 b7 m0 m1 m2 m3 m4 m5 m6 m7 m8 m9 m10 m11 m12 m13 m14 m15 m16 m17 o (L + 6) 0 0 rfl (by omega) (by omega) (fun _ => 0) (fun _ => 0) (fun _ => 0) (fun _ => 0) (fun _ => 0) (fun _ => 0) (fun _ => 0) (fun _ => 0) 0 (fun _ => 0) (fun _ => 0) (fun _ => 0) (fun _ => 0) (fun _ => 0) (fun _ => 0) (fun _ => 0) 0 (fun _ => 0) 1 0 0 (fun _ => 0) (fun _ => 0) (fun _ => 0) (fun _ => 0) (fun _ => 0) H _ ls LInv_0 hP hD hS (lv_sub hl [4, 3, 2, 1, 0] rfl)
