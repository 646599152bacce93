/-! The law, call by call. -/
abbrev lwA (s : State) : Nat → Prop := fun q => s.heap.size ≤ q
def LC (p : Program) (l : Launch) (s : State) (m : MethodId) (c : Code) (D : va_G) (cy : ClassId × ClassId × ClassId) (b L : Nat) (xs : Nat → Int32) : Prop :=
  p.tables.exec = Jvm.exec ∧ c.code = code ∧ c.maxLocals = 14 ∧ s.vm.findClass RL = some m.cls ∧ (∀ w ∈ wsL_law, w.before #[Value.ref b] s = true) ∧ va_X b L xs s s.heap ∧ b < s.heap.size ∧ kE D cy s ∧ kZ (lwA s) s s.heap ∧ l.stackTraces = false
/-- what follows a turn's call -/
def LK (p : Program) (l : Launch) (e : Env) (s : State) (m : MethodId) (below : List Frame) (meth : Method) (c : Code) (Q : State → Prop) (D : va_G) (cy : ClassId × ClassId × ClassId) (b : Nat) (t : Nat) (w_ : Int32) (h pn a0 a1 a2 a3 a4 a5 a6 a7 a8 b0 b1 b2 b3 b4 b5 b6 b7 : Nat) : Prop :=
  ∀ (fs ss fd ed lm dd ce cw : Nat → Int32) (n : Nat) (iss sb fst len off ren que : Nat → Int32) (kc : Nat) (sd : Int32) (td : Nat) (H : Heap) (locs : List Loc) (ls : Array Slot), PInv n kc td fs ss lm ce cw iss sb fst len ren → td ≤ 12 * (t + 1) → va_P D vwCl (wH cy h pn a0 a1 a2 a3 a4 a5 a6 a7 a8 b0 b1 b2 b3 b4 b5 b6 b7 fs ss fd ed lm dd ce cw n iss sb fst len off ren que kc (fun _ => 0) sd (nI td)) H → va_D (lwA s) (wH cy h pn a0 a1 a2 a3 a4 a5 a6 a7 a8 b0 b1 b2 b3 b4 b5 b6 b7 fs ss fd ed lm dd ce cw n iss sb fst len off ren que kc (fun _ => 0) sd (nI td)) → va_S (lwA s) s.heap H locs → lv_has ls 14 [(0, .ref b), (1, .ref h), (2, .int (nI n)), (3, .int (nI kc)), (4, .int (nI td)), (5, .int (nI t)), (7, .int w_), (10, .int 1)] → W p l e room_1 s m #[Value.ref b] below meth c H locs 19 522 Q (F0 m 443 ls [])
/-- what follows a turn -/
def LN (p : Program) (l : Launch) (e : Env) (s : State) (m : MethodId) (below : List Frame) (meth : Method) (c : Code) (Q : State → Prop) (D : va_G) (cy : ClassId × ClassId × ClassId) (b : Nat) (t : Nat) (h pn a0 a1 a2 a3 a4 a5 a6 a7 a8 b0 b1 b2 b3 b4 b5 b6 b7 : Nat) : Prop :=
  ∀ (fs ss fd ed lm dd ce cw : Nat → Int32) (n : Nat) (iss sb fst len off ren que : Nat → Int32) (kc : Nat) (sd : Int32) (td : Nat) (H : Heap) (locs : List Loc) (ls : Array Slot), PInv n kc td fs ss lm ce cw iss sb fst len ren → td ≤ 12 * t → va_P D vwCl (wH cy h pn a0 a1 a2 a3 a4 a5 a6 a7 a8 b0 b1 b2 b3 b4 b5 b6 b7 fs ss fd ed lm dd ce cw n iss sb fst len off ren que kc (fun _ => 0) sd (nI td)) H → va_D (lwA s) (wH cy h pn a0 a1 a2 a3 a4 a5 a6 a7 a8 b0 b1 b2 b3 b4 b5 b6 b7 fs ss fd ed lm dd ce cw n iss sb fst len off ren que kc (fun _ => 0) sd (nI td)) → va_S (lwA s) s.heap H locs → lv_has ls 14 [(0, .ref b), (1, .ref h), (2, .int (nI n)), (3, .int (nI kc)), (4, .int (nI td)), (5, .int (nI t))] → W p l e room_1 s m #[Value.ref b] below meth c H locs 19 522 Q (F0 m 18 ls [])
set_option maxHeartbeats 4000000 in
set_option maxRecDepth 100000 in
theorem rd_add {p : Program} {l : Launch} {e : Env} {s : State} {m : MethodId} {below : List Frame} {meth : Method} {c : Code} {H : Heap} {locs : List Loc} {Q : State → Prop} {ls : Array Slot} {D : va_G} {cy : ClassId × ClassId × ClassId} {b L : Nat} {xs : Nat → Int32} {h pn a0 a1 a2 a3 a4 a5 a6 a7 a8 b0 b1 b2 b3 b4 b5 b6 b7 : Nat} {t : Nat} {w_ : Int32} {fs ss fd ed lm dd ce cw : Nat → Int32} {n : Nat} {iss sb fst len off ren que : Nat → Int32} {kc : Nat} {sd : Int32} {td : Nat}  (C : LC p l s m c D cy b L xs) (hI : PInv n kc td fs ss lm ce cw iss sb fst len ren) (hn8 : n < 8) (htd : td ≤ 12 * t) (ht : t < 60) (hP : va_P D vwCl (wH cy h pn a0 a1 a2 a3 a4 a5 a6 a7 a8 b0 b1 b2 b3 b4 b5 b6 b7 fs ss fd ed lm dd ce cw n iss sb fst len off ren que kc (fun _ => 0) sd (nI td)) H) (hD : va_D (lwA s) (wH cy h pn a0 a1 a2 a3 a4 a5 a6 a7 a8 b0 b1 b2 b3 b4 b5 b6 b7 fs ss fd ed lm dd ce cw n iss sb fst len off ren que kc (fun _ => 0) sd (nI td))) (hS : va_S (lwA s) s.heap H locs) (hl : lv_has ls 14 [(0, .ref b), (1, .ref h), (2, .int (nI n)), (3, .int (nI kc)), (4, .int (nI td)), (5, .int (nI t)), (7, .int w_), (10, .int 1)]) (hkk : LK p l e s m below meth c Q D cy b t w_ h pn a0 a1 a2 a3 a4 a5 a6 a7 a8 b0 b1 b2 b3 b4 b5 b6 b7) : W p l e room_1 s m #[Value.ref b] below meth c H locs 19 522 Q (F0 m 91 ls []) := by
  obtain ⟨hx, hb, hml, hown, hts, hX, hbl, hE, hZ, hfl⟩ := C
  have hA : ∀ q : Nat, s.heap.size ≤ q → lwA s q := fun _ h => h
  have hn := hI.1
  have hfs := hI.2.1
  have hss := hI.sgs
  have hC := hI.2.2.2.2.2
  have hc := hC.1
  refine lv_iload_n hx hb dL_law_91 rfl (lv_at hl 2 rfl) ?_
  refine lv_if_eq (tgt := 104) hx hb dL_law_92 (by decide) (fun c_92 => ?_) (fun c_92 => ?_)
  · have c_92n : n = 0 := k_eq0t (a := n) (by omega) c_92
    refine lv_iconst (v := (-1)) hx hb dL_law_104 (by decide) ?_
    refine lv_goto (tgt := 116) hx hb dL_law_105 (by decide) ?_
    refine lv_istore (lv' := [(11, .int (-1)), (0, .ref b), (1, .ref h), (2, .int (nI n)), (3, .int (nI kc)), (4, .int (nI td)), (5, .int (nI t)), (7, .int w_), (10, .int 1)]) hx hb dL_law_116 hl (by decide) rfl (fun ls hl => ?_)
    refine lv_aload_n hx hb dL_law_118 rfl (lv_at hl 2 rfl) ?_
    refine lv_iload hx hb dL_law_119 (lv_at hl 0 rfl) ?_
    refine lv_iload hx hb dL_law_121 (lv_at hl 7 rfl) ?_
    refine lv_bipush (v := 6) hx hb dL_law_123 (by decide) ?_
    refine lv_ishr hx hb dL_law_125 ?_
    refine lv_bipush (v := 10) hx hb dL_law_126 (by decide) ?_
    refine kcS_i (n := 2) (X := []) (wc := []) (Y := wH cy h pn a0 a1 a2 a3 a4 a5 a6 a7 a8 b0 b1 b2 b3 b4 b5 b6 b7 fs ss fd ed lm dd ce cw n iss sb fst len off ren que kc (fun _ => 0) sd (nI td)) (As := [.int (w_ >>> (6 &&& 31)), .int 10]) (rest := [.int (-1), .ref h]) ⟨hx, hb, hml, hown, hts⟩ hE hA hP hD hS (c_L_low l D cy (w_ >>> (6 &&& 31)) 10 (by first | assumption | omega) (by first | assumption | omega)) (fun _ => rfl) gL_law_L_low rfl rfl rfl ⟨by decide, by decide, by decide +kernel⟩ ⟨Nat.le_of_ble_eq_true rfl, Nat.le_of_ble_eq_true rfl⟩ rfl hl.1 rfl (Nat.le_of_ble_eq_true rfl) dL_law_128 ⟨Nat.le_of_ble_eq_true rfl, Nat.le_of_ble_eq_true rfl⟩ (fun r_1 u H locs e_2 hP hD hS => ?_)
    have hP : va_P D vwCl (wH cy h pn a0 a1 a2 a3 a4 a5 a6 a7 a8 b0 b1 b2 b3 b4 b5 b6 b7 fs ss fd ed lm dd ce cw n iss sb fst len off ren que kc (fun _ => 0) sd (nI td)) H := hP
    have hD : va_D (lwA s) (wH cy h pn a0 a1 a2 a3 a4 a5 a6 a7 a8 b0 b1 b2 b3 b4 b5 b6 b7 fs ss fd ed lm dd ce cw n iss sb fst len off ren que kc (fun _ => 0) sd (nI td)) := hD
    have e_2 : r_1 = nI (lowN (w_ >>> (6 &&& 31)) 10) := e_2
    subst e_2
    have hlw_128 : lowN (w_ >>> (6 &&& 31)) 10 < 10 := lowN_lt (by first | assumption | omega)
    refine lv_bipush (v := 60) hx hb dL_law_131 (by decide) ?_
    refine lv_iload hx hb dL_law_133 (lv_at hl 7 rfl) ?_
    refine lv_bipush (v := 10) hx hb dL_law_135 (by decide) ?_
    refine lv_ishr hx hb dL_law_137 ?_
    refine lv_sipush (v := 400) hx hb dL_law_138 (by decide) ?_
    refine kcS_i (n := 2) (X := []) (wc := []) (Y := wH cy h pn a0 a1 a2 a3 a4 a5 a6 a7 a8 b0 b1 b2 b3 b4 b5 b6 b7 fs ss fd ed lm dd ce cw n iss sb fst len off ren que kc (fun _ => 0) sd (nI td)) (As := [.int (w_ >>> (10 &&& 31)), .int 400]) (rest := [.int 60, .int (nI (lowN (w_ >>> (6 &&& 31)) 10)), .int (-1), .ref h]) ⟨hx, hb, hml, hown, hts⟩ hE hA hP hD hS (c_L_low l D cy (w_ >>> (10 &&& 31)) 400 (by first | assumption | omega) (by first | assumption | omega)) (fun _ => rfl) gL_law_L_low rfl rfl rfl ⟨by decide, by decide, by decide +kernel⟩ ⟨Nat.le_of_ble_eq_true rfl, Nat.le_of_ble_eq_true rfl⟩ rfl hl.1 rfl (Nat.le_of_ble_eq_true rfl) dL_law_141 ⟨Nat.le_of_ble_eq_true rfl, Nat.le_of_ble_eq_true rfl⟩ (fun r_3 u H locs e_4 hP hD hS => ?_)
    have hP : va_P D vwCl (wH cy h pn a0 a1 a2 a3 a4 a5 a6 a7 a8 b0 b1 b2 b3 b4 b5 b6 b7 fs ss fd ed lm dd ce cw n iss sb fst len off ren que kc (fun _ => 0) sd (nI td)) H := hP
    have hD : va_D (lwA s) (wH cy h pn a0 a1 a2 a3 a4 a5 a6 a7 a8 b0 b1 b2 b3 b4 b5 b6 b7 fs ss fd ed lm dd ce cw n iss sb fst len off ren que kc (fun _ => 0) sd (nI td)) := hD
    have e_4 : r_3 = nI (lowN (w_ >>> (10 &&& 31)) 400) := e_4
    subst e_4
    have hlw_141 : lowN (w_ >>> (10 &&& 31)) 400 < 400 := lowN_lt (by first | assumption | omega)
    refine lv_iadd hx hb dL_law_144 ?_
    refine k_top (z := nI (60 + lowN (w_ >>> (10 &&& 31)) 400)) (nI_add 60 _) ?_
    refine lv_iconst (v := 1) hx hb dL_law_145 (by decide) ?_
    refine lv_iload hx hb dL_law_146 (lv_at hl 7 rfl) ?_
    refine lv_bipush (v := 19) hx hb dL_law_148 (by decide) ?_
    refine lv_ishr hx hb dL_law_150 ?_
    refine lv_bipush (v := 6) hx hb dL_law_151 (by decide) ?_
    refine kcS_i (n := 2) (X := []) (wc := []) (Y := wH cy h pn a0 a1 a2 a3 a4 a5 a6 a7 a8 b0 b1 b2 b3 b4 b5 b6 b7 fs ss fd ed lm dd ce cw n iss sb fst len off ren que kc (fun _ => 0) sd (nI td)) (As := [.int (w_ >>> (19 &&& 31)), .int 6]) (rest := [.int 1, .int (nI (60 + lowN (w_ >>> (10 &&& 31)) 400)), .int (nI (lowN (w_ >>> (6 &&& 31)) 10)), .int (-1), .ref h]) ⟨hx, hb, hml, hown, hts⟩ hE hA hP hD hS (c_L_low l D cy (w_ >>> (19 &&& 31)) 6 (by first | assumption | omega) (by first | assumption | omega)) (fun _ => rfl) gL_law_L_low rfl rfl rfl ⟨by decide, by decide, by decide +kernel⟩ ⟨Nat.le_of_ble_eq_true rfl, Nat.le_of_ble_eq_true rfl⟩ rfl hl.1 rfl (Nat.le_of_ble_eq_true rfl) dL_law_153 ⟨Nat.le_of_ble_eq_true rfl, Nat.le_of_ble_eq_true rfl⟩ (fun r_5 u H locs e_6 hP hD hS => ?_)
    have hP : va_P D vwCl (wH cy h pn a0 a1 a2 a3 a4 a5 a6 a7 a8 b0 b1 b2 b3 b4 b5 b6 b7 fs ss fd ed lm dd ce cw n iss sb fst len off ren que kc (fun _ => 0) sd (nI td)) H := hP
    have hD : va_D (lwA s) (wH cy h pn a0 a1 a2 a3 a4 a5 a6 a7 a8 b0 b1 b2 b3 b4 b5 b6 b7 fs ss fd ed lm dd ce cw n iss sb fst len off ren que kc (fun _ => 0) sd (nI td)) := hD
    have e_6 : r_5 = nI (lowN (w_ >>> (19 &&& 31)) 6) := e_6
    subst e_6
    have hlw_153 : lowN (w_ >>> (19 &&& 31)) 6 < 6 := lowN_lt (by first | assumption | omega)
    refine lv_iadd hx hb dL_law_156 ?_
    refine k_top (z := nI (1 + lowN (w_ >>> (19 &&& 31)) 6)) (nI_add 1 _) ?_
    have hcd_157 : cdAdd n (-1) (nI (lowN (w_ >>> (6 &&& 31)) 10)) (nI (60 + lowN (w_ >>> (10 &&& 31)) 400)) (nI (1 + lowN (w_ >>> (19 &&& 31)) 6)) = 0 := (cdAdd_0 (Or.inl rfl) hn8 (by omega) (by omega) (by omega) (by omega))
    refine kxO_i (n := 4) (wc := wH cy h pn a0 a1 a2 a3 a4 a5 a6 a7 a8 b0 b1 b2 b3 b4 b5 b6 b7 fs ss fd ed lm dd ce cw n iss sb fst len off ren que kc (fun _ => 0) sd (nI td)) (As := [.int (-1), .int (nI (lowN (w_ >>> (6 &&& 31)) 10)), .int (nI (60 + lowN (w_ >>> (10 &&& 31)) 400)), .int (nI (1 + lowN (w_ >>> (19 &&& 31)) 6))]) (rest := []) ⟨hx, hb, hml, hown, hts⟩ hE hA hZ hP hD hS (c_X2_addIssuer l D cy hfl h pn a0 a1 a2 a3 a4 a5 a6 a7 a8 b0 b1 b2 b3 b4 b5 b6 b7 fs ss fd ed lm dd ce cw n iss sb fst len off ren que kc (fun _ => 0) sd (nI td) (-1) (nI (lowN (w_ >>> (6 &&& 31)) 10)) (nI (60 + lowN (w_ >>> (10 &&& 31)) 400)) (nI (1 + lowN (w_ >>> (19 &&& 31)) 6)) (by first | assumption | omega) hfs hss) (fun E h => absurd (show xkA E 0 from hcd_157 ▸ h) xkA_0) (fun _ => Eq.trans (b := [h, a0, a1, a2, a3, a4, a5, a6, a7, a8, b0, b1, b2, b3, b4, b5, b6, b7, pn]) rfl rfl) (q0 := 0) (ci := 2) rfl rfl gL_law_X2_addIssuer rfl rfl rfl ⟨rfl, by decide, by decide, by decide +kernel⟩ ⟨Nat.le_of_ble_eq_true rfl, Nat.le_of_ble_eq_true rfl⟩ rfl hl.1 rfl (Nat.le_of_ble_eq_true rfl) dL_law_157 ⟨Nat.le_of_ble_eq_true rfl, Nat.le_of_ble_eq_true rfl⟩ (fun r_7 u H locs e_8 hP hD hS => ?_)
    have hP : va_P D vwCl (wH cy h pn a0 a1 a2 a3 a4 a5 a6 a7 a8 b0 b1 b2 b3 b4 b5 b6 b7 (upd fs n (-1)) (upd ss n (-1)) (upd fd n (nI (lowN (w_ >>> (6 &&& 31)) 10))) (upd ed n (nI (60 + lowN (w_ >>> (10 &&& 31)) 400))) (upd lm n (nI (1 + lowN (w_ >>> (19 &&& 31)) 6))) (upd dd n (-1)) (ucE (upd fs n (-1)) (upd ss n (-1)) (upd ed n (nI (60 + lowN (w_ >>> (10 &&& 31)) 400))) n ce 1) (ucC (upd fs n (-1)) (upd ss n (-1)) n cw 1) (n + 1) iss sb fst len off ren que kc (fun _ => 0) sd (nI td)) H := hP
    have hD : va_D (lwA s) (wH cy h pn a0 a1 a2 a3 a4 a5 a6 a7 a8 b0 b1 b2 b3 b4 b5 b6 b7 (upd fs n (-1)) (upd ss n (-1)) (upd fd n (nI (lowN (w_ >>> (6 &&& 31)) 10))) (upd ed n (nI (60 + lowN (w_ >>> (10 &&& 31)) 400))) (upd lm n (nI (1 + lowN (w_ >>> (19 &&& 31)) 6))) (upd dd n (-1)) (ucE (upd fs n (-1)) (upd ss n (-1)) (upd ed n (nI (60 + lowN (w_ >>> (10 &&& 31)) 400))) n ce 1) (ucC (upd fs n (-1)) (upd ss n (-1)) n cw 1) (n + 1) iss sb fst len off ren que kc (fun _ => 0) sd (nI td)) := hD
    replace e_8 := e_8.1
    have e_8 : r_7 = nI n := e_8
    subst e_8
    refine lv_iload_n hx hb dL_law_160 rfl (lv_at hl 3 rfl) ?_
    refine lv_icmp_ne (tgt := 168) hx hb dL_law_161 (by decide) (fun c_161 => False.elim (c_161 rfl)) (fun c_161 => ?_)
    refine lv_iconst (v := 1) hx hb dL_law_164 (by decide) ?_
    refine lv_goto (tgt := 169) hx hb dL_law_165 (by decide) ?_
    refine lv_istore (lv' := [(10, .int 1), (11, .int (-1)), (0, .ref b), (1, .ref h), (2, .int (nI n)), (3, .int (nI kc)), (4, .int (nI td)), (5, .int (nI t)), (7, .int w_)]) hx hb dL_law_169 hl (by decide) rfl (fun ls hl => ?_)
    refine lv_iinc (v := (nI (n + 1))) (lv' := [(2, .int (nI (n + 1))), (10, .int 1), (11, .int (-1)), (0, .ref b), (1, .ref h), (3, .int (nI kc)), (4, .int (nI td)), (5, .int (nI t)), (7, .int w_)]) hx hb dL_law_171 hl (k := 4) rfl (k_inc _) (by decide) rfl (fun ls hl => ?_)
    refine lv_goto (tgt := 443) hx hb dL_law_174 (by decide) ?_
    exact hkk (upd fs n (-1)) (upd ss n (-1)) (upd fd n (nI (lowN (w_ >>> (6 &&& 31)) 10))) (upd ed n (nI (60 + lowN (w_ >>> (10 &&& 31)) 400))) (upd lm n (nI (1 + lowN (w_ >>> (19 &&& 31)) 6))) (upd dd n (-1)) (ucE (upd fs n (-1)) (upd ss n (-1)) (upd ed n (nI (60 + lowN (w_ >>> (10 &&& 31)) 400))) n ce 1) (ucC (upd fs n (-1)) (upd ss n (-1)) n cw 1) (n + 1) iss sb fst len off ren que kc sd td _ _ ls (PInv_add hI hn8 (sg_ok hn8 (Or.inl rfl)) (nI_le (b := 5000) (by omega) (by omega)) (by omega)) (by omega) hP hD hS (lv_sub hl [3, 4, 0, 5, 6, 7, 8, 1] rfl)
  · have c_92n : 0 < n := k_eq0f (a := n) (by omega) c_92
    refine lv_iload hx hb dL_law_95 (lv_at hl 6 rfl) ?_
    refine lv_iconst (v := 3) hx hb dL_law_97 (by decide) ?_
    refine kcS_i (n := 2) (X := []) (wc := []) (Y := wH cy h pn a0 a1 a2 a3 a4 a5 a6 a7 a8 b0 b1 b2 b3 b4 b5 b6 b7 fs ss fd ed lm dd ce cw n iss sb fst len off ren que kc (fun _ => 0) sd (nI td)) (As := [.int w_, .int 3]) (rest := []) ⟨hx, hb, hml, hown, hts⟩ hE hA hP hD hS (c_L_low l D cy w_ 3 (by first | assumption | omega) (by first | assumption | omega)) (fun _ => rfl) gL_law_L_low rfl rfl rfl ⟨by decide, by decide, by decide +kernel⟩ ⟨Nat.le_of_ble_eq_true rfl, Nat.le_of_ble_eq_true rfl⟩ rfl hl.1 rfl (Nat.le_of_ble_eq_true rfl) dL_law_98 ⟨Nat.le_of_ble_eq_true rfl, Nat.le_of_ble_eq_true rfl⟩ (fun r_9 u H locs e_10 hP hD hS => ?_)
    have hP : va_P D vwCl (wH cy h pn a0 a1 a2 a3 a4 a5 a6 a7 a8 b0 b1 b2 b3 b4 b5 b6 b7 fs ss fd ed lm dd ce cw n iss sb fst len off ren que kc (fun _ => 0) sd (nI td)) H := hP
    have hD : va_D (lwA s) (wH cy h pn a0 a1 a2 a3 a4 a5 a6 a7 a8 b0 b1 b2 b3 b4 b5 b6 b7 fs ss fd ed lm dd ce cw n iss sb fst len off ren que kc (fun _ => 0) sd (nI td)) := hD
    have e_10 : r_9 = nI (lowN w_ 3) := e_10
    subst e_10
    have hlw_98 : lowN w_ 3 < 3 := lowN_lt (by first | assumption | omega)
    refine lv_if_ne (tgt := 108) hx hb dL_law_101 (by decide) (fun c_101 => ?_) (fun c_101 => ?_)
    · have c_101n : 0 < (lowN w_ 3) := k_ne0t (a := (lowN w_ 3)) (by omega) c_101
      refine lv_iload hx hb dL_law_108 (lv_at hl 6 rfl) ?_
      refine lv_iconst (v := 2) hx hb dL_law_110 (by decide) ?_
      refine lv_ishr hx hb dL_law_111 ?_
      refine lv_iload_n hx hb dL_law_112 rfl (lv_at hl 2 rfl) ?_
      refine kcS_i (n := 2) (X := []) (wc := []) (Y := wH cy h pn a0 a1 a2 a3 a4 a5 a6 a7 a8 b0 b1 b2 b3 b4 b5 b6 b7 fs ss fd ed lm dd ce cw n iss sb fst len off ren que kc (fun _ => 0) sd (nI td)) (As := [.int (w_ >>> (2 &&& 31)), .int (nI n)]) (rest := []) ⟨hx, hb, hml, hown, hts⟩ hE hA hP hD hS (c_L_low l D cy (w_ >>> (2 &&& 31)) n (by first | assumption | omega) (by first | assumption | omega)) (fun _ => rfl) gL_law_L_low rfl rfl rfl ⟨by decide, by decide, by decide +kernel⟩ ⟨Nat.le_of_ble_eq_true rfl, Nat.le_of_ble_eq_true rfl⟩ rfl hl.1 rfl (Nat.le_of_ble_eq_true rfl) dL_law_113 ⟨Nat.le_of_ble_eq_true rfl, Nat.le_of_ble_eq_true rfl⟩ (fun r_11 u H locs e_12 hP hD hS => ?_)
      have hP : va_P D vwCl (wH cy h pn a0 a1 a2 a3 a4 a5 a6 a7 a8 b0 b1 b2 b3 b4 b5 b6 b7 fs ss fd ed lm dd ce cw n iss sb fst len off ren que kc (fun _ => 0) sd (nI td)) H := hP
      have hD : va_D (lwA s) (wH cy h pn a0 a1 a2 a3 a4 a5 a6 a7 a8 b0 b1 b2 b3 b4 b5 b6 b7 fs ss fd ed lm dd ce cw n iss sb fst len off ren que kc (fun _ => 0) sd (nI td)) := hD
      have e_12 : r_11 = nI (lowN (w_ >>> (2 &&& 31)) n) := e_12
      subst e_12
      have hlw_113 : lowN (w_ >>> (2 &&& 31)) n < n := lowN_lt (by first | assumption | omega)
      refine lv_istore (lv' := [(11, .int (nI (lowN (w_ >>> (2 &&& 31)) n))), (0, .ref b), (1, .ref h), (2, .int (nI n)), (3, .int (nI kc)), (4, .int (nI td)), (5, .int (nI t)), (7, .int w_), (10, .int 1)]) hx hb dL_law_116 hl (by decide) rfl (fun ls hl => ?_)
      refine lv_aload_n hx hb dL_law_118 rfl (lv_at hl 2 rfl) ?_
      refine lv_iload hx hb dL_law_119 (lv_at hl 0 rfl) ?_
      refine lv_iload hx hb dL_law_121 (lv_at hl 7 rfl) ?_
      refine lv_bipush (v := 6) hx hb dL_law_123 (by decide) ?_
      refine lv_ishr hx hb dL_law_125 ?_
      refine lv_bipush (v := 10) hx hb dL_law_126 (by decide) ?_
      refine kcS_i (n := 2) (X := []) (wc := []) (Y := wH cy h pn a0 a1 a2 a3 a4 a5 a6 a7 a8 b0 b1 b2 b3 b4 b5 b6 b7 fs ss fd ed lm dd ce cw n iss sb fst len off ren que kc (fun _ => 0) sd (nI td)) (As := [.int (w_ >>> (6 &&& 31)), .int 10]) (rest := [.int (nI (lowN (w_ >>> (2 &&& 31)) n)), .ref h]) ⟨hx, hb, hml, hown, hts⟩ hE hA hP hD hS (c_L_low l D cy (w_ >>> (6 &&& 31)) 10 (by first | assumption | omega) (by first | assumption | omega)) (fun _ => rfl) gL_law_L_low rfl rfl rfl ⟨by decide, by decide, by decide +kernel⟩ ⟨Nat.le_of_ble_eq_true rfl, Nat.le_of_ble_eq_true rfl⟩ rfl hl.1 rfl (Nat.le_of_ble_eq_true rfl) dL_law_128 ⟨Nat.le_of_ble_eq_true rfl, Nat.le_of_ble_eq_true rfl⟩ (fun r_13 u H locs e_14 hP hD hS => ?_)
      have hP : va_P D vwCl (wH cy h pn a0 a1 a2 a3 a4 a5 a6 a7 a8 b0 b1 b2 b3 b4 b5 b6 b7 fs ss fd ed lm dd ce cw n iss sb fst len off ren que kc (fun _ => 0) sd (nI td)) H := hP
      have hD : va_D (lwA s) (wH cy h pn a0 a1 a2 a3 a4 a5 a6 a7 a8 b0 b1 b2 b3 b4 b5 b6 b7 fs ss fd ed lm dd ce cw n iss sb fst len off ren que kc (fun _ => 0) sd (nI td)) := hD
      have e_14 : r_13 = nI (lowN (w_ >>> (6 &&& 31)) 10) := e_14
      subst e_14
      have hlw_128 : lowN (w_ >>> (6 &&& 31)) 10 < 10 := lowN_lt (by first | assumption | omega)
      refine lv_bipush (v := 60) hx hb dL_law_131 (by decide) ?_
      refine lv_iload hx hb dL_law_133 (lv_at hl 7 rfl) ?_
      refine lv_bipush (v := 10) hx hb dL_law_135 (by decide) ?_
      refine lv_ishr hx hb dL_law_137 ?_
      refine lv_sipush (v := 400) hx hb dL_law_138 (by decide) ?_
      refine kcS_i (n := 2) (X := []) (wc := []) (Y := wH cy h pn a0 a1 a2 a3 a4 a5 a6 a7 a8 b0 b1 b2 b3 b4 b5 b6 b7 fs ss fd ed lm dd ce cw n iss sb fst len off ren que kc (fun _ => 0) sd (nI td)) (As := [.int (w_ >>> (10 &&& 31)), .int 400]) (rest := [.int 60, .int (nI (lowN (w_ >>> (6 &&& 31)) 10)), .int (nI (lowN (w_ >>> (2 &&& 31)) n)), .ref h]) ⟨hx, hb, hml, hown, hts⟩ hE hA hP hD hS (c_L_low l D cy (w_ >>> (10 &&& 31)) 400 (by first | assumption | omega) (by first | assumption | omega)) (fun _ => rfl) gL_law_L_low rfl rfl rfl ⟨by decide, by decide, by decide +kernel⟩ ⟨Nat.le_of_ble_eq_true rfl, Nat.le_of_ble_eq_true rfl⟩ rfl hl.1 rfl (Nat.le_of_ble_eq_true rfl) dL_law_141 ⟨Nat.le_of_ble_eq_true rfl, Nat.le_of_ble_eq_true rfl⟩ (fun r_15 u H locs e_16 hP hD hS => ?_)
      have hP : va_P D vwCl (wH cy h pn a0 a1 a2 a3 a4 a5 a6 a7 a8 b0 b1 b2 b3 b4 b5 b6 b7 fs ss fd ed lm dd ce cw n iss sb fst len off ren que kc (fun _ => 0) sd (nI td)) H := hP
      have hD : va_D (lwA s) (wH cy h pn a0 a1 a2 a3 a4 a5 a6 a7 a8 b0 b1 b2 b3 b4 b5 b6 b7 fs ss fd ed lm dd ce cw n iss sb fst len off ren que kc (fun _ => 0) sd (nI td)) := hD
      have e_16 : r_15 = nI (lowN (w_ >>> (10 &&& 31)) 400) := e_16
      subst e_16
      have hlw_141 : lowN (w_ >>> (10 &&& 31)) 400 < 400 := lowN_lt (by first | assumption | omega)
      refine lv_iadd hx hb dL_law_144 ?_
      refine k_top (z := nI (60 + lowN (w_ >>> (10 &&& 31)) 400)) (nI_add 60 _) ?_
      refine lv_iconst (v := 1) hx hb dL_law_145 (by decide) ?_
      refine lv_iload hx hb dL_law_146 (lv_at hl 7 rfl) ?_
      refine lv_bipush (v := 19) hx hb dL_law_148 (by decide) ?_
      refine lv_ishr hx hb dL_law_150 ?_
      refine lv_bipush (v := 6) hx hb dL_law_151 (by decide) ?_
      refine kcS_i (n := 2) (X := []) (wc := []) (Y := wH cy h pn a0 a1 a2 a3 a4 a5 a6 a7 a8 b0 b1 b2 b3 b4 b5 b6 b7 fs ss fd ed lm dd ce cw n iss sb fst len off ren que kc (fun _ => 0) sd (nI td)) (As := [.int (w_ >>> (19 &&& 31)), .int 6]) (rest := [.int 1, .int (nI (60 + lowN (w_ >>> (10 &&& 31)) 400)), .int (nI (lowN (w_ >>> (6 &&& 31)) 10)), .int (nI (lowN (w_ >>> (2 &&& 31)) n)), .ref h]) ⟨hx, hb, hml, hown, hts⟩ hE hA hP hD hS (c_L_low l D cy (w_ >>> (19 &&& 31)) 6 (by first | assumption | omega) (by first | assumption | omega)) (fun _ => rfl) gL_law_L_low rfl rfl rfl ⟨by decide, by decide, by decide +kernel⟩ ⟨Nat.le_of_ble_eq_true rfl, Nat.le_of_ble_eq_true rfl⟩ rfl hl.1 rfl (Nat.le_of_ble_eq_true rfl) dL_law_153 ⟨Nat.le_of_ble_eq_true rfl, Nat.le_of_ble_eq_true rfl⟩ (fun r_17 u H locs e_18 hP hD hS => ?_)
      have hP : va_P D vwCl (wH cy h pn a0 a1 a2 a3 a4 a5 a6 a7 a8 b0 b1 b2 b3 b4 b5 b6 b7 fs ss fd ed lm dd ce cw n iss sb fst len off ren que kc (fun _ => 0) sd (nI td)) H := hP
      have hD : va_D (lwA s) (wH cy h pn a0 a1 a2 a3 a4 a5 a6 a7 a8 b0 b1 b2 b3 b4 b5 b6 b7 fs ss fd ed lm dd ce cw n iss sb fst len off ren que kc (fun _ => 0) sd (nI td)) := hD
      have e_18 : r_17 = nI (lowN (w_ >>> (19 &&& 31)) 6) := e_18
      subst e_18
      have hlw_153 : lowN (w_ >>> (19 &&& 31)) 6 < 6 := lowN_lt (by first | assumption | omega)
      refine lv_iadd hx hb dL_law_156 ?_
      refine k_top (z := nI (1 + lowN (w_ >>> (19 &&& 31)) 6)) (nI_add 1 _) ?_
      have hcd_157 : cdAdd n (nI (lowN (w_ >>> (2 &&& 31)) n)) (nI (lowN (w_ >>> (6 &&& 31)) 10)) (nI (60 + lowN (w_ >>> (10 &&& 31)) 400)) (nI (1 + lowN (w_ >>> (19 &&& 31)) 6)) = 0 := (cdAdd_0 (Or.inr ⟨_, hlw_113, rfl⟩) hn8 (by omega) (by omega) (by omega) (by omega))
      refine kxO_i (n := 4) (wc := wH cy h pn a0 a1 a2 a3 a4 a5 a6 a7 a8 b0 b1 b2 b3 b4 b5 b6 b7 fs ss fd ed lm dd ce cw n iss sb fst len off ren que kc (fun _ => 0) sd (nI td)) (As := [.int (nI (lowN (w_ >>> (2 &&& 31)) n)), .int (nI (lowN (w_ >>> (6 &&& 31)) 10)), .int (nI (60 + lowN (w_ >>> (10 &&& 31)) 400)), .int (nI (1 + lowN (w_ >>> (19 &&& 31)) 6))]) (rest := []) ⟨hx, hb, hml, hown, hts⟩ hE hA hZ hP hD hS (c_X2_addIssuer l D cy hfl h pn a0 a1 a2 a3 a4 a5 a6 a7 a8 b0 b1 b2 b3 b4 b5 b6 b7 fs ss fd ed lm dd ce cw n iss sb fst len off ren que kc (fun _ => 0) sd (nI td) (nI (lowN (w_ >>> (2 &&& 31)) n)) (nI (lowN (w_ >>> (6 &&& 31)) 10)) (nI (60 + lowN (w_ >>> (10 &&& 31)) 400)) (nI (1 + lowN (w_ >>> (19 &&& 31)) 6)) (by first | assumption | omega) hfs hss) (fun E h => absurd (show xkA E 0 from hcd_157 ▸ h) xkA_0) (fun _ => Eq.trans (b := [h, a0, a1, a2, a3, a4, a5, a6, a7, a8, b0, b1, b2, b3, b4, b5, b6, b7, pn]) rfl rfl) (q0 := 0) (ci := 2) rfl rfl gL_law_X2_addIssuer rfl rfl rfl ⟨rfl, by decide, by decide, by decide +kernel⟩ ⟨Nat.le_of_ble_eq_true rfl, Nat.le_of_ble_eq_true rfl⟩ rfl hl.1 rfl (Nat.le_of_ble_eq_true rfl) dL_law_157 ⟨Nat.le_of_ble_eq_true rfl, Nat.le_of_ble_eq_true rfl⟩ (fun r_19 u H locs e_20 hP hD hS => ?_)
      have hP : va_P D vwCl (wH cy h pn a0 a1 a2 a3 a4 a5 a6 a7 a8 b0 b1 b2 b3 b4 b5 b6 b7 (upd fs n (nI (lowN (w_ >>> (2 &&& 31)) n))) (upd ss n (-1)) (upd fd n (nI (lowN (w_ >>> (6 &&& 31)) 10))) (upd ed n (nI (60 + lowN (w_ >>> (10 &&& 31)) 400))) (upd lm n (nI (1 + lowN (w_ >>> (19 &&& 31)) 6))) (upd dd n (-1)) (ucE (upd fs n (nI (lowN (w_ >>> (2 &&& 31)) n))) (upd ss n (-1)) (upd ed n (nI (60 + lowN (w_ >>> (10 &&& 31)) 400))) n ce 1) (ucC (upd fs n (nI (lowN (w_ >>> (2 &&& 31)) n))) (upd ss n (-1)) n cw 1) (n + 1) iss sb fst len off ren que kc (fun _ => 0) sd (nI td)) H := hP
      have hD : va_D (lwA s) (wH cy h pn a0 a1 a2 a3 a4 a5 a6 a7 a8 b0 b1 b2 b3 b4 b5 b6 b7 (upd fs n (nI (lowN (w_ >>> (2 &&& 31)) n))) (upd ss n (-1)) (upd fd n (nI (lowN (w_ >>> (6 &&& 31)) 10))) (upd ed n (nI (60 + lowN (w_ >>> (10 &&& 31)) 400))) (upd lm n (nI (1 + lowN (w_ >>> (19 &&& 31)) 6))) (upd dd n (-1)) (ucE (upd fs n (nI (lowN (w_ >>> (2 &&& 31)) n))) (upd ss n (-1)) (upd ed n (nI (60 + lowN (w_ >>> (10 &&& 31)) 400))) n ce 1) (ucC (upd fs n (nI (lowN (w_ >>> (2 &&& 31)) n))) (upd ss n (-1)) n cw 1) (n + 1) iss sb fst len off ren que kc (fun _ => 0) sd (nI td)) := hD
      replace e_20 := e_20.1
      have e_20 : r_19 = nI n := e_20
      subst e_20
      refine lv_iload_n hx hb dL_law_160 rfl (lv_at hl 3 rfl) ?_
      refine lv_icmp_ne (tgt := 168) hx hb dL_law_161 (by decide) (fun c_161 => False.elim (c_161 rfl)) (fun c_161 => ?_)
      refine lv_iconst (v := 1) hx hb dL_law_164 (by decide) ?_
      refine lv_goto (tgt := 169) hx hb dL_law_165 (by decide) ?_
      refine lv_istore (lv' := [(10, .int 1), (11, .int (nI (lowN (w_ >>> (2 &&& 31)) n))), (0, .ref b), (1, .ref h), (2, .int (nI n)), (3, .int (nI kc)), (4, .int (nI td)), (5, .int (nI t)), (7, .int w_)]) hx hb dL_law_169 hl (by decide) rfl (fun ls hl => ?_)
      refine lv_iinc (v := (nI (n + 1))) (lv' := [(2, .int (nI (n + 1))), (10, .int 1), (11, .int (nI (lowN (w_ >>> (2 &&& 31)) n))), (0, .ref b), (1, .ref h), (3, .int (nI kc)), (4, .int (nI td)), (5, .int (nI t)), (7, .int w_)]) hx hb dL_law_171 hl (k := 4) rfl (k_inc _) (by decide) rfl (fun ls hl => ?_)
      refine lv_goto (tgt := 443) hx hb dL_law_174 (by decide) ?_
      exact hkk (upd fs n (nI (lowN (w_ >>> (2 &&& 31)) n))) (upd ss n (-1)) (upd fd n (nI (lowN (w_ >>> (6 &&& 31)) 10))) (upd ed n (nI (60 + lowN (w_ >>> (10 &&& 31)) 400))) (upd lm n (nI (1 + lowN (w_ >>> (19 &&& 31)) 6))) (upd dd n (-1)) (ucE (upd fs n (nI (lowN (w_ >>> (2 &&& 31)) n))) (upd ss n (-1)) (upd ed n (nI (60 + lowN (w_ >>> (10 &&& 31)) 400))) n ce 1) (ucC (upd fs n (nI (lowN (w_ >>> (2 &&& 31)) n))) (upd ss n (-1)) n cw 1) (n + 1) iss sb fst len off ren que kc sd td _ _ ls (PInv_add hI hn8 (sg_ok hn8 (Or.inr ⟨_, hlw_113, rfl⟩)) (nI_le (b := 5000) (by omega) (by omega)) (by omega)) (by omega) hP hD hS (lv_sub hl [3, 4, 0, 5, 6, 7, 8, 1] rfl)
    · have c_101n : (lowN w_ 3) = 0 := k_ne0f (a := (lowN w_ 3)) (by omega) c_101
      refine lv_iconst (v := (-1)) hx hb dL_law_104 (by decide) ?_
      refine lv_goto (tgt := 116) hx hb dL_law_105 (by decide) ?_
      refine lv_istore (lv' := [(11, .int (-1)), (0, .ref b), (1, .ref h), (2, .int (nI n)), (3, .int (nI kc)), (4, .int (nI td)), (5, .int (nI t)), (7, .int w_), (10, .int 1)]) hx hb dL_law_116 hl (by decide) rfl (fun ls hl => ?_)
      refine lv_aload_n hx hb dL_law_118 rfl (lv_at hl 2 rfl) ?_
      refine lv_iload hx hb dL_law_119 (lv_at hl 0 rfl) ?_
      refine lv_iload hx hb dL_law_121 (lv_at hl 7 rfl) ?_
      refine lv_bipush (v := 6) hx hb dL_law_123 (by decide) ?_
      refine lv_ishr hx hb dL_law_125 ?_
      refine lv_bipush (v := 10) hx hb dL_law_126 (by decide) ?_
      refine kcS_i (n := 2) (X := []) (wc := []) (Y := wH cy h pn a0 a1 a2 a3 a4 a5 a6 a7 a8 b0 b1 b2 b3 b4 b5 b6 b7 fs ss fd ed lm dd ce cw n iss sb fst len off ren que kc (fun _ => 0) sd (nI td)) (As := [.int (w_ >>> (6 &&& 31)), .int 10]) (rest := [.int (-1), .ref h]) ⟨hx, hb, hml, hown, hts⟩ hE hA hP hD hS (c_L_low l D cy (w_ >>> (6 &&& 31)) 10 (by first | assumption | omega) (by first | assumption | omega)) (fun _ => rfl) gL_law_L_low rfl rfl rfl ⟨by decide, by decide, by decide +kernel⟩ ⟨Nat.le_of_ble_eq_true rfl, Nat.le_of_ble_eq_true rfl⟩ rfl hl.1 rfl (Nat.le_of_ble_eq_true rfl) dL_law_128 ⟨Nat.le_of_ble_eq_true rfl, Nat.le_of_ble_eq_true rfl⟩ (fun r_21 u H locs e_22 hP hD hS => ?_)
      have hP : va_P D vwCl (wH cy h pn a0 a1 a2 a3 a4 a5 a6 a7 a8 b0 b1 b2 b3 b4 b5 b6 b7 fs ss fd ed lm dd ce cw n iss sb fst len off ren que kc (fun _ => 0) sd (nI td)) H := hP
      have hD : va_D (lwA s) (wH cy h pn a0 a1 a2 a3 a4 a5 a6 a7 a8 b0 b1 b2 b3 b4 b5 b6 b7 fs ss fd ed lm dd ce cw n iss sb fst len off ren que kc (fun _ => 0) sd (nI td)) := hD
      have e_22 : r_21 = nI (lowN (w_ >>> (6 &&& 31)) 10) := e_22
      subst e_22
      have hlw_128 : lowN (w_ >>> (6 &&& 31)) 10 < 10 := lowN_lt (by first | assumption | omega)
      refine lv_bipush (v := 60) hx hb dL_law_131 (by decide) ?_
      refine lv_iload hx hb dL_law_133 (lv_at hl 7 rfl) ?_
      refine lv_bipush (v := 10) hx hb dL_law_135 (by decide) ?_
      refine lv_ishr hx hb dL_law_137 ?_
      refine lv_sipush (v := 400) hx hb dL_law_138 (by decide) ?_
      refine kcS_i (n := 2) (X := []) (wc := []) (Y := wH cy h pn a0 a1 a2 a3 a4 a5 a6 a7 a8 b0 b1 b2 b3 b4 b5 b6 b7 fs ss fd ed lm dd ce cw n iss sb fst len off ren que kc (fun _ => 0) sd (nI td)) (As := [.int (w_ >>> (10 &&& 31)), .int 400]) (rest := [.int 60, .int (nI (lowN (w_ >>> (6 &&& 31)) 10)), .int (-1), .ref h]) ⟨hx, hb, hml, hown, hts⟩ hE hA hP hD hS (c_L_low l D cy (w_ >>> (10 &&& 31)) 400 (by first | assumption | omega) (by first | assumption | omega)) (fun _ => rfl) gL_law_L_low rfl rfl rfl ⟨by decide, by decide, by decide +kernel⟩ ⟨Nat.le_of_ble_eq_true rfl, Nat.le_of_ble_eq_true rfl⟩ rfl hl.1 rfl (Nat.le_of_ble_eq_true rfl) dL_law_141 ⟨Nat.le_of_ble_eq_true rfl, Nat.le_of_ble_eq_true rfl⟩ (fun r_23 u H locs e_24 hP hD hS => ?_)
      have hP : va_P D vwCl (wH cy h pn a0 a1 a2 a3 a4 a5 a6 a7 a8 b0 b1 b2 b3 b4 b5 b6 b7 fs ss fd ed lm dd ce cw n iss sb fst len off ren que kc (fun _ => 0) sd (nI td)) H := hP
      have hD : va_D (lwA s) (wH cy h pn a0 a1 a2 a3 a4 a5 a6 a7 a8 b0 b1 b2 b3 b4 b5 b6 b7 fs ss fd ed lm dd ce cw n iss sb fst len off ren que kc (fun _ => 0) sd (nI td)) := hD
      have e_24 : r_23 = nI (lowN (w_ >>> (10 &&& 31)) 400) := e_24
      subst e_24
      have hlw_141 : lowN (w_ >>> (10 &&& 31)) 400 < 400 := lowN_lt (by first | assumption | omega)
      refine lv_iadd hx hb dL_law_144 ?_
      refine k_top (z := nI (60 + lowN (w_ >>> (10 &&& 31)) 400)) (nI_add 60 _) ?_
      refine lv_iconst (v := 1) hx hb dL_law_145 (by decide) ?_
      refine lv_iload hx hb dL_law_146 (lv_at hl 7 rfl) ?_
      refine lv_bipush (v := 19) hx hb dL_law_148 (by decide) ?_
      refine lv_ishr hx hb dL_law_150 ?_
      refine lv_bipush (v := 6) hx hb dL_law_151 (by decide) ?_
      refine kcS_i (n := 2) (X := []) (wc := []) (Y := wH cy h pn a0 a1 a2 a3 a4 a5 a6 a7 a8 b0 b1 b2 b3 b4 b5 b6 b7 fs ss fd ed lm dd ce cw n iss sb fst len off ren que kc (fun _ => 0) sd (nI td)) (As := [.int (w_ >>> (19 &&& 31)), .int 6]) (rest := [.int 1, .int (nI (60 + lowN (w_ >>> (10 &&& 31)) 400)), .int (nI (lowN (w_ >>> (6 &&& 31)) 10)), .int (-1), .ref h]) ⟨hx, hb, hml, hown, hts⟩ hE hA hP hD hS (c_L_low l D cy (w_ >>> (19 &&& 31)) 6 (by first | assumption | omega) (by first | assumption | omega)) (fun _ => rfl) gL_law_L_low rfl rfl rfl ⟨by decide, by decide, by decide +kernel⟩ ⟨Nat.le_of_ble_eq_true rfl, Nat.le_of_ble_eq_true rfl⟩ rfl hl.1 rfl (Nat.le_of_ble_eq_true rfl) dL_law_153 ⟨Nat.le_of_ble_eq_true rfl, Nat.le_of_ble_eq_true rfl⟩ (fun r_25 u H locs e_26 hP hD hS => ?_)
      have hP : va_P D vwCl (wH cy h pn a0 a1 a2 a3 a4 a5 a6 a7 a8 b0 b1 b2 b3 b4 b5 b6 b7 fs ss fd ed lm dd ce cw n iss sb fst len off ren que kc (fun _ => 0) sd (nI td)) H := hP
      have hD : va_D (lwA s) (wH cy h pn a0 a1 a2 a3 a4 a5 a6 a7 a8 b0 b1 b2 b3 b4 b5 b6 b7 fs ss fd ed lm dd ce cw n iss sb fst len off ren que kc (fun _ => 0) sd (nI td)) := hD
      have e_26 : r_25 = nI (lowN (w_ >>> (19 &&& 31)) 6) := e_26
      subst e_26
      have hlw_153 : lowN (w_ >>> (19 &&& 31)) 6 < 6 := lowN_lt (by first | assumption | omega)
      refine lv_iadd hx hb dL_law_156 ?_
      refine k_top (z := nI (1 + lowN (w_ >>> (19 &&& 31)) 6)) (nI_add 1 _) ?_
      have hcd_157 : cdAdd n (-1) (nI (lowN (w_ >>> (6 &&& 31)) 10)) (nI (60 + lowN (w_ >>> (10 &&& 31)) 400)) (nI (1 + lowN (w_ >>> (19 &&& 31)) 6)) = 0 := (cdAdd_0 (Or.inl rfl) hn8 (by omega) (by omega) (by omega) (by omega))
      refine kxO_i (n := 4) (wc := wH cy h pn a0 a1 a2 a3 a4 a5 a6 a7 a8 b0 b1 b2 b3 b4 b5 b6 b7 fs ss fd ed lm dd ce cw n iss sb fst len off ren que kc (fun _ => 0) sd (nI td)) (As := [.int (-1), .int (nI (lowN (w_ >>> (6 &&& 31)) 10)), .int (nI (60 + lowN (w_ >>> (10 &&& 31)) 400)), .int (nI (1 + lowN (w_ >>> (19 &&& 31)) 6))]) (rest := []) ⟨hx, hb, hml, hown, hts⟩ hE hA hZ hP hD hS (c_X2_addIssuer l D cy hfl h pn a0 a1 a2 a3 a4 a5 a6 a7 a8 b0 b1 b2 b3 b4 b5 b6 b7 fs ss fd ed lm dd ce cw n iss sb fst len off ren que kc (fun _ => 0) sd (nI td) (-1) (nI (lowN (w_ >>> (6 &&& 31)) 10)) (nI (60 + lowN (w_ >>> (10 &&& 31)) 400)) (nI (1 + lowN (w_ >>> (19 &&& 31)) 6)) (by first | assumption | omega) hfs hss) (fun E h => absurd (show xkA E 0 from hcd_157 ▸ h) xkA_0) (fun _ => Eq.trans (b := [h, a0, a1, a2, a3, a4, a5, a6, a7, a8, b0, b1, b2, b3, b4, b5, b6, b7, pn]) rfl rfl) (q0 := 0) (ci := 2) rfl rfl gL_law_X2_addIssuer rfl rfl rfl ⟨rfl, by decide, by decide, by decide +kernel⟩ ⟨Nat.le_of_ble_eq_true rfl, Nat.le_of_ble_eq_true rfl⟩ rfl hl.1 rfl (Nat.le_of_ble_eq_true rfl) dL_law_157 ⟨Nat.le_of_ble_eq_true rfl, Nat.le_of_ble_eq_true rfl⟩ (fun r_27 u H locs e_28 hP hD hS => ?_)
      have hP : va_P D vwCl (wH cy h pn a0 a1 a2 a3 a4 a5 a6 a7 a8 b0 b1 b2 b3 b4 b5 b6 b7 (upd fs n (-1)) (upd ss n (-1)) (upd fd n (nI (lowN (w_ >>> (6 &&& 31)) 10))) (upd ed n (nI (60 + lowN (w_ >>> (10 &&& 31)) 400))) (upd lm n (nI (1 + lowN (w_ >>> (19 &&& 31)) 6))) (upd dd n (-1)) (ucE (upd fs n (-1)) (upd ss n (-1)) (upd ed n (nI (60 + lowN (w_ >>> (10 &&& 31)) 400))) n ce 1) (ucC (upd fs n (-1)) (upd ss n (-1)) n cw 1) (n + 1) iss sb fst len off ren que kc (fun _ => 0) sd (nI td)) H := hP
      have hD : va_D (lwA s) (wH cy h pn a0 a1 a2 a3 a4 a5 a6 a7 a8 b0 b1 b2 b3 b4 b5 b6 b7 (upd fs n (-1)) (upd ss n (-1)) (upd fd n (nI (lowN (w_ >>> (6 &&& 31)) 10))) (upd ed n (nI (60 + lowN (w_ >>> (10 &&& 31)) 400))) (upd lm n (nI (1 + lowN (w_ >>> (19 &&& 31)) 6))) (upd dd n (-1)) (ucE (upd fs n (-1)) (upd ss n (-1)) (upd ed n (nI (60 + lowN (w_ >>> (10 &&& 31)) 400))) n ce 1) (ucC (upd fs n (-1)) (upd ss n (-1)) n cw 1) (n + 1) iss sb fst len off ren que kc (fun _ => 0) sd (nI td)) := hD
      replace e_28 := e_28.1
      have e_28 : r_27 = nI n := e_28
      subst e_28
      refine lv_iload_n hx hb dL_law_160 rfl (lv_at hl 3 rfl) ?_
      refine lv_icmp_ne (tgt := 168) hx hb dL_law_161 (by decide) (fun c_161 => False.elim (c_161 rfl)) (fun c_161 => ?_)
      refine lv_iconst (v := 1) hx hb dL_law_164 (by decide) ?_
      refine lv_goto (tgt := 169) hx hb dL_law_165 (by decide) ?_
      refine lv_istore (lv' := [(10, .int 1), (11, .int (-1)), (0, .ref b), (1, .ref h), (2, .int (nI n)), (3, .int (nI kc)), (4, .int (nI td)), (5, .int (nI t)), (7, .int w_)]) hx hb dL_law_169 hl (by decide) rfl (fun ls hl => ?_)
      refine lv_iinc (v := (nI (n + 1))) (lv' := [(2, .int (nI (n + 1))), (10, .int 1), (11, .int (-1)), (0, .ref b), (1, .ref h), (3, .int (nI kc)), (4, .int (nI td)), (5, .int (nI t)), (7, .int w_)]) hx hb dL_law_171 hl (k := 4) rfl (k_inc _) (by decide) rfl (fun ls hl => ?_)
      refine lv_goto (tgt := 443) hx hb dL_law_174 (by decide) ?_
      exact hkk (upd fs n (-1)) (upd ss n (-1)) (upd fd n (nI (lowN (w_ >>> (6 &&& 31)) 10))) (upd ed n (nI (60 + lowN (w_ >>> (10 &&& 31)) 400))) (upd lm n (nI (1 + lowN (w_ >>> (19 &&& 31)) 6))) (upd dd n (-1)) (ucE (upd fs n (-1)) (upd ss n (-1)) (upd ed n (nI (60 + lowN (w_ >>> (10 &&& 31)) 400))) n ce 1) (ucC (upd fs n (-1)) (upd ss n (-1)) n cw 1) (n + 1) iss sb fst len off ren que kc sd td _ _ ls (PInv_add hI hn8 (sg_ok hn8 (Or.inl rfl)) (nI_le (b := 5000) (by omega) (by omega)) (by omega)) (by omega) hP hD hS (lv_sub hl [3, 4, 0, 5, 6, 7, 8, 1] rfl)
set_option maxHeartbeats 4000000 in
set_option maxRecDepth 100000 in
theorem rd_iss {p : Program} {l : Launch} {e : Env} {s : State} {m : MethodId} {below : List Frame} {meth : Method} {c : Code} {H : Heap} {locs : List Loc} {Q : State → Prop} {ls : Array Slot} {D : va_G} {cy : ClassId × ClassId × ClassId} {b L : Nat} {xs : Nat → Int32} {h pn a0 a1 a2 a3 a4 a5 a6 a7 a8 b0 b1 b2 b3 b4 b5 b6 b7 : Nat} {t : Nat} {w_ : Int32} {fs ss fd ed lm dd ce cw : Nat → Int32} {n : Nat} {iss sb fst len off ren que : Nat → Int32} {kc : Nat} {sd : Int32} {td : Nat} {i : Nat} (C : LC p l s m c D cy b L xs) (hI : PInv n kc td fs ss lm ce cw iss sb fst len ren) (hi : i < n) (hk50 : kc < 50) (htd : td ≤ 12 * t) (ht : t < 60) (hP : va_P D vwCl (wH cy h pn a0 a1 a2 a3 a4 a5 a6 a7 a8 b0 b1 b2 b3 b4 b5 b6 b7 fs ss fd ed lm dd ce cw n iss sb fst len off ren que kc (fun _ => 0) sd (nI td)) H) (hD : va_D (lwA s) (wH cy h pn a0 a1 a2 a3 a4 a5 a6 a7 a8 b0 b1 b2 b3 b4 b5 b6 b7 fs ss fd ed lm dd ce cw n iss sb fst len off ren que kc (fun _ => 0) sd (nI td))) (hS : va_S (lwA s) s.heap H locs) (hl : lv_has ls 14 [(0, .ref b), (1, .ref h), (2, .int (nI n)), (3, .int (nI kc)), (4, .int (nI td)), (5, .int (nI t)), (7, .int w_), (9, .int (nI i)), (10, .int 1)]) (hkk : LK p l e s m below meth c Q D cy b t w_ h pn a0 a1 a2 a3 a4 a5 a6 a7 a8 b0 b1 b2 b3 b4 b5 b6 b7) : W p l e room_1 s m #[Value.ref b] below meth c H locs 19 522 Q (F0 m 190 ls []) := by
  obtain ⟨hx, hb, hml, hown, hts, hX, hbl, hE, hZ, hfl⟩ := C
  have hA : ∀ q : Nat, s.heap.size ≤ q → lwA s q := fun _ h => h
  have hn := hI.1
  have hfs := hI.2.1
  have hss := hI.sgs
  have hC := hI.2.2.2.2.2
  have hc := hC.1
  refine lv_iload hx hb dL_law_190 (lv_at hl 6 rfl) ?_
  refine lv_iconst (v := 3) hx hb dL_law_192 (by decide) ?_
  refine lv_ishr hx hb dL_law_193 ?_
  refine lv_bipush (v := 20) hx hb dL_law_194 (by decide) ?_
  refine kcS_i (n := 2) (X := []) (wc := []) (Y := wH cy h pn a0 a1 a2 a3 a4 a5 a6 a7 a8 b0 b1 b2 b3 b4 b5 b6 b7 fs ss fd ed lm dd ce cw n iss sb fst len off ren que kc (fun _ => 0) sd (nI td)) (As := [.int (w_ >>> (3 &&& 31)), .int 20]) (rest := []) ⟨hx, hb, hml, hown, hts⟩ hE hA hP hD hS (c_L_low l D cy (w_ >>> (3 &&& 31)) 20 (by first | assumption | omega) (by first | assumption | omega)) (fun _ => rfl) gL_law_L_low rfl rfl rfl ⟨by decide, by decide, by decide +kernel⟩ ⟨Nat.le_of_ble_eq_true rfl, Nat.le_of_ble_eq_true rfl⟩ rfl hl.1 rfl (Nat.le_of_ble_eq_true rfl) dL_law_196 ⟨Nat.le_of_ble_eq_true rfl, Nat.le_of_ble_eq_true rfl⟩ (fun r_1 u H locs e_2 hP hD hS => ?_)
  have hP : va_P D vwCl (wH cy h pn a0 a1 a2 a3 a4 a5 a6 a7 a8 b0 b1 b2 b3 b4 b5 b6 b7 fs ss fd ed lm dd ce cw n iss sb fst len off ren que kc (fun _ => 0) sd (nI td)) H := hP
  have hD : va_D (lwA s) (wH cy h pn a0 a1 a2 a3 a4 a5 a6 a7 a8 b0 b1 b2 b3 b4 b5 b6 b7 fs ss fd ed lm dd ce cw n iss sb fst len off ren que kc (fun _ => 0) sd (nI td)) := hD
  have e_2 : r_1 = nI (lowN (w_ >>> (3 &&& 31)) 20) := e_2
  subst e_2
  have hlw_196 : lowN (w_ >>> (3 &&& 31)) 20 < 20 := lowN_lt (by first | assumption | omega)
  refine lv_istore (lv' := [(11, .int (nI (lowN (w_ >>> (3 &&& 31)) 20))), (0, .ref b), (1, .ref h), (2, .int (nI n)), (3, .int (nI kc)), (4, .int (nI td)), (5, .int (nI t)), (7, .int w_), (9, .int (nI i)), (10, .int 1)]) hx hb dL_law_199 hl (by decide) rfl (fun ls hl => ?_)
  refine lv_iconst (v := 1) hx hb dL_law_201 (by decide) ?_
  refine lv_iload hx hb dL_law_202 (lv_at hl 7 rfl) ?_
  refine lv_bipush (v := 8) hx hb dL_law_204 (by decide) ?_
  refine lv_ishr hx hb dL_law_206 ?_
  refine lv_bipush (v := 60) hx hb dL_law_207 (by decide) ?_
  refine kcS_i (n := 2) (X := []) (wc := []) (Y := wH cy h pn a0 a1 a2 a3 a4 a5 a6 a7 a8 b0 b1 b2 b3 b4 b5 b6 b7 fs ss fd ed lm dd ce cw n iss sb fst len off ren que kc (fun _ => 0) sd (nI td)) (As := [.int (w_ >>> (8 &&& 31)), .int 60]) (rest := [.int 1]) ⟨hx, hb, hml, hown, hts⟩ hE hA hP hD hS (c_L_low l D cy (w_ >>> (8 &&& 31)) 60 (by first | assumption | omega) (by first | assumption | omega)) (fun _ => rfl) gL_law_L_low rfl rfl rfl ⟨by decide, by decide, by decide +kernel⟩ ⟨Nat.le_of_ble_eq_true rfl, Nat.le_of_ble_eq_true rfl⟩ rfl hl.1 rfl (Nat.le_of_ble_eq_true rfl) dL_law_209 ⟨Nat.le_of_ble_eq_true rfl, Nat.le_of_ble_eq_true rfl⟩ (fun r_3 u H locs e_4 hP hD hS => ?_)
  have hP : va_P D vwCl (wH cy h pn a0 a1 a2 a3 a4 a5 a6 a7 a8 b0 b1 b2 b3 b4 b5 b6 b7 fs ss fd ed lm dd ce cw n iss sb fst len off ren que kc (fun _ => 0) sd (nI td)) H := hP
  have hD : va_D (lwA s) (wH cy h pn a0 a1 a2 a3 a4 a5 a6 a7 a8 b0 b1 b2 b3 b4 b5 b6 b7 fs ss fd ed lm dd ce cw n iss sb fst len off ren que kc (fun _ => 0) sd (nI td)) := hD
  have e_4 : r_3 = nI (lowN (w_ >>> (8 &&& 31)) 60) := e_4
  subst e_4
  have hlw_209 : lowN (w_ >>> (8 &&& 31)) 60 < 60 := lowN_lt (by first | assumption | omega)
  refine lv_iadd hx hb dL_law_212 ?_
  refine k_top (z := nI (1 + lowN (w_ >>> (8 &&& 31)) 60)) (nI_add 1 _) ?_
  refine lv_istore (lv' := [(12, .int (nI (1 + lowN (w_ >>> (8 &&& 31)) 60))), (11, .int (nI (lowN (w_ >>> (3 &&& 31)) 20))), (0, .ref b), (1, .ref h), (2, .int (nI n)), (3, .int (nI kc)), (4, .int (nI td)), (5, .int (nI t)), (7, .int w_), (9, .int (nI i)), (10, .int 1)]) hx hb dL_law_213 hl (by decide) rfl (fun ls hl => ?_)
  refine lv_aload_n hx hb dL_law_215 rfl (lv_at hl 3 rfl) ?_
  refine lv_iload hx hb dL_law_216 (lv_at hl 9 rfl) ?_
  have hcd_218 : cdOne n (nI i) = 0 := (cdOne_nI hi (by omega))
  refine kxO_i (n := 1) (wc := wH cy h pn a0 a1 a2 a3 a4 a5 a6 a7 a8 b0 b1 b2 b3 b4 b5 b6 b7 fs ss fd ed lm dd ce cw n iss sb fst len off ren que kc (fun _ => 0) sd (nI td)) (As := [.int (nI i)]) (rest := []) ⟨hx, hb, hml, hown, hts⟩ hE hA hZ hP hD hS (c_X2_room l D cy hfl h pn a0 a1 a2 a3 a4 a5 a6 a7 a8 b0 b1 b2 b3 b4 b5 b6 b7 fs ss fd ed lm dd ce cw n iss sb fst len off ren que kc (fun _ => 0) sd (nI td) (nI i) (by first | assumption | omega) (by first | assumption | omega)) (fun E h => absurd (show xkA E 0 from hcd_218 ▸ h) xkA_0) (fun _ => rfl) (q0 := 0) (ci := 2) rfl rfl gL_law_X2_room rfl rfl rfl ⟨rfl, by decide, by decide, by decide +kernel⟩ ⟨Nat.le_of_ble_eq_true rfl, Nat.le_of_ble_eq_true rfl⟩ rfl hl.1 rfl (Nat.le_of_ble_eq_true rfl) dL_law_218 ⟨Nat.le_of_ble_eq_true rfl, Nat.le_of_ble_eq_true rfl⟩ (fun r_5 u H locs e_6 hP hD hS => ?_)
  have hP : va_P D vwCl (wH cy h pn a0 a1 a2 a3 a4 a5 a6 a7 a8 b0 b1 b2 b3 b4 b5 b6 b7 fs ss fd ed lm dd ce cw n iss sb fst len off ren que kc (fun _ => 0) sd (nI td)) H := hP
  have hD : va_D (lwA s) (wH cy h pn a0 a1 a2 a3 a4 a5 a6 a7 a8 b0 b1 b2 b3 b4 b5 b6 b7 fs ss fd ed lm dd ce cw n iss sb fst len off ren que kc (fun _ => 0) sd (nI td)) := hD
  replace e_6 := e_6.1
  have e_6 : r_5 = lm (ix (nI i)) - iwN iss fst (nI (ix (nI i))) ((nI td) / 7) kc := e_6
  subst e_6
  refine k_top (z := lm i - iwN iss fst (nI i) (nI td / 7) kc) (by rw [ix_nI (by omega)]) ?_
  refine lv_if_le (tgt := 239) hx hb dL_law_221 (by decide) (fun c_221 => ?_) (fun c_221 => ?_)
  · refine lv_iconst (v := 0) hx hb dL_law_239 (by decide) ?_
    refine lv_istore (lv' := [(13, .int 0), (12, .int (nI (1 + lowN (w_ >>> (8 &&& 31)) 60))), (11, .int (nI (lowN (w_ >>> (3 &&& 31)) 20))), (0, .ref b), (1, .ref h), (2, .int (nI n)), (3, .int (nI kc)), (4, .int (nI td)), (5, .int (nI t)), (7, .int w_), (9, .int (nI i)), (10, .int 1)]) hx hb dL_law_240 hl (by decide) rfl (fun ls hl => ?_)
    refine lv_iload hx hb dL_law_242 (lv_at hl 0 rfl) ?_
    refine lv_if_eq (tgt := 303) hx hb dL_law_244 (by decide) (fun _ => ?_) (fun c_244 => absurd c_244 (by decide))
    refine lv_goto (tgt := 443) hx hb dL_law_303 (by decide) ?_
    exact hkk fs ss fd ed lm dd ce cw n iss sb fst len off ren que kc sd td _ _ ls hI (by omega) hP hD hS (lv_sub hl [3, 4, 5, 6, 7, 8, 9, 11] rfl)
  · refine lv_aload_n hx hb dL_law_224 rfl (lv_at hl 3 rfl) ?_
    refine lv_iload hx hb dL_law_225 (lv_at hl 9 rfl) ?_
    refine lv_iload hx hb dL_law_227 (lv_at hl 6 rfl) ?_
    have hcd_229 : cdID n (nI i) (nI td) = 0 := (cdID_nI hi (by omega) (by omega))
    refine kxO_i (n := 2) (wc := wH cy h pn a0 a1 a2 a3 a4 a5 a6 a7 a8 b0 b1 b2 b3 b4 b5 b6 b7 fs ss fd ed lm dd ce cw n iss sb fst len off ren que kc (fun _ => 0) sd (nI td)) (As := [.int (nI i), .int (nI td)]) (rest := []) ⟨hx, hb, hml, hown, hts⟩ hE hA hZ hP hD hS (c_X2_isGood l D cy hfl h pn a0 a1 a2 a3 a4 a5 a6 a7 a8 b0 b1 b2 b3 b4 b5 b6 b7 fs ss fd ed lm dd ce cw n iss sb fst len off ren que kc (fun _ => 0) sd (nI td) (nI i) (nI td) (by first | assumption | omega)) (fun E h => absurd (show xkA E 0 from hcd_229 ▸ h) xkA_0) (fun _ => rfl) (q0 := 0) (ci := 2) rfl rfl gL_law_X2_isGood rfl rfl rfl ⟨rfl, by decide, by decide, by decide +kernel⟩ ⟨Nat.le_of_ble_eq_true rfl, Nat.le_of_ble_eq_true rfl⟩ rfl hl.1 rfl (Nat.le_of_ble_eq_true rfl) dL_law_229 ⟨Nat.le_of_ble_eq_true rfl, Nat.le_of_ble_eq_true rfl⟩ (fun r_7 u H locs e_8 hP hD hS => ?_)
    have hP : va_P D vwCl (wH cy h pn a0 a1 a2 a3 a4 a5 a6 a7 a8 b0 b1 b2 b3 b4 b5 b6 b7 fs ss fd ed lm dd ce cw n iss sb fst len off ren que kc (fun _ => 0) sd (nI td)) H := hP
    have hD : va_D (lwA s) (wH cy h pn a0 a1 a2 a3 a4 a5 a6 a7 a8 b0 b1 b2 b3 b4 b5 b6 b7 fs ss fd ed lm dd ce cw n iss sb fst len off ren que kc (fun _ => 0) sd (nI td)) := hD
    replace e_8 := e_8.1
    have e_8 : r_7 = bI (hasB (goodM fs ss fd ed dd (nI td) (-1) n) (nI i)) := e_8
    subst e_8
    refine k_ifeq (tgt := 239) hx hb dL_law_232 (by decide) (fun c_232 => ?_) (fun c_232 => ?_)
    · refine lv_iconst (v := 0) hx hb dL_law_239 (by decide) ?_
      refine lv_istore (lv' := [(13, .int 0), (12, .int (nI (1 + lowN (w_ >>> (8 &&& 31)) 60))), (11, .int (nI (lowN (w_ >>> (3 &&& 31)) 20))), (0, .ref b), (1, .ref h), (2, .int (nI n)), (3, .int (nI kc)), (4, .int (nI td)), (5, .int (nI t)), (7, .int w_), (9, .int (nI i)), (10, .int 1)]) hx hb dL_law_240 hl (by decide) rfl (fun ls hl => ?_)
      refine lv_iload hx hb dL_law_242 (lv_at hl 0 rfl) ?_
      refine lv_if_eq (tgt := 303) hx hb dL_law_244 (by decide) (fun _ => ?_) (fun c_244 => absurd c_244 (by decide))
      refine lv_goto (tgt := 443) hx hb dL_law_303 (by decide) ?_
      exact hkk fs ss fd ed lm dd ce cw n iss sb fst len off ren que kc sd td _ _ ls hI (by omega) hP hD hS (lv_sub hl [3, 4, 5, 6, 7, 8, 9, 11] rfl)
    · refine lv_iconst (v := 1) hx hb dL_law_235 (by decide) ?_
      refine lv_goto (tgt := 240) hx hb dL_law_236 (by decide) ?_
      refine lv_istore (lv' := [(13, .int 1), (12, .int (nI (1 + lowN (w_ >>> (8 &&& 31)) 60))), (11, .int (nI (lowN (w_ >>> (3 &&& 31)) 20))), (0, .ref b), (1, .ref h), (2, .int (nI n)), (3, .int (nI kc)), (4, .int (nI td)), (5, .int (nI t)), (7, .int w_), (9, .int (nI i)), (10, .int 1)]) hx hb dL_law_240 hl (by decide) rfl (fun ls hl => ?_)
      refine lv_iload hx hb dL_law_242 (lv_at hl 0 rfl) ?_
      refine lv_if_eq (tgt := 303) hx hb dL_law_244 (by decide) (fun c_244 => absurd c_244 (by decide)) (fun _ => ?_)
      refine lv_aload_n hx hb dL_law_247 rfl (lv_at hl 4 rfl) ?_
      refine lv_iload hx hb dL_law_248 (lv_at hl 10 rfl) ?_
      refine lv_iload hx hb dL_law_250 (lv_at hl 2 rfl) ?_
      refine lv_iload hx hb dL_law_252 (lv_at hl 1 rfl) ?_
      have hcd_254 : cdIss (decide (canC fs ss fd ed lm dd n iss fst kc (fun _ => 0) (nI td) (ix (nI i)) (nI (lowN (w_ >>> (3 &&& 31)) 20)))) n (nI i) (nI (lowN (w_ >>> (3 &&& 31)) 20)) (nI (1 + lowN (w_ >>> (8 &&& 31)) 60)) = 0 := (cdIss_0 (decide_eq_true (can_0 (by omega) (by omega) c_221 c_232)) hi hn (by omega) (by omega) (by omega))
      refine kxO_i (n := 3) (wc := wH cy h pn a0 a1 a2 a3 a4 a5 a6 a7 a8 b0 b1 b2 b3 b4 b5 b6 b7 fs ss fd ed lm dd ce cw n iss sb fst len off ren que kc (fun _ => 0) sd (nI td)) (As := [.int (nI i), .int (nI (lowN (w_ >>> (3 &&& 31)) 20)), .int (nI (1 + lowN (w_ >>> (8 &&& 31)) 60))]) (rest := []) ⟨hx, hb, hml, hown, hts⟩ hE hA hZ hP hD hS (c_X2_issue l D cy hfl h pn a0 a1 a2 a3 a4 a5 a6 a7 a8 b0 b1 b2 b3 b4 b5 b6 b7 fs ss fd ed lm dd ce cw n iss sb fst len off ren que kc (fun _ => 0) sd (nI td) (nI i) (nI (lowN (w_ >>> (3 &&& 31)) 20)) (nI (1 + lowN (w_ >>> (8 &&& 31)) 60)) (by first | assumption | omega) (by first | assumption | omega)) (fun E h => absurd (show xkA E 0 from hcd_254 ▸ h) xkA_0) (fun _ => Eq.trans (b := [h, a0, a1, a2, a3, a4, a5, a6, a7, a8, b0, b1, b2, b3, b4, b5, b6, b7, pn]) rfl rfl) (q0 := 0) (ci := 2) rfl rfl gL_law_X2_issue rfl rfl rfl ⟨rfl, by decide, by decide, by decide +kernel⟩ ⟨Nat.le_of_ble_eq_true rfl, Nat.le_of_ble_eq_true rfl⟩ rfl hl.1 rfl (Nat.le_of_ble_eq_true rfl) dL_law_254 ⟨Nat.le_of_ble_eq_true rfl, Nat.le_of_ble_eq_true rfl⟩ (fun r_9 u H locs e_10 hP hD hS => ?_)
      have hP : va_P D vwCl (wH cy h pn a0 a1 a2 a3 a4 a5 a6 a7 a8 b0 b1 b2 b3 b4 b5 b6 b7 fs ss fd ed lm dd ce cw n (upd iss kc (nI i)) (upd sb kc (nI (lowN (w_ >>> (3 &&& 31)) 20))) (upd fst kc (nI td)) (upd len kc (nI (1 + lowN (w_ >>> (8 &&& 31)) 60))) (upd off kc (offD (seedN sd) (nI (1 + lowN (w_ >>> (8 &&& 31)) 60)))) (upd ren kc (-1)) que (kc + 1) (fun _ => 0) (seedN sd) (nI td)) H := hP
      have hD : va_D (lwA s) (wH cy h pn a0 a1 a2 a3 a4 a5 a6 a7 a8 b0 b1 b2 b3 b4 b5 b6 b7 fs ss fd ed lm dd ce cw n (upd iss kc (nI i)) (upd sb kc (nI (lowN (w_ >>> (3 &&& 31)) 20))) (upd fst kc (nI td)) (upd len kc (nI (1 + lowN (w_ >>> (8 &&& 31)) 60))) (upd off kc (offD (seedN sd) (nI (1 + lowN (w_ >>> (8 &&& 31)) 60)))) (upd ren kc (-1)) que (kc + 1) (fun _ => 0) (seedN sd) (nI td)) := hD
      replace e_10 := e_10.1
      have e_10 : r_9 = nI kc := e_10
      subst e_10
      refine lv_iload_n hx hb dL_law_257 rfl (lv_at hl 6 rfl) ?_
      refine lv_icmp_ne (tgt := 297) hx hb dL_law_258 (by decide) (fun c_258 => False.elim (c_258 rfl)) (fun c_258 => ?_)
      refine lv_aload_n hx hb dL_law_261 rfl (lv_at hl 4 rfl) ?_
      refine lv_iload_n hx hb dL_law_262 rfl (lv_at hl 6 rfl) ?_
      have hcd_263 : cdOne (kc + 1) (nI kc) = 0 := (cdOne_nI (by omega) (by omega))
      refine kxO_i (n := 1) (wc := wH cy h pn a0 a1 a2 a3 a4 a5 a6 a7 a8 b0 b1 b2 b3 b4 b5 b6 b7 fs ss fd ed lm dd ce cw n (upd iss kc (nI i)) (upd sb kc (nI (lowN (w_ >>> (3 &&& 31)) 20))) (upd fst kc (nI td)) (upd len kc (nI (1 + lowN (w_ >>> (8 &&& 31)) 60))) (upd off kc (offD (seedN sd) (nI (1 + lowN (w_ >>> (8 &&& 31)) 60)))) (upd ren kc (-1)) que (kc + 1) (fun _ => 0) (seedN sd) (nI td)) (As := [.int (nI kc)]) (rest := []) ⟨hx, hb, hml, hown, hts⟩ hE hA hZ hP hD hS (c_X2_lastDay l D cy hfl h pn a0 a1 a2 a3 a4 a5 a6 a7 a8 b0 b1 b2 b3 b4 b5 b6 b7 fs ss fd ed lm dd ce cw n (upd iss kc (nI i)) (upd sb kc (nI (lowN (w_ >>> (3 &&& 31)) 20))) (upd fst kc (nI td)) (upd len kc (nI (1 + lowN (w_ >>> (8 &&& 31)) 60))) (upd off kc (offD (seedN sd) (nI (1 + lowN (w_ >>> (8 &&& 31)) 60)))) (upd ren kc (-1)) que (kc + 1) (fun _ => 0) (seedN sd) (nI td) (nI kc) (by first | assumption | omega)) (fun E h => absurd (show xkA E 0 from hcd_263 ▸ h) xkA_0) (fun _ => rfl) (q0 := 0) (ci := 2) rfl rfl gL_law_X2_lastDay rfl rfl rfl ⟨rfl, by decide, by decide, by decide +kernel⟩ ⟨Nat.le_of_ble_eq_true rfl, Nat.le_of_ble_eq_true rfl⟩ rfl hl.1 rfl (Nat.le_of_ble_eq_true rfl) dL_law_263 ⟨Nat.le_of_ble_eq_true rfl, Nat.le_of_ble_eq_true rfl⟩ (fun r_11 u H locs e_12 hP hD hS => ?_)
      have hP : va_P D vwCl (wH cy h pn a0 a1 a2 a3 a4 a5 a6 a7 a8 b0 b1 b2 b3 b4 b5 b6 b7 fs ss fd ed lm dd ce cw n (upd iss kc (nI i)) (upd sb kc (nI (lowN (w_ >>> (3 &&& 31)) 20))) (upd fst kc (nI td)) (upd len kc (nI (1 + lowN (w_ >>> (8 &&& 31)) 60))) (upd off kc (offD (seedN sd) (nI (1 + lowN (w_ >>> (8 &&& 31)) 60)))) (upd ren kc (-1)) que (kc + 1) (fun _ => 0) (seedN sd) (nI td)) H := hP
      have hD : va_D (lwA s) (wH cy h pn a0 a1 a2 a3 a4 a5 a6 a7 a8 b0 b1 b2 b3 b4 b5 b6 b7 fs ss fd ed lm dd ce cw n (upd iss kc (nI i)) (upd sb kc (nI (lowN (w_ >>> (3 &&& 31)) 20))) (upd fst kc (nI td)) (upd len kc (nI (1 + lowN (w_ >>> (8 &&& 31)) 60))) (upd off kc (offD (seedN sd) (nI (1 + lowN (w_ >>> (8 &&& 31)) 60)))) (upd ren kc (-1)) que (kc + 1) (fun _ => 0) (seedN sd) (nI td)) := hD
      replace e_12 := e_12.1
      have e_12 : r_11 = ctEnd (upd fst kc (nI td)) (upd len kc (nI (1 + lowN (w_ >>> (8 &&& 31)) 60))) (ix (nI kc)) := e_12
      subst e_12
      refine k_top (z := (nI td + nI (1 + lowN (w_ >>> (8 &&& 31)) 60)) - 1) (end_X (by omega)) ?_
      refine lv_iload hx hb dL_law_266 (lv_at hl 7 rfl) ?_
      refine lv_iload hx hb dL_law_268 (lv_at hl 1 rfl) ?_
      refine lv_iadd hx hb dL_law_270 ?_
      refine lv_iconst (v := 1) hx hb dL_law_271 (by decide) ?_
      refine lv_isub hx hb dL_law_272 ?_
      refine lv_icmp_ne (tgt := 297) hx hb dL_law_273 (by decide) (fun c_273 => False.elim (c_273 rfl)) (fun c_273 => ?_)
      refine lv_aload_n hx hb dL_law_276 rfl (lv_at hl 4 rfl) ?_
      refine lv_iload_n hx hb dL_law_277 rfl (lv_at hl 6 rfl) ?_
      have hcd_278 : cdOne (kc + 1) (nI kc) = 0 := (cdOne_nI (by omega) (by omega))
      refine kxO_i (n := 1) (wc := wH cy h pn a0 a1 a2 a3 a4 a5 a6 a7 a8 b0 b1 b2 b3 b4 b5 b6 b7 fs ss fd ed lm dd ce cw n (upd iss kc (nI i)) (upd sb kc (nI (lowN (w_ >>> (3 &&& 31)) 20))) (upd fst kc (nI td)) (upd len kc (nI (1 + lowN (w_ >>> (8 &&& 31)) 60))) (upd off kc (offD (seedN sd) (nI (1 + lowN (w_ >>> (8 &&& 31)) 60)))) (upd ren kc (-1)) que (kc + 1) (fun _ => 0) (seedN sd) (nI td)) (As := [.int (nI kc)]) (rest := []) ⟨hx, hb, hml, hown, hts⟩ hE hA hZ hP hD hS (c_X2_dueOn l D cy hfl h pn a0 a1 a2 a3 a4 a5 a6 a7 a8 b0 b1 b2 b3 b4 b5 b6 b7 fs ss fd ed lm dd ce cw n (upd iss kc (nI i)) (upd sb kc (nI (lowN (w_ >>> (3 &&& 31)) 20))) (upd fst kc (nI td)) (upd len kc (nI (1 + lowN (w_ >>> (8 &&& 31)) 60))) (upd off kc (offD (seedN sd) (nI (1 + lowN (w_ >>> (8 &&& 31)) 60)))) (upd ren kc (-1)) que (kc + 1) (fun _ => 0) (seedN sd) (nI td) (nI kc) (by first | assumption | omega)) (fun E h => absurd (show xkA E 0 from hcd_278 ▸ h) xkA_0) (fun _ => rfl) (q0 := 0) (ci := 2) rfl rfl gL_law_X2_dueOn rfl rfl rfl ⟨rfl, by decide, by decide, by decide +kernel⟩ ⟨Nat.le_of_ble_eq_true rfl, Nat.le_of_ble_eq_true rfl⟩ rfl hl.1 rfl (Nat.le_of_ble_eq_true rfl) dL_law_278 ⟨Nat.le_of_ble_eq_true rfl, Nat.le_of_ble_eq_true rfl⟩ (fun r_13 u H locs e_14 hP hD hS => ?_)
      have hP : va_P D vwCl (wH cy h pn a0 a1 a2 a3 a4 a5 a6 a7 a8 b0 b1 b2 b3 b4 b5 b6 b7 fs ss fd ed lm dd ce cw n (upd iss kc (nI i)) (upd sb kc (nI (lowN (w_ >>> (3 &&& 31)) 20))) (upd fst kc (nI td)) (upd len kc (nI (1 + lowN (w_ >>> (8 &&& 31)) 60))) (upd off kc (offD (seedN sd) (nI (1 + lowN (w_ >>> (8 &&& 31)) 60)))) (upd ren kc (-1)) que (kc + 1) (fun _ => 0) (seedN sd) (nI td)) H := hP
      have hD : va_D (lwA s) (wH cy h pn a0 a1 a2 a3 a4 a5 a6 a7 a8 b0 b1 b2 b3 b4 b5 b6 b7 fs ss fd ed lm dd ce cw n (upd iss kc (nI i)) (upd sb kc (nI (lowN (w_ >>> (3 &&& 31)) 20))) (upd fst kc (nI td)) (upd len kc (nI (1 + lowN (w_ >>> (8 &&& 31)) 60))) (upd off kc (offD (seedN sd) (nI (1 + lowN (w_ >>> (8 &&& 31)) 60)))) (upd ren kc (-1)) que (kc + 1) (fun _ => 0) (seedN sd) (nI td)) := hD
      replace e_14 := e_14.1
      have e_14 : r_13 = ctDue (upd fst kc (nI td)) (upd len kc (nI (1 + lowN (w_ >>> (8 &&& 31)) 60))) (upd off kc (offD (seedN sd) (nI (1 + lowN (w_ >>> (8 &&& 31)) 60)))) (ix (nI kc)) := e_14
      subst e_14
      refine k_top (z := dueX td (1 + lowN (w_ >>> (8 &&& 31)) 60) (seedN sd)) (due_X (by omega)) ?_
      refine lv_iload hx hb dL_law_281 (lv_at hl 7 rfl) ?_
      refine lv_iconst (v := 2) hx hb dL_law_283 (by decide) ?_
      refine lv_iload hx hb dL_law_284 (lv_at hl 1 rfl) ?_
      refine lv_imul hx hb dL_law_286 ?_
      refine lv_iconst (v := 3) hx hb dL_law_287 (by decide) ?_
      refine lv_idiv hx hb dL_law_288 (by decide) ?_
      refine lv_iadd hx hb dL_law_289 ?_
      refine lv_icmp_lt (tgt := 297) hx hb dL_law_290 (by decide) (fun c_290 => False.elim (dueX_ge (by omega) (by omega) c_290)) (fun c_290 => ?_)
      refine lv_iconst (v := 1) hx hb dL_law_293 (by decide) ?_
      refine lv_goto (tgt := 298) hx hb dL_law_294 (by decide) ?_
      refine lv_istore (lv' := [(10, .int 1), (13, .int 1), (12, .int (nI (1 + lowN (w_ >>> (8 &&& 31)) 60))), (11, .int (nI (lowN (w_ >>> (3 &&& 31)) 20))), (0, .ref b), (1, .ref h), (2, .int (nI n)), (3, .int (nI kc)), (4, .int (nI td)), (5, .int (nI t)), (7, .int w_), (9, .int (nI i))]) hx hb dL_law_298 hl (by decide) rfl (fun ls hl => ?_)
      refine lv_iinc (v := (nI (kc + 1))) (lv' := [(3, .int (nI (kc + 1))), (10, .int 1), (13, .int 1), (12, .int (nI (1 + lowN (w_ >>> (8 &&& 31)) 60))), (11, .int (nI (lowN (w_ >>> (3 &&& 31)) 20))), (0, .ref b), (1, .ref h), (2, .int (nI n)), (4, .int (nI td)), (5, .int (nI t)), (7, .int w_), (9, .int (nI i))]) hx hb dL_law_300 hl (k := 7) rfl (k_inc _) (by decide) rfl (fun ls hl => ?_)
      refine lv_goto (tgt := 443) hx hb dL_law_303 (by decide) ?_
      exact hkk fs ss fd ed lm dd ce cw n (upd iss kc (nI i)) (upd sb kc (nI (lowN (w_ >>> (3 &&& 31)) 20))) (upd fst kc (nI td)) (upd len kc (nI (1 + lowN (w_ >>> (8 &&& 31)) 60))) (upd off kc (offD (seedN sd) (nI (1 + lowN (w_ >>> (8 &&& 31)) 60)))) (upd ren kc (-1)) que (kc + 1) (seedN sd) td _ _ ls ⟨hn, hfs, hI.2.2.1, hI.2.2.2.1, hI.2.2.2.2.1, CInv_mk hC hn hi (by omega) c_221 ⟨by rw [ix_nI (by omega)], by rw [ix_nI (by omega)]; omega⟩ ⟨by rw [ix_nI (by omega)], by rw [ix_nI (by omega)]; omega, by rw [ix_nI (by omega)]; omega⟩ (by omega)⟩ (by omega) hP hD hS (lv_sub hl [5, 6, 7, 0, 8, 9, 10, 1] rfl)
set_option maxHeartbeats 4000000 in
set_option maxRecDepth 100000 in
theorem rd_dis {p : Program} {l : Launch} {e : Env} {s : State} {m : MethodId} {below : List Frame} {meth : Method} {c : Code} {H : Heap} {locs : List Loc} {Q : State → Prop} {ls : Array Slot} {D : va_G} {cy : ClassId × ClassId × ClassId} {b L : Nat} {xs : Nat → Int32} {h pn a0 a1 a2 a3 a4 a5 a6 a7 a8 b0 b1 b2 b3 b4 b5 b6 b7 : Nat} {t : Nat} {w_ : Int32} {fs ss fd ed lm dd ce cw : Nat → Int32} {n : Nat} {iss sb fst len off ren que : Nat → Int32} {kc : Nat} {sd : Int32} {td : Nat} {i : Nat} (C : LC p l s m c D cy b L xs) (hI : PInv n kc td fs ss lm ce cw iss sb fst len ren) (hi : i < n) (htd : td ≤ 12 * t) (ht : t < 60) (hP : va_P D vwCl (wH cy h pn a0 a1 a2 a3 a4 a5 a6 a7 a8 b0 b1 b2 b3 b4 b5 b6 b7 fs ss fd ed lm dd ce cw n iss sb fst len off ren que kc (fun _ => 0) sd (nI td)) H) (hD : va_D (lwA s) (wH cy h pn a0 a1 a2 a3 a4 a5 a6 a7 a8 b0 b1 b2 b3 b4 b5 b6 b7 fs ss fd ed lm dd ce cw n iss sb fst len off ren que kc (fun _ => 0) sd (nI td))) (hS : va_S (lwA s) s.heap H locs) (hl : lv_has ls 14 [(0, .ref b), (1, .ref h), (2, .int (nI n)), (3, .int (nI kc)), (4, .int (nI td)), (5, .int (nI t)), (7, .int w_), (9, .int (nI i)), (10, .int 1)]) (hkk : LK p l e s m below meth c Q D cy b t w_ h pn a0 a1 a2 a3 a4 a5 a6 a7 a8 b0 b1 b2 b3 b4 b5 b6 b7) : W p l e room_1 s m #[Value.ref b] below meth c H locs 19 522 Q (F0 m 313 ls []) := by
  obtain ⟨hx, hb, hml, hown, hts, hX, hbl, hE, hZ, hfl⟩ := C
  have hA : ∀ q : Nat, s.heap.size ≤ q → lwA s q := fun _ h => h
  have hn := hI.1
  have hfs := hI.2.1
  have hss := hI.sgs
  have hC := hI.2.2.2.2.2
  have hc := hC.1
  refine lv_iload hx hb dL_law_313 (lv_at hl 6 rfl) ?_
  refine lv_iconst (v := 3) hx hb dL_law_315 (by decide) ?_
  refine lv_ishr hx hb dL_law_316 ?_
  refine lv_iconst (v := 3) hx hb dL_law_317 (by decide) ?_
  refine kcS_i (n := 2) (X := []) (wc := []) (Y := wH cy h pn a0 a1 a2 a3 a4 a5 a6 a7 a8 b0 b1 b2 b3 b4 b5 b6 b7 fs ss fd ed lm dd ce cw n iss sb fst len off ren que kc (fun _ => 0) sd (nI td)) (As := [.int (w_ >>> (3 &&& 31)), .int 3]) (rest := []) ⟨hx, hb, hml, hown, hts⟩ hE hA hP hD hS (c_L_low l D cy (w_ >>> (3 &&& 31)) 3 (by first | assumption | omega) (by first | assumption | omega)) (fun _ => rfl) gL_law_L_low rfl rfl rfl ⟨by decide, by decide, by decide +kernel⟩ ⟨Nat.le_of_ble_eq_true rfl, Nat.le_of_ble_eq_true rfl⟩ rfl hl.1 rfl (Nat.le_of_ble_eq_true rfl) dL_law_318 ⟨Nat.le_of_ble_eq_true rfl, Nat.le_of_ble_eq_true rfl⟩ (fun r_1 u H locs e_2 hP hD hS => ?_)
  have hP : va_P D vwCl (wH cy h pn a0 a1 a2 a3 a4 a5 a6 a7 a8 b0 b1 b2 b3 b4 b5 b6 b7 fs ss fd ed lm dd ce cw n iss sb fst len off ren que kc (fun _ => 0) sd (nI td)) H := hP
  have hD : va_D (lwA s) (wH cy h pn a0 a1 a2 a3 a4 a5 a6 a7 a8 b0 b1 b2 b3 b4 b5 b6 b7 fs ss fd ed lm dd ce cw n iss sb fst len off ren que kc (fun _ => 0) sd (nI td)) := hD
  have e_2 : r_1 = nI (lowN (w_ >>> (3 &&& 31)) 3) := e_2
  subst e_2
  have hlw_318 : lowN (w_ >>> (3 &&& 31)) 3 < 3 := lowN_lt (by first | assumption | omega)
  refine lv_if_ne (tgt := 328) hx hb dL_law_321 (by decide) (fun c_321 => ?_) (fun c_321 => ?_)
  · have c_321n : 0 < (lowN (w_ >>> (3 &&& 31)) 3) := k_ne0t (a := (lowN (w_ >>> (3 &&& 31)) 3)) (by omega) c_321
    refine lv_iload hx hb dL_law_328 (lv_at hl 4 rfl) ?_
    refine lv_iload hx hb dL_law_330 (lv_at hl 6 rfl) ?_
    refine lv_iconst (v := 5) hx hb dL_law_332 (by decide) ?_
    refine lv_ishr hx hb dL_law_333 ?_
    refine lv_bipush (v := 60) hx hb dL_law_334 (by decide) ?_
    refine kcS_i (n := 2) (X := []) (wc := []) (Y := wH cy h pn a0 a1 a2 a3 a4 a5 a6 a7 a8 b0 b1 b2 b3 b4 b5 b6 b7 fs ss fd ed lm dd ce cw n iss sb fst len off ren que kc (fun _ => 0) sd (nI td)) (As := [.int (w_ >>> (5 &&& 31)), .int 60]) (rest := [.int (nI td)]) ⟨hx, hb, hml, hown, hts⟩ hE hA hP hD hS (c_L_low l D cy (w_ >>> (5 &&& 31)) 60 (by first | assumption | omega) (by first | assumption | omega)) (fun _ => rfl) gL_law_L_low rfl rfl rfl ⟨by decide, by decide, by decide +kernel⟩ ⟨Nat.le_of_ble_eq_true rfl, Nat.le_of_ble_eq_true rfl⟩ rfl hl.1 rfl (Nat.le_of_ble_eq_true rfl) dL_law_336 ⟨Nat.le_of_ble_eq_true rfl, Nat.le_of_ble_eq_true rfl⟩ (fun r_3 u H locs e_4 hP hD hS => ?_)
    have hP : va_P D vwCl (wH cy h pn a0 a1 a2 a3 a4 a5 a6 a7 a8 b0 b1 b2 b3 b4 b5 b6 b7 fs ss fd ed lm dd ce cw n iss sb fst len off ren que kc (fun _ => 0) sd (nI td)) H := hP
    have hD : va_D (lwA s) (wH cy h pn a0 a1 a2 a3 a4 a5 a6 a7 a8 b0 b1 b2 b3 b4 b5 b6 b7 fs ss fd ed lm dd ce cw n iss sb fst len off ren que kc (fun _ => 0) sd (nI td)) := hD
    have e_4 : r_3 = nI (lowN (w_ >>> (5 &&& 31)) 60) := e_4
    subst e_4
    have hlw_336 : lowN (w_ >>> (5 &&& 31)) 60 < 60 := lowN_lt (by first | assumption | omega)
    refine lv_iadd hx hb dL_law_339 ?_
    refine lv_bipush (v := 10) hx hb dL_law_340 (by decide) ?_
    refine lv_isub hx hb dL_law_342 ?_
    refine lv_istore (lv' := [(11, .int (((nI td) + (nI (lowN (w_ >>> (5 &&& 31)) 60))) - 10)), (0, .ref b), (1, .ref h), (2, .int (nI n)), (3, .int (nI kc)), (4, .int (nI td)), (5, .int (nI t)), (7, .int w_), (9, .int (nI i)), (10, .int 1)]) hx hb dL_law_343 hl (by decide) rfl (fun ls hl => ?_)
    refine lv_aload_n hx hb dL_law_345 rfl (lv_at hl 2 rfl) ?_
    refine lv_iload hx hb dL_law_346 (lv_at hl 8 rfl) ?_
    refine lv_iload hx hb dL_law_348 (lv_at hl 0 rfl) ?_
    refine lv_iconst (v := (-1)) hx hb dL_law_350 (by decide) ?_
    refine lv_icmp_ge (tgt := 358) hx hb dL_law_351 (by decide) (fun c_351 => ?_) (fun c_351 => ?_)
    · refine lv_iload hx hb dL_law_358 (lv_at hl 0 rfl) ?_
      have hcd_360 : cdDis n (nI i) (((nI td) + (nI (lowN (w_ >>> (5 &&& 31)) 60))) - 10) = 0 := (cdDis_0 hi hn (dis_rng (by omega) hlw_336 c_351))
      refine kxO_i (n := 2) (wc := wH cy h pn a0 a1 a2 a3 a4 a5 a6 a7 a8 b0 b1 b2 b3 b4 b5 b6 b7 fs ss fd ed lm dd ce cw n iss sb fst len off ren que kc (fun _ => 0) sd (nI td)) (As := [.int (nI i), .int (((nI td) + (nI (lowN (w_ >>> (5 &&& 31)) 60))) - 10)]) (rest := []) ⟨hx, hb, hml, hown, hts⟩ hE hA hZ hP hD hS (c_X2_distrust l D cy hfl h pn a0 a1 a2 a3 a4 a5 a6 a7 a8 b0 b1 b2 b3 b4 b5 b6 b7 fs ss fd ed lm dd ce cw n iss sb fst len off ren que kc (fun _ => 0) sd (nI td) (nI i) (((nI td) + (nI (lowN (w_ >>> (5 &&& 31)) 60))) - 10) (by first | assumption | omega)) (fun E h => absurd (show xkA E 0 from hcd_360 ▸ h) xkA_0) (fun _ => Eq.trans (b := [h, a0, a1, a2, a3, a4, a5, a6, a7, a8, b0, b1, b2, b3, b4, b5, b6, b7, pn]) rfl rfl) (q0 := 0) (ci := 2) rfl rfl gL_law_X2_distrust rfl rfl rfl ⟨rfl, by decide, by decide, by decide +kernel⟩ ⟨Nat.le_of_ble_eq_true rfl, Nat.le_of_ble_eq_true rfl⟩ rfl hl.1 rfl (Nat.le_of_ble_eq_true rfl) dL_law_360 ⟨Nat.le_of_ble_eq_true rfl, Nat.le_of_ble_eq_true rfl⟩ (fun r_5 u H locs e_6 hP hD hS => ?_)
      have hP : va_P D vwCl (wH cy h pn a0 a1 a2 a3 a4 a5 a6 a7 a8 b0 b1 b2 b3 b4 b5 b6 b7 fs ss fd ed lm (upd dd (ix (nI i)) (((nI td) + (nI (lowN (w_ >>> (5 &&& 31)) 60))) - 10)) ce cw n iss sb fst len off ren que kc (fun _ => 0) sd (nI td)) H := hP
      have hD : va_D (lwA s) (wH cy h pn a0 a1 a2 a3 a4 a5 a6 a7 a8 b0 b1 b2 b3 b4 b5 b6 b7 fs ss fd ed lm (upd dd (ix (nI i)) (((nI td) + (nI (lowN (w_ >>> (5 &&& 31)) 60))) - 10)) ce cw n iss sb fst len off ren que kc (fun _ => 0) sd (nI td)) := hD
      replace e_6 := e_6.1
      have e_6 : r_5 = dd (ix (nI i)) := e_6
      subst e_6
      refine lv_pop hx hb dL_law_363 rfl ?_
      refine lv_goto (tgt := 443) hx hb dL_law_364 (by decide) ?_
      exact hkk fs ss fd ed lm (upd dd (ix (nI i)) (((nI td) + (nI (lowN (w_ >>> (5 &&& 31)) 60))) - 10)) ce cw n iss sb fst len off ren que kc sd td _ _ ls hI (by omega) hP hD hS (lv_sub hl [1, 2, 3, 4, 5, 6, 7, 9] rfl)
    · refine lv_iconst (v := (-1)) hx hb dL_law_354 (by decide) ?_
      refine lv_goto (tgt := 360) hx hb dL_law_355 (by decide) ?_
      have hcd_360 : cdDis n (nI i) (-1) = 0 := (cdDis_0 hi hn (Or.inl rfl))
      refine kxO_i (n := 2) (wc := wH cy h pn a0 a1 a2 a3 a4 a5 a6 a7 a8 b0 b1 b2 b3 b4 b5 b6 b7 fs ss fd ed lm dd ce cw n iss sb fst len off ren que kc (fun _ => 0) sd (nI td)) (As := [.int (nI i), .int (-1)]) (rest := []) ⟨hx, hb, hml, hown, hts⟩ hE hA hZ hP hD hS (c_X2_distrust l D cy hfl h pn a0 a1 a2 a3 a4 a5 a6 a7 a8 b0 b1 b2 b3 b4 b5 b6 b7 fs ss fd ed lm dd ce cw n iss sb fst len off ren que kc (fun _ => 0) sd (nI td) (nI i) (-1) (by first | assumption | omega)) (fun E h => absurd (show xkA E 0 from hcd_360 ▸ h) xkA_0) (fun _ => Eq.trans (b := [h, a0, a1, a2, a3, a4, a5, a6, a7, a8, b0, b1, b2, b3, b4, b5, b6, b7, pn]) rfl rfl) (q0 := 0) (ci := 2) rfl rfl gL_law_X2_distrust rfl rfl rfl ⟨rfl, by decide, by decide, by decide +kernel⟩ ⟨Nat.le_of_ble_eq_true rfl, Nat.le_of_ble_eq_true rfl⟩ rfl hl.1 rfl (Nat.le_of_ble_eq_true rfl) dL_law_360 ⟨Nat.le_of_ble_eq_true rfl, Nat.le_of_ble_eq_true rfl⟩ (fun r_7 u H locs e_8 hP hD hS => ?_)
      have hP : va_P D vwCl (wH cy h pn a0 a1 a2 a3 a4 a5 a6 a7 a8 b0 b1 b2 b3 b4 b5 b6 b7 fs ss fd ed lm (upd dd (ix (nI i)) (-1)) ce cw n iss sb fst len off ren que kc (fun _ => 0) sd (nI td)) H := hP
      have hD : va_D (lwA s) (wH cy h pn a0 a1 a2 a3 a4 a5 a6 a7 a8 b0 b1 b2 b3 b4 b5 b6 b7 fs ss fd ed lm (upd dd (ix (nI i)) (-1)) ce cw n iss sb fst len off ren que kc (fun _ => 0) sd (nI td)) := hD
      replace e_8 := e_8.1
      have e_8 : r_7 = dd (ix (nI i)) := e_8
      subst e_8
      refine lv_pop hx hb dL_law_363 rfl ?_
      refine lv_goto (tgt := 443) hx hb dL_law_364 (by decide) ?_
      exact hkk fs ss fd ed lm (upd dd (ix (nI i)) (-1)) ce cw n iss sb fst len off ren que kc sd td _ _ ls hI (by omega) hP hD hS (lv_sub hl [1, 2, 3, 4, 5, 6, 7, 9] rfl)
  · have c_321n : (lowN (w_ >>> (3 &&& 31)) 3) = 0 := k_ne0f (a := (lowN (w_ >>> (3 &&& 31)) 3)) (by omega) c_321
    refine lv_iconst (v := (-1)) hx hb dL_law_324 (by decide) ?_
    refine lv_goto (tgt := 343) hx hb dL_law_325 (by decide) ?_
    refine lv_istore (lv' := [(11, .int (-1)), (0, .ref b), (1, .ref h), (2, .int (nI n)), (3, .int (nI kc)), (4, .int (nI td)), (5, .int (nI t)), (7, .int w_), (9, .int (nI i)), (10, .int 1)]) hx hb dL_law_343 hl (by decide) rfl (fun ls hl => ?_)
    refine lv_aload_n hx hb dL_law_345 rfl (lv_at hl 2 rfl) ?_
    refine lv_iload hx hb dL_law_346 (lv_at hl 8 rfl) ?_
    refine lv_iload hx hb dL_law_348 (lv_at hl 0 rfl) ?_
    refine lv_iconst (v := (-1)) hx hb dL_law_350 (by decide) ?_
    refine lv_icmp_ge (tgt := 358) hx hb dL_law_351 (by decide) (fun c_351 => ?_) (fun c_351 => absurd (by decide) c_351)
    refine lv_iload hx hb dL_law_358 (lv_at hl 0 rfl) ?_
    have hcd_360 : cdDis n (nI i) (-1) = 0 := (cdDis_0 hi hn (Or.inl rfl))
    refine kxO_i (n := 2) (wc := wH cy h pn a0 a1 a2 a3 a4 a5 a6 a7 a8 b0 b1 b2 b3 b4 b5 b6 b7 fs ss fd ed lm dd ce cw n iss sb fst len off ren que kc (fun _ => 0) sd (nI td)) (As := [.int (nI i), .int (-1)]) (rest := []) ⟨hx, hb, hml, hown, hts⟩ hE hA hZ hP hD hS (c_X2_distrust l D cy hfl h pn a0 a1 a2 a3 a4 a5 a6 a7 a8 b0 b1 b2 b3 b4 b5 b6 b7 fs ss fd ed lm dd ce cw n iss sb fst len off ren que kc (fun _ => 0) sd (nI td) (nI i) (-1) (by first | assumption | omega)) (fun E h => absurd (show xkA E 0 from hcd_360 ▸ h) xkA_0) (fun _ => Eq.trans (b := [h, a0, a1, a2, a3, a4, a5, a6, a7, a8, b0, b1, b2, b3, b4, b5, b6, b7, pn]) rfl rfl) (q0 := 0) (ci := 2) rfl rfl gL_law_X2_distrust rfl rfl rfl ⟨rfl, by decide, by decide, by decide +kernel⟩ ⟨Nat.le_of_ble_eq_true rfl, Nat.le_of_ble_eq_true rfl⟩ rfl hl.1 rfl (Nat.le_of_ble_eq_true rfl) dL_law_360 ⟨Nat.le_of_ble_eq_true rfl, Nat.le_of_ble_eq_true rfl⟩ (fun r_9 u H locs e_10 hP hD hS => ?_)
    have hP : va_P D vwCl (wH cy h pn a0 a1 a2 a3 a4 a5 a6 a7 a8 b0 b1 b2 b3 b4 b5 b6 b7 fs ss fd ed lm (upd dd (ix (nI i)) (-1)) ce cw n iss sb fst len off ren que kc (fun _ => 0) sd (nI td)) H := hP
    have hD : va_D (lwA s) (wH cy h pn a0 a1 a2 a3 a4 a5 a6 a7 a8 b0 b1 b2 b3 b4 b5 b6 b7 fs ss fd ed lm (upd dd (ix (nI i)) (-1)) ce cw n iss sb fst len off ren que kc (fun _ => 0) sd (nI td)) := hD
    replace e_10 := e_10.1
    have e_10 : r_9 = dd (ix (nI i)) := e_10
    subst e_10
    refine lv_pop hx hb dL_law_363 rfl ?_
    refine lv_goto (tgt := 443) hx hb dL_law_364 (by decide) ?_
    exact hkk fs ss fd ed lm (upd dd (ix (nI i)) (-1)) ce cw n iss sb fst len off ren que kc sd td _ _ ls hI (by omega) hP hD hS (lv_sub hl [1, 2, 3, 4, 5, 6, 7, 9] rfl)
set_option maxHeartbeats 4000000 in
set_option maxRecDepth 100000 in
theorem rd_seed {p : Program} {l : Launch} {e : Env} {s : State} {m : MethodId} {below : List Frame} {meth : Method} {c : Code} {H : Heap} {locs : List Loc} {Q : State → Prop} {ls : Array Slot} {D : va_G} {cy : ClassId × ClassId × ClassId} {b L : Nat} {xs : Nat → Int32} {h pn a0 a1 a2 a3 a4 a5 a6 a7 a8 b0 b1 b2 b3 b4 b5 b6 b7 : Nat} {t : Nat} {w_ : Int32} {fs ss fd ed lm dd ce cw : Nat → Int32} {n : Nat} {iss sb fst len off ren que : Nat → Int32} {kc : Nat} {sd : Int32} {td : Nat}  (C : LC p l s m c D cy b L xs) (hI : PInv n kc td fs ss lm ce cw iss sb fst len ren) (htd : td ≤ 12 * t) (ht : t < 60) (hP : va_P D vwCl (wH cy h pn a0 a1 a2 a3 a4 a5 a6 a7 a8 b0 b1 b2 b3 b4 b5 b6 b7 fs ss fd ed lm dd ce cw n iss sb fst len off ren que kc (fun _ => 0) sd (nI td)) H) (hD : va_D (lwA s) (wH cy h pn a0 a1 a2 a3 a4 a5 a6 a7 a8 b0 b1 b2 b3 b4 b5 b6 b7 fs ss fd ed lm dd ce cw n iss sb fst len off ren que kc (fun _ => 0) sd (nI td))) (hS : va_S (lwA s) s.heap H locs) (hl : lv_has ls 14 [(0, .ref b), (1, .ref h), (2, .int (nI n)), (3, .int (nI kc)), (4, .int (nI td)), (5, .int (nI t)), (7, .int w_), (10, .int 1)]) (hkk : LK p l e s m below meth c Q D cy b t w_ h pn a0 a1 a2 a3 a4 a5 a6 a7 a8 b0 b1 b2 b3 b4 b5 b6 b7) : W p l e room_1 s m #[Value.ref b] below meth c H locs 19 522 Q (F0 m 374 ls []) := by
  obtain ⟨hx, hb, hml, hown, hts, hX, hbl, hE, hZ, hfl⟩ := C
  have hA : ∀ q : Nat, s.heap.size ≤ q → lwA s q := fun _ h => h
  have hn := hI.1
  have hfs := hI.2.1
  have hss := hI.sgs
  have hC := hI.2.2.2.2.2
  have hc := hC.1
  refine lv_aload_n hx hb dL_law_374 rfl (lv_at hl 1 rfl) ?_
  refine lv_iload hx hb dL_law_375 (lv_at hl 6 rfl) ?_
  refine kcW_v (n := 1) (wc := wH cy h pn a0 a1 a2 a3 a4 a5 a6 a7 a8 b0 b1 b2 b3 b4 b5 b6 b7 fs ss fd ed lm dd ce cw n iss sb fst len off ren que kc (fun _ => 0) sd (nI td)) (As := [.int w_]) (rest := []) ⟨hx, hb, hml, hown, hts⟩ hE hA hP hD hS (c_X2_setSeed l D cy h pn a0 a1 a2 a3 a4 a5 a6 a7 a8 b0 b1 b2 b3 b4 b5 b6 b7 fs ss fd ed lm dd ce cw n iss sb fst len off ren que kc (fun _ => 0) sd (nI td) w_) (fun _ => Eq.trans (b := [h, a0, a1, a2, a3, a4, a5, a6, a7, a8, b0, b1, b2, b3, b4, b5, b6, b7, pn]) rfl rfl) (q0 := 0) (ci := 2) rfl rfl gL_law_X2_setSeed rfl rfl rfl ⟨rfl, by decide, by decide, by decide +kernel⟩ ⟨Nat.le_of_ble_eq_true rfl, Nat.le_of_ble_eq_true rfl⟩ rfl hl.1 rfl (Nat.le_of_ble_eq_true rfl) dL_law_377 ⟨Nat.le_of_ble_eq_true rfl, Nat.le_of_ble_eq_true rfl⟩ (fun u H locs e_2 hP hD hS => ?_)
  have hP : va_P D vwCl (wH cy h pn a0 a1 a2 a3 a4 a5 a6 a7 a8 b0 b1 b2 b3 b4 b5 b6 b7 fs ss fd ed lm dd ce cw n iss sb fst len off ren que kc (fun _ => 0) w_ (nI td)) H := hP
  have hD : va_D (lwA s) (wH cy h pn a0 a1 a2 a3 a4 a5 a6 a7 a8 b0 b1 b2 b3 b4 b5 b6 b7 fs ss fd ed lm dd ce cw n iss sb fst len off ren que kc (fun _ => 0) w_ (nI td)) := hD
  refine lv_goto (tgt := 443) hx hb dL_law_380 (by decide) ?_
  exact hkk fs ss fd ed lm dd ce cw n iss sb fst len off ren que kc w_ td _ _ ls hI (by omega) hP hD hS (lv_sub hl [0, 1, 2, 3, 4, 5, 6, 7] rfl)
set_option maxHeartbeats 4000000 in
set_option maxRecDepth 100000 in
theorem rd_pass {p : Program} {l : Launch} {e : Env} {s : State} {m : MethodId} {below : List Frame} {meth : Method} {c : Code} {H : Heap} {locs : List Loc} {Q : State → Prop} {ls : Array Slot} {D : va_G} {cy : ClassId × ClassId × ClassId} {b L : Nat} {xs : Nat → Int32} {h pn a0 a1 a2 a3 a4 a5 a6 a7 a8 b0 b1 b2 b3 b4 b5 b6 b7 : Nat} {t : Nat} {w_ : Int32} {fs ss fd ed lm dd ce cw : Nat → Int32} {n : Nat} {iss sb fst len off ren que : Nat → Int32} {kc : Nat} {sd : Int32} {td : Nat}  (C : LC p l s m c D cy b L xs) (hI : PInv n kc td fs ss lm ce cw iss sb fst len ren) (htd : td ≤ 12 * t) (ht : t < 60) (hP : va_P D vwCl (wH cy h pn a0 a1 a2 a3 a4 a5 a6 a7 a8 b0 b1 b2 b3 b4 b5 b6 b7 fs ss fd ed lm dd ce cw n iss sb fst len off ren que kc (fun _ => 0) sd (nI td)) H) (hD : va_D (lwA s) (wH cy h pn a0 a1 a2 a3 a4 a5 a6 a7 a8 b0 b1 b2 b3 b4 b5 b6 b7 fs ss fd ed lm dd ce cw n iss sb fst len off ren que kc (fun _ => 0) sd (nI td))) (hS : va_S (lwA s) s.heap H locs) (hl : lv_has ls 14 [(0, .ref b), (1, .ref h), (2, .int (nI n)), (3, .int (nI kc)), (4, .int (nI td)), (5, .int (nI t)), (7, .int w_), (10, .int 1)]) (hkk : LK p l e s m below meth c Q D cy b t w_ h pn a0 a1 a2 a3 a4 a5 a6 a7 a8 b0 b1 b2 b3 b4 b5 b6 b7) : W p l e room_1 s m #[Value.ref b] below meth c H locs 19 522 Q (F0 m 383 ls []) := by
  obtain ⟨hx, hb, hml, hown, hts, hX, hbl, hE, hZ, hfl⟩ := C
  have hA : ∀ q : Nat, s.heap.size ≤ q → lwA s q := fun _ h => h
  have hn := hI.1
  have hfs := hI.2.1
  have hss := hI.sgs
  have hC := hI.2.2.2.2.2
  have hc := hC.1
  refine lv_iconst (v := 1) hx hb dL_law_383 (by decide) ?_
  refine lv_iload hx hb dL_law_384 (lv_at hl 6 rfl) ?_
  refine lv_bipush (v := 12) hx hb dL_law_386 (by decide) ?_
  refine kcS_i (n := 2) (X := []) (wc := []) (Y := wH cy h pn a0 a1 a2 a3 a4 a5 a6 a7 a8 b0 b1 b2 b3 b4 b5 b6 b7 fs ss fd ed lm dd ce cw n iss sb fst len off ren que kc (fun _ => 0) sd (nI td)) (As := [.int w_, .int 12]) (rest := [.int 1]) ⟨hx, hb, hml, hown, hts⟩ hE hA hP hD hS (c_L_low l D cy w_ 12 (by first | assumption | omega) (by first | assumption | omega)) (fun _ => rfl) gL_law_L_low rfl rfl rfl ⟨by decide, by decide, by decide +kernel⟩ ⟨Nat.le_of_ble_eq_true rfl, Nat.le_of_ble_eq_true rfl⟩ rfl hl.1 rfl (Nat.le_of_ble_eq_true rfl) dL_law_388 ⟨Nat.le_of_ble_eq_true rfl, Nat.le_of_ble_eq_true rfl⟩ (fun r_1 u H locs e_2 hP hD hS => ?_)
  have hP : va_P D vwCl (wH cy h pn a0 a1 a2 a3 a4 a5 a6 a7 a8 b0 b1 b2 b3 b4 b5 b6 b7 fs ss fd ed lm dd ce cw n iss sb fst len off ren que kc (fun _ => 0) sd (nI td)) H := hP
  have hD : va_D (lwA s) (wH cy h pn a0 a1 a2 a3 a4 a5 a6 a7 a8 b0 b1 b2 b3 b4 b5 b6 b7 fs ss fd ed lm dd ce cw n iss sb fst len off ren que kc (fun _ => 0) sd (nI td)) := hD
  have e_2 : r_1 = nI (lowN w_ 12) := e_2
  subst e_2
  have hlw_388 : lowN w_ 12 < 12 := lowN_lt (by first | assumption | omega)
  refine lv_iadd hx hb dL_law_391 ?_
  refine k_top (z := nI (1 + lowN w_ 12)) (nI_add 1 _) ?_
  refine lv_istore (lv' := [(11, .int (nI (1 + lowN w_ 12))), (0, .ref b), (1, .ref h), (2, .int (nI n)), (3, .int (nI kc)), (4, .int (nI td)), (5, .int (nI t)), (7, .int w_), (10, .int 1)]) hx hb dL_law_392 hl (by decide) rfl (fun ls hl => ?_)
  refine lv_aload_n hx hb dL_law_394 rfl (lv_at hl 2 rfl) ?_
  refine lv_iload hx hb dL_law_395 (lv_at hl 0 rfl) ?_
  have hcd_397 : cdPass (nI td) (nI (1 + lowN w_ 12)) = 0 := (cdPass_0 (by omega) (by omega) (by omega))
  refine kxO_i (n := 1) (wc := wH cy h pn a0 a1 a2 a3 a4 a5 a6 a7 a8 b0 b1 b2 b3 b4 b5 b6 b7 fs ss fd ed lm dd ce cw n iss sb fst len off ren que kc (fun _ => 0) sd (nI td)) (As := [.int (nI (1 + lowN w_ 12))]) (rest := []) ⟨hx, hb, hml, hown, hts⟩ hE hA hZ hP hD hS (c_X2_pass l D cy hfl h pn a0 a1 a2 a3 a4 a5 a6 a7 a8 b0 b1 b2 b3 b4 b5 b6 b7 fs ss fd ed lm dd ce cw n iss sb fst len off ren que kc (fun _ => 0) sd (nI td) (nI (1 + lowN w_ 12)) (by first | assumption | omega) (by first | assumption | omega) hC.ok) (fun E h => absurd (show xkB E 0 from hcd_397 ▸ h) xkB_0) (fun _ => Eq.trans (b := [h, a0, a1, a2, a3, a4, a5, a6, a7, a8, b0, b1, b2, b3, b4, b5, b6, b7, pn]) rfl rfl) (q0 := 0) (ci := 2) rfl rfl gL_law_X2_pass rfl rfl rfl ⟨rfl, by decide, by decide, by decide +kernel⟩ ⟨Nat.le_of_ble_eq_true rfl, Nat.le_of_ble_eq_true rfl⟩ rfl hl.1 rfl (Nat.le_of_ble_eq_true rfl) dL_law_397 ⟨Nat.le_of_ble_eq_true rfl, Nat.le_of_ble_eq_true rfl⟩ (fun r_3 u H locs e_4 hP hD hS => ?_)
  have hP : va_P D vwCl (wH cy h pn a0 a1 a2 a3 a4 a5 a6 a7 a8 b0 b1 b2 b3 b4 b5 b6 b7 fs ss fd ed lm dd ce cw n (cI (psC fs ss fd ed lm dd n (fun _ => 0) (iss, sb, fst, len, off, ren, kc, sd) que (nI td) (ix (nI (1 + lowN w_ 12)))).1.1) (cS (psC fs ss fd ed lm dd n (fun _ => 0) (iss, sb, fst, len, off, ren, kc, sd) que (nI td) (ix (nI (1 + lowN w_ 12)))).1.1) (cF (psC fs ss fd ed lm dd n (fun _ => 0) (iss, sb, fst, len, off, ren, kc, sd) que (nI td) (ix (nI (1 + lowN w_ 12)))).1.1) (cL (psC fs ss fd ed lm dd n (fun _ => 0) (iss, sb, fst, len, off, ren, kc, sd) que (nI td) (ix (nI (1 + lowN w_ 12)))).1.1) (cO (psC fs ss fd ed lm dd n (fun _ => 0) (iss, sb, fst, len, off, ren, kc, sd) que (nI td) (ix (nI (1 + lowN w_ 12)))).1.1) (cR (psC fs ss fd ed lm dd n (fun _ => 0) (iss, sb, fst, len, off, ren, kc, sd) que (nI td) (ix (nI (1 + lowN w_ 12)))).1.1) ((psC fs ss fd ed lm dd n (fun _ => 0) (iss, sb, fst, len, off, ren, kc, sd) que (nI td) (ix (nI (1 + lowN w_ 12)))).1.2.1) (cK (psC fs ss fd ed lm dd n (fun _ => 0) (iss, sb, fst, len, off, ren, kc, sd) que (nI td) (ix (nI (1 + lowN w_ 12)))).1.1) (fun _ => 0) (cD (psC fs ss fd ed lm dd n (fun _ => 0) (iss, sb, fst, len, off, ren, kc, sd) que (nI td) (ix (nI (1 + lowN w_ 12)))).1.1) ((psC fs ss fd ed lm dd n (fun _ => 0) (iss, sb, fst, len, off, ren, kc, sd) que (nI td) (ix (nI (1 + lowN w_ 12)))).1.2.2)) H := hP
  have hD : va_D (lwA s) (wH cy h pn a0 a1 a2 a3 a4 a5 a6 a7 a8 b0 b1 b2 b3 b4 b5 b6 b7 fs ss fd ed lm dd ce cw n (cI (psC fs ss fd ed lm dd n (fun _ => 0) (iss, sb, fst, len, off, ren, kc, sd) que (nI td) (ix (nI (1 + lowN w_ 12)))).1.1) (cS (psC fs ss fd ed lm dd n (fun _ => 0) (iss, sb, fst, len, off, ren, kc, sd) que (nI td) (ix (nI (1 + lowN w_ 12)))).1.1) (cF (psC fs ss fd ed lm dd n (fun _ => 0) (iss, sb, fst, len, off, ren, kc, sd) que (nI td) (ix (nI (1 + lowN w_ 12)))).1.1) (cL (psC fs ss fd ed lm dd n (fun _ => 0) (iss, sb, fst, len, off, ren, kc, sd) que (nI td) (ix (nI (1 + lowN w_ 12)))).1.1) (cO (psC fs ss fd ed lm dd n (fun _ => 0) (iss, sb, fst, len, off, ren, kc, sd) que (nI td) (ix (nI (1 + lowN w_ 12)))).1.1) (cR (psC fs ss fd ed lm dd n (fun _ => 0) (iss, sb, fst, len, off, ren, kc, sd) que (nI td) (ix (nI (1 + lowN w_ 12)))).1.1) ((psC fs ss fd ed lm dd n (fun _ => 0) (iss, sb, fst, len, off, ren, kc, sd) que (nI td) (ix (nI (1 + lowN w_ 12)))).1.2.1) (cK (psC fs ss fd ed lm dd n (fun _ => 0) (iss, sb, fst, len, off, ren, kc, sd) que (nI td) (ix (nI (1 + lowN w_ 12)))).1.1) (fun _ => 0) (cD (psC fs ss fd ed lm dd n (fun _ => 0) (iss, sb, fst, len, off, ren, kc, sd) que (nI td) (ix (nI (1 + lowN w_ 12)))).1.1) ((psC fs ss fd ed lm dd n (fun _ => 0) (iss, sb, fst, len, off, ren, kc, sd) que (nI td) (ix (nI (1 + lowN w_ 12)))).1.2.2)) := hD
  replace e_4 := e_4.1
  have e_4 : r_3 = (psC fs ss fd ed lm dd n (fun _ => 0) (iss, sb, fst, len, off, ren, kc, sd) que (nI td) (ix (nI (1 + lowN w_ 12)))).2 := e_4
  subst e_4
  obtain ⟨g1, g2, z_, g3, g4⟩ := CInv_psC (fs := fs) (ss := ss) (fd := fd) (ed := ed) (dd := dd) (pins := fun _ => 0) (que := que) (X := (iss, sb, fst, len, off, ren, kc, sd)) hn hC (1 + lowN w_ 12) (by omega)
  have hxd : ix (nI (1 + lowN w_ 12)) = (1 + lowN w_ 12) := ix_nI (by omega)
  rw [← hxd] at g1 g2 g3 g4
  obtain ⟨Y, eY⟩ : ∃ Y, Y = (psC fs ss fd ed lm dd n (fun _ => 0) (iss, sb, fst, len, off, ren, kc, sd) que (nI td) (ix (nI (1 + lowN w_ 12)))).1 := ⟨_, rfl⟩
  rw [← eY] at hP hD g1 g2 g4
  rw [hxd] at g1 g2
  have hP : va_P D vwCl (wH cy h pn a0 a1 a2 a3 a4 a5 a6 a7 a8 b0 b1 b2 b3 b4 b5 b6 b7 fs ss fd ed lm dd ce cw n (cI Y.1) (cS Y.1) (cF Y.1) (cL Y.1) (cO Y.1) (cR Y.1) Y.2.1 (cK Y.1) (fun _ => 0) (cD Y.1) Y.2.2) H := hP
  have hD : va_D (lwA s) (wH cy h pn a0 a1 a2 a3 a4 a5 a6 a7 a8 b0 b1 b2 b3 b4 b5 b6 b7 fs ss fd ed lm dd ce cw n (cI Y.1) (cS Y.1) (cF Y.1) (cL Y.1) (cO Y.1) (cR Y.1) Y.2.1 (cK Y.1) (fun _ => 0) (cD Y.1) Y.2.2) := hD
  have g4 : cK Y.1 = kc + z_ := g4
  have g5 := g1.1
  rw [g2, g4] at hP hD
  have hP : va_P D vwCl (wH cy h pn a0 a1 a2 a3 a4 a5 a6 a7 a8 b0 b1 b2 b3 b4 b5 b6 b7 fs ss fd ed lm dd ce cw n (cI Y.1) (cS Y.1) (cF Y.1) (cL Y.1) (cO Y.1) (cR Y.1) Y.2.1 (kc + z_) (fun _ => 0) (cD Y.1) (nI (td + (1 + lowN w_ 12)))) H := hP
  have hD : va_D (lwA s) (wH cy h pn a0 a1 a2 a3 a4 a5 a6 a7 a8 b0 b1 b2 b3 b4 b5 b6 b7 fs ss fd ed lm dd ce cw n (cI Y.1) (cS Y.1) (cF Y.1) (cL Y.1) (cO Y.1) (cR Y.1) Y.2.1 (kc + z_) (fun _ => 0) (cD Y.1) (nI (td + (1 + lowN w_ 12)))) := hD
  have g6 : CInv n (kc + z_) (td + (1 + lowN w_ 12)) lm (cI Y.1) (cS Y.1) (cF Y.1) (cL Y.1) (cR Y.1) := by rw [← g4]; exact g1
  refine k_top (z := nI z_) g3 ?_
  refine lv_istore (lv' := [(12, .int (nI z_)), (11, .int (nI (1 + lowN w_ 12))), (0, .ref b), (1, .ref h), (2, .int (nI n)), (3, .int (nI kc)), (4, .int (nI td)), (5, .int (nI t)), (7, .int w_), (10, .int 1)]) hx hb dL_law_400 hl (by decide) rfl (fun ls hl => ?_)
  refine lv_iload hx hb dL_law_402 (lv_at hl 6 rfl) ?_
  refine lv_iload hx hb dL_law_404 (lv_at hl 1 rfl) ?_
  refine lv_iadd hx hb dL_law_406 ?_
  refine k_top (z := nI (td + (1 + lowN w_ 12))) (nI_add _ _) ?_
  refine lv_istore (lv' := [(4, .int (nI (td + (1 + lowN w_ 12)))), (12, .int (nI z_)), (11, .int (nI (1 + lowN w_ 12))), (0, .ref b), (1, .ref h), (2, .int (nI n)), (3, .int (nI kc)), (5, .int (nI t)), (7, .int w_), (10, .int 1)]) hx hb dL_law_407 hl (by decide) rfl (fun ls hl => ?_)
  refine lv_iload_n hx hb dL_law_409 rfl (lv_at hl 6 rfl) ?_
  refine lv_iload hx hb dL_law_410 (lv_at hl 1 rfl) ?_
  refine lv_iadd hx hb dL_law_412 ?_
  refine k_top (z := nI (kc + z_)) (nI_add _ _) ?_
  refine lv_istore_n (lv' := [(3, .int (nI (kc + z_))), (4, .int (nI (td + (1 + lowN w_ 12)))), (12, .int (nI z_)), (11, .int (nI (1 + lowN w_ 12))), (0, .ref b), (1, .ref h), (2, .int (nI n)), (5, .int (nI t)), (7, .int w_), (10, .int 1)]) hx hb dL_law_413 rfl hl (by decide) rfl (fun ls hl => ?_)
  refine lv_iload hx hb dL_law_414 (lv_at hl 2 rfl) ?_
  refine lv_if_lt (tgt := 440) hx hb dL_law_416 (by decide) (fun c_416 => absurd c_416 (nI_pos (by omega))) (fun c_416 => ?_)
  refine lv_aload_n hx hb dL_law_419 rfl (lv_at hl 5 rfl) ?_
  refine kcW_i (n := 0) (wc := wH cy h pn a0 a1 a2 a3 a4 a5 a6 a7 a8 b0 b1 b2 b3 b4 b5 b6 b7 fs ss fd ed lm dd ce cw n (cI Y.1) (cS Y.1) (cF Y.1) (cL Y.1) (cO Y.1) (cR Y.1) Y.2.1 (kc + z_) (fun _ => 0) (cD Y.1) (nI (td + (1 + lowN w_ 12)))) (As := []) (rest := []) ⟨hx, hb, hml, hown, hts⟩ hE hA hP hD hS (c_X2_certificates l D cy h pn a0 a1 a2 a3 a4 a5 a6 a7 a8 b0 b1 b2 b3 b4 b5 b6 b7 fs ss fd ed lm dd ce cw n (cI Y.1) (cS Y.1) (cF Y.1) (cL Y.1) (cO Y.1) (cR Y.1) Y.2.1 (kc + z_) (fun _ => 0) (cD Y.1) (nI (td + (1 + lowN w_ 12)))) (fun _ => rfl) (q0 := 0) (ci := 2) rfl rfl gL_law_X2_certificates rfl rfl rfl ⟨rfl, by decide, by decide, by decide +kernel⟩ ⟨Nat.le_of_ble_eq_true rfl, Nat.le_of_ble_eq_true rfl⟩ rfl hl.1 rfl (Nat.le_of_ble_eq_true rfl) dL_law_420 ⟨Nat.le_of_ble_eq_true rfl, Nat.le_of_ble_eq_true rfl⟩ (fun r_5 u H locs e_6 hP hD hS => ?_)
  have hP : va_P D vwCl (wH cy h pn a0 a1 a2 a3 a4 a5 a6 a7 a8 b0 b1 b2 b3 b4 b5 b6 b7 fs ss fd ed lm dd ce cw n (cI Y.1) (cS Y.1) (cF Y.1) (cL Y.1) (cO Y.1) (cR Y.1) Y.2.1 (kc + z_) (fun _ => 0) (cD Y.1) (nI (td + (1 + lowN w_ 12)))) H := hP
  have hD : va_D (lwA s) (wH cy h pn a0 a1 a2 a3 a4 a5 a6 a7 a8 b0 b1 b2 b3 b4 b5 b6 b7 fs ss fd ed lm dd ce cw n (cI Y.1) (cS Y.1) (cF Y.1) (cL Y.1) (cO Y.1) (cR Y.1) Y.2.1 (kc + z_) (fun _ => 0) (cD Y.1) (nI (td + (1 + lowN w_ 12)))) := hD
  have e_6 : r_5 = nI (kc + z_) := e_6
  subst e_6
  refine lv_iload_n hx hb dL_law_423 rfl (lv_at hl 0 rfl) ?_
  refine lv_icmp_ne (tgt := 440) hx hb dL_law_424 (by decide) (fun c_424 => False.elim (c_424 rfl)) (fun c_424 => ?_)
  refine lv_aload_n hx hb dL_law_427 rfl (lv_at hl 5 rfl) ?_
  refine kcW_i (n := 0) (wc := wH cy h pn a0 a1 a2 a3 a4 a5 a6 a7 a8 b0 b1 b2 b3 b4 b5 b6 b7 fs ss fd ed lm dd ce cw n (cI Y.1) (cS Y.1) (cF Y.1) (cL Y.1) (cO Y.1) (cR Y.1) Y.2.1 (kc + z_) (fun _ => 0) (cD Y.1) (nI (td + (1 + lowN w_ 12)))) (As := []) (rest := []) ⟨hx, hb, hml, hown, hts⟩ hE hA hP hD hS (c_X2_today l D cy h pn a0 a1 a2 a3 a4 a5 a6 a7 a8 b0 b1 b2 b3 b4 b5 b6 b7 fs ss fd ed lm dd ce cw n (cI Y.1) (cS Y.1) (cF Y.1) (cL Y.1) (cO Y.1) (cR Y.1) Y.2.1 (kc + z_) (fun _ => 0) (cD Y.1) (nI (td + (1 + lowN w_ 12)))) (fun _ => rfl) (q0 := 0) (ci := 2) rfl rfl gL_law_X2_today rfl rfl rfl ⟨rfl, by decide, by decide, by decide +kernel⟩ ⟨Nat.le_of_ble_eq_true rfl, Nat.le_of_ble_eq_true rfl⟩ rfl hl.1 rfl (Nat.le_of_ble_eq_true rfl) dL_law_428 ⟨Nat.le_of_ble_eq_true rfl, Nat.le_of_ble_eq_true rfl⟩ (fun r_7 u H locs e_8 hP hD hS => ?_)
  have hP : va_P D vwCl (wH cy h pn a0 a1 a2 a3 a4 a5 a6 a7 a8 b0 b1 b2 b3 b4 b5 b6 b7 fs ss fd ed lm dd ce cw n (cI Y.1) (cS Y.1) (cF Y.1) (cL Y.1) (cO Y.1) (cR Y.1) Y.2.1 (kc + z_) (fun _ => 0) (cD Y.1) (nI (td + (1 + lowN w_ 12)))) H := hP
  have hD : va_D (lwA s) (wH cy h pn a0 a1 a2 a3 a4 a5 a6 a7 a8 b0 b1 b2 b3 b4 b5 b6 b7 fs ss fd ed lm dd ce cw n (cI Y.1) (cS Y.1) (cF Y.1) (cL Y.1) (cO Y.1) (cR Y.1) Y.2.1 (kc + z_) (fun _ => 0) (cD Y.1) (nI (td + (1 + lowN w_ 12)))) := hD
  have e_8 : r_7 = (nI (td + (1 + lowN w_ 12))) := e_8
  subst e_8
  refine lv_iload hx hb dL_law_431 (lv_at hl 1 rfl) ?_
  refine lv_icmp_ne (tgt := 440) hx hb dL_law_433 (by decide) (fun c_433 => False.elim (c_433 rfl)) (fun c_433 => ?_)
  refine lv_iconst (v := 1) hx hb dL_law_436 (by decide) ?_
  refine lv_goto (tgt := 441) hx hb dL_law_437 (by decide) ?_
  refine lv_istore (lv' := [(10, .int 1), (3, .int (nI (kc + z_))), (4, .int (nI (td + (1 + lowN w_ 12)))), (12, .int (nI z_)), (11, .int (nI (1 + lowN w_ 12))), (0, .ref b), (1, .ref h), (2, .int (nI n)), (5, .int (nI t)), (7, .int w_)]) hx hb dL_law_441 hl (by decide) rfl (fun ls hl => ?_)
  exact hkk fs ss fd ed lm dd ce cw n (cI Y.1) (cS Y.1) (cF Y.1) (cL Y.1) (cO Y.1) (cR Y.1) Y.2.1 (kc + z_) (cD Y.1) (td + (1 + lowN w_ 12)) _ _ ls ⟨hn, hfs, hI.2.2.1, hI.2.2.2.1, hI.2.2.2.2.1, g6⟩ (by omega) hP hD hS (lv_sub hl [5, 6, 7, 1, 2, 8, 9, 0] rfl)
set_option maxHeartbeats 4000000 in
set_option maxRecDepth 100000 in
theorem rd_tail {p : Program} {l : Launch} {e : Env} {s : State} {m : MethodId} {below : List Frame} {meth : Method} {c : Code} {H : Heap} {locs : List Loc} {Q : State → Prop} {ls : Array Slot} {D : va_G} {cy : ClassId × ClassId × ClassId} {b L : Nat} {xs : Nat → Int32} {h pn a0 a1 a2 a3 a4 a5 a6 a7 a8 b0 b1 b2 b3 b4 b5 b6 b7 : Nat} {t : Nat} {w_ : Int32} {fs ss fd ed lm dd ce cw : Nat → Int32} {n : Nat} {iss sb fst len off ren que : Nat → Int32} {kc : Nat} {sd : Int32} {td : Nat}  (C : LC p l s m c D cy b L xs) (hI : PInv n kc td fs ss lm ce cw iss sb fst len ren) (htd : td ≤ 12 * (t + 1)) (ht : t < 60) (hP : va_P D vwCl (wH cy h pn a0 a1 a2 a3 a4 a5 a6 a7 a8 b0 b1 b2 b3 b4 b5 b6 b7 fs ss fd ed lm dd ce cw n iss sb fst len off ren que kc (fun _ => 0) sd (nI td)) H) (hD : va_D (lwA s) (wH cy h pn a0 a1 a2 a3 a4 a5 a6 a7 a8 b0 b1 b2 b3 b4 b5 b6 b7 fs ss fd ed lm dd ce cw n iss sb fst len off ren que kc (fun _ => 0) sd (nI td))) (hS : va_S (lwA s) s.heap H locs) (hl : lv_has ls 14 [(0, .ref b), (1, .ref h), (2, .int (nI n)), (3, .int (nI kc)), (4, .int (nI td)), (5, .int (nI t)), (7, .int w_), (10, .int 1)]) (hnx : LN p l e s m below meth c Q D cy b (t + 1) h pn a0 a1 a2 a3 a4 a5 a6 a7 a8 b0 b1 b2 b3 b4 b5 b6 b7) : W p l e room_1 s m #[Value.ref b] below meth c H locs 19 522 Q (F0 m 443 ls []) := by
  obtain ⟨hx, hb, hml, hown, hts, hX, hbl, hE, hZ, hfl⟩ := C
  have hA : ∀ q : Nat, s.heap.size ≤ q → lwA s q := fun _ h => h
  have hn := hI.1
  have hfs := hI.2.1
  have hss := hI.sgs
  have hC := hI.2.2.2.2.2
  have hc := hC.1
  refine lv_iload hx hb dL_law_443 (lv_at hl 7 rfl) ?_
  refine lv_if_eq (tgt := 485) hx hb dL_law_445 (by decide) (fun c_445 => absurd c_445 (by decide)) (fun _ => ?_)
  refine lv_aload_n hx hb dL_law_448 rfl (lv_at hl 1 rfl) ?_
  refine lv_iload_n hx hb dL_law_449 rfl (lv_at hl 2 rfl) ?_
  refine kxT_i (n := 2) (wc := wH cy h pn a0 a1 a2 a3 a4 a5 a6 a7 a8 b0 b1 b2 b3 b4 b5 b6 b7 fs ss fd ed lm dd ce cw n iss sb fst len off ren que kc (fun _ => 0) sd (nI td)) (As := [.ref h, .int (nI n)]) (rest := []) ⟨hx, hb, hml, hown, hts⟩ hE hA hZ hP hD hS (c_L_areCertificates l D cy hfl h pn a0 a1 a2 a3 a4 a5 a6 a7 a8 b0 b1 b2 b3 b4 b5 b6 b7 fs ss fd ed lm dd ce cw n iss sb fst len off ren que kc (fun _ => 0) sd (nI td) td hI rfl (by omega)) (fun E h => h) (fun _ => Eq.trans (b := [h, a0, a1, a2, a3, a4, a5, a6, a7, a8, b0, b1, b2, b3, b4, b5, b6, b7, pn]) rfl rfl) gL_law_L_areCertificates rfl rfl rfl ⟨by decide, by decide, by decide +kernel⟩ ⟨Nat.le_of_ble_eq_true rfl, Nat.le_of_ble_eq_true rfl⟩ rfl hl.1 rfl (Nat.le_of_ble_eq_true rfl) dL_law_450 ⟨Nat.le_of_ble_eq_true rfl, Nat.le_of_ble_eq_true rfl⟩ (fun r_1 u H locs e_2 hP hD hS => ?_)
  obtain ⟨que_3, rfl⟩ : ∃ z, z = u := ⟨_, rfl⟩
  have hP : va_P D vwCl (wH cy h pn a0 a1 a2 a3 a4 a5 a6 a7 a8 b0 b1 b2 b3 b4 b5 b6 b7 fs ss fd ed lm dd ce cw n iss sb fst len off ren que_3 kc (fun _ => 0) sd (nI td)) H := hP
  have hD : va_D (lwA s) (wH cy h pn a0 a1 a2 a3 a4 a5 a6 a7 a8 b0 b1 b2 b3 b4 b5 b6 b7 fs ss fd ed lm dd ce cw n iss sb fst len off ren que_3 kc (fun _ => 0) sd (nI td)) := hD
  have e_2 : r_1 = 1 := e_2
  subst e_2
  refine lv_if_eq (tgt := 485) hx hb dL_law_453 (by decide) (fun c_453 => absurd c_453 (by decide)) (fun _ => ?_)
  refine lv_iload hx hb dL_law_456 (lv_at hl 5 rfl) ?_
  refine lv_iconst (v := 3) hx hb dL_law_458 (by decide) ?_
  refine lv_irem hx hb dL_law_459 (by decide) ?_
  refine k_top (z := nI (t % 3)) (pk_rem (d := 3) (by omega) (by omega) (by omega)) ?_
  refine lv_iconst (v := 2) hx hb dL_law_460 (by decide) ?_
  refine lv_icmp_ne (tgt := 487) hx hb dL_law_461 (by decide) (fun c_461 => ?_) (fun c_461 => ?_)
  · have c_461n : ¬ (t % 3) = 2 := k_neN (a := (t % 3)) (b := 2) (by omega) (by omega) c_461
    refine lv_iinc (v := (nI (t + 1))) (lv' := [(5, .int (nI (t + 1))), (0, .ref b), (1, .ref h), (2, .int (nI n)), (3, .int (nI kc)), (4, .int (nI td)), (7, .int w_), (10, .int 1)]) hx hb dL_law_487 hl (k := 5) rfl (k_inc _) (by decide) rfl (fun ls hl => ?_)
    refine lv_goto (tgt := 18) hx hb dL_law_490 (by decide) ?_
    exact hnx fs ss fd ed lm dd ce cw n iss sb fst len off ren que_3 kc sd td _ _ ls hI (by omega) hP hD hS (lv_sub hl [1, 2, 3, 4, 5, 0] rfl)
  · have c_461n : (t % 3) = 2 := k_eqN (a := (t % 3)) (b := 2) (by omega) (by omega) c_461
    refine lv_aload_n hx hb dL_law_464 rfl (lv_at hl 1 rfl) ?_
    refine lv_iload hx hb dL_law_465 (lv_at hl 4 rfl) ?_
    refine lv_iload hx hb dL_law_467 (lv_at hl 6 rfl) ?_
    refine lv_bipush (v := 7) hx hb dL_law_469 (by decide) ?_
    refine lv_ishr hx hb dL_law_471 ?_
    refine lv_bipush (v := 40) hx hb dL_law_472 (by decide) ?_
    refine kcS_i (n := 2) (X := []) (wc := []) (Y := wH cy h pn a0 a1 a2 a3 a4 a5 a6 a7 a8 b0 b1 b2 b3 b4 b5 b6 b7 fs ss fd ed lm dd ce cw n iss sb fst len off ren que_3 kc (fun _ => 0) sd (nI td)) (As := [.int (w_ >>> (7 &&& 31)), .int 40]) (rest := [.int (nI td), .ref h]) ⟨hx, hb, hml, hown, hts⟩ hE hA hP hD hS (c_L_low l D cy (w_ >>> (7 &&& 31)) 40 (by first | assumption | omega) (by first | assumption | omega)) (fun _ => rfl) gL_law_L_low rfl rfl rfl ⟨by decide, by decide, by decide +kernel⟩ ⟨Nat.le_of_ble_eq_true rfl, Nat.le_of_ble_eq_true rfl⟩ rfl hl.1 rfl (Nat.le_of_ble_eq_true rfl) dL_law_474 ⟨Nat.le_of_ble_eq_true rfl, Nat.le_of_ble_eq_true rfl⟩ (fun r_4 u H locs e_5 hP hD hS => ?_)
    have hP : va_P D vwCl (wH cy h pn a0 a1 a2 a3 a4 a5 a6 a7 a8 b0 b1 b2 b3 b4 b5 b6 b7 fs ss fd ed lm dd ce cw n iss sb fst len off ren que_3 kc (fun _ => 0) sd (nI td)) H := hP
    have hD : va_D (lwA s) (wH cy h pn a0 a1 a2 a3 a4 a5 a6 a7 a8 b0 b1 b2 b3 b4 b5 b6 b7 fs ss fd ed lm dd ce cw n iss sb fst len off ren que_3 kc (fun _ => 0) sd (nI td)) := hD
    have e_5 : r_4 = nI (lowN (w_ >>> (7 &&& 31)) 40) := e_5
    subst e_5
    have hlw_474 : lowN (w_ >>> (7 &&& 31)) 40 < 40 := lowN_lt (by first | assumption | omega)
    refine lv_iadd hx hb dL_law_477 ?_
    refine k_top (z := nI (td + lowN (w_ >>> (7 &&& 31)) 40)) (nI_add _ _) ?_
    refine lv_iload_n hx hb dL_law_478 rfl (lv_at hl 2 rfl) ?_
    refine kxT_i (n := 3) (wc := wH cy h pn a0 a1 a2 a3 a4 a5 a6 a7 a8 b0 b1 b2 b3 b4 b5 b6 b7 fs ss fd ed lm dd ce cw n iss sb fst len off ren que_3 kc (fun _ => 0) sd (nI td)) (As := [.ref h, .int (nI (td + lowN (w_ >>> (7 &&& 31)) 40)), .int (nI n)]) (rest := []) ⟨hx, hb, hml, hown, hts⟩ hE hA hZ hP hD hS (c_L_isDay l D cy hfl h pn a0 a1 a2 a3 a4 a5 a6 a7 a8 b0 b1 b2 b3 b4 b5 b6 b7 fs ss fd ed lm dd ce cw n iss sb fst len off ren que_3 kc (fun _ => 0) sd (nI td) (td + lowN (w_ >>> (7 &&& 31)) 40) (by first | assumption | omega) (by first | assumption | omega) (by omega) hC.2.1) (fun E h => h) (fun _ => rfl) gL_law_L_isDay rfl rfl rfl ⟨by decide, by decide, by decide +kernel⟩ ⟨Nat.le_of_ble_eq_true rfl, Nat.le_of_ble_eq_true rfl⟩ rfl hl.1 rfl (Nat.le_of_ble_eq_true rfl) dL_law_479 ⟨Nat.le_of_ble_eq_true rfl, Nat.le_of_ble_eq_true rfl⟩ (fun r_6 u H locs e_7 hP hD hS => ?_)
    have hP : va_P D vwCl (wH cy h pn a0 a1 a2 a3 a4 a5 a6 a7 a8 b0 b1 b2 b3 b4 b5 b6 b7 fs ss fd ed lm dd ce cw n iss sb fst len off ren que_3 kc (fun _ => 0) sd (nI td)) H := hP
    have hD : va_D (lwA s) (wH cy h pn a0 a1 a2 a3 a4 a5 a6 a7 a8 b0 b1 b2 b3 b4 b5 b6 b7 fs ss fd ed lm dd ce cw n iss sb fst len off ren que_3 kc (fun _ => 0) sd (nI td)) := hD
    have e_7 : r_6 = 1 := e_7
    subst e_7
    refine lv_if_ne (tgt := 487) hx hb dL_law_482 (by decide) (fun _ => ?_) (fun c_482 => absurd c_482 (by decide))
    refine lv_iinc (v := (nI (t + 1))) (lv' := [(5, .int (nI (t + 1))), (0, .ref b), (1, .ref h), (2, .int (nI n)), (3, .int (nI kc)), (4, .int (nI td)), (7, .int w_), (10, .int 1)]) hx hb dL_law_487 hl (k := 5) rfl (k_inc _) (by decide) rfl (fun ls hl => ?_)
    refine lv_goto (tgt := 18) hx hb dL_law_490 (by decide) ?_
    exact hnx fs ss fd ed lm dd ce cw n iss sb fst len off ren que_3 kc sd td _ _ ls hI (by omega) hP hD hS (lv_sub hl [1, 2, 3, 4, 5, 0] rfl)
set_option maxHeartbeats 4000000 in
set_option maxRecDepth 100000 in
theorem rd_turn {p : Program} {l : Launch} {e : Env} {s : State} {m : MethodId} {below : List Frame} {meth : Method} {c : Code} {H : Heap} {locs : List Loc} {Q : State → Prop} {ls : Array Slot} {D : va_G} {cy : ClassId × ClassId × ClassId} {b L : Nat} {xs : Nat → Int32} {h pn a0 a1 a2 a3 a4 a5 a6 a7 a8 b0 b1 b2 b3 b4 b5 b6 b7 : Nat} {t : Nat} {fs ss fd ed lm dd ce cw : Nat → Int32} {n : Nat} {iss sb fst len off ren que : Nat → Int32} {kc : Nat} {sd : Int32} {td : Nat}  (C : LC p l s m c D cy b L xs) (hI : PInv n kc td fs ss lm ce cw iss sb fst len ren) (htd : td ≤ 12 * t) (ht : t < 60) (hL : L ≤ 260) (hP : va_P D vwCl (wH cy h pn a0 a1 a2 a3 a4 a5 a6 a7 a8 b0 b1 b2 b3 b4 b5 b6 b7 fs ss fd ed lm dd ce cw n iss sb fst len off ren que kc (fun _ => 0) sd (nI td)) H) (hD : va_D (lwA s) (wH cy h pn a0 a1 a2 a3 a4 a5 a6 a7 a8 b0 b1 b2 b3 b4 b5 b6 b7 fs ss fd ed lm dd ce cw n iss sb fst len off ren que kc (fun _ => 0) sd (nI td))) (hS : va_S (lwA s) s.heap H locs) (hl : lv_has ls 14 [(0, .ref b), (1, .ref h), (2, .int (nI n)), (3, .int (nI kc)), (4, .int (nI td)), (5, .int (nI t))]) (hkk : LK p l e s m below meth c Q D cy b t (cellV xs L (2 * t + 1)) h pn a0 a1 a2 a3 a4 a5 a6 a7 a8 b0 b1 b2 b3 b4 b5 b6 b7) : W p l e room_1 s m #[Value.ref b] below meth c H locs 19 522 Q (F0 m 25 ls []) := by
  obtain ⟨hx, hb, hml, hown, hts, hX, hbl, hE, hZ, hfl⟩ := id C
  have hA : ∀ q : Nat, s.heap.size ≤ q → lwA s q := fun _ h => h
  have hn := hI.1
  have hfs := hI.2.1
  have hss := hI.sgs
  have hC := hI.2.2.2.2.2
  have hc := hC.1
  refine lv_aload_n hx hb dL_law_25 rfl (lv_at hl 0 rfl) ?_
  refine lv_iconst (v := 2) hx hb dL_law_26 (by decide) ?_
  refine lv_iload hx hb dL_law_27 (lv_at hl 5 rfl) ?_
  refine lv_imul hx hb dL_law_29 ?_
  refine k_top (z := nI (2 * t)) (mul_nI 2 t) ?_
  refine kcCE (k := (2 * t)) (L := L) (xs := xs) (rest := []) ⟨hx, hb, hml, hown, hts⟩ hA hP hD hS hX hbl (Nat.not_le.mpr hbl) (c_L_cell l b L xs (2 * t) (by omega) (by omega)) gL_law_L_cell ⟨Nat.le_of_ble_eq_true rfl, Nat.le_of_ble_eq_true rfl⟩ hl.1 rfl (Nat.le_of_ble_eq_true rfl) dL_law_30 ⟨Nat.le_of_ble_eq_true rfl, Nat.le_of_ble_eq_true rfl⟩ (fun H locs hP hS => ?_)
  refine lv_istore (lv' := [(6, .int (cellV xs L (2 * t))), (0, .ref b), (1, .ref h), (2, .int (nI n)), (3, .int (nI kc)), (4, .int (nI td)), (5, .int (nI t))]) hx hb dL_law_33 hl (by decide) rfl (fun ls hl => ?_)
  refine lv_aload_n hx hb dL_law_35 rfl (lv_at hl 1 rfl) ?_
  refine lv_iconst (v := 2) hx hb dL_law_36 (by decide) ?_
  refine lv_iload hx hb dL_law_37 (lv_at hl 6 rfl) ?_
  refine lv_imul hx hb dL_law_39 ?_
  refine k_top (z := nI (2 * t)) (mul_nI 2 t) ?_
  refine lv_iconst (v := 1) hx hb dL_law_40 (by decide) ?_
  refine lv_iadd hx hb dL_law_41 ?_
  refine k_top (z := nI (2 * t + 1)) (nI_1 _) ?_
  refine kcCE (k := (2 * t + 1)) (L := L) (xs := xs) (rest := []) ⟨hx, hb, hml, hown, hts⟩ hA hP hD hS hX hbl (Nat.not_le.mpr hbl) (c_L_cell l b L xs (2 * t + 1) (by omega) (by omega)) gL_law_L_cell ⟨Nat.le_of_ble_eq_true rfl, Nat.le_of_ble_eq_true rfl⟩ hl.1 rfl (Nat.le_of_ble_eq_true rfl) dL_law_42 ⟨Nat.le_of_ble_eq_true rfl, Nat.le_of_ble_eq_true rfl⟩ (fun H locs hP hS => ?_)
  refine lv_istore (lv' := [(7, .int (cellV xs L (2 * t + 1))), (6, .int (cellV xs L (2 * t))), (0, .ref b), (1, .ref h), (2, .int (nI n)), (3, .int (nI kc)), (4, .int (nI td)), (5, .int (nI t))]) hx hb dL_law_45 hl (by decide) rfl (fun ls hl => ?_)
  refine lv_iload hx hb dL_law_47 (lv_at hl 1 rfl) ?_
  refine lv_bipush (v := 14) hx hb dL_law_49 (by decide) ?_
  refine kcS_i (n := 2) (X := []) (wc := []) (Y := wH cy h pn a0 a1 a2 a3 a4 a5 a6 a7 a8 b0 b1 b2 b3 b4 b5 b6 b7 fs ss fd ed lm dd ce cw n iss sb fst len off ren que kc (fun _ => 0) sd (nI td)) (As := [.int (cellV xs L (2 * t)), .int 14]) (rest := []) ⟨hx, hb, hml, hown, hts⟩ hE hA hP hD hS (c_L_low l D cy (cellV xs L (2 * t)) 14 (by first | assumption | omega) (by first | assumption | omega)) (fun _ => rfl) gL_law_L_low rfl rfl rfl ⟨by decide, by decide, by decide +kernel⟩ ⟨Nat.le_of_ble_eq_true rfl, Nat.le_of_ble_eq_true rfl⟩ rfl hl.1 rfl (Nat.le_of_ble_eq_true rfl) dL_law_51 ⟨Nat.le_of_ble_eq_true rfl, Nat.le_of_ble_eq_true rfl⟩ (fun r_1 u H locs e_2 hP hD hS => ?_)
  have hP : va_P D vwCl (wH cy h pn a0 a1 a2 a3 a4 a5 a6 a7 a8 b0 b1 b2 b3 b4 b5 b6 b7 fs ss fd ed lm dd ce cw n iss sb fst len off ren que kc (fun _ => 0) sd (nI td)) H := hP
  have hD : va_D (lwA s) (wH cy h pn a0 a1 a2 a3 a4 a5 a6 a7 a8 b0 b1 b2 b3 b4 b5 b6 b7 fs ss fd ed lm dd ce cw n iss sb fst len off ren que kc (fun _ => 0) sd (nI td)) := hD
  have e_2 : r_1 = nI (lowN (cellV xs L (2 * t)) 14) := e_2
  subst e_2
  have hlw_51 : lowN (cellV xs L (2 * t)) 14 < 14 := lowN_lt (by first | assumption | omega)
  refine lv_istore (lv' := [(8, .int (nI (lowN (cellV xs L (2 * t)) 14))), (7, .int (cellV xs L (2 * t + 1))), (6, .int (cellV xs L (2 * t))), (0, .ref b), (1, .ref h), (2, .int (nI n)), (3, .int (nI kc)), (4, .int (nI td)), (5, .int (nI t))]) hx hb dL_law_54 hl (by decide) rfl (fun ls hl => ?_)
  refine lv_iload_n hx hb dL_law_56 rfl (lv_at hl 5 rfl) ?_
  refine lv_if_ne (tgt := 64) hx hb dL_law_57 (by decide) (fun c_57 => ?_) (fun c_57 => ?_)
  · have c_57n : 0 < n := k_ne0t (a := n) (by omega) c_57
    refine lv_iload hx hb dL_law_64 (lv_at hl 1 rfl) ?_
    refine lv_iload_n hx hb dL_law_66 rfl (lv_at hl 5 rfl) ?_
    refine kcS_i (n := 2) (X := []) (wc := []) (Y := wH cy h pn a0 a1 a2 a3 a4 a5 a6 a7 a8 b0 b1 b2 b3 b4 b5 b6 b7 fs ss fd ed lm dd ce cw n iss sb fst len off ren que kc (fun _ => 0) sd (nI td)) (As := [.int (cellV xs L (2 * t + 1)), .int (nI n)]) (rest := []) ⟨hx, hb, hml, hown, hts⟩ hE hA hP hD hS (c_L_low l D cy (cellV xs L (2 * t + 1)) n (by first | assumption | omega) (by first | assumption | omega)) (fun _ => rfl) gL_law_L_low rfl rfl rfl ⟨by decide, by decide, by decide +kernel⟩ ⟨Nat.le_of_ble_eq_true rfl, Nat.le_of_ble_eq_true rfl⟩ rfl hl.1 rfl (Nat.le_of_ble_eq_true rfl) dL_law_67 ⟨Nat.le_of_ble_eq_true rfl, Nat.le_of_ble_eq_true rfl⟩ (fun r_3 u H locs e_4 hP hD hS => ?_)
    have hP : va_P D vwCl (wH cy h pn a0 a1 a2 a3 a4 a5 a6 a7 a8 b0 b1 b2 b3 b4 b5 b6 b7 fs ss fd ed lm dd ce cw n iss sb fst len off ren que kc (fun _ => 0) sd (nI td)) H := hP
    have hD : va_D (lwA s) (wH cy h pn a0 a1 a2 a3 a4 a5 a6 a7 a8 b0 b1 b2 b3 b4 b5 b6 b7 fs ss fd ed lm dd ce cw n iss sb fst len off ren que kc (fun _ => 0) sd (nI td)) := hD
    have e_4 : r_3 = nI (lowN (cellV xs L (2 * t + 1)) n) := e_4
    subst e_4
    have hlw_67 : lowN (cellV xs L (2 * t + 1)) n < n := lowN_lt (by first | assumption | omega)
    refine lv_istore (lv' := [(9, .int (nI (lowN (cellV xs L (2 * t + 1)) n))), (8, .int (nI (lowN (cellV xs L (2 * t)) 14))), (7, .int (cellV xs L (2 * t + 1))), (6, .int (cellV xs L (2 * t))), (0, .ref b), (1, .ref h), (2, .int (nI n)), (3, .int (nI kc)), (4, .int (nI td)), (5, .int (nI t))]) hx hb dL_law_70 hl (by decide) rfl (fun ls hl => ?_)
    refine lv_iconst (v := 1) hx hb dL_law_72 (by decide) ?_
    refine lv_istore (lv' := [(10, .int 1), (9, .int (nI (lowN (cellV xs L (2 * t + 1)) n))), (8, .int (nI (lowN (cellV xs L (2 * t)) 14))), (7, .int (cellV xs L (2 * t + 1))), (6, .int (cellV xs L (2 * t))), (0, .ref b), (1, .ref h), (2, .int (nI n)), (3, .int (nI kc)), (4, .int (nI td)), (5, .int (nI t))]) hx hb dL_law_73 hl (by decide) rfl (fun ls hl => ?_)
    refine lv_iload_n hx hb dL_law_75 rfl (lv_at hl 7 rfl) ?_
    refine lv_iconst (v := 1) hx hb dL_law_76 (by decide) ?_
    refine lv_icmp_lt (tgt := 91) hx hb dL_law_77 (by decide) (fun c_77 => absurd (k_ltN (a := n) (b := 1) (by omega) (by omega) c_77) (by omega)) (fun c_77 => ?_)
    refine lv_iload hx hb dL_law_80 (lv_at hl 2 rfl) ?_
    refine lv_if_ne (tgt := 177) hx hb dL_law_82 (by decide) (fun c_82 => ?_) (fun c_82 => ?_)
    · have c_82n : 0 < (lowN (cellV xs L (2 * t)) 14) := k_ne0t (a := (lowN (cellV xs L (2 * t)) 14)) (by omega) c_82
      refine lv_iload hx hb dL_law_177 (lv_at hl 2 rfl) ?_
      refine lv_bipush (v := 6) hx hb dL_law_179 (by decide) ?_
      refine lv_icmp_ge (tgt := 306) hx hb dL_law_181 (by decide) (fun c_181 => ?_) (fun c_181 => ?_)
      · have c_181n : 6 ≤ (lowN (cellV xs L (2 * t)) 14) := k_leN (a := 6) (b := (lowN (cellV xs L (2 * t)) 14)) (by omega) (by omega) c_181
        refine lv_iload hx hb dL_law_306 (lv_at hl 2 rfl) ?_
        refine lv_bipush (v := 6) hx hb dL_law_308 (by decide) ?_
        refine lv_icmp_ne (tgt := 367) hx hb dL_law_310 (by decide) (fun c_310 => ?_) (fun c_310 => ?_)
        · have c_310n : ¬ (lowN (cellV xs L (2 * t)) 14) = 6 := k_neN (a := (lowN (cellV xs L (2 * t)) 14)) (b := 6) (by omega) (by omega) c_310
          refine lv_iload hx hb dL_law_367 (lv_at hl 2 rfl) ?_
          refine lv_bipush (v := 7) hx hb dL_law_369 (by decide) ?_
          refine lv_icmp_ne (tgt := 383) hx hb dL_law_371 (by decide) (fun c_371 => ?_) (fun c_371 => ?_)
          · have c_371n : ¬ (lowN (cellV xs L (2 * t)) 14) = 7 := k_neN (a := (lowN (cellV xs L (2 * t)) 14)) (b := 7) (by omega) (by omega) c_371
            exact rd_pass C hI htd ht hP hD hS (lv_sub hl [5, 6, 7, 8, 9, 10, 3, 0] rfl) hkk
          · have c_371n : (lowN (cellV xs L (2 * t)) 14) = 7 := k_eqN (a := (lowN (cellV xs L (2 * t)) 14)) (b := 7) (by omega) (by omega) c_371
            exact rd_seed C hI htd ht hP hD hS (lv_sub hl [5, 6, 7, 8, 9, 10, 3, 0] rfl) hkk
        · have c_310n : (lowN (cellV xs L (2 * t)) 14) = 6 := k_eqN (a := (lowN (cellV xs L (2 * t)) 14)) (b := 6) (by omega) (by omega) c_310
          exact rd_dis C hI (by omega) htd ht hP hD hS (lv_sub hl [5, 6, 7, 8, 9, 10, 3, 1, 0] rfl) hkk
      · have c_181n : ¬ 6 ≤ (lowN (cellV xs L (2 * t)) 14) := k_nleN (a := 6) (b := (lowN (cellV xs L (2 * t)) 14)) (by omega) (by omega) c_181
        refine lv_iload_n hx hb dL_law_184 rfl (lv_at hl 8 rfl) ?_
        refine lv_bipush (v := 50) hx hb dL_law_185 (by decide) ?_
        refine lv_icmp_ge (tgt := 306) hx hb dL_law_187 (by decide) (fun c_187 => ?_) (fun c_187 => ?_)
        · have c_187n : 50 ≤ kc := k_leN (a := 50) (b := kc) (by omega) (by omega) c_187
          refine lv_iload hx hb dL_law_306 (lv_at hl 2 rfl) ?_
          refine lv_bipush (v := 6) hx hb dL_law_308 (by decide) ?_
          refine lv_icmp_ne (tgt := 367) hx hb dL_law_310 (by decide) (fun c_310 => ?_) (fun c_310 => ?_)
          · have c_310n : ¬ (lowN (cellV xs L (2 * t)) 14) = 6 := k_neN (a := (lowN (cellV xs L (2 * t)) 14)) (b := 6) (by omega) (by omega) c_310
            refine lv_iload hx hb dL_law_367 (lv_at hl 2 rfl) ?_
            refine lv_bipush (v := 7) hx hb dL_law_369 (by decide) ?_
            refine lv_icmp_ne (tgt := 383) hx hb dL_law_371 (by decide) (fun c_371 => ?_) (fun c_371 => ?_)
            · have c_371n : ¬ (lowN (cellV xs L (2 * t)) 14) = 7 := k_neN (a := (lowN (cellV xs L (2 * t)) 14)) (b := 7) (by omega) (by omega) c_371
              exact rd_pass C hI htd ht hP hD hS (lv_sub hl [5, 6, 7, 8, 9, 10, 3, 0] rfl) hkk
            · have c_371n : (lowN (cellV xs L (2 * t)) 14) = 7 := k_eqN (a := (lowN (cellV xs L (2 * t)) 14)) (b := 7) (by omega) (by omega) c_371
              exact rd_seed C hI htd ht hP hD hS (lv_sub hl [5, 6, 7, 8, 9, 10, 3, 0] rfl) hkk
          · have c_310n : (lowN (cellV xs L (2 * t)) 14) = 6 := k_eqN (a := (lowN (cellV xs L (2 * t)) 14)) (b := 6) (by omega) (by omega) c_310
            exact rd_dis C hI (by omega) htd ht hP hD hS (lv_sub hl [5, 6, 7, 8, 9, 10, 3, 1, 0] rfl) hkk
        · have c_187n : ¬ 50 ≤ kc := k_nleN (a := 50) (b := kc) (by omega) (by omega) c_187
          exact rd_iss C hI (by omega) (by omega) htd ht hP hD hS (lv_sub hl [5, 6, 7, 8, 9, 10, 3, 1, 0] rfl) hkk
    · have c_82n : (lowN (cellV xs L (2 * t)) 14) = 0 := k_ne0f (a := (lowN (cellV xs L (2 * t)) 14)) (by omega) c_82
      refine lv_iload_n hx hb dL_law_85 rfl (lv_at hl 7 rfl) ?_
      refine lv_bipush (v := 8) hx hb dL_law_86 (by decide) ?_
      refine lv_icmp_ge (tgt := 177) hx hb dL_law_88 (by decide) (fun c_88 => ?_) (fun c_88 => ?_)
      · have c_88n : 8 ≤ n := k_leN (a := 8) (b := n) (by omega) (by omega) c_88
        refine lv_iload hx hb dL_law_177 (lv_at hl 2 rfl) ?_
        refine lv_bipush (v := 6) hx hb dL_law_179 (by decide) ?_
        refine lv_icmp_ge (tgt := 306) hx hb dL_law_181 (by decide) (fun c_181 => ?_) (fun c_181 => ?_)
        · have c_181n : 6 ≤ (lowN (cellV xs L (2 * t)) 14) := k_leN (a := 6) (b := (lowN (cellV xs L (2 * t)) 14)) (by omega) (by omega) c_181
          refine lv_iload hx hb dL_law_306 (lv_at hl 2 rfl) ?_
          refine lv_bipush (v := 6) hx hb dL_law_308 (by decide) ?_
          refine lv_icmp_ne (tgt := 367) hx hb dL_law_310 (by decide) (fun c_310 => ?_) (fun c_310 => ?_)
          · have c_310n : ¬ (lowN (cellV xs L (2 * t)) 14) = 6 := k_neN (a := (lowN (cellV xs L (2 * t)) 14)) (b := 6) (by omega) (by omega) c_310
            refine lv_iload hx hb dL_law_367 (lv_at hl 2 rfl) ?_
            refine lv_bipush (v := 7) hx hb dL_law_369 (by decide) ?_
            refine lv_icmp_ne (tgt := 383) hx hb dL_law_371 (by decide) (fun c_371 => ?_) (fun c_371 => ?_)
            · have c_371n : ¬ (lowN (cellV xs L (2 * t)) 14) = 7 := k_neN (a := (lowN (cellV xs L (2 * t)) 14)) (b := 7) (by omega) (by omega) c_371
              exact rd_pass C hI htd ht hP hD hS (lv_sub hl [5, 6, 7, 8, 9, 10, 3, 0] rfl) hkk
            · have c_371n : (lowN (cellV xs L (2 * t)) 14) = 7 := k_eqN (a := (lowN (cellV xs L (2 * t)) 14)) (b := 7) (by omega) (by omega) c_371
              exact rd_seed C hI htd ht hP hD hS (lv_sub hl [5, 6, 7, 8, 9, 10, 3, 0] rfl) hkk
          · have c_310n : (lowN (cellV xs L (2 * t)) 14) = 6 := k_eqN (a := (lowN (cellV xs L (2 * t)) 14)) (b := 6) (by omega) (by omega) c_310
            exact rd_dis C hI (by omega) htd ht hP hD hS (lv_sub hl [5, 6, 7, 8, 9, 10, 3, 1, 0] rfl) hkk
        · have c_181n : ¬ 6 ≤ (lowN (cellV xs L (2 * t)) 14) := k_nleN (a := 6) (b := (lowN (cellV xs L (2 * t)) 14)) (by omega) (by omega) c_181
          refine lv_iload_n hx hb dL_law_184 rfl (lv_at hl 8 rfl) ?_
          refine lv_bipush (v := 50) hx hb dL_law_185 (by decide) ?_
          refine lv_icmp_ge (tgt := 306) hx hb dL_law_187 (by decide) (fun c_187 => ?_) (fun c_187 => ?_)
          · have c_187n : 50 ≤ kc := k_leN (a := 50) (b := kc) (by omega) (by omega) c_187
            refine lv_iload hx hb dL_law_306 (lv_at hl 2 rfl) ?_
            refine lv_bipush (v := 6) hx hb dL_law_308 (by decide) ?_
            refine lv_icmp_ne (tgt := 367) hx hb dL_law_310 (by decide) (fun c_310 => ?_) (fun c_310 => ?_)
            · have c_310n : ¬ (lowN (cellV xs L (2 * t)) 14) = 6 := k_neN (a := (lowN (cellV xs L (2 * t)) 14)) (b := 6) (by omega) (by omega) c_310
              refine lv_iload hx hb dL_law_367 (lv_at hl 2 rfl) ?_
              refine lv_bipush (v := 7) hx hb dL_law_369 (by decide) ?_
              refine lv_icmp_ne (tgt := 383) hx hb dL_law_371 (by decide) (fun c_371 => ?_) (fun c_371 => ?_)
              · have c_371n : ¬ (lowN (cellV xs L (2 * t)) 14) = 7 := k_neN (a := (lowN (cellV xs L (2 * t)) 14)) (b := 7) (by omega) (by omega) c_371
                exact rd_pass C hI htd ht hP hD hS (lv_sub hl [5, 6, 7, 8, 9, 10, 3, 0] rfl) hkk
              · have c_371n : (lowN (cellV xs L (2 * t)) 14) = 7 := k_eqN (a := (lowN (cellV xs L (2 * t)) 14)) (b := 7) (by omega) (by omega) c_371
                exact rd_seed C hI htd ht hP hD hS (lv_sub hl [5, 6, 7, 8, 9, 10, 3, 0] rfl) hkk
            · have c_310n : (lowN (cellV xs L (2 * t)) 14) = 6 := k_eqN (a := (lowN (cellV xs L (2 * t)) 14)) (b := 6) (by omega) (by omega) c_310
              exact rd_dis C hI (by omega) htd ht hP hD hS (lv_sub hl [5, 6, 7, 8, 9, 10, 3, 1, 0] rfl) hkk
          · have c_187n : ¬ 50 ≤ kc := k_nleN (a := 50) (b := kc) (by omega) (by omega) c_187
            exact rd_iss C hI (by omega) (by omega) htd ht hP hD hS (lv_sub hl [5, 6, 7, 8, 9, 10, 3, 1, 0] rfl) hkk
      · have c_88n : ¬ 8 ≤ n := k_nleN (a := 8) (b := n) (by omega) (by omega) c_88
        exact rd_add C hI (by omega) htd ht hP hD hS (lv_sub hl [5, 6, 7, 8, 9, 10, 3, 0] rfl) hkk
  · have c_57n : n = 0 := k_ne0f (a := n) (by omega) c_57
    refine lv_iconst (v := 0) hx hb dL_law_60 (by decide) ?_
    refine lv_goto (tgt := 70) hx hb dL_law_61 (by decide) ?_
    refine lv_istore (lv' := [(9, .int 0), (8, .int (nI (lowN (cellV xs L (2 * t)) 14))), (7, .int (cellV xs L (2 * t + 1))), (6, .int (cellV xs L (2 * t))), (0, .ref b), (1, .ref h), (2, .int (nI n)), (3, .int (nI kc)), (4, .int (nI td)), (5, .int (nI t))]) hx hb dL_law_70 hl (by decide) rfl (fun ls hl => ?_)
    refine lv_iconst (v := 1) hx hb dL_law_72 (by decide) ?_
    refine lv_istore (lv' := [(10, .int 1), (9, .int 0), (8, .int (nI (lowN (cellV xs L (2 * t)) 14))), (7, .int (cellV xs L (2 * t + 1))), (6, .int (cellV xs L (2 * t))), (0, .ref b), (1, .ref h), (2, .int (nI n)), (3, .int (nI kc)), (4, .int (nI td)), (5, .int (nI t))]) hx hb dL_law_73 hl (by decide) rfl (fun ls hl => ?_)
    refine lv_iload_n hx hb dL_law_75 rfl (lv_at hl 7 rfl) ?_
    refine lv_iconst (v := 1) hx hb dL_law_76 (by decide) ?_
    refine lv_icmp_lt (tgt := 91) hx hb dL_law_77 (by decide) (fun c_77 => ?_) (fun c_77 => False.elim (c_77 (nI_lt (b := 1) (by omega) (by omega))))
    exact rd_add C hI (by omega) htd ht hP hD hS (lv_sub hl [5, 6, 7, 8, 9, 10, 3, 0] rfl) hkk
