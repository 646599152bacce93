section KXW
variable {p : Program} {l : Launch} {e : Env} {R : Room} {s : State} {m : MethodId} {args : Array Value} {below : List Frame} {meth : Method} {c : Code} {H : Heap} {locs : List Loc} {cells slots : Nat} {Q : State → Prop}
variable {cc : ByteArray} {nL : Nat} {Ts : List Cond} {own : String} {D : va_G} {cy : ClassId × ClassId × ClassId} {A0 : Nat → Prop}
variable {y : MethodName} {wr wr' : List Cond} {rm : Room} {b : Addr} {As rest st : List Value} {C host : String} {index maxL n : Nat} {bytes : ByteArray} {pc : Nat} {ls : Array Slot} {px : String → Prop} {wx : va_W}
theorem kxW_v (S0 : CallFix p m c cc nL s args Ts own) (hE : kE D cy s) (hA : ∀ q : Nat, s.heap.size ≤ q → A0 q) (hZ : kZ A0 s s.heap) {wc : va_W} (hP : va_P D vwCl wc H) (hD : va_D A0 wc) (hS : va_S A0 s.heap H locs)
    {S : Type} {post : S → Prop} {wf : S → va_W} (hM : kXV l D cy y wr rm (.ref b :: As) wc post wf px wx) (hsame : ∀ u, (wf u).map (fun q => q.1) = wc.map (fun q => q.1))
    {ret : Option FieldType} {q0 ci : Nat} {fs : List Value} {q : vw_C} (hc : vwCl[ci]? = some q) (he : wc[q0]? = some (b, .inr (ci, fs))) (hT : GoodIn Ts (wsV own index q.1 y wr)) (hw : wr = Cond.code y bytes maxL ret :: wr') (hrc : rm.cells = 1) (hrs : rm.slots = 6)
    (hd : y.cls = q.1 ∧ y.cls ≠ "java/lang/invoke/MethodHandle" ∧ y.cls ≠ "java/lang/invoke/VarHandle" ∧ (parseMethodDescriptor y.desc).map (fun d => d.parameters.length) = some n) (hR : rm.frames + 1 ≤ R.frames ∧ 8 + (maxL + 11) + rm.locals ≤ R.locals)
    (hn : As.length = n) (hsize : ls.size = nL) (hst : st = As.reverse ++ .ref b :: rest) (hW : (rest.map fun v => v.category).sum ≤ 8) (hdg : decode cc pc = .ok (.invokevirtual index, 3)) (hf : cells + 1 ≤ R.cells ∧ slots + 6 ≤ R.slots)
    (kt : ∀ (E : String) (ce : Cell) (q9 : Addr) (H1 : Heap) (locs1 : List Loc), px E → va_P D vwCl wx H1 → va_S A0 s.heap H1 locs1 → H1[q9]? = some ce → ce.vm = .none → s.vm.findClass E = some ce.cls → vx_W p l e R s m args below meth c H1 locs1 (cells + 1) (slots + 6) Q (F0 m pc ls rest) q9)
    (kk : ∀ (u : S) (H1 : Heap) (locs1 : List Loc), post u → va_P D vwCl (wf u) H1 → va_D A0 (wf u) → va_S A0 s.heap H1 locs1 → W p l e R s m args below meth c H1 locs1 cells slots Q (F0 m (pc + 3) ls rest)) :
    W p l e R s m args below meth c H locs cells slots Q (F0 m pc ls st) := by
  refine kxV_v (X := []) (Y := []) (wc := wc) S0 hE hA hZ (by simpa using hP) (by simpa using hD) hS hM hsame hc he hT hw hrc hrs hd hR hn hsize hst hW hdg hf ?_ ?_
  · intro E ce q9 H1 locs1 hp h1 h2 h3 h4 h5
    exact kt E ce q9 H1 locs1 hp (by simpa using h1) h2 h3 h4 h5
  · intro u H1 locs1 hp h1 h2 h3
    exact kk u H1 locs1 hp (by simpa using h1) (by simpa using h2) h3
end KXW
/-- which class says which number -/
def xkA (E : String) (k : Int32) : Prop := (E = xIX ∧ k = 1) ∨ (E = xIA ∧ k = 2) ∨ (E = xIS ∧ k = 3)
def xkB (E : String) (k : Int32) : Prop := (E = xIA ∧ k = 1) ∨ (E = xIS ∧ k = 2)
def badI (n : Nat) (i : Int32) : Bool := decide (i < 0) || !decide (i < nI n)
def badD (d : Int32) : Bool := decide (d < 0) || !decide (d ≤ 5000)
def badN (x : Int32) : Bool := decide (x < 0) || !decide (x < 16)
theorem k_ix {i : Int32} (h : ¬ i < 0) : i = nI (ix i) := by
  obtain ⟨j, hj, rfl⟩ := nI_of h
  rw [ix_nI (by omega)]
theorem ix_lt {i : Int32} (h : ¬ i < 0) : ix i < 2147483648 := by
  obtain ⟨j, hj, rfl⟩ := nI_of h
  rw [ix_nI (by omega)]; omega
theorem badI_ok {n : Nat} {i : Int32} (h : badI n i = false) (hn : n < 2147483648) : i = nI (ix i) ∧ ix i < n := by
  simp only [badI, Bool.or_eq_false_iff, decide_eq_false_iff_not, Bool.not_eq_false', decide_eq_true_eq] at h
  have h1 := k_ix h.1
  refine ⟨h1, ?_⟩
  have h2 := h.2
  rw [h1] at h2
  exact k_ltN (ix_lt h.1) hn h2
theorem badN_ok {i : Int32} (h : badN i = false) : i = nI (ix i) ∧ ix i < 16 := badI_ok (n := 16) h (by omega)
theorem badD_ok {i : Int32} (h : badD i = false) : i = nI (ix i) ∧ ix i ≤ 5000 := by
  simp only [badD, Bool.or_eq_false_iff, decide_eq_false_iff_not, Bool.not_eq_false', decide_eq_true_eq] at h
  have h1 := k_ix h.1
  refine ⟨h1, ?_⟩
  have h2 := h.2
  rw [h1] at h2
  exact k_leN (b := 5000) (ix_lt h.1) (by omega) h2
/-- the length of a certificate, as a divisor -/
theorem ln_ne {ln : Int32} (h1 : ¬ ln < 1) (h2 : ln ≤ 400) : ¬ ln / 6 + 1 = 0 := by
  have h0 : ¬ ln < 0 := fun h => h1 (Int32.lt_trans h (by decide))
  have e := k_ix h0
  have h3 : ix ln ≤ 400 := by
    rw [e] at h2
    exact k_leN (b := 400) (ix_lt h0) (by omega) h2
  rw [e]
  intro h
  have h4 : nI (ix ln) / 6 = nI (ix ln / 6) := pk_div (d := 6) (by omega) (by omega) (by omega)
  rw [h4, nI_1] at h
  have := k_eqN (b := 0) (by omega) (by omega) h
  omega
def cdAdd (n : Nat) (sg fr to li : Int32) : Int32 := if (!decide (sg = -1) && badI n sg) = true then 1 else if (badD fr || badD to || !decide (fr ≤ to) || decide (li < 0) || !decide (li ≤ 50)) = true then 2 else if 8 ≤ n then 3 else 0
def cdCross (n : Nat) (fs ss : Nat → Int32) (i s : Int32) : Int32 := if (badI n i || badI n s) = true then 1 else if (!decide (s < i)) = true then 2 else if ¬ fs (ix i) = -1 ∧ ss (ix i) = -1 ∧ ¬ fs (ix i) = s then 0 else 3
def cdDis (n : Nat) (i d : Int32) : Int32 := if badI n i = true then 1 else if (!decide (d = -1) && badD d) = true then 2 else 0
def cdPin (x v : Int32) : Int32 := if badN x = true then 1 else if (decide (v < 0) || !decide (v ≤ 255)) = true then 2 else 0
def cdIss (can : Bool) (n : Nat) (i su ln : Int32) : Int32 := if badI n i = true then 1 else if (decide (su < 0) || !decide (su < 20) || decide (ln < 1) || !decide (ln ≤ 400)) = true then 2 else if can = true then 0 else 3
def cdPass (dy d : Int32) : Int32 := if (decide (d < 1) || !decide (d ≤ 100)) = true then 1 else if (!decide (dy + d ≤ 3000)) = true then 2 else 0
def cdOne (n : Nat) (i : Int32) : Int32 := if badI n i = true then 1 else 0
def cdID (n : Nat) (i d : Int32) : Int32 := if badI n i = true then 1 else if badD d = true then 2 else 0
def cdND (x d : Int32) : Int32 := if badN x = true then 1 else if badD d = true then 2 else 0
def cdD (d : Int32) : Int32 := if badD d = true then 1 else 0
/-- the first day from x on, of f days, on which the name isn't covered -/
def ngC (fs ss fd ed dd : Nat → Int32) (n : Nat) (iss sb fst len : Nat → Int32) (kc : Nat) (nm : Int32) : Nat → Nat → Int32
  | 0, _ => -1
  | f + 1, x => if hasB (nhN iss sb fst len (nI x) (goodM fs ss fd ed dd (nI x) (-1) n) kc) nm then ngC fs ss fd ed dd n iss sb fst len kc nm f (x + 1) else nI x
def bcN (x : Int32) : Int32 :=
  let a := x - ((x.toUInt32 >>> ((1 : Int32).toUInt32 &&& Int32.toUInt32 31)).toInt32 &&& 1431655765)
  let b := (a &&& 858993459) + ((a.toUInt32 >>> ((2 : Int32).toUInt32 &&& Int32.toUInt32 31)).toInt32 &&& 858993459)
  let c := (b + (b.toUInt32 >>> ((4 : Int32).toUInt32 &&& Int32.toUInt32 31)).toInt32) &&& 252645135
  let d := c + (c.toUInt32 >>> ((8 : Int32).toUInt32 &&& Int32.toUInt32 31)).toInt32
  let e := d + (d.toUInt32 >>> ((16 : Int32).toUInt32 &&& Int32.toUInt32 31)).toInt32
  e &&& 63
/-- the weakest of the first k issuers, and how many names break without it -/
def wkN (bc : Int32 → Int32) (lost : Nat → Int32) : Nat → Int32 × Int32
  | 0 => (-1, 0)
  | k + 1 => if bc (lost k) ≤ (wkN bc lost k).2 then wkN bc lost k else (nI k, bc (lost k))
set_option maxHeartbeats 4000000 in
set_option maxRecDepth 100000 in
theorem c_X2_checkIssuer (l : Launch) (D : va_G) (cy : ClassId × ClassId × ClassId) (hfl : l.stackTraces = false) (h pn a0 a1 a2 a3 a4 a5 a6 a7 a8 b0 b1 b2 b3 b4 b5 b6 b7 : Nat) (fs ss fd ed lm dd ce cw : Nat → Int32) (n : Nat) (iss sb fst len off ren que : Nat → Int32) (kc : Nat) (pins : Nat → Int32) (sd dy : Int32) (i_ : Int32) : kXV l D cy yX2_checkIssuer wsX2_checkIssuer (krx 6 82) [.ref h, .int i_] (wH cy h pn a0 a1 a2 a3 a4 a5 a6 a7 a8 b0 b1 b2 b3 b4 b5 b6 b7 fs ss fd ed lm dd ce cw n iss sb fst len off ren que kc pins sd dy) (fun (u : Unit) => badI n i_ = false) (fun _ : Unit => wH cy h pn a0 a1 a2 a3 a4 a5 a6 a7 a8 b0 b1 b2 b3 b4 b5 b6 b7 fs ss fd ed lm dd ce cw n iss sb fst len off ren que kc pins sd dy) (fun E => E = xIX ∧ badI n i_ = true) (wH cy h pn a0 a1 a2 a3 a4 a5 a6 a7 a8 b0 b1 b2 b3 b4 b5 b6 b7 fs ss fd ed lm dd ce cw n iss sb fst len off ren que kc pins sd dy) := by
  refine kXV.of (cc := cX2_checkIssuer) (maxL := 2) hfl (by decide) rfl rfl (Nat.le_of_ble_eq_true rfl) (Nat.le_of_ble_eq_true rfl) (Nat.le_of_ble_eq_true rfl) ?_
  intro p e s m args below meth c Q A ls hx hb hml hown hts hE hA hP hD hl hZ hret hthrow hout
  have hS : va_S A s.heap s.heap [] := va_S.rf
  have hl : lv_has ls 2 [(0, .ref h), (1, .int i_)] := hl
  have g_X2 : ∀ w ∈ wsX20, w ∈ wsX2_checkIssuer := by decide +kernel
  have f_10 := hts (.fieldLink RX2 10 "CertHerd" "issuerTable" "LCertHerd$IssuerTable;") (by decide +kernel)
  have g_X1 : ∀ w ∈ wsX10, w ∈ wsX2_checkIssuer := by decide +kernel
  have f_107 := hts (.fieldLink RX2 107 "CertHerd$IssuerTable" "count" "I") (by decide +kernel)
  have hw_134 : ∀ w ∈ Cond.classLink RX2 130 xIX :: Cond.initialized xIX :: (vx_atS RX2 134 xIX kNms).filter goodWord, w ∈ wsX2_checkIssuer := by decide +kernel
  refine lv_iload_n hx hb dX2_checkIssuer_0 rfl (lv_at hl 1 rfl) ?_
  refine lv_if_lt (tgt := 15) hx hb dX2_checkIssuer_1 (by decide) (fun c_1 => ?_) (fun c_1 => ?_)
  · exact hthrow _ _ _ ls [] xIX "no such issuer" 130 162 134 hS (by rw [hml]; exact hl.1) (by decide) (by decide) hw_134 dX2_checkIssuer_15 dX2_checkIssuer_18 dX2_checkIssuer_19 dX2_checkIssuer_21 dX2_checkIssuer_24 (by decide) (Nat.le_of_ble_eq_true rfl) ⟨rfl, by simp [badI, c_1]⟩ hP
  · refine lv_iload_n hx hb dX2_checkIssuer_4 rfl (lv_at hl 1 rfl) ?_
    refine lv_aload_n hx hb dX2_checkIssuer_5 rfl (lv_at hl 0 rfl) ?_
    refine va_get (D := D) (ci := 2) (v := .ref a0) (C := RX2) (T := TX2) (N := 5) hx hb hts g_X2 hown hE.1 hP 0 rfl rfl 0 (by decide) f_10 (fun _ h9 => h9) rfl dX2_checkIssuer_6 ?_
    refine va_get (D := D) (ci := 1) (v := .int (nI n)) (C := RX1) (T := TX1) (N := 9) hx hb hts g_X1 hown hE.1 hP 1 rfl rfl 8 (by decide) f_107 (fun _ h9 => h9) rfl dX2_checkIssuer_9 ?_
    refine lv_icmp_lt (tgt := 25) hx hb dX2_checkIssuer_12 (by decide) (fun c_12 => ?_) (fun c_12 => ?_)
    · exact hret _ _ _ _ () dX2_checkIssuer_25 (by simp [badI, c_1, c_12]) hP hS
    · exact hthrow _ _ _ ls [] xIX "no such issuer" 130 162 134 hS (by rw [hml]; exact hl.1) (by decide) (by decide) hw_134 dX2_checkIssuer_15 dX2_checkIssuer_18 dX2_checkIssuer_19 dX2_checkIssuer_21 dX2_checkIssuer_24 (by decide) (Nat.le_of_ble_eq_true rfl) ⟨rfl, by simp [badI, c_1, c_12]⟩ hP

set_option maxHeartbeats 4000000 in
set_option maxRecDepth 100000 in
theorem c_X2_checkCertificate (l : Launch) (D : va_G) (cy : ClassId × ClassId × ClassId) (hfl : l.stackTraces = false) (h pn a0 a1 a2 a3 a4 a5 a6 a7 a8 b0 b1 b2 b3 b4 b5 b6 b7 : Nat) (fs ss fd ed lm dd ce cw : Nat → Int32) (n : Nat) (iss sb fst len off ren que : Nat → Int32) (kc : Nat) (pins : Nat → Int32) (sd dy : Int32) (i_ : Int32) : kXV l D cy yX2_checkCertificate wsX2_checkCertificate (krx 6 82) [.ref h, .int i_] (wH cy h pn a0 a1 a2 a3 a4 a5 a6 a7 a8 b0 b1 b2 b3 b4 b5 b6 b7 fs ss fd ed lm dd ce cw n iss sb fst len off ren que kc pins sd dy) (fun (u : Unit) => badI kc i_ = false) (fun _ : Unit => wH cy h pn a0 a1 a2 a3 a4 a5 a6 a7 a8 b0 b1 b2 b3 b4 b5 b6 b7 fs ss fd ed lm dd ce cw n iss sb fst len off ren que kc pins sd dy) (fun E => E = xIX ∧ badI kc i_ = true) (wH cy h pn a0 a1 a2 a3 a4 a5 a6 a7 a8 b0 b1 b2 b3 b4 b5 b6 b7 fs ss fd ed lm dd ce cw n iss sb fst len off ren que kc pins sd dy) := by
  refine kXV.of (cc := cX2_checkCertificate) (maxL := 2) hfl (by decide) rfl rfl (Nat.le_of_ble_eq_true rfl) (Nat.le_of_ble_eq_true rfl) (Nat.le_of_ble_eq_true rfl) ?_
  intro p e s m args below meth c Q A ls hx hb hml hown hts hE hA hP hD hl hZ hret hthrow hout
  have hS : va_S A s.heap s.heap [] := va_S.rf
  have hl : lv_has ls 2 [(0, .ref h), (1, .int i_)] := hl
  have g_X2 : ∀ w ∈ wsX20, w ∈ wsX2_checkCertificate := by decide +kernel
  have f_19 := hts (.fieldLink RX2 19 "CertHerd" "certificateTable" "LCertHerd$CertificateTable;") (by decide +kernel)
  have g_X0 : ∀ w ∈ wsX00, w ∈ wsX2_checkCertificate := by decide +kernel
  have f_110 := hts (.fieldLink RX2 110 "CertHerd$CertificateTable" "count" "I") (by decide +kernel)
  have hw_134 : ∀ w ∈ Cond.classLink RX2 130 xIX :: Cond.initialized xIX :: (vx_atS RX2 134 xIX kNms).filter goodWord, w ∈ wsX2_checkCertificate := by decide +kernel
  refine lv_iload_n hx hb dX2_checkCertificate_0 rfl (lv_at hl 1 rfl) ?_
  refine lv_if_lt (tgt := 15) hx hb dX2_checkCertificate_1 (by decide) (fun c_1 => ?_) (fun c_1 => ?_)
  · exact hthrow _ _ _ ls [] xIX "no such certificate" 130 164 134 hS (by rw [hml]; exact hl.1) (by decide) (by decide) hw_134 dX2_checkCertificate_15 dX2_checkCertificate_18 dX2_checkCertificate_19 dX2_checkCertificate_21 dX2_checkCertificate_24 (by decide) (Nat.le_of_ble_eq_true rfl) ⟨rfl, by simp [badI, c_1]⟩ hP
  · refine lv_iload_n hx hb dX2_checkCertificate_4 rfl (lv_at hl 1 rfl) ?_
    refine lv_aload_n hx hb dX2_checkCertificate_5 rfl (lv_at hl 0 rfl) ?_
    refine va_get (D := D) (ci := 2) (v := .ref b0) (C := RX2) (T := TX2) (N := 5) hx hb hts g_X2 hown hE.1 hP 0 rfl rfl 1 (by decide) f_19 (fun _ h9 => h9) rfl dX2_checkCertificate_6 ?_
    refine va_get (D := D) (ci := 0) (v := .int (nI kc)) (C := RX0) (T := TX0) (N := 8) hx hb hts g_X0 hown hE.1 hP 10 rfl rfl 7 (by decide) f_110 (fun _ h9 => h9) rfl dX2_checkCertificate_9 ?_
    refine lv_icmp_lt (tgt := 25) hx hb dX2_checkCertificate_12 (by decide) (fun c_12 => ?_) (fun c_12 => ?_)
    · exact hret _ _ _ _ () dX2_checkCertificate_25 (by simp [badI, c_1, c_12]) hP hS
    · exact hthrow _ _ _ ls [] xIX "no such certificate" 130 164 134 hS (by rw [hml]; exact hl.1) (by decide) (by decide) hw_134 dX2_checkCertificate_15 dX2_checkCertificate_18 dX2_checkCertificate_19 dX2_checkCertificate_21 dX2_checkCertificate_24 (by decide) (Nat.le_of_ble_eq_true rfl) ⟨rfl, by simp [badI, c_1, c_12]⟩ hP

set_option maxHeartbeats 4000000 in
set_option maxRecDepth 100000 in
theorem c_X2_checkName (l : Launch) (D : va_G) (cy : ClassId × ClassId × ClassId) (hfl : l.stackTraces = false) (x_ : Int32) : kXV l D cy yX2_checkName wsX2_checkName (krx 6 82) [.int x_] (([] : va_W)) (fun (u : Unit) => badN x_ = false) (fun _ : Unit => ([] : va_W)) (fun E => E = xIX ∧ badN x_ = true) (([] : va_W)) := by
  refine kXV.of (cc := cX2_checkName) (maxL := 1) hfl (by decide) rfl rfl (Nat.le_of_ble_eq_true rfl) (Nat.le_of_ble_eq_true rfl) (Nat.le_of_ble_eq_true rfl) ?_
  intro p e s m args below meth c Q A ls hx hb hml hown hts hE hA hP hD hl hZ hret hthrow hout
  have hS : va_S A s.heap s.heap [] := va_S.rf
  have hl : lv_has ls 1 [(0, .int x_)] := hl
  have hw_134 : ∀ w ∈ Cond.classLink RX2 130 xIX :: Cond.initialized xIX :: (vx_atS RX2 134 xIX kNms).filter goodWord, w ∈ wsX2_checkName := by decide +kernel
  refine lv_iload_n hx hb dX2_checkName_0 rfl (lv_at hl 0 rfl) ?_
  refine lv_if_lt (tgt := 10) hx hb dX2_checkName_1 (by decide) (fun c_1 => ?_) (fun c_1 => ?_)
  · exact hthrow _ _ _ ls [] xIX "no such name" 130 166 134 hS (by rw [hml]; exact hl.1) (by decide) (by decide) hw_134 dX2_checkName_10 dX2_checkName_13 dX2_checkName_14 dX2_checkName_16 dX2_checkName_19 (by decide) (Nat.le_of_ble_eq_true rfl) ⟨rfl, by simp [badN, c_1]⟩ hP
  · refine lv_iload_n hx hb dX2_checkName_4 rfl (lv_at hl 0 rfl) ?_
    refine lv_bipush (v := 16) hx hb dX2_checkName_5 (by decide) ?_
    refine lv_icmp_lt (tgt := 20) hx hb dX2_checkName_7 (by decide) (fun c_7 => ?_) (fun c_7 => ?_)
    · exact hret _ _ _ _ () dX2_checkName_20 (by simp [badN, c_1, c_7]) hP hS
    · exact hthrow _ _ _ ls [] xIX "no such name" 130 166 134 hS (by rw [hml]; exact hl.1) (by decide) (by decide) hw_134 dX2_checkName_10 dX2_checkName_13 dX2_checkName_14 dX2_checkName_16 dX2_checkName_19 (by decide) (Nat.le_of_ble_eq_true rfl) ⟨rfl, by simp [badN, c_1, c_7]⟩ hP

set_option maxHeartbeats 4000000 in
set_option maxRecDepth 100000 in
theorem c_X2_checkDay (l : Launch) (D : va_G) (cy : ClassId × ClassId × ClassId) (hfl : l.stackTraces = false) (d_ : Int32) : kXV l D cy yX2_checkDay wsX2_checkDay (krx 6 82) [.int d_] (([] : va_W)) (fun (u : Unit) => badD d_ = false) (fun _ : Unit => ([] : va_W)) (fun E => E = xIA ∧ badD d_ = true) (([] : va_W)) := by
  refine kXV.of (cc := cX2_checkDay) (maxL := 1) hfl (by decide) rfl rfl (Nat.le_of_ble_eq_true rfl) (Nat.le_of_ble_eq_true rfl) (Nat.le_of_ble_eq_true rfl) ?_
  intro p e s m args below meth c Q A ls hx hb hml hown hts hE hA hP hD hl hZ hret hthrow hout
  have hS : va_S A s.heap s.heap [] := va_S.rf
  have hl : lv_has ls 1 [(0, .int d_)] := hl
  have hw_45 : ∀ w ∈ Cond.classLink RX2 41 xIA :: Cond.initialized xIA :: (vx_atS RX2 45 xIA kNms).filter goodWord, w ∈ wsX2_checkDay := by decide +kernel
  refine lv_iload_n hx hb dX2_checkDay_0 rfl (lv_at hl 0 rfl) ?_
  refine lv_if_lt (tgt := 11) hx hb dX2_checkDay_1 (by decide) (fun c_1 => ?_) (fun c_1 => ?_)
  · exact hthrow _ _ _ ls [] xIA "day out of range" 41 168 45 hS (by rw [hml]; exact hl.1) (by decide) (by decide) hw_45 dX2_checkDay_11 dX2_checkDay_14 dX2_checkDay_15 dX2_checkDay_17 dX2_checkDay_20 (by decide) (Nat.le_of_ble_eq_true rfl) ⟨rfl, by simp [badD, c_1]⟩ hP
  · refine lv_iload_n hx hb dX2_checkDay_4 rfl (lv_at hl 0 rfl) ?_
    refine lv_sipush (v := 5000) hx hb dX2_checkDay_5 (by decide) ?_
    refine lv_icmp_le (tgt := 21) hx hb dX2_checkDay_8 (by decide) (fun c_8 => ?_) (fun c_8 => ?_)
    · exact hret _ _ _ _ () dX2_checkDay_21 (by simp [badD, c_1, c_8]) hP hS
    · exact hthrow _ _ _ ls [] xIA "day out of range" 41 168 45 hS (by rw [hml]; exact hl.1) (by decide) (by decide) hw_45 dX2_checkDay_11 dX2_checkDay_14 dX2_checkDay_15 dX2_checkDay_17 dX2_checkDay_20 (by decide) (Nat.le_of_ble_eq_true rfl) ⟨rfl, by simp [badD, c_1, c_8]⟩ hP

set_option maxHeartbeats 4000000 in
set_option maxRecDepth 100000 in
theorem c_X2_setSeed (l : Launch) (D : va_G) (cy : ClassId × ClassId × ClassId) (h pn a0 a1 a2 a3 a4 a5 a6 a7 a8 b0 b1 b2 b3 b4 b5 b6 b7 : Nat) (fs ss fd ed lm dd ce cw : Nat → Int32) (n : Nat) (iss sb fst len off ren que : Nat → Int32) (kc : Nat) (pins : Nat → Int32) (sd dy : Int32) (s_ : Int32) : kV l D cy yX2_setSeed wsX2_setSeed (krm 0 0) [.ref h, .int s_] (wH cy h pn a0 a1 a2 a3 a4 a5 a6 a7 a8 b0 b1 b2 b3 b4 b5 b6 b7 fs ss fd ed lm dd ce cw n iss sb fst len off ren que kc pins sd dy) (fun (u : Unit) => True) (fun _ : Unit => wH cy h pn a0 a1 a2 a3 a4 a5 a6 a7 a8 b0 b1 b2 b3 b4 b5 b6 b7 fs ss fd ed lm dd ce cw n iss sb fst len off ren que kc pins s_ dy) := by
  refine kV.of (cc := cX2_setSeed) (maxL := 2) (by decide) rfl (Nat.le_of_ble_eq_true rfl) ?_
  intro p e s m args below meth c Q A ls hx hb hml hown hts hE hA hP hD hl hret
  have hS : va_S A s.heap s.heap [] := va_S.rf
  have hl : lv_has ls 2 [(0, .ref h), (1, .int s_)] := hl
  have g_X2 : ∀ w ∈ wsX20, w ∈ wsX2_setSeed := by decide +kernel
  have f_27 := hts (.fieldLink RX2 27 "CertHerd" "seedNow" "I") (by decide +kernel)
  refine lv_aload_n hx hb dX2_setSeed_0 rfl (lv_at hl 0 rfl) ?_
  refine lv_iload_n hx hb dX2_setSeed_1 rfl (lv_at hl 1 rfl) ?_
  refine va_put (D := D) (ci := 2) (v := .int s_) (ty := .int) (C := RX2) (T := TX2) (N := 5) hx hb hts g_X2 tyX2 tyX2_ok nmX2 hown hE.1 hP hD hS 0 rfl rfl 3 (by decide) f_27 (fun _ h9 => h9) rfl (by decide +kernel) rfl rfl (Nat.le_of_ble_eq_true rfl) dX2_setSeed_2 (fun H locs hP hD hS => ?_)
  have hP : va_P D vwCl (wH cy h pn a0 a1 a2 a3 a4 a5 a6 a7 a8 b0 b1 b2 b3 b4 b5 b6 b7 fs ss fd ed lm dd ce cw n iss sb fst len off ren que kc pins s_ dy) H := hP
  have hD : va_D A (wH cy h pn a0 a1 a2 a3 a4 a5 a6 a7 a8 b0 b1 b2 b3 b4 b5 b6 b7 fs ss fd ed lm dd ce cw n iss sb fst len off ren que kc pins s_ dy) := hD
  exact hret _ _ _ _ () dX2_setSeed_5 trivial hP hS

set_option maxHeartbeats 4000000 in
set_option maxRecDepth 100000 in
theorem c_X2_today (l : Launch) (D : va_G) (cy : ClassId × ClassId × ClassId) (h pn a0 a1 a2 a3 a4 a5 a6 a7 a8 b0 b1 b2 b3 b4 b5 b6 b7 : Nat) (fs ss fd ed lm dd ce cw : Nat → Int32) (n : Nat) (iss sb fst len off ren que : Nat → Int32) (kc : Nat) (pins : Nat → Int32) (sd dy : Int32) : kI l D cy yX2_today wsX2_today (krm 0 0) [.ref h] (wH cy h pn a0 a1 a2 a3 a4 a5 a6 a7 a8 b0 b1 b2 b3 b4 b5 b6 b7 fs ss fd ed lm dd ce cw n iss sb fst len off ren que kc pins sd dy) (fun (r : Int32) (u : Unit) => r = dy) (fun _ : Unit => wH cy h pn a0 a1 a2 a3 a4 a5 a6 a7 a8 b0 b1 b2 b3 b4 b5 b6 b7 fs ss fd ed lm dd ce cw n iss sb fst len off ren que kc pins sd dy) := by
  refine kI.of (cc := cX2_today) (maxL := 1) (rt := .int) (Or.inl rfl) (by decide) rfl (Nat.le_of_ble_eq_true rfl) ?_
  intro p e s m args below meth c Q A ls hx hb hml hown hts hE hA hP hD hl hret
  have hS : va_S A s.heap s.heap [] := va_S.rf
  have hl : lv_has ls 1 [(0, .ref h)] := hl
  have g_X2 : ∀ w ∈ wsX20, w ∈ wsX2_today := by decide +kernel
  have f_31 := hts (.fieldLink RX2 31 "CertHerd" "dayNow" "I") (by decide +kernel)
  refine lv_aload_n hx hb dX2_today_0 rfl (lv_at hl 0 rfl) ?_
  refine va_get (D := D) (ci := 2) (v := .int dy) (C := RX2) (T := TX2) (N := 5) hx hb hts g_X2 hown hE.1 hP 0 rfl rfl 4 (by decide) f_31 (fun _ h9 => h9) rfl dX2_today_1 ?_
  exact hret _ _ _ _ dy () dX2_today_4 (Or.inl rfl) rfl hP hS

set_option maxHeartbeats 4000000 in
set_option maxRecDepth 100000 in
theorem c_X2_certificates (l : Launch) (D : va_G) (cy : ClassId × ClassId × ClassId) (h pn a0 a1 a2 a3 a4 a5 a6 a7 a8 b0 b1 b2 b3 b4 b5 b6 b7 : Nat) (fs ss fd ed lm dd ce cw : Nat → Int32) (n : Nat) (iss sb fst len off ren que : Nat → Int32) (kc : Nat) (pins : Nat → Int32) (sd dy : Int32) : kI l D cy yX2_certificates wsX2_certificates (krm 0 0) [.ref h] (wH cy h pn a0 a1 a2 a3 a4 a5 a6 a7 a8 b0 b1 b2 b3 b4 b5 b6 b7 fs ss fd ed lm dd ce cw n iss sb fst len off ren que kc pins sd dy) (fun (r : Int32) (u : Unit) => r = nI kc) (fun _ : Unit => wH cy h pn a0 a1 a2 a3 a4 a5 a6 a7 a8 b0 b1 b2 b3 b4 b5 b6 b7 fs ss fd ed lm dd ce cw n iss sb fst len off ren que kc pins sd dy) := by
  refine kI.of (cc := cX2_certificates) (maxL := 1) (rt := .int) (Or.inl rfl) (by decide) rfl (Nat.le_of_ble_eq_true rfl) ?_
  intro p e s m args below meth c Q A ls hx hb hml hown hts hE hA hP hD hl hret
  have hS : va_S A s.heap s.heap [] := va_S.rf
  have hl : lv_has ls 1 [(0, .ref h)] := hl
  have g_X2 : ∀ w ∈ wsX20, w ∈ wsX2_certificates := by decide +kernel
  have f_19 := hts (.fieldLink RX2 19 "CertHerd" "certificateTable" "LCertHerd$CertificateTable;") (by decide +kernel)
  have g_X0 : ∀ w ∈ wsX00, w ∈ wsX2_certificates := by decide +kernel
  have f_110 := hts (.fieldLink RX2 110 "CertHerd$CertificateTable" "count" "I") (by decide +kernel)
  refine lv_aload_n hx hb dX2_certificates_0 rfl (lv_at hl 0 rfl) ?_
  refine va_get (D := D) (ci := 2) (v := .ref b0) (C := RX2) (T := TX2) (N := 5) hx hb hts g_X2 hown hE.1 hP 0 rfl rfl 1 (by decide) f_19 (fun _ h9 => h9) rfl dX2_certificates_1 ?_
  refine va_get (D := D) (ci := 0) (v := .int (nI kc)) (C := RX0) (T := TX0) (N := 8) hx hb hts g_X0 hown hE.1 hP 10 rfl rfl 7 (by decide) f_110 (fun _ h9 => h9) rfl dX2_certificates_4 ?_
  exact hret _ _ _ _ (nI kc) () dX2_certificates_7 (Or.inl rfl) rfl hP hS

set_option maxHeartbeats 4000000 in
set_option maxRecDepth 100000 in
theorem c_X2_addIssuer (l : Launch) (D : va_G) (cy : ClassId × ClassId × ClassId) (hfl : l.stackTraces = false) (h pn a0 a1 a2 a3 a4 a5 a6 a7 a8 b0 b1 b2 b3 b4 b5 b6 b7 : Nat) (fs ss fd ed lm dd ce cw : Nat → Int32) (n : Nat) (iss sb fst len off ren que : Nat → Int32) (kc : Nat) (pins : Nat → Int32) (sd dy : Int32) (sg : Int32) (fr_ : Int32) (to_ : Int32) (li_ : Int32) (hn : n ≤ 8) (hfs : ∀ i, i < n → sgP fs i) (hss : ∀ i, i < n → sgP ss i) : kXI l D cy yX2_addIssuer wsX2_addIssuer (krx 7 103) [.ref h, .int sg, .int fr_, .int to_, .int li_] (wH cy h pn a0 a1 a2 a3 a4 a5 a6 a7 a8 b0 b1 b2 b3 b4 b5 b6 b7 fs ss fd ed lm dd ce cw n iss sb fst len off ren que kc pins sd dy) (fun (r : Int32) (u : Unit) => r = nI n ∧ cdAdd n sg fr_ to_ li_ = 0) (fun _ : Unit => wH cy h pn a0 a1 a2 a3 a4 a5 a6 a7 a8 b0 b1 b2 b3 b4 b5 b6 b7 (upd fs n sg) (upd ss n (-1)) (upd fd n fr_) (upd ed n to_) (upd lm n li_) (upd dd n (-1)) (ucE (upd fs n sg) (upd ss n (-1)) (upd ed n to_) n ce 1) (ucC (upd fs n sg) (upd ss n (-1)) n cw 1) (n + 1) iss sb fst len off ren que kc pins sd dy) (fun E => xkA E (cdAdd n sg fr_ to_ li_)) (wH cy h pn a0 a1 a2 a3 a4 a5 a6 a7 a8 b0 b1 b2 b3 b4 b5 b6 b7 fs ss fd ed lm dd ce cw n iss sb fst len off ren que kc pins sd dy) := by
  refine kXI.of (cc := cX2_addIssuer) (maxL := 5) (rt := .int) (Or.inl rfl) hfl (by decide) rfl rfl (Nat.le_of_ble_eq_true rfl) (Nat.le_of_ble_eq_true rfl) (Nat.le_of_ble_eq_true rfl) ?_
  intro p e s m args below meth c Q A ls hx hb hml hown hts hE hA hP hD hl hZ hret hthrow hout
  have hS : va_S A s.heap s.heap [] := va_S.rf
  have hl : lv_has ls 5 [(0, .ref h), (1, .int sg), (2, .int fr_), (3, .int to_), (4, .int li_)] := hl
  have g_X2 : ∀ w ∈ wsX20, w ∈ wsX2_addIssuer := by decide +kernel
  have f_10 := hts (.fieldLink RX2 10 "CertHerd" "issuerTable" "LCertHerd$IssuerTable;") (by decide +kernel)
  have hw_45 : ∀ w ∈ Cond.classLink RX2 41 xIA :: Cond.initialized xIA :: (vx_atS RX2 45 xIA kNms).filter goodWord, w ∈ wsX2_addIssuer := by decide +kernel
  have hw_58 : ∀ w ∈ Cond.classLink RX2 54 xIS :: Cond.initialized xIS :: (vx_atS RX2 58 xIS kNms).filter goodWord, w ∈ wsX2_addIssuer := by decide +kernel
  refine lv_iload_n hx hb dX2_addIssuer_0 rfl (lv_at hl 1 rfl) ?_
  refine lv_iconst (v := (-1)) hx hb dX2_addIssuer_1 (by decide) ?_
  refine lv_icmp_eq (tgt := 10) hx hb dX2_addIssuer_2 (by decide) (fun c_2 => ?_) (fun c_2 => ?_)
  · refine lv_iload_n hx hb dX2_addIssuer_10 rfl (lv_at hl 2 rfl) ?_
    refine kxS_v (n := 1) (X := []) (wc := []) (Y := wH cy h pn a0 a1 a2 a3 a4 a5 a6 a7 a8 b0 b1 b2 b3 b4 b5 b6 b7 fs ss fd ed lm dd ce cw n iss sb fst len off ren que kc pins sd dy) (As := [.int fr_]) (rest := []) ⟨hx, hb, hml, hown, hts⟩ hE hA hZ hP hD hS (c_X2_checkDay l D cy hfl fr_) (fun _ => rfl) gX2_addIssuer_X2_checkDay rfl rfl rfl ⟨by decide, by decide, by decide +kernel⟩ ⟨Nat.le_of_ble_eq_true rfl, Nat.le_of_ble_eq_true rfl⟩ rfl hl.1 rfl (Nat.le_of_ble_eq_true rfl) dX2_addIssuer_11 ⟨Nat.le_of_ble_eq_true rfl, Nat.le_of_ble_eq_true rfl⟩ (fun E ce q9 H locs hpx hP hS h1 h2 h3 => by obtain ⟨rfl, hb9⟩ := hpx; exact hout _ _ _ _ _ _ ce q9 hS h1 h2 h3 (Or.inr (Or.inl ⟨rfl, by simp [cdAdd, c_2, hb9]⟩)) hP) (fun u H locs e_2 hP hD hS => ?_)
    have hP : va_P D vwCl (wH cy h pn a0 a1 a2 a3 a4 a5 a6 a7 a8 b0 b1 b2 b3 b4 b5 b6 b7 fs ss fd ed lm dd ce cw n iss sb fst len off ren que kc pins sd dy) H := hP
    have hD : va_D A (wH cy h pn a0 a1 a2 a3 a4 a5 a6 a7 a8 b0 b1 b2 b3 b4 b5 b6 b7 fs ss fd ed lm dd ce cw n iss sb fst len off ren que kc pins sd dy) := hD
    have e_2 : badD fr_ = false := e_2
    refine lv_iload_n hx hb dX2_addIssuer_14 rfl (lv_at hl 3 rfl) ?_
    refine kxS_v (n := 1) (X := []) (wc := []) (Y := wH cy h pn a0 a1 a2 a3 a4 a5 a6 a7 a8 b0 b1 b2 b3 b4 b5 b6 b7 fs ss fd ed lm dd ce cw n iss sb fst len off ren que kc pins sd dy) (As := [.int to_]) (rest := []) ⟨hx, hb, hml, hown, hts⟩ hE hA hZ hP hD hS (c_X2_checkDay l D cy hfl to_) (fun _ => rfl) gX2_addIssuer_X2_checkDay rfl rfl rfl ⟨by decide, by decide, by decide +kernel⟩ ⟨Nat.le_of_ble_eq_true rfl, Nat.le_of_ble_eq_true rfl⟩ rfl hl.1 rfl (Nat.le_of_ble_eq_true rfl) dX2_addIssuer_15 ⟨Nat.le_of_ble_eq_true rfl, Nat.le_of_ble_eq_true rfl⟩ (fun E ce q9 H locs hpx hP hS h1 h2 h3 => by obtain ⟨rfl, hb9⟩ := hpx; exact hout _ _ _ _ _ _ ce q9 hS h1 h2 h3 (Or.inr (Or.inl ⟨rfl, by simp [cdAdd, c_2, e_2, hb9]⟩)) hP) (fun u H locs e_4 hP hD hS => ?_)
    have hP : va_P D vwCl (wH cy h pn a0 a1 a2 a3 a4 a5 a6 a7 a8 b0 b1 b2 b3 b4 b5 b6 b7 fs ss fd ed lm dd ce cw n iss sb fst len off ren que kc pins sd dy) H := hP
    have hD : va_D A (wH cy h pn a0 a1 a2 a3 a4 a5 a6 a7 a8 b0 b1 b2 b3 b4 b5 b6 b7 fs ss fd ed lm dd ce cw n iss sb fst len off ren que kc pins sd dy) := hD
    have e_4 : badD to_ = false := e_4
    refine lv_iload_n hx hb dX2_addIssuer_18 rfl (lv_at hl 3 rfl) ?_
    refine lv_iload_n hx hb dX2_addIssuer_19 rfl (lv_at hl 2 rfl) ?_
    refine lv_icmp_ge (tgt := 33) hx hb dX2_addIssuer_20 (by decide) (fun c_20 => ?_) (fun c_20 => ?_)
    · refine lv_iload hx hb dX2_addIssuer_33 (lv_at hl 4 rfl) ?_
      refine lv_if_lt (tgt := 45) hx hb dX2_addIssuer_35 (by decide) (fun c_35 => ?_) (fun c_35 => ?_)
      · exact hthrow _ _ _ ls [] xIA "limit out of range" 41 48 45 hS (by rw [hml]; exact hl.1) (by decide) (by decide) hw_45 dX2_addIssuer_45 dX2_addIssuer_48 dX2_addIssuer_49 dX2_addIssuer_51 dX2_addIssuer_54 (by decide) (Nat.le_of_ble_eq_true rfl) (Or.inr (Or.inl ⟨rfl, by simp [cdAdd, c_2, e_2, e_4, c_20, c_35]⟩)) hP
      · refine lv_iload hx hb dX2_addIssuer_38 (lv_at hl 4 rfl) ?_
        refine lv_bipush (v := 50) hx hb dX2_addIssuer_40 (by decide) ?_
        refine lv_icmp_le (tgt := 55) hx hb dX2_addIssuer_42 (by decide) (fun c_42 => ?_) (fun c_42 => ?_)
        · refine lv_aload_n hx hb dX2_addIssuer_55 rfl (lv_at hl 0 rfl) ?_
          refine va_get (D := D) (ci := 2) (v := .ref a0) (C := RX2) (T := TX2) (N := 5) hx hb hts g_X2 hown hE.1 hP 0 rfl rfl 0 (by decide) f_10 (fun _ h9 => h9) rfl dX2_addIssuer_56 ?_
          refine kcV_i (n := 0) (X := [(h, .inr (2, [.ref a0, .ref b0, .ref pn, .int sd, .int dy]))]) (wc := wT cy a0 a1 a2 a3 a4 a5 a6 a7 a8 fs ss fd ed lm dd ce cw n) (Y := wC cy b0 b1 b2 b3 b4 b5 b6 b7 iss sb fst len off ren que kc ++ [(pn, .inl (cy.1, 16, .inl pins))]) (As := []) (rest := []) ⟨hx, hb, hml, hown, hts⟩ hE hA hP hD hS (c_X1_isFull l D cy a0 a1 a2 a3 a4 a5 a6 a7 a8 fs ss fd ed lm dd ce cw n (by first | assumption | omega)) (fun _ => rfl) (q0 := 0) (ci := 1) rfl rfl gX2_addIssuer_X1_isFull rfl rfl rfl ⟨rfl, by decide, by decide, by decide +kernel⟩ ⟨Nat.le_of_ble_eq_true rfl, Nat.le_of_ble_eq_true rfl⟩ rfl hl.1 rfl (Nat.le_of_ble_eq_true rfl) dX2_addIssuer_59 ⟨Nat.zero_le _, Nat.zero_le _⟩ (fun r_5 u H locs e_6 hP hD hS => ?_)
          have hP : va_P D vwCl (wH cy h pn a0 a1 a2 a3 a4 a5 a6 a7 a8 b0 b1 b2 b3 b4 b5 b6 b7 fs ss fd ed lm dd ce cw n iss sb fst len off ren que kc pins sd dy) H := hP
          have hD : va_D A (wH cy h pn a0 a1 a2 a3 a4 a5 a6 a7 a8 b0 b1 b2 b3 b4 b5 b6 b7 fs ss fd ed lm dd ce cw n iss sb fst len off ren que kc pins sd dy) := hD
          have e_6 : r_5 = bI (8 ≤ n) := e_6
          subst e_6
          refine k_ifeq (tgt := 75) hx hb dX2_addIssuer_62 (by decide) (fun c_62 => ?_) (fun c_62 => ?_)
          · refine lv_aload_n hx hb dX2_addIssuer_75 rfl (lv_at hl 0 rfl) ?_
            refine va_get (D := D) (ci := 2) (v := .ref a0) (C := RX2) (T := TX2) (N := 5) hx hb hts g_X2 hown hE.1 hP 0 rfl rfl 0 (by decide) f_10 (fun _ h9 => h9) rfl dX2_addIssuer_76 ?_
            refine lv_iload_n hx hb dX2_addIssuer_79 rfl (lv_at hl 1 rfl) ?_
            refine lv_iload_n hx hb dX2_addIssuer_80 rfl (lv_at hl 2 rfl) ?_
            refine lv_iload_n hx hb dX2_addIssuer_81 rfl (lv_at hl 3 rfl) ?_
            refine lv_iload hx hb dX2_addIssuer_82 (lv_at hl 4 rfl) ?_
            refine kcV_i (n := 4) (X := [(h, .inr (2, [.ref a0, .ref b0, .ref pn, .int sd, .int dy]))]) (wc := wT cy a0 a1 a2 a3 a4 a5 a6 a7 a8 fs ss fd ed lm dd ce cw n) (Y := wC cy b0 b1 b2 b3 b4 b5 b6 b7 iss sb fst len off ren que kc ++ [(pn, .inl (cy.1, 16, .inl pins))]) (As := [.int sg, .int fr_, .int to_, .int li_]) (rest := []) ⟨hx, hb, hml, hown, hts⟩ hE hA hP hD hS (c_X1_append l D cy a0 a1 a2 a3 a4 a5 a6 a7 a8 fs ss fd ed lm dd ce cw n sg fr_ to_ li_ (by omega) (by first | assumption | omega) (by first | assumption | omega) (by first | exact Or.inl c_2 | exact Or.inr (badI_ok (by assumption) (by omega)))) (fun _ => Eq.trans (b := [a0, a1, a2, a3, a4, a5, a6, a7, a8]) rfl rfl) (q0 := 0) (ci := 1) rfl rfl gX2_addIssuer_X1_append rfl rfl rfl ⟨rfl, by decide, by decide, by decide +kernel⟩ ⟨Nat.le_of_ble_eq_true rfl, Nat.le_of_ble_eq_true rfl⟩ rfl hl.1 rfl (Nat.le_of_ble_eq_true rfl) dX2_addIssuer_84 ⟨Nat.zero_le _, Nat.zero_le _⟩ (fun r_7 u H locs e_8 hP hD hS => ?_)
            have hP : va_P D vwCl (wH cy h pn a0 a1 a2 a3 a4 a5 a6 a7 a8 b0 b1 b2 b3 b4 b5 b6 b7 (upd fs n sg) (upd ss n (-1)) (upd fd n fr_) (upd ed n to_) (upd lm n li_) (upd dd n (-1)) (ucE (upd fs n sg) (upd ss n (-1)) (upd ed n to_) n ce 1) (ucC (upd fs n sg) (upd ss n (-1)) n cw 1) (n + 1) iss sb fst len off ren que kc pins sd dy) H := hP
            have hD : va_D A (wH cy h pn a0 a1 a2 a3 a4 a5 a6 a7 a8 b0 b1 b2 b3 b4 b5 b6 b7 (upd fs n sg) (upd ss n (-1)) (upd fd n fr_) (upd ed n to_) (upd lm n li_) (upd dd n (-1)) (ucE (upd fs n sg) (upd ss n (-1)) (upd ed n to_) n ce 1) (ucC (upd fs n sg) (upd ss n (-1)) n cw 1) (n + 1) iss sb fst len off ren que kc pins sd dy) := hD
            have e_8 : r_7 = nI n := e_8
            subst e_8
            exact hret _ _ _ _ (nI n) () dX2_addIssuer_87 (Or.inl rfl) (⟨rfl, by simp [cdAdd, c_2, e_2, e_4, c_20, c_35, c_42, c_62]⟩) hP hS
          · exact hthrow _ _ _ ls [] xIS "no place for another issuer" 54 56 58 hS (by rw [hml]; exact hl.1) (by decide) (by decide) hw_58 dX2_addIssuer_65 dX2_addIssuer_68 dX2_addIssuer_69 dX2_addIssuer_71 dX2_addIssuer_74 (by decide) (Nat.le_of_ble_eq_true rfl) (Or.inr (Or.inr (⟨rfl, by simp [cdAdd, c_2, e_2, e_4, c_20, c_35, c_42, c_62]⟩))) hP
        · exact hthrow _ _ _ ls [] xIA "limit out of range" 41 48 45 hS (by rw [hml]; exact hl.1) (by decide) (by decide) hw_45 dX2_addIssuer_45 dX2_addIssuer_48 dX2_addIssuer_49 dX2_addIssuer_51 dX2_addIssuer_54 (by decide) (Nat.le_of_ble_eq_true rfl) (Or.inr (Or.inl ⟨rfl, by simp [cdAdd, c_2, e_2, e_4, c_20, c_35, c_42]⟩)) hP
    · exact hthrow _ _ _ ls [] xIA "the last day is ahead of the first one" 41 43 45 hS (by rw [hml]; exact hl.1) (by decide) (by decide) hw_45 dX2_addIssuer_23 dX2_addIssuer_26 dX2_addIssuer_27 dX2_addIssuer_29 dX2_addIssuer_32 (by decide) (Nat.le_of_ble_eq_true rfl) (Or.inr (Or.inl ⟨rfl, by simp [cdAdd, c_2, e_2, e_4, c_20]⟩)) hP
  · refine lv_aload_n hx hb dX2_addIssuer_5 rfl (lv_at hl 0 rfl) ?_
    refine lv_iload_n hx hb dX2_addIssuer_6 rfl (lv_at hl 1 rfl) ?_
    refine kxW_v (n := 1) (wc := wH cy h pn a0 a1 a2 a3 a4 a5 a6 a7 a8 b0 b1 b2 b3 b4 b5 b6 b7 fs ss fd ed lm dd ce cw n iss sb fst len off ren que kc pins sd dy) (As := [.int sg]) (rest := []) ⟨hx, hb, hml, hown, hts⟩ hE hA hZ hP hD hS (c_X2_checkIssuer l D cy hfl h pn a0 a1 a2 a3 a4 a5 a6 a7 a8 b0 b1 b2 b3 b4 b5 b6 b7 fs ss fd ed lm dd ce cw n iss sb fst len off ren que kc pins sd dy sg) (fun _ => rfl) (q0 := 0) (ci := 2) rfl rfl gX2_addIssuer_X2_checkIssuer rfl rfl rfl ⟨rfl, by decide, by decide, by decide +kernel⟩ ⟨Nat.le_of_ble_eq_true rfl, Nat.le_of_ble_eq_true rfl⟩ rfl hl.1 rfl (Nat.le_of_ble_eq_true rfl) dX2_addIssuer_7 ⟨Nat.le_of_ble_eq_true rfl, Nat.le_of_ble_eq_true rfl⟩ (fun E ce q9 H locs hpx hP hS h1 h2 h3 => by obtain ⟨rfl, hb9⟩ := hpx; exact hout _ _ _ _ _ _ ce q9 hS h1 h2 h3 (Or.inl ⟨rfl, by simp [cdAdd, c_2, hb9]⟩) hP) (fun u H locs e_10 hP hD hS => ?_)
    have hP : va_P D vwCl (wH cy h pn a0 a1 a2 a3 a4 a5 a6 a7 a8 b0 b1 b2 b3 b4 b5 b6 b7 fs ss fd ed lm dd ce cw n iss sb fst len off ren que kc pins sd dy) H := hP
    have hD : va_D A (wH cy h pn a0 a1 a2 a3 a4 a5 a6 a7 a8 b0 b1 b2 b3 b4 b5 b6 b7 fs ss fd ed lm dd ce cw n iss sb fst len off ren que kc pins sd dy) := hD
    have e_10 : badI n sg = false := e_10
    refine lv_iload_n hx hb dX2_addIssuer_10 rfl (lv_at hl 2 rfl) ?_
    refine kxS_v (n := 1) (X := []) (wc := []) (Y := wH cy h pn a0 a1 a2 a3 a4 a5 a6 a7 a8 b0 b1 b2 b3 b4 b5 b6 b7 fs ss fd ed lm dd ce cw n iss sb fst len off ren que kc pins sd dy) (As := [.int fr_]) (rest := []) ⟨hx, hb, hml, hown, hts⟩ hE hA hZ hP hD hS (c_X2_checkDay l D cy hfl fr_) (fun _ => rfl) gX2_addIssuer_X2_checkDay rfl rfl rfl ⟨by decide, by decide, by decide +kernel⟩ ⟨Nat.le_of_ble_eq_true rfl, Nat.le_of_ble_eq_true rfl⟩ rfl hl.1 rfl (Nat.le_of_ble_eq_true rfl) dX2_addIssuer_11 ⟨Nat.le_of_ble_eq_true rfl, Nat.le_of_ble_eq_true rfl⟩ (fun E ce q9 H locs hpx hP hS h1 h2 h3 => by obtain ⟨rfl, hb9⟩ := hpx; exact hout _ _ _ _ _ _ ce q9 hS h1 h2 h3 (Or.inr (Or.inl ⟨rfl, by simp [cdAdd, c_2, e_10, hb9]⟩)) hP) (fun u H locs e_12 hP hD hS => ?_)
    have hP : va_P D vwCl (wH cy h pn a0 a1 a2 a3 a4 a5 a6 a7 a8 b0 b1 b2 b3 b4 b5 b6 b7 fs ss fd ed lm dd ce cw n iss sb fst len off ren que kc pins sd dy) H := hP
    have hD : va_D A (wH cy h pn a0 a1 a2 a3 a4 a5 a6 a7 a8 b0 b1 b2 b3 b4 b5 b6 b7 fs ss fd ed lm dd ce cw n iss sb fst len off ren que kc pins sd dy) := hD
    have e_12 : badD fr_ = false := e_12
    refine lv_iload_n hx hb dX2_addIssuer_14 rfl (lv_at hl 3 rfl) ?_
    refine kxS_v (n := 1) (X := []) (wc := []) (Y := wH cy h pn a0 a1 a2 a3 a4 a5 a6 a7 a8 b0 b1 b2 b3 b4 b5 b6 b7 fs ss fd ed lm dd ce cw n iss sb fst len off ren que kc pins sd dy) (As := [.int to_]) (rest := []) ⟨hx, hb, hml, hown, hts⟩ hE hA hZ hP hD hS (c_X2_checkDay l D cy hfl to_) (fun _ => rfl) gX2_addIssuer_X2_checkDay rfl rfl rfl ⟨by decide, by decide, by decide +kernel⟩ ⟨Nat.le_of_ble_eq_true rfl, Nat.le_of_ble_eq_true rfl⟩ rfl hl.1 rfl (Nat.le_of_ble_eq_true rfl) dX2_addIssuer_15 ⟨Nat.le_of_ble_eq_true rfl, Nat.le_of_ble_eq_true rfl⟩ (fun E ce q9 H locs hpx hP hS h1 h2 h3 => by obtain ⟨rfl, hb9⟩ := hpx; exact hout _ _ _ _ _ _ ce q9 hS h1 h2 h3 (Or.inr (Or.inl ⟨rfl, by simp [cdAdd, c_2, e_10, e_12, hb9]⟩)) hP) (fun u H locs e_14 hP hD hS => ?_)
    have hP : va_P D vwCl (wH cy h pn a0 a1 a2 a3 a4 a5 a6 a7 a8 b0 b1 b2 b3 b4 b5 b6 b7 fs ss fd ed lm dd ce cw n iss sb fst len off ren que kc pins sd dy) H := hP
    have hD : va_D A (wH cy h pn a0 a1 a2 a3 a4 a5 a6 a7 a8 b0 b1 b2 b3 b4 b5 b6 b7 fs ss fd ed lm dd ce cw n iss sb fst len off ren que kc pins sd dy) := hD
    have e_14 : badD to_ = false := e_14
    refine lv_iload_n hx hb dX2_addIssuer_18 rfl (lv_at hl 3 rfl) ?_
    refine lv_iload_n hx hb dX2_addIssuer_19 rfl (lv_at hl 2 rfl) ?_
    refine lv_icmp_ge (tgt := 33) hx hb dX2_addIssuer_20 (by decide) (fun c_20 => ?_) (fun c_20 => ?_)
    · refine lv_iload hx hb dX2_addIssuer_33 (lv_at hl 4 rfl) ?_
      refine lv_if_lt (tgt := 45) hx hb dX2_addIssuer_35 (by decide) (fun c_35 => ?_) (fun c_35 => ?_)
      · exact hthrow _ _ _ ls [] xIA "limit out of range" 41 48 45 hS (by rw [hml]; exact hl.1) (by decide) (by decide) hw_45 dX2_addIssuer_45 dX2_addIssuer_48 dX2_addIssuer_49 dX2_addIssuer_51 dX2_addIssuer_54 (by decide) (Nat.le_of_ble_eq_true rfl) (Or.inr (Or.inl ⟨rfl, by simp [cdAdd, c_2, e_10, e_12, e_14, c_20, c_35]⟩)) hP
      · refine lv_iload hx hb dX2_addIssuer_38 (lv_at hl 4 rfl) ?_
        refine lv_bipush (v := 50) hx hb dX2_addIssuer_40 (by decide) ?_
        refine lv_icmp_le (tgt := 55) hx hb dX2_addIssuer_42 (by decide) (fun c_42 => ?_) (fun c_42 => ?_)
        · refine lv_aload_n hx hb dX2_addIssuer_55 rfl (lv_at hl 0 rfl) ?_
          refine va_get (D := D) (ci := 2) (v := .ref a0) (C := RX2) (T := TX2) (N := 5) hx hb hts g_X2 hown hE.1 hP 0 rfl rfl 0 (by decide) f_10 (fun _ h9 => h9) rfl dX2_addIssuer_56 ?_
          refine kcV_i (n := 0) (X := [(h, .inr (2, [.ref a0, .ref b0, .ref pn, .int sd, .int dy]))]) (wc := wT cy a0 a1 a2 a3 a4 a5 a6 a7 a8 fs ss fd ed lm dd ce cw n) (Y := wC cy b0 b1 b2 b3 b4 b5 b6 b7 iss sb fst len off ren que kc ++ [(pn, .inl (cy.1, 16, .inl pins))]) (As := []) (rest := []) ⟨hx, hb, hml, hown, hts⟩ hE hA hP hD hS (c_X1_isFull l D cy a0 a1 a2 a3 a4 a5 a6 a7 a8 fs ss fd ed lm dd ce cw n (by first | assumption | omega)) (fun _ => rfl) (q0 := 0) (ci := 1) rfl rfl gX2_addIssuer_X1_isFull rfl rfl rfl ⟨rfl, by decide, by decide, by decide +kernel⟩ ⟨Nat.le_of_ble_eq_true rfl, Nat.le_of_ble_eq_true rfl⟩ rfl hl.1 rfl (Nat.le_of_ble_eq_true rfl) dX2_addIssuer_59 ⟨Nat.zero_le _, Nat.zero_le _⟩ (fun r_15 u H locs e_16 hP hD hS => ?_)
          have hP : va_P D vwCl (wH cy h pn a0 a1 a2 a3 a4 a5 a6 a7 a8 b0 b1 b2 b3 b4 b5 b6 b7 fs ss fd ed lm dd ce cw n iss sb fst len off ren que kc pins sd dy) H := hP
          have hD : va_D A (wH cy h pn a0 a1 a2 a3 a4 a5 a6 a7 a8 b0 b1 b2 b3 b4 b5 b6 b7 fs ss fd ed lm dd ce cw n iss sb fst len off ren que kc pins sd dy) := hD
          have e_16 : r_15 = bI (8 ≤ n) := e_16
          subst e_16
          refine k_ifeq (tgt := 75) hx hb dX2_addIssuer_62 (by decide) (fun c_62 => ?_) (fun c_62 => ?_)
          · refine lv_aload_n hx hb dX2_addIssuer_75 rfl (lv_at hl 0 rfl) ?_
            refine va_get (D := D) (ci := 2) (v := .ref a0) (C := RX2) (T := TX2) (N := 5) hx hb hts g_X2 hown hE.1 hP 0 rfl rfl 0 (by decide) f_10 (fun _ h9 => h9) rfl dX2_addIssuer_76 ?_
            refine lv_iload_n hx hb dX2_addIssuer_79 rfl (lv_at hl 1 rfl) ?_
            refine lv_iload_n hx hb dX2_addIssuer_80 rfl (lv_at hl 2 rfl) ?_
            refine lv_iload_n hx hb dX2_addIssuer_81 rfl (lv_at hl 3 rfl) ?_
            refine lv_iload hx hb dX2_addIssuer_82 (lv_at hl 4 rfl) ?_
            refine kcV_i (n := 4) (X := [(h, .inr (2, [.ref a0, .ref b0, .ref pn, .int sd, .int dy]))]) (wc := wT cy a0 a1 a2 a3 a4 a5 a6 a7 a8 fs ss fd ed lm dd ce cw n) (Y := wC cy b0 b1 b2 b3 b4 b5 b6 b7 iss sb fst len off ren que kc ++ [(pn, .inl (cy.1, 16, .inl pins))]) (As := [.int sg, .int fr_, .int to_, .int li_]) (rest := []) ⟨hx, hb, hml, hown, hts⟩ hE hA hP hD hS (c_X1_append l D cy a0 a1 a2 a3 a4 a5 a6 a7 a8 fs ss fd ed lm dd ce cw n sg fr_ to_ li_ (by omega) (by first | assumption | omega) (by first | assumption | omega) (by first | exact Or.inl c_2 | exact Or.inr (badI_ok (by assumption) (by omega)))) (fun _ => Eq.trans (b := [a0, a1, a2, a3, a4, a5, a6, a7, a8]) rfl rfl) (q0 := 0) (ci := 1) rfl rfl gX2_addIssuer_X1_append rfl rfl rfl ⟨rfl, by decide, by decide, by decide +kernel⟩ ⟨Nat.le_of_ble_eq_true rfl, Nat.le_of_ble_eq_true rfl⟩ rfl hl.1 rfl (Nat.le_of_ble_eq_true rfl) dX2_addIssuer_84 ⟨Nat.zero_le _, Nat.zero_le _⟩ (fun r_17 u H locs e_18 hP hD hS => ?_)
            have hP : va_P D vwCl (wH cy h pn a0 a1 a2 a3 a4 a5 a6 a7 a8 b0 b1 b2 b3 b4 b5 b6 b7 (upd fs n sg) (upd ss n (-1)) (upd fd n fr_) (upd ed n to_) (upd lm n li_) (upd dd n (-1)) (ucE (upd fs n sg) (upd ss n (-1)) (upd ed n to_) n ce 1) (ucC (upd fs n sg) (upd ss n (-1)) n cw 1) (n + 1) iss sb fst len off ren que kc pins sd dy) H := hP
            have hD : va_D A (wH cy h pn a0 a1 a2 a3 a4 a5 a6 a7 a8 b0 b1 b2 b3 b4 b5 b6 b7 (upd fs n sg) (upd ss n (-1)) (upd fd n fr_) (upd ed n to_) (upd lm n li_) (upd dd n (-1)) (ucE (upd fs n sg) (upd ss n (-1)) (upd ed n to_) n ce 1) (ucC (upd fs n sg) (upd ss n (-1)) n cw 1) (n + 1) iss sb fst len off ren que kc pins sd dy) := hD
            have e_18 : r_17 = nI n := e_18
            subst e_18
            exact hret _ _ _ _ (nI n) () dX2_addIssuer_87 (Or.inl rfl) (⟨rfl, by simp [cdAdd, c_2, e_10, e_12, e_14, c_20, c_35, c_42, c_62]⟩) hP hS
          · exact hthrow _ _ _ ls [] xIS "no place for another issuer" 54 56 58 hS (by rw [hml]; exact hl.1) (by decide) (by decide) hw_58 dX2_addIssuer_65 dX2_addIssuer_68 dX2_addIssuer_69 dX2_addIssuer_71 dX2_addIssuer_74 (by decide) (Nat.le_of_ble_eq_true rfl) (Or.inr (Or.inr (⟨rfl, by simp [cdAdd, c_2, e_10, e_12, e_14, c_20, c_35, c_42, c_62]⟩))) hP
        · exact hthrow _ _ _ ls [] xIA "limit out of range" 41 48 45 hS (by rw [hml]; exact hl.1) (by decide) (by decide) hw_45 dX2_addIssuer_45 dX2_addIssuer_48 dX2_addIssuer_49 dX2_addIssuer_51 dX2_addIssuer_54 (by decide) (Nat.le_of_ble_eq_true rfl) (Or.inr (Or.inl ⟨rfl, by simp [cdAdd, c_2, e_10, e_12, e_14, c_20, c_35, c_42]⟩)) hP
    · exact hthrow _ _ _ ls [] xIA "the last day is ahead of the first one" 41 43 45 hS (by rw [hml]; exact hl.1) (by decide) (by decide) hw_45 dX2_addIssuer_23 dX2_addIssuer_26 dX2_addIssuer_27 dX2_addIssuer_29 dX2_addIssuer_32 (by decide) (Nat.le_of_ble_eq_true rfl) (Or.inr (Or.inl ⟨rfl, by simp [cdAdd, c_2, e_10, e_12, e_14, c_20]⟩)) hP

set_option maxHeartbeats 4000000 in
set_option maxRecDepth 100000 in
theorem c_X2_distrust (l : Launch) (D : va_G) (cy : ClassId × ClassId × ClassId) (hfl : l.stackTraces = false) (h pn a0 a1 a2 a3 a4 a5 a6 a7 a8 b0 b1 b2 b3 b4 b5 b6 b7 : Nat) (fs ss fd ed lm dd ce cw : Nat → Int32) (n : Nat) (iss sb fst len off ren que : Nat → Int32) (kc : Nat) (pins : Nat → Int32) (sd dy : Int32) (i_ : Int32) (d_ : Int32) (hn : n ≤ 8) : kXI l D cy yX2_distrust wsX2_distrust (krx 7 103) [.ref h, .int i_, .int d_] (wH cy h pn a0 a1 a2 a3 a4 a5 a6 a7 a8 b0 b1 b2 b3 b4 b5 b6 b7 fs ss fd ed lm dd ce cw n iss sb fst len off ren que kc pins sd dy) (fun (r : Int32) (u : Unit) => r = dd (ix i_) ∧ cdDis n i_ d_ = 0) (fun _ : Unit => wH cy h pn a0 a1 a2 a3 a4 a5 a6 a7 a8 b0 b1 b2 b3 b4 b5 b6 b7 fs ss fd ed lm (upd dd (ix i_) d_) ce cw n iss sb fst len off ren que kc pins sd dy) (fun E => xkA E (cdDis n i_ d_)) (wH cy h pn a0 a1 a2 a3 a4 a5 a6 a7 a8 b0 b1 b2 b3 b4 b5 b6 b7 fs ss fd ed lm dd ce cw n iss sb fst len off ren que kc pins sd dy) := by
  refine kXI.of (cc := cX2_distrust) (maxL := 4) (rt := .int) (Or.inl rfl) hfl (by decide) rfl rfl (Nat.le_of_ble_eq_true rfl) (Nat.le_of_ble_eq_true rfl) (Nat.le_of_ble_eq_true rfl) ?_
  intro p e s m args below meth c Q A ls hx hb hml hown hts hE hA hP hD hl hZ hret hthrow hout
  have hS : va_S A s.heap s.heap [] := va_S.rf
  have hl : lv_has ls 4 [(0, .ref h), (1, .int i_), (2, .int d_)] := hl
  have g_X2 : ∀ w ∈ wsX20, w ∈ wsX2_distrust := by decide +kernel
  have f_10 := hts (.fieldLink RX2 10 "CertHerd" "issuerTable" "LCertHerd$IssuerTable;") (by decide +kernel)
  have g_X1 : ∀ w ∈ wsX10, w ∈ wsX2_distrust := by decide +kernel
  have f_78 := hts (.fieldLink RX2 78 "CertHerd$IssuerTable" "distrustDays" "[I") (by decide +kernel)
  refine lv_aload_n hx hb dX2_distrust_0 rfl (lv_at hl 0 rfl) ?_
  refine lv_iload_n hx hb dX2_distrust_1 rfl (lv_at hl 1 rfl) ?_
  refine kxW_v (n := 1) (wc := wH cy h pn a0 a1 a2 a3 a4 a5 a6 a7 a8 b0 b1 b2 b3 b4 b5 b6 b7 fs ss fd ed lm dd ce cw n iss sb fst len off ren que kc pins sd dy) (As := [.int i_]) (rest := []) ⟨hx, hb, hml, hown, hts⟩ hE hA hZ hP hD hS (c_X2_checkIssuer l D cy hfl h pn a0 a1 a2 a3 a4 a5 a6 a7 a8 b0 b1 b2 b3 b4 b5 b6 b7 fs ss fd ed lm dd ce cw n iss sb fst len off ren que kc pins sd dy i_) (fun _ => rfl) (q0 := 0) (ci := 2) rfl rfl gX2_distrust_X2_checkIssuer rfl rfl rfl ⟨rfl, by decide, by decide, by decide +kernel⟩ ⟨Nat.le_of_ble_eq_true rfl, Nat.le_of_ble_eq_true rfl⟩ rfl hl.1 rfl (Nat.le_of_ble_eq_true rfl) dX2_distrust_2 ⟨Nat.le_of_ble_eq_true rfl, Nat.le_of_ble_eq_true rfl⟩ (fun E ce q9 H locs hpx hP hS h1 h2 h3 => by obtain ⟨rfl, hb9⟩ := hpx; exact hout _ _ _ _ _ _ ce q9 hS h1 h2 h3 (Or.inl ⟨rfl, by simp [cdDis, hb9]⟩) hP) (fun u H locs e_2 hP hD hS => ?_)
  have hP : va_P D vwCl (wH cy h pn a0 a1 a2 a3 a4 a5 a6 a7 a8 b0 b1 b2 b3 b4 b5 b6 b7 fs ss fd ed lm dd ce cw n iss sb fst len off ren que kc pins sd dy) H := hP
  have hD : va_D A (wH cy h pn a0 a1 a2 a3 a4 a5 a6 a7 a8 b0 b1 b2 b3 b4 b5 b6 b7 fs ss fd ed lm dd ce cw n iss sb fst len off ren que kc pins sd dy) := hD
  have e_2 : badI n i_ = false := e_2
  refine lv_iload_n hx hb dX2_distrust_5 rfl (lv_at hl 2 rfl) ?_
  refine lv_iconst (v := (-1)) hx hb dX2_distrust_6 (by decide) ?_
  refine lv_icmp_eq (tgt := 14) hx hb dX2_distrust_7 (by decide) (fun c_7 => ?_) (fun c_7 => ?_)
  · have hix_i_ := (badI_ok (i := i_) (by assumption) (by omega)).2
    refine lv_aload_n hx hb dX2_distrust_14 rfl (lv_at hl 0 rfl) ?_
    refine va_get (D := D) (ci := 2) (v := .ref a0) (C := RX2) (T := TX2) (N := 5) hx hb hts g_X2 hown hE.1 hP 0 rfl rfl 0 (by decide) f_10 (fun _ h9 => h9) rfl dX2_distrust_15 ?_
    refine va_get (D := D) (ci := 1) (v := .ref a6) (C := RX1) (T := TX1) (N := 9) hx hb hts g_X1 hown hE.1 hP 1 rfl rfl 5 (by decide) f_78 (fun _ h9 => h9) rfl dX2_distrust_18 ?_
    refine lv_iload_n hx hb dX2_distrust_21 rfl (lv_at hl 1 rfl) ?_
    refine k_top (z := nI (ix i_)) (badI_ok (i := i_) (by assumption) (by omega)).1 ?_
    refine k_ild hx hb hE.1 hP 7 0 rfl rfl (j := (ix i_)) (by omega) (by decide) dX2_distrust_22 ?_
    refine lv_istore_n (lv' := [(3, .int (dd (ix i_))), (0, .ref h), (1, .int i_), (2, .int d_)]) hx hb dX2_distrust_23 rfl hl (by decide) rfl (fun ls hl => ?_)
    refine lv_aload_n hx hb dX2_distrust_24 rfl (lv_at hl 1 rfl) ?_
    refine va_get (D := D) (ci := 2) (v := .ref a0) (C := RX2) (T := TX2) (N := 5) hx hb hts g_X2 hown hE.1 hP 0 rfl rfl 0 (by decide) f_10 (fun _ h9 => h9) rfl dX2_distrust_25 ?_
    refine va_get (D := D) (ci := 1) (v := .ref a6) (C := RX1) (T := TX1) (N := 9) hx hb hts g_X1 hown hE.1 hP 1 rfl rfl 5 (by decide) f_78 (fun _ h9 => h9) rfl dX2_distrust_28 ?_
    refine lv_iload_n hx hb dX2_distrust_31 rfl (lv_at hl 2 rfl) ?_
    refine k_top (z := nI (ix i_)) (badI_ok (i := i_) (by assumption) (by omega)).1 ?_
    refine lv_iload_n hx hb dX2_distrust_32 rfl (lv_at hl 3 rfl) ?_
    refine k_ist hx hb hE.1 hP hD hS 7 0 rfl rfl (j := (ix i_)) (by omega) (by decide) dX2_distrust_33 (fun H locs hP hD hS => ?_)
    have hP : va_P D vwCl (wH cy h pn a0 a1 a2 a3 a4 a5 a6 a7 a8 b0 b1 b2 b3 b4 b5 b6 b7 fs ss fd ed lm (upd dd (ix i_) d_) ce cw n iss sb fst len off ren que kc pins sd dy) H := hP
    have hD : va_D A (wH cy h pn a0 a1 a2 a3 a4 a5 a6 a7 a8 b0 b1 b2 b3 b4 b5 b6 b7 fs ss fd ed lm (upd dd (ix i_) d_) ce cw n iss sb fst len off ren que kc pins sd dy) := hD
    refine lv_iload_n hx hb dX2_distrust_34 rfl (lv_at hl 0 rfl) ?_
    exact hret _ _ _ _ (dd (ix i_)) () dX2_distrust_35 (Or.inl rfl) (⟨rfl, by simp [cdDis, e_2, c_7]⟩) hP hS
  · refine lv_iload_n hx hb dX2_distrust_10 rfl (lv_at hl 2 rfl) ?_
    refine kxS_v (n := 1) (X := []) (wc := []) (Y := wH cy h pn a0 a1 a2 a3 a4 a5 a6 a7 a8 b0 b1 b2 b3 b4 b5 b6 b7 fs ss fd ed lm dd ce cw n iss sb fst len off ren que kc pins sd dy) (As := [.int d_]) (rest := []) ⟨hx, hb, hml, hown, hts⟩ hE hA hZ hP hD hS (c_X2_checkDay l D cy hfl d_) (fun _ => rfl) gX2_distrust_X2_checkDay rfl rfl rfl ⟨by decide, by decide, by decide +kernel⟩ ⟨Nat.le_of_ble_eq_true rfl, Nat.le_of_ble_eq_true rfl⟩ rfl hl.1 rfl (Nat.le_of_ble_eq_true rfl) dX2_distrust_11 ⟨Nat.le_of_ble_eq_true rfl, Nat.le_of_ble_eq_true rfl⟩ (fun E ce q9 H locs hpx hP hS h1 h2 h3 => by obtain ⟨rfl, hb9⟩ := hpx; exact hout _ _ _ _ _ _ ce q9 hS h1 h2 h3 (Or.inr (Or.inl ⟨rfl, by simp [cdDis, e_2, c_7, hb9]⟩)) hP) (fun u H locs e_4 hP hD hS => ?_)
    have hP : va_P D vwCl (wH cy h pn a0 a1 a2 a3 a4 a5 a6 a7 a8 b0 b1 b2 b3 b4 b5 b6 b7 fs ss fd ed lm dd ce cw n iss sb fst len off ren que kc pins sd dy) H := hP
    have hD : va_D A (wH cy h pn a0 a1 a2 a3 a4 a5 a6 a7 a8 b0 b1 b2 b3 b4 b5 b6 b7 fs ss fd ed lm dd ce cw n iss sb fst len off ren que kc pins sd dy) := hD
    have e_4 : badD d_ = false := e_4
    have hix_i_ := (badI_ok (i := i_) (by assumption) (by omega)).2
    refine lv_aload_n hx hb dX2_distrust_14 rfl (lv_at hl 0 rfl) ?_
    refine va_get (D := D) (ci := 2) (v := .ref a0) (C := RX2) (T := TX2) (N := 5) hx hb hts g_X2 hown hE.1 hP 0 rfl rfl 0 (by decide) f_10 (fun _ h9 => h9) rfl dX2_distrust_15 ?_
    refine va_get (D := D) (ci := 1) (v := .ref a6) (C := RX1) (T := TX1) (N := 9) hx hb hts g_X1 hown hE.1 hP 1 rfl rfl 5 (by decide) f_78 (fun _ h9 => h9) rfl dX2_distrust_18 ?_
    refine lv_iload_n hx hb dX2_distrust_21 rfl (lv_at hl 1 rfl) ?_
    refine k_top (z := nI (ix i_)) (badI_ok (i := i_) (by assumption) (by omega)).1 ?_
    refine k_ild hx hb hE.1 hP 7 0 rfl rfl (j := (ix i_)) (by omega) (by decide) dX2_distrust_22 ?_
    refine lv_istore_n (lv' := [(3, .int (dd (ix i_))), (0, .ref h), (1, .int i_), (2, .int d_)]) hx hb dX2_distrust_23 rfl hl (by decide) rfl (fun ls hl => ?_)
    refine lv_aload_n hx hb dX2_distrust_24 rfl (lv_at hl 1 rfl) ?_
    refine va_get (D := D) (ci := 2) (v := .ref a0) (C := RX2) (T := TX2) (N := 5) hx hb hts g_X2 hown hE.1 hP 0 rfl rfl 0 (by decide) f_10 (fun _ h9 => h9) rfl dX2_distrust_25 ?_
    refine va_get (D := D) (ci := 1) (v := .ref a6) (C := RX1) (T := TX1) (N := 9) hx hb hts g_X1 hown hE.1 hP 1 rfl rfl 5 (by decide) f_78 (fun _ h9 => h9) rfl dX2_distrust_28 ?_
    refine lv_iload_n hx hb dX2_distrust_31 rfl (lv_at hl 2 rfl) ?_
    refine k_top (z := nI (ix i_)) (badI_ok (i := i_) (by assumption) (by omega)).1 ?_
    refine lv_iload_n hx hb dX2_distrust_32 rfl (lv_at hl 3 rfl) ?_
    refine k_ist hx hb hE.1 hP hD hS 7 0 rfl rfl (j := (ix i_)) (by omega) (by decide) dX2_distrust_33 (fun H locs hP hD hS => ?_)
    have hP : va_P D vwCl (wH cy h pn a0 a1 a2 a3 a4 a5 a6 a7 a8 b0 b1 b2 b3 b4 b5 b6 b7 fs ss fd ed lm (upd dd (ix i_) d_) ce cw n iss sb fst len off ren que kc pins sd dy) H := hP
    have hD : va_D A (wH cy h pn a0 a1 a2 a3 a4 a5 a6 a7 a8 b0 b1 b2 b3 b4 b5 b6 b7 fs ss fd ed lm (upd dd (ix i_) d_) ce cw n iss sb fst len off ren que kc pins sd dy) := hD
    refine lv_iload_n hx hb dX2_distrust_34 rfl (lv_at hl 0 rfl) ?_
    exact hret _ _ _ _ (dd (ix i_)) () dX2_distrust_35 (Or.inl rfl) (⟨rfl, by simp [cdDis, e_2, c_7, e_4]⟩) hP hS

set_option maxHeartbeats 4000000 in
set_option maxRecDepth 100000 in
theorem c_X2_issue (l : Launch) (D : va_G) (cy : ClassId × ClassId × ClassId) (hfl : l.stackTraces = false) (h pn a0 a1 a2 a3 a4 a5 a6 a7 a8 b0 b1 b2 b3 b4 b5 b6 b7 : Nat) (fs ss fd ed lm dd ce cw : Nat → Int32) (n : Nat) (iss sb fst len off ren que : Nat → Int32) (kc : Nat) (pins : Nat → Int32) (sd dy : Int32) (i_ : Int32) (su_ : Int32) (ln_ : Int32) (hn : n ≤ 8) (hc : kc ≤ 60) : kXI l D cy yX2_issue wsX2_issue (krx 7 103) [.ref h, .int i_, .int su_, .int ln_] (wH cy h pn a0 a1 a2 a3 a4 a5 a6 a7 a8 b0 b1 b2 b3 b4 b5 b6 b7 fs ss fd ed lm dd ce cw n iss sb fst len off ren que kc pins sd dy) (fun (r : Int32) (u : Unit) => r = nI kc ∧ cdIss (decide (canC fs ss fd ed lm dd n iss fst kc pins dy (ix i_) su_)) n i_ su_ ln_ = 0) (fun _ : Unit => wH cy h pn a0 a1 a2 a3 a4 a5 a6 a7 a8 b0 b1 b2 b3 b4 b5 b6 b7 fs ss fd ed lm dd ce cw n (upd iss kc i_) (upd sb kc su_) (upd fst kc dy) (upd len kc ln_) (upd off kc (offD (seedN sd) ln_)) (upd ren kc (-1)) que (kc + 1) pins (seedN sd) dy) (fun E => xkA E (cdIss (decide (canC fs ss fd ed lm dd n iss fst kc pins dy (ix i_) su_)) n i_ su_ ln_)) (wH cy h pn a0 a1 a2 a3 a4 a5 a6 a7 a8 b0 b1 b2 b3 b4 b5 b6 b7 fs ss fd ed lm dd ce cw n iss sb fst len off ren que kc pins sd dy) := by
  refine kXI.of (cc := cX2_issue) (maxL := 4) (rt := .int) (Or.inl rfl) hfl (by decide) rfl rfl (Nat.le_of_ble_eq_true rfl) (Nat.le_of_ble_eq_true rfl) (Nat.le_of_ble_eq_true rfl) ?_
  intro p e s m args below meth c Q A ls hx hb hml hown hts hE hA hP hD hl hZ hret hthrow hout
  have hS : va_S A s.heap s.heap [] := va_S.rf
  have hl : lv_has ls 4 [(0, .ref h), (1, .int i_), (2, .int su_), (3, .int ln_)] := hl
  have hw_45 : ∀ w ∈ Cond.classLink RX2 41 xIA :: Cond.initialized xIA :: (vx_atS RX2 45 xIA kNms).filter goodWord, w ∈ wsX2_issue := by decide +kernel
  have hw_58 : ∀ w ∈ Cond.classLink RX2 54 xIS :: Cond.initialized xIS :: (vx_atS RX2 58 xIS kNms).filter goodWord, w ∈ wsX2_issue := by decide +kernel
  refine lv_aload_n hx hb dX2_issue_0 rfl (lv_at hl 0 rfl) ?_
  refine lv_iload_n hx hb dX2_issue_1 rfl (lv_at hl 1 rfl) ?_
  refine kxW_v (n := 1) (wc := wH cy h pn a0 a1 a2 a3 a4 a5 a6 a7 a8 b0 b1 b2 b3 b4 b5 b6 b7 fs ss fd ed lm dd ce cw n iss sb fst len off ren que kc pins sd dy) (As := [.int i_]) (rest := []) ⟨hx, hb, hml, hown, hts⟩ hE hA hZ hP hD hS (c_X2_checkIssuer l D cy hfl h pn a0 a1 a2 a3 a4 a5 a6 a7 a8 b0 b1 b2 b3 b4 b5 b6 b7 fs ss fd ed lm dd ce cw n iss sb fst len off ren que kc pins sd dy i_) (fun _ => rfl) (q0 := 0) (ci := 2) rfl rfl gX2_issue_X2_checkIssuer rfl rfl rfl ⟨rfl, by decide, by decide, by decide +kernel⟩ ⟨Nat.le_of_ble_eq_true rfl, Nat.le_of_ble_eq_true rfl⟩ rfl hl.1 rfl (Nat.le_of_ble_eq_true rfl) dX2_issue_2 ⟨Nat.le_of_ble_eq_true rfl, Nat.le_of_ble_eq_true rfl⟩ (fun E ce q9 H locs hpx hP hS h1 h2 h3 => by obtain ⟨rfl, hb9⟩ := hpx; exact hout _ _ _ _ _ _ ce q9 hS h1 h2 h3 (Or.inl ⟨rfl, by simp [cdIss, hb9]⟩) hP) (fun u H locs e_2 hP hD hS => ?_)
  have hP : va_P D vwCl (wH cy h pn a0 a1 a2 a3 a4 a5 a6 a7 a8 b0 b1 b2 b3 b4 b5 b6 b7 fs ss fd ed lm dd ce cw n iss sb fst len off ren que kc pins sd dy) H := hP
  have hD : va_D A (wH cy h pn a0 a1 a2 a3 a4 a5 a6 a7 a8 b0 b1 b2 b3 b4 b5 b6 b7 fs ss fd ed lm dd ce cw n iss sb fst len off ren que kc pins sd dy) := hD
  have e_2 : badI n i_ = false := e_2
  refine lv_iload_n hx hb dX2_issue_5 rfl (lv_at hl 2 rfl) ?_
  refine lv_if_lt (tgt := 15) hx hb dX2_issue_6 (by decide) (fun c_6 => ?_) (fun c_6 => ?_)
  · exact hthrow _ _ _ ls [] xIA "subject out of range" 41 86 45 hS (by rw [hml]; exact hl.1) (by decide) (by decide) hw_45 dX2_issue_15 dX2_issue_18 dX2_issue_19 dX2_issue_21 dX2_issue_24 (by decide) (Nat.le_of_ble_eq_true rfl) (Or.inr (Or.inl ⟨rfl, by simp [cdIss, e_2, c_6]⟩)) hP
  · refine lv_iload_n hx hb dX2_issue_9 rfl (lv_at hl 2 rfl) ?_
    refine lv_bipush (v := 20) hx hb dX2_issue_10 (by decide) ?_
    refine lv_icmp_lt (tgt := 25) hx hb dX2_issue_12 (by decide) (fun c_12 => ?_) (fun c_12 => ?_)
    · refine lv_iload_n hx hb dX2_issue_25 rfl (lv_at hl 3 rfl) ?_
      refine lv_iconst (v := 1) hx hb dX2_issue_26 (by decide) ?_
      refine lv_icmp_lt (tgt := 37) hx hb dX2_issue_27 (by decide) (fun c_27 => ?_) (fun c_27 => ?_)
      · exact hthrow _ _ _ ls [] xIA "length out of range" 41 88 45 hS (by rw [hml]; exact hl.1) (by decide) (by decide) hw_45 dX2_issue_37 dX2_issue_40 dX2_issue_41 dX2_issue_43 dX2_issue_46 (by decide) (Nat.le_of_ble_eq_true rfl) (Or.inr (Or.inl ⟨rfl, by simp [cdIss, e_2, c_6, c_12, c_27]⟩)) hP
      · refine lv_iload_n hx hb dX2_issue_30 rfl (lv_at hl 3 rfl) ?_
        refine lv_sipush (v := 400) hx hb dX2_issue_31 (by decide) ?_
        refine lv_icmp_le (tgt := 47) hx hb dX2_issue_34 (by decide) (fun c_34 => ?_) (fun c_34 => ?_)
        · have hix_i_ := (badI_ok (i := i_) (by assumption) (by omega)).2
          refine lv_aload_n hx hb dX2_issue_47 rfl (lv_at hl 0 rfl) ?_
          refine lv_iload_n hx hb dX2_issue_48 rfl (lv_at hl 1 rfl) ?_
          refine k_top (z := nI (ix i_)) (badI_ok (i := i_) (by assumption) (by omega)).1 ?_
          refine lv_iload_n hx hb dX2_issue_49 rfl (lv_at hl 2 rfl) ?_
          refine kcW_i (n := 2) (wc := wH cy h pn a0 a1 a2 a3 a4 a5 a6 a7 a8 b0 b1 b2 b3 b4 b5 b6 b7 fs ss fd ed lm dd ce cw n iss sb fst len off ren que kc pins sd dy) (As := [.int (nI (ix i_)), .int su_]) (rest := []) ⟨hx, hb, hml, hown, hts⟩ hE hA hP hD hS (c_X2_canIssue l D cy h pn a0 a1 a2 a3 a4 a5 a6 a7 a8 b0 b1 b2 b3 b4 b5 b6 b7 fs ss fd ed lm dd ce cw n iss sb fst len off ren que kc pins sd dy (ix i_) su_ (by first | assumption | omega) (by first | assumption | omega) (by first | assumption | omega)) (fun _ => rfl) (q0 := 0) (ci := 2) rfl rfl gX2_issue_X2_canIssue rfl rfl rfl ⟨rfl, by decide, by decide, by decide +kernel⟩ ⟨Nat.le_of_ble_eq_true rfl, Nat.le_of_ble_eq_true rfl⟩ rfl hl.1 rfl (Nat.le_of_ble_eq_true rfl) dX2_issue_50 ⟨Nat.zero_le _, Nat.zero_le _⟩ (fun r_3 u H locs e_4 hP hD hS => ?_)
          have hP : va_P D vwCl (wH cy h pn a0 a1 a2 a3 a4 a5 a6 a7 a8 b0 b1 b2 b3 b4 b5 b6 b7 fs ss fd ed lm dd ce cw n iss sb fst len off ren que kc pins sd dy) H := hP
          have hD : va_D A (wH cy h pn a0 a1 a2 a3 a4 a5 a6 a7 a8 b0 b1 b2 b3 b4 b5 b6 b7 fs ss fd ed lm dd ce cw n iss sb fst len off ren que kc pins sd dy) := hD
          have e_4 : r_3 = bI (canC fs ss fd ed lm dd n iss fst kc pins dy (ix i_) su_) := e_4
          subst e_4
          refine k_ifne (tgt := 66) hx hb dX2_issue_53 (by decide) (fun c_53 => ?_) (fun c_53 => ?_)
          · refine lv_aload_n hx hb dX2_issue_66 rfl (lv_at hl 0 rfl) ?_
            refine lv_iload_n hx hb dX2_issue_67 rfl (lv_at hl 1 rfl) ?_
            refine lv_iload_n hx hb dX2_issue_68 rfl (lv_at hl 2 rfl) ?_
            refine lv_iload_n hx hb dX2_issue_69 rfl (lv_at hl 3 rfl) ?_
            refine kcW_i (n := 3) (wc := wH cy h pn a0 a1 a2 a3 a4 a5 a6 a7 a8 b0 b1 b2 b3 b4 b5 b6 b7 fs ss fd ed lm dd ce cw n iss sb fst len off ren que kc pins sd dy) (As := [.int i_, .int su_, .int ln_]) (rest := []) ⟨hx, hb, hml, hown, hts⟩ hE hA hP hD hS (c_X2_makeCertificate l D cy h pn a0 a1 a2 a3 a4 a5 a6 a7 a8 b0 b1 b2 b3 b4 b5 b6 b7 fs ss fd ed lm dd ce cw n iss sb fst len off ren que kc pins sd dy i_ su_ ln_ (by have := c_53.1; omega) (ln_ne c_27 c_34)) (fun _ => Eq.trans (b := [h, a0, a1, a2, a3, a4, a5, a6, a7, a8, b0, b1, b2, b3, b4, b5, b6, b7, pn]) rfl rfl) (q0 := 0) (ci := 2) rfl rfl gX2_issue_X2_makeCertificate rfl rfl rfl ⟨rfl, by decide, by decide, by decide +kernel⟩ ⟨Nat.le_of_ble_eq_true rfl, Nat.le_of_ble_eq_true rfl⟩ rfl hl.1 rfl (Nat.le_of_ble_eq_true rfl) dX2_issue_70 ⟨Nat.zero_le _, Nat.zero_le _⟩ (fun r_5 u H locs e_6 hP hD hS => ?_)
            have hP : va_P D vwCl (wH cy h pn a0 a1 a2 a3 a4 a5 a6 a7 a8 b0 b1 b2 b3 b4 b5 b6 b7 fs ss fd ed lm dd ce cw n (upd iss kc i_) (upd sb kc su_) (upd fst kc dy) (upd len kc ln_) (upd off kc (offD (seedN sd) ln_)) (upd ren kc (-1)) que (kc + 1) pins (seedN sd) dy) H := hP
            have hD : va_D A (wH cy h pn a0 a1 a2 a3 a4 a5 a6 a7 a8 b0 b1 b2 b3 b4 b5 b6 b7 fs ss fd ed lm dd ce cw n (upd iss kc i_) (upd sb kc su_) (upd fst kc dy) (upd len kc ln_) (upd off kc (offD (seedN sd) ln_)) (upd ren kc (-1)) que (kc + 1) pins (seedN sd) dy) := hD
            have e_6 : r_5 = nI kc := e_6
            subst e_6
            exact hret _ _ _ _ (nI kc) () dX2_issue_73 (Or.inl rfl) (⟨rfl, by rw [decide_eq_true c_53]; simp [cdIss, e_2, c_6, c_12, c_27, c_34, c_53]⟩) hP hS
          · exact hthrow _ _ _ ls [] xIS "the issuer can't issue" 54 93 58 hS (by rw [hml]; exact hl.1) (by decide) (by decide) hw_58 dX2_issue_56 dX2_issue_59 dX2_issue_60 dX2_issue_62 dX2_issue_65 (by decide) (Nat.le_of_ble_eq_true rfl) (Or.inr (Or.inr (⟨rfl, by simp [cdIss, e_2, c_6, c_12, c_27, c_34, c_53]⟩))) hP
        · exact hthrow _ _ _ ls [] xIA "length out of range" 41 88 45 hS (by rw [hml]; exact hl.1) (by decide) (by decide) hw_45 dX2_issue_37 dX2_issue_40 dX2_issue_41 dX2_issue_43 dX2_issue_46 (by decide) (Nat.le_of_ble_eq_true rfl) (Or.inr (Or.inl ⟨rfl, by simp [cdIss, e_2, c_6, c_12, c_27, c_34]⟩)) hP
    · exact hthrow _ _ _ ls [] xIA "subject out of range" 41 86 45 hS (by rw [hml]; exact hl.1) (by decide) (by decide) hw_45 dX2_issue_15 dX2_issue_18 dX2_issue_19 dX2_issue_21 dX2_issue_24 (by decide) (Nat.le_of_ble_eq_true rfl) (Or.inr (Or.inl ⟨rfl, by simp [cdIss, e_2, c_6, c_12]⟩)) hP
