/-! The law, call by call. -/
/-- the world of the law: the reference, the object, the row of the answer -/
abbrev wWL (cy : ClassId × ClassId × ClassId) (h pn a0 a1 a2 a3 a4 a5 a6 a7 a8 b0 b1 b2 b3 b4 b5 b6 b7 m0 m1 m2 m3 m4 m5 m6 m7 m8 m9 m10 m11 m12 m13 m14 m15 m16 m17 o : Nat) (fs ss fd ed lm dd ce cw : Nat → Int32) (n : Nat) (iss sb fst len off ren que : Nat → Int32) (kc : Nat) (pins : Nat → Int32) (sd dy th : Int32) (ag en cm wsn : Nat → Int32) (f : Nat → Int64) : va_W := wM cy m0 m1 m2 m3 m4 m5 m6 m7 m8 m9 m10 m11 m12 m13 m14 m15 m16 m17 th dy sd n fd ed lm fs ss dd pins ag en cm kc sb iss fst len off ren wsn ++ (wH cy h pn a0 a1 a2 a3 a4 a5 a6 a7 a8 b0 b1 b2 b3 b4 b5 b6 b7 fs ss fd ed lm dd ce cw n iss sb fst len off ren que kc pins sd dy ++ kout cy o f)
/-- what follows a call -/
def LK (p : Program) (l : Launch) (e : Env) (s : State) (m : MethodId) (below : List Frame) (meth : Method) (c : Code) (Q : State → Prop) (D : va_G) (cy : ClassId × ClassId × ClassId) (b : Nat) (x : Int32) (h pn a0 a1 a2 a3 a4 a5 a6 a7 a8 b0 b1 b2 b3 b4 b5 b6 b7 m0 m1 m2 m3 m4 m5 m6 m7 m8 m9 m10 m11 m12 m13 m14 m15 m16 m17 o : Nat) (cells slots : Nat) : Prop :=
  ∀ (fs ss fd ed lm dd ce cw : Nat → Int32) (n : Nat) (iss sb fst len off ren que : Nat → Int32) (kc : Nat) (pins : Nat → Int32) (sd dy th : Int32) (ag en cm wsn : Nat → Int32) (f : Nat → Int64) (H : Heap) (locs : List Loc) (ls : Array Slot), LInv n kc fs ss ed lm ce cw iss sb len → va_P D vwCl (wWL cy h pn a0 a1 a2 a3 a4 a5 a6 a7 a8 b0 b1 b2 b3 b4 b5 b6 b7 m0 m1 m2 m3 m4 m5 m6 m7 m8 m9 m10 m11 m12 m13 m14 m15 m16 m17 o fs ss fd ed lm dd ce cw n iss sb fst len off ren que kc pins sd dy th ag en cm wsn f) H → va_D (lwA s) (wWL cy h pn a0 a1 a2 a3 a4 a5 a6 a7 a8 b0 b1 b2 b3 b4 b5 b6 b7 m0 m1 m2 m3 m4 m5 m6 m7 m8 m9 m10 m11 m12 m13 m14 m15 m16 m17 o fs ss fd ed lm dd ce cw n iss sb fst len off ren que kc pins sd dy th ag en cm wsn f) → va_S (lwA s) s.heap H locs → lv_has ls 7 [(0, .ref b), (1, .ref h), (2, .ref m0), (3, .ref o), (4, .int x)] → W p l e room_1 s m #[Value.ref b] below meth c H locs cells slots Q (F0 m 1505 ls [])
set_option maxHeartbeats 4000000 in
set_option maxRecDepth 100000 in
theorem rd_addIssuer {p : Program} {l : Launch} {e : Env} {s : State} {m : MethodId} {below : List Frame} {meth : Method} {c : Code} {H : Heap} {locs : List Loc} {cells slots : Nat} {Q : State → Prop} {ls : Array Slot} {D : va_G} {cy : ClassId × ClassId × ClassId} {b L : Nat} {xs : Nat → Int32} (h pn a0 a1 a2 a3 a4 a5 a6 a7 a8 b0 b1 b2 b3 b4 b5 b6 b7 m0 m1 m2 m3 m4 m5 m6 m7 m8 m9 m10 m11 m12 m13 m14 m15 m16 m17 o : Nat) (fs ss fd ed lm dd ce cw : Nat → Int32) (n : Nat) (iss sb fst len off ren que : Nat → Int32) (kc : Nat) (pins : Nat → Int32) (sd dy th : Int32) (ag en cm wsn : Nat → Int32) (f : Nat → Int64) {x p1 p2 p3 p4 : Int32} (C : LC p l s m c D cy b L xs) (hI : LInv n kc fs ss ed lm ce cw iss sb len) (hin : ∀ k, k < 5 → vp_in (x + nI k) L) (q1 : xs (x + nI 1).toNatClampNeg = p1) (q2 : xs (x + nI 2).toNatClampNeg = p2) (q3 : xs (x + nI 3).toNatClampNeg = p3) (q4 : xs (x + nI 4).toNatClampNeg = p4) (hf : cells + 1 ≤ 1078 ∧ slots + 6 ≤ 9341) (hP : va_P D vwCl (wWL cy h pn a0 a1 a2 a3 a4 a5 a6 a7 a8 b0 b1 b2 b3 b4 b5 b6 b7 m0 m1 m2 m3 m4 m5 m6 m7 m8 m9 m10 m11 m12 m13 m14 m15 m16 m17 o fs ss fd ed lm dd ce cw n iss sb fst len off ren que kc pins sd dy th ag en cm wsn f) H) (hD : va_D (lwA s) (wWL cy h pn a0 a1 a2 a3 a4 a5 a6 a7 a8 b0 b1 b2 b3 b4 b5 b6 b7 m0 m1 m2 m3 m4 m5 m6 m7 m8 m9 m10 m11 m12 m13 m14 m15 m16 m17 o fs ss fd ed lm dd ce cw n iss sb fst len off ren que kc pins sd dy th ag en cm wsn f)) (hS : va_S (lwA s) s.heap H locs) (hl : lv_has ls 7 [(0, .ref b), (1, .ref h), (2, .ref m0), (3, .ref o), (4, .int x)]) (hkk : LK p l e s m below meth c Q D cy b x h pn a0 a1 a2 a3 a4 a5 a6 a7 a8 b0 b1 b2 b3 b4 b5 b6 b7 m0 m1 m2 m3 m4 m5 m6 m7 m8 m9 m10 m11 m12 m13 m14 m15 m16 m17 o (cells + 1) (slots + 6)) : W p l e room_1 s m #[Value.ref b] below meth c H locs cells slots Q (F0 m 152 ls []) := by
  obtain ⟨hx, hb, hml, hown, hts, hX, hbl, hE, hZ, hfl⟩ := C
  obtain ⟨hn, hk, hfs, hss, hro, hlm, hok, hsb, hce, hcw⟩ := id hI
  have hA : ∀ q : Nat, s.heap.size ≤ q → lwA s q := fun _ h => h
  refine lv_aload_n hx hb dL_law_152 rfl (lv_at hl 1 rfl) ?_
  refine kl_rd (k := 1) hx hb hX hbl hS (lv_at hl 0 rfl) (lv_at hl 4 rfl) rfl (hin 1 (by decide)) q1 dL_law_153 dL_law_154 dL_law_156 dL_law_157 dL_law_158 ?_
  refine kl_rd (k := 2) hx hb hX hbl hS (lv_at hl 0 rfl) (lv_at hl 4 rfl) rfl (hin 2 (by decide)) q2 dL_law_159 dL_law_160 dL_law_162 dL_law_163 dL_law_164 ?_
  refine kl_rd (k := 3) hx hb hX hbl hS (lv_at hl 0 rfl) (lv_at hl 4 rfl) rfl (hin 3 (by decide)) q3 dL_law_165 dL_law_166 dL_law_168 dL_law_169 dL_law_170 ?_
  refine kl_rd (k := 4) hx hb hX hbl hS (lv_at hl 0 rfl) (lv_at hl 4 rfl) rfl (hin 4 (by decide)) q4 dL_law_171 dL_law_172 dL_law_174 dL_law_175 dL_law_176 ?_
  refine lv_aload_n hx hb dL_law_177 rfl (lv_at hl 3 rfl) ?_
  by_cases hcd : cdAdd n p1 p2 p3 p4 = 0
  · refine kcL_i (n := 6) (X := wM cy m0 m1 m2 m3 m4 m5 m6 m7 m8 m9 m10 m11 m12 m13 m14 m15 m16 m17 th dy sd n fd ed lm fs ss dd pins ag en cm kc sb iss fst len off ren wsn) (wc := wH cy h pn a0 a1 a2 a3 a4 a5 a6 a7 a8 b0 b1 b2 b3 b4 b5 b6 b7 fs ss fd ed lm dd ce cw n iss sb fst len off ren que kc pins sd dy ++ kout cy o f) (Y := []) (As := [.ref h, .int p1, .int p2, .int p3, .int p4, .ref o]) (rest := []) ⟨hx, hb, hml, hown, hts⟩ hE hA hZ (by rw [List.append_nil]; exact hP) (by rw [List.append_nil]; exact hD) hS (c_L_addIssuer l D cy hfl h pn a0 a1 a2 a3 a4 a5 a6 a7 a8 b0 b1 b2 b3 b4 b5 b6 b7 fs ss fd ed lm dd ce cw n iss sb fst len off ren que kc pins sd dy p1 p2 p3 p4 hn hfs hss hcd o f) (Eq.trans (b := [h, a0, a1, a2, a3, a4, a5, a6, a7, a8, b0, b1, b2, b3, b4, b5, b6, b7, pn, o]) rfl rfl) gL_law_L_addIssuer rfl rfl rfl ⟨by decide, by decide, by decide +kernel⟩ ⟨Nat.le_of_ble_eq_true rfl, Nat.le_of_ble_eq_true rfl⟩ rfl hl.1 rfl (Nat.le_of_ble_eq_true rfl) dL_law_178 hf (fun r H locs hr hP hD hS => ?_)
    rw [List.append_nil] at hP hD
    have hf1 : cells + 1 ≤ 1078 ∧ slots + 6 ≤ 9341 := hf
    replace hr : r = 0 := hr
    subst hr
    refine lv_istore (lv' := [(5, .int 0), (0, .ref b), (1, .ref h), (2, .ref m0), (3, .ref o), (4, .int x)]) hx hb dL_law_181 hl (by decide) rfl (fun ls hl => ?_)
    refine lv_aload_n hx hb dL_law_183 rfl (lv_at hl 3 rfl) ?_
    refine kl_rd (k := 1) hx hb hX hbl hS (lv_at hl 1 rfl) (lv_at hl 5 rfl) rfl (hin 1 (by decide)) q1 dL_law_184 dL_law_185 dL_law_187 dL_law_188 dL_law_189 ?_
    refine kl_rd (k := 2) hx hb hX hbl hS (lv_at hl 1 rfl) (lv_at hl 5 rfl) rfl (hin 2 (by decide)) q2 dL_law_190 dL_law_191 dL_law_193 dL_law_194 dL_law_195 ?_
    refine kl_rd (k := 3) hx hb hX hbl hS (lv_at hl 1 rfl) (lv_at hl 5 rfl) rfl (hin 3 (by decide)) q3 dL_law_196 dL_law_197 dL_law_199 dL_law_200 dL_law_201 ?_
    refine kl_rd (k := 4) hx hb hX hbl hS (lv_at hl 1 rfl) (lv_at hl 5 rfl) rfl (hin 4 (by decide)) q4 dL_law_202 dL_law_203 dL_law_205 dL_law_206 dL_law_207 ?_
    have hcq : cdAddM n p1 p2 p3 p4 = cdAdd n p1 p2 p3 p4 := (cd_add hn)
    have hI2 : LInv (n + 1) kc (upd fs n p1) (upd ss n (-1)) (upd ed n p3) (upd lm n p4) (ucE (upd fs n p1) (upd ss n (-1)) (upd ed n p3) n ce 1) (ucC (upd fs n p1) (upd ss n (-1)) n cw 1) iss sb len := LInv_add hI hcd
    refine kcV_i (n := 4) (X := []) (wc := wM cy m0 m1 m2 m3 m4 m5 m6 m7 m8 m9 m10 m11 m12 m13 m14 m15 m16 m17 th dy sd n fd ed lm fs ss dd pins ag en cm kc sb iss fst len off ren wsn) (Y := wH cy h pn a0 a1 a2 a3 a4 a5 a6 a7 a8 b0 b1 b2 b3 b4 b5 b6 b7 (upd fs n p1) (upd ss n (-1)) (upd fd n p2) (upd ed n p3) (upd lm n p4) (upd dd n (-1)) (ucE (upd fs n p1) (upd ss n (-1)) (upd ed n p3) n ce 1) (ucC (upd fs n p1) (upd ss n (-1)) n cw 1) (n + 1) iss sb fst len off ren que kc pins sd dy ++ kout cy o (vp_updL f 0 (nI n).toInt64)) (As := [.int p1, .int p2, .int p3, .int p4]) (rest := []) ⟨hx, hb, hml, hown, hts⟩ hE hA hP hD hS (c_X3_addIssuer l D cy m0 m1 m2 m3 m4 m5 m6 m7 m8 m9 m10 m11 m12 m13 m14 m15 m16 m17 th dy sd n fd ed lm fs ss dd pins ag en cm kc sb iss fst len off ren wsn p1 p2 p3 p4 hn (hcq.trans hcd)) (fun _ => Eq.trans (b := [m0, m1, m2, m3, m4, m5, m6, m7, m8, m9, m10, m11, m12, m13, m14, m15, m16, m17]) rfl rfl) (q0 := 0) (ci := 3) rfl rfl gL_law_X3_addIssuer rfl rfl rfl ⟨rfl, by decide, by decide, by decide +kernel⟩ ⟨Nat.le_of_ble_eq_true rfl, Nat.le_of_ble_eq_true rfl⟩ rfl hl.1 rfl (Nat.le_of_ble_eq_true rfl) dL_law_208 hf1 (fun r2 u H locs hr2 hP hD hS => ?_)
    rw [List.nil_append] at hP hD
    refine lv_istore (lv' := [(6, .int r2), (5, .int 0), (0, .ref b), (1, .ref h), (2, .ref m0), (3, .ref o), (4, .int x)]) hx hb dL_law_211 hl (by decide) rfl (fun ls hl => ?_)
    refine lv_aload_n hx hb dL_law_213 rfl (lv_at hl 4 rfl) ?_
    refine kcV_i (n := 0) (X := []) (wc := wM cy m0 m1 m2 m3 m4 m5 m6 m7 m8 m9 m10 m11 m12 m13 m14 m15 m16 m17 0 dy sd (n + 1) (upd fd n p2) (upd ed n p3) (upd lm n p4) (upd fs n p1) (upd ss n (-1)) (upd dd n (-1)) pins ag en cm kc sb iss fst len off ren wsn) (Y := wH cy h pn a0 a1 a2 a3 a4 a5 a6 a7 a8 b0 b1 b2 b3 b4 b5 b6 b7 (upd fs n p1) (upd ss n (-1)) (upd fd n p2) (upd ed n p3) (upd lm n p4) (upd dd n (-1)) (ucE (upd fs n p1) (upd ss n (-1)) (upd ed n p3) n ce 1) (ucC (upd fs n p1) (upd ss n (-1)) n cw 1) (n + 1) iss sb fst len off ren que kc pins sd dy ++ kout cy o (vp_updL f 0 (nI n).toInt64)) (As := []) (rest := []) ⟨hx, hb, hml, hown, hts⟩ hE hA hP hD hS (c_X3_thrown l D cy m0 m1 m2 m3 m4 m5 m6 m7 m8 m9 m10 m11 m12 m13 m14 m15 m16 m17 0 dy sd (n + 1) (upd fd n p2) (upd ed n p3) (upd lm n p4) (upd fs n p1) (upd ss n (-1)) (upd dd n (-1)) pins ag en cm kc sb iss fst len off ren wsn) (fun _ => Eq.trans (b := [m0, m1, m2, m3, m4, m5, m6, m7, m8, m9, m10, m11, m12, m13, m14, m15, m16, m17]) rfl rfl) (q0 := 0) (ci := 3) rfl rfl gL_law_X3_thrown rfl rfl rfl ⟨rfl, by decide, by decide, by decide +kernel⟩ ⟨Nat.le_of_ble_eq_true rfl, Nat.le_of_ble_eq_true rfl⟩ rfl hl.1 rfl (Nat.le_of_ble_eq_true rfl) dL_law_214 hf1 (fun r3 u3 H locs hr3 hP hD hS => ?_)
    rw [List.nil_append] at hP hD
    replace hr3 : r3 = 0 := hr3
    subst hr3
    refine lv_iload hx hb dL_law_217 (lv_at hl 1 rfl) ?_
    refine lv_icmp_eq (tgt := 224) hx hb dL_law_219 (by decide) (fun _ => ?_) (fun q => absurd rfl q)
    refine lv_iload hx hb dL_law_224 (lv_at hl 1 rfl) ?_
    refine lv_if_ne (tgt := 241) hx hb dL_law_226 (by decide) (fun q => absurd rfl q) (fun _ => ?_)
    have hval : nI n = nI n := rfl
    replace hr2 : r2 = nI n := hr2.trans hval
    refine lv_aload_n hx hb dL_law_229 rfl (lv_at hl 5 rfl) ?_
    refine lv_iconst (v := 0) hx hb dL_law_230 (by decide) ?_
    refine va_lald (i := 0) (f := vp_updL f 0 (nI n).toInt64) hx hb hE.1 hP 37 2 (a := o) rfl rfl k_in0 dL_law_231 ?_
    rw [updL_0]
    refine lv_iload hx hb dL_law_232 (lv_at hl 0 rfl) ?_
    refine lv_i2l (v := r2.toInt64) hx hb dL_law_234 rfl ?_
    refine W.lcmp hx hb dL_law_235 ?_
    refine lv_if_eq (tgt := 241) hx hb dL_law_236 (by decide) (fun _ => ?_) (fun q => absurd ((lg_cmp_eq _ _).mpr (by rw [hr2])) q)
    refine lv_goto (tgt := 1505) hx hb dL_law_241 (by decide) ?_
    exact hkk (upd fs n p1) (upd ss n (-1)) (upd fd n p2) (upd ed n p3) (upd lm n p4) (upd dd n (-1)) (ucE (upd fs n p1) (upd ss n (-1)) (upd ed n p3) n ce 1) (ucC (upd fs n p1) (upd ss n (-1)) n cw 1) (n + 1) iss sb fst len off ren que kc pins sd dy 0 ag en cm wsn (vp_updL f 0 (nI n).toInt64) H locs ls hI2 hP hD hS (lv_sub hl [2, 3, 4, 5, 6] rfl)
  · refine kcL_i (n := 6) (X := wM cy m0 m1 m2 m3 m4 m5 m6 m7 m8 m9 m10 m11 m12 m13 m14 m15 m16 m17 th dy sd n fd ed lm fs ss dd pins ag en cm kc sb iss fst len off ren wsn) (wc := wH cy h pn a0 a1 a2 a3 a4 a5 a6 a7 a8 b0 b1 b2 b3 b4 b5 b6 b7 fs ss fd ed lm dd ce cw n iss sb fst len off ren que kc pins sd dy ++ kout cy o f) (Y := []) (As := [.ref h, .int p1, .int p2, .int p3, .int p4, .ref o]) (rest := []) ⟨hx, hb, hml, hown, hts⟩ hE hA hZ (by rw [List.append_nil]; exact hP) (by rw [List.append_nil]; exact hD) hS (c_L_addIssuer_f l D cy hfl h pn a0 a1 a2 a3 a4 a5 a6 a7 a8 b0 b1 b2 b3 b4 b5 b6 b7 fs ss fd ed lm dd ce cw n iss sb fst len off ren que kc pins sd dy p1 p2 p3 p4 hn hfs hss hcd o f) (Eq.trans (b := [h, a0, a1, a2, a3, a4, a5, a6, a7, a8, b0, b1, b2, b3, b4, b5, b6, b7, pn, o]) rfl rfl) gL_law_L_addIssuer rfl rfl rfl ⟨by decide, by decide, by decide +kernel⟩ ⟨Nat.le_of_ble_eq_true rfl, Nat.le_of_ble_eq_true rfl⟩ rfl hl.1 rfl (Nat.le_of_ble_eq_true rfl) dL_law_178 hf (fun r H locs hr hP hD hS => ?_)
    rw [List.append_nil] at hP hD
    have hf1 : cells + 1 ≤ 1078 ∧ slots + 6 ≤ 9341 := hf
    replace hr : r = cdAdd n p1 p2 p3 p4 := hr
    refine lv_istore (lv' := [(5, .int r), (0, .ref b), (1, .ref h), (2, .ref m0), (3, .ref o), (4, .int x)]) hx hb dL_law_181 hl (by decide) rfl (fun ls hl => ?_)
    refine lv_aload_n hx hb dL_law_183 rfl (lv_at hl 3 rfl) ?_
    refine kl_rd (k := 1) hx hb hX hbl hS (lv_at hl 1 rfl) (lv_at hl 5 rfl) rfl (hin 1 (by decide)) q1 dL_law_184 dL_law_185 dL_law_187 dL_law_188 dL_law_189 ?_
    refine kl_rd (k := 2) hx hb hX hbl hS (lv_at hl 1 rfl) (lv_at hl 5 rfl) rfl (hin 2 (by decide)) q2 dL_law_190 dL_law_191 dL_law_193 dL_law_194 dL_law_195 ?_
    refine kl_rd (k := 3) hx hb hX hbl hS (lv_at hl 1 rfl) (lv_at hl 5 rfl) rfl (hin 3 (by decide)) q3 dL_law_196 dL_law_197 dL_law_199 dL_law_200 dL_law_201 ?_
    refine kl_rd (k := 4) hx hb hX hbl hS (lv_at hl 1 rfl) (lv_at hl 5 rfl) rfl (hin 4 (by decide)) q4 dL_law_202 dL_law_203 dL_law_205 dL_law_206 dL_law_207 ?_
    have hcq : cdAddM n p1 p2 p3 p4 = cdAdd n p1 p2 p3 p4 := (cd_add hn)
    refine kcV_i (n := 4) (X := []) (wc := wM cy m0 m1 m2 m3 m4 m5 m6 m7 m8 m9 m10 m11 m12 m13 m14 m15 m16 m17 th dy sd n fd ed lm fs ss dd pins ag en cm kc sb iss fst len off ren wsn) (Y := wH cy h pn a0 a1 a2 a3 a4 a5 a6 a7 a8 b0 b1 b2 b3 b4 b5 b6 b7 fs ss fd ed lm dd ce cw n iss sb fst len off ren que kc pins sd dy ++ kout cy o f) (As := [.int p1, .int p2, .int p3, .int p4]) (rest := []) ⟨hx, hb, hml, hown, hts⟩ hE hA hP hD hS (c_X3_addIssuer_f l D cy m0 m1 m2 m3 m4 m5 m6 m7 m8 m9 m10 m11 m12 m13 m14 m15 m16 m17 th dy sd n fd ed lm fs ss dd pins ag en cm kc sb iss fst len off ren wsn p1 p2 p3 p4 hn (fun q => hcd (hcq.symm.trans q))) (fun _ => Eq.trans (b := [m0, m1, m2, m3, m4, m5, m6, m7, m8, m9, m10, m11, m12, m13, m14, m15, m16, m17]) rfl rfl) (q0 := 0) (ci := 3) rfl rfl gL_law_X3_addIssuer rfl rfl rfl ⟨rfl, by decide, by decide, by decide +kernel⟩ ⟨Nat.le_of_ble_eq_true rfl, Nat.le_of_ble_eq_true rfl⟩ rfl hl.1 rfl (Nat.le_of_ble_eq_true rfl) dL_law_208 hf1 (fun r2 u H locs hr2 hP hD hS => ?_)
    rw [List.nil_append] at hP hD
    refine lv_istore (lv' := [(6, .int r2), (5, .int r), (0, .ref b), (1, .ref h), (2, .ref m0), (3, .ref o), (4, .int x)]) hx hb dL_law_211 hl (by decide) rfl (fun ls hl => ?_)
    refine lv_aload_n hx hb dL_law_213 rfl (lv_at hl 4 rfl) ?_
    refine kcV_i (n := 0) (X := []) (wc := wM cy m0 m1 m2 m3 m4 m5 m6 m7 m8 m9 m10 m11 m12 m13 m14 m15 m16 m17 (cdAddM n p1 p2 p3 p4) dy sd n fd ed lm fs ss dd pins ag en cm kc sb iss fst len off ren wsn) (Y := wH cy h pn a0 a1 a2 a3 a4 a5 a6 a7 a8 b0 b1 b2 b3 b4 b5 b6 b7 fs ss fd ed lm dd ce cw n iss sb fst len off ren que kc pins sd dy ++ kout cy o f) (As := []) (rest := []) ⟨hx, hb, hml, hown, hts⟩ hE hA hP hD hS (c_X3_thrown l D cy m0 m1 m2 m3 m4 m5 m6 m7 m8 m9 m10 m11 m12 m13 m14 m15 m16 m17 (cdAddM n p1 p2 p3 p4) dy sd n fd ed lm fs ss dd pins ag en cm kc sb iss fst len off ren wsn) (fun _ => Eq.trans (b := [m0, m1, m2, m3, m4, m5, m6, m7, m8, m9, m10, m11, m12, m13, m14, m15, m16, m17]) rfl rfl) (q0 := 0) (ci := 3) rfl rfl gL_law_X3_thrown rfl rfl rfl ⟨rfl, by decide, by decide, by decide +kernel⟩ ⟨Nat.le_of_ble_eq_true rfl, Nat.le_of_ble_eq_true rfl⟩ rfl hl.1 rfl (Nat.le_of_ble_eq_true rfl) dL_law_214 hf1 (fun r3 u3 H locs hr3 hP hD hS => ?_)
    rw [List.nil_append] at hP hD
    replace hr3 : r3 = cdAddM n p1 p2 p3 p4 := hr3
    refine lv_iload hx hb dL_law_217 (lv_at hl 1 rfl) ?_
    refine lv_icmp_eq (tgt := 224) hx hb dL_law_219 (by decide) (fun _ => ?_) (fun q => absurd (hr3.trans (hcq.trans hr.symm)) q)
    refine lv_iload hx hb dL_law_224 (lv_at hl 1 rfl) ?_
    refine lv_if_ne (tgt := 241) hx hb dL_law_226 (by decide) (fun _ => ?_) (fun q => absurd (hr.symm.trans q) hcd)
    refine lv_goto (tgt := 1505) hx hb dL_law_241 (by decide) ?_
    exact hkk fs ss fd ed lm dd ce cw n iss sb fst len off ren que kc pins sd dy (cdAddM n p1 p2 p3 p4) ag en cm wsn f H locs ls hI hP hD hS (lv_sub hl [2, 3, 4, 5, 6] rfl)
set_option maxHeartbeats 4000000 in
set_option maxRecDepth 100000 in
theorem rd_cross {p : Program} {l : Launch} {e : Env} {s : State} {m : MethodId} {below : List Frame} {meth : Method} {c : Code} {H : Heap} {locs : List Loc} {cells slots : Nat} {Q : State → Prop} {ls : Array Slot} {D : va_G} {cy : ClassId × ClassId × ClassId} {b L : Nat} {xs : Nat → Int32} (h pn a0 a1 a2 a3 a4 a5 a6 a7 a8 b0 b1 b2 b3 b4 b5 b6 b7 m0 m1 m2 m3 m4 m5 m6 m7 m8 m9 m10 m11 m12 m13 m14 m15 m16 m17 o : Nat) (fs ss fd ed lm dd ce cw : Nat → Int32) (n : Nat) (iss sb fst len off ren que : Nat → Int32) (kc : Nat) (pins : Nat → Int32) (sd dy th : Int32) (ag en cm wsn : Nat → Int32) (f : Nat → Int64) {x p1 p2 : Int32} (C : LC p l s m c D cy b L xs) (hI : LInv n kc fs ss ed lm ce cw iss sb len) (hin : ∀ k, k < 5 → vp_in (x + nI k) L) (q1 : xs (x + nI 1).toNatClampNeg = p1) (q2 : xs (x + nI 2).toNatClampNeg = p2) (hf : cells + 1 ≤ 1078 ∧ slots + 6 ≤ 9341) (hP : va_P D vwCl (wWL cy h pn a0 a1 a2 a3 a4 a5 a6 a7 a8 b0 b1 b2 b3 b4 b5 b6 b7 m0 m1 m2 m3 m4 m5 m6 m7 m8 m9 m10 m11 m12 m13 m14 m15 m16 m17 o fs ss fd ed lm dd ce cw n iss sb fst len off ren que kc pins sd dy th ag en cm wsn f) H) (hD : va_D (lwA s) (wWL cy h pn a0 a1 a2 a3 a4 a5 a6 a7 a8 b0 b1 b2 b3 b4 b5 b6 b7 m0 m1 m2 m3 m4 m5 m6 m7 m8 m9 m10 m11 m12 m13 m14 m15 m16 m17 o fs ss fd ed lm dd ce cw n iss sb fst len off ren que kc pins sd dy th ag en cm wsn f)) (hS : va_S (lwA s) s.heap H locs) (hl : lv_has ls 7 [(0, .ref b), (1, .ref h), (2, .ref m0), (3, .ref o), (4, .int x)]) (hkk : LK p l e s m below meth c Q D cy b x h pn a0 a1 a2 a3 a4 a5 a6 a7 a8 b0 b1 b2 b3 b4 b5 b6 b7 m0 m1 m2 m3 m4 m5 m6 m7 m8 m9 m10 m11 m12 m13 m14 m15 m16 m17 o (cells + 1) (slots + 6)) : W p l e room_1 s m #[Value.ref b] below meth c H locs cells slots Q (F0 m 244 ls []) := by
  obtain ⟨hx, hb, hml, hown, hts, hX, hbl, hE, hZ, hfl⟩ := C
  obtain ⟨hn, hk, hfs, hss, hro, hlm, hok, hsb, hce, hcw⟩ := id hI
  have hA : ∀ q : Nat, s.heap.size ≤ q → lwA s q := fun _ h => h
  refine lv_aload_n hx hb dL_law_244 rfl (lv_at hl 1 rfl) ?_
  refine kl_rd (k := 1) hx hb hX hbl hS (lv_at hl 0 rfl) (lv_at hl 4 rfl) rfl (hin 1 (by decide)) q1 dL_law_245 dL_law_246 dL_law_248 dL_law_249 dL_law_250 ?_
  refine kl_rd (k := 2) hx hb hX hbl hS (lv_at hl 0 rfl) (lv_at hl 4 rfl) rfl (hin 2 (by decide)) q2 dL_law_251 dL_law_252 dL_law_254 dL_law_255 dL_law_256 ?_
  refine lv_aload_n hx hb dL_law_257 rfl (lv_at hl 3 rfl) ?_
  by_cases hcd : cdCross n fs ss p1 p2 = 0
  · refine kcL_i (n := 4) (X := wM cy m0 m1 m2 m3 m4 m5 m6 m7 m8 m9 m10 m11 m12 m13 m14 m15 m16 m17 th dy sd n fd ed lm fs ss dd pins ag en cm kc sb iss fst len off ren wsn) (wc := wH cy h pn a0 a1 a2 a3 a4 a5 a6 a7 a8 b0 b1 b2 b3 b4 b5 b6 b7 fs ss fd ed lm dd ce cw n iss sb fst len off ren que kc pins sd dy ++ kout cy o f) (Y := []) (As := [.ref h, .int p1, .int p2, .ref o]) (rest := []) ⟨hx, hb, hml, hown, hts⟩ hE hA hZ (by rw [List.append_nil]; exact hP) (by rw [List.append_nil]; exact hD) hS (c_L_cross l D cy hfl h pn a0 a1 a2 a3 a4 a5 a6 a7 a8 b0 b1 b2 b3 b4 b5 b6 b7 fs ss fd ed lm dd ce cw n iss sb fst len off ren que kc pins sd dy p1 p2 hn hfs hss hcd o f) (Eq.trans (b := [h, a0, a1, a2, a3, a4, a5, a6, a7, a8, b0, b1, b2, b3, b4, b5, b6, b7, pn, o]) rfl rfl) gL_law_L_cross rfl rfl rfl ⟨by decide, by decide, by decide +kernel⟩ ⟨Nat.le_of_ble_eq_true rfl, Nat.le_of_ble_eq_true rfl⟩ rfl hl.1 rfl (Nat.le_of_ble_eq_true rfl) dL_law_258 hf (fun r H locs hr hP hD hS => ?_)
    rw [List.append_nil] at hP hD
    have hf1 : cells + 1 ≤ 1078 ∧ slots + 6 ≤ 9341 := hf
    replace hr : r = 0 := hr
    subst hr
    refine lv_istore (lv' := [(5, .int 0), (0, .ref b), (1, .ref h), (2, .ref m0), (3, .ref o), (4, .int x)]) hx hb dL_law_261 hl (by decide) rfl (fun ls hl => ?_)
    refine lv_aload_n hx hb dL_law_263 rfl (lv_at hl 3 rfl) ?_
    refine kl_rd (k := 1) hx hb hX hbl hS (lv_at hl 1 rfl) (lv_at hl 5 rfl) rfl (hin 1 (by decide)) q1 dL_law_264 dL_law_265 dL_law_267 dL_law_268 dL_law_269 ?_
    refine kl_rd (k := 2) hx hb hX hbl hS (lv_at hl 1 rfl) (lv_at hl 5 rfl) rfl (hin 2 (by decide)) q2 dL_law_270 dL_law_271 dL_law_273 dL_law_274 dL_law_275 ?_
    have hcq : cdCrossM n fs ss p1 p2 = cdCross n fs ss p1 p2 := cd_cross
    have hI2 : LInv n kc fs (upd ss (ix p1) (nI (ix p2))) ed lm (ucE fs (upd ss (ix p1) (nI (ix p2))) ed (ix p1) ce (n - ix p1)) (ucC fs (upd ss (ix p1) (nI (ix p2))) (ix p1) cw (n - ix p1)) iss sb len := LInv_cross hI hcd
    refine kcV_i (n := 2) (X := []) (wc := wM cy m0 m1 m2 m3 m4 m5 m6 m7 m8 m9 m10 m11 m12 m13 m14 m15 m16 m17 th dy sd n fd ed lm fs ss dd pins ag en cm kc sb iss fst len off ren wsn) (Y := wH cy h pn a0 a1 a2 a3 a4 a5 a6 a7 a8 b0 b1 b2 b3 b4 b5 b6 b7 fs (upd ss (ix p1) (nI (ix p2))) fd ed lm dd (ucE fs (upd ss (ix p1) (nI (ix p2))) ed (ix p1) ce (n - ix p1)) (ucC fs (upd ss (ix p1) (nI (ix p2))) (ix p1) cw (n - ix p1)) n iss sb fst len off ren que kc pins sd dy ++ kout cy o (vp_updL f 0 (ucE fs (upd ss (ix p1) (nI (ix p2))) ed (ix p1) ce (n - ix p1) (ix p1)).toInt64)) (As := [.int p1, .int p2]) (rest := []) ⟨hx, hb, hml, hown, hts⟩ hE hA hP hD hS (c_X3_cross l D cy m0 m1 m2 m3 m4 m5 m6 m7 m8 m9 m10 m11 m12 m13 m14 m15 m16 m17 th dy sd n fd ed lm fs ss dd pins ag en cm kc sb iss fst len off ren wsn p1 p2 hn hfs hss (hcq.trans hcd)) (fun _ => Eq.trans (b := [m0, m1, m2, m3, m4, m5, m6, m7, m8, m9, m10, m11, m12, m13, m14, m15, m16, m17]) rfl rfl) (q0 := 0) (ci := 3) rfl rfl gL_law_X3_cross rfl rfl rfl ⟨rfl, by decide, by decide, by decide +kernel⟩ ⟨Nat.le_of_ble_eq_true rfl, Nat.le_of_ble_eq_true rfl⟩ rfl hl.1 rfl (Nat.le_of_ble_eq_true rfl) dL_law_276 hf1 (fun r2 u H locs hr2 hP hD hS => ?_)
    rw [List.nil_append] at hP hD
    refine lv_istore (lv' := [(6, .int r2), (5, .int 0), (0, .ref b), (1, .ref h), (2, .ref m0), (3, .ref o), (4, .int x)]) hx hb dL_law_279 hl (by decide) rfl (fun ls hl => ?_)
    refine lv_aload_n hx hb dL_law_281 rfl (lv_at hl 4 rfl) ?_
    refine kcV_i (n := 0) (X := []) (wc := wM cy m0 m1 m2 m3 m4 m5 m6 m7 m8 m9 m10 m11 m12 m13 m14 m15 m16 m17 0 dy sd n fd ed lm fs (upd ss (ix p1) (nI (ix p2))) dd pins ag u cm kc sb iss fst len off ren wsn) (Y := wH cy h pn a0 a1 a2 a3 a4 a5 a6 a7 a8 b0 b1 b2 b3 b4 b5 b6 b7 fs (upd ss (ix p1) (nI (ix p2))) fd ed lm dd (ucE fs (upd ss (ix p1) (nI (ix p2))) ed (ix p1) ce (n - ix p1)) (ucC fs (upd ss (ix p1) (nI (ix p2))) (ix p1) cw (n - ix p1)) n iss sb fst len off ren que kc pins sd dy ++ kout cy o (vp_updL f 0 (ucE fs (upd ss (ix p1) (nI (ix p2))) ed (ix p1) ce (n - ix p1) (ix p1)).toInt64)) (As := []) (rest := []) ⟨hx, hb, hml, hown, hts⟩ hE hA hP hD hS (c_X3_thrown l D cy m0 m1 m2 m3 m4 m5 m6 m7 m8 m9 m10 m11 m12 m13 m14 m15 m16 m17 0 dy sd n fd ed lm fs (upd ss (ix p1) (nI (ix p2))) dd pins ag u cm kc sb iss fst len off ren wsn) (fun _ => Eq.trans (b := [m0, m1, m2, m3, m4, m5, m6, m7, m8, m9, m10, m11, m12, m13, m14, m15, m16, m17]) rfl rfl) (q0 := 0) (ci := 3) rfl rfl gL_law_X3_thrown rfl rfl rfl ⟨rfl, by decide, by decide, by decide +kernel⟩ ⟨Nat.le_of_ble_eq_true rfl, Nat.le_of_ble_eq_true rfl⟩ rfl hl.1 rfl (Nat.le_of_ble_eq_true rfl) dL_law_282 hf1 (fun r3 u3 H locs hr3 hP hD hS => ?_)
    rw [List.nil_append] at hP hD
    replace hr3 : r3 = 0 := hr3
    subst hr3
    refine lv_iload hx hb dL_law_285 (lv_at hl 1 rfl) ?_
    refine lv_icmp_eq (tgt := 292) hx hb dL_law_287 (by decide) (fun _ => ?_) (fun q => absurd rfl q)
    refine lv_iload hx hb dL_law_292 (lv_at hl 1 rfl) ?_
    refine lv_if_ne (tgt := 309) hx hb dL_law_294 (by decide) (fun q => absurd rfl q) (fun _ => ?_)
    have hval : edV fs (upd ss (ix p1) (nI (ix p2))) ed (ix p1) = ucE fs (upd ss (ix p1) (nI (ix p2))) ed (ix p1) ce (n - ix p1) (ix p1) := (hI2.2.2.2.2.2.2.2.2.1 _ (badI_ok (cdCross_ok hcd).1 (by omega)).2).symm
    replace hr2 : r2 = ucE fs (upd ss (ix p1) (nI (ix p2))) ed (ix p1) ce (n - ix p1) (ix p1) := hr2.trans hval
    refine lv_aload_n hx hb dL_law_297 rfl (lv_at hl 5 rfl) ?_
    refine lv_iconst (v := 0) hx hb dL_law_298 (by decide) ?_
    refine va_lald (i := 0) (f := vp_updL f 0 (ucE fs (upd ss (ix p1) (nI (ix p2))) ed (ix p1) ce (n - ix p1) (ix p1)).toInt64) hx hb hE.1 hP 37 2 (a := o) rfl rfl k_in0 dL_law_299 ?_
    rw [updL_0]
    refine lv_iload hx hb dL_law_300 (lv_at hl 0 rfl) ?_
    refine lv_i2l (v := r2.toInt64) hx hb dL_law_302 rfl ?_
    refine W.lcmp hx hb dL_law_303 ?_
    refine lv_if_eq (tgt := 309) hx hb dL_law_304 (by decide) (fun _ => ?_) (fun q => absurd ((lg_cmp_eq _ _).mpr (by rw [hr2])) q)
    refine lv_goto (tgt := 1505) hx hb dL_law_309 (by decide) ?_
    exact hkk fs (upd ss (ix p1) (nI (ix p2))) fd ed lm dd (ucE fs (upd ss (ix p1) (nI (ix p2))) ed (ix p1) ce (n - ix p1)) (ucC fs (upd ss (ix p1) (nI (ix p2))) (ix p1) cw (n - ix p1)) n iss sb fst len off ren que kc pins sd dy 0 ag u cm wsn (vp_updL f 0 (ucE fs (upd ss (ix p1) (nI (ix p2))) ed (ix p1) ce (n - ix p1) (ix p1)).toInt64) H locs ls hI2 hP hD hS (lv_sub hl [2, 3, 4, 5, 6] rfl)
  · refine kcL_i (n := 4) (X := wM cy m0 m1 m2 m3 m4 m5 m6 m7 m8 m9 m10 m11 m12 m13 m14 m15 m16 m17 th dy sd n fd ed lm fs ss dd pins ag en cm kc sb iss fst len off ren wsn) (wc := wH cy h pn a0 a1 a2 a3 a4 a5 a6 a7 a8 b0 b1 b2 b3 b4 b5 b6 b7 fs ss fd ed lm dd ce cw n iss sb fst len off ren que kc pins sd dy ++ kout cy o f) (Y := []) (As := [.ref h, .int p1, .int p2, .ref o]) (rest := []) ⟨hx, hb, hml, hown, hts⟩ hE hA hZ (by rw [List.append_nil]; exact hP) (by rw [List.append_nil]; exact hD) hS (c_L_cross_f l D cy hfl h pn a0 a1 a2 a3 a4 a5 a6 a7 a8 b0 b1 b2 b3 b4 b5 b6 b7 fs ss fd ed lm dd ce cw n iss sb fst len off ren que kc pins sd dy p1 p2 hn hfs hss hcd o f) (Eq.trans (b := [h, a0, a1, a2, a3, a4, a5, a6, a7, a8, b0, b1, b2, b3, b4, b5, b6, b7, pn, o]) rfl rfl) gL_law_L_cross rfl rfl rfl ⟨by decide, by decide, by decide +kernel⟩ ⟨Nat.le_of_ble_eq_true rfl, Nat.le_of_ble_eq_true rfl⟩ rfl hl.1 rfl (Nat.le_of_ble_eq_true rfl) dL_law_258 hf (fun r H locs hr hP hD hS => ?_)
    rw [List.append_nil] at hP hD
    have hf1 : cells + 1 ≤ 1078 ∧ slots + 6 ≤ 9341 := hf
    replace hr : r = cdCross n fs ss p1 p2 := hr
    refine lv_istore (lv' := [(5, .int r), (0, .ref b), (1, .ref h), (2, .ref m0), (3, .ref o), (4, .int x)]) hx hb dL_law_261 hl (by decide) rfl (fun ls hl => ?_)
    refine lv_aload_n hx hb dL_law_263 rfl (lv_at hl 3 rfl) ?_
    refine kl_rd (k := 1) hx hb hX hbl hS (lv_at hl 1 rfl) (lv_at hl 5 rfl) rfl (hin 1 (by decide)) q1 dL_law_264 dL_law_265 dL_law_267 dL_law_268 dL_law_269 ?_
    refine kl_rd (k := 2) hx hb hX hbl hS (lv_at hl 1 rfl) (lv_at hl 5 rfl) rfl (hin 2 (by decide)) q2 dL_law_270 dL_law_271 dL_law_273 dL_law_274 dL_law_275 ?_
    have hcq : cdCrossM n fs ss p1 p2 = cdCross n fs ss p1 p2 := cd_cross
    refine kcV_i (n := 2) (X := []) (wc := wM cy m0 m1 m2 m3 m4 m5 m6 m7 m8 m9 m10 m11 m12 m13 m14 m15 m16 m17 th dy sd n fd ed lm fs ss dd pins ag en cm kc sb iss fst len off ren wsn) (Y := wH cy h pn a0 a1 a2 a3 a4 a5 a6 a7 a8 b0 b1 b2 b3 b4 b5 b6 b7 fs ss fd ed lm dd ce cw n iss sb fst len off ren que kc pins sd dy ++ kout cy o f) (As := [.int p1, .int p2]) (rest := []) ⟨hx, hb, hml, hown, hts⟩ hE hA hP hD hS (c_X3_cross_f l D cy m0 m1 m2 m3 m4 m5 m6 m7 m8 m9 m10 m11 m12 m13 m14 m15 m16 m17 th dy sd n fd ed lm fs ss dd pins ag en cm kc sb iss fst len off ren wsn p1 p2 hn hfs hss (fun q => hcd (hcq.symm.trans q))) (fun _ => Eq.trans (b := [m0, m1, m2, m3, m4, m5, m6, m7, m8, m9, m10, m11, m12, m13, m14, m15, m16, m17]) rfl rfl) (q0 := 0) (ci := 3) rfl rfl gL_law_X3_cross rfl rfl rfl ⟨rfl, by decide, by decide, by decide +kernel⟩ ⟨Nat.le_of_ble_eq_true rfl, Nat.le_of_ble_eq_true rfl⟩ rfl hl.1 rfl (Nat.le_of_ble_eq_true rfl) dL_law_276 hf1 (fun r2 u H locs hr2 hP hD hS => ?_)
    rw [List.nil_append] at hP hD
    refine lv_istore (lv' := [(6, .int r2), (5, .int r), (0, .ref b), (1, .ref h), (2, .ref m0), (3, .ref o), (4, .int x)]) hx hb dL_law_279 hl (by decide) rfl (fun ls hl => ?_)
    refine lv_aload_n hx hb dL_law_281 rfl (lv_at hl 4 rfl) ?_
    refine kcV_i (n := 0) (X := []) (wc := wM cy m0 m1 m2 m3 m4 m5 m6 m7 m8 m9 m10 m11 m12 m13 m14 m15 m16 m17 (cdCrossM n fs ss p1 p2) dy sd n fd ed lm fs ss dd pins ag u cm kc sb iss fst len off ren wsn) (Y := wH cy h pn a0 a1 a2 a3 a4 a5 a6 a7 a8 b0 b1 b2 b3 b4 b5 b6 b7 fs ss fd ed lm dd ce cw n iss sb fst len off ren que kc pins sd dy ++ kout cy o f) (As := []) (rest := []) ⟨hx, hb, hml, hown, hts⟩ hE hA hP hD hS (c_X3_thrown l D cy m0 m1 m2 m3 m4 m5 m6 m7 m8 m9 m10 m11 m12 m13 m14 m15 m16 m17 (cdCrossM n fs ss p1 p2) dy sd n fd ed lm fs ss dd pins ag u cm kc sb iss fst len off ren wsn) (fun _ => Eq.trans (b := [m0, m1, m2, m3, m4, m5, m6, m7, m8, m9, m10, m11, m12, m13, m14, m15, m16, m17]) rfl rfl) (q0 := 0) (ci := 3) rfl rfl gL_law_X3_thrown rfl rfl rfl ⟨rfl, by decide, by decide, by decide +kernel⟩ ⟨Nat.le_of_ble_eq_true rfl, Nat.le_of_ble_eq_true rfl⟩ rfl hl.1 rfl (Nat.le_of_ble_eq_true rfl) dL_law_282 hf1 (fun r3 u3 H locs hr3 hP hD hS => ?_)
    rw [List.nil_append] at hP hD
    replace hr3 : r3 = cdCrossM n fs ss p1 p2 := hr3
    refine lv_iload hx hb dL_law_285 (lv_at hl 1 rfl) ?_
    refine lv_icmp_eq (tgt := 292) hx hb dL_law_287 (by decide) (fun _ => ?_) (fun q => absurd (hr3.trans (hcq.trans hr.symm)) q)
    refine lv_iload hx hb dL_law_292 (lv_at hl 1 rfl) ?_
    refine lv_if_ne (tgt := 309) hx hb dL_law_294 (by decide) (fun _ => ?_) (fun q => absurd (hr.symm.trans q) hcd)
    refine lv_goto (tgt := 1505) hx hb dL_law_309 (by decide) ?_
    exact hkk fs ss fd ed lm dd ce cw n iss sb fst len off ren que kc pins sd dy (cdCrossM n fs ss p1 p2) ag u cm wsn f H locs ls hI hP hD hS (lv_sub hl [2, 3, 4, 5, 6] rfl)
set_option maxHeartbeats 4000000 in
set_option maxRecDepth 100000 in
theorem rd_distrust {p : Program} {l : Launch} {e : Env} {s : State} {m : MethodId} {below : List Frame} {meth : Method} {c : Code} {H : Heap} {locs : List Loc} {cells slots : Nat} {Q : State → Prop} {ls : Array Slot} {D : va_G} {cy : ClassId × ClassId × ClassId} {b L : Nat} {xs : Nat → Int32} (h pn a0 a1 a2 a3 a4 a5 a6 a7 a8 b0 b1 b2 b3 b4 b5 b6 b7 m0 m1 m2 m3 m4 m5 m6 m7 m8 m9 m10 m11 m12 m13 m14 m15 m16 m17 o : Nat) (fs ss fd ed lm dd ce cw : Nat → Int32) (n : Nat) (iss sb fst len off ren que : Nat → Int32) (kc : Nat) (pins : Nat → Int32) (sd dy th : Int32) (ag en cm wsn : Nat → Int32) (f : Nat → Int64) {x p1 p2 : Int32} (C : LC p l s m c D cy b L xs) (hI : LInv n kc fs ss ed lm ce cw iss sb len) (hin : ∀ k, k < 5 → vp_in (x + nI k) L) (q1 : xs (x + nI 1).toNatClampNeg = p1) (q2 : xs (x + nI 2).toNatClampNeg = p2) (hf : cells + 1 ≤ 1078 ∧ slots + 6 ≤ 9341) (hP : va_P D vwCl (wWL cy h pn a0 a1 a2 a3 a4 a5 a6 a7 a8 b0 b1 b2 b3 b4 b5 b6 b7 m0 m1 m2 m3 m4 m5 m6 m7 m8 m9 m10 m11 m12 m13 m14 m15 m16 m17 o fs ss fd ed lm dd ce cw n iss sb fst len off ren que kc pins sd dy th ag en cm wsn f) H) (hD : va_D (lwA s) (wWL cy h pn a0 a1 a2 a3 a4 a5 a6 a7 a8 b0 b1 b2 b3 b4 b5 b6 b7 m0 m1 m2 m3 m4 m5 m6 m7 m8 m9 m10 m11 m12 m13 m14 m15 m16 m17 o fs ss fd ed lm dd ce cw n iss sb fst len off ren que kc pins sd dy th ag en cm wsn f)) (hS : va_S (lwA s) s.heap H locs) (hl : lv_has ls 7 [(0, .ref b), (1, .ref h), (2, .ref m0), (3, .ref o), (4, .int x)]) (hkk : LK p l e s m below meth c Q D cy b x h pn a0 a1 a2 a3 a4 a5 a6 a7 a8 b0 b1 b2 b3 b4 b5 b6 b7 m0 m1 m2 m3 m4 m5 m6 m7 m8 m9 m10 m11 m12 m13 m14 m15 m16 m17 o (cells + 1) (slots + 6)) : W p l e room_1 s m #[Value.ref b] below meth c H locs cells slots Q (F0 m 312 ls []) := by
  obtain ⟨hx, hb, hml, hown, hts, hX, hbl, hE, hZ, hfl⟩ := C
  obtain ⟨hn, hk, hfs, hss, hro, hlm, hok, hsb, hce, hcw⟩ := id hI
  have hA : ∀ q : Nat, s.heap.size ≤ q → lwA s q := fun _ h => h
  refine lv_aload_n hx hb dL_law_312 rfl (lv_at hl 1 rfl) ?_
  refine kl_rd (k := 1) hx hb hX hbl hS (lv_at hl 0 rfl) (lv_at hl 4 rfl) rfl (hin 1 (by decide)) q1 dL_law_313 dL_law_314 dL_law_316 dL_law_317 dL_law_318 ?_
  refine kl_rd (k := 2) hx hb hX hbl hS (lv_at hl 0 rfl) (lv_at hl 4 rfl) rfl (hin 2 (by decide)) q2 dL_law_319 dL_law_320 dL_law_322 dL_law_323 dL_law_324 ?_
  refine lv_aload_n hx hb dL_law_325 rfl (lv_at hl 3 rfl) ?_
  by_cases hcd : cdDis n p1 p2 = 0
  · refine kcL_i (n := 4) (X := wM cy m0 m1 m2 m3 m4 m5 m6 m7 m8 m9 m10 m11 m12 m13 m14 m15 m16 m17 th dy sd n fd ed lm fs ss dd pins ag en cm kc sb iss fst len off ren wsn) (wc := wH cy h pn a0 a1 a2 a3 a4 a5 a6 a7 a8 b0 b1 b2 b3 b4 b5 b6 b7 fs ss fd ed lm dd ce cw n iss sb fst len off ren que kc pins sd dy ++ kout cy o f) (Y := []) (As := [.ref h, .int p1, .int p2, .ref o]) (rest := []) ⟨hx, hb, hml, hown, hts⟩ hE hA hZ (by rw [List.append_nil]; exact hP) (by rw [List.append_nil]; exact hD) hS (c_L_distrust l D cy hfl h pn a0 a1 a2 a3 a4 a5 a6 a7 a8 b0 b1 b2 b3 b4 b5 b6 b7 fs ss fd ed lm dd ce cw n iss sb fst len off ren que kc pins sd dy p1 p2 hn hcd o f) (Eq.trans (b := [h, a0, a1, a2, a3, a4, a5, a6, a7, a8, b0, b1, b2, b3, b4, b5, b6, b7, pn, o]) rfl rfl) gL_law_L_distrust rfl rfl rfl ⟨by decide, by decide, by decide +kernel⟩ ⟨Nat.le_of_ble_eq_true rfl, Nat.le_of_ble_eq_true rfl⟩ rfl hl.1 rfl (Nat.le_of_ble_eq_true rfl) dL_law_326 hf (fun r H locs hr hP hD hS => ?_)
    rw [List.append_nil] at hP hD
    have hf1 : cells + 1 ≤ 1078 ∧ slots + 6 ≤ 9341 := hf
    replace hr : r = 0 := hr
    subst hr
    refine lv_istore (lv' := [(5, .int 0), (0, .ref b), (1, .ref h), (2, .ref m0), (3, .ref o), (4, .int x)]) hx hb dL_law_329 hl (by decide) rfl (fun ls hl => ?_)
    refine lv_aload_n hx hb dL_law_331 rfl (lv_at hl 3 rfl) ?_
    refine kl_rd (k := 1) hx hb hX hbl hS (lv_at hl 1 rfl) (lv_at hl 5 rfl) rfl (hin 1 (by decide)) q1 dL_law_332 dL_law_333 dL_law_335 dL_law_336 dL_law_337 ?_
    refine kl_rd (k := 2) hx hb hX hbl hS (lv_at hl 1 rfl) (lv_at hl 5 rfl) rfl (hin 2 (by decide)) q2 dL_law_338 dL_law_339 dL_law_341 dL_law_342 dL_law_343 ?_
    have hcq : cdDis n p1 p2 = cdDis n p1 p2 := rfl
    have hI2 : LInv n kc fs ss ed lm ce cw iss sb len := hI
    refine kcV_i (n := 2) (X := []) (wc := wM cy m0 m1 m2 m3 m4 m5 m6 m7 m8 m9 m10 m11 m12 m13 m14 m15 m16 m17 th dy sd n fd ed lm fs ss dd pins ag en cm kc sb iss fst len off ren wsn) (Y := wH cy h pn a0 a1 a2 a3 a4 a5 a6 a7 a8 b0 b1 b2 b3 b4 b5 b6 b7 fs ss fd ed lm (upd dd (ix p1) p2) ce cw n iss sb fst len off ren que kc pins sd dy ++ kout cy o (vp_updL f 0 (dd (ix p1)).toInt64)) (As := [.int p1, .int p2]) (rest := []) ⟨hx, hb, hml, hown, hts⟩ hE hA hP hD hS (c_X3_distrust l D cy m0 m1 m2 m3 m4 m5 m6 m7 m8 m9 m10 m11 m12 m13 m14 m15 m16 m17 th dy sd n fd ed lm fs ss dd pins ag en cm kc sb iss fst len off ren wsn p1 p2 hn (hcq.trans hcd)) (fun _ => Eq.trans (b := [m0, m1, m2, m3, m4, m5, m6, m7, m8, m9, m10, m11, m12, m13, m14, m15, m16, m17]) rfl rfl) (q0 := 0) (ci := 3) rfl rfl gL_law_X3_distrust rfl rfl rfl ⟨rfl, by decide, by decide, by decide +kernel⟩ ⟨Nat.le_of_ble_eq_true rfl, Nat.le_of_ble_eq_true rfl⟩ rfl hl.1 rfl (Nat.le_of_ble_eq_true rfl) dL_law_344 hf1 (fun r2 u H locs hr2 hP hD hS => ?_)
    rw [List.nil_append] at hP hD
    refine lv_istore (lv' := [(6, .int r2), (5, .int 0), (0, .ref b), (1, .ref h), (2, .ref m0), (3, .ref o), (4, .int x)]) hx hb dL_law_347 hl (by decide) rfl (fun ls hl => ?_)
    refine lv_aload_n hx hb dL_law_349 rfl (lv_at hl 4 rfl) ?_
    refine kcV_i (n := 0) (X := []) (wc := wM cy m0 m1 m2 m3 m4 m5 m6 m7 m8 m9 m10 m11 m12 m13 m14 m15 m16 m17 0 dy sd n fd ed lm fs ss (upd dd (ix p1) p2) pins ag en cm kc sb iss fst len off ren wsn) (Y := wH cy h pn a0 a1 a2 a3 a4 a5 a6 a7 a8 b0 b1 b2 b3 b4 b5 b6 b7 fs ss fd ed lm (upd dd (ix p1) p2) ce cw n iss sb fst len off ren que kc pins sd dy ++ kout cy o (vp_updL f 0 (dd (ix p1)).toInt64)) (As := []) (rest := []) ⟨hx, hb, hml, hown, hts⟩ hE hA hP hD hS (c_X3_thrown l D cy m0 m1 m2 m3 m4 m5 m6 m7 m8 m9 m10 m11 m12 m13 m14 m15 m16 m17 0 dy sd n fd ed lm fs ss (upd dd (ix p1) p2) pins ag en cm kc sb iss fst len off ren wsn) (fun _ => Eq.trans (b := [m0, m1, m2, m3, m4, m5, m6, m7, m8, m9, m10, m11, m12, m13, m14, m15, m16, m17]) rfl rfl) (q0 := 0) (ci := 3) rfl rfl gL_law_X3_thrown rfl rfl rfl ⟨rfl, by decide, by decide, by decide +kernel⟩ ⟨Nat.le_of_ble_eq_true rfl, Nat.le_of_ble_eq_true rfl⟩ rfl hl.1 rfl (Nat.le_of_ble_eq_true rfl) dL_law_350 hf1 (fun r3 u3 H locs hr3 hP hD hS => ?_)
    rw [List.nil_append] at hP hD
    replace hr3 : r3 = 0 := hr3
    subst hr3
    refine lv_iload hx hb dL_law_353 (lv_at hl 1 rfl) ?_
    refine lv_icmp_eq (tgt := 360) hx hb dL_law_355 (by decide) (fun _ => ?_) (fun q => absurd rfl q)
    refine lv_iload hx hb dL_law_360 (lv_at hl 1 rfl) ?_
    refine lv_if_ne (tgt := 377) hx hb dL_law_362 (by decide) (fun q => absurd rfl q) (fun _ => ?_)
    have hval : dd (ix p1) = dd (ix p1) := rfl
    replace hr2 : r2 = dd (ix p1) := hr2.trans hval
    refine lv_aload_n hx hb dL_law_365 rfl (lv_at hl 5 rfl) ?_
    refine lv_iconst (v := 0) hx hb dL_law_366 (by decide) ?_
    refine va_lald (i := 0) (f := vp_updL f 0 (dd (ix p1)).toInt64) hx hb hE.1 hP 37 2 (a := o) rfl rfl k_in0 dL_law_367 ?_
    rw [updL_0]
    refine lv_iload hx hb dL_law_368 (lv_at hl 0 rfl) ?_
    refine lv_i2l (v := r2.toInt64) hx hb dL_law_370 rfl ?_
    refine W.lcmp hx hb dL_law_371 ?_
    refine lv_if_eq (tgt := 377) hx hb dL_law_372 (by decide) (fun _ => ?_) (fun q => absurd ((lg_cmp_eq _ _).mpr (by rw [hr2])) q)
    refine lv_goto (tgt := 1505) hx hb dL_law_377 (by decide) ?_
    exact hkk fs ss fd ed lm (upd dd (ix p1) p2) ce cw n iss sb fst len off ren que kc pins sd dy 0 ag en cm wsn (vp_updL f 0 (dd (ix p1)).toInt64) H locs ls hI2 hP hD hS (lv_sub hl [2, 3, 4, 5, 6] rfl)
  · refine kcL_i (n := 4) (X := wM cy m0 m1 m2 m3 m4 m5 m6 m7 m8 m9 m10 m11 m12 m13 m14 m15 m16 m17 th dy sd n fd ed lm fs ss dd pins ag en cm kc sb iss fst len off ren wsn) (wc := wH cy h pn a0 a1 a2 a3 a4 a5 a6 a7 a8 b0 b1 b2 b3 b4 b5 b6 b7 fs ss fd ed lm dd ce cw n iss sb fst len off ren que kc pins sd dy ++ kout cy o f) (Y := []) (As := [.ref h, .int p1, .int p2, .ref o]) (rest := []) ⟨hx, hb, hml, hown, hts⟩ hE hA hZ (by rw [List.append_nil]; exact hP) (by rw [List.append_nil]; exact hD) hS (c_L_distrust_f l D cy hfl h pn a0 a1 a2 a3 a4 a5 a6 a7 a8 b0 b1 b2 b3 b4 b5 b6 b7 fs ss fd ed lm dd ce cw n iss sb fst len off ren que kc pins sd dy p1 p2 hn hcd o f) (Eq.trans (b := [h, a0, a1, a2, a3, a4, a5, a6, a7, a8, b0, b1, b2, b3, b4, b5, b6, b7, pn, o]) rfl rfl) gL_law_L_distrust rfl rfl rfl ⟨by decide, by decide, by decide +kernel⟩ ⟨Nat.le_of_ble_eq_true rfl, Nat.le_of_ble_eq_true rfl⟩ rfl hl.1 rfl (Nat.le_of_ble_eq_true rfl) dL_law_326 hf (fun r H locs hr hP hD hS => ?_)
    rw [List.append_nil] at hP hD
    have hf1 : cells + 1 ≤ 1078 ∧ slots + 6 ≤ 9341 := hf
    replace hr : r = cdDis n p1 p2 := hr
    refine lv_istore (lv' := [(5, .int r), (0, .ref b), (1, .ref h), (2, .ref m0), (3, .ref o), (4, .int x)]) hx hb dL_law_329 hl (by decide) rfl (fun ls hl => ?_)
    refine lv_aload_n hx hb dL_law_331 rfl (lv_at hl 3 rfl) ?_
    refine kl_rd (k := 1) hx hb hX hbl hS (lv_at hl 1 rfl) (lv_at hl 5 rfl) rfl (hin 1 (by decide)) q1 dL_law_332 dL_law_333 dL_law_335 dL_law_336 dL_law_337 ?_
    refine kl_rd (k := 2) hx hb hX hbl hS (lv_at hl 1 rfl) (lv_at hl 5 rfl) rfl (hin 2 (by decide)) q2 dL_law_338 dL_law_339 dL_law_341 dL_law_342 dL_law_343 ?_
    have hcq : cdDis n p1 p2 = cdDis n p1 p2 := rfl
    refine kcV_i (n := 2) (X := []) (wc := wM cy m0 m1 m2 m3 m4 m5 m6 m7 m8 m9 m10 m11 m12 m13 m14 m15 m16 m17 th dy sd n fd ed lm fs ss dd pins ag en cm kc sb iss fst len off ren wsn) (Y := wH cy h pn a0 a1 a2 a3 a4 a5 a6 a7 a8 b0 b1 b2 b3 b4 b5 b6 b7 fs ss fd ed lm dd ce cw n iss sb fst len off ren que kc pins sd dy ++ kout cy o f) (As := [.int p1, .int p2]) (rest := []) ⟨hx, hb, hml, hown, hts⟩ hE hA hP hD hS (c_X3_distrust_f l D cy m0 m1 m2 m3 m4 m5 m6 m7 m8 m9 m10 m11 m12 m13 m14 m15 m16 m17 th dy sd n fd ed lm fs ss dd pins ag en cm kc sb iss fst len off ren wsn p1 p2 hn (fun q => hcd (hcq.symm.trans q))) (fun _ => Eq.trans (b := [m0, m1, m2, m3, m4, m5, m6, m7, m8, m9, m10, m11, m12, m13, m14, m15, m16, m17]) rfl rfl) (q0 := 0) (ci := 3) rfl rfl gL_law_X3_distrust rfl rfl rfl ⟨rfl, by decide, by decide, by decide +kernel⟩ ⟨Nat.le_of_ble_eq_true rfl, Nat.le_of_ble_eq_true rfl⟩ rfl hl.1 rfl (Nat.le_of_ble_eq_true rfl) dL_law_344 hf1 (fun r2 u H locs hr2 hP hD hS => ?_)
    rw [List.nil_append] at hP hD
    refine lv_istore (lv' := [(6, .int r2), (5, .int r), (0, .ref b), (1, .ref h), (2, .ref m0), (3, .ref o), (4, .int x)]) hx hb dL_law_347 hl (by decide) rfl (fun ls hl => ?_)
    refine lv_aload_n hx hb dL_law_349 rfl (lv_at hl 4 rfl) ?_
    refine kcV_i (n := 0) (X := []) (wc := wM cy m0 m1 m2 m3 m4 m5 m6 m7 m8 m9 m10 m11 m12 m13 m14 m15 m16 m17 (cdDis n p1 p2) dy sd n fd ed lm fs ss dd pins ag en cm kc sb iss fst len off ren wsn) (Y := wH cy h pn a0 a1 a2 a3 a4 a5 a6 a7 a8 b0 b1 b2 b3 b4 b5 b6 b7 fs ss fd ed lm dd ce cw n iss sb fst len off ren que kc pins sd dy ++ kout cy o f) (As := []) (rest := []) ⟨hx, hb, hml, hown, hts⟩ hE hA hP hD hS (c_X3_thrown l D cy m0 m1 m2 m3 m4 m5 m6 m7 m8 m9 m10 m11 m12 m13 m14 m15 m16 m17 (cdDis n p1 p2) dy sd n fd ed lm fs ss dd pins ag en cm kc sb iss fst len off ren wsn) (fun _ => Eq.trans (b := [m0, m1, m2, m3, m4, m5, m6, m7, m8, m9, m10, m11, m12, m13, m14, m15, m16, m17]) rfl rfl) (q0 := 0) (ci := 3) rfl rfl gL_law_X3_thrown rfl rfl rfl ⟨rfl, by decide, by decide, by decide +kernel⟩ ⟨Nat.le_of_ble_eq_true rfl, Nat.le_of_ble_eq_true rfl⟩ rfl hl.1 rfl (Nat.le_of_ble_eq_true rfl) dL_law_350 hf1 (fun r3 u3 H locs hr3 hP hD hS => ?_)
    rw [List.nil_append] at hP hD
    replace hr3 : r3 = cdDis n p1 p2 := hr3
    refine lv_iload hx hb dL_law_353 (lv_at hl 1 rfl) ?_
    refine lv_icmp_eq (tgt := 360) hx hb dL_law_355 (by decide) (fun _ => ?_) (fun q => absurd (hr3.trans (hcq.trans hr.symm)) q)
    refine lv_iload hx hb dL_law_360 (lv_at hl 1 rfl) ?_
    refine lv_if_ne (tgt := 377) hx hb dL_law_362 (by decide) (fun _ => ?_) (fun q => absurd (hr.symm.trans q) hcd)
    refine lv_goto (tgt := 1505) hx hb dL_law_377 (by decide) ?_
    exact hkk fs ss fd ed lm dd ce cw n iss sb fst len off ren que kc pins sd dy (cdDis n p1 p2) ag en cm wsn f H locs ls hI hP hD hS (lv_sub hl [2, 3, 4, 5, 6] rfl)
set_option maxHeartbeats 4000000 in
set_option maxRecDepth 100000 in
theorem rd_pin {p : Program} {l : Launch} {e : Env} {s : State} {m : MethodId} {below : List Frame} {meth : Method} {c : Code} {H : Heap} {locs : List Loc} {cells slots : Nat} {Q : State → Prop} {ls : Array Slot} {D : va_G} {cy : ClassId × ClassId × ClassId} {b L : Nat} {xs : Nat → Int32} (h pn a0 a1 a2 a3 a4 a5 a6 a7 a8 b0 b1 b2 b3 b4 b5 b6 b7 m0 m1 m2 m3 m4 m5 m6 m7 m8 m9 m10 m11 m12 m13 m14 m15 m16 m17 o : Nat) (fs ss fd ed lm dd ce cw : Nat → Int32) (n : Nat) (iss sb fst len off ren que : Nat → Int32) (kc : Nat) (pins : Nat → Int32) (sd dy th : Int32) (ag en cm wsn : Nat → Int32) (f : Nat → Int64) {x p1 p2 : Int32} (C : LC p l s m c D cy b L xs) (hI : LInv n kc fs ss ed lm ce cw iss sb len) (hin : ∀ k, k < 5 → vp_in (x + nI k) L) (q1 : xs (x + nI 1).toNatClampNeg = p1) (q2 : xs (x + nI 2).toNatClampNeg = p2) (hf : cells + 1 ≤ 1078 ∧ slots + 6 ≤ 9341) (hP : va_P D vwCl (wWL cy h pn a0 a1 a2 a3 a4 a5 a6 a7 a8 b0 b1 b2 b3 b4 b5 b6 b7 m0 m1 m2 m3 m4 m5 m6 m7 m8 m9 m10 m11 m12 m13 m14 m15 m16 m17 o fs ss fd ed lm dd ce cw n iss sb fst len off ren que kc pins sd dy th ag en cm wsn f) H) (hD : va_D (lwA s) (wWL cy h pn a0 a1 a2 a3 a4 a5 a6 a7 a8 b0 b1 b2 b3 b4 b5 b6 b7 m0 m1 m2 m3 m4 m5 m6 m7 m8 m9 m10 m11 m12 m13 m14 m15 m16 m17 o fs ss fd ed lm dd ce cw n iss sb fst len off ren que kc pins sd dy th ag en cm wsn f)) (hS : va_S (lwA s) s.heap H locs) (hl : lv_has ls 7 [(0, .ref b), (1, .ref h), (2, .ref m0), (3, .ref o), (4, .int x)]) (hkk : LK p l e s m below meth c Q D cy b x h pn a0 a1 a2 a3 a4 a5 a6 a7 a8 b0 b1 b2 b3 b4 b5 b6 b7 m0 m1 m2 m3 m4 m5 m6 m7 m8 m9 m10 m11 m12 m13 m14 m15 m16 m17 o (cells + 1) (slots + 6)) : W p l e room_1 s m #[Value.ref b] below meth c H locs cells slots Q (F0 m 380 ls []) := by
  obtain ⟨hx, hb, hml, hown, hts, hX, hbl, hE, hZ, hfl⟩ := C
  obtain ⟨hn, hk, hfs, hss, hro, hlm, hok, hsb, hce, hcw⟩ := id hI
  have hA : ∀ q : Nat, s.heap.size ≤ q → lwA s q := fun _ h => h
  refine lv_aload_n hx hb dL_law_380 rfl (lv_at hl 1 rfl) ?_
  refine kl_rd (k := 1) hx hb hX hbl hS (lv_at hl 0 rfl) (lv_at hl 4 rfl) rfl (hin 1 (by decide)) q1 dL_law_381 dL_law_382 dL_law_384 dL_law_385 dL_law_386 ?_
  refine kl_rd (k := 2) hx hb hX hbl hS (lv_at hl 0 rfl) (lv_at hl 4 rfl) rfl (hin 2 (by decide)) q2 dL_law_387 dL_law_388 dL_law_390 dL_law_391 dL_law_392 ?_
  refine lv_aload_n hx hb dL_law_393 rfl (lv_at hl 3 rfl) ?_
  by_cases hcd : cdPin p1 p2 = 0
  · refine kcL_i (n := 4) (X := wM cy m0 m1 m2 m3 m4 m5 m6 m7 m8 m9 m10 m11 m12 m13 m14 m15 m16 m17 th dy sd n fd ed lm fs ss dd pins ag en cm kc sb iss fst len off ren wsn) (wc := wH cy h pn a0 a1 a2 a3 a4 a5 a6 a7 a8 b0 b1 b2 b3 b4 b5 b6 b7 fs ss fd ed lm dd ce cw n iss sb fst len off ren que kc pins sd dy ++ kout cy o f) (Y := []) (As := [.ref h, .int p1, .int p2, .ref o]) (rest := []) ⟨hx, hb, hml, hown, hts⟩ hE hA hZ (by rw [List.append_nil]; exact hP) (by rw [List.append_nil]; exact hD) hS (c_L_pin l D cy hfl h pn a0 a1 a2 a3 a4 a5 a6 a7 a8 b0 b1 b2 b3 b4 b5 b6 b7 fs ss fd ed lm dd ce cw n iss sb fst len off ren que kc pins sd dy p1 p2  hcd o f) (Eq.trans (b := [h, a0, a1, a2, a3, a4, a5, a6, a7, a8, b0, b1, b2, b3, b4, b5, b6, b7, pn, o]) rfl rfl) gL_law_L_pin rfl rfl rfl ⟨by decide, by decide, by decide +kernel⟩ ⟨Nat.le_of_ble_eq_true rfl, Nat.le_of_ble_eq_true rfl⟩ rfl hl.1 rfl (Nat.le_of_ble_eq_true rfl) dL_law_394 hf (fun r H locs hr hP hD hS => ?_)
    rw [List.append_nil] at hP hD
    have hf1 : cells + 1 ≤ 1078 ∧ slots + 6 ≤ 9341 := hf
    replace hr : r = 0 := hr
    subst hr
    refine lv_istore (lv' := [(5, .int 0), (0, .ref b), (1, .ref h), (2, .ref m0), (3, .ref o), (4, .int x)]) hx hb dL_law_397 hl (by decide) rfl (fun ls hl => ?_)
    refine lv_aload_n hx hb dL_law_399 rfl (lv_at hl 3 rfl) ?_
    refine kl_rd (k := 1) hx hb hX hbl hS (lv_at hl 1 rfl) (lv_at hl 5 rfl) rfl (hin 1 (by decide)) q1 dL_law_400 dL_law_401 dL_law_403 dL_law_404 dL_law_405 ?_
    refine kl_rd (k := 2) hx hb hX hbl hS (lv_at hl 1 rfl) (lv_at hl 5 rfl) rfl (hin 2 (by decide)) q2 dL_law_406 dL_law_407 dL_law_409 dL_law_410 dL_law_411 ?_
    have hcq : cdPinM p1 p2 = cdPin p1 p2 := cd_pin
    have hI2 : LInv n kc fs ss ed lm ce cw iss sb len := hI
    refine kcV_i (n := 2) (X := []) (wc := wM cy m0 m1 m2 m3 m4 m5 m6 m7 m8 m9 m10 m11 m12 m13 m14 m15 m16 m17 th dy sd n fd ed lm fs ss dd pins ag en cm kc sb iss fst len off ren wsn) (Y := wH cy h pn a0 a1 a2 a3 a4 a5 a6 a7 a8 b0 b1 b2 b3 b4 b5 b6 b7 fs ss fd ed lm dd ce cw n iss sb fst len off ren que kc (upd pins (ix p1) p2) sd dy ++ kout cy o (vp_updL f 0 (pins (ix p1)).toInt64)) (As := [.int p1, .int p2]) (rest := []) ⟨hx, hb, hml, hown, hts⟩ hE hA hP hD hS (c_X3_pin l D cy m0 m1 m2 m3 m4 m5 m6 m7 m8 m9 m10 m11 m12 m13 m14 m15 m16 m17 th dy sd n fd ed lm fs ss dd pins ag en cm kc sb iss fst len off ren wsn p1 p2 (hcq.trans hcd)) (fun _ => Eq.trans (b := [m0, m1, m2, m3, m4, m5, m6, m7, m8, m9, m10, m11, m12, m13, m14, m15, m16, m17]) rfl rfl) (q0 := 0) (ci := 3) rfl rfl gL_law_X3_pin rfl rfl rfl ⟨rfl, by decide, by decide, by decide +kernel⟩ ⟨Nat.le_of_ble_eq_true rfl, Nat.le_of_ble_eq_true rfl⟩ rfl hl.1 rfl (Nat.le_of_ble_eq_true rfl) dL_law_412 hf1 (fun r2 u H locs hr2 hP hD hS => ?_)
    rw [List.nil_append] at hP hD
    refine lv_istore (lv' := [(6, .int r2), (5, .int 0), (0, .ref b), (1, .ref h), (2, .ref m0), (3, .ref o), (4, .int x)]) hx hb dL_law_415 hl (by decide) rfl (fun ls hl => ?_)
    refine lv_aload_n hx hb dL_law_417 rfl (lv_at hl 4 rfl) ?_
    refine kcV_i (n := 0) (X := []) (wc := wM cy m0 m1 m2 m3 m4 m5 m6 m7 m8 m9 m10 m11 m12 m13 m14 m15 m16 m17 0 dy sd n fd ed lm fs ss dd (upd pins (ix p1) p2) ag en cm kc sb iss fst len off ren wsn) (Y := wH cy h pn a0 a1 a2 a3 a4 a5 a6 a7 a8 b0 b1 b2 b3 b4 b5 b6 b7 fs ss fd ed lm dd ce cw n iss sb fst len off ren que kc (upd pins (ix p1) p2) sd dy ++ kout cy o (vp_updL f 0 (pins (ix p1)).toInt64)) (As := []) (rest := []) ⟨hx, hb, hml, hown, hts⟩ hE hA hP hD hS (c_X3_thrown l D cy m0 m1 m2 m3 m4 m5 m6 m7 m8 m9 m10 m11 m12 m13 m14 m15 m16 m17 0 dy sd n fd ed lm fs ss dd (upd pins (ix p1) p2) ag en cm kc sb iss fst len off ren wsn) (fun _ => Eq.trans (b := [m0, m1, m2, m3, m4, m5, m6, m7, m8, m9, m10, m11, m12, m13, m14, m15, m16, m17]) rfl rfl) (q0 := 0) (ci := 3) rfl rfl gL_law_X3_thrown rfl rfl rfl ⟨rfl, by decide, by decide, by decide +kernel⟩ ⟨Nat.le_of_ble_eq_true rfl, Nat.le_of_ble_eq_true rfl⟩ rfl hl.1 rfl (Nat.le_of_ble_eq_true rfl) dL_law_418 hf1 (fun r3 u3 H locs hr3 hP hD hS => ?_)
    rw [List.nil_append] at hP hD
    replace hr3 : r3 = 0 := hr3
    subst hr3
    refine lv_iload hx hb dL_law_421 (lv_at hl 1 rfl) ?_
    refine lv_icmp_eq (tgt := 428) hx hb dL_law_423 (by decide) (fun _ => ?_) (fun q => absurd rfl q)
    refine lv_iload hx hb dL_law_428 (lv_at hl 1 rfl) ?_
    refine lv_if_ne (tgt := 445) hx hb dL_law_430 (by decide) (fun q => absurd rfl q) (fun _ => ?_)
    have hval : pins (ix p1) = pins (ix p1) := rfl
    replace hr2 : r2 = pins (ix p1) := hr2.trans hval
    refine lv_aload_n hx hb dL_law_433 rfl (lv_at hl 5 rfl) ?_
    refine lv_iconst (v := 0) hx hb dL_law_434 (by decide) ?_
    refine va_lald (i := 0) (f := vp_updL f 0 (pins (ix p1)).toInt64) hx hb hE.1 hP 37 2 (a := o) rfl rfl k_in0 dL_law_435 ?_
    rw [updL_0]
    refine lv_iload hx hb dL_law_436 (lv_at hl 0 rfl) ?_
    refine lv_i2l (v := r2.toInt64) hx hb dL_law_438 rfl ?_
    refine W.lcmp hx hb dL_law_439 ?_
    refine lv_if_eq (tgt := 445) hx hb dL_law_440 (by decide) (fun _ => ?_) (fun q => absurd ((lg_cmp_eq _ _).mpr (by rw [hr2])) q)
    refine lv_goto (tgt := 1505) hx hb dL_law_445 (by decide) ?_
    exact hkk fs ss fd ed lm dd ce cw n iss sb fst len off ren que kc (upd pins (ix p1) p2) sd dy 0 ag en cm wsn (vp_updL f 0 (pins (ix p1)).toInt64) H locs ls hI2 hP hD hS (lv_sub hl [2, 3, 4, 5, 6] rfl)
  · refine kcL_i (n := 4) (X := wM cy m0 m1 m2 m3 m4 m5 m6 m7 m8 m9 m10 m11 m12 m13 m14 m15 m16 m17 th dy sd n fd ed lm fs ss dd pins ag en cm kc sb iss fst len off ren wsn) (wc := wH cy h pn a0 a1 a2 a3 a4 a5 a6 a7 a8 b0 b1 b2 b3 b4 b5 b6 b7 fs ss fd ed lm dd ce cw n iss sb fst len off ren que kc pins sd dy ++ kout cy o f) (Y := []) (As := [.ref h, .int p1, .int p2, .ref o]) (rest := []) ⟨hx, hb, hml, hown, hts⟩ hE hA hZ (by rw [List.append_nil]; exact hP) (by rw [List.append_nil]; exact hD) hS (c_L_pin_f l D cy hfl h pn a0 a1 a2 a3 a4 a5 a6 a7 a8 b0 b1 b2 b3 b4 b5 b6 b7 fs ss fd ed lm dd ce cw n iss sb fst len off ren que kc pins sd dy p1 p2  hcd o f) (Eq.trans (b := [h, a0, a1, a2, a3, a4, a5, a6, a7, a8, b0, b1, b2, b3, b4, b5, b6, b7, pn, o]) rfl rfl) gL_law_L_pin rfl rfl rfl ⟨by decide, by decide, by decide +kernel⟩ ⟨Nat.le_of_ble_eq_true rfl, Nat.le_of_ble_eq_true rfl⟩ rfl hl.1 rfl (Nat.le_of_ble_eq_true rfl) dL_law_394 hf (fun r H locs hr hP hD hS => ?_)
    rw [List.append_nil] at hP hD
    have hf1 : cells + 1 ≤ 1078 ∧ slots + 6 ≤ 9341 := hf
    replace hr : r = cdPin p1 p2 := hr
    refine lv_istore (lv' := [(5, .int r), (0, .ref b), (1, .ref h), (2, .ref m0), (3, .ref o), (4, .int x)]) hx hb dL_law_397 hl (by decide) rfl (fun ls hl => ?_)
    refine lv_aload_n hx hb dL_law_399 rfl (lv_at hl 3 rfl) ?_
    refine kl_rd (k := 1) hx hb hX hbl hS (lv_at hl 1 rfl) (lv_at hl 5 rfl) rfl (hin 1 (by decide)) q1 dL_law_400 dL_law_401 dL_law_403 dL_law_404 dL_law_405 ?_
    refine kl_rd (k := 2) hx hb hX hbl hS (lv_at hl 1 rfl) (lv_at hl 5 rfl) rfl (hin 2 (by decide)) q2 dL_law_406 dL_law_407 dL_law_409 dL_law_410 dL_law_411 ?_
    have hcq : cdPinM p1 p2 = cdPin p1 p2 := cd_pin
    refine kcV_i (n := 2) (X := []) (wc := wM cy m0 m1 m2 m3 m4 m5 m6 m7 m8 m9 m10 m11 m12 m13 m14 m15 m16 m17 th dy sd n fd ed lm fs ss dd pins ag en cm kc sb iss fst len off ren wsn) (Y := wH cy h pn a0 a1 a2 a3 a4 a5 a6 a7 a8 b0 b1 b2 b3 b4 b5 b6 b7 fs ss fd ed lm dd ce cw n iss sb fst len off ren que kc pins sd dy ++ kout cy o f) (As := [.int p1, .int p2]) (rest := []) ⟨hx, hb, hml, hown, hts⟩ hE hA hP hD hS (c_X3_pin_f l D cy m0 m1 m2 m3 m4 m5 m6 m7 m8 m9 m10 m11 m12 m13 m14 m15 m16 m17 th dy sd n fd ed lm fs ss dd pins ag en cm kc sb iss fst len off ren wsn p1 p2 (fun q => hcd (hcq.symm.trans q))) (fun _ => Eq.trans (b := [m0, m1, m2, m3, m4, m5, m6, m7, m8, m9, m10, m11, m12, m13, m14, m15, m16, m17]) rfl rfl) (q0 := 0) (ci := 3) rfl rfl gL_law_X3_pin rfl rfl rfl ⟨rfl, by decide, by decide, by decide +kernel⟩ ⟨Nat.le_of_ble_eq_true rfl, Nat.le_of_ble_eq_true rfl⟩ rfl hl.1 rfl (Nat.le_of_ble_eq_true rfl) dL_law_412 hf1 (fun r2 u H locs hr2 hP hD hS => ?_)
    rw [List.nil_append] at hP hD
    refine lv_istore (lv' := [(6, .int r2), (5, .int r), (0, .ref b), (1, .ref h), (2, .ref m0), (3, .ref o), (4, .int x)]) hx hb dL_law_415 hl (by decide) rfl (fun ls hl => ?_)
    refine lv_aload_n hx hb dL_law_417 rfl (lv_at hl 4 rfl) ?_
    refine kcV_i (n := 0) (X := []) (wc := wM cy m0 m1 m2 m3 m4 m5 m6 m7 m8 m9 m10 m11 m12 m13 m14 m15 m16 m17 (cdPinM p1 p2) dy sd n fd ed lm fs ss dd pins ag en cm kc sb iss fst len off ren wsn) (Y := wH cy h pn a0 a1 a2 a3 a4 a5 a6 a7 a8 b0 b1 b2 b3 b4 b5 b6 b7 fs ss fd ed lm dd ce cw n iss sb fst len off ren que kc pins sd dy ++ kout cy o f) (As := []) (rest := []) ⟨hx, hb, hml, hown, hts⟩ hE hA hP hD hS (c_X3_thrown l D cy m0 m1 m2 m3 m4 m5 m6 m7 m8 m9 m10 m11 m12 m13 m14 m15 m16 m17 (cdPinM p1 p2) dy sd n fd ed lm fs ss dd pins ag en cm kc sb iss fst len off ren wsn) (fun _ => Eq.trans (b := [m0, m1, m2, m3, m4, m5, m6, m7, m8, m9, m10, m11, m12, m13, m14, m15, m16, m17]) rfl rfl) (q0 := 0) (ci := 3) rfl rfl gL_law_X3_thrown rfl rfl rfl ⟨rfl, by decide, by decide, by decide +kernel⟩ ⟨Nat.le_of_ble_eq_true rfl, Nat.le_of_ble_eq_true rfl⟩ rfl hl.1 rfl (Nat.le_of_ble_eq_true rfl) dL_law_418 hf1 (fun r3 u3 H locs hr3 hP hD hS => ?_)
    rw [List.nil_append] at hP hD
    replace hr3 : r3 = cdPinM p1 p2 := hr3
    refine lv_iload hx hb dL_law_421 (lv_at hl 1 rfl) ?_
    refine lv_icmp_eq (tgt := 428) hx hb dL_law_423 (by decide) (fun _ => ?_) (fun q => absurd (hr3.trans (hcq.trans hr.symm)) q)
    refine lv_iload hx hb dL_law_428 (lv_at hl 1 rfl) ?_
    refine lv_if_ne (tgt := 445) hx hb dL_law_430 (by decide) (fun _ => ?_) (fun q => absurd (hr.symm.trans q) hcd)
    refine lv_goto (tgt := 1505) hx hb dL_law_445 (by decide) ?_
    exact hkk fs ss fd ed lm dd ce cw n iss sb fst len off ren que kc pins sd dy (cdPinM p1 p2) ag en cm wsn f H locs ls hI hP hD hS (lv_sub hl [2, 3, 4, 5, 6] rfl)
