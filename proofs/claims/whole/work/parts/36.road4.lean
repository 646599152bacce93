/-! The law, call by call, on. -/
set_option maxHeartbeats 4000000 in
set_option maxRecDepth 100000 in
theorem rd_isGood {p : Program} {l : Launch} {e : Env} {s : State} {m : MethodId} {below : List Frame} {meth : Method} {c : Code} {H : Heap} {locs : List Loc} {cells slots : Nat} {Q : State → Prop} {ls : Array Slot} {D : va_G} {cy : ClassId × ClassId × ClassId} {b L : Nat} {xs : Nat → Int32} (h pn a0 a1 a2 a3 a4 a5 a6 a7 a8 b0 b1 b2 b3 b4 b5 b6 b7 m0 m1 m2 m3 m4 m5 m6 m7 m8 m9 m10 m11 m12 m13 m14 m15 m16 m17 o : Nat) (fs ss fd ed lm dd ce cw : Nat → Int32) (n : Nat) (iss sb fst len off ren que : Nat → Int32) (kc : Nat) (pins : Nat → Int32) (sd dy th : Int32) (ag en cm wsn : Nat → Int32) (f : Nat → Int64) {x p1 p2 : Int32} (C : LC p l s m c D cy b L xs) (hI : LInv n kc fs ss ed lm ce cw iss sb len) (hin : ∀ k, k < 5 → vp_in (x + nI k) L) (q1 : xs (x + nI 1).toNatClampNeg = p1) (q2 : xs (x + nI 2).toNatClampNeg = p2) (hf : cells + 1 ≤ 1078 ∧ slots + 6 ≤ 9341) (hP : va_P D vwCl (wWL cy h pn a0 a1 a2 a3 a4 a5 a6 a7 a8 b0 b1 b2 b3 b4 b5 b6 b7 m0 m1 m2 m3 m4 m5 m6 m7 m8 m9 m10 m11 m12 m13 m14 m15 m16 m17 o fs ss fd ed lm dd ce cw n iss sb fst len off ren que kc pins sd dy th ag en cm wsn f) H) (hD : va_D (lwA s) (wWL cy h pn a0 a1 a2 a3 a4 a5 a6 a7 a8 b0 b1 b2 b3 b4 b5 b6 b7 m0 m1 m2 m3 m4 m5 m6 m7 m8 m9 m10 m11 m12 m13 m14 m15 m16 m17 o fs ss fd ed lm dd ce cw n iss sb fst len off ren que kc pins sd dy th ag en cm wsn f)) (hS : va_S (lwA s) s.heap H locs) (hl : lv_has ls 7 [(0, .ref b), (1, .ref h), (2, .ref m0), (3, .ref o), (4, .int x)]) (hkk : LK p l e s m below meth c Q D cy b x h pn a0 a1 a2 a3 a4 a5 a6 a7 a8 b0 b1 b2 b3 b4 b5 b6 b7 m0 m1 m2 m3 m4 m5 m6 m7 m8 m9 m10 m11 m12 m13 m14 m15 m16 m17 o (cells + 1) (slots + 6)) : W p l e room_1 s m #[Value.ref b] below meth c H locs cells slots Q (F0 m 995 ls []) := by
  obtain ⟨hx, hb, hml, hown, hts, hX, hbl, hE, hZ, hfl⟩ := C
  obtain ⟨hn, hk, hfs, hss, hro, hlm, hok, hsb, hce, hcw⟩ := id hI
  have hA : ∀ q : Nat, s.heap.size ≤ q → lwA s q := fun _ h => h
  refine lv_aload_n hx hb dL_law_995 rfl (lv_at hl 1 rfl) ?_
  refine kl_rd (k := 1) hx hb hX hbl hS (lv_at hl 0 rfl) (lv_at hl 4 rfl) rfl (hin 1 (by decide)) q1 dL_law_996 dL_law_997 dL_law_999 dL_law_1000 dL_law_1001 ?_
  refine kl_rd (k := 2) hx hb hX hbl hS (lv_at hl 0 rfl) (lv_at hl 4 rfl) rfl (hin 2 (by decide)) q2 dL_law_1002 dL_law_1003 dL_law_1005 dL_law_1006 dL_law_1007 ?_
  refine lv_aload_n hx hb dL_law_1008 rfl (lv_at hl 3 rfl) ?_
  by_cases hcd : cdID n p1 p2 = 0
  · refine kcL_i (n := 4) (X := wM cy m0 m1 m2 m3 m4 m5 m6 m7 m8 m9 m10 m11 m12 m13 m14 m15 m16 m17 th dy sd n fd ed lm fs ss dd pins ag en cm kc sb iss fst len off ren wsn) (wc := wH cy h pn a0 a1 a2 a3 a4 a5 a6 a7 a8 b0 b1 b2 b3 b4 b5 b6 b7 fs ss fd ed lm dd ce cw n iss sb fst len off ren que kc pins sd dy ++ kout cy o f) (Y := []) (As := [.ref h, .int p1, .int p2, .ref o]) (rest := []) ⟨hx, hb, hml, hown, hts⟩ hE hA hZ (by rw [List.append_nil]; exact hP) (by rw [List.append_nil]; exact hD) hS (c_L_isGood l D cy hfl h pn a0 a1 a2 a3 a4 a5 a6 a7 a8 b0 b1 b2 b3 b4 b5 b6 b7 fs ss fd ed lm dd ce cw n iss sb fst len off ren que kc pins sd dy p1 p2 hn hcd o f) (Eq.trans (b := [h, a0, a1, a2, a3, a4, a5, a6, a7, a8, b0, b1, b2, b3, b4, b5, b6, b7, pn, o]) rfl rfl) gL_law_L_isGood rfl rfl rfl ⟨by decide, by decide, by decide +kernel⟩ ⟨Nat.le_of_ble_eq_true rfl, Nat.le_of_ble_eq_true rfl⟩ rfl hl.1 rfl (Nat.le_of_ble_eq_true rfl) dL_law_1009 hf (fun r H locs hr hP hD hS => ?_)
    rw [List.append_nil] at hP hD
    have hf1 : cells + 1 ≤ 1078 ∧ slots + 6 ≤ 9341 := hf
    replace hr : r = 0 := hr
    subst hr
    refine lv_istore (lv' := [(5, .int 0), (0, .ref b), (1, .ref h), (2, .ref m0), (3, .ref o), (4, .int x)]) hx hb dL_law_1012 hl (by decide) rfl (fun ls hl => ?_)
    refine lv_aload_n hx hb dL_law_1014 rfl (lv_at hl 3 rfl) ?_
    refine kl_rd (k := 1) hx hb hX hbl hS (lv_at hl 1 rfl) (lv_at hl 5 rfl) rfl (hin 1 (by decide)) q1 dL_law_1015 dL_law_1016 dL_law_1018 dL_law_1019 dL_law_1020 ?_
    refine kl_rd (k := 2) hx hb hX hbl hS (lv_at hl 1 rfl) (lv_at hl 5 rfl) rfl (hin 2 (by decide)) q2 dL_law_1021 dL_law_1022 dL_law_1024 dL_law_1025 dL_law_1026 ?_
    have hcq : cdID n p1 p2 = cdID n p1 p2 := rfl
    have hI2 : LInv n kc fs ss ed lm ce cw iss sb len := hI
    refine kcV_i (n := 2) (X := []) (wc := wM cy m0 m1 m2 m3 m4 m5 m6 m7 m8 m9 m10 m11 m12 m13 m14 m15 m16 m17 th dy sd n fd ed lm fs ss dd pins ag en cm kc sb iss fst len off ren wsn) (Y := wH cy h pn a0 a1 a2 a3 a4 a5 a6 a7 a8 b0 b1 b2 b3 b4 b5 b6 b7 fs ss fd ed lm dd ce cw n iss sb fst len off ren que kc pins sd dy ++ kout cy o (vp_updL f 0 (bI (hasB (goodM fs ss fd ed dd p2 (-1) n) p1)).toInt64)) (As := [.int p1, .int p2]) (rest := []) ⟨hx, hb, hml, hown, hts⟩ hE hA hP hD hS (c_X3_isGood l D cy m0 m1 m2 m3 m4 m5 m6 m7 m8 m9 m10 m11 m12 m13 m14 m15 m16 m17 th dy sd n fd ed lm fs ss dd pins ag en cm kc sb iss fst len off ren wsn p1 p2 hn hfs hss (hcq.trans hcd)) (fun _ => Eq.trans (b := [m0, m1, m2, m3, m4, m5, m6, m7, m8, m9, m10, m11, m12, m13, m14, m15, m16, m17]) rfl rfl) (q0 := 0) (ci := 3) rfl rfl gL_law_X3_isGood rfl rfl rfl ⟨rfl, by decide, by decide, by decide +kernel⟩ ⟨Nat.le_of_ble_eq_true rfl, Nat.le_of_ble_eq_true rfl⟩ rfl hl.1 rfl (Nat.le_of_ble_eq_true rfl) dL_law_1027 hf1 (fun r2 u H locs hr2 hP hD hS => ?_)
    rw [List.nil_append] at hP hD
    refine lv_istore (lv' := [(6, .int r2), (5, .int 0), (0, .ref b), (1, .ref h), (2, .ref m0), (3, .ref o), (4, .int x)]) hx hb dL_law_1030 hl (by decide) rfl (fun ls hl => ?_)
    refine lv_aload_n hx hb dL_law_1032 rfl (lv_at hl 4 rfl) ?_
    refine kcV_i (n := 0) (X := []) (wc := wM cy m0 m1 m2 m3 m4 m5 m6 m7 m8 m9 m10 m11 m12 m13 m14 m15 m16 m17 0 dy sd n fd ed lm fs ss dd pins u en cm kc sb iss fst len off ren wsn) (Y := wH cy h pn a0 a1 a2 a3 a4 a5 a6 a7 a8 b0 b1 b2 b3 b4 b5 b6 b7 fs ss fd ed lm dd ce cw n iss sb fst len off ren que kc pins sd dy ++ kout cy o (vp_updL f 0 (bI (hasB (goodM fs ss fd ed dd p2 (-1) n) p1)).toInt64)) (As := []) (rest := []) ⟨hx, hb, hml, hown, hts⟩ hE hA hP hD hS (c_X3_thrown l D cy m0 m1 m2 m3 m4 m5 m6 m7 m8 m9 m10 m11 m12 m13 m14 m15 m16 m17 0 dy sd n fd ed lm fs ss dd pins u en cm kc sb iss fst len off ren wsn) (fun _ => Eq.trans (b := [m0, m1, m2, m3, m4, m5, m6, m7, m8, m9, m10, m11, m12, m13, m14, m15, m16, m17]) rfl rfl) (q0 := 0) (ci := 3) rfl rfl gL_law_X3_thrown rfl rfl rfl ⟨rfl, by decide, by decide, by decide +kernel⟩ ⟨Nat.le_of_ble_eq_true rfl, Nat.le_of_ble_eq_true rfl⟩ rfl hl.1 rfl (Nat.le_of_ble_eq_true rfl) dL_law_1033 hf1 (fun r3 u3 H locs hr3 hP hD hS => ?_)
    rw [List.nil_append] at hP hD
    replace hr3 : r3 = 0 := hr3
    subst hr3
    refine lv_iload hx hb dL_law_1036 (lv_at hl 1 rfl) ?_
    refine lv_icmp_eq (tgt := 1043) hx hb dL_law_1038 (by decide) (fun _ => ?_) (fun q => absurd rfl q)
    refine lv_iload hx hb dL_law_1043 (lv_at hl 1 rfl) ?_
    refine lv_if_ne (tgt := 1067) hx hb dL_law_1045 (by decide) (fun q => absurd rfl q) (fun _ => ?_)
    have hval : bI (gd fs ss fd ed dd p2 (-1) (ix p1) = true) = bI (hasB (goodM fs ss fd ed dd p2 (-1) n) p1) := bI_cong (gd_good hn hfs hss (cdID_ok hcd).1)
    replace hr2 : r2 = bI (hasB (goodM fs ss fd ed dd p2 (-1) n) p1) := hr2.trans hval
    refine lv_aload_n hx hb dL_law_1048 rfl (lv_at hl 5 rfl) ?_
    refine lv_iconst (v := 0) hx hb dL_law_1049 (by decide) ?_
    refine va_lald (i := 0) (f := vp_updL f 0 (bI (hasB (goodM fs ss fd ed dd p2 (-1) n) p1)).toInt64) hx hb hE.1 hP 37 2 (a := o) rfl rfl k_in0 dL_law_1050 ?_
    rw [updL_0]
    refine lv_iload hx hb dL_law_1051 (lv_at hl 0 rfl) ?_
    refine lv_if_eq (tgt := 1060) hx hb dL_law_1053 (by decide) (fun hz => ?_) (fun hz => ?_)
    · refine lv_lconst (v := 0) hx hb dL_law_1060 rfl ?_
      refine W.lcmp hx hb dL_law_1061 ?_
      refine lv_if_eq (tgt := 1067) hx hb dL_law_1062 (by decide) (fun _ => ?_) (fun q => absurd ((lg_cmp_eq _ _).mpr (by rw [← hr2, hz]; rfl)) q)
      refine lv_goto (tgt := 1505) hx hb dL_law_1067 (by decide) ?_
      exact hkk fs ss fd ed lm dd ce cw n iss sb fst len off ren que kc pins sd dy 0 u en cm wsn (vp_updL f 0 (bI (hasB (goodM fs ss fd ed dd p2 (-1) n) p1)).toInt64) H locs ls hI2 hP hD hS (lv_sub hl [2, 3, 4, 5, 6] rfl)
    · refine lv_lconst (v := 1) hx hb dL_law_1056 rfl ?_
      refine lv_goto (tgt := 1061) hx hb dL_law_1057 (by decide) ?_
      refine W.lcmp hx hb dL_law_1061 ?_
      refine lv_if_eq (tgt := 1067) hx hb dL_law_1062 (by decide) (fun _ => ?_) (fun q => absurd ((lg_cmp_eq _ _).mpr (by have h9 := (bI_01 _).resolve_left (fun z => hz (hr2.trans z)); rw [h9]; rfl)) q)
      refine lv_goto (tgt := 1505) hx hb dL_law_1067 (by decide) ?_
      exact hkk fs ss fd ed lm dd ce cw n iss sb fst len off ren que kc pins sd dy 0 u en cm wsn (vp_updL f 0 (bI (hasB (goodM fs ss fd ed dd p2 (-1) n) p1)).toInt64) H locs ls hI2 hP hD hS (lv_sub hl [2, 3, 4, 5, 6] rfl)
  · refine kcL_i (n := 4) (X := wM cy m0 m1 m2 m3 m4 m5 m6 m7 m8 m9 m10 m11 m12 m13 m14 m15 m16 m17 th dy sd n fd ed lm fs ss dd pins ag en cm kc sb iss fst len off ren wsn) (wc := wH cy h pn a0 a1 a2 a3 a4 a5 a6 a7 a8 b0 b1 b2 b3 b4 b5 b6 b7 fs ss fd ed lm dd ce cw n iss sb fst len off ren que kc pins sd dy ++ kout cy o f) (Y := []) (As := [.ref h, .int p1, .int p2, .ref o]) (rest := []) ⟨hx, hb, hml, hown, hts⟩ hE hA hZ (by rw [List.append_nil]; exact hP) (by rw [List.append_nil]; exact hD) hS (c_L_isGood_f l D cy hfl h pn a0 a1 a2 a3 a4 a5 a6 a7 a8 b0 b1 b2 b3 b4 b5 b6 b7 fs ss fd ed lm dd ce cw n iss sb fst len off ren que kc pins sd dy p1 p2 hn hcd o f) (Eq.trans (b := [h, a0, a1, a2, a3, a4, a5, a6, a7, a8, b0, b1, b2, b3, b4, b5, b6, b7, pn, o]) rfl rfl) gL_law_L_isGood rfl rfl rfl ⟨by decide, by decide, by decide +kernel⟩ ⟨Nat.le_of_ble_eq_true rfl, Nat.le_of_ble_eq_true rfl⟩ rfl hl.1 rfl (Nat.le_of_ble_eq_true rfl) dL_law_1009 hf (fun r H locs hr hP hD hS => ?_)
    rw [List.append_nil] at hP hD
    have hf1 : cells + 1 ≤ 1078 ∧ slots + 6 ≤ 9341 := hf
    replace hr : r = cdID n p1 p2 := hr
    refine lv_istore (lv' := [(5, .int r), (0, .ref b), (1, .ref h), (2, .ref m0), (3, .ref o), (4, .int x)]) hx hb dL_law_1012 hl (by decide) rfl (fun ls hl => ?_)
    refine lv_aload_n hx hb dL_law_1014 rfl (lv_at hl 3 rfl) ?_
    refine kl_rd (k := 1) hx hb hX hbl hS (lv_at hl 1 rfl) (lv_at hl 5 rfl) rfl (hin 1 (by decide)) q1 dL_law_1015 dL_law_1016 dL_law_1018 dL_law_1019 dL_law_1020 ?_
    refine kl_rd (k := 2) hx hb hX hbl hS (lv_at hl 1 rfl) (lv_at hl 5 rfl) rfl (hin 2 (by decide)) q2 dL_law_1021 dL_law_1022 dL_law_1024 dL_law_1025 dL_law_1026 ?_
    have hcq : cdID n p1 p2 = cdID n p1 p2 := rfl
    refine kcV_i (n := 2) (X := []) (wc := wM cy m0 m1 m2 m3 m4 m5 m6 m7 m8 m9 m10 m11 m12 m13 m14 m15 m16 m17 th dy sd n fd ed lm fs ss dd pins ag en cm kc sb iss fst len off ren wsn) (Y := wH cy h pn a0 a1 a2 a3 a4 a5 a6 a7 a8 b0 b1 b2 b3 b4 b5 b6 b7 fs ss fd ed lm dd ce cw n iss sb fst len off ren que kc pins sd dy ++ kout cy o f) (As := [.int p1, .int p2]) (rest := []) ⟨hx, hb, hml, hown, hts⟩ hE hA hP hD hS (c_X3_isGood_f l D cy m0 m1 m2 m3 m4 m5 m6 m7 m8 m9 m10 m11 m12 m13 m14 m15 m16 m17 th dy sd n fd ed lm fs ss dd pins ag en cm kc sb iss fst len off ren wsn p1 p2 hn hfs hss (fun q => hcd (hcq.symm.trans q))) (fun _ => Eq.trans (b := [m0, m1, m2, m3, m4, m5, m6, m7, m8, m9, m10, m11, m12, m13, m14, m15, m16, m17]) rfl rfl) (q0 := 0) (ci := 3) rfl rfl gL_law_X3_isGood rfl rfl rfl ⟨rfl, by decide, by decide, by decide +kernel⟩ ⟨Nat.le_of_ble_eq_true rfl, Nat.le_of_ble_eq_true rfl⟩ rfl hl.1 rfl (Nat.le_of_ble_eq_true rfl) dL_law_1027 hf1 (fun r2 u H locs hr2 hP hD hS => ?_)
    rw [List.nil_append] at hP hD
    refine lv_istore (lv' := [(6, .int r2), (5, .int r), (0, .ref b), (1, .ref h), (2, .ref m0), (3, .ref o), (4, .int x)]) hx hb dL_law_1030 hl (by decide) rfl (fun ls hl => ?_)
    refine lv_aload_n hx hb dL_law_1032 rfl (lv_at hl 4 rfl) ?_
    refine kcV_i (n := 0) (X := []) (wc := wM cy m0 m1 m2 m3 m4 m5 m6 m7 m8 m9 m10 m11 m12 m13 m14 m15 m16 m17 (cdID n p1 p2) dy sd n fd ed lm fs ss dd pins u en cm kc sb iss fst len off ren wsn) (Y := wH cy h pn a0 a1 a2 a3 a4 a5 a6 a7 a8 b0 b1 b2 b3 b4 b5 b6 b7 fs ss fd ed lm dd ce cw n iss sb fst len off ren que kc pins sd dy ++ kout cy o f) (As := []) (rest := []) ⟨hx, hb, hml, hown, hts⟩ hE hA hP hD hS (c_X3_thrown l D cy m0 m1 m2 m3 m4 m5 m6 m7 m8 m9 m10 m11 m12 m13 m14 m15 m16 m17 (cdID n p1 p2) dy sd n fd ed lm fs ss dd pins u en cm kc sb iss fst len off ren wsn) (fun _ => Eq.trans (b := [m0, m1, m2, m3, m4, m5, m6, m7, m8, m9, m10, m11, m12, m13, m14, m15, m16, m17]) rfl rfl) (q0 := 0) (ci := 3) rfl rfl gL_law_X3_thrown rfl rfl rfl ⟨rfl, by decide, by decide, by decide +kernel⟩ ⟨Nat.le_of_ble_eq_true rfl, Nat.le_of_ble_eq_true rfl⟩ rfl hl.1 rfl (Nat.le_of_ble_eq_true rfl) dL_law_1033 hf1 (fun r3 u3 H locs hr3 hP hD hS => ?_)
    rw [List.nil_append] at hP hD
    replace hr3 : r3 = cdID n p1 p2 := hr3
    refine lv_iload hx hb dL_law_1036 (lv_at hl 1 rfl) ?_
    refine lv_icmp_eq (tgt := 1043) hx hb dL_law_1038 (by decide) (fun _ => ?_) (fun q => absurd (hr3.trans (hcq.trans hr.symm)) q)
    refine lv_iload hx hb dL_law_1043 (lv_at hl 1 rfl) ?_
    refine lv_if_ne (tgt := 1067) hx hb dL_law_1045 (by decide) (fun _ => ?_) (fun q => absurd (hr.symm.trans q) hcd)
    refine lv_goto (tgt := 1505) hx hb dL_law_1067 (by decide) ?_
    exact hkk fs ss fd ed lm dd ce cw n iss sb fst len off ren que kc pins sd dy (cdID n p1 p2) u en cm wsn f H locs ls hI hP hD hS (lv_sub hl [2, 3, 4, 5, 6] rfl)
set_option maxHeartbeats 4000000 in
set_option maxRecDepth 100000 in
theorem rd_chainEnd {p : Program} {l : Launch} {e : Env} {s : State} {m : MethodId} {below : List Frame} {meth : Method} {c : Code} {H : Heap} {locs : List Loc} {cells slots : Nat} {Q : State → Prop} {ls : Array Slot} {D : va_G} {cy : ClassId × ClassId × ClassId} {b L : Nat} {xs : Nat → Int32} (h pn a0 a1 a2 a3 a4 a5 a6 a7 a8 b0 b1 b2 b3 b4 b5 b6 b7 m0 m1 m2 m3 m4 m5 m6 m7 m8 m9 m10 m11 m12 m13 m14 m15 m16 m17 o : Nat) (fs ss fd ed lm dd ce cw : Nat → Int32) (n : Nat) (iss sb fst len off ren que : Nat → Int32) (kc : Nat) (pins : Nat → Int32) (sd dy th : Int32) (ag en cm wsn : Nat → Int32) (f : Nat → Int64) {x p1 : Int32} (C : LC p l s m c D cy b L xs) (hI : LInv n kc fs ss ed lm ce cw iss sb len) (hin : ∀ k, k < 5 → vp_in (x + nI k) L) (q1 : xs (x + nI 1).toNatClampNeg = p1) (hf : cells + 1 ≤ 1078 ∧ slots + 6 ≤ 9341) (hP : va_P D vwCl (wWL cy h pn a0 a1 a2 a3 a4 a5 a6 a7 a8 b0 b1 b2 b3 b4 b5 b6 b7 m0 m1 m2 m3 m4 m5 m6 m7 m8 m9 m10 m11 m12 m13 m14 m15 m16 m17 o fs ss fd ed lm dd ce cw n iss sb fst len off ren que kc pins sd dy th ag en cm wsn f) H) (hD : va_D (lwA s) (wWL cy h pn a0 a1 a2 a3 a4 a5 a6 a7 a8 b0 b1 b2 b3 b4 b5 b6 b7 m0 m1 m2 m3 m4 m5 m6 m7 m8 m9 m10 m11 m12 m13 m14 m15 m16 m17 o fs ss fd ed lm dd ce cw n iss sb fst len off ren que kc pins sd dy th ag en cm wsn f)) (hS : va_S (lwA s) s.heap H locs) (hl : lv_has ls 7 [(0, .ref b), (1, .ref h), (2, .ref m0), (3, .ref o), (4, .int x)]) (hkk : LK p l e s m below meth c Q D cy b x h pn a0 a1 a2 a3 a4 a5 a6 a7 a8 b0 b1 b2 b3 b4 b5 b6 b7 m0 m1 m2 m3 m4 m5 m6 m7 m8 m9 m10 m11 m12 m13 m14 m15 m16 m17 o (cells + 1) (slots + 6)) : W p l e room_1 s m #[Value.ref b] below meth c H locs cells slots Q (F0 m 1070 ls []) := by
  obtain ⟨hx, hb, hml, hown, hts, hX, hbl, hE, hZ, hfl⟩ := C
  obtain ⟨hn, hk, hfs, hss, hro, hlm, hok, hsb, hce, hcw⟩ := id hI
  have hA : ∀ q : Nat, s.heap.size ≤ q → lwA s q := fun _ h => h
  refine lv_aload_n hx hb dL_law_1070 rfl (lv_at hl 1 rfl) ?_
  refine kl_rd (k := 1) hx hb hX hbl hS (lv_at hl 0 rfl) (lv_at hl 4 rfl) rfl (hin 1 (by decide)) q1 dL_law_1071 dL_law_1072 dL_law_1074 dL_law_1075 dL_law_1076 ?_
  refine lv_aload_n hx hb dL_law_1077 rfl (lv_at hl 3 rfl) ?_
  by_cases hcd : cdOne n p1 = 0
  · refine kcL_i (n := 3) (X := wM cy m0 m1 m2 m3 m4 m5 m6 m7 m8 m9 m10 m11 m12 m13 m14 m15 m16 m17 th dy sd n fd ed lm fs ss dd pins ag en cm kc sb iss fst len off ren wsn) (wc := wH cy h pn a0 a1 a2 a3 a4 a5 a6 a7 a8 b0 b1 b2 b3 b4 b5 b6 b7 fs ss fd ed lm dd ce cw n iss sb fst len off ren que kc pins sd dy ++ kout cy o f) (Y := []) (As := [.ref h, .int p1, .ref o]) (rest := []) ⟨hx, hb, hml, hown, hts⟩ hE hA hZ (by rw [List.append_nil]; exact hP) (by rw [List.append_nil]; exact hD) hS (c_L_chainEnd l D cy hfl h pn a0 a1 a2 a3 a4 a5 a6 a7 a8 b0 b1 b2 b3 b4 b5 b6 b7 fs ss fd ed lm dd ce cw n iss sb fst len off ren que kc pins sd dy p1 hn hcd o f) (Eq.trans (b := [h, a0, a1, a2, a3, a4, a5, a6, a7, a8, b0, b1, b2, b3, b4, b5, b6, b7, pn, o]) rfl rfl) gL_law_L_chainEnd rfl rfl rfl ⟨by decide, by decide, by decide +kernel⟩ ⟨Nat.le_of_ble_eq_true rfl, Nat.le_of_ble_eq_true rfl⟩ rfl hl.1 rfl (Nat.le_of_ble_eq_true rfl) dL_law_1078 hf (fun r H locs hr hP hD hS => ?_)
    rw [List.append_nil] at hP hD
    have hf1 : cells + 1 ≤ 1078 ∧ slots + 6 ≤ 9341 := hf
    replace hr : r = 0 := hr
    subst hr
    refine lv_istore (lv' := [(5, .int 0), (0, .ref b), (1, .ref h), (2, .ref m0), (3, .ref o), (4, .int x)]) hx hb dL_law_1081 hl (by decide) rfl (fun ls hl => ?_)
    refine lv_aload_n hx hb dL_law_1083 rfl (lv_at hl 3 rfl) ?_
    refine kl_rd (k := 1) hx hb hX hbl hS (lv_at hl 1 rfl) (lv_at hl 5 rfl) rfl (hin 1 (by decide)) q1 dL_law_1084 dL_law_1085 dL_law_1087 dL_law_1088 dL_law_1089 ?_
    have hcq : cdOne n p1 = cdOne n p1 := rfl
    have hI2 : LInv n kc fs ss ed lm ce cw iss sb len := hI
    refine kcV_i (n := 1) (X := []) (wc := wM cy m0 m1 m2 m3 m4 m5 m6 m7 m8 m9 m10 m11 m12 m13 m14 m15 m16 m17 th dy sd n fd ed lm fs ss dd pins ag en cm kc sb iss fst len off ren wsn) (Y := wH cy h pn a0 a1 a2 a3 a4 a5 a6 a7 a8 b0 b1 b2 b3 b4 b5 b6 b7 fs ss fd ed lm dd ce cw n iss sb fst len off ren que kc pins sd dy ++ kout cy o (vp_updL f 0 (ce (ix p1)).toInt64)) (As := [.int p1]) (rest := []) ⟨hx, hb, hml, hown, hts⟩ hE hA hP hD hS (c_X3_chainEnd l D cy m0 m1 m2 m3 m4 m5 m6 m7 m8 m9 m10 m11 m12 m13 m14 m15 m16 m17 th dy sd n fd ed lm fs ss dd pins ag en cm kc sb iss fst len off ren wsn p1 hn hfs hss (hcq.trans hcd)) (fun _ => Eq.trans (b := [m0, m1, m2, m3, m4, m5, m6, m7, m8, m9, m10, m11, m12, m13, m14, m15, m16, m17]) rfl rfl) (q0 := 0) (ci := 3) rfl rfl gL_law_X3_chainEnd rfl rfl rfl ⟨rfl, by decide, by decide, by decide +kernel⟩ ⟨Nat.le_of_ble_eq_true rfl, Nat.le_of_ble_eq_true rfl⟩ rfl hl.1 rfl (Nat.le_of_ble_eq_true rfl) dL_law_1090 hf1 (fun r2 u H locs hr2 hP hD hS => ?_)
    rw [List.nil_append] at hP hD
    refine lv_istore (lv' := [(6, .int r2), (5, .int 0), (0, .ref b), (1, .ref h), (2, .ref m0), (3, .ref o), (4, .int x)]) hx hb dL_law_1093 hl (by decide) rfl (fun ls hl => ?_)
    refine lv_aload_n hx hb dL_law_1095 rfl (lv_at hl 4 rfl) ?_
    refine kcV_i (n := 0) (X := []) (wc := wM cy m0 m1 m2 m3 m4 m5 m6 m7 m8 m9 m10 m11 m12 m13 m14 m15 m16 m17 0 dy sd n fd ed lm fs ss dd pins ag u cm kc sb iss fst len off ren wsn) (Y := wH cy h pn a0 a1 a2 a3 a4 a5 a6 a7 a8 b0 b1 b2 b3 b4 b5 b6 b7 fs ss fd ed lm dd ce cw n iss sb fst len off ren que kc pins sd dy ++ kout cy o (vp_updL f 0 (ce (ix p1)).toInt64)) (As := []) (rest := []) ⟨hx, hb, hml, hown, hts⟩ hE hA hP hD hS (c_X3_thrown l D cy m0 m1 m2 m3 m4 m5 m6 m7 m8 m9 m10 m11 m12 m13 m14 m15 m16 m17 0 dy sd n fd ed lm fs ss dd pins ag u cm kc sb iss fst len off ren wsn) (fun _ => Eq.trans (b := [m0, m1, m2, m3, m4, m5, m6, m7, m8, m9, m10, m11, m12, m13, m14, m15, m16, m17]) rfl rfl) (q0 := 0) (ci := 3) rfl rfl gL_law_X3_thrown rfl rfl rfl ⟨rfl, by decide, by decide, by decide +kernel⟩ ⟨Nat.le_of_ble_eq_true rfl, Nat.le_of_ble_eq_true rfl⟩ rfl hl.1 rfl (Nat.le_of_ble_eq_true rfl) dL_law_1096 hf1 (fun r3 u3 H locs hr3 hP hD hS => ?_)
    rw [List.nil_append] at hP hD
    replace hr3 : r3 = 0 := hr3
    subst hr3
    refine lv_iload hx hb dL_law_1099 (lv_at hl 1 rfl) ?_
    refine lv_icmp_eq (tgt := 1106) hx hb dL_law_1101 (by decide) (fun _ => ?_) (fun q => absurd rfl q)
    refine lv_iload hx hb dL_law_1106 (lv_at hl 1 rfl) ?_
    refine lv_if_ne (tgt := 1123) hx hb dL_law_1108 (by decide) (fun q => absurd rfl q) (fun _ => ?_)
    have hval : edV fs ss ed (ix p1) = ce (ix p1) := (hce _ (badI_ok (cdOne_ok hcd) (by omega)).2).symm
    replace hr2 : r2 = ce (ix p1) := hr2.trans hval
    refine lv_aload_n hx hb dL_law_1111 rfl (lv_at hl 5 rfl) ?_
    refine lv_iconst (v := 0) hx hb dL_law_1112 (by decide) ?_
    refine va_lald (i := 0) (f := vp_updL f 0 (ce (ix p1)).toInt64) hx hb hE.1 hP 37 2 (a := o) rfl rfl k_in0 dL_law_1113 ?_
    rw [updL_0]
    refine lv_iload hx hb dL_law_1114 (lv_at hl 0 rfl) ?_
    refine lv_i2l (v := r2.toInt64) hx hb dL_law_1116 rfl ?_
    refine W.lcmp hx hb dL_law_1117 ?_
    refine lv_if_eq (tgt := 1123) hx hb dL_law_1118 (by decide) (fun _ => ?_) (fun q => absurd ((lg_cmp_eq _ _).mpr (by rw [hr2])) q)
    refine lv_goto (tgt := 1505) hx hb dL_law_1123 (by decide) ?_
    exact hkk fs ss fd ed lm dd ce cw n iss sb fst len off ren que kc pins sd dy 0 ag u cm wsn (vp_updL f 0 (ce (ix p1)).toInt64) H locs ls hI2 hP hD hS (lv_sub hl [2, 3, 4, 5, 6] rfl)
  · refine kcL_i (n := 3) (X := wM cy m0 m1 m2 m3 m4 m5 m6 m7 m8 m9 m10 m11 m12 m13 m14 m15 m16 m17 th dy sd n fd ed lm fs ss dd pins ag en cm kc sb iss fst len off ren wsn) (wc := wH cy h pn a0 a1 a2 a3 a4 a5 a6 a7 a8 b0 b1 b2 b3 b4 b5 b6 b7 fs ss fd ed lm dd ce cw n iss sb fst len off ren que kc pins sd dy ++ kout cy o f) (Y := []) (As := [.ref h, .int p1, .ref o]) (rest := []) ⟨hx, hb, hml, hown, hts⟩ hE hA hZ (by rw [List.append_nil]; exact hP) (by rw [List.append_nil]; exact hD) hS (c_L_chainEnd_f l D cy hfl h pn a0 a1 a2 a3 a4 a5 a6 a7 a8 b0 b1 b2 b3 b4 b5 b6 b7 fs ss fd ed lm dd ce cw n iss sb fst len off ren que kc pins sd dy p1 hn hcd o f) (Eq.trans (b := [h, a0, a1, a2, a3, a4, a5, a6, a7, a8, b0, b1, b2, b3, b4, b5, b6, b7, pn, o]) rfl rfl) gL_law_L_chainEnd rfl rfl rfl ⟨by decide, by decide, by decide +kernel⟩ ⟨Nat.le_of_ble_eq_true rfl, Nat.le_of_ble_eq_true rfl⟩ rfl hl.1 rfl (Nat.le_of_ble_eq_true rfl) dL_law_1078 hf (fun r H locs hr hP hD hS => ?_)
    rw [List.append_nil] at hP hD
    have hf1 : cells + 1 ≤ 1078 ∧ slots + 6 ≤ 9341 := hf
    replace hr : r = cdOne n p1 := hr
    refine lv_istore (lv' := [(5, .int r), (0, .ref b), (1, .ref h), (2, .ref m0), (3, .ref o), (4, .int x)]) hx hb dL_law_1081 hl (by decide) rfl (fun ls hl => ?_)
    refine lv_aload_n hx hb dL_law_1083 rfl (lv_at hl 3 rfl) ?_
    refine kl_rd (k := 1) hx hb hX hbl hS (lv_at hl 1 rfl) (lv_at hl 5 rfl) rfl (hin 1 (by decide)) q1 dL_law_1084 dL_law_1085 dL_law_1087 dL_law_1088 dL_law_1089 ?_
    have hcq : cdOne n p1 = cdOne n p1 := rfl
    refine kcV_i (n := 1) (X := []) (wc := wM cy m0 m1 m2 m3 m4 m5 m6 m7 m8 m9 m10 m11 m12 m13 m14 m15 m16 m17 th dy sd n fd ed lm fs ss dd pins ag en cm kc sb iss fst len off ren wsn) (Y := wH cy h pn a0 a1 a2 a3 a4 a5 a6 a7 a8 b0 b1 b2 b3 b4 b5 b6 b7 fs ss fd ed lm dd ce cw n iss sb fst len off ren que kc pins sd dy ++ kout cy o f) (As := [.int p1]) (rest := []) ⟨hx, hb, hml, hown, hts⟩ hE hA hP hD hS (c_X3_chainEnd_f l D cy m0 m1 m2 m3 m4 m5 m6 m7 m8 m9 m10 m11 m12 m13 m14 m15 m16 m17 th dy sd n fd ed lm fs ss dd pins ag en cm kc sb iss fst len off ren wsn p1 hn hfs hss (fun q => hcd (hcq.symm.trans q))) (fun _ => Eq.trans (b := [m0, m1, m2, m3, m4, m5, m6, m7, m8, m9, m10, m11, m12, m13, m14, m15, m16, m17]) rfl rfl) (q0 := 0) (ci := 3) rfl rfl gL_law_X3_chainEnd rfl rfl rfl ⟨rfl, by decide, by decide, by decide +kernel⟩ ⟨Nat.le_of_ble_eq_true rfl, Nat.le_of_ble_eq_true rfl⟩ rfl hl.1 rfl (Nat.le_of_ble_eq_true rfl) dL_law_1090 hf1 (fun r2 u H locs hr2 hP hD hS => ?_)
    rw [List.nil_append] at hP hD
    refine lv_istore (lv' := [(6, .int r2), (5, .int r), (0, .ref b), (1, .ref h), (2, .ref m0), (3, .ref o), (4, .int x)]) hx hb dL_law_1093 hl (by decide) rfl (fun ls hl => ?_)
    refine lv_aload_n hx hb dL_law_1095 rfl (lv_at hl 4 rfl) ?_
    refine kcV_i (n := 0) (X := []) (wc := wM cy m0 m1 m2 m3 m4 m5 m6 m7 m8 m9 m10 m11 m12 m13 m14 m15 m16 m17 (cdOne n p1) dy sd n fd ed lm fs ss dd pins ag u cm kc sb iss fst len off ren wsn) (Y := wH cy h pn a0 a1 a2 a3 a4 a5 a6 a7 a8 b0 b1 b2 b3 b4 b5 b6 b7 fs ss fd ed lm dd ce cw n iss sb fst len off ren que kc pins sd dy ++ kout cy o f) (As := []) (rest := []) ⟨hx, hb, hml, hown, hts⟩ hE hA hP hD hS (c_X3_thrown l D cy m0 m1 m2 m3 m4 m5 m6 m7 m8 m9 m10 m11 m12 m13 m14 m15 m16 m17 (cdOne n p1) dy sd n fd ed lm fs ss dd pins ag u cm kc sb iss fst len off ren wsn) (fun _ => Eq.trans (b := [m0, m1, m2, m3, m4, m5, m6, m7, m8, m9, m10, m11, m12, m13, m14, m15, m16, m17]) rfl rfl) (q0 := 0) (ci := 3) rfl rfl gL_law_X3_thrown rfl rfl rfl ⟨rfl, by decide, by decide, by decide +kernel⟩ ⟨Nat.le_of_ble_eq_true rfl, Nat.le_of_ble_eq_true rfl⟩ rfl hl.1 rfl (Nat.le_of_ble_eq_true rfl) dL_law_1096 hf1 (fun r3 u3 H locs hr3 hP hD hS => ?_)
    rw [List.nil_append] at hP hD
    replace hr3 : r3 = cdOne n p1 := hr3
    refine lv_iload hx hb dL_law_1099 (lv_at hl 1 rfl) ?_
    refine lv_icmp_eq (tgt := 1106) hx hb dL_law_1101 (by decide) (fun _ => ?_) (fun q => absurd (hr3.trans (hcq.trans hr.symm)) q)
    refine lv_iload hx hb dL_law_1106 (lv_at hl 1 rfl) ?_
    refine lv_if_ne (tgt := 1123) hx hb dL_law_1108 (by decide) (fun _ => ?_) (fun q => absurd (hr.symm.trans q) hcd)
    refine lv_goto (tgt := 1505) hx hb dL_law_1123 (by decide) ?_
    exact hkk fs ss fd ed lm dd ce cw n iss sb fst len off ren que kc pins sd dy (cdOne n p1) ag u cm wsn f H locs ls hI hP hD hS (lv_sub hl [2, 3, 4, 5, 6] rfl)
set_option maxHeartbeats 4000000 in
set_option maxRecDepth 100000 in
theorem rd_chains {p : Program} {l : Launch} {e : Env} {s : State} {m : MethodId} {below : List Frame} {meth : Method} {c : Code} {H : Heap} {locs : List Loc} {cells slots : Nat} {Q : State → Prop} {ls : Array Slot} {D : va_G} {cy : ClassId × ClassId × ClassId} {b L : Nat} {xs : Nat → Int32} (h pn a0 a1 a2 a3 a4 a5 a6 a7 a8 b0 b1 b2 b3 b4 b5 b6 b7 m0 m1 m2 m3 m4 m5 m6 m7 m8 m9 m10 m11 m12 m13 m14 m15 m16 m17 o : Nat) (fs ss fd ed lm dd ce cw : Nat → Int32) (n : Nat) (iss sb fst len off ren que : Nat → Int32) (kc : Nat) (pins : Nat → Int32) (sd dy th : Int32) (ag en cm wsn : Nat → Int32) (f : Nat → Int64) {x p1 : Int32} (C : LC p l s m c D cy b L xs) (hI : LInv n kc fs ss ed lm ce cw iss sb len) (hin : ∀ k, k < 5 → vp_in (x + nI k) L) (q1 : xs (x + nI 1).toNatClampNeg = p1) (hf : cells + 1 ≤ 1078 ∧ slots + 6 ≤ 9341) (hP : va_P D vwCl (wWL cy h pn a0 a1 a2 a3 a4 a5 a6 a7 a8 b0 b1 b2 b3 b4 b5 b6 b7 m0 m1 m2 m3 m4 m5 m6 m7 m8 m9 m10 m11 m12 m13 m14 m15 m16 m17 o fs ss fd ed lm dd ce cw n iss sb fst len off ren que kc pins sd dy th ag en cm wsn f) H) (hD : va_D (lwA s) (wWL cy h pn a0 a1 a2 a3 a4 a5 a6 a7 a8 b0 b1 b2 b3 b4 b5 b6 b7 m0 m1 m2 m3 m4 m5 m6 m7 m8 m9 m10 m11 m12 m13 m14 m15 m16 m17 o fs ss fd ed lm dd ce cw n iss sb fst len off ren que kc pins sd dy th ag en cm wsn f)) (hS : va_S (lwA s) s.heap H locs) (hl : lv_has ls 7 [(0, .ref b), (1, .ref h), (2, .ref m0), (3, .ref o), (4, .int x)]) (hkk : LK p l e s m below meth c Q D cy b x h pn a0 a1 a2 a3 a4 a5 a6 a7 a8 b0 b1 b2 b3 b4 b5 b6 b7 m0 m1 m2 m3 m4 m5 m6 m7 m8 m9 m10 m11 m12 m13 m14 m15 m16 m17 o (cells + 1) (slots + 6)) : W p l e room_1 s m #[Value.ref b] below meth c H locs cells slots Q (F0 m 1126 ls []) := by
  obtain ⟨hx, hb, hml, hown, hts, hX, hbl, hE, hZ, hfl⟩ := C
  obtain ⟨hn, hk, hfs, hss, hro, hlm, hok, hsb, hce, hcw⟩ := id hI
  have hA : ∀ q : Nat, s.heap.size ≤ q → lwA s q := fun _ h => h
  refine lv_aload_n hx hb dL_law_1126 rfl (lv_at hl 1 rfl) ?_
  refine kl_rd (k := 1) hx hb hX hbl hS (lv_at hl 0 rfl) (lv_at hl 4 rfl) rfl (hin 1 (by decide)) q1 dL_law_1127 dL_law_1128 dL_law_1130 dL_law_1131 dL_law_1132 ?_
  refine lv_aload_n hx hb dL_law_1133 rfl (lv_at hl 3 rfl) ?_
  by_cases hcd : cdOne n p1 = 0
  · refine kcL_i (n := 3) (X := wM cy m0 m1 m2 m3 m4 m5 m6 m7 m8 m9 m10 m11 m12 m13 m14 m15 m16 m17 th dy sd n fd ed lm fs ss dd pins ag en cm kc sb iss fst len off ren wsn) (wc := wH cy h pn a0 a1 a2 a3 a4 a5 a6 a7 a8 b0 b1 b2 b3 b4 b5 b6 b7 fs ss fd ed lm dd ce cw n iss sb fst len off ren que kc pins sd dy ++ kout cy o f) (Y := []) (As := [.ref h, .int p1, .ref o]) (rest := []) ⟨hx, hb, hml, hown, hts⟩ hE hA hZ (by rw [List.append_nil]; exact hP) (by rw [List.append_nil]; exact hD) hS (c_L_chains l D cy hfl h pn a0 a1 a2 a3 a4 a5 a6 a7 a8 b0 b1 b2 b3 b4 b5 b6 b7 fs ss fd ed lm dd ce cw n iss sb fst len off ren que kc pins sd dy p1 hn hcd o f) (Eq.trans (b := [h, a0, a1, a2, a3, a4, a5, a6, a7, a8, b0, b1, b2, b3, b4, b5, b6, b7, pn, o]) rfl rfl) gL_law_L_chains rfl rfl rfl ⟨by decide, by decide, by decide +kernel⟩ ⟨Nat.le_of_ble_eq_true rfl, Nat.le_of_ble_eq_true rfl⟩ rfl hl.1 rfl (Nat.le_of_ble_eq_true rfl) dL_law_1134 hf (fun r H locs hr hP hD hS => ?_)
    rw [List.append_nil] at hP hD
    have hf1 : cells + 1 ≤ 1078 ∧ slots + 6 ≤ 9341 := hf
    replace hr : r = 0 := hr
    subst hr
    refine lv_istore (lv' := [(5, .int 0), (0, .ref b), (1, .ref h), (2, .ref m0), (3, .ref o), (4, .int x)]) hx hb dL_law_1137 hl (by decide) rfl (fun ls hl => ?_)
    refine lv_aload_n hx hb dL_law_1139 rfl (lv_at hl 3 rfl) ?_
    refine kl_rd (k := 1) hx hb hX hbl hS (lv_at hl 1 rfl) (lv_at hl 5 rfl) rfl (hin 1 (by decide)) q1 dL_law_1140 dL_law_1141 dL_law_1143 dL_law_1144 dL_law_1145 ?_
    have hcq : cdOne n p1 = cdOne n p1 := rfl
    have hI2 : LInv n kc fs ss ed lm ce cw iss sb len := hI
    refine kcV_i (n := 1) (X := []) (wc := wM cy m0 m1 m2 m3 m4 m5 m6 m7 m8 m9 m10 m11 m12 m13 m14 m15 m16 m17 th dy sd n fd ed lm fs ss dd pins ag en cm kc sb iss fst len off ren wsn) (Y := wH cy h pn a0 a1 a2 a3 a4 a5 a6 a7 a8 b0 b1 b2 b3 b4 b5 b6 b7 fs ss fd ed lm dd ce cw n iss sb fst len off ren que kc pins sd dy ++ kout cy o (vp_updL f 0 (cw (ix p1)).toInt64)) (As := [.int p1]) (rest := []) ⟨hx, hb, hml, hown, hts⟩ hE hA hP hD hS (c_X3_chains l D cy m0 m1 m2 m3 m4 m5 m6 m7 m8 m9 m10 m11 m12 m13 m14 m15 m16 m17 th dy sd n fd ed lm fs ss dd pins ag en cm kc sb iss fst len off ren wsn p1 hn hfs hss (hcq.trans hcd)) (fun _ => Eq.trans (b := [m0, m1, m2, m3, m4, m5, m6, m7, m8, m9, m10, m11, m12, m13, m14, m15, m16, m17]) rfl rfl) (q0 := 0) (ci := 3) rfl rfl gL_law_X3_chains rfl rfl rfl ⟨rfl, by decide, by decide, by decide +kernel⟩ ⟨Nat.le_of_ble_eq_true rfl, Nat.le_of_ble_eq_true rfl⟩ rfl hl.1 rfl (Nat.le_of_ble_eq_true rfl) dL_law_1146 hf1 (fun r2 u H locs hr2 hP hD hS => ?_)
    rw [List.nil_append] at hP hD
    refine lv_istore (lv' := [(6, .int r2), (5, .int 0), (0, .ref b), (1, .ref h), (2, .ref m0), (3, .ref o), (4, .int x)]) hx hb dL_law_1149 hl (by decide) rfl (fun ls hl => ?_)
    refine lv_aload_n hx hb dL_law_1151 rfl (lv_at hl 4 rfl) ?_
    refine kcV_i (n := 0) (X := []) (wc := wM cy m0 m1 m2 m3 m4 m5 m6 m7 m8 m9 m10 m11 m12 m13 m14 m15 m16 m17 0 dy sd n fd ed lm fs ss dd pins ag en u kc sb iss fst len off ren wsn) (Y := wH cy h pn a0 a1 a2 a3 a4 a5 a6 a7 a8 b0 b1 b2 b3 b4 b5 b6 b7 fs ss fd ed lm dd ce cw n iss sb fst len off ren que kc pins sd dy ++ kout cy o (vp_updL f 0 (cw (ix p1)).toInt64)) (As := []) (rest := []) ⟨hx, hb, hml, hown, hts⟩ hE hA hP hD hS (c_X3_thrown l D cy m0 m1 m2 m3 m4 m5 m6 m7 m8 m9 m10 m11 m12 m13 m14 m15 m16 m17 0 dy sd n fd ed lm fs ss dd pins ag en u kc sb iss fst len off ren wsn) (fun _ => Eq.trans (b := [m0, m1, m2, m3, m4, m5, m6, m7, m8, m9, m10, m11, m12, m13, m14, m15, m16, m17]) rfl rfl) (q0 := 0) (ci := 3) rfl rfl gL_law_X3_thrown rfl rfl rfl ⟨rfl, by decide, by decide, by decide +kernel⟩ ⟨Nat.le_of_ble_eq_true rfl, Nat.le_of_ble_eq_true rfl⟩ rfl hl.1 rfl (Nat.le_of_ble_eq_true rfl) dL_law_1152 hf1 (fun r3 u3 H locs hr3 hP hD hS => ?_)
    rw [List.nil_append] at hP hD
    replace hr3 : r3 = 0 := hr3
    subst hr3
    refine lv_iload hx hb dL_law_1155 (lv_at hl 1 rfl) ?_
    refine lv_icmp_eq (tgt := 1162) hx hb dL_law_1157 (by decide) (fun _ => ?_) (fun q => absurd rfl q)
    refine lv_iload hx hb dL_law_1162 (lv_at hl 1 rfl) ?_
    refine lv_if_ne (tgt := 1179) hx hb dL_law_1164 (by decide) (fun q => absurd rfl q) (fun _ => ?_)
    have hval : cnV fs ss (ix p1) = cw (ix p1) := (hcw _ (badI_ok (cdOne_ok hcd) (by omega)).2).symm
    replace hr2 : r2 = cw (ix p1) := hr2.trans hval
    refine lv_aload_n hx hb dL_law_1167 rfl (lv_at hl 5 rfl) ?_
    refine lv_iconst (v := 0) hx hb dL_law_1168 (by decide) ?_
    refine va_lald (i := 0) (f := vp_updL f 0 (cw (ix p1)).toInt64) hx hb hE.1 hP 37 2 (a := o) rfl rfl k_in0 dL_law_1169 ?_
    rw [updL_0]
    refine lv_iload hx hb dL_law_1170 (lv_at hl 0 rfl) ?_
    refine lv_i2l (v := r2.toInt64) hx hb dL_law_1172 rfl ?_
    refine W.lcmp hx hb dL_law_1173 ?_
    refine lv_if_eq (tgt := 1179) hx hb dL_law_1174 (by decide) (fun _ => ?_) (fun q => absurd ((lg_cmp_eq _ _).mpr (by rw [hr2])) q)
    refine lv_goto (tgt := 1505) hx hb dL_law_1179 (by decide) ?_
    exact hkk fs ss fd ed lm dd ce cw n iss sb fst len off ren que kc pins sd dy 0 ag en u wsn (vp_updL f 0 (cw (ix p1)).toInt64) H locs ls hI2 hP hD hS (lv_sub hl [2, 3, 4, 5, 6] rfl)
  · refine kcL_i (n := 3) (X := wM cy m0 m1 m2 m3 m4 m5 m6 m7 m8 m9 m10 m11 m12 m13 m14 m15 m16 m17 th dy sd n fd ed lm fs ss dd pins ag en cm kc sb iss fst len off ren wsn) (wc := wH cy h pn a0 a1 a2 a3 a4 a5 a6 a7 a8 b0 b1 b2 b3 b4 b5 b6 b7 fs ss fd ed lm dd ce cw n iss sb fst len off ren que kc pins sd dy ++ kout cy o f) (Y := []) (As := [.ref h, .int p1, .ref o]) (rest := []) ⟨hx, hb, hml, hown, hts⟩ hE hA hZ (by rw [List.append_nil]; exact hP) (by rw [List.append_nil]; exact hD) hS (c_L_chains_f l D cy hfl h pn a0 a1 a2 a3 a4 a5 a6 a7 a8 b0 b1 b2 b3 b4 b5 b6 b7 fs ss fd ed lm dd ce cw n iss sb fst len off ren que kc pins sd dy p1 hn hcd o f) (Eq.trans (b := [h, a0, a1, a2, a3, a4, a5, a6, a7, a8, b0, b1, b2, b3, b4, b5, b6, b7, pn, o]) rfl rfl) gL_law_L_chains rfl rfl rfl ⟨by decide, by decide, by decide +kernel⟩ ⟨Nat.le_of_ble_eq_true rfl, Nat.le_of_ble_eq_true rfl⟩ rfl hl.1 rfl (Nat.le_of_ble_eq_true rfl) dL_law_1134 hf (fun r H locs hr hP hD hS => ?_)
    rw [List.append_nil] at hP hD
    have hf1 : cells + 1 ≤ 1078 ∧ slots + 6 ≤ 9341 := hf
    replace hr : r = cdOne n p1 := hr
    refine lv_istore (lv' := [(5, .int r), (0, .ref b), (1, .ref h), (2, .ref m0), (3, .ref o), (4, .int x)]) hx hb dL_law_1137 hl (by decide) rfl (fun ls hl => ?_)
    refine lv_aload_n hx hb dL_law_1139 rfl (lv_at hl 3 rfl) ?_
    refine kl_rd (k := 1) hx hb hX hbl hS (lv_at hl 1 rfl) (lv_at hl 5 rfl) rfl (hin 1 (by decide)) q1 dL_law_1140 dL_law_1141 dL_law_1143 dL_law_1144 dL_law_1145 ?_
    have hcq : cdOne n p1 = cdOne n p1 := rfl
    refine kcV_i (n := 1) (X := []) (wc := wM cy m0 m1 m2 m3 m4 m5 m6 m7 m8 m9 m10 m11 m12 m13 m14 m15 m16 m17 th dy sd n fd ed lm fs ss dd pins ag en cm kc sb iss fst len off ren wsn) (Y := wH cy h pn a0 a1 a2 a3 a4 a5 a6 a7 a8 b0 b1 b2 b3 b4 b5 b6 b7 fs ss fd ed lm dd ce cw n iss sb fst len off ren que kc pins sd dy ++ kout cy o f) (As := [.int p1]) (rest := []) ⟨hx, hb, hml, hown, hts⟩ hE hA hP hD hS (c_X3_chains_f l D cy m0 m1 m2 m3 m4 m5 m6 m7 m8 m9 m10 m11 m12 m13 m14 m15 m16 m17 th dy sd n fd ed lm fs ss dd pins ag en cm kc sb iss fst len off ren wsn p1 hn hfs hss (fun q => hcd (hcq.symm.trans q))) (fun _ => Eq.trans (b := [m0, m1, m2, m3, m4, m5, m6, m7, m8, m9, m10, m11, m12, m13, m14, m15, m16, m17]) rfl rfl) (q0 := 0) (ci := 3) rfl rfl gL_law_X3_chains rfl rfl rfl ⟨rfl, by decide, by decide, by decide +kernel⟩ ⟨Nat.le_of_ble_eq_true rfl, Nat.le_of_ble_eq_true rfl⟩ rfl hl.1 rfl (Nat.le_of_ble_eq_true rfl) dL_law_1146 hf1 (fun r2 u H locs hr2 hP hD hS => ?_)
    rw [List.nil_append] at hP hD
    refine lv_istore (lv' := [(6, .int r2), (5, .int r), (0, .ref b), (1, .ref h), (2, .ref m0), (3, .ref o), (4, .int x)]) hx hb dL_law_1149 hl (by decide) rfl (fun ls hl => ?_)
    refine lv_aload_n hx hb dL_law_1151 rfl (lv_at hl 4 rfl) ?_
    refine kcV_i (n := 0) (X := []) (wc := wM cy m0 m1 m2 m3 m4 m5 m6 m7 m8 m9 m10 m11 m12 m13 m14 m15 m16 m17 (cdOne n p1) dy sd n fd ed lm fs ss dd pins ag en u kc sb iss fst len off ren wsn) (Y := wH cy h pn a0 a1 a2 a3 a4 a5 a6 a7 a8 b0 b1 b2 b3 b4 b5 b6 b7 fs ss fd ed lm dd ce cw n iss sb fst len off ren que kc pins sd dy ++ kout cy o f) (As := []) (rest := []) ⟨hx, hb, hml, hown, hts⟩ hE hA hP hD hS (c_X3_thrown l D cy m0 m1 m2 m3 m4 m5 m6 m7 m8 m9 m10 m11 m12 m13 m14 m15 m16 m17 (cdOne n p1) dy sd n fd ed lm fs ss dd pins ag en u kc sb iss fst len off ren wsn) (fun _ => Eq.trans (b := [m0, m1, m2, m3, m4, m5, m6, m7, m8, m9, m10, m11, m12, m13, m14, m15, m16, m17]) rfl rfl) (q0 := 0) (ci := 3) rfl rfl gL_law_X3_thrown rfl rfl rfl ⟨rfl, by decide, by decide, by decide +kernel⟩ ⟨Nat.le_of_ble_eq_true rfl, Nat.le_of_ble_eq_true rfl⟩ rfl hl.1 rfl (Nat.le_of_ble_eq_true rfl) dL_law_1152 hf1 (fun r3 u3 H locs hr3 hP hD hS => ?_)
    rw [List.nil_append] at hP hD
    replace hr3 : r3 = cdOne n p1 := hr3
    refine lv_iload hx hb dL_law_1155 (lv_at hl 1 rfl) ?_
    refine lv_icmp_eq (tgt := 1162) hx hb dL_law_1157 (by decide) (fun _ => ?_) (fun q => absurd (hr3.trans (hcq.trans hr.symm)) q)
    refine lv_iload hx hb dL_law_1162 (lv_at hl 1 rfl) ?_
    refine lv_if_ne (tgt := 1179) hx hb dL_law_1164 (by decide) (fun _ => ?_) (fun q => absurd (hr.symm.trans q) hcd)
    refine lv_goto (tgt := 1505) hx hb dL_law_1179 (by decide) ?_
    exact hkk fs ss fd ed lm dd ce cw n iss sb fst len off ren que kc pins sd dy (cdOne n p1) ag en u wsn f H locs ls hI hP hD hS (lv_sub hl [2, 3, 4, 5, 6] rfl)
set_option maxHeartbeats 4000000 in
set_option maxRecDepth 100000 in
theorem rd_isCovered {p : Program} {l : Launch} {e : Env} {s : State} {m : MethodId} {below : List Frame} {meth : Method} {c : Code} {H : Heap} {locs : List Loc} {cells slots : Nat} {Q : State → Prop} {ls : Array Slot} {D : va_G} {cy : ClassId × ClassId × ClassId} {b L : Nat} {xs : Nat → Int32} (h pn a0 a1 a2 a3 a4 a5 a6 a7 a8 b0 b1 b2 b3 b4 b5 b6 b7 m0 m1 m2 m3 m4 m5 m6 m7 m8 m9 m10 m11 m12 m13 m14 m15 m16 m17 o : Nat) (fs ss fd ed lm dd ce cw : Nat → Int32) (n : Nat) (iss sb fst len off ren que : Nat → Int32) (kc : Nat) (pins : Nat → Int32) (sd dy th : Int32) (ag en cm wsn : Nat → Int32) (f : Nat → Int64) {x p1 p2 : Int32} (C : LC p l s m c D cy b L xs) (hI : LInv n kc fs ss ed lm ce cw iss sb len) (hin : ∀ k, k < 5 → vp_in (x + nI k) L) (q1 : xs (x + nI 1).toNatClampNeg = p1) (q2 : xs (x + nI 2).toNatClampNeg = p2) (hf : cells + 1 ≤ 1078 ∧ slots + 6 ≤ 9341) (hP : va_P D vwCl (wWL cy h pn a0 a1 a2 a3 a4 a5 a6 a7 a8 b0 b1 b2 b3 b4 b5 b6 b7 m0 m1 m2 m3 m4 m5 m6 m7 m8 m9 m10 m11 m12 m13 m14 m15 m16 m17 o fs ss fd ed lm dd ce cw n iss sb fst len off ren que kc pins sd dy th ag en cm wsn f) H) (hD : va_D (lwA s) (wWL cy h pn a0 a1 a2 a3 a4 a5 a6 a7 a8 b0 b1 b2 b3 b4 b5 b6 b7 m0 m1 m2 m3 m4 m5 m6 m7 m8 m9 m10 m11 m12 m13 m14 m15 m16 m17 o fs ss fd ed lm dd ce cw n iss sb fst len off ren que kc pins sd dy th ag en cm wsn f)) (hS : va_S (lwA s) s.heap H locs) (hl : lv_has ls 7 [(0, .ref b), (1, .ref h), (2, .ref m0), (3, .ref o), (4, .int x)]) (hkk : LK p l e s m below meth c Q D cy b x h pn a0 a1 a2 a3 a4 a5 a6 a7 a8 b0 b1 b2 b3 b4 b5 b6 b7 m0 m1 m2 m3 m4 m5 m6 m7 m8 m9 m10 m11 m12 m13 m14 m15 m16 m17 o (cells + 1) (slots + 6)) : W p l e room_1 s m #[Value.ref b] below meth c H locs cells slots Q (F0 m 1182 ls []) := by
  obtain ⟨hx, hb, hml, hown, hts, hX, hbl, hE, hZ, hfl⟩ := C
  obtain ⟨hn, hk, hfs, hss, hro, hlm, hok, hsb, hce, hcw⟩ := id hI
  have hA : ∀ q : Nat, s.heap.size ≤ q → lwA s q := fun _ h => h
  refine lv_aload_n hx hb dL_law_1182 rfl (lv_at hl 1 rfl) ?_
  refine kl_rd (k := 1) hx hb hX hbl hS (lv_at hl 0 rfl) (lv_at hl 4 rfl) rfl (hin 1 (by decide)) q1 dL_law_1183 dL_law_1184 dL_law_1186 dL_law_1187 dL_law_1188 ?_
  refine kl_rd (k := 2) hx hb hX hbl hS (lv_at hl 0 rfl) (lv_at hl 4 rfl) rfl (hin 2 (by decide)) q2 dL_law_1189 dL_law_1190 dL_law_1192 dL_law_1193 dL_law_1194 ?_
  refine lv_aload_n hx hb dL_law_1195 rfl (lv_at hl 3 rfl) ?_
  by_cases hcd : cdND p1 p2 = 0
  · refine kcL_i (n := 4) (X := wM cy m0 m1 m2 m3 m4 m5 m6 m7 m8 m9 m10 m11 m12 m13 m14 m15 m16 m17 th dy sd n fd ed lm fs ss dd pins ag en cm kc sb iss fst len off ren wsn) (wc := wH cy h pn a0 a1 a2 a3 a4 a5 a6 a7 a8 b0 b1 b2 b3 b4 b5 b6 b7 fs ss fd ed lm dd ce cw n iss sb fst len off ren que kc pins sd dy ++ kout cy o f) (Y := []) (As := [.ref h, .int p1, .int p2, .ref o]) (rest := []) ⟨hx, hb, hml, hown, hts⟩ hE hA hZ (by rw [List.append_nil]; exact hP) (by rw [List.append_nil]; exact hD) hS (c_L_isCovered l D cy hfl h pn a0 a1 a2 a3 a4 a5 a6 a7 a8 b0 b1 b2 b3 b4 b5 b6 b7 fs ss fd ed lm dd ce cw n iss sb fst len off ren que kc pins sd dy p1 p2 hn hk hcd o f) (Eq.trans (b := [h, a0, a1, a2, a3, a4, a5, a6, a7, a8, b0, b1, b2, b3, b4, b5, b6, b7, pn, o]) rfl rfl) gL_law_L_isCovered rfl rfl rfl ⟨by decide, by decide, by decide +kernel⟩ ⟨Nat.le_of_ble_eq_true rfl, Nat.le_of_ble_eq_true rfl⟩ rfl hl.1 rfl (Nat.le_of_ble_eq_true rfl) dL_law_1196 hf (fun r H locs hr hP hD hS => ?_)
    rw [List.append_nil] at hP hD
    have hf1 : cells + 1 ≤ 1078 ∧ slots + 6 ≤ 9341 := hf
    replace hr : r = 0 := hr
    subst hr
    refine lv_istore (lv' := [(5, .int 0), (0, .ref b), (1, .ref h), (2, .ref m0), (3, .ref o), (4, .int x)]) hx hb dL_law_1199 hl (by decide) rfl (fun ls hl => ?_)
    refine lv_aload_n hx hb dL_law_1201 rfl (lv_at hl 3 rfl) ?_
    refine kl_rd (k := 1) hx hb hX hbl hS (lv_at hl 1 rfl) (lv_at hl 5 rfl) rfl (hin 1 (by decide)) q1 dL_law_1202 dL_law_1203 dL_law_1205 dL_law_1206 dL_law_1207 ?_
    refine kl_rd (k := 2) hx hb hX hbl hS (lv_at hl 1 rfl) (lv_at hl 5 rfl) rfl (hin 2 (by decide)) q2 dL_law_1208 dL_law_1209 dL_law_1211 dL_law_1212 dL_law_1213 ?_
    have hcq : cdND p1 p2 = cdND p1 p2 := rfl
    have hI2 : LInv n kc fs ss ed lm ce cw iss sb len := hI
    refine kcV_i (n := 2) (X := []) (wc := wM cy m0 m1 m2 m3 m4 m5 m6 m7 m8 m9 m10 m11 m12 m13 m14 m15 m16 m17 th dy sd n fd ed lm fs ss dd pins ag en cm kc sb iss fst len off ren wsn) (Y := wH cy h pn a0 a1 a2 a3 a4 a5 a6 a7 a8 b0 b1 b2 b3 b4 b5 b6 b7 fs ss fd ed lm dd ce cw n iss sb fst len off ren que kc pins sd dy ++ kout cy o (vp_updL f 0 (bI (hasB (nhN iss sb fst len p2 (goodM fs ss fd ed dd p2 (-1) n) kc) p1)).toInt64)) (As := [.int p1, .int p2]) (rest := []) ⟨hx, hb, hml, hown, hts⟩ hE hA hP hD hS (c_X3_isCovered l D cy m0 m1 m2 m3 m4 m5 m6 m7 m8 m9 m10 m11 m12 m13 m14 m15 m16 m17 th dy sd n fd ed lm fs ss dd pins ag en cm kc sb iss fst len off ren wsn p1 p2 hn hk hfs hss hok (hcq.trans hcd)) (fun _ => Eq.trans (b := [m0, m1, m2, m3, m4, m5, m6, m7, m8, m9, m10, m11, m12, m13, m14, m15, m16, m17]) rfl rfl) (q0 := 0) (ci := 3) rfl rfl gL_law_X3_isCovered rfl rfl rfl ⟨rfl, by decide, by decide, by decide +kernel⟩ ⟨Nat.le_of_ble_eq_true rfl, Nat.le_of_ble_eq_true rfl⟩ rfl hl.1 rfl (Nat.le_of_ble_eq_true rfl) dL_law_1214 hf1 (fun r2 u H locs hr2 hP hD hS => ?_)
    rw [List.nil_append] at hP hD
    refine lv_istore (lv' := [(6, .int r2), (5, .int 0), (0, .ref b), (1, .ref h), (2, .ref m0), (3, .ref o), (4, .int x)]) hx hb dL_law_1217 hl (by decide) rfl (fun ls hl => ?_)
    refine lv_aload_n hx hb dL_law_1219 rfl (lv_at hl 4 rfl) ?_
    refine kcV_i (n := 0) (X := []) (wc := wM cy m0 m1 m2 m3 m4 m5 m6 m7 m8 m9 m10 m11 m12 m13 m14 m15 m16 m17 0 dy sd n fd ed lm fs ss dd pins u en cm kc sb iss fst len off ren wsn) (Y := wH cy h pn a0 a1 a2 a3 a4 a5 a6 a7 a8 b0 b1 b2 b3 b4 b5 b6 b7 fs ss fd ed lm dd ce cw n iss sb fst len off ren que kc pins sd dy ++ kout cy o (vp_updL f 0 (bI (hasB (nhN iss sb fst len p2 (goodM fs ss fd ed dd p2 (-1) n) kc) p1)).toInt64)) (As := []) (rest := []) ⟨hx, hb, hml, hown, hts⟩ hE hA hP hD hS (c_X3_thrown l D cy m0 m1 m2 m3 m4 m5 m6 m7 m8 m9 m10 m11 m12 m13 m14 m15 m16 m17 0 dy sd n fd ed lm fs ss dd pins u en cm kc sb iss fst len off ren wsn) (fun _ => Eq.trans (b := [m0, m1, m2, m3, m4, m5, m6, m7, m8, m9, m10, m11, m12, m13, m14, m15, m16, m17]) rfl rfl) (q0 := 0) (ci := 3) rfl rfl gL_law_X3_thrown rfl rfl rfl ⟨rfl, by decide, by decide, by decide +kernel⟩ ⟨Nat.le_of_ble_eq_true rfl, Nat.le_of_ble_eq_true rfl⟩ rfl hl.1 rfl (Nat.le_of_ble_eq_true rfl) dL_law_1220 hf1 (fun r3 u3 H locs hr3 hP hD hS => ?_)
    rw [List.nil_append] at hP hD
    replace hr3 : r3 = 0 := hr3
    subst hr3
    refine lv_iload hx hb dL_law_1223 (lv_at hl 1 rfl) ?_
    refine lv_icmp_eq (tgt := 1230) hx hb dL_law_1225 (by decide) (fun _ => ?_) (fun q => absurd rfl q)
    refine lv_iload hx hb dL_law_1230 (lv_at hl 1 rfl) ?_
    refine lv_if_ne (tgt := 1254) hx hb dL_law_1232 (by decide) (fun q => absurd rfl q) (fun _ => ?_)
    have hval : bI ((nmN fs ss fd ed dd iss sb fst len p2 (-1) kc >>> (p1 &&& 31)) &&& 1 = 1) = bI (hasB (nhN iss sb fst len p2 (goodM fs ss fd ed dd p2 (-1) n) kc) p1) := bI_cong (cov_cov hn hfs hss hok hsb (cdND_ok hcd).1)
    replace hr2 : r2 = bI (hasB (nhN iss sb fst len p2 (goodM fs ss fd ed dd p2 (-1) n) kc) p1) := hr2.trans hval
    refine lv_aload_n hx hb dL_law_1235 rfl (lv_at hl 5 rfl) ?_
    refine lv_iconst (v := 0) hx hb dL_law_1236 (by decide) ?_
    refine va_lald (i := 0) (f := vp_updL f 0 (bI (hasB (nhN iss sb fst len p2 (goodM fs ss fd ed dd p2 (-1) n) kc) p1)).toInt64) hx hb hE.1 hP 37 2 (a := o) rfl rfl k_in0 dL_law_1237 ?_
    rw [updL_0]
    refine lv_iload hx hb dL_law_1238 (lv_at hl 0 rfl) ?_
    refine lv_if_eq (tgt := 1247) hx hb dL_law_1240 (by decide) (fun hz => ?_) (fun hz => ?_)
    · refine lv_lconst (v := 0) hx hb dL_law_1247 rfl ?_
      refine W.lcmp hx hb dL_law_1248 ?_
      refine lv_if_eq (tgt := 1254) hx hb dL_law_1249 (by decide) (fun _ => ?_) (fun q => absurd ((lg_cmp_eq _ _).mpr (by rw [← hr2, hz]; rfl)) q)
      refine lv_goto (tgt := 1505) hx hb dL_law_1254 (by decide) ?_
      exact hkk fs ss fd ed lm dd ce cw n iss sb fst len off ren que kc pins sd dy 0 u en cm wsn (vp_updL f 0 (bI (hasB (nhN iss sb fst len p2 (goodM fs ss fd ed dd p2 (-1) n) kc) p1)).toInt64) H locs ls hI2 hP hD hS (lv_sub hl [2, 3, 4, 5, 6] rfl)
    · refine lv_lconst (v := 1) hx hb dL_law_1243 rfl ?_
      refine lv_goto (tgt := 1248) hx hb dL_law_1244 (by decide) ?_
      refine W.lcmp hx hb dL_law_1248 ?_
      refine lv_if_eq (tgt := 1254) hx hb dL_law_1249 (by decide) (fun _ => ?_) (fun q => absurd ((lg_cmp_eq _ _).mpr (by have h9 := (bI_01 _).resolve_left (fun z => hz (hr2.trans z)); rw [h9]; rfl)) q)
      refine lv_goto (tgt := 1505) hx hb dL_law_1254 (by decide) ?_
      exact hkk fs ss fd ed lm dd ce cw n iss sb fst len off ren que kc pins sd dy 0 u en cm wsn (vp_updL f 0 (bI (hasB (nhN iss sb fst len p2 (goodM fs ss fd ed dd p2 (-1) n) kc) p1)).toInt64) H locs ls hI2 hP hD hS (lv_sub hl [2, 3, 4, 5, 6] rfl)
  · refine kcL_i (n := 4) (X := wM cy m0 m1 m2 m3 m4 m5 m6 m7 m8 m9 m10 m11 m12 m13 m14 m15 m16 m17 th dy sd n fd ed lm fs ss dd pins ag en cm kc sb iss fst len off ren wsn) (wc := wH cy h pn a0 a1 a2 a3 a4 a5 a6 a7 a8 b0 b1 b2 b3 b4 b5 b6 b7 fs ss fd ed lm dd ce cw n iss sb fst len off ren que kc pins sd dy ++ kout cy o f) (Y := []) (As := [.ref h, .int p1, .int p2, .ref o]) (rest := []) ⟨hx, hb, hml, hown, hts⟩ hE hA hZ (by rw [List.append_nil]; exact hP) (by rw [List.append_nil]; exact hD) hS (c_L_isCovered_f l D cy hfl h pn a0 a1 a2 a3 a4 a5 a6 a7 a8 b0 b1 b2 b3 b4 b5 b6 b7 fs ss fd ed lm dd ce cw n iss sb fst len off ren que kc pins sd dy p1 p2 hn hk hcd o f) (Eq.trans (b := [h, a0, a1, a2, a3, a4, a5, a6, a7, a8, b0, b1, b2, b3, b4, b5, b6, b7, pn, o]) rfl rfl) gL_law_L_isCovered rfl rfl rfl ⟨by decide, by decide, by decide +kernel⟩ ⟨Nat.le_of_ble_eq_true rfl, Nat.le_of_ble_eq_true rfl⟩ rfl hl.1 rfl (Nat.le_of_ble_eq_true rfl) dL_law_1196 hf (fun r H locs hr hP hD hS => ?_)
    rw [List.append_nil] at hP hD
    have hf1 : cells + 1 ≤ 1078 ∧ slots + 6 ≤ 9341 := hf
    replace hr : r = cdND p1 p2 := hr
    refine lv_istore (lv' := [(5, .int r), (0, .ref b), (1, .ref h), (2, .ref m0), (3, .ref o), (4, .int x)]) hx hb dL_law_1199 hl (by decide) rfl (fun ls hl => ?_)
    refine lv_aload_n hx hb dL_law_1201 rfl (lv_at hl 3 rfl) ?_
    refine kl_rd (k := 1) hx hb hX hbl hS (lv_at hl 1 rfl) (lv_at hl 5 rfl) rfl (hin 1 (by decide)) q1 dL_law_1202 dL_law_1203 dL_law_1205 dL_law_1206 dL_law_1207 ?_
    refine kl_rd (k := 2) hx hb hX hbl hS (lv_at hl 1 rfl) (lv_at hl 5 rfl) rfl (hin 2 (by decide)) q2 dL_law_1208 dL_law_1209 dL_law_1211 dL_law_1212 dL_law_1213 ?_
    have hcq : cdND p1 p2 = cdND p1 p2 := rfl
    refine kcV_i (n := 2) (X := []) (wc := wM cy m0 m1 m2 m3 m4 m5 m6 m7 m8 m9 m10 m11 m12 m13 m14 m15 m16 m17 th dy sd n fd ed lm fs ss dd pins ag en cm kc sb iss fst len off ren wsn) (Y := wH cy h pn a0 a1 a2 a3 a4 a5 a6 a7 a8 b0 b1 b2 b3 b4 b5 b6 b7 fs ss fd ed lm dd ce cw n iss sb fst len off ren que kc pins sd dy ++ kout cy o f) (As := [.int p1, .int p2]) (rest := []) ⟨hx, hb, hml, hown, hts⟩ hE hA hP hD hS (c_X3_isCovered_f l D cy m0 m1 m2 m3 m4 m5 m6 m7 m8 m9 m10 m11 m12 m13 m14 m15 m16 m17 th dy sd n fd ed lm fs ss dd pins ag en cm kc sb iss fst len off ren wsn p1 p2 hn hk hfs hss hok (fun q => hcd (hcq.symm.trans q))) (fun _ => Eq.trans (b := [m0, m1, m2, m3, m4, m5, m6, m7, m8, m9, m10, m11, m12, m13, m14, m15, m16, m17]) rfl rfl) (q0 := 0) (ci := 3) rfl rfl gL_law_X3_isCovered rfl rfl rfl ⟨rfl, by decide, by decide, by decide +kernel⟩ ⟨Nat.le_of_ble_eq_true rfl, Nat.le_of_ble_eq_true rfl⟩ rfl hl.1 rfl (Nat.le_of_ble_eq_true rfl) dL_law_1214 hf1 (fun r2 u H locs hr2 hP hD hS => ?_)
    rw [List.nil_append] at hP hD
    refine lv_istore (lv' := [(6, .int r2), (5, .int r), (0, .ref b), (1, .ref h), (2, .ref m0), (3, .ref o), (4, .int x)]) hx hb dL_law_1217 hl (by decide) rfl (fun ls hl => ?_)
    refine lv_aload_n hx hb dL_law_1219 rfl (lv_at hl 4 rfl) ?_
    refine kcV_i (n := 0) (X := []) (wc := wM cy m0 m1 m2 m3 m4 m5 m6 m7 m8 m9 m10 m11 m12 m13 m14 m15 m16 m17 (cdND p1 p2) dy sd n fd ed lm fs ss dd pins u en cm kc sb iss fst len off ren wsn) (Y := wH cy h pn a0 a1 a2 a3 a4 a5 a6 a7 a8 b0 b1 b2 b3 b4 b5 b6 b7 fs ss fd ed lm dd ce cw n iss sb fst len off ren que kc pins sd dy ++ kout cy o f) (As := []) (rest := []) ⟨hx, hb, hml, hown, hts⟩ hE hA hP hD hS (c_X3_thrown l D cy m0 m1 m2 m3 m4 m5 m6 m7 m8 m9 m10 m11 m12 m13 m14 m15 m16 m17 (cdND p1 p2) dy sd n fd ed lm fs ss dd pins u en cm kc sb iss fst len off ren wsn) (fun _ => Eq.trans (b := [m0, m1, m2, m3, m4, m5, m6, m7, m8, m9, m10, m11, m12, m13, m14, m15, m16, m17]) rfl rfl) (q0 := 0) (ci := 3) rfl rfl gL_law_X3_thrown rfl rfl rfl ⟨rfl, by decide, by decide, by decide +kernel⟩ ⟨Nat.le_of_ble_eq_true rfl, Nat.le_of_ble_eq_true rfl⟩ rfl hl.1 rfl (Nat.le_of_ble_eq_true rfl) dL_law_1220 hf1 (fun r3 u3 H locs hr3 hP hD hS => ?_)
    rw [List.nil_append] at hP hD
    replace hr3 : r3 = cdND p1 p2 := hr3
    refine lv_iload hx hb dL_law_1223 (lv_at hl 1 rfl) ?_
    refine lv_icmp_eq (tgt := 1230) hx hb dL_law_1225 (by decide) (fun _ => ?_) (fun q => absurd (hr3.trans (hcq.trans hr.symm)) q)
    refine lv_iload hx hb dL_law_1230 (lv_at hl 1 rfl) ?_
    refine lv_if_ne (tgt := 1254) hx hb dL_law_1232 (by decide) (fun _ => ?_) (fun q => absurd (hr.symm.trans q) hcd)
    refine lv_goto (tgt := 1505) hx hb dL_law_1254 (by decide) ?_
    exact hkk fs ss fd ed lm dd ce cw n iss sb fst len off ren que kc pins sd dy (cdND p1 p2) u en cm wsn f H locs ls hI hP hD hS (lv_sub hl [2, 3, 4, 5, 6] rfl)
set_option maxHeartbeats 4000000 in
set_option maxRecDepth 100000 in
theorem rd_nextGap {p : Program} {l : Launch} {e : Env} {s : State} {m : MethodId} {below : List Frame} {meth : Method} {c : Code} {H : Heap} {locs : List Loc} {cells slots : Nat} {Q : State → Prop} {ls : Array Slot} {D : va_G} {cy : ClassId × ClassId × ClassId} {b L : Nat} {xs : Nat → Int32} (h pn a0 a1 a2 a3 a4 a5 a6 a7 a8 b0 b1 b2 b3 b4 b5 b6 b7 m0 m1 m2 m3 m4 m5 m6 m7 m8 m9 m10 m11 m12 m13 m14 m15 m16 m17 o : Nat) (fs ss fd ed lm dd ce cw : Nat → Int32) (n : Nat) (iss sb fst len off ren que : Nat → Int32) (kc : Nat) (pins : Nat → Int32) (sd dy th : Int32) (ag en cm wsn : Nat → Int32) (f : Nat → Int64) {x p1 p2 : Int32} (C : LC p l s m c D cy b L xs) (hI : LInv n kc fs ss ed lm ce cw iss sb len) (hin : ∀ k, k < 5 → vp_in (x + nI k) L) (q1 : xs (x + nI 1).toNatClampNeg = p1) (q2 : xs (x + nI 2).toNatClampNeg = p2) (hf : cells + 1 ≤ 1078 ∧ slots + 6 ≤ 9341) (hP : va_P D vwCl (wWL cy h pn a0 a1 a2 a3 a4 a5 a6 a7 a8 b0 b1 b2 b3 b4 b5 b6 b7 m0 m1 m2 m3 m4 m5 m6 m7 m8 m9 m10 m11 m12 m13 m14 m15 m16 m17 o fs ss fd ed lm dd ce cw n iss sb fst len off ren que kc pins sd dy th ag en cm wsn f) H) (hD : va_D (lwA s) (wWL cy h pn a0 a1 a2 a3 a4 a5 a6 a7 a8 b0 b1 b2 b3 b4 b5 b6 b7 m0 m1 m2 m3 m4 m5 m6 m7 m8 m9 m10 m11 m12 m13 m14 m15 m16 m17 o fs ss fd ed lm dd ce cw n iss sb fst len off ren que kc pins sd dy th ag en cm wsn f)) (hS : va_S (lwA s) s.heap H locs) (hl : lv_has ls 7 [(0, .ref b), (1, .ref h), (2, .ref m0), (3, .ref o), (4, .int x)]) (hkk : LK p l e s m below meth c Q D cy b x h pn a0 a1 a2 a3 a4 a5 a6 a7 a8 b0 b1 b2 b3 b4 b5 b6 b7 m0 m1 m2 m3 m4 m5 m6 m7 m8 m9 m10 m11 m12 m13 m14 m15 m16 m17 o (cells + 1) (slots + 6)) : W p l e room_1 s m #[Value.ref b] below meth c H locs cells slots Q (F0 m 1257 ls []) := by
  obtain ⟨hx, hb, hml, hown, hts, hX, hbl, hE, hZ, hfl⟩ := C
  obtain ⟨hn, hk, hfs, hss, hro, hlm, hok, hsb, hce, hcw⟩ := id hI
  have hA : ∀ q : Nat, s.heap.size ≤ q → lwA s q := fun _ h => h
  refine lv_aload_n hx hb dL_law_1257 rfl (lv_at hl 1 rfl) ?_
  refine kl_rd (k := 1) hx hb hX hbl hS (lv_at hl 0 rfl) (lv_at hl 4 rfl) rfl (hin 1 (by decide)) q1 dL_law_1258 dL_law_1259 dL_law_1261 dL_law_1262 dL_law_1263 ?_
  refine kl_rd (k := 2) hx hb hX hbl hS (lv_at hl 0 rfl) (lv_at hl 4 rfl) rfl (hin 2 (by decide)) q2 dL_law_1264 dL_law_1265 dL_law_1267 dL_law_1268 dL_law_1269 ?_
  refine lv_aload_n hx hb dL_law_1270 rfl (lv_at hl 3 rfl) ?_
  by_cases hcd : cdND p1 p2 = 0
  · refine kcL_i (n := 4) (X := wM cy m0 m1 m2 m3 m4 m5 m6 m7 m8 m9 m10 m11 m12 m13 m14 m15 m16 m17 th dy sd n fd ed lm fs ss dd pins ag en cm kc sb iss fst len off ren wsn) (wc := wH cy h pn a0 a1 a2 a3 a4 a5 a6 a7 a8 b0 b1 b2 b3 b4 b5 b6 b7 fs ss fd ed lm dd ce cw n iss sb fst len off ren que kc pins sd dy ++ kout cy o f) (Y := []) (As := [.ref h, .int p1, .int p2, .ref o]) (rest := []) ⟨hx, hb, hml, hown, hts⟩ hE hA hZ (by rw [List.append_nil]; exact hP) (by rw [List.append_nil]; exact hD) hS (c_L_nextGap l D cy hfl h pn a0 a1 a2 a3 a4 a5 a6 a7 a8 b0 b1 b2 b3 b4 b5 b6 b7 fs ss fd ed lm dd ce cw n iss sb fst len off ren que kc pins sd dy p1 p2 hn hk hcd o f) (Eq.trans (b := [h, a0, a1, a2, a3, a4, a5, a6, a7, a8, b0, b1, b2, b3, b4, b5, b6, b7, pn, o]) rfl rfl) gL_law_L_nextGap rfl rfl rfl ⟨by decide, by decide, by decide +kernel⟩ ⟨Nat.le_of_ble_eq_true rfl, Nat.le_of_ble_eq_true rfl⟩ rfl hl.1 rfl (Nat.le_of_ble_eq_true rfl) dL_law_1271 hf (fun r H locs hr hP hD hS => ?_)
    rw [List.append_nil] at hP hD
    have hf1 : cells + 1 ≤ 1078 ∧ slots + 6 ≤ 9341 := hf
    replace hr : r = 0 := hr
    subst hr
    refine lv_istore (lv' := [(5, .int 0), (0, .ref b), (1, .ref h), (2, .ref m0), (3, .ref o), (4, .int x)]) hx hb dL_law_1274 hl (by decide) rfl (fun ls hl => ?_)
    refine lv_aload_n hx hb dL_law_1276 rfl (lv_at hl 3 rfl) ?_
    refine kl_rd (k := 1) hx hb hX hbl hS (lv_at hl 1 rfl) (lv_at hl 5 rfl) rfl (hin 1 (by decide)) q1 dL_law_1277 dL_law_1278 dL_law_1280 dL_law_1281 dL_law_1282 ?_
    refine kl_rd (k := 2) hx hb hX hbl hS (lv_at hl 1 rfl) (lv_at hl 5 rfl) rfl (hin 2 (by decide)) q2 dL_law_1283 dL_law_1284 dL_law_1286 dL_law_1287 dL_law_1288 ?_
    have hcq : cdND p1 p2 = cdND p1 p2 := rfl
    have hI2 : LInv n kc fs ss ed lm ce cw iss sb len := hI
    refine kcV_i (n := 2) (X := []) (wc := wM cy m0 m1 m2 m3 m4 m5 m6 m7 m8 m9 m10 m11 m12 m13 m14 m15 m16 m17 th dy sd n fd ed lm fs ss dd pins ag en cm kc sb iss fst len off ren wsn) (Y := wH cy h pn a0 a1 a2 a3 a4 a5 a6 a7 a8 b0 b1 b2 b3 b4 b5 b6 b7 fs ss fd ed lm dd ce cw n iss sb fst len off ren que kc pins sd dy ++ kout cy o (vp_updL f 0 (ngC fs ss fd ed dd n iss sb fst len kc p1 (5001 - ix p2) (ix p2)).toInt64)) (As := [.int p1, .int p2]) (rest := []) ⟨hx, hb, hml, hown, hts⟩ hE hA hP hD hS (c_X3_nextGap l D cy m0 m1 m2 m3 m4 m5 m6 m7 m8 m9 m10 m11 m12 m13 m14 m15 m16 m17 th dy sd n fd ed lm fs ss dd pins ag en cm kc sb iss fst len off ren wsn p1 p2 hn hk hfs hss hok (hcq.trans hcd)) (fun _ => Eq.trans (b := [m0, m1, m2, m3, m4, m5, m6, m7, m8, m9, m10, m11, m12, m13, m14, m15, m16, m17]) rfl rfl) (q0 := 0) (ci := 3) rfl rfl gL_law_X3_nextGap rfl rfl rfl ⟨rfl, by decide, by decide, by decide +kernel⟩ ⟨Nat.le_of_ble_eq_true rfl, Nat.le_of_ble_eq_true rfl⟩ rfl hl.1 rfl (Nat.le_of_ble_eq_true rfl) dL_law_1289 hf1 (fun r2 u H locs hr2 hP hD hS => ?_)
    rw [List.nil_append] at hP hD
    refine lv_istore (lv' := [(6, .int r2), (5, .int 0), (0, .ref b), (1, .ref h), (2, .ref m0), (3, .ref o), (4, .int x)]) hx hb dL_law_1292 hl (by decide) rfl (fun ls hl => ?_)
    refine lv_aload_n hx hb dL_law_1294 rfl (lv_at hl 4 rfl) ?_
    refine kcV_i (n := 0) (X := []) (wc := wM cy m0 m1 m2 m3 m4 m5 m6 m7 m8 m9 m10 m11 m12 m13 m14 m15 m16 m17 0 dy sd n fd ed lm fs ss dd pins u en cm kc sb iss fst len off ren wsn) (Y := wH cy h pn a0 a1 a2 a3 a4 a5 a6 a7 a8 b0 b1 b2 b3 b4 b5 b6 b7 fs ss fd ed lm dd ce cw n iss sb fst len off ren que kc pins sd dy ++ kout cy o (vp_updL f 0 (ngC fs ss fd ed dd n iss sb fst len kc p1 (5001 - ix p2) (ix p2)).toInt64)) (As := []) (rest := []) ⟨hx, hb, hml, hown, hts⟩ hE hA hP hD hS (c_X3_thrown l D cy m0 m1 m2 m3 m4 m5 m6 m7 m8 m9 m10 m11 m12 m13 m14 m15 m16 m17 0 dy sd n fd ed lm fs ss dd pins u en cm kc sb iss fst len off ren wsn) (fun _ => Eq.trans (b := [m0, m1, m2, m3, m4, m5, m6, m7, m8, m9, m10, m11, m12, m13, m14, m15, m16, m17]) rfl rfl) (q0 := 0) (ci := 3) rfl rfl gL_law_X3_thrown rfl rfl rfl ⟨rfl, by decide, by decide, by decide +kernel⟩ ⟨Nat.le_of_ble_eq_true rfl, Nat.le_of_ble_eq_true rfl⟩ rfl hl.1 rfl (Nat.le_of_ble_eq_true rfl) dL_law_1295 hf1 (fun r3 u3 H locs hr3 hP hD hS => ?_)
    rw [List.nil_append] at hP hD
    replace hr3 : r3 = 0 := hr3
    subst hr3
    refine lv_iload hx hb dL_law_1298 (lv_at hl 1 rfl) ?_
    refine lv_icmp_eq (tgt := 1305) hx hb dL_law_1300 (by decide) (fun _ => ?_) (fun q => absurd rfl q)
    refine lv_iload hx hb dL_law_1305 (lv_at hl 1 rfl) ?_
    refine lv_if_ne (tgt := 1322) hx hb dL_law_1307 (by decide) (fun q => absurd rfl q) (fun _ => ?_)
    have hval : ngM fs ss fd ed dd iss sb fst len kc p1 (5001 - ix p2) (ix p2) = ngC fs ss fd ed dd n iss sb fst len kc p1 (5001 - ix p2) (ix p2) := ng_ng hn hfs hss hok hsb (cdND_ok hcd).1 _ _
    replace hr2 : r2 = ngC fs ss fd ed dd n iss sb fst len kc p1 (5001 - ix p2) (ix p2) := hr2.trans hval
    refine lv_aload_n hx hb dL_law_1310 rfl (lv_at hl 5 rfl) ?_
    refine lv_iconst (v := 0) hx hb dL_law_1311 (by decide) ?_
    refine va_lald (i := 0) (f := vp_updL f 0 (ngC fs ss fd ed dd n iss sb fst len kc p1 (5001 - ix p2) (ix p2)).toInt64) hx hb hE.1 hP 37 2 (a := o) rfl rfl k_in0 dL_law_1312 ?_
    rw [updL_0]
    refine lv_iload hx hb dL_law_1313 (lv_at hl 0 rfl) ?_
    refine lv_i2l (v := r2.toInt64) hx hb dL_law_1315 rfl ?_
    refine W.lcmp hx hb dL_law_1316 ?_
    refine lv_if_eq (tgt := 1322) hx hb dL_law_1317 (by decide) (fun _ => ?_) (fun q => absurd ((lg_cmp_eq _ _).mpr (by rw [hr2])) q)
    refine lv_goto (tgt := 1505) hx hb dL_law_1322 (by decide) ?_
    exact hkk fs ss fd ed lm dd ce cw n iss sb fst len off ren que kc pins sd dy 0 u en cm wsn (vp_updL f 0 (ngC fs ss fd ed dd n iss sb fst len kc p1 (5001 - ix p2) (ix p2)).toInt64) H locs ls hI2 hP hD hS (lv_sub hl [2, 3, 4, 5, 6] rfl)
  · refine kcL_i (n := 4) (X := wM cy m0 m1 m2 m3 m4 m5 m6 m7 m8 m9 m10 m11 m12 m13 m14 m15 m16 m17 th dy sd n fd ed lm fs ss dd pins ag en cm kc sb iss fst len off ren wsn) (wc := wH cy h pn a0 a1 a2 a3 a4 a5 a6 a7 a8 b0 b1 b2 b3 b4 b5 b6 b7 fs ss fd ed lm dd ce cw n iss sb fst len off ren que kc pins sd dy ++ kout cy o f) (Y := []) (As := [.ref h, .int p1, .int p2, .ref o]) (rest := []) ⟨hx, hb, hml, hown, hts⟩ hE hA hZ (by rw [List.append_nil]; exact hP) (by rw [List.append_nil]; exact hD) hS (c_L_nextGap_f l D cy hfl h pn a0 a1 a2 a3 a4 a5 a6 a7 a8 b0 b1 b2 b3 b4 b5 b6 b7 fs ss fd ed lm dd ce cw n iss sb fst len off ren que kc pins sd dy p1 p2 hn hk hcd o f) (Eq.trans (b := [h, a0, a1, a2, a3, a4, a5, a6, a7, a8, b0, b1, b2, b3, b4, b5, b6, b7, pn, o]) rfl rfl) gL_law_L_nextGap rfl rfl rfl ⟨by decide, by decide, by decide +kernel⟩ ⟨Nat.le_of_ble_eq_true rfl, Nat.le_of_ble_eq_true rfl⟩ rfl hl.1 rfl (Nat.le_of_ble_eq_true rfl) dL_law_1271 hf (fun r H locs hr hP hD hS => ?_)
    rw [List.append_nil] at hP hD
    have hf1 : cells + 1 ≤ 1078 ∧ slots + 6 ≤ 9341 := hf
    replace hr : r = cdND p1 p2 := hr
    refine lv_istore (lv' := [(5, .int r), (0, .ref b), (1, .ref h), (2, .ref m0), (3, .ref o), (4, .int x)]) hx hb dL_law_1274 hl (by decide) rfl (fun ls hl => ?_)
    refine lv_aload_n hx hb dL_law_1276 rfl (lv_at hl 3 rfl) ?_
    refine kl_rd (k := 1) hx hb hX hbl hS (lv_at hl 1 rfl) (lv_at hl 5 rfl) rfl (hin 1 (by decide)) q1 dL_law_1277 dL_law_1278 dL_law_1280 dL_law_1281 dL_law_1282 ?_
    refine kl_rd (k := 2) hx hb hX hbl hS (lv_at hl 1 rfl) (lv_at hl 5 rfl) rfl (hin 2 (by decide)) q2 dL_law_1283 dL_law_1284 dL_law_1286 dL_law_1287 dL_law_1288 ?_
    have hcq : cdND p1 p2 = cdND p1 p2 := rfl
    refine kcV_i (n := 2) (X := []) (wc := wM cy m0 m1 m2 m3 m4 m5 m6 m7 m8 m9 m10 m11 m12 m13 m14 m15 m16 m17 th dy sd n fd ed lm fs ss dd pins ag en cm kc sb iss fst len off ren wsn) (Y := wH cy h pn a0 a1 a2 a3 a4 a5 a6 a7 a8 b0 b1 b2 b3 b4 b5 b6 b7 fs ss fd ed lm dd ce cw n iss sb fst len off ren que kc pins sd dy ++ kout cy o f) (As := [.int p1, .int p2]) (rest := []) ⟨hx, hb, hml, hown, hts⟩ hE hA hP hD hS (c_X3_nextGap_f l D cy m0 m1 m2 m3 m4 m5 m6 m7 m8 m9 m10 m11 m12 m13 m14 m15 m16 m17 th dy sd n fd ed lm fs ss dd pins ag en cm kc sb iss fst len off ren wsn p1 p2 hn hk hfs hss hok (fun q => hcd (hcq.symm.trans q))) (fun _ => Eq.trans (b := [m0, m1, m2, m3, m4, m5, m6, m7, m8, m9, m10, m11, m12, m13, m14, m15, m16, m17]) rfl rfl) (q0 := 0) (ci := 3) rfl rfl gL_law_X3_nextGap rfl rfl rfl ⟨rfl, by decide, by decide, by decide +kernel⟩ ⟨Nat.le_of_ble_eq_true rfl, Nat.le_of_ble_eq_true rfl⟩ rfl hl.1 rfl (Nat.le_of_ble_eq_true rfl) dL_law_1289 hf1 (fun r2 u H locs hr2 hP hD hS => ?_)
    rw [List.nil_append] at hP hD
    refine lv_istore (lv' := [(6, .int r2), (5, .int r), (0, .ref b), (1, .ref h), (2, .ref m0), (3, .ref o), (4, .int x)]) hx hb dL_law_1292 hl (by decide) rfl (fun ls hl => ?_)
    refine lv_aload_n hx hb dL_law_1294 rfl (lv_at hl 4 rfl) ?_
    refine kcV_i (n := 0) (X := []) (wc := wM cy m0 m1 m2 m3 m4 m5 m6 m7 m8 m9 m10 m11 m12 m13 m14 m15 m16 m17 (cdND p1 p2) dy sd n fd ed lm fs ss dd pins u en cm kc sb iss fst len off ren wsn) (Y := wH cy h pn a0 a1 a2 a3 a4 a5 a6 a7 a8 b0 b1 b2 b3 b4 b5 b6 b7 fs ss fd ed lm dd ce cw n iss sb fst len off ren que kc pins sd dy ++ kout cy o f) (As := []) (rest := []) ⟨hx, hb, hml, hown, hts⟩ hE hA hP hD hS (c_X3_thrown l D cy m0 m1 m2 m3 m4 m5 m6 m7 m8 m9 m10 m11 m12 m13 m14 m15 m16 m17 (cdND p1 p2) dy sd n fd ed lm fs ss dd pins u en cm kc sb iss fst len off ren wsn) (fun _ => Eq.trans (b := [m0, m1, m2, m3, m4, m5, m6, m7, m8, m9, m10, m11, m12, m13, m14, m15, m16, m17]) rfl rfl) (q0 := 0) (ci := 3) rfl rfl gL_law_X3_thrown rfl rfl rfl ⟨rfl, by decide, by decide, by decide +kernel⟩ ⟨Nat.le_of_ble_eq_true rfl, Nat.le_of_ble_eq_true rfl⟩ rfl hl.1 rfl (Nat.le_of_ble_eq_true rfl) dL_law_1295 hf1 (fun r3 u3 H locs hr3 hP hD hS => ?_)
    rw [List.nil_append] at hP hD
    replace hr3 : r3 = cdND p1 p2 := hr3
    refine lv_iload hx hb dL_law_1298 (lv_at hl 1 rfl) ?_
    refine lv_icmp_eq (tgt := 1305) hx hb dL_law_1300 (by decide) (fun _ => ?_) (fun q => absurd (hr3.trans (hcq.trans hr.symm)) q)
    refine lv_iload hx hb dL_law_1305 (lv_at hl 1 rfl) ?_
    refine lv_if_ne (tgt := 1322) hx hb dL_law_1307 (by decide) (fun _ => ?_) (fun q => absurd (hr.symm.trans q) hcd)
    refine lv_goto (tgt := 1505) hx hb dL_law_1322 (by decide) ?_
    exact hkk fs ss fd ed lm dd ce cw n iss sb fst len off ren que kc pins sd dy (cdND p1 p2) u en cm wsn f H locs ls hI hP hD hS (lv_sub hl [2, 3, 4, 5, 6] rfl)
set_option maxHeartbeats 4000000 in
set_option maxRecDepth 100000 in
theorem rd_covered {p : Program} {l : Launch} {e : Env} {s : State} {m : MethodId} {below : List Frame} {meth : Method} {c : Code} {H : Heap} {locs : List Loc} {cells slots : Nat} {Q : State → Prop} {ls : Array Slot} {D : va_G} {cy : ClassId × ClassId × ClassId} {b L : Nat} {xs : Nat → Int32} (h pn a0 a1 a2 a3 a4 a5 a6 a7 a8 b0 b1 b2 b3 b4 b5 b6 b7 m0 m1 m2 m3 m4 m5 m6 m7 m8 m9 m10 m11 m12 m13 m14 m15 m16 m17 o : Nat) (fs ss fd ed lm dd ce cw : Nat → Int32) (n : Nat) (iss sb fst len off ren que : Nat → Int32) (kc : Nat) (pins : Nat → Int32) (sd dy th : Int32) (ag en cm wsn : Nat → Int32) (f : Nat → Int64) {x p1 : Int32} (C : LC p l s m c D cy b L xs) (hI : LInv n kc fs ss ed lm ce cw iss sb len) (hin : ∀ k, k < 5 → vp_in (x + nI k) L) (q1 : xs (x + nI 1).toNatClampNeg = p1) (hf : cells + 1 ≤ 1078 ∧ slots + 6 ≤ 9341) (hP : va_P D vwCl (wWL cy h pn a0 a1 a2 a3 a4 a5 a6 a7 a8 b0 b1 b2 b3 b4 b5 b6 b7 m0 m1 m2 m3 m4 m5 m6 m7 m8 m9 m10 m11 m12 m13 m14 m15 m16 m17 o fs ss fd ed lm dd ce cw n iss sb fst len off ren que kc pins sd dy th ag en cm wsn f) H) (hD : va_D (lwA s) (wWL cy h pn a0 a1 a2 a3 a4 a5 a6 a7 a8 b0 b1 b2 b3 b4 b5 b6 b7 m0 m1 m2 m3 m4 m5 m6 m7 m8 m9 m10 m11 m12 m13 m14 m15 m16 m17 o fs ss fd ed lm dd ce cw n iss sb fst len off ren que kc pins sd dy th ag en cm wsn f)) (hS : va_S (lwA s) s.heap H locs) (hl : lv_has ls 7 [(0, .ref b), (1, .ref h), (2, .ref m0), (3, .ref o), (4, .int x)]) (hkk : LK p l e s m below meth c Q D cy b x h pn a0 a1 a2 a3 a4 a5 a6 a7 a8 b0 b1 b2 b3 b4 b5 b6 b7 m0 m1 m2 m3 m4 m5 m6 m7 m8 m9 m10 m11 m12 m13 m14 m15 m16 m17 o (cells + 1) (slots + 6)) : W p l e room_1 s m #[Value.ref b] below meth c H locs cells slots Q (F0 m 1325 ls []) := by
  obtain ⟨hx, hb, hml, hown, hts, hX, hbl, hE, hZ, hfl⟩ := C
  obtain ⟨hn, hk, hfs, hss, hro, hlm, hok, hsb, hce, hcw⟩ := id hI
  have hA : ∀ q : Nat, s.heap.size ≤ q → lwA s q := fun _ h => h
  refine lv_aload_n hx hb dL_law_1325 rfl (lv_at hl 1 rfl) ?_
  refine kl_rd (k := 1) hx hb hX hbl hS (lv_at hl 0 rfl) (lv_at hl 4 rfl) rfl (hin 1 (by decide)) q1 dL_law_1326 dL_law_1327 dL_law_1329 dL_law_1330 dL_law_1331 ?_
  refine lv_aload_n hx hb dL_law_1332 rfl (lv_at hl 3 rfl) ?_
  by_cases hcd : cdD p1 = 0
  · refine kcL_i (n := 3) (X := wM cy m0 m1 m2 m3 m4 m5 m6 m7 m8 m9 m10 m11 m12 m13 m14 m15 m16 m17 th dy sd n fd ed lm fs ss dd pins ag en cm kc sb iss fst len off ren wsn) (wc := wH cy h pn a0 a1 a2 a3 a4 a5 a6 a7 a8 b0 b1 b2 b3 b4 b5 b6 b7 fs ss fd ed lm dd ce cw n iss sb fst len off ren que kc pins sd dy ++ kout cy o f) (Y := []) (As := [.ref h, .int p1, .ref o]) (rest := []) ⟨hx, hb, hml, hown, hts⟩ hE hA hZ (by rw [List.append_nil]; exact hP) (by rw [List.append_nil]; exact hD) hS (c_L_covered l D cy hfl h pn a0 a1 a2 a3 a4 a5 a6 a7 a8 b0 b1 b2 b3 b4 b5 b6 b7 fs ss fd ed lm dd ce cw n iss sb fst len off ren que kc pins sd dy p1 hn hk hcd o f) (Eq.trans (b := [h, a0, a1, a2, a3, a4, a5, a6, a7, a8, b0, b1, b2, b3, b4, b5, b6, b7, pn, o]) rfl rfl) gL_law_L_covered rfl rfl rfl ⟨by decide, by decide, by decide +kernel⟩ ⟨Nat.le_of_ble_eq_true rfl, Nat.le_of_ble_eq_true rfl⟩ rfl hl.1 rfl (Nat.le_of_ble_eq_true rfl) dL_law_1333 hf (fun r H locs hr hP hD hS => ?_)
    rw [List.append_nil] at hP hD
    have hf1 : cells + 1 ≤ 1078 ∧ slots + 6 ≤ 9341 := hf
    replace hr : r = 0 := hr
    subst hr
    refine lv_istore (lv' := [(5, .int 0), (0, .ref b), (1, .ref h), (2, .ref m0), (3, .ref o), (4, .int x)]) hx hb dL_law_1336 hl (by decide) rfl (fun ls hl => ?_)
    refine lv_aload_n hx hb dL_law_1338 rfl (lv_at hl 3 rfl) ?_
    refine kl_rd (k := 1) hx hb hX hbl hS (lv_at hl 1 rfl) (lv_at hl 5 rfl) rfl (hin 1 (by decide)) q1 dL_law_1339 dL_law_1340 dL_law_1342 dL_law_1343 dL_law_1344 ?_
    have hcq : cdD p1 = cdD p1 := rfl
    have hI2 : LInv n kc fs ss ed lm ce cw iss sb len := hI
    refine kcV_i (n := 1) (X := []) (wc := wM cy m0 m1 m2 m3 m4 m5 m6 m7 m8 m9 m10 m11 m12 m13 m14 m15 m16 m17 th dy sd n fd ed lm fs ss dd pins ag en cm kc sb iss fst len off ren wsn) (Y := wH cy h pn a0 a1 a2 a3 a4 a5 a6 a7 a8 b0 b1 b2 b3 b4 b5 b6 b7 fs ss fd ed lm dd ce cw n iss sb fst len off ren que kc pins sd dy ++ kout cy o (vp_updL f 0 (nhN iss sb fst len p1 (goodM fs ss fd ed dd p1 (-1) n) kc).toInt64)) (As := [.int p1]) (rest := []) ⟨hx, hb, hml, hown, hts⟩ hE hA hP hD hS (c_X3_covered l D cy m0 m1 m2 m3 m4 m5 m6 m7 m8 m9 m10 m11 m12 m13 m14 m15 m16 m17 th dy sd n fd ed lm fs ss dd pins ag en cm kc sb iss fst len off ren wsn p1 hn hk hfs hss hok (hcq.trans hcd)) (fun _ => Eq.trans (b := [m0, m1, m2, m3, m4, m5, m6, m7, m8, m9, m10, m11, m12, m13, m14, m15, m16, m17]) rfl rfl) (q0 := 0) (ci := 3) rfl rfl gL_law_X3_covered rfl rfl rfl ⟨rfl, by decide, by decide, by decide +kernel⟩ ⟨Nat.le_of_ble_eq_true rfl, Nat.le_of_ble_eq_true rfl⟩ rfl hl.1 rfl (Nat.le_of_ble_eq_true rfl) dL_law_1345 hf1 (fun r2 u H locs hr2 hP hD hS => ?_)
    rw [List.nil_append] at hP hD
    refine lv_istore (lv' := [(6, .int r2), (5, .int 0), (0, .ref b), (1, .ref h), (2, .ref m0), (3, .ref o), (4, .int x)]) hx hb dL_law_1348 hl (by decide) rfl (fun ls hl => ?_)
    refine lv_aload_n hx hb dL_law_1350 rfl (lv_at hl 4 rfl) ?_
    refine kcV_i (n := 0) (X := []) (wc := wM cy m0 m1 m2 m3 m4 m5 m6 m7 m8 m9 m10 m11 m12 m13 m14 m15 m16 m17 0 dy sd n fd ed lm fs ss dd pins u en cm kc sb iss fst len off ren wsn) (Y := wH cy h pn a0 a1 a2 a3 a4 a5 a6 a7 a8 b0 b1 b2 b3 b4 b5 b6 b7 fs ss fd ed lm dd ce cw n iss sb fst len off ren que kc pins sd dy ++ kout cy o (vp_updL f 0 (nhN iss sb fst len p1 (goodM fs ss fd ed dd p1 (-1) n) kc).toInt64)) (As := []) (rest := []) ⟨hx, hb, hml, hown, hts⟩ hE hA hP hD hS (c_X3_thrown l D cy m0 m1 m2 m3 m4 m5 m6 m7 m8 m9 m10 m11 m12 m13 m14 m15 m16 m17 0 dy sd n fd ed lm fs ss dd pins u en cm kc sb iss fst len off ren wsn) (fun _ => Eq.trans (b := [m0, m1, m2, m3, m4, m5, m6, m7, m8, m9, m10, m11, m12, m13, m14, m15, m16, m17]) rfl rfl) (q0 := 0) (ci := 3) rfl rfl gL_law_X3_thrown rfl rfl rfl ⟨rfl, by decide, by decide, by decide +kernel⟩ ⟨Nat.le_of_ble_eq_true rfl, Nat.le_of_ble_eq_true rfl⟩ rfl hl.1 rfl (Nat.le_of_ble_eq_true rfl) dL_law_1351 hf1 (fun r3 u3 H locs hr3 hP hD hS => ?_)
    rw [List.nil_append] at hP hD
    replace hr3 : r3 = 0 := hr3
    subst hr3
    refine lv_iload hx hb dL_law_1354 (lv_at hl 1 rfl) ?_
    refine lv_icmp_eq (tgt := 1361) hx hb dL_law_1356 (by decide) (fun _ => ?_) (fun q => absurd rfl q)
    refine lv_iload hx hb dL_law_1361 (lv_at hl 1 rfl) ?_
    refine lv_if_ne (tgt := 1378) hx hb dL_law_1363 (by decide) (fun q => absurd rfl q) (fun _ => ?_)
    have hval : nmN fs ss fd ed dd iss sb fst len p1 (-1) kc = nhN iss sb fst len p1 (goodM fs ss fd ed dd p1 (-1) n) kc := (nh_nm hn hfs hss hok hsb kc (Nat.le_refl _)).symm
    replace hr2 : r2 = nhN iss sb fst len p1 (goodM fs ss fd ed dd p1 (-1) n) kc := hr2.trans hval
    refine lv_aload_n hx hb dL_law_1366 rfl (lv_at hl 5 rfl) ?_
    refine lv_iconst (v := 0) hx hb dL_law_1367 (by decide) ?_
    refine va_lald (i := 0) (f := vp_updL f 0 (nhN iss sb fst len p1 (goodM fs ss fd ed dd p1 (-1) n) kc).toInt64) hx hb hE.1 hP 37 2 (a := o) rfl rfl k_in0 dL_law_1368 ?_
    rw [updL_0]
    refine lv_iload hx hb dL_law_1369 (lv_at hl 0 rfl) ?_
    refine lv_i2l (v := r2.toInt64) hx hb dL_law_1371 rfl ?_
    refine W.lcmp hx hb dL_law_1372 ?_
    refine lv_if_eq (tgt := 1378) hx hb dL_law_1373 (by decide) (fun _ => ?_) (fun q => absurd ((lg_cmp_eq _ _).mpr (by rw [hr2])) q)
    refine lv_goto (tgt := 1505) hx hb dL_law_1378 (by decide) ?_
    exact hkk fs ss fd ed lm dd ce cw n iss sb fst len off ren que kc pins sd dy 0 u en cm wsn (vp_updL f 0 (nhN iss sb fst len p1 (goodM fs ss fd ed dd p1 (-1) n) kc).toInt64) H locs ls hI2 hP hD hS (lv_sub hl [2, 3, 4, 5, 6] rfl)
  · refine kcL_i (n := 3) (X := wM cy m0 m1 m2 m3 m4 m5 m6 m7 m8 m9 m10 m11 m12 m13 m14 m15 m16 m17 th dy sd n fd ed lm fs ss dd pins ag en cm kc sb iss fst len off ren wsn) (wc := wH cy h pn a0 a1 a2 a3 a4 a5 a6 a7 a8 b0 b1 b2 b3 b4 b5 b6 b7 fs ss fd ed lm dd ce cw n iss sb fst len off ren que kc pins sd dy ++ kout cy o f) (Y := []) (As := [.ref h, .int p1, .ref o]) (rest := []) ⟨hx, hb, hml, hown, hts⟩ hE hA hZ (by rw [List.append_nil]; exact hP) (by rw [List.append_nil]; exact hD) hS (c_L_covered_f l D cy hfl h pn a0 a1 a2 a3 a4 a5 a6 a7 a8 b0 b1 b2 b3 b4 b5 b6 b7 fs ss fd ed lm dd ce cw n iss sb fst len off ren que kc pins sd dy p1 hn hk hcd o f) (Eq.trans (b := [h, a0, a1, a2, a3, a4, a5, a6, a7, a8, b0, b1, b2, b3, b4, b5, b6, b7, pn, o]) rfl rfl) gL_law_L_covered rfl rfl rfl ⟨by decide, by decide, by decide +kernel⟩ ⟨Nat.le_of_ble_eq_true rfl, Nat.le_of_ble_eq_true rfl⟩ rfl hl.1 rfl (Nat.le_of_ble_eq_true rfl) dL_law_1333 hf (fun r H locs hr hP hD hS => ?_)
    rw [List.append_nil] at hP hD
    have hf1 : cells + 1 ≤ 1078 ∧ slots + 6 ≤ 9341 := hf
    replace hr : r = cdD p1 := hr
    refine lv_istore (lv' := [(5, .int r), (0, .ref b), (1, .ref h), (2, .ref m0), (3, .ref o), (4, .int x)]) hx hb dL_law_1336 hl (by decide) rfl (fun ls hl => ?_)
    refine lv_aload_n hx hb dL_law_1338 rfl (lv_at hl 3 rfl) ?_
    refine kl_rd (k := 1) hx hb hX hbl hS (lv_at hl 1 rfl) (lv_at hl 5 rfl) rfl (hin 1 (by decide)) q1 dL_law_1339 dL_law_1340 dL_law_1342 dL_law_1343 dL_law_1344 ?_
    have hcq : cdD p1 = cdD p1 := rfl
    refine kcV_i (n := 1) (X := []) (wc := wM cy m0 m1 m2 m3 m4 m5 m6 m7 m8 m9 m10 m11 m12 m13 m14 m15 m16 m17 th dy sd n fd ed lm fs ss dd pins ag en cm kc sb iss fst len off ren wsn) (Y := wH cy h pn a0 a1 a2 a3 a4 a5 a6 a7 a8 b0 b1 b2 b3 b4 b5 b6 b7 fs ss fd ed lm dd ce cw n iss sb fst len off ren que kc pins sd dy ++ kout cy o f) (As := [.int p1]) (rest := []) ⟨hx, hb, hml, hown, hts⟩ hE hA hP hD hS (c_X3_covered_f l D cy m0 m1 m2 m3 m4 m5 m6 m7 m8 m9 m10 m11 m12 m13 m14 m15 m16 m17 th dy sd n fd ed lm fs ss dd pins ag en cm kc sb iss fst len off ren wsn p1 hn hk hfs hss hok (fun q => hcd (hcq.symm.trans q))) (fun _ => Eq.trans (b := [m0, m1, m2, m3, m4, m5, m6, m7, m8, m9, m10, m11, m12, m13, m14, m15, m16, m17]) rfl rfl) (q0 := 0) (ci := 3) rfl rfl gL_law_X3_covered rfl rfl rfl ⟨rfl, by decide, by decide, by decide +kernel⟩ ⟨Nat.le_of_ble_eq_true rfl, Nat.le_of_ble_eq_true rfl⟩ rfl hl.1 rfl (Nat.le_of_ble_eq_true rfl) dL_law_1345 hf1 (fun r2 u H locs hr2 hP hD hS => ?_)
    rw [List.nil_append] at hP hD
    refine lv_istore (lv' := [(6, .int r2), (5, .int r), (0, .ref b), (1, .ref h), (2, .ref m0), (3, .ref o), (4, .int x)]) hx hb dL_law_1348 hl (by decide) rfl (fun ls hl => ?_)
    refine lv_aload_n hx hb dL_law_1350 rfl (lv_at hl 4 rfl) ?_
    refine kcV_i (n := 0) (X := []) (wc := wM cy m0 m1 m2 m3 m4 m5 m6 m7 m8 m9 m10 m11 m12 m13 m14 m15 m16 m17 (cdD p1) dy sd n fd ed lm fs ss dd pins u en cm kc sb iss fst len off ren wsn) (Y := wH cy h pn a0 a1 a2 a3 a4 a5 a6 a7 a8 b0 b1 b2 b3 b4 b5 b6 b7 fs ss fd ed lm dd ce cw n iss sb fst len off ren que kc pins sd dy ++ kout cy o f) (As := []) (rest := []) ⟨hx, hb, hml, hown, hts⟩ hE hA hP hD hS (c_X3_thrown l D cy m0 m1 m2 m3 m4 m5 m6 m7 m8 m9 m10 m11 m12 m13 m14 m15 m16 m17 (cdD p1) dy sd n fd ed lm fs ss dd pins u en cm kc sb iss fst len off ren wsn) (fun _ => Eq.trans (b := [m0, m1, m2, m3, m4, m5, m6, m7, m8, m9, m10, m11, m12, m13, m14, m15, m16, m17]) rfl rfl) (q0 := 0) (ci := 3) rfl rfl gL_law_X3_thrown rfl rfl rfl ⟨rfl, by decide, by decide, by decide +kernel⟩ ⟨Nat.le_of_ble_eq_true rfl, Nat.le_of_ble_eq_true rfl⟩ rfl hl.1 rfl (Nat.le_of_ble_eq_true rfl) dL_law_1351 hf1 (fun r3 u3 H locs hr3 hP hD hS => ?_)
    rw [List.nil_append] at hP hD
    replace hr3 : r3 = cdD p1 := hr3
    refine lv_iload hx hb dL_law_1354 (lv_at hl 1 rfl) ?_
    refine lv_icmp_eq (tgt := 1361) hx hb dL_law_1356 (by decide) (fun _ => ?_) (fun q => absurd (hr3.trans (hcq.trans hr.symm)) q)
    refine lv_iload hx hb dL_law_1361 (lv_at hl 1 rfl) ?_
    refine lv_if_ne (tgt := 1378) hx hb dL_law_1363 (by decide) (fun _ => ?_) (fun q => absurd (hr.symm.trans q) hcd)
    refine lv_goto (tgt := 1505) hx hb dL_law_1378 (by decide) ?_
    exact hkk fs ss fd ed lm dd ce cw n iss sb fst len off ren que kc pins sd dy (cdD p1) u en cm wsn f H locs ls hI hP hD hS (lv_sub hl [2, 3, 4, 5, 6] rfl)
set_option maxHeartbeats 4000000 in
set_option maxRecDepth 100000 in
theorem rd_breaks {p : Program} {l : Launch} {e : Env} {s : State} {m : MethodId} {below : List Frame} {meth : Method} {c : Code} {H : Heap} {locs : List Loc} {cells slots : Nat} {Q : State → Prop} {ls : Array Slot} {D : va_G} {cy : ClassId × ClassId × ClassId} {b L : Nat} {xs : Nat → Int32} (h pn a0 a1 a2 a3 a4 a5 a6 a7 a8 b0 b1 b2 b3 b4 b5 b6 b7 m0 m1 m2 m3 m4 m5 m6 m7 m8 m9 m10 m11 m12 m13 m14 m15 m16 m17 o : Nat) (fs ss fd ed lm dd ce cw : Nat → Int32) (n : Nat) (iss sb fst len off ren que : Nat → Int32) (kc : Nat) (pins : Nat → Int32) (sd dy th : Int32) (ag en cm wsn : Nat → Int32) (f : Nat → Int64) {x p1 p2 : Int32} (C : LC p l s m c D cy b L xs) (hI : LInv n kc fs ss ed lm ce cw iss sb len) (hin : ∀ k, k < 5 → vp_in (x + nI k) L) (q1 : xs (x + nI 1).toNatClampNeg = p1) (q2 : xs (x + nI 2).toNatClampNeg = p2) (hf : cells + 1 ≤ 1078 ∧ slots + 6 ≤ 9341) (hP : va_P D vwCl (wWL cy h pn a0 a1 a2 a3 a4 a5 a6 a7 a8 b0 b1 b2 b3 b4 b5 b6 b7 m0 m1 m2 m3 m4 m5 m6 m7 m8 m9 m10 m11 m12 m13 m14 m15 m16 m17 o fs ss fd ed lm dd ce cw n iss sb fst len off ren que kc pins sd dy th ag en cm wsn f) H) (hD : va_D (lwA s) (wWL cy h pn a0 a1 a2 a3 a4 a5 a6 a7 a8 b0 b1 b2 b3 b4 b5 b6 b7 m0 m1 m2 m3 m4 m5 m6 m7 m8 m9 m10 m11 m12 m13 m14 m15 m16 m17 o fs ss fd ed lm dd ce cw n iss sb fst len off ren que kc pins sd dy th ag en cm wsn f)) (hS : va_S (lwA s) s.heap H locs) (hl : lv_has ls 7 [(0, .ref b), (1, .ref h), (2, .ref m0), (3, .ref o), (4, .int x)]) (hkk : LK p l e s m below meth c Q D cy b x h pn a0 a1 a2 a3 a4 a5 a6 a7 a8 b0 b1 b2 b3 b4 b5 b6 b7 m0 m1 m2 m3 m4 m5 m6 m7 m8 m9 m10 m11 m12 m13 m14 m15 m16 m17 o (cells + 1) (slots + 6)) : W p l e room_1 s m #[Value.ref b] below meth c H locs cells slots Q (F0 m 1381 ls []) := by
  obtain ⟨hx, hb, hml, hown, hts, hX, hbl, hE, hZ, hfl⟩ := C
  obtain ⟨hn, hk, hfs, hss, hro, hlm, hok, hsb, hce, hcw⟩ := id hI
  have hA : ∀ q : Nat, s.heap.size ≤ q → lwA s q := fun _ h => h
  refine lv_aload_n hx hb dL_law_1381 rfl (lv_at hl 1 rfl) ?_
  refine kl_rd (k := 1) hx hb hX hbl hS (lv_at hl 0 rfl) (lv_at hl 4 rfl) rfl (hin 1 (by decide)) q1 dL_law_1382 dL_law_1383 dL_law_1385 dL_law_1386 dL_law_1387 ?_
  refine kl_rd (k := 2) hx hb hX hbl hS (lv_at hl 0 rfl) (lv_at hl 4 rfl) rfl (hin 2 (by decide)) q2 dL_law_1388 dL_law_1389 dL_law_1391 dL_law_1392 dL_law_1393 ?_
  refine lv_aload_n hx hb dL_law_1394 rfl (lv_at hl 3 rfl) ?_
  by_cases hcd : cdID n p1 p2 = 0
  · refine kcL_i (n := 4) (X := wM cy m0 m1 m2 m3 m4 m5 m6 m7 m8 m9 m10 m11 m12 m13 m14 m15 m16 m17 th dy sd n fd ed lm fs ss dd pins ag en cm kc sb iss fst len off ren wsn) (wc := wH cy h pn a0 a1 a2 a3 a4 a5 a6 a7 a8 b0 b1 b2 b3 b4 b5 b6 b7 fs ss fd ed lm dd ce cw n iss sb fst len off ren que kc pins sd dy ++ kout cy o f) (Y := []) (As := [.ref h, .int p1, .int p2, .ref o]) (rest := []) ⟨hx, hb, hml, hown, hts⟩ hE hA hZ (by rw [List.append_nil]; exact hP) (by rw [List.append_nil]; exact hD) hS (c_L_breaks l D cy hfl h pn a0 a1 a2 a3 a4 a5 a6 a7 a8 b0 b1 b2 b3 b4 b5 b6 b7 fs ss fd ed lm dd ce cw n iss sb fst len off ren que kc pins sd dy p1 p2 hn hk hcd o f) (Eq.trans (b := [h, a0, a1, a2, a3, a4, a5, a6, a7, a8, b0, b1, b2, b3, b4, b5, b6, b7, pn, o]) rfl rfl) gL_law_L_breaks rfl rfl rfl ⟨by decide, by decide, by decide +kernel⟩ ⟨Nat.le_of_ble_eq_true rfl, Nat.le_of_ble_eq_true rfl⟩ rfl hl.1 rfl (Nat.le_of_ble_eq_true rfl) dL_law_1395 hf (fun r H locs hr hP hD hS => ?_)
    rw [List.append_nil] at hP hD
    have hf1 : cells + 1 ≤ 1078 ∧ slots + 6 ≤ 9341 := hf
    replace hr : r = 0 := hr
    subst hr
    refine lv_istore (lv' := [(5, .int 0), (0, .ref b), (1, .ref h), (2, .ref m0), (3, .ref o), (4, .int x)]) hx hb dL_law_1398 hl (by decide) rfl (fun ls hl => ?_)
    refine lv_aload_n hx hb dL_law_1400 rfl (lv_at hl 3 rfl) ?_
    refine kl_rd (k := 1) hx hb hX hbl hS (lv_at hl 1 rfl) (lv_at hl 5 rfl) rfl (hin 1 (by decide)) q1 dL_law_1401 dL_law_1402 dL_law_1404 dL_law_1405 dL_law_1406 ?_
    refine kl_rd (k := 2) hx hb hX hbl hS (lv_at hl 1 rfl) (lv_at hl 5 rfl) rfl (hin 2 (by decide)) q2 dL_law_1407 dL_law_1408 dL_law_1410 dL_law_1411 dL_law_1412 ?_
    have hcq : cdID n p1 p2 = cdID n p1 p2 := rfl
    have hI2 : LInv n kc fs ss ed lm ce cw iss sb len := hI
    refine kcV_i (n := 2) (X := []) (wc := wM cy m0 m1 m2 m3 m4 m5 m6 m7 m8 m9 m10 m11 m12 m13 m14 m15 m16 m17 th dy sd n fd ed lm fs ss dd pins ag en cm kc sb iss fst len off ren wsn) (Y := wH cy h pn a0 a1 a2 a3 a4 a5 a6 a7 a8 b0 b1 b2 b3 b4 b5 b6 b7 fs ss fd ed lm dd ce cw n iss sb fst len off ren que kc pins sd dy ++ kout cy o (vp_updL f 0 (lostC fs ss fd ed dd n iss sb fst len kc p2 p1).toInt64)) (As := [.int p1, .int p2]) (rest := []) ⟨hx, hb, hml, hown, hts⟩ hE hA hP hD hS (c_X3_breaks l D cy m0 m1 m2 m3 m4 m5 m6 m7 m8 m9 m10 m11 m12 m13 m14 m15 m16 m17 th dy sd n fd ed lm fs ss dd pins ag en cm kc sb iss fst len off ren wsn p1 p2 hn hk hfs hss hok (hcq.trans hcd)) (fun _ => Eq.trans (b := [m0, m1, m2, m3, m4, m5, m6, m7, m8, m9, m10, m11, m12, m13, m14, m15, m16, m17]) rfl rfl) (q0 := 0) (ci := 3) rfl rfl gL_law_X3_breaks rfl rfl rfl ⟨rfl, by decide, by decide, by decide +kernel⟩ ⟨Nat.le_of_ble_eq_true rfl, Nat.le_of_ble_eq_true rfl⟩ rfl hl.1 rfl (Nat.le_of_ble_eq_true rfl) dL_law_1413 hf1 (fun r2 u H locs hr2 hP hD hS => ?_)
    rw [List.nil_append] at hP hD
    refine lv_istore (lv' := [(6, .int r2), (5, .int 0), (0, .ref b), (1, .ref h), (2, .ref m0), (3, .ref o), (4, .int x)]) hx hb dL_law_1416 hl (by decide) rfl (fun ls hl => ?_)
    refine lv_aload_n hx hb dL_law_1418 rfl (lv_at hl 4 rfl) ?_
    refine kcV_i (n := 0) (X := []) (wc := wM cy m0 m1 m2 m3 m4 m5 m6 m7 m8 m9 m10 m11 m12 m13 m14 m15 m16 m17 0 dy sd n fd ed lm fs ss dd pins u en cm kc sb iss fst len off ren wsn) (Y := wH cy h pn a0 a1 a2 a3 a4 a5 a6 a7 a8 b0 b1 b2 b3 b4 b5 b6 b7 fs ss fd ed lm dd ce cw n iss sb fst len off ren que kc pins sd dy ++ kout cy o (vp_updL f 0 (lostC fs ss fd ed dd n iss sb fst len kc p2 p1).toInt64)) (As := []) (rest := []) ⟨hx, hb, hml, hown, hts⟩ hE hA hP hD hS (c_X3_thrown l D cy m0 m1 m2 m3 m4 m5 m6 m7 m8 m9 m10 m11 m12 m13 m14 m15 m16 m17 0 dy sd n fd ed lm fs ss dd pins u en cm kc sb iss fst len off ren wsn) (fun _ => Eq.trans (b := [m0, m1, m2, m3, m4, m5, m6, m7, m8, m9, m10, m11, m12, m13, m14, m15, m16, m17]) rfl rfl) (q0 := 0) (ci := 3) rfl rfl gL_law_X3_thrown rfl rfl rfl ⟨rfl, by decide, by decide, by decide +kernel⟩ ⟨Nat.le_of_ble_eq_true rfl, Nat.le_of_ble_eq_true rfl⟩ rfl hl.1 rfl (Nat.le_of_ble_eq_true rfl) dL_law_1419 hf1 (fun r3 u3 H locs hr3 hP hD hS => ?_)
    rw [List.nil_append] at hP hD
    replace hr3 : r3 = 0 := hr3
    subst hr3
    refine lv_iload hx hb dL_law_1422 (lv_at hl 1 rfl) ?_
    refine lv_icmp_eq (tgt := 1429) hx hb dL_law_1424 (by decide) (fun _ => ?_) (fun q => absurd rfl q)
    refine lv_iload hx hb dL_law_1429 (lv_at hl 1 rfl) ?_
    refine lv_if_ne (tgt := 1446) hx hb dL_law_1431 (by decide) (fun q => absurd rfl q) (fun _ => ?_)
    have hval : lostM fs ss fd ed dd iss sb fst len kc p2 p1 = lostC fs ss fd ed dd n iss sb fst len kc p2 p1 := lost_lost hn hfs hss hok hsb
    replace hr2 : r2 = lostC fs ss fd ed dd n iss sb fst len kc p2 p1 := hr2.trans hval
    refine lv_aload_n hx hb dL_law_1434 rfl (lv_at hl 5 rfl) ?_
    refine lv_iconst (v := 0) hx hb dL_law_1435 (by decide) ?_
    refine va_lald (i := 0) (f := vp_updL f 0 (lostC fs ss fd ed dd n iss sb fst len kc p2 p1).toInt64) hx hb hE.1 hP 37 2 (a := o) rfl rfl k_in0 dL_law_1436 ?_
    rw [updL_0]
    refine lv_iload hx hb dL_law_1437 (lv_at hl 0 rfl) ?_
    refine lv_i2l (v := r2.toInt64) hx hb dL_law_1439 rfl ?_
    refine W.lcmp hx hb dL_law_1440 ?_
    refine lv_if_eq (tgt := 1446) hx hb dL_law_1441 (by decide) (fun _ => ?_) (fun q => absurd ((lg_cmp_eq _ _).mpr (by rw [hr2])) q)
    refine lv_goto (tgt := 1505) hx hb dL_law_1446 (by decide) ?_
    exact hkk fs ss fd ed lm dd ce cw n iss sb fst len off ren que kc pins sd dy 0 u en cm wsn (vp_updL f 0 (lostC fs ss fd ed dd n iss sb fst len kc p2 p1).toInt64) H locs ls hI2 hP hD hS (lv_sub hl [2, 3, 4, 5, 6] rfl)
  · refine kcL_i (n := 4) (X := wM cy m0 m1 m2 m3 m4 m5 m6 m7 m8 m9 m10 m11 m12 m13 m14 m15 m16 m17 th dy sd n fd ed lm fs ss dd pins ag en cm kc sb iss fst len off ren wsn) (wc := wH cy h pn a0 a1 a2 a3 a4 a5 a6 a7 a8 b0 b1 b2 b3 b4 b5 b6 b7 fs ss fd ed lm dd ce cw n iss sb fst len off ren que kc pins sd dy ++ kout cy o f) (Y := []) (As := [.ref h, .int p1, .int p2, .ref o]) (rest := []) ⟨hx, hb, hml, hown, hts⟩ hE hA hZ (by rw [List.append_nil]; exact hP) (by rw [List.append_nil]; exact hD) hS (c_L_breaks_f l D cy hfl h pn a0 a1 a2 a3 a4 a5 a6 a7 a8 b0 b1 b2 b3 b4 b5 b6 b7 fs ss fd ed lm dd ce cw n iss sb fst len off ren que kc pins sd dy p1 p2 hn hk hcd o f) (Eq.trans (b := [h, a0, a1, a2, a3, a4, a5, a6, a7, a8, b0, b1, b2, b3, b4, b5, b6, b7, pn, o]) rfl rfl) gL_law_L_breaks rfl rfl rfl ⟨by decide, by decide, by decide +kernel⟩ ⟨Nat.le_of_ble_eq_true rfl, Nat.le_of_ble_eq_true rfl⟩ rfl hl.1 rfl (Nat.le_of_ble_eq_true rfl) dL_law_1395 hf (fun r H locs hr hP hD hS => ?_)
    rw [List.append_nil] at hP hD
    have hf1 : cells + 1 ≤ 1078 ∧ slots + 6 ≤ 9341 := hf
    replace hr : r = cdID n p1 p2 := hr
    refine lv_istore (lv' := [(5, .int r), (0, .ref b), (1, .ref h), (2, .ref m0), (3, .ref o), (4, .int x)]) hx hb dL_law_1398 hl (by decide) rfl (fun ls hl => ?_)
    refine lv_aload_n hx hb dL_law_1400 rfl (lv_at hl 3 rfl) ?_
    refine kl_rd (k := 1) hx hb hX hbl hS (lv_at hl 1 rfl) (lv_at hl 5 rfl) rfl (hin 1 (by decide)) q1 dL_law_1401 dL_law_1402 dL_law_1404 dL_law_1405 dL_law_1406 ?_
    refine kl_rd (k := 2) hx hb hX hbl hS (lv_at hl 1 rfl) (lv_at hl 5 rfl) rfl (hin 2 (by decide)) q2 dL_law_1407 dL_law_1408 dL_law_1410 dL_law_1411 dL_law_1412 ?_
    have hcq : cdID n p1 p2 = cdID n p1 p2 := rfl
    refine kcV_i (n := 2) (X := []) (wc := wM cy m0 m1 m2 m3 m4 m5 m6 m7 m8 m9 m10 m11 m12 m13 m14 m15 m16 m17 th dy sd n fd ed lm fs ss dd pins ag en cm kc sb iss fst len off ren wsn) (Y := wH cy h pn a0 a1 a2 a3 a4 a5 a6 a7 a8 b0 b1 b2 b3 b4 b5 b6 b7 fs ss fd ed lm dd ce cw n iss sb fst len off ren que kc pins sd dy ++ kout cy o f) (As := [.int p1, .int p2]) (rest := []) ⟨hx, hb, hml, hown, hts⟩ hE hA hP hD hS (c_X3_breaks_f l D cy m0 m1 m2 m3 m4 m5 m6 m7 m8 m9 m10 m11 m12 m13 m14 m15 m16 m17 th dy sd n fd ed lm fs ss dd pins ag en cm kc sb iss fst len off ren wsn p1 p2 hn hk hfs hss hok (fun q => hcd (hcq.symm.trans q))) (fun _ => Eq.trans (b := [m0, m1, m2, m3, m4, m5, m6, m7, m8, m9, m10, m11, m12, m13, m14, m15, m16, m17]) rfl rfl) (q0 := 0) (ci := 3) rfl rfl gL_law_X3_breaks rfl rfl rfl ⟨rfl, by decide, by decide, by decide +kernel⟩ ⟨Nat.le_of_ble_eq_true rfl, Nat.le_of_ble_eq_true rfl⟩ rfl hl.1 rfl (Nat.le_of_ble_eq_true rfl) dL_law_1413 hf1 (fun r2 u H locs hr2 hP hD hS => ?_)
    rw [List.nil_append] at hP hD
    refine lv_istore (lv' := [(6, .int r2), (5, .int r), (0, .ref b), (1, .ref h), (2, .ref m0), (3, .ref o), (4, .int x)]) hx hb dL_law_1416 hl (by decide) rfl (fun ls hl => ?_)
    refine lv_aload_n hx hb dL_law_1418 rfl (lv_at hl 4 rfl) ?_
    refine kcV_i (n := 0) (X := []) (wc := wM cy m0 m1 m2 m3 m4 m5 m6 m7 m8 m9 m10 m11 m12 m13 m14 m15 m16 m17 (cdID n p1 p2) dy sd n fd ed lm fs ss dd pins u en cm kc sb iss fst len off ren wsn) (Y := wH cy h pn a0 a1 a2 a3 a4 a5 a6 a7 a8 b0 b1 b2 b3 b4 b5 b6 b7 fs ss fd ed lm dd ce cw n iss sb fst len off ren que kc pins sd dy ++ kout cy o f) (As := []) (rest := []) ⟨hx, hb, hml, hown, hts⟩ hE hA hP hD hS (c_X3_thrown l D cy m0 m1 m2 m3 m4 m5 m6 m7 m8 m9 m10 m11 m12 m13 m14 m15 m16 m17 (cdID n p1 p2) dy sd n fd ed lm fs ss dd pins u en cm kc sb iss fst len off ren wsn) (fun _ => Eq.trans (b := [m0, m1, m2, m3, m4, m5, m6, m7, m8, m9, m10, m11, m12, m13, m14, m15, m16, m17]) rfl rfl) (q0 := 0) (ci := 3) rfl rfl gL_law_X3_thrown rfl rfl rfl ⟨rfl, by decide, by decide, by decide +kernel⟩ ⟨Nat.le_of_ble_eq_true rfl, Nat.le_of_ble_eq_true rfl⟩ rfl hl.1 rfl (Nat.le_of_ble_eq_true rfl) dL_law_1419 hf1 (fun r3 u3 H locs hr3 hP hD hS => ?_)
    rw [List.nil_append] at hP hD
    replace hr3 : r3 = cdID n p1 p2 := hr3
    refine lv_iload hx hb dL_law_1422 (lv_at hl 1 rfl) ?_
    refine lv_icmp_eq (tgt := 1429) hx hb dL_law_1424 (by decide) (fun _ => ?_) (fun q => absurd (hr3.trans (hcq.trans hr.symm)) q)
    refine lv_iload hx hb dL_law_1429 (lv_at hl 1 rfl) ?_
    refine lv_if_ne (tgt := 1446) hx hb dL_law_1431 (by decide) (fun _ => ?_) (fun q => absurd (hr.symm.trans q) hcd)
    refine lv_goto (tgt := 1505) hx hb dL_law_1446 (by decide) ?_
    exact hkk fs ss fd ed lm dd ce cw n iss sb fst len off ren que kc pins sd dy (cdID n p1 p2) u en cm wsn f H locs ls hI hP hD hS (lv_sub hl [2, 3, 4, 5, 6] rfl)
set_option maxHeartbeats 4000000 in
set_option maxRecDepth 100000 in
theorem rd_weakest {p : Program} {l : Launch} {e : Env} {s : State} {m : MethodId} {below : List Frame} {meth : Method} {c : Code} {H : Heap} {locs : List Loc} {cells slots : Nat} {Q : State → Prop} {ls : Array Slot} {D : va_G} {cy : ClassId × ClassId × ClassId} {b L : Nat} {xs : Nat → Int32} (h pn a0 a1 a2 a3 a4 a5 a6 a7 a8 b0 b1 b2 b3 b4 b5 b6 b7 m0 m1 m2 m3 m4 m5 m6 m7 m8 m9 m10 m11 m12 m13 m14 m15 m16 m17 o : Nat) (fs ss fd ed lm dd ce cw : Nat → Int32) (n : Nat) (iss sb fst len off ren que : Nat → Int32) (kc : Nat) (pins : Nat → Int32) (sd dy th : Int32) (ag en cm wsn : Nat → Int32) (f : Nat → Int64) {x p1 : Int32} (C : LC p l s m c D cy b L xs) (hI : LInv n kc fs ss ed lm ce cw iss sb len) (hin : ∀ k, k < 5 → vp_in (x + nI k) L) (q1 : xs (x + nI 1).toNatClampNeg = p1) (hf : cells + 1 ≤ 1078 ∧ slots + 6 ≤ 9341) (hP : va_P D vwCl (wWL cy h pn a0 a1 a2 a3 a4 a5 a6 a7 a8 b0 b1 b2 b3 b4 b5 b6 b7 m0 m1 m2 m3 m4 m5 m6 m7 m8 m9 m10 m11 m12 m13 m14 m15 m16 m17 o fs ss fd ed lm dd ce cw n iss sb fst len off ren que kc pins sd dy th ag en cm wsn f) H) (hD : va_D (lwA s) (wWL cy h pn a0 a1 a2 a3 a4 a5 a6 a7 a8 b0 b1 b2 b3 b4 b5 b6 b7 m0 m1 m2 m3 m4 m5 m6 m7 m8 m9 m10 m11 m12 m13 m14 m15 m16 m17 o fs ss fd ed lm dd ce cw n iss sb fst len off ren que kc pins sd dy th ag en cm wsn f)) (hS : va_S (lwA s) s.heap H locs) (hl : lv_has ls 7 [(0, .ref b), (1, .ref h), (2, .ref m0), (3, .ref o), (4, .int x)]) (hkk : LK p l e s m below meth c Q D cy b x h pn a0 a1 a2 a3 a4 a5 a6 a7 a8 b0 b1 b2 b3 b4 b5 b6 b7 m0 m1 m2 m3 m4 m5 m6 m7 m8 m9 m10 m11 m12 m13 m14 m15 m16 m17 o (cells + 1) (slots + 6)) : W p l e room_1 s m #[Value.ref b] below meth c H locs cells slots Q (F0 m 1449 ls []) := by
  obtain ⟨hx, hb, hml, hown, hts, hX, hbl, hE, hZ, hfl⟩ := C
  obtain ⟨hn, hk, hfs, hss, hro, hlm, hok, hsb, hce, hcw⟩ := id hI
  have hA : ∀ q : Nat, s.heap.size ≤ q → lwA s q := fun _ h => h
  refine lv_aload_n hx hb dL_law_1449 rfl (lv_at hl 1 rfl) ?_
  refine kl_rd (k := 1) hx hb hX hbl hS (lv_at hl 0 rfl) (lv_at hl 4 rfl) rfl (hin 1 (by decide)) q1 dL_law_1450 dL_law_1451 dL_law_1453 dL_law_1454 dL_law_1455 ?_
  refine lv_aload_n hx hb dL_law_1456 rfl (lv_at hl 3 rfl) ?_
  by_cases hcd : cdD p1 = 0
  · refine kcL_i (n := 3) (X := wM cy m0 m1 m2 m3 m4 m5 m6 m7 m8 m9 m10 m11 m12 m13 m14 m15 m16 m17 th dy sd n fd ed lm fs ss dd pins ag en cm kc sb iss fst len off ren wsn) (wc := wH cy h pn a0 a1 a2 a3 a4 a5 a6 a7 a8 b0 b1 b2 b3 b4 b5 b6 b7 fs ss fd ed lm dd ce cw n iss sb fst len off ren que kc pins sd dy ++ kout cy o f) (Y := []) (As := [.ref h, .int p1, .ref o]) (rest := []) ⟨hx, hb, hml, hown, hts⟩ hE hA hZ (by rw [List.append_nil]; exact hP) (by rw [List.append_nil]; exact hD) hS (c_L_weakest l D cy hfl h pn a0 a1 a2 a3 a4 a5 a6 a7 a8 b0 b1 b2 b3 b4 b5 b6 b7 fs ss fd ed lm dd ce cw n iss sb fst len off ren que kc pins sd dy p1 hn hk hcd o f) (Eq.trans (b := [h, a0, a1, a2, a3, a4, a5, a6, a7, a8, b0, b1, b2, b3, b4, b5, b6, b7, pn, o]) rfl rfl) gL_law_L_weakest rfl rfl rfl ⟨by decide, by decide, by decide +kernel⟩ ⟨Nat.le_of_ble_eq_true rfl, Nat.le_of_ble_eq_true rfl⟩ rfl hl.1 rfl (Nat.le_of_ble_eq_true rfl) dL_law_1457 hf (fun r H locs hr hP hD hS => ?_)
    rw [List.append_nil] at hP hD
    have hf1 : cells + 1 ≤ 1078 ∧ slots + 6 ≤ 9341 := hf
    replace hr : r = 0 := hr
    subst hr
    refine lv_istore (lv' := [(5, .int 0), (0, .ref b), (1, .ref h), (2, .ref m0), (3, .ref o), (4, .int x)]) hx hb dL_law_1460 hl (by decide) rfl (fun ls hl => ?_)
    refine lv_aload_n hx hb dL_law_1462 rfl (lv_at hl 3 rfl) ?_
    refine kl_rd (k := 1) hx hb hX hbl hS (lv_at hl 1 rfl) (lv_at hl 5 rfl) rfl (hin 1 (by decide)) q1 dL_law_1463 dL_law_1464 dL_law_1466 dL_law_1467 dL_law_1468 ?_
    have hcq : cdD p1 = cdD p1 := rfl
    have hI2 : LInv n kc fs ss ed lm ce cw iss sb len := hI
    refine kcV_i (n := 1) (X := []) (wc := wM cy m0 m1 m2 m3 m4 m5 m6 m7 m8 m9 m10 m11 m12 m13 m14 m15 m16 m17 th dy sd n fd ed lm fs ss dd pins ag en cm kc sb iss fst len off ren wsn) (Y := wH cy h pn a0 a1 a2 a3 a4 a5 a6 a7 a8 b0 b1 b2 b3 b4 b5 b6 b7 fs ss fd ed lm dd ce cw n iss sb fst len off ren que kc pins sd dy ++ kout cy o (vp_updL f 0 ((wkN bcN (fun k => lostC fs ss fd ed dd n iss sb fst len kc p1 (nI k)) n).1).toInt64)) (As := [.int p1]) (rest := []) ⟨hx, hb, hml, hown, hts⟩ hE hA hP hD hS (c_X3_weakest l D cy m0 m1 m2 m3 m4 m5 m6 m7 m8 m9 m10 m11 m12 m13 m14 m15 m16 m17 th dy sd n fd ed lm fs ss dd pins ag en cm kc sb iss fst len off ren wsn p1 hn hk hfs hss hok (hcq.trans hcd)) (fun _ => Eq.trans (b := [m0, m1, m2, m3, m4, m5, m6, m7, m8, m9, m10, m11, m12, m13, m14, m15, m16, m17]) rfl rfl) (q0 := 0) (ci := 3) rfl rfl gL_law_X3_weakest rfl rfl rfl ⟨rfl, by decide, by decide, by decide +kernel⟩ ⟨Nat.le_of_ble_eq_true rfl, Nat.le_of_ble_eq_true rfl⟩ rfl hl.1 rfl (Nat.le_of_ble_eq_true rfl) dL_law_1469 hf1 (fun r2 u H locs hr2 hP hD hS => ?_)
    rw [List.nil_append] at hP hD
    refine lv_istore (lv' := [(6, .int r2), (5, .int 0), (0, .ref b), (1, .ref h), (2, .ref m0), (3, .ref o), (4, .int x)]) hx hb dL_law_1472 hl (by decide) rfl (fun ls hl => ?_)
    refine lv_aload_n hx hb dL_law_1474 rfl (lv_at hl 4 rfl) ?_
    refine kcV_i (n := 0) (X := []) (wc := wM cy m0 m1 m2 m3 m4 m5 m6 m7 m8 m9 m10 m11 m12 m13 m14 m15 m16 m17 0 dy sd n fd ed lm fs ss dd pins u en cm kc sb iss fst len off ren wsn) (Y := wH cy h pn a0 a1 a2 a3 a4 a5 a6 a7 a8 b0 b1 b2 b3 b4 b5 b6 b7 fs ss fd ed lm dd ce cw n iss sb fst len off ren que kc pins sd dy ++ kout cy o (vp_updL f 0 ((wkN bcN (fun k => lostC fs ss fd ed dd n iss sb fst len kc p1 (nI k)) n).1).toInt64)) (As := []) (rest := []) ⟨hx, hb, hml, hown, hts⟩ hE hA hP hD hS (c_X3_thrown l D cy m0 m1 m2 m3 m4 m5 m6 m7 m8 m9 m10 m11 m12 m13 m14 m15 m16 m17 0 dy sd n fd ed lm fs ss dd pins u en cm kc sb iss fst len off ren wsn) (fun _ => Eq.trans (b := [m0, m1, m2, m3, m4, m5, m6, m7, m8, m9, m10, m11, m12, m13, m14, m15, m16, m17]) rfl rfl) (q0 := 0) (ci := 3) rfl rfl gL_law_X3_thrown rfl rfl rfl ⟨rfl, by decide, by decide, by decide +kernel⟩ ⟨Nat.le_of_ble_eq_true rfl, Nat.le_of_ble_eq_true rfl⟩ rfl hl.1 rfl (Nat.le_of_ble_eq_true rfl) dL_law_1475 hf1 (fun r3 u3 H locs hr3 hP hD hS => ?_)
    rw [List.nil_append] at hP hD
    replace hr3 : r3 = 0 := hr3
    subst hr3
    refine lv_iload hx hb dL_law_1478 (lv_at hl 1 rfl) ?_
    refine lv_icmp_eq (tgt := 1485) hx hb dL_law_1480 (by decide) (fun _ => ?_) (fun q => absurd rfl q)
    refine lv_iload hx hb dL_law_1485 (lv_at hl 1 rfl) ?_
    refine lv_if_ne (tgt := 1502) hx hb dL_law_1487 (by decide) (fun q => absurd rfl q) (fun _ => ?_)
    have hval : (wkN (fun x => bsN x 16) (fun k => lostM fs ss fd ed dd iss sb fst len kc p1 (nI k)) n).1 = (wkN bcN (fun k => lostC fs ss fd ed dd n iss sb fst len kc p1 (nI k)) n).1 := wk_wk hn hfs hss hok hsb
    replace hr2 : r2 = (wkN bcN (fun k => lostC fs ss fd ed dd n iss sb fst len kc p1 (nI k)) n).1 := hr2.trans hval
    refine lv_aload_n hx hb dL_law_1490 rfl (lv_at hl 5 rfl) ?_
    refine lv_iconst (v := 0) hx hb dL_law_1491 (by decide) ?_
    refine va_lald (i := 0) (f := vp_updL f 0 ((wkN bcN (fun k => lostC fs ss fd ed dd n iss sb fst len kc p1 (nI k)) n).1).toInt64) hx hb hE.1 hP 37 2 (a := o) rfl rfl k_in0 dL_law_1492 ?_
    rw [updL_0]
    refine lv_iload hx hb dL_law_1493 (lv_at hl 0 rfl) ?_
    refine lv_i2l (v := r2.toInt64) hx hb dL_law_1495 rfl ?_
    refine W.lcmp hx hb dL_law_1496 ?_
    refine lv_if_eq (tgt := 1502) hx hb dL_law_1497 (by decide) (fun _ => ?_) (fun q => absurd ((lg_cmp_eq _ _).mpr (by rw [hr2])) q)
    refine lv_goto (tgt := 1505) hx hb dL_law_1502 (by decide) ?_
    exact hkk fs ss fd ed lm dd ce cw n iss sb fst len off ren que kc pins sd dy 0 u en cm wsn (vp_updL f 0 ((wkN bcN (fun k => lostC fs ss fd ed dd n iss sb fst len kc p1 (nI k)) n).1).toInt64) H locs ls hI2 hP hD hS (lv_sub hl [2, 3, 4, 5, 6] rfl)
  · refine kcL_i (n := 3) (X := wM cy m0 m1 m2 m3 m4 m5 m6 m7 m8 m9 m10 m11 m12 m13 m14 m15 m16 m17 th dy sd n fd ed lm fs ss dd pins ag en cm kc sb iss fst len off ren wsn) (wc := wH cy h pn a0 a1 a2 a3 a4 a5 a6 a7 a8 b0 b1 b2 b3 b4 b5 b6 b7 fs ss fd ed lm dd ce cw n iss sb fst len off ren que kc pins sd dy ++ kout cy o f) (Y := []) (As := [.ref h, .int p1, .ref o]) (rest := []) ⟨hx, hb, hml, hown, hts⟩ hE hA hZ (by rw [List.append_nil]; exact hP) (by rw [List.append_nil]; exact hD) hS (c_L_weakest_f l D cy hfl h pn a0 a1 a2 a3 a4 a5 a6 a7 a8 b0 b1 b2 b3 b4 b5 b6 b7 fs ss fd ed lm dd ce cw n iss sb fst len off ren que kc pins sd dy p1 hn hk hcd o f) (Eq.trans (b := [h, a0, a1, a2, a3, a4, a5, a6, a7, a8, b0, b1, b2, b3, b4, b5, b6, b7, pn, o]) rfl rfl) gL_law_L_weakest rfl rfl rfl ⟨by decide, by decide, by decide +kernel⟩ ⟨Nat.le_of_ble_eq_true rfl, Nat.le_of_ble_eq_true rfl⟩ rfl hl.1 rfl (Nat.le_of_ble_eq_true rfl) dL_law_1457 hf (fun r H locs hr hP hD hS => ?_)
    rw [List.append_nil] at hP hD
    have hf1 : cells + 1 ≤ 1078 ∧ slots + 6 ≤ 9341 := hf
    replace hr : r = cdD p1 := hr
    refine lv_istore (lv' := [(5, .int r), (0, .ref b), (1, .ref h), (2, .ref m0), (3, .ref o), (4, .int x)]) hx hb dL_law_1460 hl (by decide) rfl (fun ls hl => ?_)
    refine lv_aload_n hx hb dL_law_1462 rfl (lv_at hl 3 rfl) ?_
    refine kl_rd (k := 1) hx hb hX hbl hS (lv_at hl 1 rfl) (lv_at hl 5 rfl) rfl (hin 1 (by decide)) q1 dL_law_1463 dL_law_1464 dL_law_1466 dL_law_1467 dL_law_1468 ?_
    have hcq : cdD p1 = cdD p1 := rfl
    refine kcV_i (n := 1) (X := []) (wc := wM cy m0 m1 m2 m3 m4 m5 m6 m7 m8 m9 m10 m11 m12 m13 m14 m15 m16 m17 th dy sd n fd ed lm fs ss dd pins ag en cm kc sb iss fst len off ren wsn) (Y := wH cy h pn a0 a1 a2 a3 a4 a5 a6 a7 a8 b0 b1 b2 b3 b4 b5 b6 b7 fs ss fd ed lm dd ce cw n iss sb fst len off ren que kc pins sd dy ++ kout cy o f) (As := [.int p1]) (rest := []) ⟨hx, hb, hml, hown, hts⟩ hE hA hP hD hS (c_X3_weakest_f l D cy m0 m1 m2 m3 m4 m5 m6 m7 m8 m9 m10 m11 m12 m13 m14 m15 m16 m17 th dy sd n fd ed lm fs ss dd pins ag en cm kc sb iss fst len off ren wsn p1 hn hk hfs hss hok (fun q => hcd (hcq.symm.trans q))) (fun _ => Eq.trans (b := [m0, m1, m2, m3, m4, m5, m6, m7, m8, m9, m10, m11, m12, m13, m14, m15, m16, m17]) rfl rfl) (q0 := 0) (ci := 3) rfl rfl gL_law_X3_weakest rfl rfl rfl ⟨rfl, by decide, by decide, by decide +kernel⟩ ⟨Nat.le_of_ble_eq_true rfl, Nat.le_of_ble_eq_true rfl⟩ rfl hl.1 rfl (Nat.le_of_ble_eq_true rfl) dL_law_1469 hf1 (fun r2 u H locs hr2 hP hD hS => ?_)
    rw [List.nil_append] at hP hD
    refine lv_istore (lv' := [(6, .int r2), (5, .int r), (0, .ref b), (1, .ref h), (2, .ref m0), (3, .ref o), (4, .int x)]) hx hb dL_law_1472 hl (by decide) rfl (fun ls hl => ?_)
    refine lv_aload_n hx hb dL_law_1474 rfl (lv_at hl 4 rfl) ?_
    refine kcV_i (n := 0) (X := []) (wc := wM cy m0 m1 m2 m3 m4 m5 m6 m7 m8 m9 m10 m11 m12 m13 m14 m15 m16 m17 (cdD p1) dy sd n fd ed lm fs ss dd pins u en cm kc sb iss fst len off ren wsn) (Y := wH cy h pn a0 a1 a2 a3 a4 a5 a6 a7 a8 b0 b1 b2 b3 b4 b5 b6 b7 fs ss fd ed lm dd ce cw n iss sb fst len off ren que kc pins sd dy ++ kout cy o f) (As := []) (rest := []) ⟨hx, hb, hml, hown, hts⟩ hE hA hP hD hS (c_X3_thrown l D cy m0 m1 m2 m3 m4 m5 m6 m7 m8 m9 m10 m11 m12 m13 m14 m15 m16 m17 (cdD p1) dy sd n fd ed lm fs ss dd pins u en cm kc sb iss fst len off ren wsn) (fun _ => Eq.trans (b := [m0, m1, m2, m3, m4, m5, m6, m7, m8, m9, m10, m11, m12, m13, m14, m15, m16, m17]) rfl rfl) (q0 := 0) (ci := 3) rfl rfl gL_law_X3_thrown rfl rfl rfl ⟨rfl, by decide, by decide, by decide +kernel⟩ ⟨Nat.le_of_ble_eq_true rfl, Nat.le_of_ble_eq_true rfl⟩ rfl hl.1 rfl (Nat.le_of_ble_eq_true rfl) dL_law_1475 hf1 (fun r3 u3 H locs hr3 hP hD hS => ?_)
    rw [List.nil_append] at hP hD
    replace hr3 : r3 = cdD p1 := hr3
    refine lv_iload hx hb dL_law_1478 (lv_at hl 1 rfl) ?_
    refine lv_icmp_eq (tgt := 1485) hx hb dL_law_1480 (by decide) (fun _ => ?_) (fun q => absurd (hr3.trans (hcq.trans hr.symm)) q)
    refine lv_iload hx hb dL_law_1485 (lv_at hl 1 rfl) ?_
    refine lv_if_ne (tgt := 1502) hx hb dL_law_1487 (by decide) (fun _ => ?_) (fun q => absurd (hr.symm.trans q) hcd)
    refine lv_goto (tgt := 1505) hx hb dL_law_1502 (by decide) ?_
    exact hkk fs ss fd ed lm dd ce cw n iss sb fst len off ren que kc pins sd dy (cdD p1) u en cm wsn f H locs ls hI hP hD hS (lv_sub hl [2, 3, 4, 5, 6] rfl)
