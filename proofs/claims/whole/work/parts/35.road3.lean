/-! The law, call by call, on. -/
set_option maxHeartbeats 4000000 in
set_option maxRecDepth 100000 in
theorem rd_issuerOf {p : Program} {l : Launch} {e : Env} {s : State} {m : MethodId} {below : List Frame} {meth : Method} {c : Code} {H : Heap} {locs : List Loc} {cells slots : Nat} {Q : State → Prop} {ls : Array Slot} {D : va_G} {cy : ClassId × ClassId × ClassId} {b L : Nat} {xs : Nat → Int32} (h pn a0 a1 a2 a3 a4 a5 a6 a7 a8 b0 b1 b2 b3 b4 b5 b6 b7 m0 m1 m2 m3 m4 m5 m6 m7 m8 m9 m10 m11 m12 m13 m14 m15 m16 m17 o : Nat) (fs ss fd ed lm dd ce cw : Nat → Int32) (n : Nat) (iss sb fst len off ren que : Nat → Int32) (kc : Nat) (pins : Nat → Int32) (sd dy th : Int32) (ag en cm wsn : Nat → Int32) (f : Nat → Int64) {x p1 : Int32} (C : LC p l s m c D cy b L xs) (hI : LInv n kc fs ss ed lm ce cw iss sb len) (hin : ∀ k, k < 5 → vp_in (x + nI k) L) (q1 : xs (x + nI 1).toNatClampNeg = p1) (hf : cells + 1 ≤ 1078 ∧ slots + 6 ≤ 9341) (hP : va_P D vwCl (wWL cy h pn a0 a1 a2 a3 a4 a5 a6 a7 a8 b0 b1 b2 b3 b4 b5 b6 b7 m0 m1 m2 m3 m4 m5 m6 m7 m8 m9 m10 m11 m12 m13 m14 m15 m16 m17 o fs ss fd ed lm dd ce cw n iss sb fst len off ren que kc pins sd dy th ag en cm wsn f) H) (hD : va_D (lwA s) (wWL cy h pn a0 a1 a2 a3 a4 a5 a6 a7 a8 b0 b1 b2 b3 b4 b5 b6 b7 m0 m1 m2 m3 m4 m5 m6 m7 m8 m9 m10 m11 m12 m13 m14 m15 m16 m17 o fs ss fd ed lm dd ce cw n iss sb fst len off ren que kc pins sd dy th ag en cm wsn f)) (hS : va_S (lwA s) s.heap H locs) (hl : lv_has ls 7 [(0, .ref b), (1, .ref h), (2, .ref m0), (3, .ref o), (4, .int x)]) (hkk : LK p l e s m below meth c Q D cy b x h pn a0 a1 a2 a3 a4 a5 a6 a7 a8 b0 b1 b2 b3 b4 b5 b6 b7 m0 m1 m2 m3 m4 m5 m6 m7 m8 m9 m10 m11 m12 m13 m14 m15 m16 m17 o (cells + 1) (slots + 6)) : W p l e room_1 s m #[Value.ref b] below meth c H locs cells slots Q (F0 m 646 ls []) := by
  obtain ⟨hx, hb, hml, hown, hts, hX, hbl, hE, hZ, hfl⟩ := C
  obtain ⟨hn, hk, hfs, hss, hro, hlm, hok, hsb, hce, hcw⟩ := id hI
  have hA : ∀ q : Nat, s.heap.size ≤ q → lwA s q := fun _ h => h
  refine lv_aload_n hx hb dL_law_646 rfl (lv_at hl 1 rfl) ?_
  refine kl_rd (k := 1) hx hb hX hbl hS (lv_at hl 0 rfl) (lv_at hl 4 rfl) rfl (hin 1 (by decide)) q1 dL_law_647 dL_law_648 dL_law_650 dL_law_651 dL_law_652 ?_
  refine lv_aload_n hx hb dL_law_653 rfl (lv_at hl 3 rfl) ?_
  by_cases hcd : cdOne kc p1 = 0
  · refine kcL_i (n := 3) (X := wM cy m0 m1 m2 m3 m4 m5 m6 m7 m8 m9 m10 m11 m12 m13 m14 m15 m16 m17 th dy sd n fd ed lm fs ss dd pins ag en cm kc sb iss fst len off ren wsn) (wc := wH cy h pn a0 a1 a2 a3 a4 a5 a6 a7 a8 b0 b1 b2 b3 b4 b5 b6 b7 fs ss fd ed lm dd ce cw n iss sb fst len off ren que kc pins sd dy ++ kout cy o f) (Y := []) (As := [.ref h, .int p1, .ref o]) (rest := []) ⟨hx, hb, hml, hown, hts⟩ hE hA hZ (by rw [List.append_nil]; exact hP) (by rw [List.append_nil]; exact hD) hS (c_L_issuerOf l D cy hfl h pn a0 a1 a2 a3 a4 a5 a6 a7 a8 b0 b1 b2 b3 b4 b5 b6 b7 fs ss fd ed lm dd ce cw n iss sb fst len off ren que kc pins sd dy p1 hk hcd o f) (Eq.trans (b := [h, a0, a1, a2, a3, a4, a5, a6, a7, a8, b0, b1, b2, b3, b4, b5, b6, b7, pn, o]) rfl rfl) gL_law_L_issuerOf rfl rfl rfl ⟨by decide, by decide, by decide +kernel⟩ ⟨Nat.le_of_ble_eq_true rfl, Nat.le_of_ble_eq_true rfl⟩ rfl hl.1 rfl (Nat.le_of_ble_eq_true rfl) dL_law_654 hf (fun r H locs hr hP hD hS => ?_)
    rw [List.append_nil] at hP hD
    have hf1 : cells + 1 ≤ 1078 ∧ slots + 6 ≤ 9341 := hf
    replace hr : r = 0 := hr
    subst hr
    refine lv_istore (lv' := [(5, .int 0), (0, .ref b), (1, .ref h), (2, .ref m0), (3, .ref o), (4, .int x)]) hx hb dL_law_657 hl (by decide) rfl (fun ls hl => ?_)
    refine lv_aload_n hx hb dL_law_659 rfl (lv_at hl 3 rfl) ?_
    refine kl_rd (k := 1) hx hb hX hbl hS (lv_at hl 1 rfl) (lv_at hl 5 rfl) rfl (hin 1 (by decide)) q1 dL_law_660 dL_law_661 dL_law_663 dL_law_664 dL_law_665 ?_
    have hcq : cdOne kc p1 = cdOne kc p1 := rfl
    have hI2 : LInv n kc fs ss ed lm ce cw iss sb len := hI
    refine kcV_i (n := 1) (X := []) (wc := wM cy m0 m1 m2 m3 m4 m5 m6 m7 m8 m9 m10 m11 m12 m13 m14 m15 m16 m17 th dy sd n fd ed lm fs ss dd pins ag en cm kc sb iss fst len off ren wsn) (Y := wH cy h pn a0 a1 a2 a3 a4 a5 a6 a7 a8 b0 b1 b2 b3 b4 b5 b6 b7 fs ss fd ed lm dd ce cw n iss sb fst len off ren que kc pins sd dy ++ kout cy o (vp_updL f 0 (iss (ix p1)).toInt64)) (As := [.int p1]) (rest := []) ⟨hx, hb, hml, hown, hts⟩ hE hA hP hD hS (c_X3_issuerOf l D cy m0 m1 m2 m3 m4 m5 m6 m7 m8 m9 m10 m11 m12 m13 m14 m15 m16 m17 th dy sd n fd ed lm fs ss dd pins ag en cm kc sb iss fst len off ren wsn p1 hk (hcq.trans hcd)) (fun _ => Eq.trans (b := [m0, m1, m2, m3, m4, m5, m6, m7, m8, m9, m10, m11, m12, m13, m14, m15, m16, m17]) rfl rfl) (q0 := 0) (ci := 3) rfl rfl gL_law_X3_issuerOf rfl rfl rfl ⟨rfl, by decide, by decide, by decide +kernel⟩ ⟨Nat.le_of_ble_eq_true rfl, Nat.le_of_ble_eq_true rfl⟩ rfl hl.1 rfl (Nat.le_of_ble_eq_true rfl) dL_law_666 hf1 (fun r2 u H locs hr2 hP hD hS => ?_)
    rw [List.nil_append] at hP hD
    refine lv_istore (lv' := [(6, .int r2), (5, .int 0), (0, .ref b), (1, .ref h), (2, .ref m0), (3, .ref o), (4, .int x)]) hx hb dL_law_669 hl (by decide) rfl (fun ls hl => ?_)
    refine lv_aload_n hx hb dL_law_671 rfl (lv_at hl 4 rfl) ?_
    refine kcV_i (n := 0) (X := []) (wc := wM cy m0 m1 m2 m3 m4 m5 m6 m7 m8 m9 m10 m11 m12 m13 m14 m15 m16 m17 0 dy sd n fd ed lm fs ss dd pins ag en cm kc sb iss fst len off ren wsn) (Y := wH cy h pn a0 a1 a2 a3 a4 a5 a6 a7 a8 b0 b1 b2 b3 b4 b5 b6 b7 fs ss fd ed lm dd ce cw n iss sb fst len off ren que kc pins sd dy ++ kout cy o (vp_updL f 0 (iss (ix p1)).toInt64)) (As := []) (rest := []) ⟨hx, hb, hml, hown, hts⟩ hE hA hP hD hS (c_X3_thrown l D cy m0 m1 m2 m3 m4 m5 m6 m7 m8 m9 m10 m11 m12 m13 m14 m15 m16 m17 0 dy sd n fd ed lm fs ss dd pins ag en cm kc sb iss fst len off ren wsn) (fun _ => Eq.trans (b := [m0, m1, m2, m3, m4, m5, m6, m7, m8, m9, m10, m11, m12, m13, m14, m15, m16, m17]) rfl rfl) (q0 := 0) (ci := 3) rfl rfl gL_law_X3_thrown rfl rfl rfl ⟨rfl, by decide, by decide, by decide +kernel⟩ ⟨Nat.le_of_ble_eq_true rfl, Nat.le_of_ble_eq_true rfl⟩ rfl hl.1 rfl (Nat.le_of_ble_eq_true rfl) dL_law_672 hf1 (fun r3 u3 H locs hr3 hP hD hS => ?_)
    rw [List.nil_append] at hP hD
    replace hr3 : r3 = 0 := hr3
    subst hr3
    refine lv_iload hx hb dL_law_675 (lv_at hl 1 rfl) ?_
    refine lv_icmp_eq (tgt := 682) hx hb dL_law_677 (by decide) (fun _ => ?_) (fun q => absurd rfl q)
    refine lv_iload hx hb dL_law_682 (lv_at hl 1 rfl) ?_
    refine lv_if_ne (tgt := 699) hx hb dL_law_684 (by decide) (fun q => absurd rfl q) (fun _ => ?_)
    have hval : iss (ix p1) = iss (ix p1) := rfl
    replace hr2 : r2 = iss (ix p1) := hr2.trans hval
    refine lv_aload_n hx hb dL_law_687 rfl (lv_at hl 5 rfl) ?_
    refine lv_iconst (v := 0) hx hb dL_law_688 (by decide) ?_
    refine va_lald (i := 0) (f := vp_updL f 0 (iss (ix p1)).toInt64) hx hb hE.1 hP 37 2 (a := o) rfl rfl k_in0 dL_law_689 ?_
    rw [updL_0]
    refine lv_iload hx hb dL_law_690 (lv_at hl 0 rfl) ?_
    refine lv_i2l (v := r2.toInt64) hx hb dL_law_692 rfl ?_
    refine W.lcmp hx hb dL_law_693 ?_
    refine lv_if_eq (tgt := 699) hx hb dL_law_694 (by decide) (fun _ => ?_) (fun q => absurd ((lg_cmp_eq _ _).mpr (by rw [hr2])) q)
    refine lv_goto (tgt := 1505) hx hb dL_law_699 (by decide) ?_
    exact hkk fs ss fd ed lm dd ce cw n iss sb fst len off ren que kc pins sd dy 0 ag en cm wsn (vp_updL f 0 (iss (ix p1)).toInt64) H locs ls hI2 hP hD hS (lv_sub hl [2, 3, 4, 5, 6] rfl)
  · refine kcL_i (n := 3) (X := wM cy m0 m1 m2 m3 m4 m5 m6 m7 m8 m9 m10 m11 m12 m13 m14 m15 m16 m17 th dy sd n fd ed lm fs ss dd pins ag en cm kc sb iss fst len off ren wsn) (wc := wH cy h pn a0 a1 a2 a3 a4 a5 a6 a7 a8 b0 b1 b2 b3 b4 b5 b6 b7 fs ss fd ed lm dd ce cw n iss sb fst len off ren que kc pins sd dy ++ kout cy o f) (Y := []) (As := [.ref h, .int p1, .ref o]) (rest := []) ⟨hx, hb, hml, hown, hts⟩ hE hA hZ (by rw [List.append_nil]; exact hP) (by rw [List.append_nil]; exact hD) hS (c_L_issuerOf_f l D cy hfl h pn a0 a1 a2 a3 a4 a5 a6 a7 a8 b0 b1 b2 b3 b4 b5 b6 b7 fs ss fd ed lm dd ce cw n iss sb fst len off ren que kc pins sd dy p1 hk hcd o f) (Eq.trans (b := [h, a0, a1, a2, a3, a4, a5, a6, a7, a8, b0, b1, b2, b3, b4, b5, b6, b7, pn, o]) rfl rfl) gL_law_L_issuerOf rfl rfl rfl ⟨by decide, by decide, by decide +kernel⟩ ⟨Nat.le_of_ble_eq_true rfl, Nat.le_of_ble_eq_true rfl⟩ rfl hl.1 rfl (Nat.le_of_ble_eq_true rfl) dL_law_654 hf (fun r H locs hr hP hD hS => ?_)
    rw [List.append_nil] at hP hD
    have hf1 : cells + 1 ≤ 1078 ∧ slots + 6 ≤ 9341 := hf
    replace hr : r = cdOne kc p1 := hr
    refine lv_istore (lv' := [(5, .int r), (0, .ref b), (1, .ref h), (2, .ref m0), (3, .ref o), (4, .int x)]) hx hb dL_law_657 hl (by decide) rfl (fun ls hl => ?_)
    refine lv_aload_n hx hb dL_law_659 rfl (lv_at hl 3 rfl) ?_
    refine kl_rd (k := 1) hx hb hX hbl hS (lv_at hl 1 rfl) (lv_at hl 5 rfl) rfl (hin 1 (by decide)) q1 dL_law_660 dL_law_661 dL_law_663 dL_law_664 dL_law_665 ?_
    have hcq : cdOne kc p1 = cdOne kc p1 := rfl
    refine kcV_i (n := 1) (X := []) (wc := wM cy m0 m1 m2 m3 m4 m5 m6 m7 m8 m9 m10 m11 m12 m13 m14 m15 m16 m17 th dy sd n fd ed lm fs ss dd pins ag en cm kc sb iss fst len off ren wsn) (Y := wH cy h pn a0 a1 a2 a3 a4 a5 a6 a7 a8 b0 b1 b2 b3 b4 b5 b6 b7 fs ss fd ed lm dd ce cw n iss sb fst len off ren que kc pins sd dy ++ kout cy o f) (As := [.int p1]) (rest := []) ⟨hx, hb, hml, hown, hts⟩ hE hA hP hD hS (c_X3_issuerOf_f l D cy m0 m1 m2 m3 m4 m5 m6 m7 m8 m9 m10 m11 m12 m13 m14 m15 m16 m17 th dy sd n fd ed lm fs ss dd pins ag en cm kc sb iss fst len off ren wsn p1 hk (fun q => hcd (hcq.symm.trans q))) (fun _ => Eq.trans (b := [m0, m1, m2, m3, m4, m5, m6, m7, m8, m9, m10, m11, m12, m13, m14, m15, m16, m17]) rfl rfl) (q0 := 0) (ci := 3) rfl rfl gL_law_X3_issuerOf rfl rfl rfl ⟨rfl, by decide, by decide, by decide +kernel⟩ ⟨Nat.le_of_ble_eq_true rfl, Nat.le_of_ble_eq_true rfl⟩ rfl hl.1 rfl (Nat.le_of_ble_eq_true rfl) dL_law_666 hf1 (fun r2 u H locs hr2 hP hD hS => ?_)
    rw [List.nil_append] at hP hD
    refine lv_istore (lv' := [(6, .int r2), (5, .int r), (0, .ref b), (1, .ref h), (2, .ref m0), (3, .ref o), (4, .int x)]) hx hb dL_law_669 hl (by decide) rfl (fun ls hl => ?_)
    refine lv_aload_n hx hb dL_law_671 rfl (lv_at hl 4 rfl) ?_
    refine kcV_i (n := 0) (X := []) (wc := wM cy m0 m1 m2 m3 m4 m5 m6 m7 m8 m9 m10 m11 m12 m13 m14 m15 m16 m17 (cdOne kc p1) dy sd n fd ed lm fs ss dd pins ag en cm kc sb iss fst len off ren wsn) (Y := wH cy h pn a0 a1 a2 a3 a4 a5 a6 a7 a8 b0 b1 b2 b3 b4 b5 b6 b7 fs ss fd ed lm dd ce cw n iss sb fst len off ren que kc pins sd dy ++ kout cy o f) (As := []) (rest := []) ⟨hx, hb, hml, hown, hts⟩ hE hA hP hD hS (c_X3_thrown l D cy m0 m1 m2 m3 m4 m5 m6 m7 m8 m9 m10 m11 m12 m13 m14 m15 m16 m17 (cdOne kc p1) dy sd n fd ed lm fs ss dd pins ag en cm kc sb iss fst len off ren wsn) (fun _ => Eq.trans (b := [m0, m1, m2, m3, m4, m5, m6, m7, m8, m9, m10, m11, m12, m13, m14, m15, m16, m17]) rfl rfl) (q0 := 0) (ci := 3) rfl rfl gL_law_X3_thrown rfl rfl rfl ⟨rfl, by decide, by decide, by decide +kernel⟩ ⟨Nat.le_of_ble_eq_true rfl, Nat.le_of_ble_eq_true rfl⟩ rfl hl.1 rfl (Nat.le_of_ble_eq_true rfl) dL_law_672 hf1 (fun r3 u3 H locs hr3 hP hD hS => ?_)
    rw [List.nil_append] at hP hD
    replace hr3 : r3 = cdOne kc p1 := hr3
    refine lv_iload hx hb dL_law_675 (lv_at hl 1 rfl) ?_
    refine lv_icmp_eq (tgt := 682) hx hb dL_law_677 (by decide) (fun _ => ?_) (fun q => absurd (hr3.trans (hcq.trans hr.symm)) q)
    refine lv_iload hx hb dL_law_682 (lv_at hl 1 rfl) ?_
    refine lv_if_ne (tgt := 699) hx hb dL_law_684 (by decide) (fun _ => ?_) (fun q => absurd (hr.symm.trans q) hcd)
    refine lv_goto (tgt := 1505) hx hb dL_law_699 (by decide) ?_
    exact hkk fs ss fd ed lm dd ce cw n iss sb fst len off ren que kc pins sd dy (cdOne kc p1) ag en cm wsn f H locs ls hI hP hD hS (lv_sub hl [2, 3, 4, 5, 6] rfl)
set_option maxHeartbeats 4000000 in
set_option maxRecDepth 100000 in
theorem rd_lastDay {p : Program} {l : Launch} {e : Env} {s : State} {m : MethodId} {below : List Frame} {meth : Method} {c : Code} {H : Heap} {locs : List Loc} {cells slots : Nat} {Q : State → Prop} {ls : Array Slot} {D : va_G} {cy : ClassId × ClassId × ClassId} {b L : Nat} {xs : Nat → Int32} (h pn a0 a1 a2 a3 a4 a5 a6 a7 a8 b0 b1 b2 b3 b4 b5 b6 b7 m0 m1 m2 m3 m4 m5 m6 m7 m8 m9 m10 m11 m12 m13 m14 m15 m16 m17 o : Nat) (fs ss fd ed lm dd ce cw : Nat → Int32) (n : Nat) (iss sb fst len off ren que : Nat → Int32) (kc : Nat) (pins : Nat → Int32) (sd dy th : Int32) (ag en cm wsn : Nat → Int32) (f : Nat → Int64) {x p1 : Int32} (C : LC p l s m c D cy b L xs) (hI : LInv n kc fs ss ed lm ce cw iss sb len) (hin : ∀ k, k < 5 → vp_in (x + nI k) L) (q1 : xs (x + nI 1).toNatClampNeg = p1) (hf : cells + 1 ≤ 1078 ∧ slots + 6 ≤ 9341) (hP : va_P D vwCl (wWL cy h pn a0 a1 a2 a3 a4 a5 a6 a7 a8 b0 b1 b2 b3 b4 b5 b6 b7 m0 m1 m2 m3 m4 m5 m6 m7 m8 m9 m10 m11 m12 m13 m14 m15 m16 m17 o fs ss fd ed lm dd ce cw n iss sb fst len off ren que kc pins sd dy th ag en cm wsn f) H) (hD : va_D (lwA s) (wWL cy h pn a0 a1 a2 a3 a4 a5 a6 a7 a8 b0 b1 b2 b3 b4 b5 b6 b7 m0 m1 m2 m3 m4 m5 m6 m7 m8 m9 m10 m11 m12 m13 m14 m15 m16 m17 o fs ss fd ed lm dd ce cw n iss sb fst len off ren que kc pins sd dy th ag en cm wsn f)) (hS : va_S (lwA s) s.heap H locs) (hl : lv_has ls 7 [(0, .ref b), (1, .ref h), (2, .ref m0), (3, .ref o), (4, .int x)]) (hkk : LK p l e s m below meth c Q D cy b x h pn a0 a1 a2 a3 a4 a5 a6 a7 a8 b0 b1 b2 b3 b4 b5 b6 b7 m0 m1 m2 m3 m4 m5 m6 m7 m8 m9 m10 m11 m12 m13 m14 m15 m16 m17 o (cells + 1) (slots + 6)) : W p l e room_1 s m #[Value.ref b] below meth c H locs cells slots Q (F0 m 702 ls []) := by
  obtain ⟨hx, hb, hml, hown, hts, hX, hbl, hE, hZ, hfl⟩ := C
  obtain ⟨hn, hk, hfs, hss, hro, hlm, hok, hsb, hce, hcw⟩ := id hI
  have hA : ∀ q : Nat, s.heap.size ≤ q → lwA s q := fun _ h => h
  refine lv_aload_n hx hb dL_law_702 rfl (lv_at hl 1 rfl) ?_
  refine kl_rd (k := 1) hx hb hX hbl hS (lv_at hl 0 rfl) (lv_at hl 4 rfl) rfl (hin 1 (by decide)) q1 dL_law_703 dL_law_704 dL_law_706 dL_law_707 dL_law_708 ?_
  refine lv_aload_n hx hb dL_law_709 rfl (lv_at hl 3 rfl) ?_
  by_cases hcd : cdOne kc p1 = 0
  · refine kcL_i (n := 3) (X := wM cy m0 m1 m2 m3 m4 m5 m6 m7 m8 m9 m10 m11 m12 m13 m14 m15 m16 m17 th dy sd n fd ed lm fs ss dd pins ag en cm kc sb iss fst len off ren wsn) (wc := wH cy h pn a0 a1 a2 a3 a4 a5 a6 a7 a8 b0 b1 b2 b3 b4 b5 b6 b7 fs ss fd ed lm dd ce cw n iss sb fst len off ren que kc pins sd dy ++ kout cy o f) (Y := []) (As := [.ref h, .int p1, .ref o]) (rest := []) ⟨hx, hb, hml, hown, hts⟩ hE hA hZ (by rw [List.append_nil]; exact hP) (by rw [List.append_nil]; exact hD) hS (c_L_lastDay l D cy hfl h pn a0 a1 a2 a3 a4 a5 a6 a7 a8 b0 b1 b2 b3 b4 b5 b6 b7 fs ss fd ed lm dd ce cw n iss sb fst len off ren que kc pins sd dy p1 hk hcd o f) (Eq.trans (b := [h, a0, a1, a2, a3, a4, a5, a6, a7, a8, b0, b1, b2, b3, b4, b5, b6, b7, pn, o]) rfl rfl) gL_law_L_lastDay rfl rfl rfl ⟨by decide, by decide, by decide +kernel⟩ ⟨Nat.le_of_ble_eq_true rfl, Nat.le_of_ble_eq_true rfl⟩ rfl hl.1 rfl (Nat.le_of_ble_eq_true rfl) dL_law_710 hf (fun r H locs hr hP hD hS => ?_)
    rw [List.append_nil] at hP hD
    have hf1 : cells + 1 ≤ 1078 ∧ slots + 6 ≤ 9341 := hf
    replace hr : r = 0 := hr
    subst hr
    refine lv_istore (lv' := [(5, .int 0), (0, .ref b), (1, .ref h), (2, .ref m0), (3, .ref o), (4, .int x)]) hx hb dL_law_713 hl (by decide) rfl (fun ls hl => ?_)
    refine lv_aload_n hx hb dL_law_715 rfl (lv_at hl 3 rfl) ?_
    refine kl_rd (k := 1) hx hb hX hbl hS (lv_at hl 1 rfl) (lv_at hl 5 rfl) rfl (hin 1 (by decide)) q1 dL_law_716 dL_law_717 dL_law_719 dL_law_720 dL_law_721 ?_
    have hcq : cdOne kc p1 = cdOne kc p1 := rfl
    have hI2 : LInv n kc fs ss ed lm ce cw iss sb len := hI
    refine kcV_i (n := 1) (X := []) (wc := wM cy m0 m1 m2 m3 m4 m5 m6 m7 m8 m9 m10 m11 m12 m13 m14 m15 m16 m17 th dy sd n fd ed lm fs ss dd pins ag en cm kc sb iss fst len off ren wsn) (Y := wH cy h pn a0 a1 a2 a3 a4 a5 a6 a7 a8 b0 b1 b2 b3 b4 b5 b6 b7 fs ss fd ed lm dd ce cw n iss sb fst len off ren que kc pins sd dy ++ kout cy o (vp_updL f 0 (ctEnd fst len (ix p1)).toInt64)) (As := [.int p1]) (rest := []) ⟨hx, hb, hml, hown, hts⟩ hE hA hP hD hS (c_X3_lastDay l D cy m0 m1 m2 m3 m4 m5 m6 m7 m8 m9 m10 m11 m12 m13 m14 m15 m16 m17 th dy sd n fd ed lm fs ss dd pins ag en cm kc sb iss fst len off ren wsn p1 hk (hcq.trans hcd)) (fun _ => Eq.trans (b := [m0, m1, m2, m3, m4, m5, m6, m7, m8, m9, m10, m11, m12, m13, m14, m15, m16, m17]) rfl rfl) (q0 := 0) (ci := 3) rfl rfl gL_law_X3_lastDay rfl rfl rfl ⟨rfl, by decide, by decide, by decide +kernel⟩ ⟨Nat.le_of_ble_eq_true rfl, Nat.le_of_ble_eq_true rfl⟩ rfl hl.1 rfl (Nat.le_of_ble_eq_true rfl) dL_law_722 hf1 (fun r2 u H locs hr2 hP hD hS => ?_)
    rw [List.nil_append] at hP hD
    refine lv_istore (lv' := [(6, .int r2), (5, .int 0), (0, .ref b), (1, .ref h), (2, .ref m0), (3, .ref o), (4, .int x)]) hx hb dL_law_725 hl (by decide) rfl (fun ls hl => ?_)
    refine lv_aload_n hx hb dL_law_727 rfl (lv_at hl 4 rfl) ?_
    refine kcV_i (n := 0) (X := []) (wc := wM cy m0 m1 m2 m3 m4 m5 m6 m7 m8 m9 m10 m11 m12 m13 m14 m15 m16 m17 0 dy sd n fd ed lm fs ss dd pins ag en cm kc sb iss fst len off ren wsn) (Y := wH cy h pn a0 a1 a2 a3 a4 a5 a6 a7 a8 b0 b1 b2 b3 b4 b5 b6 b7 fs ss fd ed lm dd ce cw n iss sb fst len off ren que kc pins sd dy ++ kout cy o (vp_updL f 0 (ctEnd fst len (ix p1)).toInt64)) (As := []) (rest := []) ⟨hx, hb, hml, hown, hts⟩ hE hA hP hD hS (c_X3_thrown l D cy m0 m1 m2 m3 m4 m5 m6 m7 m8 m9 m10 m11 m12 m13 m14 m15 m16 m17 0 dy sd n fd ed lm fs ss dd pins ag en cm kc sb iss fst len off ren wsn) (fun _ => Eq.trans (b := [m0, m1, m2, m3, m4, m5, m6, m7, m8, m9, m10, m11, m12, m13, m14, m15, m16, m17]) rfl rfl) (q0 := 0) (ci := 3) rfl rfl gL_law_X3_thrown rfl rfl rfl ⟨rfl, by decide, by decide, by decide +kernel⟩ ⟨Nat.le_of_ble_eq_true rfl, Nat.le_of_ble_eq_true rfl⟩ rfl hl.1 rfl (Nat.le_of_ble_eq_true rfl) dL_law_728 hf1 (fun r3 u3 H locs hr3 hP hD hS => ?_)
    rw [List.nil_append] at hP hD
    replace hr3 : r3 = 0 := hr3
    subst hr3
    refine lv_iload hx hb dL_law_731 (lv_at hl 1 rfl) ?_
    refine lv_icmp_eq (tgt := 738) hx hb dL_law_733 (by decide) (fun _ => ?_) (fun q => absurd rfl q)
    refine lv_iload hx hb dL_law_738 (lv_at hl 1 rfl) ?_
    refine lv_if_ne (tgt := 755) hx hb dL_law_740 (by decide) (fun q => absurd rfl q) (fun _ => ?_)
    have hval : ctEnd fst len (ix p1) = ctEnd fst len (ix p1) := rfl
    replace hr2 : r2 = ctEnd fst len (ix p1) := hr2.trans hval
    refine lv_aload_n hx hb dL_law_743 rfl (lv_at hl 5 rfl) ?_
    refine lv_iconst (v := 0) hx hb dL_law_744 (by decide) ?_
    refine va_lald (i := 0) (f := vp_updL f 0 (ctEnd fst len (ix p1)).toInt64) hx hb hE.1 hP 37 2 (a := o) rfl rfl k_in0 dL_law_745 ?_
    rw [updL_0]
    refine lv_iload hx hb dL_law_746 (lv_at hl 0 rfl) ?_
    refine lv_i2l (v := r2.toInt64) hx hb dL_law_748 rfl ?_
    refine W.lcmp hx hb dL_law_749 ?_
    refine lv_if_eq (tgt := 755) hx hb dL_law_750 (by decide) (fun _ => ?_) (fun q => absurd ((lg_cmp_eq _ _).mpr (by rw [hr2])) q)
    refine lv_goto (tgt := 1505) hx hb dL_law_755 (by decide) ?_
    exact hkk fs ss fd ed lm dd ce cw n iss sb fst len off ren que kc pins sd dy 0 ag en cm wsn (vp_updL f 0 (ctEnd fst len (ix p1)).toInt64) H locs ls hI2 hP hD hS (lv_sub hl [2, 3, 4, 5, 6] rfl)
  · refine kcL_i (n := 3) (X := wM cy m0 m1 m2 m3 m4 m5 m6 m7 m8 m9 m10 m11 m12 m13 m14 m15 m16 m17 th dy sd n fd ed lm fs ss dd pins ag en cm kc sb iss fst len off ren wsn) (wc := wH cy h pn a0 a1 a2 a3 a4 a5 a6 a7 a8 b0 b1 b2 b3 b4 b5 b6 b7 fs ss fd ed lm dd ce cw n iss sb fst len off ren que kc pins sd dy ++ kout cy o f) (Y := []) (As := [.ref h, .int p1, .ref o]) (rest := []) ⟨hx, hb, hml, hown, hts⟩ hE hA hZ (by rw [List.append_nil]; exact hP) (by rw [List.append_nil]; exact hD) hS (c_L_lastDay_f l D cy hfl h pn a0 a1 a2 a3 a4 a5 a6 a7 a8 b0 b1 b2 b3 b4 b5 b6 b7 fs ss fd ed lm dd ce cw n iss sb fst len off ren que kc pins sd dy p1 hk hcd o f) (Eq.trans (b := [h, a0, a1, a2, a3, a4, a5, a6, a7, a8, b0, b1, b2, b3, b4, b5, b6, b7, pn, o]) rfl rfl) gL_law_L_lastDay rfl rfl rfl ⟨by decide, by decide, by decide +kernel⟩ ⟨Nat.le_of_ble_eq_true rfl, Nat.le_of_ble_eq_true rfl⟩ rfl hl.1 rfl (Nat.le_of_ble_eq_true rfl) dL_law_710 hf (fun r H locs hr hP hD hS => ?_)
    rw [List.append_nil] at hP hD
    have hf1 : cells + 1 ≤ 1078 ∧ slots + 6 ≤ 9341 := hf
    replace hr : r = cdOne kc p1 := hr
    refine lv_istore (lv' := [(5, .int r), (0, .ref b), (1, .ref h), (2, .ref m0), (3, .ref o), (4, .int x)]) hx hb dL_law_713 hl (by decide) rfl (fun ls hl => ?_)
    refine lv_aload_n hx hb dL_law_715 rfl (lv_at hl 3 rfl) ?_
    refine kl_rd (k := 1) hx hb hX hbl hS (lv_at hl 1 rfl) (lv_at hl 5 rfl) rfl (hin 1 (by decide)) q1 dL_law_716 dL_law_717 dL_law_719 dL_law_720 dL_law_721 ?_
    have hcq : cdOne kc p1 = cdOne kc p1 := rfl
    refine kcV_i (n := 1) (X := []) (wc := wM cy m0 m1 m2 m3 m4 m5 m6 m7 m8 m9 m10 m11 m12 m13 m14 m15 m16 m17 th dy sd n fd ed lm fs ss dd pins ag en cm kc sb iss fst len off ren wsn) (Y := wH cy h pn a0 a1 a2 a3 a4 a5 a6 a7 a8 b0 b1 b2 b3 b4 b5 b6 b7 fs ss fd ed lm dd ce cw n iss sb fst len off ren que kc pins sd dy ++ kout cy o f) (As := [.int p1]) (rest := []) ⟨hx, hb, hml, hown, hts⟩ hE hA hP hD hS (c_X3_lastDay_f l D cy m0 m1 m2 m3 m4 m5 m6 m7 m8 m9 m10 m11 m12 m13 m14 m15 m16 m17 th dy sd n fd ed lm fs ss dd pins ag en cm kc sb iss fst len off ren wsn p1 hk (fun q => hcd (hcq.symm.trans q))) (fun _ => Eq.trans (b := [m0, m1, m2, m3, m4, m5, m6, m7, m8, m9, m10, m11, m12, m13, m14, m15, m16, m17]) rfl rfl) (q0 := 0) (ci := 3) rfl rfl gL_law_X3_lastDay rfl rfl rfl ⟨rfl, by decide, by decide, by decide +kernel⟩ ⟨Nat.le_of_ble_eq_true rfl, Nat.le_of_ble_eq_true rfl⟩ rfl hl.1 rfl (Nat.le_of_ble_eq_true rfl) dL_law_722 hf1 (fun r2 u H locs hr2 hP hD hS => ?_)
    rw [List.nil_append] at hP hD
    refine lv_istore (lv' := [(6, .int r2), (5, .int r), (0, .ref b), (1, .ref h), (2, .ref m0), (3, .ref o), (4, .int x)]) hx hb dL_law_725 hl (by decide) rfl (fun ls hl => ?_)
    refine lv_aload_n hx hb dL_law_727 rfl (lv_at hl 4 rfl) ?_
    refine kcV_i (n := 0) (X := []) (wc := wM cy m0 m1 m2 m3 m4 m5 m6 m7 m8 m9 m10 m11 m12 m13 m14 m15 m16 m17 (cdOne kc p1) dy sd n fd ed lm fs ss dd pins ag en cm kc sb iss fst len off ren wsn) (Y := wH cy h pn a0 a1 a2 a3 a4 a5 a6 a7 a8 b0 b1 b2 b3 b4 b5 b6 b7 fs ss fd ed lm dd ce cw n iss sb fst len off ren que kc pins sd dy ++ kout cy o f) (As := []) (rest := []) ⟨hx, hb, hml, hown, hts⟩ hE hA hP hD hS (c_X3_thrown l D cy m0 m1 m2 m3 m4 m5 m6 m7 m8 m9 m10 m11 m12 m13 m14 m15 m16 m17 (cdOne kc p1) dy sd n fd ed lm fs ss dd pins ag en cm kc sb iss fst len off ren wsn) (fun _ => Eq.trans (b := [m0, m1, m2, m3, m4, m5, m6, m7, m8, m9, m10, m11, m12, m13, m14, m15, m16, m17]) rfl rfl) (q0 := 0) (ci := 3) rfl rfl gL_law_X3_thrown rfl rfl rfl ⟨rfl, by decide, by decide, by decide +kernel⟩ ⟨Nat.le_of_ble_eq_true rfl, Nat.le_of_ble_eq_true rfl⟩ rfl hl.1 rfl (Nat.le_of_ble_eq_true rfl) dL_law_728 hf1 (fun r3 u3 H locs hr3 hP hD hS => ?_)
    rw [List.nil_append] at hP hD
    replace hr3 : r3 = cdOne kc p1 := hr3
    refine lv_iload hx hb dL_law_731 (lv_at hl 1 rfl) ?_
    refine lv_icmp_eq (tgt := 738) hx hb dL_law_733 (by decide) (fun _ => ?_) (fun q => absurd (hr3.trans (hcq.trans hr.symm)) q)
    refine lv_iload hx hb dL_law_738 (lv_at hl 1 rfl) ?_
    refine lv_if_ne (tgt := 755) hx hb dL_law_740 (by decide) (fun _ => ?_) (fun q => absurd (hr.symm.trans q) hcd)
    refine lv_goto (tgt := 1505) hx hb dL_law_755 (by decide) ?_
    exact hkk fs ss fd ed lm dd ce cw n iss sb fst len off ren que kc pins sd dy (cdOne kc p1) ag en cm wsn f H locs ls hI hP hD hS (lv_sub hl [2, 3, 4, 5, 6] rfl)
set_option maxHeartbeats 4000000 in
set_option maxRecDepth 100000 in
theorem rd_dueOn {p : Program} {l : Launch} {e : Env} {s : State} {m : MethodId} {below : List Frame} {meth : Method} {c : Code} {H : Heap} {locs : List Loc} {cells slots : Nat} {Q : State → Prop} {ls : Array Slot} {D : va_G} {cy : ClassId × ClassId × ClassId} {b L : Nat} {xs : Nat → Int32} (h pn a0 a1 a2 a3 a4 a5 a6 a7 a8 b0 b1 b2 b3 b4 b5 b6 b7 m0 m1 m2 m3 m4 m5 m6 m7 m8 m9 m10 m11 m12 m13 m14 m15 m16 m17 o : Nat) (fs ss fd ed lm dd ce cw : Nat → Int32) (n : Nat) (iss sb fst len off ren que : Nat → Int32) (kc : Nat) (pins : Nat → Int32) (sd dy th : Int32) (ag en cm wsn : Nat → Int32) (f : Nat → Int64) {x p1 : Int32} (C : LC p l s m c D cy b L xs) (hI : LInv n kc fs ss ed lm ce cw iss sb len) (hin : ∀ k, k < 5 → vp_in (x + nI k) L) (q1 : xs (x + nI 1).toNatClampNeg = p1) (hf : cells + 1 ≤ 1078 ∧ slots + 6 ≤ 9341) (hP : va_P D vwCl (wWL cy h pn a0 a1 a2 a3 a4 a5 a6 a7 a8 b0 b1 b2 b3 b4 b5 b6 b7 m0 m1 m2 m3 m4 m5 m6 m7 m8 m9 m10 m11 m12 m13 m14 m15 m16 m17 o fs ss fd ed lm dd ce cw n iss sb fst len off ren que kc pins sd dy th ag en cm wsn f) H) (hD : va_D (lwA s) (wWL cy h pn a0 a1 a2 a3 a4 a5 a6 a7 a8 b0 b1 b2 b3 b4 b5 b6 b7 m0 m1 m2 m3 m4 m5 m6 m7 m8 m9 m10 m11 m12 m13 m14 m15 m16 m17 o fs ss fd ed lm dd ce cw n iss sb fst len off ren que kc pins sd dy th ag en cm wsn f)) (hS : va_S (lwA s) s.heap H locs) (hl : lv_has ls 7 [(0, .ref b), (1, .ref h), (2, .ref m0), (3, .ref o), (4, .int x)]) (hkk : LK p l e s m below meth c Q D cy b x h pn a0 a1 a2 a3 a4 a5 a6 a7 a8 b0 b1 b2 b3 b4 b5 b6 b7 m0 m1 m2 m3 m4 m5 m6 m7 m8 m9 m10 m11 m12 m13 m14 m15 m16 m17 o (cells + 1) (slots + 6)) : W p l e room_1 s m #[Value.ref b] below meth c H locs cells slots Q (F0 m 758 ls []) := by
  obtain ⟨hx, hb, hml, hown, hts, hX, hbl, hE, hZ, hfl⟩ := C
  obtain ⟨hn, hk, hfs, hss, hro, hlm, hok, hsb, hce, hcw⟩ := id hI
  have hA : ∀ q : Nat, s.heap.size ≤ q → lwA s q := fun _ h => h
  refine lv_aload_n hx hb dL_law_758 rfl (lv_at hl 1 rfl) ?_
  refine kl_rd (k := 1) hx hb hX hbl hS (lv_at hl 0 rfl) (lv_at hl 4 rfl) rfl (hin 1 (by decide)) q1 dL_law_759 dL_law_760 dL_law_762 dL_law_763 dL_law_764 ?_
  refine lv_aload_n hx hb dL_law_765 rfl (lv_at hl 3 rfl) ?_
  by_cases hcd : cdOne kc p1 = 0
  · refine kcL_i (n := 3) (X := wM cy m0 m1 m2 m3 m4 m5 m6 m7 m8 m9 m10 m11 m12 m13 m14 m15 m16 m17 th dy sd n fd ed lm fs ss dd pins ag en cm kc sb iss fst len off ren wsn) (wc := wH cy h pn a0 a1 a2 a3 a4 a5 a6 a7 a8 b0 b1 b2 b3 b4 b5 b6 b7 fs ss fd ed lm dd ce cw n iss sb fst len off ren que kc pins sd dy ++ kout cy o f) (Y := []) (As := [.ref h, .int p1, .ref o]) (rest := []) ⟨hx, hb, hml, hown, hts⟩ hE hA hZ (by rw [List.append_nil]; exact hP) (by rw [List.append_nil]; exact hD) hS (c_L_dueOn l D cy hfl h pn a0 a1 a2 a3 a4 a5 a6 a7 a8 b0 b1 b2 b3 b4 b5 b6 b7 fs ss fd ed lm dd ce cw n iss sb fst len off ren que kc pins sd dy p1 hk hcd o f) (Eq.trans (b := [h, a0, a1, a2, a3, a4, a5, a6, a7, a8, b0, b1, b2, b3, b4, b5, b6, b7, pn, o]) rfl rfl) gL_law_L_dueOn rfl rfl rfl ⟨by decide, by decide, by decide +kernel⟩ ⟨Nat.le_of_ble_eq_true rfl, Nat.le_of_ble_eq_true rfl⟩ rfl hl.1 rfl (Nat.le_of_ble_eq_true rfl) dL_law_766 hf (fun r H locs hr hP hD hS => ?_)
    rw [List.append_nil] at hP hD
    have hf1 : cells + 1 ≤ 1078 ∧ slots + 6 ≤ 9341 := hf
    replace hr : r = 0 := hr
    subst hr
    refine lv_istore (lv' := [(5, .int 0), (0, .ref b), (1, .ref h), (2, .ref m0), (3, .ref o), (4, .int x)]) hx hb dL_law_769 hl (by decide) rfl (fun ls hl => ?_)
    refine lv_aload_n hx hb dL_law_771 rfl (lv_at hl 3 rfl) ?_
    refine kl_rd (k := 1) hx hb hX hbl hS (lv_at hl 1 rfl) (lv_at hl 5 rfl) rfl (hin 1 (by decide)) q1 dL_law_772 dL_law_773 dL_law_775 dL_law_776 dL_law_777 ?_
    have hcq : cdOne kc p1 = cdOne kc p1 := rfl
    have hI2 : LInv n kc fs ss ed lm ce cw iss sb len := hI
    refine kcV_i (n := 1) (X := []) (wc := wM cy m0 m1 m2 m3 m4 m5 m6 m7 m8 m9 m10 m11 m12 m13 m14 m15 m16 m17 th dy sd n fd ed lm fs ss dd pins ag en cm kc sb iss fst len off ren wsn) (Y := wH cy h pn a0 a1 a2 a3 a4 a5 a6 a7 a8 b0 b1 b2 b3 b4 b5 b6 b7 fs ss fd ed lm dd ce cw n iss sb fst len off ren que kc pins sd dy ++ kout cy o (vp_updL f 0 (ctDue fst len off (ix p1)).toInt64)) (As := [.int p1]) (rest := []) ⟨hx, hb, hml, hown, hts⟩ hE hA hP hD hS (c_X3_dueOn l D cy m0 m1 m2 m3 m4 m5 m6 m7 m8 m9 m10 m11 m12 m13 m14 m15 m16 m17 th dy sd n fd ed lm fs ss dd pins ag en cm kc sb iss fst len off ren wsn p1 hk (hcq.trans hcd)) (fun _ => Eq.trans (b := [m0, m1, m2, m3, m4, m5, m6, m7, m8, m9, m10, m11, m12, m13, m14, m15, m16, m17]) rfl rfl) (q0 := 0) (ci := 3) rfl rfl gL_law_X3_dueOn rfl rfl rfl ⟨rfl, by decide, by decide, by decide +kernel⟩ ⟨Nat.le_of_ble_eq_true rfl, Nat.le_of_ble_eq_true rfl⟩ rfl hl.1 rfl (Nat.le_of_ble_eq_true rfl) dL_law_778 hf1 (fun r2 u H locs hr2 hP hD hS => ?_)
    rw [List.nil_append] at hP hD
    refine lv_istore (lv' := [(6, .int r2), (5, .int 0), (0, .ref b), (1, .ref h), (2, .ref m0), (3, .ref o), (4, .int x)]) hx hb dL_law_781 hl (by decide) rfl (fun ls hl => ?_)
    refine lv_aload_n hx hb dL_law_783 rfl (lv_at hl 4 rfl) ?_
    refine kcV_i (n := 0) (X := []) (wc := wM cy m0 m1 m2 m3 m4 m5 m6 m7 m8 m9 m10 m11 m12 m13 m14 m15 m16 m17 0 dy sd n fd ed lm fs ss dd pins ag en cm kc sb iss fst len off ren wsn) (Y := wH cy h pn a0 a1 a2 a3 a4 a5 a6 a7 a8 b0 b1 b2 b3 b4 b5 b6 b7 fs ss fd ed lm dd ce cw n iss sb fst len off ren que kc pins sd dy ++ kout cy o (vp_updL f 0 (ctDue fst len off (ix p1)).toInt64)) (As := []) (rest := []) ⟨hx, hb, hml, hown, hts⟩ hE hA hP hD hS (c_X3_thrown l D cy m0 m1 m2 m3 m4 m5 m6 m7 m8 m9 m10 m11 m12 m13 m14 m15 m16 m17 0 dy sd n fd ed lm fs ss dd pins ag en cm kc sb iss fst len off ren wsn) (fun _ => Eq.trans (b := [m0, m1, m2, m3, m4, m5, m6, m7, m8, m9, m10, m11, m12, m13, m14, m15, m16, m17]) rfl rfl) (q0 := 0) (ci := 3) rfl rfl gL_law_X3_thrown rfl rfl rfl ⟨rfl, by decide, by decide, by decide +kernel⟩ ⟨Nat.le_of_ble_eq_true rfl, Nat.le_of_ble_eq_true rfl⟩ rfl hl.1 rfl (Nat.le_of_ble_eq_true rfl) dL_law_784 hf1 (fun r3 u3 H locs hr3 hP hD hS => ?_)
    rw [List.nil_append] at hP hD
    replace hr3 : r3 = 0 := hr3
    subst hr3
    refine lv_iload hx hb dL_law_787 (lv_at hl 1 rfl) ?_
    refine lv_icmp_eq (tgt := 794) hx hb dL_law_789 (by decide) (fun _ => ?_) (fun q => absurd rfl q)
    refine lv_iload hx hb dL_law_794 (lv_at hl 1 rfl) ?_
    refine lv_if_ne (tgt := 811) hx hb dL_law_796 (by decide) (fun q => absurd rfl q) (fun _ => ?_)
    have hval : dueM fst len off (ix p1) = ctDue fst len off (ix p1) := due_due _ _ _ _
    replace hr2 : r2 = ctDue fst len off (ix p1) := hr2.trans hval
    refine lv_aload_n hx hb dL_law_799 rfl (lv_at hl 5 rfl) ?_
    refine lv_iconst (v := 0) hx hb dL_law_800 (by decide) ?_
    refine va_lald (i := 0) (f := vp_updL f 0 (ctDue fst len off (ix p1)).toInt64) hx hb hE.1 hP 37 2 (a := o) rfl rfl k_in0 dL_law_801 ?_
    rw [updL_0]
    refine lv_iload hx hb dL_law_802 (lv_at hl 0 rfl) ?_
    refine lv_i2l (v := r2.toInt64) hx hb dL_law_804 rfl ?_
    refine W.lcmp hx hb dL_law_805 ?_
    refine lv_if_eq (tgt := 811) hx hb dL_law_806 (by decide) (fun _ => ?_) (fun q => absurd ((lg_cmp_eq _ _).mpr (by rw [hr2])) q)
    refine lv_goto (tgt := 1505) hx hb dL_law_811 (by decide) ?_
    exact hkk fs ss fd ed lm dd ce cw n iss sb fst len off ren que kc pins sd dy 0 ag en cm wsn (vp_updL f 0 (ctDue fst len off (ix p1)).toInt64) H locs ls hI2 hP hD hS (lv_sub hl [2, 3, 4, 5, 6] rfl)
  · refine kcL_i (n := 3) (X := wM cy m0 m1 m2 m3 m4 m5 m6 m7 m8 m9 m10 m11 m12 m13 m14 m15 m16 m17 th dy sd n fd ed lm fs ss dd pins ag en cm kc sb iss fst len off ren wsn) (wc := wH cy h pn a0 a1 a2 a3 a4 a5 a6 a7 a8 b0 b1 b2 b3 b4 b5 b6 b7 fs ss fd ed lm dd ce cw n iss sb fst len off ren que kc pins sd dy ++ kout cy o f) (Y := []) (As := [.ref h, .int p1, .ref o]) (rest := []) ⟨hx, hb, hml, hown, hts⟩ hE hA hZ (by rw [List.append_nil]; exact hP) (by rw [List.append_nil]; exact hD) hS (c_L_dueOn_f l D cy hfl h pn a0 a1 a2 a3 a4 a5 a6 a7 a8 b0 b1 b2 b3 b4 b5 b6 b7 fs ss fd ed lm dd ce cw n iss sb fst len off ren que kc pins sd dy p1 hk hcd o f) (Eq.trans (b := [h, a0, a1, a2, a3, a4, a5, a6, a7, a8, b0, b1, b2, b3, b4, b5, b6, b7, pn, o]) rfl rfl) gL_law_L_dueOn rfl rfl rfl ⟨by decide, by decide, by decide +kernel⟩ ⟨Nat.le_of_ble_eq_true rfl, Nat.le_of_ble_eq_true rfl⟩ rfl hl.1 rfl (Nat.le_of_ble_eq_true rfl) dL_law_766 hf (fun r H locs hr hP hD hS => ?_)
    rw [List.append_nil] at hP hD
    have hf1 : cells + 1 ≤ 1078 ∧ slots + 6 ≤ 9341 := hf
    replace hr : r = cdOne kc p1 := hr
    refine lv_istore (lv' := [(5, .int r), (0, .ref b), (1, .ref h), (2, .ref m0), (3, .ref o), (4, .int x)]) hx hb dL_law_769 hl (by decide) rfl (fun ls hl => ?_)
    refine lv_aload_n hx hb dL_law_771 rfl (lv_at hl 3 rfl) ?_
    refine kl_rd (k := 1) hx hb hX hbl hS (lv_at hl 1 rfl) (lv_at hl 5 rfl) rfl (hin 1 (by decide)) q1 dL_law_772 dL_law_773 dL_law_775 dL_law_776 dL_law_777 ?_
    have hcq : cdOne kc p1 = cdOne kc p1 := rfl
    refine kcV_i (n := 1) (X := []) (wc := wM cy m0 m1 m2 m3 m4 m5 m6 m7 m8 m9 m10 m11 m12 m13 m14 m15 m16 m17 th dy sd n fd ed lm fs ss dd pins ag en cm kc sb iss fst len off ren wsn) (Y := wH cy h pn a0 a1 a2 a3 a4 a5 a6 a7 a8 b0 b1 b2 b3 b4 b5 b6 b7 fs ss fd ed lm dd ce cw n iss sb fst len off ren que kc pins sd dy ++ kout cy o f) (As := [.int p1]) (rest := []) ⟨hx, hb, hml, hown, hts⟩ hE hA hP hD hS (c_X3_dueOn_f l D cy m0 m1 m2 m3 m4 m5 m6 m7 m8 m9 m10 m11 m12 m13 m14 m15 m16 m17 th dy sd n fd ed lm fs ss dd pins ag en cm kc sb iss fst len off ren wsn p1 hk (fun q => hcd (hcq.symm.trans q))) (fun _ => Eq.trans (b := [m0, m1, m2, m3, m4, m5, m6, m7, m8, m9, m10, m11, m12, m13, m14, m15, m16, m17]) rfl rfl) (q0 := 0) (ci := 3) rfl rfl gL_law_X3_dueOn rfl rfl rfl ⟨rfl, by decide, by decide, by decide +kernel⟩ ⟨Nat.le_of_ble_eq_true rfl, Nat.le_of_ble_eq_true rfl⟩ rfl hl.1 rfl (Nat.le_of_ble_eq_true rfl) dL_law_778 hf1 (fun r2 u H locs hr2 hP hD hS => ?_)
    rw [List.nil_append] at hP hD
    refine lv_istore (lv' := [(6, .int r2), (5, .int r), (0, .ref b), (1, .ref h), (2, .ref m0), (3, .ref o), (4, .int x)]) hx hb dL_law_781 hl (by decide) rfl (fun ls hl => ?_)
    refine lv_aload_n hx hb dL_law_783 rfl (lv_at hl 4 rfl) ?_
    refine kcV_i (n := 0) (X := []) (wc := wM cy m0 m1 m2 m3 m4 m5 m6 m7 m8 m9 m10 m11 m12 m13 m14 m15 m16 m17 (cdOne kc p1) dy sd n fd ed lm fs ss dd pins ag en cm kc sb iss fst len off ren wsn) (Y := wH cy h pn a0 a1 a2 a3 a4 a5 a6 a7 a8 b0 b1 b2 b3 b4 b5 b6 b7 fs ss fd ed lm dd ce cw n iss sb fst len off ren que kc pins sd dy ++ kout cy o f) (As := []) (rest := []) ⟨hx, hb, hml, hown, hts⟩ hE hA hP hD hS (c_X3_thrown l D cy m0 m1 m2 m3 m4 m5 m6 m7 m8 m9 m10 m11 m12 m13 m14 m15 m16 m17 (cdOne kc p1) dy sd n fd ed lm fs ss dd pins ag en cm kc sb iss fst len off ren wsn) (fun _ => Eq.trans (b := [m0, m1, m2, m3, m4, m5, m6, m7, m8, m9, m10, m11, m12, m13, m14, m15, m16, m17]) rfl rfl) (q0 := 0) (ci := 3) rfl rfl gL_law_X3_thrown rfl rfl rfl ⟨rfl, by decide, by decide, by decide +kernel⟩ ⟨Nat.le_of_ble_eq_true rfl, Nat.le_of_ble_eq_true rfl⟩ rfl hl.1 rfl (Nat.le_of_ble_eq_true rfl) dL_law_784 hf1 (fun r3 u3 H locs hr3 hP hD hS => ?_)
    rw [List.nil_append] at hP hD
    replace hr3 : r3 = cdOne kc p1 := hr3
    refine lv_iload hx hb dL_law_787 (lv_at hl 1 rfl) ?_
    refine lv_icmp_eq (tgt := 794) hx hb dL_law_789 (by decide) (fun _ => ?_) (fun q => absurd (hr3.trans (hcq.trans hr.symm)) q)
    refine lv_iload hx hb dL_law_794 (lv_at hl 1 rfl) ?_
    refine lv_if_ne (tgt := 811) hx hb dL_law_796 (by decide) (fun _ => ?_) (fun q => absurd (hr.symm.trans q) hcd)
    refine lv_goto (tgt := 1505) hx hb dL_law_811 (by decide) ?_
    exact hkk fs ss fd ed lm dd ce cw n iss sb fst len off ren que kc pins sd dy (cdOne kc p1) ag en cm wsn f H locs ls hI hP hD hS (lv_sub hl [2, 3, 4, 5, 6] rfl)
set_option maxHeartbeats 4000000 in
set_option maxRecDepth 100000 in
theorem rd_renewal {p : Program} {l : Launch} {e : Env} {s : State} {m : MethodId} {below : List Frame} {meth : Method} {c : Code} {H : Heap} {locs : List Loc} {cells slots : Nat} {Q : State → Prop} {ls : Array Slot} {D : va_G} {cy : ClassId × ClassId × ClassId} {b L : Nat} {xs : Nat → Int32} (h pn a0 a1 a2 a3 a4 a5 a6 a7 a8 b0 b1 b2 b3 b4 b5 b6 b7 m0 m1 m2 m3 m4 m5 m6 m7 m8 m9 m10 m11 m12 m13 m14 m15 m16 m17 o : Nat) (fs ss fd ed lm dd ce cw : Nat → Int32) (n : Nat) (iss sb fst len off ren que : Nat → Int32) (kc : Nat) (pins : Nat → Int32) (sd dy th : Int32) (ag en cm wsn : Nat → Int32) (f : Nat → Int64) {x p1 : Int32} (C : LC p l s m c D cy b L xs) (hI : LInv n kc fs ss ed lm ce cw iss sb len) (hin : ∀ k, k < 5 → vp_in (x + nI k) L) (q1 : xs (x + nI 1).toNatClampNeg = p1) (hf : cells + 1 ≤ 1078 ∧ slots + 6 ≤ 9341) (hP : va_P D vwCl (wWL cy h pn a0 a1 a2 a3 a4 a5 a6 a7 a8 b0 b1 b2 b3 b4 b5 b6 b7 m0 m1 m2 m3 m4 m5 m6 m7 m8 m9 m10 m11 m12 m13 m14 m15 m16 m17 o fs ss fd ed lm dd ce cw n iss sb fst len off ren que kc pins sd dy th ag en cm wsn f) H) (hD : va_D (lwA s) (wWL cy h pn a0 a1 a2 a3 a4 a5 a6 a7 a8 b0 b1 b2 b3 b4 b5 b6 b7 m0 m1 m2 m3 m4 m5 m6 m7 m8 m9 m10 m11 m12 m13 m14 m15 m16 m17 o fs ss fd ed lm dd ce cw n iss sb fst len off ren que kc pins sd dy th ag en cm wsn f)) (hS : va_S (lwA s) s.heap H locs) (hl : lv_has ls 7 [(0, .ref b), (1, .ref h), (2, .ref m0), (3, .ref o), (4, .int x)]) (hkk : LK p l e s m below meth c Q D cy b x h pn a0 a1 a2 a3 a4 a5 a6 a7 a8 b0 b1 b2 b3 b4 b5 b6 b7 m0 m1 m2 m3 m4 m5 m6 m7 m8 m9 m10 m11 m12 m13 m14 m15 m16 m17 o (cells + 1) (slots + 6)) : W p l e room_1 s m #[Value.ref b] below meth c H locs cells slots Q (F0 m 814 ls []) := by
  obtain ⟨hx, hb, hml, hown, hts, hX, hbl, hE, hZ, hfl⟩ := C
  obtain ⟨hn, hk, hfs, hss, hro, hlm, hok, hsb, hce, hcw⟩ := id hI
  have hA : ∀ q : Nat, s.heap.size ≤ q → lwA s q := fun _ h => h
  refine lv_aload_n hx hb dL_law_814 rfl (lv_at hl 1 rfl) ?_
  refine kl_rd (k := 1) hx hb hX hbl hS (lv_at hl 0 rfl) (lv_at hl 4 rfl) rfl (hin 1 (by decide)) q1 dL_law_815 dL_law_816 dL_law_818 dL_law_819 dL_law_820 ?_
  refine lv_aload_n hx hb dL_law_821 rfl (lv_at hl 3 rfl) ?_
  by_cases hcd : cdOne kc p1 = 0
  · refine kcL_i (n := 3) (X := wM cy m0 m1 m2 m3 m4 m5 m6 m7 m8 m9 m10 m11 m12 m13 m14 m15 m16 m17 th dy sd n fd ed lm fs ss dd pins ag en cm kc sb iss fst len off ren wsn) (wc := wH cy h pn a0 a1 a2 a3 a4 a5 a6 a7 a8 b0 b1 b2 b3 b4 b5 b6 b7 fs ss fd ed lm dd ce cw n iss sb fst len off ren que kc pins sd dy ++ kout cy o f) (Y := []) (As := [.ref h, .int p1, .ref o]) (rest := []) ⟨hx, hb, hml, hown, hts⟩ hE hA hZ (by rw [List.append_nil]; exact hP) (by rw [List.append_nil]; exact hD) hS (c_L_renewal l D cy hfl h pn a0 a1 a2 a3 a4 a5 a6 a7 a8 b0 b1 b2 b3 b4 b5 b6 b7 fs ss fd ed lm dd ce cw n iss sb fst len off ren que kc pins sd dy p1 hk hcd o f) (Eq.trans (b := [h, a0, a1, a2, a3, a4, a5, a6, a7, a8, b0, b1, b2, b3, b4, b5, b6, b7, pn, o]) rfl rfl) gL_law_L_renewal rfl rfl rfl ⟨by decide, by decide, by decide +kernel⟩ ⟨Nat.le_of_ble_eq_true rfl, Nat.le_of_ble_eq_true rfl⟩ rfl hl.1 rfl (Nat.le_of_ble_eq_true rfl) dL_law_822 hf (fun r H locs hr hP hD hS => ?_)
    rw [List.append_nil] at hP hD
    have hf1 : cells + 1 ≤ 1078 ∧ slots + 6 ≤ 9341 := hf
    replace hr : r = 0 := hr
    subst hr
    refine lv_istore (lv' := [(5, .int 0), (0, .ref b), (1, .ref h), (2, .ref m0), (3, .ref o), (4, .int x)]) hx hb dL_law_825 hl (by decide) rfl (fun ls hl => ?_)
    refine lv_aload_n hx hb dL_law_827 rfl (lv_at hl 3 rfl) ?_
    refine kl_rd (k := 1) hx hb hX hbl hS (lv_at hl 1 rfl) (lv_at hl 5 rfl) rfl (hin 1 (by decide)) q1 dL_law_828 dL_law_829 dL_law_831 dL_law_832 dL_law_833 ?_
    have hcq : cdOne kc p1 = cdOne kc p1 := rfl
    have hI2 : LInv n kc fs ss ed lm ce cw iss sb len := hI
    refine kcV_i (n := 1) (X := []) (wc := wM cy m0 m1 m2 m3 m4 m5 m6 m7 m8 m9 m10 m11 m12 m13 m14 m15 m16 m17 th dy sd n fd ed lm fs ss dd pins ag en cm kc sb iss fst len off ren wsn) (Y := wH cy h pn a0 a1 a2 a3 a4 a5 a6 a7 a8 b0 b1 b2 b3 b4 b5 b6 b7 fs ss fd ed lm dd ce cw n iss sb fst len off ren que kc pins sd dy ++ kout cy o (vp_updL f 0 (ren (ix p1)).toInt64)) (As := [.int p1]) (rest := []) ⟨hx, hb, hml, hown, hts⟩ hE hA hP hD hS (c_X3_renewal l D cy m0 m1 m2 m3 m4 m5 m6 m7 m8 m9 m10 m11 m12 m13 m14 m15 m16 m17 th dy sd n fd ed lm fs ss dd pins ag en cm kc sb iss fst len off ren wsn p1 hk (hcq.trans hcd)) (fun _ => Eq.trans (b := [m0, m1, m2, m3, m4, m5, m6, m7, m8, m9, m10, m11, m12, m13, m14, m15, m16, m17]) rfl rfl) (q0 := 0) (ci := 3) rfl rfl gL_law_X3_renewal rfl rfl rfl ⟨rfl, by decide, by decide, by decide +kernel⟩ ⟨Nat.le_of_ble_eq_true rfl, Nat.le_of_ble_eq_true rfl⟩ rfl hl.1 rfl (Nat.le_of_ble_eq_true rfl) dL_law_834 hf1 (fun r2 u H locs hr2 hP hD hS => ?_)
    rw [List.nil_append] at hP hD
    refine lv_istore (lv' := [(6, .int r2), (5, .int 0), (0, .ref b), (1, .ref h), (2, .ref m0), (3, .ref o), (4, .int x)]) hx hb dL_law_837 hl (by decide) rfl (fun ls hl => ?_)
    refine lv_aload_n hx hb dL_law_839 rfl (lv_at hl 4 rfl) ?_
    refine kcV_i (n := 0) (X := []) (wc := wM cy m0 m1 m2 m3 m4 m5 m6 m7 m8 m9 m10 m11 m12 m13 m14 m15 m16 m17 0 dy sd n fd ed lm fs ss dd pins ag en cm kc sb iss fst len off ren wsn) (Y := wH cy h pn a0 a1 a2 a3 a4 a5 a6 a7 a8 b0 b1 b2 b3 b4 b5 b6 b7 fs ss fd ed lm dd ce cw n iss sb fst len off ren que kc pins sd dy ++ kout cy o (vp_updL f 0 (ren (ix p1)).toInt64)) (As := []) (rest := []) ⟨hx, hb, hml, hown, hts⟩ hE hA hP hD hS (c_X3_thrown l D cy m0 m1 m2 m3 m4 m5 m6 m7 m8 m9 m10 m11 m12 m13 m14 m15 m16 m17 0 dy sd n fd ed lm fs ss dd pins ag en cm kc sb iss fst len off ren wsn) (fun _ => Eq.trans (b := [m0, m1, m2, m3, m4, m5, m6, m7, m8, m9, m10, m11, m12, m13, m14, m15, m16, m17]) rfl rfl) (q0 := 0) (ci := 3) rfl rfl gL_law_X3_thrown rfl rfl rfl ⟨rfl, by decide, by decide, by decide +kernel⟩ ⟨Nat.le_of_ble_eq_true rfl, Nat.le_of_ble_eq_true rfl⟩ rfl hl.1 rfl (Nat.le_of_ble_eq_true rfl) dL_law_840 hf1 (fun r3 u3 H locs hr3 hP hD hS => ?_)
    rw [List.nil_append] at hP hD
    replace hr3 : r3 = 0 := hr3
    subst hr3
    refine lv_iload hx hb dL_law_843 (lv_at hl 1 rfl) ?_
    refine lv_icmp_eq (tgt := 850) hx hb dL_law_845 (by decide) (fun _ => ?_) (fun q => absurd rfl q)
    refine lv_iload hx hb dL_law_850 (lv_at hl 1 rfl) ?_
    refine lv_if_ne (tgt := 867) hx hb dL_law_852 (by decide) (fun q => absurd rfl q) (fun _ => ?_)
    have hval : ren (ix p1) = ren (ix p1) := rfl
    replace hr2 : r2 = ren (ix p1) := hr2.trans hval
    refine lv_aload_n hx hb dL_law_855 rfl (lv_at hl 5 rfl) ?_
    refine lv_iconst (v := 0) hx hb dL_law_856 (by decide) ?_
    refine va_lald (i := 0) (f := vp_updL f 0 (ren (ix p1)).toInt64) hx hb hE.1 hP 37 2 (a := o) rfl rfl k_in0 dL_law_857 ?_
    rw [updL_0]
    refine lv_iload hx hb dL_law_858 (lv_at hl 0 rfl) ?_
    refine lv_i2l (v := r2.toInt64) hx hb dL_law_860 rfl ?_
    refine W.lcmp hx hb dL_law_861 ?_
    refine lv_if_eq (tgt := 867) hx hb dL_law_862 (by decide) (fun _ => ?_) (fun q => absurd ((lg_cmp_eq _ _).mpr (by rw [hr2])) q)
    refine lv_goto (tgt := 1505) hx hb dL_law_867 (by decide) ?_
    exact hkk fs ss fd ed lm dd ce cw n iss sb fst len off ren que kc pins sd dy 0 ag en cm wsn (vp_updL f 0 (ren (ix p1)).toInt64) H locs ls hI2 hP hD hS (lv_sub hl [2, 3, 4, 5, 6] rfl)
  · refine kcL_i (n := 3) (X := wM cy m0 m1 m2 m3 m4 m5 m6 m7 m8 m9 m10 m11 m12 m13 m14 m15 m16 m17 th dy sd n fd ed lm fs ss dd pins ag en cm kc sb iss fst len off ren wsn) (wc := wH cy h pn a0 a1 a2 a3 a4 a5 a6 a7 a8 b0 b1 b2 b3 b4 b5 b6 b7 fs ss fd ed lm dd ce cw n iss sb fst len off ren que kc pins sd dy ++ kout cy o f) (Y := []) (As := [.ref h, .int p1, .ref o]) (rest := []) ⟨hx, hb, hml, hown, hts⟩ hE hA hZ (by rw [List.append_nil]; exact hP) (by rw [List.append_nil]; exact hD) hS (c_L_renewal_f l D cy hfl h pn a0 a1 a2 a3 a4 a5 a6 a7 a8 b0 b1 b2 b3 b4 b5 b6 b7 fs ss fd ed lm dd ce cw n iss sb fst len off ren que kc pins sd dy p1 hk hcd o f) (Eq.trans (b := [h, a0, a1, a2, a3, a4, a5, a6, a7, a8, b0, b1, b2, b3, b4, b5, b6, b7, pn, o]) rfl rfl) gL_law_L_renewal rfl rfl rfl ⟨by decide, by decide, by decide +kernel⟩ ⟨Nat.le_of_ble_eq_true rfl, Nat.le_of_ble_eq_true rfl⟩ rfl hl.1 rfl (Nat.le_of_ble_eq_true rfl) dL_law_822 hf (fun r H locs hr hP hD hS => ?_)
    rw [List.append_nil] at hP hD
    have hf1 : cells + 1 ≤ 1078 ∧ slots + 6 ≤ 9341 := hf
    replace hr : r = cdOne kc p1 := hr
    refine lv_istore (lv' := [(5, .int r), (0, .ref b), (1, .ref h), (2, .ref m0), (3, .ref o), (4, .int x)]) hx hb dL_law_825 hl (by decide) rfl (fun ls hl => ?_)
    refine lv_aload_n hx hb dL_law_827 rfl (lv_at hl 3 rfl) ?_
    refine kl_rd (k := 1) hx hb hX hbl hS (lv_at hl 1 rfl) (lv_at hl 5 rfl) rfl (hin 1 (by decide)) q1 dL_law_828 dL_law_829 dL_law_831 dL_law_832 dL_law_833 ?_
    have hcq : cdOne kc p1 = cdOne kc p1 := rfl
    refine kcV_i (n := 1) (X := []) (wc := wM cy m0 m1 m2 m3 m4 m5 m6 m7 m8 m9 m10 m11 m12 m13 m14 m15 m16 m17 th dy sd n fd ed lm fs ss dd pins ag en cm kc sb iss fst len off ren wsn) (Y := wH cy h pn a0 a1 a2 a3 a4 a5 a6 a7 a8 b0 b1 b2 b3 b4 b5 b6 b7 fs ss fd ed lm dd ce cw n iss sb fst len off ren que kc pins sd dy ++ kout cy o f) (As := [.int p1]) (rest := []) ⟨hx, hb, hml, hown, hts⟩ hE hA hP hD hS (c_X3_renewal_f l D cy m0 m1 m2 m3 m4 m5 m6 m7 m8 m9 m10 m11 m12 m13 m14 m15 m16 m17 th dy sd n fd ed lm fs ss dd pins ag en cm kc sb iss fst len off ren wsn p1 hk (fun q => hcd (hcq.symm.trans q))) (fun _ => Eq.trans (b := [m0, m1, m2, m3, m4, m5, m6, m7, m8, m9, m10, m11, m12, m13, m14, m15, m16, m17]) rfl rfl) (q0 := 0) (ci := 3) rfl rfl gL_law_X3_renewal rfl rfl rfl ⟨rfl, by decide, by decide, by decide +kernel⟩ ⟨Nat.le_of_ble_eq_true rfl, Nat.le_of_ble_eq_true rfl⟩ rfl hl.1 rfl (Nat.le_of_ble_eq_true rfl) dL_law_834 hf1 (fun r2 u H locs hr2 hP hD hS => ?_)
    rw [List.nil_append] at hP hD
    refine lv_istore (lv' := [(6, .int r2), (5, .int r), (0, .ref b), (1, .ref h), (2, .ref m0), (3, .ref o), (4, .int x)]) hx hb dL_law_837 hl (by decide) rfl (fun ls hl => ?_)
    refine lv_aload_n hx hb dL_law_839 rfl (lv_at hl 4 rfl) ?_
    refine kcV_i (n := 0) (X := []) (wc := wM cy m0 m1 m2 m3 m4 m5 m6 m7 m8 m9 m10 m11 m12 m13 m14 m15 m16 m17 (cdOne kc p1) dy sd n fd ed lm fs ss dd pins ag en cm kc sb iss fst len off ren wsn) (Y := wH cy h pn a0 a1 a2 a3 a4 a5 a6 a7 a8 b0 b1 b2 b3 b4 b5 b6 b7 fs ss fd ed lm dd ce cw n iss sb fst len off ren que kc pins sd dy ++ kout cy o f) (As := []) (rest := []) ⟨hx, hb, hml, hown, hts⟩ hE hA hP hD hS (c_X3_thrown l D cy m0 m1 m2 m3 m4 m5 m6 m7 m8 m9 m10 m11 m12 m13 m14 m15 m16 m17 (cdOne kc p1) dy sd n fd ed lm fs ss dd pins ag en cm kc sb iss fst len off ren wsn) (fun _ => Eq.trans (b := [m0, m1, m2, m3, m4, m5, m6, m7, m8, m9, m10, m11, m12, m13, m14, m15, m16, m17]) rfl rfl) (q0 := 0) (ci := 3) rfl rfl gL_law_X3_thrown rfl rfl rfl ⟨rfl, by decide, by decide, by decide +kernel⟩ ⟨Nat.le_of_ble_eq_true rfl, Nat.le_of_ble_eq_true rfl⟩ rfl hl.1 rfl (Nat.le_of_ble_eq_true rfl) dL_law_840 hf1 (fun r3 u3 H locs hr3 hP hD hS => ?_)
    rw [List.nil_append] at hP hD
    replace hr3 : r3 = cdOne kc p1 := hr3
    refine lv_iload hx hb dL_law_843 (lv_at hl 1 rfl) ?_
    refine lv_icmp_eq (tgt := 850) hx hb dL_law_845 (by decide) (fun _ => ?_) (fun q => absurd (hr3.trans (hcq.trans hr.symm)) q)
    refine lv_iload hx hb dL_law_850 (lv_at hl 1 rfl) ?_
    refine lv_if_ne (tgt := 867) hx hb dL_law_852 (by decide) (fun _ => ?_) (fun q => absurd (hr.symm.trans q) hcd)
    refine lv_goto (tgt := 1505) hx hb dL_law_867 (by decide) ?_
    exact hkk fs ss fd ed lm dd ce cw n iss sb fst len off ren que kc pins sd dy (cdOne kc p1) ag en cm wsn f H locs ls hI hP hD hS (lv_sub hl [2, 3, 4, 5, 6] rfl)
set_option maxHeartbeats 4000000 in
set_option maxRecDepth 100000 in
theorem rd_waiting {p : Program} {l : Launch} {e : Env} {s : State} {m : MethodId} {below : List Frame} {meth : Method} {c : Code} {H : Heap} {locs : List Loc} {cells slots : Nat} {Q : State → Prop} {ls : Array Slot} {D : va_G} {cy : ClassId × ClassId × ClassId} {b L : Nat} {xs : Nat → Int32} (h pn a0 a1 a2 a3 a4 a5 a6 a7 a8 b0 b1 b2 b3 b4 b5 b6 b7 m0 m1 m2 m3 m4 m5 m6 m7 m8 m9 m10 m11 m12 m13 m14 m15 m16 m17 o : Nat) (fs ss fd ed lm dd ce cw : Nat → Int32) (n : Nat) (iss sb fst len off ren que : Nat → Int32) (kc : Nat) (pins : Nat → Int32) (sd dy th : Int32) (ag en cm wsn : Nat → Int32) (f : Nat → Int64) {x : Int32} (C : LC p l s m c D cy b L xs) (hI : LInv n kc fs ss ed lm ce cw iss sb len) (hin : ∀ k, k < 5 → vp_in (x + nI k) L) (hf : cells + 1 ≤ 1078 ∧ slots + 6 ≤ 9341) (hP : va_P D vwCl (wWL cy h pn a0 a1 a2 a3 a4 a5 a6 a7 a8 b0 b1 b2 b3 b4 b5 b6 b7 m0 m1 m2 m3 m4 m5 m6 m7 m8 m9 m10 m11 m12 m13 m14 m15 m16 m17 o fs ss fd ed lm dd ce cw n iss sb fst len off ren que kc pins sd dy th ag en cm wsn f) H) (hD : va_D (lwA s) (wWL cy h pn a0 a1 a2 a3 a4 a5 a6 a7 a8 b0 b1 b2 b3 b4 b5 b6 b7 m0 m1 m2 m3 m4 m5 m6 m7 m8 m9 m10 m11 m12 m13 m14 m15 m16 m17 o fs ss fd ed lm dd ce cw n iss sb fst len off ren que kc pins sd dy th ag en cm wsn f)) (hS : va_S (lwA s) s.heap H locs) (hl : lv_has ls 7 [(0, .ref b), (1, .ref h), (2, .ref m0), (3, .ref o), (4, .int x)]) (hkk : LK p l e s m below meth c Q D cy b x h pn a0 a1 a2 a3 a4 a5 a6 a7 a8 b0 b1 b2 b3 b4 b5 b6 b7 m0 m1 m2 m3 m4 m5 m6 m7 m8 m9 m10 m11 m12 m13 m14 m15 m16 m17 o (cells + 1) (slots + 6)) : W p l e room_1 s m #[Value.ref b] below meth c H locs cells slots Q (F0 m 870 ls []) := by
  obtain ⟨hx, hb, hml, hown, hts, hX, hbl, hE, hZ, hfl⟩ := C
  obtain ⟨hn, hk, hfs, hss, hro, hlm, hok, hsb, hce, hcw⟩ := id hI
  have hA : ∀ q : Nat, s.heap.size ≤ q → lwA s q := fun _ h => h
  refine W.widen (k := cells + 1) (n := slots + 6) (by omega) (by omega) ?_
  have hf1 : cells + 1 ≤ 1078 ∧ slots + 6 ≤ 9341 := hf
  refine lv_aload_n hx hb dL_law_870 rfl (lv_at hl 1 rfl) ?_
  refine kcV_i (n := 0) (X := wM cy m0 m1 m2 m3 m4 m5 m6 m7 m8 m9 m10 m11 m12 m13 m14 m15 m16 m17 th dy sd n fd ed lm fs ss dd pins ag en cm kc sb iss fst len off ren wsn) (wc := wH cy h pn a0 a1 a2 a3 a4 a5 a6 a7 a8 b0 b1 b2 b3 b4 b5 b6 b7 fs ss fd ed lm dd ce cw n iss sb fst len off ren que kc pins sd dy) (Y := kout cy o f) (As := []) (rest := []) ⟨hx, hb, hml, hown, hts⟩ hE hA hP hD hS (c_X2_waiting l D cy h pn a0 a1 a2 a3 a4 a5 a6 a7 a8 b0 b1 b2 b3 b4 b5 b6 b7 fs ss fd ed lm dd ce cw n iss sb fst len off ren que kc pins sd dy hk) (fun _ => Eq.trans (b := [h, a0, a1, a2, a3, a4, a5, a6, a7, a8, b0, b1, b2, b3, b4, b5, b6, b7, pn]) rfl rfl) (q0 := 0) (ci := 2) rfl rfl gL_law_X2_waiting rfl rfl rfl ⟨rfl, by decide, by decide, by decide +kernel⟩ ⟨Nat.le_of_ble_eq_true rfl, Nat.le_of_ble_eq_true rfl⟩ rfl hl.1 rfl (Nat.le_of_ble_eq_true rfl) dL_law_871 hf1 (fun r H_ H locs hr hP hD hS => ?_)
  refine lv_aload_n hx hb dL_law_874 rfl (lv_at hl 2 rfl) ?_
  refine kcV_i (n := 0) (X := []) (wc := wM cy m0 m1 m2 m3 m4 m5 m6 m7 m8 m9 m10 m11 m12 m13 m14 m15 m16 m17 th dy sd n fd ed lm fs ss dd pins ag en cm kc sb iss fst len off ren wsn) (Y := wH cy h pn a0 a1 a2 a3 a4 a5 a6 a7 a8 b0 b1 b2 b3 b4 b5 b6 b7 fs ss fd ed lm dd ce cw n iss sb fst len off ren (fqQ fst len off ren dy que kc) kc pins sd dy ++ kout cy o f) (As := []) (rest := [.int r]) ⟨hx, hb, hml, hown, hts⟩ hE hA hP hD hS (c_X3_waiting l D cy m0 m1 m2 m3 m4 m5 m6 m7 m8 m9 m10 m11 m12 m13 m14 m15 m16 m17 th dy sd n fd ed lm fs ss dd pins ag en cm kc sb iss fst len off ren wsn hk) (fun _ => Eq.trans (b := [m0, m1, m2, m3, m4, m5, m6, m7, m8, m9, m10, m11, m12, m13, m14, m15, m16, m17]) rfl rfl) (q0 := 0) (ci := 3) rfl rfl gL_law_X3_waiting rfl rfl rfl ⟨rfl, by decide, by decide, by decide +kernel⟩ ⟨Nat.le_of_ble_eq_true rfl, Nat.le_of_ble_eq_true rfl⟩ rfl hl.1 rfl (Nat.le_of_ble_eq_true rfl) dL_law_875 hf1 (fun r2 u H locs hr2 hP hD hS => ?_)
  rw [List.nil_append] at hP hD
  refine lv_icmp_eq (tgt := 1505) hx hb dL_law_878 (by decide) (fun _ => ?_) (fun q => absurd (hr.trans ((show nI (fqS fst len off ren dy que kc) = wcN fst len off ren dy kc from fqS_wc fst len off ren dy que kc).trans hr2.symm)) q)
  exact hkk fs ss fd ed lm dd ce cw n iss sb fst len off ren (fqQ fst len off ren dy que kc) kc pins sd dy 0 ag en cm wsn f H locs ls hI hP hD hS (lv_sub hl [0, 1, 2, 3, 4] rfl)
set_option maxHeartbeats 4000000 in
set_option maxRecDepth 100000 in
theorem rd_waitingAt {p : Program} {l : Launch} {e : Env} {s : State} {m : MethodId} {below : List Frame} {meth : Method} {c : Code} {H : Heap} {locs : List Loc} {cells slots : Nat} {Q : State → Prop} {ls : Array Slot} {D : va_G} {cy : ClassId × ClassId × ClassId} {b L : Nat} {xs : Nat → Int32} (h pn a0 a1 a2 a3 a4 a5 a6 a7 a8 b0 b1 b2 b3 b4 b5 b6 b7 m0 m1 m2 m3 m4 m5 m6 m7 m8 m9 m10 m11 m12 m13 m14 m15 m16 m17 o : Nat) (fs ss fd ed lm dd ce cw : Nat → Int32) (n : Nat) (iss sb fst len off ren que : Nat → Int32) (kc : Nat) (pins : Nat → Int32) (sd dy th : Int32) (ag en cm wsn : Nat → Int32) (f : Nat → Int64) {x p1 : Int32} (C : LC p l s m c D cy b L xs) (hI : LInv n kc fs ss ed lm ce cw iss sb len) (hin : ∀ k, k < 5 → vp_in (x + nI k) L) (q1 : xs (x + nI 1).toNatClampNeg = p1) (hf : cells + 1 ≤ 1078 ∧ slots + 6 ≤ 9341) (hP : va_P D vwCl (wWL cy h pn a0 a1 a2 a3 a4 a5 a6 a7 a8 b0 b1 b2 b3 b4 b5 b6 b7 m0 m1 m2 m3 m4 m5 m6 m7 m8 m9 m10 m11 m12 m13 m14 m15 m16 m17 o fs ss fd ed lm dd ce cw n iss sb fst len off ren que kc pins sd dy th ag en cm wsn f) H) (hD : va_D (lwA s) (wWL cy h pn a0 a1 a2 a3 a4 a5 a6 a7 a8 b0 b1 b2 b3 b4 b5 b6 b7 m0 m1 m2 m3 m4 m5 m6 m7 m8 m9 m10 m11 m12 m13 m14 m15 m16 m17 o fs ss fd ed lm dd ce cw n iss sb fst len off ren que kc pins sd dy th ag en cm wsn f)) (hS : va_S (lwA s) s.heap H locs) (hl : lv_has ls 7 [(0, .ref b), (1, .ref h), (2, .ref m0), (3, .ref o), (4, .int x)]) (hkk : LK p l e s m below meth c Q D cy b x h pn a0 a1 a2 a3 a4 a5 a6 a7 a8 b0 b1 b2 b3 b4 b5 b6 b7 m0 m1 m2 m3 m4 m5 m6 m7 m8 m9 m10 m11 m12 m13 m14 m15 m16 m17 o (cells + 1) (slots + 6)) : W p l e room_1 s m #[Value.ref b] below meth c H locs cells slots Q (F0 m 883 ls []) := by
  obtain ⟨hx, hb, hml, hown, hts, hX, hbl, hE, hZ, hfl⟩ := C
  obtain ⟨hn, hk, hfs, hss, hro, hlm, hok, hsb, hce, hcw⟩ := id hI
  have hA : ∀ q : Nat, s.heap.size ≤ q → lwA s q := fun _ h => h
  refine lv_aload_n hx hb dL_law_883 rfl (lv_at hl 1 rfl) ?_
  refine kl_rd (k := 1) hx hb hX hbl hS (lv_at hl 0 rfl) (lv_at hl 4 rfl) rfl (hin 1 (by decide)) q1 dL_law_884 dL_law_885 dL_law_887 dL_law_888 dL_law_889 ?_
  refine lv_aload_n hx hb dL_law_890 rfl (lv_at hl 3 rfl) ?_
  by_cases hcd : cdOne (fqS fst len off ren dy que kc) p1 = 0
  · refine kcL_i (n := 3) (X := wM cy m0 m1 m2 m3 m4 m5 m6 m7 m8 m9 m10 m11 m12 m13 m14 m15 m16 m17 th dy sd n fd ed lm fs ss dd pins ag en cm kc sb iss fst len off ren wsn) (wc := wH cy h pn a0 a1 a2 a3 a4 a5 a6 a7 a8 b0 b1 b2 b3 b4 b5 b6 b7 fs ss fd ed lm dd ce cw n iss sb fst len off ren que kc pins sd dy ++ kout cy o f) (Y := []) (As := [.ref h, .int p1, .ref o]) (rest := []) ⟨hx, hb, hml, hown, hts⟩ hE hA hZ (by rw [List.append_nil]; exact hP) (by rw [List.append_nil]; exact hD) hS (c_L_waitingAt l D cy hfl h pn a0 a1 a2 a3 a4 a5 a6 a7 a8 b0 b1 b2 b3 b4 b5 b6 b7 fs ss fd ed lm dd ce cw n iss sb fst len off ren que kc pins sd dy p1 hk hcd o f) (Eq.trans (b := [h, a0, a1, a2, a3, a4, a5, a6, a7, a8, b0, b1, b2, b3, b4, b5, b6, b7, pn, o]) rfl rfl) gL_law_L_waitingAt rfl rfl rfl ⟨by decide, by decide, by decide +kernel⟩ ⟨Nat.le_of_ble_eq_true rfl, Nat.le_of_ble_eq_true rfl⟩ rfl hl.1 rfl (Nat.le_of_ble_eq_true rfl) dL_law_891 hf (fun r H locs hr hP hD hS => ?_)
    rw [List.append_nil] at hP hD
    have hf1 : cells + 1 ≤ 1078 ∧ slots + 6 ≤ 9341 := hf
    replace hr : r = 0 := hr
    subst hr
    refine lv_istore (lv' := [(5, .int 0), (0, .ref b), (1, .ref h), (2, .ref m0), (3, .ref o), (4, .int x)]) hx hb dL_law_894 hl (by decide) rfl (fun ls hl => ?_)
    refine lv_aload_n hx hb dL_law_896 rfl (lv_at hl 3 rfl) ?_
    refine kl_rd (k := 1) hx hb hX hbl hS (lv_at hl 1 rfl) (lv_at hl 5 rfl) rfl (hin 1 (by decide)) q1 dL_law_897 dL_law_898 dL_law_900 dL_law_901 dL_law_902 ?_
    have hcq : cdWa fst len off ren dy kc (seeN wsn 0 60) p1 = cdOne (fqS fst len off ren dy que kc) p1 := (cd_wa hk)
    have hI2 : LInv n kc fs ss ed lm ce cw iss sb len := hI
    refine kcV_i (n := 1) (X := []) (wc := wM cy m0 m1 m2 m3 m4 m5 m6 m7 m8 m9 m10 m11 m12 m13 m14 m15 m16 m17 th dy sd n fd ed lm fs ss dd pins ag en cm kc sb iss fst len off ren wsn) (Y := wH cy h pn a0 a1 a2 a3 a4 a5 a6 a7 a8 b0 b1 b2 b3 b4 b5 b6 b7 fs ss fd ed lm dd ce cw n iss sb fst len off ren (fqQ fst len off ren dy que kc) kc pins sd dy ++ kout cy o (vp_updL f 0 (fqQ fst len off ren dy que kc (ix p1)).toInt64)) (As := [.int p1]) (rest := []) ⟨hx, hb, hml, hown, hts⟩ hE hA hP hD hS (c_X3_waitingAt l D cy m0 m1 m2 m3 m4 m5 m6 m7 m8 m9 m10 m11 m12 m13 m14 m15 m16 m17 th dy sd n fd ed lm fs ss dd pins ag en cm kc sb iss fst len off ren wsn p1 hk (badI_nn (cdOne_ok hcd)) (hcq.trans hcd)) (fun _ => Eq.trans (b := [m0, m1, m2, m3, m4, m5, m6, m7, m8, m9, m10, m11, m12, m13, m14, m15, m16, m17]) rfl rfl) (q0 := 0) (ci := 3) rfl rfl gL_law_X3_waitingAt rfl rfl rfl ⟨rfl, by decide, by decide, by decide +kernel⟩ ⟨Nat.le_of_ble_eq_true rfl, Nat.le_of_ble_eq_true rfl⟩ rfl hl.1 rfl (Nat.le_of_ble_eq_true rfl) dL_law_903 hf1 (fun r2 u H locs hr2 hP hD hS => ?_)
    rw [List.nil_append] at hP hD
    refine lv_istore (lv' := [(6, .int r2), (5, .int 0), (0, .ref b), (1, .ref h), (2, .ref m0), (3, .ref o), (4, .int x)]) hx hb dL_law_906 hl (by decide) rfl (fun ls hl => ?_)
    refine lv_aload_n hx hb dL_law_908 rfl (lv_at hl 4 rfl) ?_
    refine kcV_i (n := 0) (X := []) (wc := wM cy m0 m1 m2 m3 m4 m5 m6 m7 m8 m9 m10 m11 m12 m13 m14 m15 m16 m17 0 dy sd n fd ed lm fs ss dd pins ag en cm kc sb iss fst len off ren u) (Y := wH cy h pn a0 a1 a2 a3 a4 a5 a6 a7 a8 b0 b1 b2 b3 b4 b5 b6 b7 fs ss fd ed lm dd ce cw n iss sb fst len off ren (fqQ fst len off ren dy que kc) kc pins sd dy ++ kout cy o (vp_updL f 0 (fqQ fst len off ren dy que kc (ix p1)).toInt64)) (As := []) (rest := []) ⟨hx, hb, hml, hown, hts⟩ hE hA hP hD hS (c_X3_thrown l D cy m0 m1 m2 m3 m4 m5 m6 m7 m8 m9 m10 m11 m12 m13 m14 m15 m16 m17 0 dy sd n fd ed lm fs ss dd pins ag en cm kc sb iss fst len off ren u) (fun _ => Eq.trans (b := [m0, m1, m2, m3, m4, m5, m6, m7, m8, m9, m10, m11, m12, m13, m14, m15, m16, m17]) rfl rfl) (q0 := 0) (ci := 3) rfl rfl gL_law_X3_thrown rfl rfl rfl ⟨rfl, by decide, by decide, by decide +kernel⟩ ⟨Nat.le_of_ble_eq_true rfl, Nat.le_of_ble_eq_true rfl⟩ rfl hl.1 rfl (Nat.le_of_ble_eq_true rfl) dL_law_909 hf1 (fun r3 u3 H locs hr3 hP hD hS => ?_)
    rw [List.nil_append] at hP hD
    replace hr3 : r3 = 0 := hr3
    subst hr3
    refine lv_iload hx hb dL_law_912 (lv_at hl 1 rfl) ?_
    refine lv_icmp_eq (tgt := 919) hx hb dL_law_914 (by decide) (fun _ => ?_) (fun q => absurd rfl q)
    refine lv_iload hx hb dL_law_919 (lv_at hl 1 rfl) ?_
    refine lv_if_ne (tgt := 936) hx hb dL_law_921 (by decide) (fun q => absurd rfl q) (fun _ => ?_)
    have hval : (waN fst len off ren dy kc (seeN wsn 0 60) (ix p1)).2 = fqQ fst len off ren dy que kc (ix p1) := wa_val hk hcd
    replace hr2 : r2 = fqQ fst len off ren dy que kc (ix p1) := hr2.trans hval
    refine lv_aload_n hx hb dL_law_924 rfl (lv_at hl 5 rfl) ?_
    refine lv_iconst (v := 0) hx hb dL_law_925 (by decide) ?_
    refine va_lald (i := 0) (f := vp_updL f 0 (fqQ fst len off ren dy que kc (ix p1)).toInt64) hx hb hE.1 hP 37 2 (a := o) rfl rfl k_in0 dL_law_926 ?_
    rw [updL_0]
    refine lv_iload hx hb dL_law_927 (lv_at hl 0 rfl) ?_
    refine lv_i2l (v := r2.toInt64) hx hb dL_law_929 rfl ?_
    refine W.lcmp hx hb dL_law_930 ?_
    refine lv_if_eq (tgt := 936) hx hb dL_law_931 (by decide) (fun _ => ?_) (fun q => absurd ((lg_cmp_eq _ _).mpr (by rw [hr2])) q)
    refine lv_goto (tgt := 1505) hx hb dL_law_936 (by decide) ?_
    exact hkk fs ss fd ed lm dd ce cw n iss sb fst len off ren (fqQ fst len off ren dy que kc) kc pins sd dy 0 ag en cm u (vp_updL f 0 (fqQ fst len off ren dy que kc (ix p1)).toInt64) H locs ls hI2 hP hD hS (lv_sub hl [2, 3, 4, 5, 6] rfl)
  · refine kcL_i (n := 3) (X := wM cy m0 m1 m2 m3 m4 m5 m6 m7 m8 m9 m10 m11 m12 m13 m14 m15 m16 m17 th dy sd n fd ed lm fs ss dd pins ag en cm kc sb iss fst len off ren wsn) (wc := wH cy h pn a0 a1 a2 a3 a4 a5 a6 a7 a8 b0 b1 b2 b3 b4 b5 b6 b7 fs ss fd ed lm dd ce cw n iss sb fst len off ren que kc pins sd dy ++ kout cy o f) (Y := []) (As := [.ref h, .int p1, .ref o]) (rest := []) ⟨hx, hb, hml, hown, hts⟩ hE hA hZ (by rw [List.append_nil]; exact hP) (by rw [List.append_nil]; exact hD) hS (c_L_waitingAt_f l D cy hfl h pn a0 a1 a2 a3 a4 a5 a6 a7 a8 b0 b1 b2 b3 b4 b5 b6 b7 fs ss fd ed lm dd ce cw n iss sb fst len off ren que kc pins sd dy p1 hk hcd o f) (Eq.trans (b := [h, a0, a1, a2, a3, a4, a5, a6, a7, a8, b0, b1, b2, b3, b4, b5, b6, b7, pn, o]) rfl rfl) gL_law_L_waitingAt rfl rfl rfl ⟨by decide, by decide, by decide +kernel⟩ ⟨Nat.le_of_ble_eq_true rfl, Nat.le_of_ble_eq_true rfl⟩ rfl hl.1 rfl (Nat.le_of_ble_eq_true rfl) dL_law_891 hf (fun r H locs hr hP hD hS => ?_)
    rw [List.append_nil] at hP hD
    have hf1 : cells + 1 ≤ 1078 ∧ slots + 6 ≤ 9341 := hf
    replace hr : r = cdOne (fqS fst len off ren dy que kc) p1 := hr
    refine lv_istore (lv' := [(5, .int r), (0, .ref b), (1, .ref h), (2, .ref m0), (3, .ref o), (4, .int x)]) hx hb dL_law_894 hl (by decide) rfl (fun ls hl => ?_)
    refine lv_aload_n hx hb dL_law_896 rfl (lv_at hl 3 rfl) ?_
    refine kl_rd (k := 1) hx hb hX hbl hS (lv_at hl 1 rfl) (lv_at hl 5 rfl) rfl (hin 1 (by decide)) q1 dL_law_897 dL_law_898 dL_law_900 dL_law_901 dL_law_902 ?_
    have hcq : cdWa fst len off ren dy kc (seeN wsn 0 60) p1 = cdOne (fqS fst len off ren dy que kc) p1 := (cd_wa hk)
    by_cases hp : p1 < 0
    · refine kcV_i (n := 1) (X := []) (wc := wM cy m0 m1 m2 m3 m4 m5 m6 m7 m8 m9 m10 m11 m12 m13 m14 m15 m16 m17 th dy sd n fd ed lm fs ss dd pins ag en cm kc sb iss fst len off ren wsn) (Y := wH cy h pn a0 a1 a2 a3 a4 a5 a6 a7 a8 b0 b1 b2 b3 b4 b5 b6 b7 fs ss fd ed lm dd ce cw n iss sb fst len off ren (fqQ fst len off ren dy que kc) kc pins sd dy ++ kout cy o f) (As := [.int p1]) (rest := []) ⟨hx, hb, hml, hown, hts⟩ hE hA hP hD hS (c_X3_waitingAt_fn l D cy m0 m1 m2 m3 m4 m5 m6 m7 m8 m9 m10 m11 m12 m13 m14 m15 m16 m17 th dy sd n fd ed lm fs ss dd pins ag en cm kc sb iss fst len off ren wsn p1 hk hp (fun q => hcd (hcq.symm.trans q))) (fun _ => Eq.trans (b := [m0, m1, m2, m3, m4, m5, m6, m7, m8, m9, m10, m11, m12, m13, m14, m15, m16, m17]) rfl rfl) (q0 := 0) (ci := 3) rfl rfl gL_law_X3_waitingAt rfl rfl rfl ⟨rfl, by decide, by decide, by decide +kernel⟩ ⟨Nat.le_of_ble_eq_true rfl, Nat.le_of_ble_eq_true rfl⟩ rfl hl.1 rfl (Nat.le_of_ble_eq_true rfl) dL_law_903 hf1 (fun r2 u H locs hr2 hP hD hS => ?_)
      rw [List.nil_append] at hP hD
      refine lv_istore (lv' := [(6, .int r2), (5, .int r), (0, .ref b), (1, .ref h), (2, .ref m0), (3, .ref o), (4, .int x)]) hx hb dL_law_906 hl (by decide) rfl (fun ls hl => ?_)
      refine lv_aload_n hx hb dL_law_908 rfl (lv_at hl 4 rfl) ?_
      refine kcV_i (n := 0) (X := []) (wc := wM cy m0 m1 m2 m3 m4 m5 m6 m7 m8 m9 m10 m11 m12 m13 m14 m15 m16 m17 (cdWa fst len off ren dy kc (seeN wsn 0 60) p1) dy sd n fd ed lm fs ss dd pins ag en cm kc sb iss fst len off ren u) (Y := wH cy h pn a0 a1 a2 a3 a4 a5 a6 a7 a8 b0 b1 b2 b3 b4 b5 b6 b7 fs ss fd ed lm dd ce cw n iss sb fst len off ren (fqQ fst len off ren dy que kc) kc pins sd dy ++ kout cy o f) (As := []) (rest := []) ⟨hx, hb, hml, hown, hts⟩ hE hA hP hD hS (c_X3_thrown l D cy m0 m1 m2 m3 m4 m5 m6 m7 m8 m9 m10 m11 m12 m13 m14 m15 m16 m17 (cdWa fst len off ren dy kc (seeN wsn 0 60) p1) dy sd n fd ed lm fs ss dd pins ag en cm kc sb iss fst len off ren u) (fun _ => Eq.trans (b := [m0, m1, m2, m3, m4, m5, m6, m7, m8, m9, m10, m11, m12, m13, m14, m15, m16, m17]) rfl rfl) (q0 := 0) (ci := 3) rfl rfl gL_law_X3_thrown rfl rfl rfl ⟨rfl, by decide, by decide, by decide +kernel⟩ ⟨Nat.le_of_ble_eq_true rfl, Nat.le_of_ble_eq_true rfl⟩ rfl hl.1 rfl (Nat.le_of_ble_eq_true rfl) dL_law_909 hf1 (fun r3 u3 H locs hr3 hP hD hS => ?_)
      rw [List.nil_append] at hP hD
      replace hr3 : r3 = cdWa fst len off ren dy kc (seeN wsn 0 60) p1 := hr3
      refine lv_iload hx hb dL_law_912 (lv_at hl 1 rfl) ?_
      refine lv_icmp_eq (tgt := 919) hx hb dL_law_914 (by decide) (fun _ => ?_) (fun q => absurd (hr3.trans (hcq.trans hr.symm)) q)
      refine lv_iload hx hb dL_law_919 (lv_at hl 1 rfl) ?_
      refine lv_if_ne (tgt := 936) hx hb dL_law_921 (by decide) (fun _ => ?_) (fun q => absurd (hr.symm.trans q) hcd)
      refine lv_goto (tgt := 1505) hx hb dL_law_936 (by decide) ?_
      exact hkk fs ss fd ed lm dd ce cw n iss sb fst len off ren (fqQ fst len off ren dy que kc) kc pins sd dy (cdWa fst len off ren dy kc (seeN wsn 0 60) p1) ag en cm u f H locs ls hI hP hD hS (lv_sub hl [2, 3, 4, 5, 6] rfl)
    · refine kcV_i (n := 1) (X := []) (wc := wM cy m0 m1 m2 m3 m4 m5 m6 m7 m8 m9 m10 m11 m12 m13 m14 m15 m16 m17 th dy sd n fd ed lm fs ss dd pins ag en cm kc sb iss fst len off ren wsn) (Y := wH cy h pn a0 a1 a2 a3 a4 a5 a6 a7 a8 b0 b1 b2 b3 b4 b5 b6 b7 fs ss fd ed lm dd ce cw n iss sb fst len off ren (fqQ fst len off ren dy que kc) kc pins sd dy ++ kout cy o f) (As := [.int p1]) (rest := []) ⟨hx, hb, hml, hown, hts⟩ hE hA hP hD hS (c_X3_waitingAt_f l D cy m0 m1 m2 m3 m4 m5 m6 m7 m8 m9 m10 m11 m12 m13 m14 m15 m16 m17 th dy sd n fd ed lm fs ss dd pins ag en cm kc sb iss fst len off ren wsn p1 hk hp (fun q => hcd (hcq.symm.trans q))) (fun _ => Eq.trans (b := [m0, m1, m2, m3, m4, m5, m6, m7, m8, m9, m10, m11, m12, m13, m14, m15, m16, m17]) rfl rfl) (q0 := 0) (ci := 3) rfl rfl gL_law_X3_waitingAt rfl rfl rfl ⟨rfl, by decide, by decide, by decide +kernel⟩ ⟨Nat.le_of_ble_eq_true rfl, Nat.le_of_ble_eq_true rfl⟩ rfl hl.1 rfl (Nat.le_of_ble_eq_true rfl) dL_law_903 hf1 (fun r2 u H locs hr2 hP hD hS => ?_)
      rw [List.nil_append] at hP hD
      refine lv_istore (lv' := [(6, .int r2), (5, .int r), (0, .ref b), (1, .ref h), (2, .ref m0), (3, .ref o), (4, .int x)]) hx hb dL_law_906 hl (by decide) rfl (fun ls hl => ?_)
      refine lv_aload_n hx hb dL_law_908 rfl (lv_at hl 4 rfl) ?_
      refine kcV_i (n := 0) (X := []) (wc := wM cy m0 m1 m2 m3 m4 m5 m6 m7 m8 m9 m10 m11 m12 m13 m14 m15 m16 m17 (cdWa fst len off ren dy kc (seeN wsn 0 60) p1) dy sd n fd ed lm fs ss dd pins ag en cm kc sb iss fst len off ren u) (Y := wH cy h pn a0 a1 a2 a3 a4 a5 a6 a7 a8 b0 b1 b2 b3 b4 b5 b6 b7 fs ss fd ed lm dd ce cw n iss sb fst len off ren (fqQ fst len off ren dy que kc) kc pins sd dy ++ kout cy o f) (As := []) (rest := []) ⟨hx, hb, hml, hown, hts⟩ hE hA hP hD hS (c_X3_thrown l D cy m0 m1 m2 m3 m4 m5 m6 m7 m8 m9 m10 m11 m12 m13 m14 m15 m16 m17 (cdWa fst len off ren dy kc (seeN wsn 0 60) p1) dy sd n fd ed lm fs ss dd pins ag en cm kc sb iss fst len off ren u) (fun _ => Eq.trans (b := [m0, m1, m2, m3, m4, m5, m6, m7, m8, m9, m10, m11, m12, m13, m14, m15, m16, m17]) rfl rfl) (q0 := 0) (ci := 3) rfl rfl gL_law_X3_thrown rfl rfl rfl ⟨rfl, by decide, by decide, by decide +kernel⟩ ⟨Nat.le_of_ble_eq_true rfl, Nat.le_of_ble_eq_true rfl⟩ rfl hl.1 rfl (Nat.le_of_ble_eq_true rfl) dL_law_909 hf1 (fun r3 u3 H locs hr3 hP hD hS => ?_)
      rw [List.nil_append] at hP hD
      replace hr3 : r3 = cdWa fst len off ren dy kc (seeN wsn 0 60) p1 := hr3
      refine lv_iload hx hb dL_law_912 (lv_at hl 1 rfl) ?_
      refine lv_icmp_eq (tgt := 919) hx hb dL_law_914 (by decide) (fun _ => ?_) (fun q => absurd (hr3.trans (hcq.trans hr.symm)) q)
      refine lv_iload hx hb dL_law_919 (lv_at hl 1 rfl) ?_
      refine lv_if_ne (tgt := 936) hx hb dL_law_921 (by decide) (fun _ => ?_) (fun q => absurd (hr.symm.trans q) hcd)
      refine lv_goto (tgt := 1505) hx hb dL_law_936 (by decide) ?_
      exact hkk fs ss fd ed lm dd ce cw n iss sb fst len off ren (fqQ fst len off ren dy que kc) kc pins sd dy (cdWa fst len off ren dy kc (seeN wsn 0 60) p1) ag en cm u f H locs ls hI hP hD hS (lv_sub hl [2, 3, 4, 5, 6] rfl)
set_option maxHeartbeats 4000000 in
set_option maxRecDepth 100000 in
theorem rd_room {p : Program} {l : Launch} {e : Env} {s : State} {m : MethodId} {below : List Frame} {meth : Method} {c : Code} {H : Heap} {locs : List Loc} {cells slots : Nat} {Q : State → Prop} {ls : Array Slot} {D : va_G} {cy : ClassId × ClassId × ClassId} {b L : Nat} {xs : Nat → Int32} (h pn a0 a1 a2 a3 a4 a5 a6 a7 a8 b0 b1 b2 b3 b4 b5 b6 b7 m0 m1 m2 m3 m4 m5 m6 m7 m8 m9 m10 m11 m12 m13 m14 m15 m16 m17 o : Nat) (fs ss fd ed lm dd ce cw : Nat → Int32) (n : Nat) (iss sb fst len off ren que : Nat → Int32) (kc : Nat) (pins : Nat → Int32) (sd dy th : Int32) (ag en cm wsn : Nat → Int32) (f : Nat → Int64) {x p1 : Int32} (C : LC p l s m c D cy b L xs) (hI : LInv n kc fs ss ed lm ce cw iss sb len) (hin : ∀ k, k < 5 → vp_in (x + nI k) L) (q1 : xs (x + nI 1).toNatClampNeg = p1) (hf : cells + 1 ≤ 1078 ∧ slots + 6 ≤ 9341) (hP : va_P D vwCl (wWL cy h pn a0 a1 a2 a3 a4 a5 a6 a7 a8 b0 b1 b2 b3 b4 b5 b6 b7 m0 m1 m2 m3 m4 m5 m6 m7 m8 m9 m10 m11 m12 m13 m14 m15 m16 m17 o fs ss fd ed lm dd ce cw n iss sb fst len off ren que kc pins sd dy th ag en cm wsn f) H) (hD : va_D (lwA s) (wWL cy h pn a0 a1 a2 a3 a4 a5 a6 a7 a8 b0 b1 b2 b3 b4 b5 b6 b7 m0 m1 m2 m3 m4 m5 m6 m7 m8 m9 m10 m11 m12 m13 m14 m15 m16 m17 o fs ss fd ed lm dd ce cw n iss sb fst len off ren que kc pins sd dy th ag en cm wsn f)) (hS : va_S (lwA s) s.heap H locs) (hl : lv_has ls 7 [(0, .ref b), (1, .ref h), (2, .ref m0), (3, .ref o), (4, .int x)]) (hkk : LK p l e s m below meth c Q D cy b x h pn a0 a1 a2 a3 a4 a5 a6 a7 a8 b0 b1 b2 b3 b4 b5 b6 b7 m0 m1 m2 m3 m4 m5 m6 m7 m8 m9 m10 m11 m12 m13 m14 m15 m16 m17 o (cells + 1) (slots + 6)) : W p l e room_1 s m #[Value.ref b] below meth c H locs cells slots Q (F0 m 939 ls []) := by
  obtain ⟨hx, hb, hml, hown, hts, hX, hbl, hE, hZ, hfl⟩ := C
  obtain ⟨hn, hk, hfs, hss, hro, hlm, hok, hsb, hce, hcw⟩ := id hI
  have hA : ∀ q : Nat, s.heap.size ≤ q → lwA s q := fun _ h => h
  refine lv_aload_n hx hb dL_law_939 rfl (lv_at hl 1 rfl) ?_
  refine kl_rd (k := 1) hx hb hX hbl hS (lv_at hl 0 rfl) (lv_at hl 4 rfl) rfl (hin 1 (by decide)) q1 dL_law_940 dL_law_941 dL_law_943 dL_law_944 dL_law_945 ?_
  refine lv_aload_n hx hb dL_law_946 rfl (lv_at hl 3 rfl) ?_
  by_cases hcd : cdOne n p1 = 0
  · refine kcL_i (n := 3) (X := wM cy m0 m1 m2 m3 m4 m5 m6 m7 m8 m9 m10 m11 m12 m13 m14 m15 m16 m17 th dy sd n fd ed lm fs ss dd pins ag en cm kc sb iss fst len off ren wsn) (wc := wH cy h pn a0 a1 a2 a3 a4 a5 a6 a7 a8 b0 b1 b2 b3 b4 b5 b6 b7 fs ss fd ed lm dd ce cw n iss sb fst len off ren que kc pins sd dy ++ kout cy o f) (Y := []) (As := [.ref h, .int p1, .ref o]) (rest := []) ⟨hx, hb, hml, hown, hts⟩ hE hA hZ (by rw [List.append_nil]; exact hP) (by rw [List.append_nil]; exact hD) hS (c_L_room l D cy hfl h pn a0 a1 a2 a3 a4 a5 a6 a7 a8 b0 b1 b2 b3 b4 b5 b6 b7 fs ss fd ed lm dd ce cw n iss sb fst len off ren que kc pins sd dy p1 hn hk hcd o f) (Eq.trans (b := [h, a0, a1, a2, a3, a4, a5, a6, a7, a8, b0, b1, b2, b3, b4, b5, b6, b7, pn, o]) rfl rfl) gL_law_L_room rfl rfl rfl ⟨by decide, by decide, by decide +kernel⟩ ⟨Nat.le_of_ble_eq_true rfl, Nat.le_of_ble_eq_true rfl⟩ rfl hl.1 rfl (Nat.le_of_ble_eq_true rfl) dL_law_947 hf (fun r H locs hr hP hD hS => ?_)
    rw [List.append_nil] at hP hD
    have hf1 : cells + 1 ≤ 1078 ∧ slots + 6 ≤ 9341 := hf
    replace hr : r = 0 := hr
    subst hr
    refine lv_istore (lv' := [(5, .int 0), (0, .ref b), (1, .ref h), (2, .ref m0), (3, .ref o), (4, .int x)]) hx hb dL_law_950 hl (by decide) rfl (fun ls hl => ?_)
    refine lv_aload_n hx hb dL_law_952 rfl (lv_at hl 3 rfl) ?_
    refine kl_rd (k := 1) hx hb hX hbl hS (lv_at hl 1 rfl) (lv_at hl 5 rfl) rfl (hin 1 (by decide)) q1 dL_law_953 dL_law_954 dL_law_956 dL_law_957 dL_law_958 ?_
    have hcq : cdOne n p1 = cdOne n p1 := rfl
    have hI2 : LInv n kc fs ss ed lm ce cw iss sb len := hI
    refine kcV_i (n := 1) (X := []) (wc := wM cy m0 m1 m2 m3 m4 m5 m6 m7 m8 m9 m10 m11 m12 m13 m14 m15 m16 m17 th dy sd n fd ed lm fs ss dd pins ag en cm kc sb iss fst len off ren wsn) (Y := wH cy h pn a0 a1 a2 a3 a4 a5 a6 a7 a8 b0 b1 b2 b3 b4 b5 b6 b7 fs ss fd ed lm dd ce cw n iss sb fst len off ren que kc pins sd dy ++ kout cy o (vp_updL f 0 (lm (ix p1) - iwN iss fst (nI (ix p1)) (dy / 7) kc).toInt64)) (As := [.int p1]) (rest := []) ⟨hx, hb, hml, hown, hts⟩ hE hA hP hD hS (c_X3_room l D cy m0 m1 m2 m3 m4 m5 m6 m7 m8 m9 m10 m11 m12 m13 m14 m15 m16 m17 th dy sd n fd ed lm fs ss dd pins ag en cm kc sb iss fst len off ren wsn p1 hn hk (hcq.trans hcd)) (fun _ => Eq.trans (b := [m0, m1, m2, m3, m4, m5, m6, m7, m8, m9, m10, m11, m12, m13, m14, m15, m16, m17]) rfl rfl) (q0 := 0) (ci := 3) rfl rfl gL_law_X3_room rfl rfl rfl ⟨rfl, by decide, by decide, by decide +kernel⟩ ⟨Nat.le_of_ble_eq_true rfl, Nat.le_of_ble_eq_true rfl⟩ rfl hl.1 rfl (Nat.le_of_ble_eq_true rfl) dL_law_959 hf1 (fun r2 u H locs hr2 hP hD hS => ?_)
    rw [List.nil_append] at hP hD
    refine lv_istore (lv' := [(6, .int r2), (5, .int 0), (0, .ref b), (1, .ref h), (2, .ref m0), (3, .ref o), (4, .int x)]) hx hb dL_law_962 hl (by decide) rfl (fun ls hl => ?_)
    refine lv_aload_n hx hb dL_law_964 rfl (lv_at hl 4 rfl) ?_
    refine kcV_i (n := 0) (X := []) (wc := wM cy m0 m1 m2 m3 m4 m5 m6 m7 m8 m9 m10 m11 m12 m13 m14 m15 m16 m17 0 dy sd n fd ed lm fs ss dd pins ag en cm kc sb iss fst len off ren wsn) (Y := wH cy h pn a0 a1 a2 a3 a4 a5 a6 a7 a8 b0 b1 b2 b3 b4 b5 b6 b7 fs ss fd ed lm dd ce cw n iss sb fst len off ren que kc pins sd dy ++ kout cy o (vp_updL f 0 (lm (ix p1) - iwN iss fst (nI (ix p1)) (dy / 7) kc).toInt64)) (As := []) (rest := []) ⟨hx, hb, hml, hown, hts⟩ hE hA hP hD hS (c_X3_thrown l D cy m0 m1 m2 m3 m4 m5 m6 m7 m8 m9 m10 m11 m12 m13 m14 m15 m16 m17 0 dy sd n fd ed lm fs ss dd pins ag en cm kc sb iss fst len off ren wsn) (fun _ => Eq.trans (b := [m0, m1, m2, m3, m4, m5, m6, m7, m8, m9, m10, m11, m12, m13, m14, m15, m16, m17]) rfl rfl) (q0 := 0) (ci := 3) rfl rfl gL_law_X3_thrown rfl rfl rfl ⟨rfl, by decide, by decide, by decide +kernel⟩ ⟨Nat.le_of_ble_eq_true rfl, Nat.le_of_ble_eq_true rfl⟩ rfl hl.1 rfl (Nat.le_of_ble_eq_true rfl) dL_law_965 hf1 (fun r3 u3 H locs hr3 hP hD hS => ?_)
    rw [List.nil_append] at hP hD
    replace hr3 : r3 = 0 := hr3
    subst hr3
    refine lv_iload hx hb dL_law_968 (lv_at hl 1 rfl) ?_
    refine lv_icmp_eq (tgt := 975) hx hb dL_law_970 (by decide) (fun _ => ?_) (fun q => absurd rfl q)
    refine lv_iload hx hb dL_law_975 (lv_at hl 1 rfl) ?_
    refine lv_if_ne (tgt := 992) hx hb dL_law_977 (by decide) (fun q => absurd rfl q) (fun _ => ?_)
    have hval : lm (ix p1) - iwN iss fst (nI (ix p1)) (dy / 7) kc = lm (ix p1) - iwN iss fst (nI (ix p1)) (dy / 7) kc := rfl
    replace hr2 : r2 = lm (ix p1) - iwN iss fst (nI (ix p1)) (dy / 7) kc := hr2.trans hval
    refine lv_aload_n hx hb dL_law_980 rfl (lv_at hl 5 rfl) ?_
    refine lv_iconst (v := 0) hx hb dL_law_981 (by decide) ?_
    refine va_lald (i := 0) (f := vp_updL f 0 (lm (ix p1) - iwN iss fst (nI (ix p1)) (dy / 7) kc).toInt64) hx hb hE.1 hP 37 2 (a := o) rfl rfl k_in0 dL_law_982 ?_
    rw [updL_0]
    refine lv_iload hx hb dL_law_983 (lv_at hl 0 rfl) ?_
    refine lv_i2l (v := r2.toInt64) hx hb dL_law_985 rfl ?_
    refine W.lcmp hx hb dL_law_986 ?_
    refine lv_if_eq (tgt := 992) hx hb dL_law_987 (by decide) (fun _ => ?_) (fun q => absurd ((lg_cmp_eq _ _).mpr (by rw [hr2])) q)
    refine lv_goto (tgt := 1505) hx hb dL_law_992 (by decide) ?_
    exact hkk fs ss fd ed lm dd ce cw n iss sb fst len off ren que kc pins sd dy 0 ag en cm wsn (vp_updL f 0 (lm (ix p1) - iwN iss fst (nI (ix p1)) (dy / 7) kc).toInt64) H locs ls hI2 hP hD hS (lv_sub hl [2, 3, 4, 5, 6] rfl)
  · refine kcL_i (n := 3) (X := wM cy m0 m1 m2 m3 m4 m5 m6 m7 m8 m9 m10 m11 m12 m13 m14 m15 m16 m17 th dy sd n fd ed lm fs ss dd pins ag en cm kc sb iss fst len off ren wsn) (wc := wH cy h pn a0 a1 a2 a3 a4 a5 a6 a7 a8 b0 b1 b2 b3 b4 b5 b6 b7 fs ss fd ed lm dd ce cw n iss sb fst len off ren que kc pins sd dy ++ kout cy o f) (Y := []) (As := [.ref h, .int p1, .ref o]) (rest := []) ⟨hx, hb, hml, hown, hts⟩ hE hA hZ (by rw [List.append_nil]; exact hP) (by rw [List.append_nil]; exact hD) hS (c_L_room_f l D cy hfl h pn a0 a1 a2 a3 a4 a5 a6 a7 a8 b0 b1 b2 b3 b4 b5 b6 b7 fs ss fd ed lm dd ce cw n iss sb fst len off ren que kc pins sd dy p1 hn hk hcd o f) (Eq.trans (b := [h, a0, a1, a2, a3, a4, a5, a6, a7, a8, b0, b1, b2, b3, b4, b5, b6, b7, pn, o]) rfl rfl) gL_law_L_room rfl rfl rfl ⟨by decide, by decide, by decide +kernel⟩ ⟨Nat.le_of_ble_eq_true rfl, Nat.le_of_ble_eq_true rfl⟩ rfl hl.1 rfl (Nat.le_of_ble_eq_true rfl) dL_law_947 hf (fun r H locs hr hP hD hS => ?_)
    rw [List.append_nil] at hP hD
    have hf1 : cells + 1 ≤ 1078 ∧ slots + 6 ≤ 9341 := hf
    replace hr : r = cdOne n p1 := hr
    refine lv_istore (lv' := [(5, .int r), (0, .ref b), (1, .ref h), (2, .ref m0), (3, .ref o), (4, .int x)]) hx hb dL_law_950 hl (by decide) rfl (fun ls hl => ?_)
    refine lv_aload_n hx hb dL_law_952 rfl (lv_at hl 3 rfl) ?_
    refine kl_rd (k := 1) hx hb hX hbl hS (lv_at hl 1 rfl) (lv_at hl 5 rfl) rfl (hin 1 (by decide)) q1 dL_law_953 dL_law_954 dL_law_956 dL_law_957 dL_law_958 ?_
    have hcq : cdOne n p1 = cdOne n p1 := rfl
    refine kcV_i (n := 1) (X := []) (wc := wM cy m0 m1 m2 m3 m4 m5 m6 m7 m8 m9 m10 m11 m12 m13 m14 m15 m16 m17 th dy sd n fd ed lm fs ss dd pins ag en cm kc sb iss fst len off ren wsn) (Y := wH cy h pn a0 a1 a2 a3 a4 a5 a6 a7 a8 b0 b1 b2 b3 b4 b5 b6 b7 fs ss fd ed lm dd ce cw n iss sb fst len off ren que kc pins sd dy ++ kout cy o f) (As := [.int p1]) (rest := []) ⟨hx, hb, hml, hown, hts⟩ hE hA hP hD hS (c_X3_room_f l D cy m0 m1 m2 m3 m4 m5 m6 m7 m8 m9 m10 m11 m12 m13 m14 m15 m16 m17 th dy sd n fd ed lm fs ss dd pins ag en cm kc sb iss fst len off ren wsn p1 hn hk (fun q => hcd (hcq.symm.trans q))) (fun _ => Eq.trans (b := [m0, m1, m2, m3, m4, m5, m6, m7, m8, m9, m10, m11, m12, m13, m14, m15, m16, m17]) rfl rfl) (q0 := 0) (ci := 3) rfl rfl gL_law_X3_room rfl rfl rfl ⟨rfl, by decide, by decide, by decide +kernel⟩ ⟨Nat.le_of_ble_eq_true rfl, Nat.le_of_ble_eq_true rfl⟩ rfl hl.1 rfl (Nat.le_of_ble_eq_true rfl) dL_law_959 hf1 (fun r2 u H locs hr2 hP hD hS => ?_)
    rw [List.nil_append] at hP hD
    refine lv_istore (lv' := [(6, .int r2), (5, .int r), (0, .ref b), (1, .ref h), (2, .ref m0), (3, .ref o), (4, .int x)]) hx hb dL_law_962 hl (by decide) rfl (fun ls hl => ?_)
    refine lv_aload_n hx hb dL_law_964 rfl (lv_at hl 4 rfl) ?_
    refine kcV_i (n := 0) (X := []) (wc := wM cy m0 m1 m2 m3 m4 m5 m6 m7 m8 m9 m10 m11 m12 m13 m14 m15 m16 m17 (cdOne n p1) dy sd n fd ed lm fs ss dd pins ag en cm kc sb iss fst len off ren wsn) (Y := wH cy h pn a0 a1 a2 a3 a4 a5 a6 a7 a8 b0 b1 b2 b3 b4 b5 b6 b7 fs ss fd ed lm dd ce cw n iss sb fst len off ren que kc pins sd dy ++ kout cy o f) (As := []) (rest := []) ⟨hx, hb, hml, hown, hts⟩ hE hA hP hD hS (c_X3_thrown l D cy m0 m1 m2 m3 m4 m5 m6 m7 m8 m9 m10 m11 m12 m13 m14 m15 m16 m17 (cdOne n p1) dy sd n fd ed lm fs ss dd pins ag en cm kc sb iss fst len off ren wsn) (fun _ => Eq.trans (b := [m0, m1, m2, m3, m4, m5, m6, m7, m8, m9, m10, m11, m12, m13, m14, m15, m16, m17]) rfl rfl) (q0 := 0) (ci := 3) rfl rfl gL_law_X3_thrown rfl rfl rfl ⟨rfl, by decide, by decide, by decide +kernel⟩ ⟨Nat.le_of_ble_eq_true rfl, Nat.le_of_ble_eq_true rfl⟩ rfl hl.1 rfl (Nat.le_of_ble_eq_true rfl) dL_law_965 hf1 (fun r3 u3 H locs hr3 hP hD hS => ?_)
    rw [List.nil_append] at hP hD
    replace hr3 : r3 = cdOne n p1 := hr3
    refine lv_iload hx hb dL_law_968 (lv_at hl 1 rfl) ?_
    refine lv_icmp_eq (tgt := 975) hx hb dL_law_970 (by decide) (fun _ => ?_) (fun q => absurd (hr3.trans (hcq.trans hr.symm)) q)
    refine lv_iload hx hb dL_law_975 (lv_at hl 1 rfl) ?_
    refine lv_if_ne (tgt := 992) hx hb dL_law_977 (by decide) (fun _ => ?_) (fun q => absurd (hr.symm.trans q) hcd)
    refine lv_goto (tgt := 1505) hx hb dL_law_992 (by decide) ?_
    exact hkk fs ss fd ed lm dd ce cw n iss sb fst len off ren que kc pins sd dy (cdOne n p1) ag en cm wsn f H locs ls hI hP hD hS (lv_sub hl [2, 3, 4, 5, 6] rfl)
