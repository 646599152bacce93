set_option maxHeartbeats 4000000 in
set_option maxRecDepth 100000 in
theorem c_X0_isFull (l : Launch) (D : va_G) (cy : ClassId × ClassId × ClassId) (b0 b1 b2 b3 b4 b5 b6 b7 : Nat) (iss sb fst len off ren que : Nat → Int32) (kc : Nat) (hc : kc ≤ 60) : kI l D cy yX0_isFull wsX0_isFull (krm 0 0) [.ref b0] (wC cy b0 b1 b2 b3 b4 b5 b6 b7 iss sb fst len off ren que kc) (fun (r : Int32) (u : Unit) => r = bI (60 ≤ kc)) (fun _ : Unit => wC cy b0 b1 b2 b3 b4 b5 b6 b7 iss sb fst len off ren que kc) := by
  refine kI.of (cc := cX0_isFull) (maxL := 1) (rt := .boolean) (Or.inr rfl) (by decide) rfl (Nat.le_of_ble_eq_true rfl) ?_
  intro p e s m args below meth c Q A ls hx hb hml hown hts hE hA hP hD hl hret
  have hS : va_S A s.heap s.heap [] := va_S.rf
  have hl : lv_has ls 1 [(0, .ref b0)] := hl
  have g_X0 : ∀ w ∈ wsX00, w ∈ wsX0_isFull := by decide +kernel
  have f_33 := hts (.fieldLink RX0 33 "CertHerd$CertificateTable" "count" "I") (by decide +kernel)
  refine lv_aload_n hx hb dX0_isFull_0 rfl (lv_at hl 0 rfl) ?_
  refine va_get (D := D) (ci := 0) (v := .int (nI kc)) (C := RX0) (T := TX0) (N := 8) hx hb hts g_X0 hown hE.1 hP 0 rfl rfl 7 (by decide) f_33 (fun _ h9 => h9) rfl dX0_isFull_1 ?_
  refine lv_bipush (v := 60) hx hb dX0_isFull_4 (by decide) ?_
  refine lv_icmp_lt (tgt := 13) hx hb dX0_isFull_6 (by decide) (fun c_6 => ?_) (fun c_6 => ?_)
  · have c_6n : kc < 60 := k_ltN (a := kc) (b := 60) (by omega) (by omega) c_6
    refine lv_iconst (v := 0) hx hb dX0_isFull_13 (by decide) ?_
    exact hret _ _ _ _ 0 () dX0_isFull_14 (Or.inr (Or.inl rfl)) (bI_f (by omega)).symm hP hS
  · have c_6n : ¬ kc < 60 := k_nltN (a := kc) (b := 60) (by omega) (by omega) c_6
    refine lv_iconst (v := 1) hx hb dX0_isFull_9 (by decide) ?_
    refine lv_goto (tgt := 14) hx hb dX0_isFull_10 (by decide) ?_
    exact hret _ _ _ _ 1 () dX0_isFull_14 (Or.inr (Or.inr rfl)) (bI_t (by omega)).symm hP hS

set_option maxHeartbeats 4000000 in
set_option maxRecDepth 100000 in
theorem c_X0_append (l : Launch) (D : va_G) (cy : ClassId × ClassId × ClassId) (b0 b1 b2 b3 b4 b5 b6 b7 : Nat) (iss sb fst len off ren que : Nat → Int32) (kc : Nat) (i_ : Int32) (s_ : Int32) (f_ : Int32) (l_ : Int32) (o_ : Int32) (hc : kc < 60) : kI l D cy yX0_append wsX0_append (krm 0 0) [.ref b0, .int i_, .int s_, .int f_, .int l_, .int o_] (wC cy b0 b1 b2 b3 b4 b5 b6 b7 iss sb fst len off ren que kc) (fun (r : Int32) (u : Unit) => r = nI kc) (fun _ : Unit => wC cy b0 b1 b2 b3 b4 b5 b6 b7 (upd iss kc i_) (upd sb kc s_) (upd fst kc f_) (upd len kc l_) (upd off kc o_) (upd ren kc (-1)) que (kc + 1)) := by
  refine kI.of (cc := cX0_append) (maxL := 7) (rt := .int) (Or.inl rfl) (by decide) rfl (Nat.le_of_ble_eq_true rfl) ?_
  intro p e s m args below meth c Q A ls hx hb hml hown hts hE hA hP hD hl hret
  have hS : va_S A s.heap s.heap [] := va_S.rf
  have hl : lv_has ls 7 [(0, .ref b0), (1, .int i_), (2, .int s_), (3, .int f_), (4, .int l_), (5, .int o_)] := hl
  have g_X0 : ∀ w ∈ wsX00, w ∈ wsX0_append := by decide +kernel
  have f_33 := hts (.fieldLink RX0 33 "CertHerd$CertificateTable" "count" "I") (by decide +kernel)
  have f_11 := hts (.fieldLink RX0 11 "CertHerd$CertificateTable" "issuerNumbers" "[I") (by decide +kernel)
  have f_15 := hts (.fieldLink RX0 15 "CertHerd$CertificateTable" "subjects" "[I") (by decide +kernel)
  have f_18 := hts (.fieldLink RX0 18 "CertHerd$CertificateTable" "firstDays" "[I") (by decide +kernel)
  have f_21 := hts (.fieldLink RX0 21 "CertHerd$CertificateTable" "lengths" "[I") (by decide +kernel)
  have f_24 := hts (.fieldLink RX0 24 "CertHerd$CertificateTable" "offsets" "[I") (by decide +kernel)
  have f_27 := hts (.fieldLink RX0 27 "CertHerd$CertificateTable" "renewals" "[I") (by decide +kernel)
  refine lv_aload_n hx hb dX0_append_0 rfl (lv_at hl 0 rfl) ?_
  refine va_get (D := D) (ci := 0) (v := .int (nI kc)) (C := RX0) (T := TX0) (N := 8) hx hb hts g_X0 hown hE.1 hP 0 rfl rfl 7 (by decide) f_33 (fun _ h9 => h9) rfl dX0_append_1 ?_
  refine lv_istore (lv' := [(6, .int (nI kc)), (0, .ref b0), (1, .int i_), (2, .int s_), (3, .int f_), (4, .int l_), (5, .int o_)]) hx hb dX0_append_4 hl (by decide) rfl (fun ls hl => ?_)
  refine lv_aload_n hx hb dX0_append_6 rfl (lv_at hl 1 rfl) ?_
  refine va_get (D := D) (ci := 0) (v := .ref b1) (C := RX0) (T := TX0) (N := 8) hx hb hts g_X0 hown hE.1 hP 0 rfl rfl 0 (by decide) f_11 (fun _ h9 => h9) rfl dX0_append_7 ?_
  refine lv_iload hx hb dX0_append_10 (lv_at hl 0 rfl) ?_
  refine lv_iload_n hx hb dX0_append_12 rfl (lv_at hl 2 rfl) ?_
  refine k_ist hx hb hE.1 hP hD hS 1 0 rfl rfl (j := kc) (by omega) (by decide) dX0_append_13 (fun H locs hP hD hS => ?_)
  have hP : va_P D vwCl (wC cy b0 b1 b2 b3 b4 b5 b6 b7 (upd iss kc i_) sb fst len off ren que kc) H := hP
  have hD : va_D A (wC cy b0 b1 b2 b3 b4 b5 b6 b7 (upd iss kc i_) sb fst len off ren que kc) := hD
  refine lv_aload_n hx hb dX0_append_14 rfl (lv_at hl 1 rfl) ?_
  refine va_get (D := D) (ci := 0) (v := .ref b2) (C := RX0) (T := TX0) (N := 8) hx hb hts g_X0 hown hE.1 hP 0 rfl rfl 1 (by decide) f_15 (fun _ h9 => h9) rfl dX0_append_15 ?_
  refine lv_iload hx hb dX0_append_18 (lv_at hl 0 rfl) ?_
  refine lv_iload_n hx hb dX0_append_20 rfl (lv_at hl 3 rfl) ?_
  refine k_ist hx hb hE.1 hP hD hS 2 0 rfl rfl (j := kc) (by omega) (by decide) dX0_append_21 (fun H locs hP hD hS => ?_)
  have hP : va_P D vwCl (wC cy b0 b1 b2 b3 b4 b5 b6 b7 (upd iss kc i_) (upd sb kc s_) fst len off ren que kc) H := hP
  have hD : va_D A (wC cy b0 b1 b2 b3 b4 b5 b6 b7 (upd iss kc i_) (upd sb kc s_) fst len off ren que kc) := hD
  refine lv_aload_n hx hb dX0_append_22 rfl (lv_at hl 1 rfl) ?_
  refine va_get (D := D) (ci := 0) (v := .ref b3) (C := RX0) (T := TX0) (N := 8) hx hb hts g_X0 hown hE.1 hP 0 rfl rfl 2 (by decide) f_18 (fun _ h9 => h9) rfl dX0_append_23 ?_
  refine lv_iload hx hb dX0_append_26 (lv_at hl 0 rfl) ?_
  refine lv_iload_n hx hb dX0_append_28 rfl (lv_at hl 4 rfl) ?_
  refine k_ist hx hb hE.1 hP hD hS 3 0 rfl rfl (j := kc) (by omega) (by decide) dX0_append_29 (fun H locs hP hD hS => ?_)
  have hP : va_P D vwCl (wC cy b0 b1 b2 b3 b4 b5 b6 b7 (upd iss kc i_) (upd sb kc s_) (upd fst kc f_) len off ren que kc) H := hP
  have hD : va_D A (wC cy b0 b1 b2 b3 b4 b5 b6 b7 (upd iss kc i_) (upd sb kc s_) (upd fst kc f_) len off ren que kc) := hD
  refine lv_aload_n hx hb dX0_append_30 rfl (lv_at hl 1 rfl) ?_
  refine va_get (D := D) (ci := 0) (v := .ref b4) (C := RX0) (T := TX0) (N := 8) hx hb hts g_X0 hown hE.1 hP 0 rfl rfl 3 (by decide) f_21 (fun _ h9 => h9) rfl dX0_append_31 ?_
  refine lv_iload hx hb dX0_append_34 (lv_at hl 0 rfl) ?_
  refine lv_iload hx hb dX0_append_36 (lv_at hl 5 rfl) ?_
  refine k_ist hx hb hE.1 hP hD hS 4 0 rfl rfl (j := kc) (by omega) (by decide) dX0_append_38 (fun H locs hP hD hS => ?_)
  have hP : va_P D vwCl (wC cy b0 b1 b2 b3 b4 b5 b6 b7 (upd iss kc i_) (upd sb kc s_) (upd fst kc f_) (upd len kc l_) off ren que kc) H := hP
  have hD : va_D A (wC cy b0 b1 b2 b3 b4 b5 b6 b7 (upd iss kc i_) (upd sb kc s_) (upd fst kc f_) (upd len kc l_) off ren que kc) := hD
  refine lv_aload_n hx hb dX0_append_39 rfl (lv_at hl 1 rfl) ?_
  refine va_get (D := D) (ci := 0) (v := .ref b5) (C := RX0) (T := TX0) (N := 8) hx hb hts g_X0 hown hE.1 hP 0 rfl rfl 4 (by decide) f_24 (fun _ h9 => h9) rfl dX0_append_40 ?_
  refine lv_iload hx hb dX0_append_43 (lv_at hl 0 rfl) ?_
  refine lv_iload hx hb dX0_append_45 (lv_at hl 6 rfl) ?_
  refine k_ist hx hb hE.1 hP hD hS 5 0 rfl rfl (j := kc) (by omega) (by decide) dX0_append_47 (fun H locs hP hD hS => ?_)
  have hP : va_P D vwCl (wC cy b0 b1 b2 b3 b4 b5 b6 b7 (upd iss kc i_) (upd sb kc s_) (upd fst kc f_) (upd len kc l_) (upd off kc o_) ren que kc) H := hP
  have hD : va_D A (wC cy b0 b1 b2 b3 b4 b5 b6 b7 (upd iss kc i_) (upd sb kc s_) (upd fst kc f_) (upd len kc l_) (upd off kc o_) ren que kc) := hD
  refine lv_aload_n hx hb dX0_append_48 rfl (lv_at hl 1 rfl) ?_
  refine va_get (D := D) (ci := 0) (v := .ref b6) (C := RX0) (T := TX0) (N := 8) hx hb hts g_X0 hown hE.1 hP 0 rfl rfl 5 (by decide) f_27 (fun _ h9 => h9) rfl dX0_append_49 ?_
  refine lv_iload hx hb dX0_append_52 (lv_at hl 0 rfl) ?_
  refine lv_iconst (v := (-1)) hx hb dX0_append_54 (by decide) ?_
  refine k_ist hx hb hE.1 hP hD hS 6 0 rfl rfl (j := kc) (by omega) (by decide) dX0_append_55 (fun H locs hP hD hS => ?_)
  have hP : va_P D vwCl (wC cy b0 b1 b2 b3 b4 b5 b6 b7 (upd iss kc i_) (upd sb kc s_) (upd fst kc f_) (upd len kc l_) (upd off kc o_) (upd ren kc (-1)) que kc) H := hP
  have hD : va_D A (wC cy b0 b1 b2 b3 b4 b5 b6 b7 (upd iss kc i_) (upd sb kc s_) (upd fst kc f_) (upd len kc l_) (upd off kc o_) (upd ren kc (-1)) que kc) := hD
  refine lv_aload_n hx hb dX0_append_56 rfl (lv_at hl 1 rfl) ?_
  refine lv_dup hx hb dX0_append_57 rfl ?_
  refine va_get (D := D) (ci := 0) (v := .int (nI kc)) (C := RX0) (T := TX0) (N := 8) hx hb hts g_X0 hown hE.1 hP 0 rfl rfl 7 (by decide) f_33 (fun _ h9 => h9) rfl dX0_append_58 ?_
  refine lv_iconst (v := 1) hx hb dX0_append_61 (by decide) ?_
  refine lv_iadd hx hb dX0_append_62 ?_
  refine k_top (z := nI (kc + 1)) (nI_1 _) ?_
  refine va_put (D := D) (ci := 0) (v := .int (nI (kc + 1))) (ty := .int) (C := RX0) (T := TX0) (N := 8) hx hb hts g_X0 tyX0 tyX0_ok nmX0 hown hE.1 hP hD hS 0 rfl rfl 7 (by decide) f_33 (fun _ h9 => h9) rfl (by decide +kernel) rfl rfl (Nat.le_of_ble_eq_true rfl) dX0_append_63 (fun H locs hP hD hS => ?_)
  have hP : va_P D vwCl (wC cy b0 b1 b2 b3 b4 b5 b6 b7 (upd iss kc i_) (upd sb kc s_) (upd fst kc f_) (upd len kc l_) (upd off kc o_) (upd ren kc (-1)) que (kc + 1)) H := hP
  have hD : va_D A (wC cy b0 b1 b2 b3 b4 b5 b6 b7 (upd iss kc i_) (upd sb kc s_) (upd fst kc f_) (upd len kc l_) (upd off kc o_) (upd ren kc (-1)) que (kc + 1)) := hD
  refine lv_iload hx hb dX0_append_66 (lv_at hl 0 rfl) ?_
  exact hret _ _ _ _ (nI kc) () dX0_append_68 (Or.inl rfl) rfl hP hS

set_option maxHeartbeats 4000000 in
set_option maxRecDepth 100000 in
theorem c_X0_endOf (l : Launch) (D : va_G) (cy : ClassId × ClassId × ClassId) (b0 b1 b2 b3 b4 b5 b6 b7 : Nat) (iss sb fst len off ren que : Nat → Int32) (kc : Nat) (j : Nat) (hj : j < 60) : kI l D cy yX0_endOf wsX0_endOf (krm 0 0) [.ref b0, .int (nI j)] (wC cy b0 b1 b2 b3 b4 b5 b6 b7 iss sb fst len off ren que kc) (fun (r : Int32) (u : Unit) => r = ctEnd fst len j) (fun _ : Unit => wC cy b0 b1 b2 b3 b4 b5 b6 b7 iss sb fst len off ren que kc) := by
  refine kI.of (cc := cX0_endOf) (maxL := 2) (rt := .int) (Or.inl rfl) (by decide) rfl (Nat.le_of_ble_eq_true rfl) ?_
  intro p e s m args below meth c Q A ls hx hb hml hown hts hE hA hP hD hl hret
  have hS : va_S A s.heap s.heap [] := va_S.rf
  have hl : lv_has ls 2 [(0, .ref b0), (1, .int (nI j))] := hl
  have g_X0 : ∀ w ∈ wsX00, w ∈ wsX0_endOf := by decide +kernel
  have f_18 := hts (.fieldLink RX0 18 "CertHerd$CertificateTable" "firstDays" "[I") (by decide +kernel)
  have f_21 := hts (.fieldLink RX0 21 "CertHerd$CertificateTable" "lengths" "[I") (by decide +kernel)
  refine lv_aload_n hx hb dX0_endOf_0 rfl (lv_at hl 0 rfl) ?_
  refine va_get (D := D) (ci := 0) (v := .ref b3) (C := RX0) (T := TX0) (N := 8) hx hb hts g_X0 hown hE.1 hP 0 rfl rfl 2 (by decide) f_18 (fun _ h9 => h9) rfl dX0_endOf_1 ?_
  refine lv_iload_n hx hb dX0_endOf_4 rfl (lv_at hl 1 rfl) ?_
  refine k_ild hx hb hE.1 hP 3 0 rfl rfl (j := j) (by omega) (by decide) dX0_endOf_5 ?_
  refine lv_aload_n hx hb dX0_endOf_6 rfl (lv_at hl 0 rfl) ?_
  refine va_get (D := D) (ci := 0) (v := .ref b4) (C := RX0) (T := TX0) (N := 8) hx hb hts g_X0 hown hE.1 hP 0 rfl rfl 3 (by decide) f_21 (fun _ h9 => h9) rfl dX0_endOf_7 ?_
  refine lv_iload_n hx hb dX0_endOf_10 rfl (lv_at hl 1 rfl) ?_
  refine k_ild hx hb hE.1 hP 4 0 rfl rfl (j := j) (by omega) (by decide) dX0_endOf_11 ?_
  refine lv_iadd hx hb dX0_endOf_12 ?_
  refine lv_iconst (v := 1) hx hb dX0_endOf_13 (by decide) ?_
  refine lv_isub hx hb dX0_endOf_14 ?_
  exact hret _ _ _ _ (((fst j) + (len j)) - 1) () dX0_endOf_15 (Or.inl rfl) rfl hP hS

set_option maxHeartbeats 4000000 in
set_option maxRecDepth 100000 in
theorem c_X0_dueDayOf (l : Launch) (D : va_G) (cy : ClassId × ClassId × ClassId) (b0 b1 b2 b3 b4 b5 b6 b7 : Nat) (iss sb fst len off ren que : Nat → Int32) (kc : Nat) (j : Nat) (hj : j < 60) : kI l D cy yX0_dueDayOf wsX0_dueDayOf (krm 0 0) [.ref b0, .int (nI j)] (wC cy b0 b1 b2 b3 b4 b5 b6 b7 iss sb fst len off ren que kc) (fun (r : Int32) (u : Unit) => r = ctDue fst len off j) (fun _ : Unit => wC cy b0 b1 b2 b3 b4 b5 b6 b7 iss sb fst len off ren que kc) := by
  refine kI.of (cc := cX0_dueDayOf) (maxL := 2) (rt := .int) (Or.inl rfl) (by decide) rfl (Nat.le_of_ble_eq_true rfl) ?_
  intro p e s m args below meth c Q A ls hx hb hml hown hts hE hA hP hD hl hret
  have hS : va_S A s.heap s.heap [] := va_S.rf
  have hl : lv_has ls 2 [(0, .ref b0), (1, .int (nI j))] := hl
  have g_X0 : ∀ w ∈ wsX00, w ∈ wsX0_dueDayOf := by decide +kernel
  have f_18 := hts (.fieldLink RX0 18 "CertHerd$CertificateTable" "firstDays" "[I") (by decide +kernel)
  have f_21 := hts (.fieldLink RX0 21 "CertHerd$CertificateTable" "lengths" "[I") (by decide +kernel)
  have f_24 := hts (.fieldLink RX0 24 "CertHerd$CertificateTable" "offsets" "[I") (by decide +kernel)
  refine lv_aload_n hx hb dX0_dueDayOf_0 rfl (lv_at hl 0 rfl) ?_
  refine va_get (D := D) (ci := 0) (v := .ref b3) (C := RX0) (T := TX0) (N := 8) hx hb hts g_X0 hown hE.1 hP 0 rfl rfl 2 (by decide) f_18 (fun _ h9 => h9) rfl dX0_dueDayOf_1 ?_
  refine lv_iload_n hx hb dX0_dueDayOf_4 rfl (lv_at hl 1 rfl) ?_
  refine k_ild hx hb hE.1 hP 3 0 rfl rfl (j := j) (by omega) (by decide) dX0_dueDayOf_5 ?_
  refine lv_aload_n hx hb dX0_dueDayOf_6 rfl (lv_at hl 0 rfl) ?_
  refine va_get (D := D) (ci := 0) (v := .ref b4) (C := RX0) (T := TX0) (N := 8) hx hb hts g_X0 hown hE.1 hP 0 rfl rfl 3 (by decide) f_21 (fun _ h9 => h9) rfl dX0_dueDayOf_7 ?_
  refine lv_iload_n hx hb dX0_dueDayOf_10 rfl (lv_at hl 1 rfl) ?_
  refine k_ild hx hb hE.1 hP 4 0 rfl rfl (j := j) (by omega) (by decide) dX0_dueDayOf_11 ?_
  refine lv_iconst (v := 2) hx hb dX0_dueDayOf_12 (by decide) ?_
  refine lv_imul hx hb dX0_dueDayOf_13 ?_
  refine lv_iconst (v := 3) hx hb dX0_dueDayOf_14 (by decide) ?_
  refine lv_idiv hx hb dX0_dueDayOf_15 (by decide) ?_
  refine lv_iadd hx hb dX0_dueDayOf_16 ?_
  refine lv_aload_n hx hb dX0_dueDayOf_17 rfl (lv_at hl 0 rfl) ?_
  refine va_get (D := D) (ci := 0) (v := .ref b5) (C := RX0) (T := TX0) (N := 8) hx hb hts g_X0 hown hE.1 hP 0 rfl rfl 4 (by decide) f_24 (fun _ h9 => h9) rfl dX0_dueDayOf_18 ?_
  refine lv_iload_n hx hb dX0_dueDayOf_21 rfl (lv_at hl 1 rfl) ?_
  refine k_ild hx hb hE.1 hP 5 0 rfl rfl (j := j) (by omega) (by decide) dX0_dueDayOf_22 ?_
  refine lv_iadd hx hb dX0_dueDayOf_23 ?_
  exact hret _ _ _ _ (((fst j) + (((len j) * 2) / 3)) + (off j)) () dX0_dueDayOf_24 (Or.inl rfl) rfl hP hS

set_option maxHeartbeats 4000000 in
set_option maxRecDepth 100000 in
theorem c_X0_isWaiting (l : Launch) (D : va_G) (cy : ClassId × ClassId × ClassId) (b0 b1 b2 b3 b4 b5 b6 b7 : Nat) (iss sb fst len off ren que : Nat → Int32) (kc : Nat) (j : Nat) (day : Int32) (hj : j < 60) : kI l D cy yX0_isWaiting wsX0_isWaiting (krm 1 21) [.ref b0, .int (nI j), .int day] (wC cy b0 b1 b2 b3 b4 b5 b6 b7 iss sb fst len off ren que kc) (fun (r : Int32) (u : Unit) => r = bI (waitP fst len off ren day j)) (fun _ : Unit => wC cy b0 b1 b2 b3 b4 b5 b6 b7 iss sb fst len off ren que kc) := by
  refine kI.of (cc := cX0_isWaiting) (maxL := 3) (rt := .boolean) (Or.inr rfl) (by decide) rfl (Nat.le_of_ble_eq_true rfl) ?_
  intro p e s m args below meth c Q A ls hx hb hml hown hts hE hA hP hD hl hret
  have hS : va_S A s.heap s.heap [] := va_S.rf
  have hl : lv_has ls 3 [(0, .ref b0), (1, .int (nI j)), (2, .int day)] := hl
  have g_X0 : ∀ w ∈ wsX00, w ∈ wsX0_isWaiting := by decide +kernel
  have f_27 := hts (.fieldLink RX0 27 "CertHerd$CertificateTable" "renewals" "[I") (by decide +kernel)
  refine lv_aload_n hx hb dX0_isWaiting_0 rfl (lv_at hl 0 rfl) ?_
  refine lv_iload_n hx hb dX0_isWaiting_1 rfl (lv_at hl 1 rfl) ?_
  refine kcW_i (n := 1) (wc := wC cy b0 b1 b2 b3 b4 b5 b6 b7 iss sb fst len off ren que kc) (As := [.int (nI j)]) (rest := []) ⟨hx, hb, hml, hown, hts⟩ hE hA hP hD hS (c_X0_dueDayOf l D cy b0 b1 b2 b3 b4 b5 b6 b7 iss sb fst len off ren que kc j (by first | assumption | omega)) (fun _ => rfl) (q0 := 0) (ci := 0) rfl rfl gX0_isWaiting_X0_dueDayOf rfl rfl rfl ⟨rfl, by decide, by decide, by decide +kernel⟩ ⟨Nat.le_of_ble_eq_true rfl, Nat.le_of_ble_eq_true rfl⟩ rfl hl.1 rfl (Nat.le_of_ble_eq_true rfl) dX0_isWaiting_2 ⟨Nat.zero_le _, Nat.zero_le _⟩ (fun r_1 u H locs e_2 hP hD hS => ?_)
  have hP : va_P D vwCl (wC cy b0 b1 b2 b3 b4 b5 b6 b7 iss sb fst len off ren que kc) H := hP
  have hD : va_D A (wC cy b0 b1 b2 b3 b4 b5 b6 b7 iss sb fst len off ren que kc) := hD
  have e_2 : r_1 = ctDue fst len off j := e_2
  subst e_2
  refine lv_iload_n hx hb dX0_isWaiting_5 rfl (lv_at hl 2 rfl) ?_
  refine lv_icmp_gt (tgt := 32) hx hb dX0_isWaiting_6 (by decide) (fun c_6 => ?_) (fun c_6 => ?_)
  · refine lv_iconst (v := 0) hx hb dX0_isWaiting_32 (by decide) ?_
    exact hret _ _ _ _ 0 () dX0_isWaiting_33 (Or.inr (Or.inl rfl)) (bI_f (by simp [c_6, waitP])).symm hP hS
  · refine lv_aload_n hx hb dX0_isWaiting_9 rfl (lv_at hl 0 rfl) ?_
    refine va_get (D := D) (ci := 0) (v := .ref b6) (C := RX0) (T := TX0) (N := 8) hx hb hts g_X0 hown hE.1 hP 0 rfl rfl 5 (by decide) f_27 (fun _ h9 => h9) rfl dX0_isWaiting_10 ?_
    refine lv_iload_n hx hb dX0_isWaiting_13 rfl (lv_at hl 1 rfl) ?_
    refine k_ild hx hb hE.1 hP 6 0 rfl rfl (j := j) (by omega) (by decide) dX0_isWaiting_14 ?_
    refine lv_iconst (v := (-1)) hx hb dX0_isWaiting_15 (by decide) ?_
    refine lv_icmp_ne (tgt := 32) hx hb dX0_isWaiting_16 (by decide) (fun c_16 => ?_) (fun c_16 => ?_)
    · refine lv_iconst (v := 0) hx hb dX0_isWaiting_32 (by decide) ?_
      exact hret _ _ _ _ 0 () dX0_isWaiting_33 (Or.inr (Or.inl rfl)) (bI_f (by simp [c_6, c_16, waitP])).symm hP hS
    · refine lv_iload_n hx hb dX0_isWaiting_19 rfl (lv_at hl 2 rfl) ?_
      refine lv_aload_n hx hb dX0_isWaiting_20 rfl (lv_at hl 0 rfl) ?_
      refine lv_iload_n hx hb dX0_isWaiting_21 rfl (lv_at hl 1 rfl) ?_
      refine kcW_i (n := 1) (wc := wC cy b0 b1 b2 b3 b4 b5 b6 b7 iss sb fst len off ren que kc) (As := [.int (nI j)]) (rest := [.int day]) ⟨hx, hb, hml, hown, hts⟩ hE hA hP hD hS (c_X0_endOf l D cy b0 b1 b2 b3 b4 b5 b6 b7 iss sb fst len off ren que kc j (by first | assumption | omega)) (fun _ => rfl) (q0 := 0) (ci := 0) rfl rfl gX0_isWaiting_X0_endOf rfl rfl rfl ⟨rfl, by decide, by decide, by decide +kernel⟩ ⟨Nat.le_of_ble_eq_true rfl, Nat.le_of_ble_eq_true rfl⟩ rfl hl.1 rfl (Nat.le_of_ble_eq_true rfl) dX0_isWaiting_22 ⟨Nat.zero_le _, Nat.zero_le _⟩ (fun r_3 u H locs e_4 hP hD hS => ?_)
      have hP : va_P D vwCl (wC cy b0 b1 b2 b3 b4 b5 b6 b7 iss sb fst len off ren que kc) H := hP
      have hD : va_D A (wC cy b0 b1 b2 b3 b4 b5 b6 b7 iss sb fst len off ren que kc) := hD
      have e_4 : r_3 = ctEnd fst len j := e_4
      subst e_4
      refine lv_icmp_gt (tgt := 32) hx hb dX0_isWaiting_25 (by decide) (fun c_25 => ?_) (fun c_25 => ?_)
      · refine lv_iconst (v := 0) hx hb dX0_isWaiting_32 (by decide) ?_
        exact hret _ _ _ _ 0 () dX0_isWaiting_33 (Or.inr (Or.inl rfl)) (bI_f (by simp [c_6, c_16, c_25, waitP])).symm hP hS
      · refine lv_iconst (v := 1) hx hb dX0_isWaiting_28 (by decide) ?_
        refine lv_goto (tgt := 33) hx hb dX0_isWaiting_29 (by decide) ?_
        exact hret _ _ _ _ 1 () dX0_isWaiting_33 (Or.inr (Or.inr rfl)) (bI_t (by simp [c_6, c_16, c_25, waitP])).symm hP hS

set_option maxHeartbeats 4000000 in
set_option maxRecDepth 100000 in
theorem c_X0_issuedInWeek (l : Launch) (D : va_G) (cy : ClassId × ClassId × ClassId) (b0 b1 b2 b3 b4 b5 b6 b7 : Nat) (iss sb fst len off ren que : Nat → Int32) (kc : Nat) (iu : Int32) (wk : Int32) (hc : kc ≤ 60) : kI l D cy yX0_issuedInWeek wsX0_issuedInWeek (krm 1 20) [.ref b0, .int iu, .int wk] (wC cy b0 b1 b2 b3 b4 b5 b6 b7 iss sb fst len off ren que kc) (fun (r : Int32) (u : Unit) => r = iwN iss fst iu wk kc) (fun _ : Unit => wC cy b0 b1 b2 b3 b4 b5 b6 b7 iss sb fst len off ren que kc) := by
  refine kI.of (cc := cX0_issuedInWeek) (maxL := 5) (rt := .int) (Or.inl rfl) (by decide) rfl (Nat.le_of_ble_eq_true rfl) ?_
  intro p e s m args below meth c Q A ls hx hb hml hown hts hE hA hP hD hl hret
  have hS : va_S A s.heap s.heap [] := va_S.rf
  have hl : lv_has ls 5 [(0, .ref b0), (1, .int iu), (2, .int wk)] := hl
  have g_X0 : ∀ w ∈ wsX00, w ∈ wsX0_issuedInWeek := by decide +kernel
  have f_33 := hts (.fieldLink RX0 33 "CertHerd$CertificateTable" "count" "I") (by decide +kernel)
  have f_11 := hts (.fieldLink RX0 11 "CertHerd$CertificateTable" "issuerNumbers" "[I") (by decide +kernel)
  have f_18 := hts (.fieldLink RX0 18 "CertHerd$CertificateTable" "firstDays" "[I") (by decide +kernel)
  refine lv_iconst (v := 0) hx hb dX0_issuedInWeek_0 (by decide) ?_
  refine lv_istore_n (lv' := [(3, .int 0), (0, .ref b0), (1, .int iu), (2, .int wk)]) hx hb dX0_issuedInWeek_1 rfl hl (by decide) rfl (fun ls hl => ?_)
  refine lv_iconst (v := 0) hx hb dX0_issuedInWeek_2 (by decide) ?_
  refine lv_istore (lv' := [(4, .int 0), (3, .int 0), (0, .ref b0), (1, .int iu), (2, .int wk)]) hx hb dX0_issuedInWeek_3 hl (by decide) rfl (fun ls hl => ?_)
  have L_5 : ∀ (f : Nat) (k : Nat) (g : Int32) (H : Heap) (locs : List Loc) (ls : Array Slot), ((kc - k) < f) → (k ≤ kc) → (g = iwN iss fst iu wk k) → va_P D vwCl (wC cy b0 b1 b2 b3 b4 b5 b6 b7 iss sb fst len off ren que kc) H → va_D A (wC cy b0 b1 b2 b3 b4 b5 b6 b7 iss sb fst len off ren que kc) → va_S A s.heap H locs → lv_has ls 5 [(4, .int (nI k)), (3, .int g), (0, .ref b0), (1, .int iu), (2, .int wk)] → W p l e (krm 1 20) s m args below meth c H locs 0 0 Q (F0 m 5 ls []) := by
    intro f
    induction f with
    | zero => intro k g H locs ls hf; exact absurd hf (Nat.not_lt_zero _)
    | succ f ih_5 =>
      intro k g H locs ls hf hk eg hP hD hS hl
      refine lv_iload hx hb dX0_issuedInWeek_5 (lv_at hl 0 rfl) ?_
      refine lv_aload_n hx hb dX0_issuedInWeek_7 rfl (lv_at hl 2 rfl) ?_
      refine va_get (D := D) (ci := 0) (v := .int (nI kc)) (C := RX0) (T := TX0) (N := 8) hx hb hts g_X0 hown hE.1 hP 0 rfl rfl 7 (by decide) f_33 (fun _ h9 => h9) rfl dX0_issuedInWeek_8 ?_
      refine lv_icmp_ge (tgt := 48) hx hb dX0_issuedInWeek_11 (by decide) (fun c_11 => ?_) (fun c_11 => ?_)
      · have c_11n : kc ≤ k := k_leN (a := kc) (b := k) (by omega) (by omega) c_11
        refine lv_iload_n hx hb dX0_issuedInWeek_48 rfl (lv_at hl 1 rfl) ?_
        exact hret _ _ _ _ g () dX0_issuedInWeek_49 (Or.inl rfl) (by have e9 : k = kc := (by omega); subst e9; exact eg) hP hS
      · have c_11n : ¬ kc ≤ k := k_nleN (a := kc) (b := k) (by omega) (by omega) c_11
        have hk8 : k < 60 := by omega
        refine lv_aload_n hx hb dX0_issuedInWeek_14 rfl (lv_at hl 2 rfl) ?_
        refine va_get (D := D) (ci := 0) (v := .ref b1) (C := RX0) (T := TX0) (N := 8) hx hb hts g_X0 hown hE.1 hP 0 rfl rfl 0 (by decide) f_11 (fun _ h9 => h9) rfl dX0_issuedInWeek_15 ?_
        refine lv_iload hx hb dX0_issuedInWeek_18 (lv_at hl 0 rfl) ?_
        refine k_ild hx hb hE.1 hP 1 0 rfl rfl (j := k) (by omega) (by decide) dX0_issuedInWeek_20 ?_
        refine lv_iload_n hx hb dX0_issuedInWeek_21 rfl (lv_at hl 3 rfl) ?_
        refine lv_icmp_ne (tgt := 42) hx hb dX0_issuedInWeek_22 (by decide) (fun c_22 => ?_) (fun c_22 => ?_)
        · refine lv_iinc (v := (nI (k + 1))) (lv' := [(4, .int (nI (k + 1))), (3, .int g), (0, .ref b0), (1, .int iu), (2, .int wk)]) hx hb dX0_issuedInWeek_42 hl (k := 0) rfl (k_inc _) (by decide) rfl (fun ls hl => ?_)
          refine lv_goto (tgt := 5) hx hb dX0_issuedInWeek_45 (by decide) ?_
          exact ih_5 (k + 1) g _ _ ls (by omega) (by omega) (by subst eg; rw [iwN]; exact (if_neg (fun h => c_22 h.1)).symm) hP hD hS (lv_sub hl [0, 1, 2, 3, 4] rfl)
        · refine lv_aload_n hx hb dX0_issuedInWeek_25 rfl (lv_at hl 2 rfl) ?_
          refine va_get (D := D) (ci := 0) (v := .ref b3) (C := RX0) (T := TX0) (N := 8) hx hb hts g_X0 hown hE.1 hP 0 rfl rfl 2 (by decide) f_18 (fun _ h9 => h9) rfl dX0_issuedInWeek_26 ?_
          refine lv_iload hx hb dX0_issuedInWeek_29 (lv_at hl 0 rfl) ?_
          refine k_ild hx hb hE.1 hP 3 0 rfl rfl (j := k) (by omega) (by decide) dX0_issuedInWeek_31 ?_
          refine kcN_i (n := 1) (X := []) (wc := []) (Y := wC cy b0 b1 b2 b3 b4 b5 b6 b7 iss sb fst len off ren que kc) (As := [.int (fst k)]) (rest := []) ⟨hx, hb, hml, hown, hts⟩ hE hA hP hD hS (c_X2_weekOf l D cy (fst k)) (fun _ => rfl) hE.2.1 (hts (.static yX2_weekOf) (by decide +kernel)) (hts (.initialized RX2) (by decide +kernel)) gX0_issuedInWeek_X2_weekOf_n44 rfl rfl rfl ⟨by decide, by decide, by decide +kernel⟩ ⟨Nat.le_of_ble_eq_true rfl, Nat.le_of_ble_eq_true rfl⟩ rfl hl.1 rfl (Nat.le_of_ble_eq_true rfl) dX0_issuedInWeek_32 ⟨Nat.zero_le _, Nat.zero_le _⟩ (fun r_1 u H locs e_2 hP hD hS => ?_)
          have hP : va_P D vwCl (wC cy b0 b1 b2 b3 b4 b5 b6 b7 iss sb fst len off ren que kc) H := hP
          have hD : va_D A (wC cy b0 b1 b2 b3 b4 b5 b6 b7 iss sb fst len off ren que kc) := hD
          have e_2 : r_1 = (fst k) / 7 := e_2
          subst e_2
          refine lv_iload_n hx hb dX0_issuedInWeek_35 rfl (lv_at hl 4 rfl) ?_
          refine lv_icmp_ne (tgt := 42) hx hb dX0_issuedInWeek_36 (by decide) (fun c_36 => ?_) (fun c_36 => ?_)
          · refine lv_iinc (v := (nI (k + 1))) (lv' := [(4, .int (nI (k + 1))), (3, .int g), (0, .ref b0), (1, .int iu), (2, .int wk)]) hx hb dX0_issuedInWeek_42 hl (k := 0) rfl (k_inc _) (by decide) rfl (fun ls hl => ?_)
            refine lv_goto (tgt := 5) hx hb dX0_issuedInWeek_45 (by decide) ?_
            exact ih_5 (k + 1) g _ _ ls (by omega) (by omega) (by subst eg; rw [iwN]; exact (if_neg (fun h => c_36 h.2)).symm) hP hD hS (lv_sub hl [0, 1, 2, 3, 4] rfl)
          · refine lv_iinc (v := (g + 1)) (lv' := [(3, .int (g + 1)), (4, .int (nI k)), (0, .ref b0), (1, .int iu), (2, .int wk)]) hx hb dX0_issuedInWeek_39 hl (k := 1) rfl rfl (by decide) rfl (fun ls hl => ?_)
            refine lv_iinc (v := (nI (k + 1))) (lv' := [(4, .int (nI (k + 1))), (3, .int (g + 1)), (0, .ref b0), (1, .int iu), (2, .int wk)]) hx hb dX0_issuedInWeek_42 hl (k := 1) rfl (k_inc _) (by decide) rfl (fun ls hl => ?_)
            refine lv_goto (tgt := 5) hx hb dX0_issuedInWeek_45 (by decide) ?_
            exact ih_5 (k + 1) (g + 1) _ _ ls (by omega) (by omega) (by subst eg; rw [iwN]; exact (if_pos ⟨c_22, c_36⟩).symm) hP hD hS (lv_sub hl [0, 1, 2, 3, 4] rfl)
  exact L_5 ((kc - 0) + 1) 0 0 _ _ ls (Nat.lt_succ_self _) (by omega) rfl hP hD hS (lv_sub hl [0, 1, 2, 3, 4] rfl)

set_option maxHeartbeats 4000000 in
set_option maxRecDepth 100000 in
theorem c_X0_insert (l : Launch) (D : va_G) (cy : ClassId × ClassId × ClassId) (b0 b1 b2 b3 b4 b5 b6 b7 : Nat) (iss sb fst len off ren que : Nat → Int32) (kc : Nat) (j : Nat) (z : Nat) (hj : j < 60) (hz : z < 60) (hq : ∀ i, i < z → que i = nI (ix (que i)) ∧ ix (que i) < 60) : kV l D cy yX0_insert wsX0_insert (krm 1 21) [.ref b0, .int (nI j), .int (nI z)] (wC cy b0 b1 b2 b3 b4 b5 b6 b7 iss sb fst len off ren que kc) (fun (u : Unit) => True) (fun _ : Unit => wC cy b0 b1 b2 b3 b4 b5 b6 b7 iss sb fst len off ren (insQ fst len j que z) kc) := by
  refine kV.of (cc := cX0_insert) (maxL := 4) (by decide) rfl (Nat.le_of_ble_eq_true rfl) ?_
  intro p e s m args below meth c Q A ls hx hb hml hown hts hE hA hP hD hl hret
  have hS : va_S A s.heap s.heap [] := va_S.rf
  have hl : lv_has ls 4 [(0, .ref b0), (1, .int (nI j)), (2, .int (nI z))] := hl
  have g_X0 : ∀ w ∈ wsX00, w ∈ wsX0_insert := by decide +kernel
  have f_30 := hts (.fieldLink RX0 30 "CertHerd$CertificateTable" "queue" "[I") (by decide +kernel)
  refine lv_iload_n hx hb dX0_insert_0 rfl (lv_at hl 2 rfl) ?_
  refine lv_istore_n (lv' := [(3, .int (nI z)), (0, .ref b0), (1, .int (nI j)), (2, .int (nI z))]) hx hb dX0_insert_1 rfl hl (by decide) rfl (fun ls hl => ?_)
  have L_2 : ∀ (f : Nat) (p_ : Nat) (q_ : Nat → Int32) (H : Heap) (locs : List Loc) (ls : Array Slot), (p_ < f) → (p_ ≤ z) → (∀ i, i < p_ → q_ i = nI (ix (q_ i)) ∧ ix (q_ i) < 60) → (insQ fst len j q_ p_ = insQ fst len j que z) → va_P D vwCl (wC cy b0 b1 b2 b3 b4 b5 b6 b7 iss sb fst len off ren q_ kc) H → va_D A (wC cy b0 b1 b2 b3 b4 b5 b6 b7 iss sb fst len off ren q_ kc) → va_S A s.heap H locs → lv_has ls 4 [(3, .int (nI p_)), (0, .ref b0), (1, .int (nI j)), (2, .int (nI z))] → W p l e (krm 1 21) s m args below meth c H locs 0 0 Q (F0 m 2 ls []) := by
    intro f
    induction f with
    | zero => intro p_ q_ H locs ls hf; exact absurd hf (Nat.not_lt_zero _)
    | succ f ih_2 =>
      intro p_ q_ H locs ls hf hp hq_ eq_ hP hD hS hl
      refine lv_iload_n hx hb dX0_insert_2 rfl (lv_at hl 0 rfl) ?_
      refine lv_if_le (tgt := 46) hx hb dX0_insert_3 (by decide) (fun c_3 => ?_) (fun c_3 => ?_)
      · have c_3n : p_ = 0 := k_le0t (a := p_) (by omega) c_3
        refine lv_aload_n hx hb dX0_insert_46 rfl (lv_at hl 1 rfl) ?_
        refine va_get (D := D) (ci := 0) (v := .ref b7) (C := RX0) (T := TX0) (N := 8) hx hb hts g_X0 hown hE.1 hP 0 rfl rfl 6 (by decide) f_30 (fun _ h9 => h9) rfl dX0_insert_47 ?_
        refine lv_iload_n hx hb dX0_insert_50 rfl (lv_at hl 0 rfl) ?_
        refine lv_iload_n hx hb dX0_insert_51 rfl (lv_at hl 2 rfl) ?_
        refine k_ist hx hb hE.1 hP hD hS 7 0 rfl rfl (j := p_) (by omega) (by decide) dX0_insert_52 (fun H locs hP hD hS => ?_)
        have hP : va_P D vwCl (wC cy b0 b1 b2 b3 b4 b5 b6 b7 iss sb fst len off ren (upd q_ p_ (nI j)) kc) H := hP
        have hD : va_D A (wC cy b0 b1 b2 b3 b4 b5 b6 b7 iss sb fst len off ren (upd q_ p_ (nI j)) kc) := hD
        have w_que : upd q_ p_ (nI j) = insQ fst len j que z := (by first | (rw [← eq_, insQ]; exact (if_pos c_23).symm) | (subst c_3n; rw [← eq_, insQ]))
        exact hret _ _ _ _ () dX0_insert_53 trivial (by show va_P D vwCl (wC cy b0 b1 b2 b3 b4 b5 b6 b7 iss sb fst len off ren (insQ fst len j que z) kc) _; rw [← w_que]; exact hP) hS
      · have c_3n : 0 < p_ := k_le0f (a := p_) (by omega) c_3
        obtain ⟨w_, rfl⟩ : ∃ w_, p_ = w_ + 1 := ⟨p_ - 1, by omega⟩
        obtain ⟨q1, q2⟩ := hq_ w_ (by omega)
        refine lv_aload_n hx hb dX0_insert_6 rfl (lv_at hl 1 rfl) ?_
        refine lv_aload_n hx hb dX0_insert_7 rfl (lv_at hl 1 rfl) ?_
        refine va_get (D := D) (ci := 0) (v := .ref b7) (C := RX0) (T := TX0) (N := 8) hx hb hts g_X0 hown hE.1 hP 0 rfl rfl 6 (by decide) f_30 (fun _ h9 => h9) rfl dX0_insert_8 ?_
        refine lv_iload_n hx hb dX0_insert_11 rfl (lv_at hl 0 rfl) ?_
        refine lv_iconst (v := 1) hx hb dX0_insert_12 (by decide) ?_
        refine lv_isub hx hb dX0_insert_13 ?_
        refine k_top (z := nI w_) (nI_pred _) ?_
        refine k_ild hx hb hE.1 hP 7 0 rfl rfl (j := w_) (by omega) (by decide) dX0_insert_14 ?_
        refine k_top (z := nI (ix (q_ w_))) q1 ?_
        refine kcW_i (n := 1) (wc := wC cy b0 b1 b2 b3 b4 b5 b6 b7 iss sb fst len off ren q_ kc) (As := [.int (nI (ix (q_ w_)))]) (rest := []) ⟨hx, hb, hml, hown, hts⟩ hE hA hP hD hS (c_X0_endOf l D cy b0 b1 b2 b3 b4 b5 b6 b7 iss sb fst len off ren q_ kc (ix (q_ w_)) (by first | assumption | omega)) (fun _ => rfl) (q0 := 0) (ci := 0) rfl rfl gX0_insert_X0_endOf rfl rfl rfl ⟨rfl, by decide, by decide, by decide +kernel⟩ ⟨Nat.le_of_ble_eq_true rfl, Nat.le_of_ble_eq_true rfl⟩ rfl hl.1 rfl (Nat.le_of_ble_eq_true rfl) dX0_insert_15 ⟨Nat.zero_le _, Nat.zero_le _⟩ (fun r_1 u H locs e_2 hP hD hS => ?_)
        have hP : va_P D vwCl (wC cy b0 b1 b2 b3 b4 b5 b6 b7 iss sb fst len off ren q_ kc) H := hP
        have hD : va_D A (wC cy b0 b1 b2 b3 b4 b5 b6 b7 iss sb fst len off ren q_ kc) := hD
        have e_2 : r_1 = ctEnd fst len (ix (q_ w_)) := e_2
        subst e_2
        refine lv_aload_n hx hb dX0_insert_18 rfl (lv_at hl 1 rfl) ?_
        refine lv_iload_n hx hb dX0_insert_19 rfl (lv_at hl 2 rfl) ?_
        refine kcW_i (n := 1) (wc := wC cy b0 b1 b2 b3 b4 b5 b6 b7 iss sb fst len off ren q_ kc) (As := [.int (nI j)]) (rest := [.int (ctEnd fst len (ix (q_ w_)))]) ⟨hx, hb, hml, hown, hts⟩ hE hA hP hD hS (c_X0_endOf l D cy b0 b1 b2 b3 b4 b5 b6 b7 iss sb fst len off ren q_ kc j (by first | assumption | omega)) (fun _ => rfl) (q0 := 0) (ci := 0) rfl rfl gX0_insert_X0_endOf rfl rfl rfl ⟨rfl, by decide, by decide, by decide +kernel⟩ ⟨Nat.le_of_ble_eq_true rfl, Nat.le_of_ble_eq_true rfl⟩ rfl hl.1 rfl (Nat.le_of_ble_eq_true rfl) dX0_insert_20 ⟨Nat.zero_le _, Nat.zero_le _⟩ (fun r_3 u H locs e_4 hP hD hS => ?_)
        have hP : va_P D vwCl (wC cy b0 b1 b2 b3 b4 b5 b6 b7 iss sb fst len off ren q_ kc) H := hP
        have hD : va_D A (wC cy b0 b1 b2 b3 b4 b5 b6 b7 iss sb fst len off ren q_ kc) := hD
        have e_4 : r_3 = ctEnd fst len j := e_4
        subst e_4
        refine lv_icmp_le (tgt := 46) hx hb dX0_insert_23 (by decide) (fun c_23 => ?_) (fun c_23 => ?_)
        · refine lv_aload_n hx hb dX0_insert_46 rfl (lv_at hl 1 rfl) ?_
          refine va_get (D := D) (ci := 0) (v := .ref b7) (C := RX0) (T := TX0) (N := 8) hx hb hts g_X0 hown hE.1 hP 0 rfl rfl 6 (by decide) f_30 (fun _ h9 => h9) rfl dX0_insert_47 ?_
          refine lv_iload_n hx hb dX0_insert_50 rfl (lv_at hl 0 rfl) ?_
          refine lv_iload_n hx hb dX0_insert_51 rfl (lv_at hl 2 rfl) ?_
          refine k_ist hx hb hE.1 hP hD hS 7 0 rfl rfl (j := (w_ + 1)) (by omega) (by decide) dX0_insert_52 (fun H locs hP hD hS => ?_)
          have hP : va_P D vwCl (wC cy b0 b1 b2 b3 b4 b5 b6 b7 iss sb fst len off ren (upd q_ (w_ + 1) (nI j)) kc) H := hP
          have hD : va_D A (wC cy b0 b1 b2 b3 b4 b5 b6 b7 iss sb fst len off ren (upd q_ (w_ + 1) (nI j)) kc) := hD
          have w_que : upd q_ (w_ + 1) (nI j) = insQ fst len j que z := (by first | (rw [← eq_, insQ]; exact (if_pos c_23).symm) | (subst c_3n; rw [← eq_, insQ]))
          exact hret _ _ _ _ () dX0_insert_53 trivial (by show va_P D vwCl (wC cy b0 b1 b2 b3 b4 b5 b6 b7 iss sb fst len off ren (insQ fst len j que z) kc) _; rw [← w_que]; exact hP) hS
        · refine lv_aload_n hx hb dX0_insert_26 rfl (lv_at hl 1 rfl) ?_
          refine va_get (D := D) (ci := 0) (v := .ref b7) (C := RX0) (T := TX0) (N := 8) hx hb hts g_X0 hown hE.1 hP 0 rfl rfl 6 (by decide) f_30 (fun _ h9 => h9) rfl dX0_insert_27 ?_
          refine lv_iload_n hx hb dX0_insert_30 rfl (lv_at hl 0 rfl) ?_
          refine lv_aload_n hx hb dX0_insert_31 rfl (lv_at hl 1 rfl) ?_
          refine va_get (D := D) (ci := 0) (v := .ref b7) (C := RX0) (T := TX0) (N := 8) hx hb hts g_X0 hown hE.1 hP 0 rfl rfl 6 (by decide) f_30 (fun _ h9 => h9) rfl dX0_insert_32 ?_
          refine lv_iload_n hx hb dX0_insert_35 rfl (lv_at hl 0 rfl) ?_
          refine lv_iconst (v := 1) hx hb dX0_insert_36 (by decide) ?_
          refine lv_isub hx hb dX0_insert_37 ?_
          refine k_top (z := nI w_) (nI_pred _) ?_
          refine k_ild hx hb hE.1 hP 7 0 rfl rfl (j := w_) (by omega) (by decide) dX0_insert_38 ?_
          refine k_ist hx hb hE.1 hP hD hS 7 0 rfl rfl (j := (w_ + 1)) (by omega) (by decide) dX0_insert_39 (fun H locs hP hD hS => ?_)
          have hP : va_P D vwCl (wC cy b0 b1 b2 b3 b4 b5 b6 b7 iss sb fst len off ren (upd q_ (w_ + 1) (q_ w_)) kc) H := hP
          have hD : va_D A (wC cy b0 b1 b2 b3 b4 b5 b6 b7 iss sb fst len off ren (upd q_ (w_ + 1) (q_ w_)) kc) := hD
          refine lv_iinc (v := (nI w_)) (lv' := [(3, .int (nI w_)), (0, .ref b0), (1, .int (nI j)), (2, .int (nI z))]) hx hb dX0_insert_40 hl (k := 0) rfl (k_dec _) (by decide) rfl (fun ls hl => ?_)
          refine lv_goto (tgt := 2) hx hb dX0_insert_43 (by decide) ?_
          exact ih_2 w_ (upd q_ (w_ + 1) (q_ w_)) _ _ ls (by omega) (by omega) (by intro i hi; have := hq_ i (by omega); rw [upd_ne _ _ (by omega : i ≠ w_ + 1)]; exact this) (by rw [← eq_, insQ, if_neg c_23]) hP hD hS (lv_sub hl [0, 1, 2, 3] rfl)
  exact L_2 (z + 1) z que _ _ ls (Nat.lt_succ_self _) (by omega) hq rfl hP hD hS (lv_sub hl [0, 1, 2, 3] rfl)

set_option maxHeartbeats 4000000 in
set_option maxRecDepth 100000 in
theorem c_X0_fillQueue (l : Launch) (D : va_G) (cy : ClassId × ClassId × ClassId) (b0 b1 b2 b3 b4 b5 b6 b7 : Nat) (iss sb fst len off ren que : Nat → Int32) (kc : Nat) (day : Int32) (hc : kc ≤ 60) : kI l D cy yX0_fillQueue wsX0_fillQueue (krm 2 44) [.ref b0, .int day] (wC cy b0 b1 b2 b3 b4 b5 b6 b7 iss sb fst len off ren que kc) (fun (r : Int32) (u : Unit) => r = nI (fqS fst len off ren day que kc)) (fun _ : Unit => wC cy b0 b1 b2 b3 b4 b5 b6 b7 iss sb fst len off ren (fqQ fst len off ren day que kc) kc) := by
  refine kI.of (cc := cX0_fillQueue) (maxL := 4) (rt := .int) (Or.inl rfl) (by decide) rfl (Nat.le_of_ble_eq_true rfl) ?_
  intro p e s m args below meth c Q A ls hx hb hml hown hts hE hA hP hD hl hret
  have hS : va_S A s.heap s.heap [] := va_S.rf
  have hl : lv_has ls 4 [(0, .ref b0), (1, .int day)] := hl
  have g_X0 : ∀ w ∈ wsX00, w ∈ wsX0_fillQueue := by decide +kernel
  have f_33 := hts (.fieldLink RX0 33 "CertHerd$CertificateTable" "count" "I") (by decide +kernel)
  refine lv_iconst (v := 0) hx hb dX0_fillQueue_0 (by decide) ?_
  refine lv_istore_n (lv' := [(2, .int 0), (0, .ref b0), (1, .int day)]) hx hb dX0_fillQueue_1 rfl hl (by decide) rfl (fun ls hl => ?_)
  refine lv_iconst (v := 0) hx hb dX0_fillQueue_2 (by decide) ?_
  refine lv_istore_n (lv' := [(3, .int 0), (2, .int 0), (0, .ref b0), (1, .int day)]) hx hb dX0_fillQueue_3 rfl hl (by decide) rfl (fun ls hl => ?_)
  have L_4 : ∀ (f : Nat) (k z : Nat) (q_ : Nat → Int32) (H : Heap) (locs : List Loc) (ls : Array Slot), ((kc - k) < f) → (k ≤ kc) → (z = fqS fst len off ren day que k) → (q_ = fqQ fst len off ren day que k) → va_P D vwCl (wC cy b0 b1 b2 b3 b4 b5 b6 b7 iss sb fst len off ren q_ kc) H → va_D A (wC cy b0 b1 b2 b3 b4 b5 b6 b7 iss sb fst len off ren q_ kc) → va_S A s.heap H locs → lv_has ls 4 [(3, .int (nI k)), (2, .int (nI z)), (0, .ref b0), (1, .int day)] → W p l e (krm 2 44) s m args below meth c H locs 0 0 Q (F0 m 4 ls []) := by
    intro f
    induction f with
    | zero => intro k z q_ H locs ls hf; exact absurd hf (Nat.not_lt_zero _)
    | succ f ih_4 =>
      intro k z q_ H locs ls hf hk ez eq_ hP hD hS hl
      refine lv_iload_n hx hb dX0_fillQueue_4 rfl (lv_at hl 0 rfl) ?_
      refine lv_aload_n hx hb dX0_fillQueue_5 rfl (lv_at hl 2 rfl) ?_
      refine va_get (D := D) (ci := 0) (v := .int (nI kc)) (C := RX0) (T := TX0) (N := 8) hx hb hts g_X0 hown hE.1 hP 0 rfl rfl 7 (by decide) f_33 (fun _ h9 => h9) rfl dX0_fillQueue_6 ?_
      refine lv_icmp_ge (tgt := 36) hx hb dX0_fillQueue_9 (by decide) (fun c_9 => ?_) (fun c_9 => ?_)
      · have c_9n : kc ≤ k := k_leN (a := kc) (b := k) (by omega) (by omega) c_9
        refine lv_iload_n hx hb dX0_fillQueue_36 rfl (lv_at hl 1 rfl) ?_
        have w_que : q_ = fqQ fst len off ren day que kc := (by have e9 : k = kc := (by omega); subst e9; exact eq_)
        exact hret _ _ _ _ (nI z) () dX0_fillQueue_37 (Or.inl rfl) (by have e9 : k = kc := (by omega); subst e9; rw [ez]) (by show va_P D vwCl (wC cy b0 b1 b2 b3 b4 b5 b6 b7 iss sb fst len off ren (fqQ fst len off ren day que kc) kc) _; rw [← w_que]; exact hP) hS
      · have c_9n : ¬ kc ≤ k := k_nleN (a := kc) (b := k) (by omega) (by omega) c_9
        have hk8 : k < 60 := by omega
        obtain ⟨hz1, hz2⟩ := fq_ok fst len off ren day que k (by omega)
        rw [← ez] at hz1 hz2
        rw [← eq_] at hz2
        refine lv_aload_n hx hb dX0_fillQueue_12 rfl (lv_at hl 2 rfl) ?_
        refine lv_iload_n hx hb dX0_fillQueue_13 rfl (lv_at hl 0 rfl) ?_
        refine lv_iload_n hx hb dX0_fillQueue_14 rfl (lv_at hl 3 rfl) ?_
        refine kcW_i (n := 2) (wc := wC cy b0 b1 b2 b3 b4 b5 b6 b7 iss sb fst len off ren q_ kc) (As := [.int (nI k), .int day]) (rest := []) ⟨hx, hb, hml, hown, hts⟩ hE hA hP hD hS (c_X0_isWaiting l D cy b0 b1 b2 b3 b4 b5 b6 b7 iss sb fst len off ren q_ kc k day (by first | assumption | omega)) (fun _ => rfl) (q0 := 0) (ci := 0) rfl rfl gX0_fillQueue_X0_isWaiting rfl rfl rfl ⟨rfl, by decide, by decide, by decide +kernel⟩ ⟨Nat.le_of_ble_eq_true rfl, Nat.le_of_ble_eq_true rfl⟩ rfl hl.1 rfl (Nat.le_of_ble_eq_true rfl) dX0_fillQueue_15 ⟨Nat.zero_le _, Nat.zero_le _⟩ (fun r_1 u H locs e_2 hP hD hS => ?_)
        have hP : va_P D vwCl (wC cy b0 b1 b2 b3 b4 b5 b6 b7 iss sb fst len off ren q_ kc) H := hP
        have hD : va_D A (wC cy b0 b1 b2 b3 b4 b5 b6 b7 iss sb fst len off ren q_ kc) := hD
        have e_2 : r_1 = bI (waitP fst len off ren day k) := e_2
        subst e_2
        refine k_ifeq (tgt := 30) hx hb dX0_fillQueue_18 (by decide) (fun c_18 => ?_) (fun c_18 => ?_)
        · refine lv_iinc (v := (nI (k + 1))) (lv' := [(3, .int (nI (k + 1))), (2, .int (nI z)), (0, .ref b0), (1, .int day)]) hx hb dX0_fillQueue_30 hl (k := 0) rfl (k_inc _) (by decide) rfl (fun ls hl => ?_)
          refine lv_goto (tgt := 4) hx hb dX0_fillQueue_33 (by decide) ?_
          exact ih_4 (k + 1) z q_ _ _ ls (by omega) (by omega) (by subst ez; show _ = (fqSQ fst len off ren day que (k + 1)).1; rw [fqSQ, apply_ite Prod.fst]; exact (if_neg (fun h => c_18 h)).symm) (by subst ez; subst eq_; show _ = (fqSQ fst len off ren day que (k + 1)).2; rw [fqSQ, apply_ite Prod.snd]; exact (if_neg (fun h => c_18 h)).symm) hP hD hS (lv_sub hl [0, 1, 2, 3] rfl)
        · refine lv_aload_n hx hb dX0_fillQueue_21 rfl (lv_at hl 2 rfl) ?_
          refine lv_iload_n hx hb dX0_fillQueue_22 rfl (lv_at hl 0 rfl) ?_
          refine lv_iload_n hx hb dX0_fillQueue_23 rfl (lv_at hl 1 rfl) ?_
          refine kcW_v (n := 2) (wc := wC cy b0 b1 b2 b3 b4 b5 b6 b7 iss sb fst len off ren q_ kc) (As := [.int (nI k), .int (nI z)]) (rest := []) ⟨hx, hb, hml, hown, hts⟩ hE hA hP hD hS (c_X0_insert l D cy b0 b1 b2 b3 b4 b5 b6 b7 iss sb fst len off ren q_ kc k z (by first | assumption | omega) (by omega) (fun i hi => ⟨(hz2 i hi).1, by have := (hz2 i hi).2; omega⟩)) (fun _ => rfl) (q0 := 0) (ci := 0) rfl rfl gX0_fillQueue_X0_insert rfl rfl rfl ⟨rfl, by decide, by decide, by decide +kernel⟩ ⟨Nat.le_of_ble_eq_true rfl, Nat.le_of_ble_eq_true rfl⟩ rfl hl.1 rfl (Nat.le_of_ble_eq_true rfl) dX0_fillQueue_24 ⟨Nat.zero_le _, Nat.zero_le _⟩ (fun u H locs e_4 hP hD hS => ?_)
          have hP : va_P D vwCl (wC cy b0 b1 b2 b3 b4 b5 b6 b7 iss sb fst len off ren (insQ fst len k q_ z) kc) H := hP
          have hD : va_D A (wC cy b0 b1 b2 b3 b4 b5 b6 b7 iss sb fst len off ren (insQ fst len k q_ z) kc) := hD
          refine lv_iinc (v := (nI (z + 1))) (lv' := [(2, .int (nI (z + 1))), (3, .int (nI k)), (0, .ref b0), (1, .int day)]) hx hb dX0_fillQueue_27 hl (k := 1) rfl (k_inc _) (by decide) rfl (fun ls hl => ?_)
          refine lv_iinc (v := (nI (k + 1))) (lv' := [(3, .int (nI (k + 1))), (2, .int (nI (z + 1))), (0, .ref b0), (1, .int day)]) hx hb dX0_fillQueue_30 hl (k := 1) rfl (k_inc _) (by decide) rfl (fun ls hl => ?_)
          refine lv_goto (tgt := 4) hx hb dX0_fillQueue_33 (by decide) ?_
          exact ih_4 (k + 1) (z + 1) (insQ fst len k q_ z) _ _ ls (by omega) (by omega) (by subst ez; show _ = (fqSQ fst len off ren day que (k + 1)).1; rw [fqSQ, apply_ite Prod.fst]; exact (if_pos c_18).symm) (by subst ez; subst eq_; show _ = (fqSQ fst len off ren day que (k + 1)).2; rw [fqSQ, apply_ite Prod.snd]; exact (if_pos c_18).symm) hP hD hS (lv_sub hl [0, 1, 2, 3] rfl)
  exact L_4 ((kc - 0) + 1) 0 0 que _ _ ls (Nat.lt_succ_self _) (by omega) rfl rfl hP hD hS (lv_sub hl [0, 1, 2, 3] rfl)

set_option maxHeartbeats 4000000 in
set_option maxRecDepth 100000 in
theorem c_X0_namesHeld (l : Launch) (D : va_G) (cy : ClassId × ClassId × ClassId) (b0 b1 b2 b3 b4 b5 b6 b7 : Nat) (iss sb fst len off ren que : Nat → Int32) (kc : Nat) (day : Int32) (good : Int32) (hc : kc ≤ 60) : kI l D cy yX0_namesHeld wsX0_namesHeld (krm 1 21) [.ref b0, .int day, .int good] (wC cy b0 b1 b2 b3 b4 b5 b6 b7 iss sb fst len off ren que kc) (fun (r : Int32) (u : Unit) => r = nhN iss sb fst len day good kc) (fun _ : Unit => wC cy b0 b1 b2 b3 b4 b5 b6 b7 iss sb fst len off ren que kc) := by
  refine kI.of (cc := cX0_namesHeld) (maxL := 6) (rt := .int) (Or.inl rfl) (by decide) rfl (Nat.le_of_ble_eq_true rfl) ?_
  intro p e s m args below meth c Q A ls hx hb hml hown hts hE hA hP hD hl hret
  have hS : va_S A s.heap s.heap [] := va_S.rf
  have hl : lv_has ls 6 [(0, .ref b0), (1, .int day), (2, .int good)] := hl
  have g_X0 : ∀ w ∈ wsX00, w ∈ wsX0_namesHeld := by decide +kernel
  have f_33 := hts (.fieldLink RX0 33 "CertHerd$CertificateTable" "count" "I") (by decide +kernel)
  have f_18 := hts (.fieldLink RX0 18 "CertHerd$CertificateTable" "firstDays" "[I") (by decide +kernel)
  have f_11 := hts (.fieldLink RX0 11 "CertHerd$CertificateTable" "issuerNumbers" "[I") (by decide +kernel)
  have f_15 := hts (.fieldLink RX0 15 "CertHerd$CertificateTable" "subjects" "[I") (by decide +kernel)
  refine lv_iconst (v := 0) hx hb dX0_namesHeld_0 (by decide) ?_
  refine lv_istore_n (lv' := [(3, .int 0), (0, .ref b0), (1, .int day), (2, .int good)]) hx hb dX0_namesHeld_1 rfl hl (by decide) rfl (fun ls hl => ?_)
  refine lv_iconst (v := 0) hx hb dX0_namesHeld_2 (by decide) ?_
  refine lv_istore (lv' := [(4, .int 0), (3, .int 0), (0, .ref b0), (1, .int day), (2, .int good)]) hx hb dX0_namesHeld_3 hl (by decide) rfl (fun ls hl => ?_)
  have L_5 : ∀ (f : Nat) (k : Nat) (g : Int32) (H : Heap) (locs : List Loc) (ls : Array Slot), ((kc - k) < f) → (k ≤ kc) → (g = nhN iss sb fst len day good k) → va_P D vwCl (wC cy b0 b1 b2 b3 b4 b5 b6 b7 iss sb fst len off ren que kc) H → va_D A (wC cy b0 b1 b2 b3 b4 b5 b6 b7 iss sb fst len off ren que kc) → va_S A s.heap H locs → lv_has ls 6 [(4, .int (nI k)), (3, .int g), (0, .ref b0), (1, .int day), (2, .int good)] → W p l e (krm 1 21) s m args below meth c H locs 0 0 Q (F0 m 5 ls []) := by
    intro f
    induction f with
    | zero => intro k g H locs ls hf; exact absurd hf (Nat.not_lt_zero _)
    | succ f ih_5 =>
      intro k g H locs ls hf hk eg hP hD hS hl
      refine lv_iload hx hb dX0_namesHeld_5 (lv_at hl 0 rfl) ?_
      refine lv_aload_n hx hb dX0_namesHeld_7 rfl (lv_at hl 2 rfl) ?_
      refine va_get (D := D) (ci := 0) (v := .int (nI kc)) (C := RX0) (T := TX0) (N := 8) hx hb hts g_X0 hown hE.1 hP 0 rfl rfl 7 (by decide) f_33 (fun _ h9 => h9) rfl dX0_namesHeld_8 ?_
      refine lv_icmp_ge (tgt := 80) hx hb dX0_namesHeld_11 (by decide) (fun c_11 => ?_) (fun c_11 => ?_)
      · have c_11n : kc ≤ k := k_leN (a := kc) (b := k) (by omega) (by omega) c_11
        refine lv_iload_n hx hb dX0_namesHeld_80 rfl (lv_at hl 1 rfl) ?_
        exact hret _ _ _ _ g () dX0_namesHeld_81 (Or.inl rfl) (by have e9 : k = kc := (by omega); subst e9; exact eg) hP hS
      · have c_11n : ¬ kc ≤ k := k_nleN (a := kc) (b := k) (by omega) (by omega) c_11
        have hk8 : k < 60 := by omega
        refine lv_aload_n hx hb dX0_namesHeld_14 rfl (lv_at hl 2 rfl) ?_
        refine va_get (D := D) (ci := 0) (v := .ref b3) (C := RX0) (T := TX0) (N := 8) hx hb hts g_X0 hown hE.1 hP 0 rfl rfl 2 (by decide) f_18 (fun _ h9 => h9) rfl dX0_namesHeld_15 ?_
        refine lv_iload hx hb dX0_namesHeld_18 (lv_at hl 0 rfl) ?_
        refine k_ild hx hb hE.1 hP 3 0 rfl rfl (j := k) (by omega) (by decide) dX0_namesHeld_20 ?_
        refine lv_iload_n hx hb dX0_namesHeld_21 rfl (lv_at hl 3 rfl) ?_
        refine lv_icmp_gt (tgt := 39) hx hb dX0_namesHeld_22 (by decide) (fun c_22 => ?_) (fun c_22 => ?_)
        · refine lv_iconst (v := 0) hx hb dX0_namesHeld_39 (by decide) ?_
          refine lv_istore (lv' := [(5, .int 0), (4, .int (nI k)), (3, .int g), (0, .ref b0), (1, .int day), (2, .int good)]) hx hb dX0_namesHeld_40 hl (by decide) rfl (fun ls hl => ?_)
          refine lv_iload hx hb dX0_namesHeld_42 (lv_at hl 0 rfl) ?_
          refine lv_if_eq (tgt := 74) hx hb dX0_namesHeld_44 (by decide) (fun _ => ?_) (fun c_44 => absurd c_44 (by decide))
          refine lv_iinc (v := (nI (k + 1))) (lv' := [(4, .int (nI (k + 1))), (5, .int 0), (3, .int g), (0, .ref b0), (1, .int day), (2, .int good)]) hx hb dX0_namesHeld_74 hl (k := 1) rfl (k_inc _) (by decide) rfl (fun ls hl => ?_)
          refine lv_goto (tgt := 5) hx hb dX0_namesHeld_77 (by decide) ?_
          exact ih_5 (k + 1) g _ _ ls (by omega) (by omega) (by subst eg; rw [nhN]; exact (if_neg (fun h => h.1 c_22)).symm) hP hD hS (lv_sub hl [0, 2, 3, 4, 5] rfl)
        · refine lv_iload_n hx hb dX0_namesHeld_25 rfl (lv_at hl 3 rfl) ?_
          refine lv_aload_n hx hb dX0_namesHeld_26 rfl (lv_at hl 2 rfl) ?_
          refine lv_iload hx hb dX0_namesHeld_27 (lv_at hl 0 rfl) ?_
          refine kcW_i (n := 1) (wc := wC cy b0 b1 b2 b3 b4 b5 b6 b7 iss sb fst len off ren que kc) (As := [.int (nI k)]) (rest := [.int day]) ⟨hx, hb, hml, hown, hts⟩ hE hA hP hD hS (c_X0_endOf l D cy b0 b1 b2 b3 b4 b5 b6 b7 iss sb fst len off ren que kc k (by first | assumption | omega)) (fun _ => rfl) (q0 := 0) (ci := 0) rfl rfl gX0_namesHeld_X0_endOf rfl rfl rfl ⟨rfl, by decide, by decide, by decide +kernel⟩ ⟨Nat.le_of_ble_eq_true rfl, Nat.le_of_ble_eq_true rfl⟩ rfl hl.1 rfl (Nat.le_of_ble_eq_true rfl) dX0_namesHeld_29 ⟨Nat.zero_le _, Nat.zero_le _⟩ (fun r_1 u H locs e_2 hP hD hS => ?_)
          have hP : va_P D vwCl (wC cy b0 b1 b2 b3 b4 b5 b6 b7 iss sb fst len off ren que kc) H := hP
          have hD : va_D A (wC cy b0 b1 b2 b3 b4 b5 b6 b7 iss sb fst len off ren que kc) := hD
          have e_2 : r_1 = ctEnd fst len k := e_2
          subst e_2
          refine lv_icmp_gt (tgt := 39) hx hb dX0_namesHeld_32 (by decide) (fun c_32 => ?_) (fun c_32 => ?_)
          · refine lv_iconst (v := 0) hx hb dX0_namesHeld_39 (by decide) ?_
            refine lv_istore (lv' := [(5, .int 0), (4, .int (nI k)), (3, .int g), (0, .ref b0), (1, .int day), (2, .int good)]) hx hb dX0_namesHeld_40 hl (by decide) rfl (fun ls hl => ?_)
            refine lv_iload hx hb dX0_namesHeld_42 (lv_at hl 0 rfl) ?_
            refine lv_if_eq (tgt := 74) hx hb dX0_namesHeld_44 (by decide) (fun _ => ?_) (fun c_44 => absurd c_44 (by decide))
            refine lv_iinc (v := (nI (k + 1))) (lv' := [(4, .int (nI (k + 1))), (5, .int 0), (3, .int g), (0, .ref b0), (1, .int day), (2, .int good)]) hx hb dX0_namesHeld_74 hl (k := 1) rfl (k_inc _) (by decide) rfl (fun ls hl => ?_)
            refine lv_goto (tgt := 5) hx hb dX0_namesHeld_77 (by decide) ?_
            exact ih_5 (k + 1) g _ _ ls (by omega) (by omega) (by subst eg; rw [nhN]; exact (if_neg (fun h => h.2.1 c_32)).symm) hP hD hS (lv_sub hl [0, 2, 3, 4, 5] rfl)
          · refine lv_iconst (v := 1) hx hb dX0_namesHeld_35 (by decide) ?_
            refine lv_goto (tgt := 40) hx hb dX0_namesHeld_36 (by decide) ?_
            refine lv_istore (lv' := [(5, .int 1), (4, .int (nI k)), (3, .int g), (0, .ref b0), (1, .int day), (2, .int good)]) hx hb dX0_namesHeld_40 hl (by decide) rfl (fun ls hl => ?_)
            refine lv_iload hx hb dX0_namesHeld_42 (lv_at hl 0 rfl) ?_
            refine lv_if_eq (tgt := 74) hx hb dX0_namesHeld_44 (by decide) (fun c_44 => absurd c_44 (by decide)) (fun _ => ?_)
            refine lv_iload_n hx hb dX0_namesHeld_47 rfl (lv_at hl 5 rfl) ?_
            refine lv_aload_n hx hb dX0_namesHeld_48 rfl (lv_at hl 3 rfl) ?_
            refine va_get (D := D) (ci := 0) (v := .ref b1) (C := RX0) (T := TX0) (N := 8) hx hb hts g_X0 hown hE.1 hP 0 rfl rfl 0 (by decide) f_11 (fun _ h9 => h9) rfl dX0_namesHeld_49 ?_
            refine lv_iload hx hb dX0_namesHeld_52 (lv_at hl 1 rfl) ?_
            refine k_ild hx hb hE.1 hP 1 0 rfl rfl (j := k) (by omega) (by decide) dX0_namesHeld_54 ?_
            refine kcN_i (n := 2) (X := []) (wc := []) (Y := wC cy b0 b1 b2 b3 b4 b5 b6 b7 iss sb fst len off ren que kc) (As := [.int good, .int (iss k)]) (rest := []) ⟨hx, hb, hml, hown, hts⟩ hE hA hP hD hS (c_X2_contains l D cy good (iss k)) (fun _ => rfl) hE.2.2.2.1 (hts (.static yX2_contains) (by decide +kernel)) (hts (.initialized RX2) (by decide +kernel)) gX0_namesHeld_X2_contains_n55 rfl rfl rfl ⟨by decide, by decide, by decide +kernel⟩ ⟨Nat.le_of_ble_eq_true rfl, Nat.le_of_ble_eq_true rfl⟩ rfl hl.1 rfl (Nat.le_of_ble_eq_true rfl) dX0_namesHeld_55 ⟨Nat.zero_le _, Nat.zero_le _⟩ (fun r_3 u H locs e_4 hP hD hS => ?_)
            have hP : va_P D vwCl (wC cy b0 b1 b2 b3 b4 b5 b6 b7 iss sb fst len off ren que kc) H := hP
            have hD : va_D A (wC cy b0 b1 b2 b3 b4 b5 b6 b7 iss sb fst len off ren que kc) := hD
            have e_4 : r_3 = bI (hasB good (iss k)) := e_4
            subst e_4
            refine k_ifeq (tgt := 74) hx hb dX0_namesHeld_58 (by decide) (fun c_58 => ?_) (fun c_58 => ?_)
            · refine lv_iinc (v := (nI (k + 1))) (lv' := [(4, .int (nI (k + 1))), (5, .int 1), (3, .int g), (0, .ref b0), (1, .int day), (2, .int good)]) hx hb dX0_namesHeld_74 hl (k := 1) rfl (k_inc _) (by decide) rfl (fun ls hl => ?_)
              refine lv_goto (tgt := 5) hx hb dX0_namesHeld_77 (by decide) ?_
              exact ih_5 (k + 1) g _ _ ls (by omega) (by omega) (by subst eg; rw [nhN]; exact (if_neg (fun h => c_58 h.2.2)).symm) hP hD hS (lv_sub hl [0, 2, 3, 4, 5] rfl)
            · refine lv_iload_n hx hb dX0_namesHeld_61 rfl (lv_at hl 2 rfl) ?_
              refine lv_aload_n hx hb dX0_namesHeld_62 rfl (lv_at hl 3 rfl) ?_
              refine va_get (D := D) (ci := 0) (v := .ref b2) (C := RX0) (T := TX0) (N := 8) hx hb hts g_X0 hown hE.1 hP 0 rfl rfl 1 (by decide) f_15 (fun _ h9 => h9) rfl dX0_namesHeld_63 ?_
              refine lv_iload hx hb dX0_namesHeld_66 (lv_at hl 1 rfl) ?_
              refine k_ild hx hb hE.1 hP 2 0 rfl rfl (j := k) (by omega) (by decide) dX0_namesHeld_68 ?_
              refine kcN_i (n := 1) (X := []) (wc := []) (Y := wC cy b0 b1 b2 b3 b4 b5 b6 b7 iss sb fst len off ren que kc) (As := [.int (sb k)]) (rest := [.int g]) ⟨hx, hb, hml, hown, hts⟩ hE hA hP hD hS (c_X2_namesOf l D cy (sb k)) (fun _ => rfl) hE.2.2.2.2.1 (hts (.static yX2_namesOf) (by decide +kernel)) (hts (.initialized RX2) (by decide +kernel)) gX0_namesHeld_X2_namesOf_n58 rfl rfl rfl ⟨by decide, by decide, by decide +kernel⟩ ⟨Nat.le_of_ble_eq_true rfl, Nat.le_of_ble_eq_true rfl⟩ rfl hl.1 rfl (Nat.le_of_ble_eq_true rfl) dX0_namesHeld_69 ⟨Nat.zero_le _, Nat.zero_le _⟩ (fun r_5 u H locs e_6 hP hD hS => ?_)
              have hP : va_P D vwCl (wC cy b0 b1 b2 b3 b4 b5 b6 b7 iss sb fst len off ren que kc) H := hP
              have hD : va_D A (wC cy b0 b1 b2 b3 b4 b5 b6 b7 iss sb fst len off ren que kc) := hD
              have e_6 : r_5 = nmOf (sb k) := e_6
              subst e_6
              refine lv_ior hx hb dX0_namesHeld_72 ?_
              refine lv_istore_n (lv' := [(3, .int (g ||| (nmOf (sb k)))), (5, .int 1), (4, .int (nI k)), (0, .ref b0), (1, .int day), (2, .int good)]) hx hb dX0_namesHeld_73 rfl hl (by decide) rfl (fun ls hl => ?_)
              refine lv_iinc (v := (nI (k + 1))) (lv' := [(4, .int (nI (k + 1))), (3, .int (g ||| (nmOf (sb k)))), (5, .int 1), (0, .ref b0), (1, .int day), (2, .int good)]) hx hb dX0_namesHeld_74 hl (k := 2) rfl (k_inc _) (by decide) rfl (fun ls hl => ?_)
              refine lv_goto (tgt := 5) hx hb dX0_namesHeld_77 (by decide) ?_
              exact ih_5 (k + 1) (g ||| (nmOf (sb k))) _ _ ls (by omega) (by omega) (by subst eg; rw [nhN]; exact (if_pos ⟨c_22, c_32, c_58⟩).symm) hP hD hS (lv_sub hl [0, 1, 3, 4, 5] rfl)
  exact L_5 ((kc - 0) + 1) 0 0 _ _ ls (Nat.lt_succ_self _) (by omega) rfl hP hD hS (lv_sub hl [0, 1, 2, 3, 4] rfl)
