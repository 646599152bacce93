set_option maxHeartbeats 4000000 in
set_option maxRecDepth 100000 in
theorem c_X2_contains (l : Launch) (D : va_G) (cy : ClassId × ClassId × ClassId) (set_ : Int32) (el : Int32) : kI l D cy yX2_contains wsX2_contains (krm 0 0) [.int set_, .int el] (([] : va_W)) (fun (r : Int32) (u : Unit) => r = bI (hasB set_ el)) (fun _ : Unit => ([] : va_W)) := by
  refine kI.of (cc := cX2_contains) (maxL := 2) (rt := .boolean) (Or.inr rfl) (by decide) rfl (Nat.le_of_ble_eq_true rfl) ?_
  intro p e s m args below meth c Q A ls hx hb hml hown hts hE hA hP hD hl hret
  have hS : va_S A s.heap s.heap [] := va_S.rf
  have hl : lv_has ls 2 [(0, .int set_), (1, .int el)] := hl
  refine lv_iload_n hx hb dX2_contains_0 rfl (lv_at hl 0 rfl) ?_
  refine lv_iload_n hx hb dX2_contains_1 rfl (lv_at hl 1 rfl) ?_
  refine lv_ishr hx hb dX2_contains_2 ?_
  refine lv_iconst (v := 1) hx hb dX2_contains_3 (by decide) ?_
  refine lv_iand hx hb dX2_contains_4 ?_
  refine lv_if_eq (tgt := 12) hx hb dX2_contains_5 (by decide) (fun c_5 => ?_) (fun c_5 => ?_)
  · refine lv_iconst (v := 0) hx hb dX2_contains_12 (by decide) ?_
    exact hret _ _ _ _ 0 () dX2_contains_13 (Or.inr (Or.inl rfl)) (bI_f (by simp [c_5, hasB])).symm hP hS
  · refine lv_iconst (v := 1) hx hb dX2_contains_8 (by decide) ?_
    refine lv_goto (tgt := 13) hx hb dX2_contains_9 (by decide) ?_
    exact hret _ _ _ _ 1 () dX2_contains_13 (Or.inr (Or.inr rfl)) (bI_t (by simp [c_5, hasB])).symm hP hS

set_option maxHeartbeats 4000000 in
set_option maxRecDepth 100000 in
theorem c_X2_weekOf (l : Launch) (D : va_G) (cy : ClassId × ClassId × ClassId) (d : Int32) : kI l D cy yX2_weekOf wsX2_weekOf (krm 0 0) [.int d] (([] : va_W)) (fun (r : Int32) (u : Unit) => r = d / 7) (fun _ : Unit => ([] : va_W)) := by
  refine kI.of (cc := cX2_weekOf) (maxL := 1) (rt := .int) (Or.inl rfl) (by decide) rfl (Nat.le_of_ble_eq_true rfl) ?_
  intro p e s m args below meth c Q A ls hx hb hml hown hts hE hA hP hD hl hret
  have hS : va_S A s.heap s.heap [] := va_S.rf
  have hl : lv_has ls 1 [(0, .int d)] := hl
  refine lv_iload_n hx hb dX2_weekOf_0 rfl (lv_at hl 0 rfl) ?_
  refine lv_bipush (v := 7) hx hb dX2_weekOf_1 (by decide) ?_
  refine lv_idiv hx hb dX2_weekOf_3 (by decide) ?_
  exact hret _ _ _ _ (d / 7) () dX2_weekOf_4 (Or.inl rfl) rfl hP hS

set_option maxHeartbeats 4000000 in
set_option maxRecDepth 100000 in
theorem c_X2_namesOf (l : Launch) (D : va_G) (cy : ClassId × ClassId × ClassId) (su_ : Int32) : kI l D cy yX2_namesOf wsX2_namesOf (krm 0 0) [.int su_] (([] : va_W)) (fun (r : Int32) (u : Unit) => r = nmOf su_) (fun _ : Unit => ([] : va_W)) := by
  refine kI.of (cc := cX2_namesOf) (maxL := 1) (rt := .int) (Or.inl rfl) (by decide) rfl (Nat.le_of_ble_eq_true rfl) ?_
  intro p e s m args below meth c Q A ls hx hb hml hown hts hE hA hP hD hl hret
  have hS : va_S A s.heap s.heap [] := va_S.rf
  have hl : lv_has ls 1 [(0, .int su_)] := hl
  refine lv_iload_n hx hb dX2_namesOf_0 rfl (lv_at hl 0 rfl) ?_
  refine lv_bipush (v := 16) hx hb dX2_namesOf_1 (by decide) ?_
  refine lv_icmp_ge (tgt := 10) hx hb dX2_namesOf_3 (by decide) (fun c_3 => ?_) (fun c_3 => ?_)
  · refine lv_bipush (v := 15) hx hb dX2_namesOf_10 (by decide) ?_
    refine lv_iload_n hx hb dX2_namesOf_12 rfl (lv_at hl 0 rfl) ?_
    refine lv_bipush (v := 16) hx hb dX2_namesOf_13 (by decide) ?_
    refine lv_isub hx hb dX2_namesOf_15 ?_
    refine lv_iconst (v := 4) hx hb dX2_namesOf_16 (by decide) ?_
    refine lv_imul hx hb dX2_namesOf_17 ?_
    refine lv_ishl hx hb dX2_namesOf_18 ?_
    exact hret _ _ _ _ (15 <<< (((su_ - 16) * 4) &&& 31)) () dX2_namesOf_19 (Or.inl rfl) (by rw [nmOf, if_pos c_3]) hP hS
  · refine lv_iconst (v := 1) hx hb dX2_namesOf_6 (by decide) ?_
    refine lv_iload_n hx hb dX2_namesOf_7 rfl (lv_at hl 0 rfl) ?_
    refine lv_ishl hx hb dX2_namesOf_8 ?_
    exact hret _ _ _ _ (1 <<< (su_ &&& 31)) () dX2_namesOf_9 (Or.inl rfl) (by rw [nmOf, if_neg c_3]) hP hS

set_option maxHeartbeats 4000000 in
set_option maxRecDepth 100000 in
theorem c_X1_isFull (l : Launch) (D : va_G) (cy : ClassId × ClassId × ClassId) (a0 a1 a2 a3 a4 a5 a6 a7 a8 : Nat) (fs ss fd ed lm dd ce cw : Nat → Int32) (n : Nat) (hn : n ≤ 8) : kI l D cy yX1_isFull wsX1_isFull (krm 0 0) [.ref a0] (wT cy a0 a1 a2 a3 a4 a5 a6 a7 a8 fs ss fd ed lm dd ce cw n) (fun (r : Int32) (u : Unit) => r = bI (8 ≤ n)) (fun _ : Unit => wT cy a0 a1 a2 a3 a4 a5 a6 a7 a8 fs ss fd ed lm dd ce cw n) := by
  refine kI.of (cc := cX1_isFull) (maxL := 1) (rt := .boolean) (Or.inr rfl) (by decide) rfl (Nat.le_of_ble_eq_true rfl) ?_
  intro p e s m args below meth c Q A ls hx hb hml hown hts hE hA hP hD hl hret
  have hS : va_S A s.heap s.heap [] := va_S.rf
  have hl : lv_has ls 1 [(0, .ref a0)] := hl
  have g_X1 : ∀ w ∈ wsX10, w ∈ wsX1_isFull := by decide +kernel
  have f_36 := hts (.fieldLink RX1 36 "CertHerd$IssuerTable" "count" "I") (by decide +kernel)
  refine lv_aload_n hx hb dX1_isFull_0 rfl (lv_at hl 0 rfl) ?_
  refine va_get (D := D) (ci := 1) (v := .int (nI n)) (C := RX1) (T := TX1) (N := 9) hx hb hts g_X1 hown hE.1 hP 0 rfl rfl 8 (by decide) f_36 (fun _ h9 => h9) rfl dX1_isFull_1 ?_
  refine lv_bipush (v := 8) hx hb dX1_isFull_4 (by decide) ?_
  refine lv_icmp_lt (tgt := 13) hx hb dX1_isFull_6 (by decide) (fun c_6 => ?_) (fun c_6 => ?_)
  · have c_6n : n < 8 := k_ltN (a := n) (b := 8) (by omega) (by omega) c_6
    refine lv_iconst (v := 0) hx hb dX1_isFull_13 (by decide) ?_
    exact hret _ _ _ _ 0 () dX1_isFull_14 (Or.inr (Or.inl rfl)) (bI_f (by omega)).symm hP hS
  · have c_6n : ¬ n < 8 := k_nltN (a := n) (b := 8) (by omega) (by omega) c_6
    refine lv_iconst (v := 1) hx hb dX1_isFull_9 (by decide) ?_
    refine lv_goto (tgt := 14) hx hb dX1_isFull_10 (by decide) ?_
    exact hret _ _ _ _ 1 () dX1_isFull_14 (Or.inr (Or.inr rfl)) (bI_t (by omega)).symm hP hS

set_option maxHeartbeats 4000000 in
set_option maxRecDepth 100000 in
theorem c_X1_isRoot (l : Launch) (D : va_G) (cy : ClassId × ClassId × ClassId) (a0 a1 a2 a3 a4 a5 a6 a7 a8 : Nat) (fs ss fd ed lm dd ce cw : Nat → Int32) (n : Nat) (j : Nat) (hj : j < 8) : kI l D cy yX1_isRoot wsX1_isRoot (krm 0 0) [.ref a0, .int (nI j)] (wT cy a0 a1 a2 a3 a4 a5 a6 a7 a8 fs ss fd ed lm dd ce cw n) (fun (r : Int32) (u : Unit) => r = bI (fs j = -1)) (fun _ : Unit => wT cy a0 a1 a2 a3 a4 a5 a6 a7 a8 fs ss fd ed lm dd ce cw n) := by
  refine kI.of (cc := cX1_isRoot) (maxL := 2) (rt := .boolean) (Or.inr rfl) (by decide) rfl (Nat.le_of_ble_eq_true rfl) ?_
  intro p e s m args below meth c Q A ls hx hb hml hown hts hE hA hP hD hl hret
  have hS : va_S A s.heap s.heap [] := va_S.rf
  have hl : lv_has ls 2 [(0, .ref a0), (1, .int (nI j))] := hl
  have g_X1 : ∀ w ∈ wsX10, w ∈ wsX1_isRoot := by decide +kernel
  have f_11 := hts (.fieldLink RX1 11 "CertHerd$IssuerTable" "firstSigners" "[I") (by decide +kernel)
  refine lv_aload_n hx hb dX1_isRoot_0 rfl (lv_at hl 0 rfl) ?_
  refine va_get (D := D) (ci := 1) (v := .ref a1) (C := RX1) (T := TX1) (N := 9) hx hb hts g_X1 hown hE.1 hP 0 rfl rfl 0 (by decide) f_11 (fun _ h9 => h9) rfl dX1_isRoot_1 ?_
  refine lv_iload_n hx hb dX1_isRoot_4 rfl (lv_at hl 1 rfl) ?_
  refine k_ild hx hb hE.1 hP 1 0 rfl rfl (j := j) (by omega) (by decide) dX1_isRoot_5 ?_
  refine lv_iconst (v := (-1)) hx hb dX1_isRoot_6 (by decide) ?_
  refine lv_icmp_ne (tgt := 14) hx hb dX1_isRoot_7 (by decide) (fun c_7 => ?_) (fun c_7 => ?_)
  · refine lv_iconst (v := 0) hx hb dX1_isRoot_14 (by decide) ?_
    exact hret _ _ _ _ 0 () dX1_isRoot_15 (Or.inr (Or.inl rfl)) (bI_f (by simp [c_7])).symm hP hS
  · refine lv_iconst (v := 1) hx hb dX1_isRoot_10 (by decide) ?_
    refine lv_goto (tgt := 15) hx hb dX1_isRoot_11 (by decide) ?_
    exact hret _ _ _ _ 1 () dX1_isRoot_15 (Or.inr (Or.inr rfl)) (bI_t (by simp [c_7])).symm hP hS

set_option maxHeartbeats 4000000 in
set_option maxRecDepth 100000 in
theorem c_X1_standsOn (l : Launch) (D : va_G) (cy : ClassId × ClassId × ClassId) (a0 a1 a2 a3 a4 a5 a6 a7 a8 : Nat) (fs ss fd ed lm dd ce cw : Nat → Int32) (n : Nat) (j : Nat) (day : Int32) (hj : j < 8) : kI l D cy yX1_standsOn wsX1_standsOn (krm 0 0) [.ref a0, .int (nI j), .int day] (wT cy a0 a1 a2 a3 a4 a5 a6 a7 a8 fs ss fd ed lm dd ce cw n) (fun (r : Int32) (u : Unit) => r = bI (standsP fd ed dd j day)) (fun _ : Unit => wT cy a0 a1 a2 a3 a4 a5 a6 a7 a8 fs ss fd ed lm dd ce cw n) := by
  refine kI.of (cc := cX1_standsOn) (maxL := 4) (rt := .boolean) (Or.inr rfl) (by decide) rfl (Nat.le_of_ble_eq_true rfl) ?_
  intro p e s m args below meth c Q A ls hx hb hml hown hts hE hA hP hD hl hret
  have hS : va_S A s.heap s.heap [] := va_S.rf
  have hl : lv_has ls 4 [(0, .ref a0), (1, .int (nI j)), (2, .int day)] := hl
  have g_X1 : ∀ w ∈ wsX10, w ∈ wsX1_standsOn := by decide +kernel
  have f_27 := hts (.fieldLink RX1 27 "CertHerd$IssuerTable" "distrustDays" "[I") (by decide +kernel)
  have f_18 := hts (.fieldLink RX1 18 "CertHerd$IssuerTable" "firstDays" "[I") (by decide +kernel)
  have f_21 := hts (.fieldLink RX1 21 "CertHerd$IssuerTable" "endDays" "[I") (by decide +kernel)
  refine lv_aload_n hx hb dX1_standsOn_0 rfl (lv_at hl 0 rfl) ?_
  refine va_get (D := D) (ci := 1) (v := .ref a6) (C := RX1) (T := TX1) (N := 9) hx hb hts g_X1 hown hE.1 hP 0 rfl rfl 5 (by decide) f_27 (fun _ h9 => h9) rfl dX1_standsOn_1 ?_
  refine lv_iload_n hx hb dX1_standsOn_4 rfl (lv_at hl 1 rfl) ?_
  refine k_ild hx hb hE.1 hP 6 0 rfl rfl (j := j) (by omega) (by decide) dX1_standsOn_5 ?_
  refine lv_iconst (v := (-1)) hx hb dX1_standsOn_6 (by decide) ?_
  refine lv_icmp_eq (tgt := 20) hx hb dX1_standsOn_7 (by decide) (fun c_7 => ?_) (fun c_7 => ?_)
  · refine lv_iconst (v := 1) hx hb dX1_standsOn_20 (by decide) ?_
    refine lv_goto (tgt := 25) hx hb dX1_standsOn_21 (by decide) ?_
    refine lv_istore_n (lv' := [(3, .int 1), (0, .ref a0), (1, .int (nI j)), (2, .int day)]) hx hb dX1_standsOn_25 rfl hl (by decide) rfl (fun ls hl => ?_)
    refine lv_iload_n hx hb dX1_standsOn_26 rfl (lv_at hl 0 rfl) ?_
    refine lv_if_eq (tgt := 54) hx hb dX1_standsOn_27 (by decide) (fun c_27 => absurd c_27 (by decide)) (fun _ => ?_)
    refine lv_aload_n hx hb dX1_standsOn_30 rfl (lv_at hl 1 rfl) ?_
    refine va_get (D := D) (ci := 1) (v := .ref a3) (C := RX1) (T := TX1) (N := 9) hx hb hts g_X1 hown hE.1 hP 0 rfl rfl 2 (by decide) f_18 (fun _ h9 => h9) rfl dX1_standsOn_31 ?_
    refine lv_iload_n hx hb dX1_standsOn_34 rfl (lv_at hl 2 rfl) ?_
    refine k_ild hx hb hE.1 hP 3 0 rfl rfl (j := j) (by omega) (by decide) dX1_standsOn_35 ?_
    refine lv_iload_n hx hb dX1_standsOn_36 rfl (lv_at hl 3 rfl) ?_
    refine lv_icmp_gt (tgt := 54) hx hb dX1_standsOn_37 (by decide) (fun c_37 => ?_) (fun c_37 => ?_)
    · refine lv_iconst (v := 0) hx hb dX1_standsOn_54 (by decide) ?_
      exact hret _ _ _ _ 0 () dX1_standsOn_55 (Or.inr (Or.inl rfl)) (bI_f (by simp [c_7, c_37, standsP])).symm hP hS
    · refine lv_iload_n hx hb dX1_standsOn_40 rfl (lv_at hl 3 rfl) ?_
      refine lv_aload_n hx hb dX1_standsOn_41 rfl (lv_at hl 1 rfl) ?_
      refine va_get (D := D) (ci := 1) (v := .ref a4) (C := RX1) (T := TX1) (N := 9) hx hb hts g_X1 hown hE.1 hP 0 rfl rfl 3 (by decide) f_21 (fun _ h9 => h9) rfl dX1_standsOn_42 ?_
      refine lv_iload_n hx hb dX1_standsOn_45 rfl (lv_at hl 2 rfl) ?_
      refine k_ild hx hb hE.1 hP 4 0 rfl rfl (j := j) (by omega) (by decide) dX1_standsOn_46 ?_
      refine lv_icmp_gt (tgt := 54) hx hb dX1_standsOn_47 (by decide) (fun c_47 => ?_) (fun c_47 => ?_)
      · refine lv_iconst (v := 0) hx hb dX1_standsOn_54 (by decide) ?_
        exact hret _ _ _ _ 0 () dX1_standsOn_55 (Or.inr (Or.inl rfl)) (bI_f (by simp [c_7, c_37, c_47, standsP])).symm hP hS
      · refine lv_iconst (v := 1) hx hb dX1_standsOn_50 (by decide) ?_
        refine lv_goto (tgt := 55) hx hb dX1_standsOn_51 (by decide) ?_
        exact hret _ _ _ _ 1 () dX1_standsOn_55 (Or.inr (Or.inr rfl)) (bI_t (by simp [c_7, c_37, c_47, standsP])).symm hP hS
  · refine lv_iload_n hx hb dX1_standsOn_10 rfl (lv_at hl 2 rfl) ?_
    refine lv_aload_n hx hb dX1_standsOn_11 rfl (lv_at hl 0 rfl) ?_
    refine va_get (D := D) (ci := 1) (v := .ref a6) (C := RX1) (T := TX1) (N := 9) hx hb hts g_X1 hown hE.1 hP 0 rfl rfl 5 (by decide) f_27 (fun _ h9 => h9) rfl dX1_standsOn_12 ?_
    refine lv_iload_n hx hb dX1_standsOn_15 rfl (lv_at hl 1 rfl) ?_
    refine k_ild hx hb hE.1 hP 6 0 rfl rfl (j := j) (by omega) (by decide) dX1_standsOn_16 ?_
    refine lv_icmp_ge (tgt := 24) hx hb dX1_standsOn_17 (by decide) (fun c_17 => ?_) (fun c_17 => ?_)
    · refine lv_iconst (v := 0) hx hb dX1_standsOn_24 (by decide) ?_
      refine lv_istore_n (lv' := [(3, .int 0), (0, .ref a0), (1, .int (nI j)), (2, .int day)]) hx hb dX1_standsOn_25 rfl hl (by decide) rfl (fun ls hl => ?_)
      refine lv_iload_n hx hb dX1_standsOn_26 rfl (lv_at hl 0 rfl) ?_
      refine lv_if_eq (tgt := 54) hx hb dX1_standsOn_27 (by decide) (fun _ => ?_) (fun c_27 => absurd c_27 (by decide))
      refine lv_iconst (v := 0) hx hb dX1_standsOn_54 (by decide) ?_
      exact hret _ _ _ _ 0 () dX1_standsOn_55 (Or.inr (Or.inl rfl)) (bI_f (by simp [c_7, c_17, standsP])).symm hP hS
    · refine lv_iconst (v := 1) hx hb dX1_standsOn_20 (by decide) ?_
      refine lv_goto (tgt := 25) hx hb dX1_standsOn_21 (by decide) ?_
      refine lv_istore_n (lv' := [(3, .int 1), (0, .ref a0), (1, .int (nI j)), (2, .int day)]) hx hb dX1_standsOn_25 rfl hl (by decide) rfl (fun ls hl => ?_)
      refine lv_iload_n hx hb dX1_standsOn_26 rfl (lv_at hl 0 rfl) ?_
      refine lv_if_eq (tgt := 54) hx hb dX1_standsOn_27 (by decide) (fun c_27 => absurd c_27 (by decide)) (fun _ => ?_)
      refine lv_aload_n hx hb dX1_standsOn_30 rfl (lv_at hl 1 rfl) ?_
      refine va_get (D := D) (ci := 1) (v := .ref a3) (C := RX1) (T := TX1) (N := 9) hx hb hts g_X1 hown hE.1 hP 0 rfl rfl 2 (by decide) f_18 (fun _ h9 => h9) rfl dX1_standsOn_31 ?_
      refine lv_iload_n hx hb dX1_standsOn_34 rfl (lv_at hl 2 rfl) ?_
      refine k_ild hx hb hE.1 hP 3 0 rfl rfl (j := j) (by omega) (by decide) dX1_standsOn_35 ?_
      refine lv_iload_n hx hb dX1_standsOn_36 rfl (lv_at hl 3 rfl) ?_
      refine lv_icmp_gt (tgt := 54) hx hb dX1_standsOn_37 (by decide) (fun c_37 => ?_) (fun c_37 => ?_)
      · refine lv_iconst (v := 0) hx hb dX1_standsOn_54 (by decide) ?_
        exact hret _ _ _ _ 0 () dX1_standsOn_55 (Or.inr (Or.inl rfl)) (bI_f (by simp [c_7, c_17, c_37, standsP])).symm hP hS
      · refine lv_iload_n hx hb dX1_standsOn_40 rfl (lv_at hl 3 rfl) ?_
        refine lv_aload_n hx hb dX1_standsOn_41 rfl (lv_at hl 1 rfl) ?_
        refine va_get (D := D) (ci := 1) (v := .ref a4) (C := RX1) (T := TX1) (N := 9) hx hb hts g_X1 hown hE.1 hP 0 rfl rfl 3 (by decide) f_21 (fun _ h9 => h9) rfl dX1_standsOn_42 ?_
        refine lv_iload_n hx hb dX1_standsOn_45 rfl (lv_at hl 2 rfl) ?_
        refine k_ild hx hb hE.1 hP 4 0 rfl rfl (j := j) (by omega) (by decide) dX1_standsOn_46 ?_
        refine lv_icmp_gt (tgt := 54) hx hb dX1_standsOn_47 (by decide) (fun c_47 => ?_) (fun c_47 => ?_)
        · refine lv_iconst (v := 0) hx hb dX1_standsOn_54 (by decide) ?_
          exact hret _ _ _ _ 0 () dX1_standsOn_55 (Or.inr (Or.inl rfl)) (bI_f (by simp [c_7, c_17, c_37, c_47, standsP])).symm hP hS
        · refine lv_iconst (v := 1) hx hb dX1_standsOn_50 (by decide) ?_
          refine lv_goto (tgt := 55) hx hb dX1_standsOn_51 (by decide) ?_
          exact hret _ _ _ _ 1 () dX1_standsOn_55 (Or.inr (Or.inr rfl)) (bI_t (by simp [c_7, c_17, c_37, c_47, standsP])).symm hP hS

set_option maxHeartbeats 4000000 in
set_option maxRecDepth 100000 in
theorem c_X1_isHeldBy (l : Launch) (D : va_G) (cy : ClassId × ClassId × ClassId) (a0 a1 a2 a3 a4 a5 a6 a7 a8 : Nat) (fs ss fd ed lm dd ce cw : Nat → Int32) (n : Nat) (j : Nat) (good : Int32) (hj : j < 8) : kI l D cy yX1_isHeldBy wsX1_isHeldBy (krm 1 21) [.ref a0, .int (nI j), .int good] (wT cy a0 a1 a2 a3 a4 a5 a6 a7 a8 fs ss fd ed lm dd ce cw n) (fun (r : Int32) (u : Unit) => r = bI (heldP fs ss j good)) (fun _ : Unit => wT cy a0 a1 a2 a3 a4 a5 a6 a7 a8 fs ss fd ed lm dd ce cw n) := by
  refine kI.of (cc := cX1_isHeldBy) (maxL := 3) (rt := .boolean) (Or.inr rfl) (by decide) rfl (Nat.le_of_ble_eq_true rfl) ?_
  intro p e s m args below meth c Q A ls hx hb hml hown hts hE hA hP hD hl hret
  have hS : va_S A s.heap s.heap [] := va_S.rf
  have hl : lv_has ls 3 [(0, .ref a0), (1, .int (nI j)), (2, .int good)] := hl
  have g_X1 : ∀ w ∈ wsX10, w ∈ wsX1_isHeldBy := by decide +kernel
  have f_11 := hts (.fieldLink RX1 11 "CertHerd$IssuerTable" "firstSigners" "[I") (by decide +kernel)
  have f_15 := hts (.fieldLink RX1 15 "CertHerd$IssuerTable" "secondSigners" "[I") (by decide +kernel)
  refine lv_aload_n hx hb dX1_isHeldBy_0 rfl (lv_at hl 0 rfl) ?_
  refine lv_iload_n hx hb dX1_isHeldBy_1 rfl (lv_at hl 1 rfl) ?_
  refine kcW_i (n := 1) (wc := wT cy a0 a1 a2 a3 a4 a5 a6 a7 a8 fs ss fd ed lm dd ce cw n) (As := [.int (nI j)]) (rest := []) ⟨hx, hb, hml, hown, hts⟩ hE hA hP hD hS (c_X1_isRoot l D cy a0 a1 a2 a3 a4 a5 a6 a7 a8 fs ss fd ed lm dd ce cw n j (by first | assumption | omega)) (fun _ => rfl) (q0 := 0) (ci := 1) rfl rfl gX1_isHeldBy_X1_isRoot rfl rfl rfl ⟨rfl, by decide, by decide, by decide +kernel⟩ ⟨Nat.le_of_ble_eq_true rfl, Nat.le_of_ble_eq_true rfl⟩ rfl hl.1 rfl (Nat.le_of_ble_eq_true rfl) dX1_isHeldBy_2 ⟨Nat.zero_le _, Nat.zero_le _⟩ (fun r_1 u H locs e_2 hP hD hS => ?_)
  have hP : va_P D vwCl (wT cy a0 a1 a2 a3 a4 a5 a6 a7 a8 fs ss fd ed lm dd ce cw n) H := hP
  have hD : va_D A (wT cy a0 a1 a2 a3 a4 a5 a6 a7 a8 fs ss fd ed lm dd ce cw n) := hD
  have e_2 : r_1 = bI (fs j = -1) := e_2
  subst e_2
  refine k_ifne (tgt := 44) hx hb dX1_isHeldBy_5 (by decide) (fun c_5 => ?_) (fun c_5 => ?_)
  · refine lv_iconst (v := 1) hx hb dX1_isHeldBy_44 (by decide) ?_
    refine lv_goto (tgt := 49) hx hb dX1_isHeldBy_45 (by decide) ?_
    exact hret _ _ _ _ 1 () dX1_isHeldBy_49 (Or.inr (Or.inr rfl)) (bI_t (by simp [c_5, heldP, hasB])).symm hP hS
  · refine lv_iload_n hx hb dX1_isHeldBy_8 rfl (lv_at hl 2 rfl) ?_
    refine lv_aload_n hx hb dX1_isHeldBy_9 rfl (lv_at hl 0 rfl) ?_
    refine va_get (D := D) (ci := 1) (v := .ref a1) (C := RX1) (T := TX1) (N := 9) hx hb hts g_X1 hown hE.1 hP 0 rfl rfl 0 (by decide) f_11 (fun _ h9 => h9) rfl dX1_isHeldBy_10 ?_
    refine lv_iload_n hx hb dX1_isHeldBy_13 rfl (lv_at hl 1 rfl) ?_
    refine k_ild hx hb hE.1 hP 1 0 rfl rfl (j := j) (by omega) (by decide) dX1_isHeldBy_14 ?_
    refine kcN_i (n := 2) (X := []) (wc := []) (Y := wT cy a0 a1 a2 a3 a4 a5 a6 a7 a8 fs ss fd ed lm dd ce cw n) (As := [.int good, .int (fs j)]) (rest := []) ⟨hx, hb, hml, hown, hts⟩ hE hA hP hD hS (c_X2_contains l D cy good (fs j)) (fun _ => rfl) hE.2.2.1 (hts (.static yX2_contains) (by decide +kernel)) (hts (.initialized RX2) (by decide +kernel)) gX1_isHeldBy_X2_contains_n64 rfl rfl rfl ⟨by decide, by decide, by decide +kernel⟩ ⟨Nat.le_of_ble_eq_true rfl, Nat.le_of_ble_eq_true rfl⟩ rfl hl.1 rfl (Nat.le_of_ble_eq_true rfl) dX1_isHeldBy_15 ⟨Nat.zero_le _, Nat.zero_le _⟩ (fun r_3 u H locs e_4 hP hD hS => ?_)
    have hP : va_P D vwCl (wT cy a0 a1 a2 a3 a4 a5 a6 a7 a8 fs ss fd ed lm dd ce cw n) H := hP
    have hD : va_D A (wT cy a0 a1 a2 a3 a4 a5 a6 a7 a8 fs ss fd ed lm dd ce cw n) := hD
    have e_4 : r_3 = bI (hasB good (fs j)) := e_4
    subst e_4
    refine k_ifne (tgt := 44) hx hb dX1_isHeldBy_18 (by decide) (fun c_18 => ?_) (fun c_18 => ?_)
    · refine lv_iconst (v := 1) hx hb dX1_isHeldBy_44 (by decide) ?_
      refine lv_goto (tgt := 49) hx hb dX1_isHeldBy_45 (by decide) ?_
      exact hret _ _ _ _ 1 () dX1_isHeldBy_49 (Or.inr (Or.inr rfl)) (bI_t (by simp [c_5, c_18, heldP, hasB])).symm hP hS
    · refine lv_aload_n hx hb dX1_isHeldBy_21 rfl (lv_at hl 0 rfl) ?_
      refine va_get (D := D) (ci := 1) (v := .ref a2) (C := RX1) (T := TX1) (N := 9) hx hb hts g_X1 hown hE.1 hP 0 rfl rfl 1 (by decide) f_15 (fun _ h9 => h9) rfl dX1_isHeldBy_22 ?_
      refine lv_iload_n hx hb dX1_isHeldBy_25 rfl (lv_at hl 1 rfl) ?_
      refine k_ild hx hb hE.1 hP 2 0 rfl rfl (j := j) (by omega) (by decide) dX1_isHeldBy_26 ?_
      refine lv_iconst (v := (-1)) hx hb dX1_isHeldBy_27 (by decide) ?_
      refine lv_icmp_eq (tgt := 48) hx hb dX1_isHeldBy_28 (by decide) (fun c_28 => ?_) (fun c_28 => ?_)
      · refine lv_iconst (v := 0) hx hb dX1_isHeldBy_48 (by decide) ?_
        exact hret _ _ _ _ 0 () dX1_isHeldBy_49 (Or.inr (Or.inl rfl)) (bI_f (by simp [c_5, c_18, c_28, heldP, hasB])).symm hP hS
      · refine lv_iload_n hx hb dX1_isHeldBy_31 rfl (lv_at hl 2 rfl) ?_
        refine lv_aload_n hx hb dX1_isHeldBy_32 rfl (lv_at hl 0 rfl) ?_
        refine va_get (D := D) (ci := 1) (v := .ref a2) (C := RX1) (T := TX1) (N := 9) hx hb hts g_X1 hown hE.1 hP 0 rfl rfl 1 (by decide) f_15 (fun _ h9 => h9) rfl dX1_isHeldBy_33 ?_
        refine lv_iload_n hx hb dX1_isHeldBy_36 rfl (lv_at hl 1 rfl) ?_
        refine k_ild hx hb hE.1 hP 2 0 rfl rfl (j := j) (by omega) (by decide) dX1_isHeldBy_37 ?_
        refine kcN_i (n := 2) (X := []) (wc := []) (Y := wT cy a0 a1 a2 a3 a4 a5 a6 a7 a8 fs ss fd ed lm dd ce cw n) (As := [.int good, .int (ss j)]) (rest := []) ⟨hx, hb, hml, hown, hts⟩ hE hA hP hD hS (c_X2_contains l D cy good (ss j)) (fun _ => rfl) hE.2.2.1 (hts (.static yX2_contains) (by decide +kernel)) (hts (.initialized RX2) (by decide +kernel)) gX1_isHeldBy_X2_contains_n64 rfl rfl rfl ⟨by decide, by decide, by decide +kernel⟩ ⟨Nat.le_of_ble_eq_true rfl, Nat.le_of_ble_eq_true rfl⟩ rfl hl.1 rfl (Nat.le_of_ble_eq_true rfl) dX1_isHeldBy_38 ⟨Nat.zero_le _, Nat.zero_le _⟩ (fun r_5 u H locs e_6 hP hD hS => ?_)
        have hP : va_P D vwCl (wT cy a0 a1 a2 a3 a4 a5 a6 a7 a8 fs ss fd ed lm dd ce cw n) H := hP
        have hD : va_D A (wT cy a0 a1 a2 a3 a4 a5 a6 a7 a8 fs ss fd ed lm dd ce cw n) := hD
        have e_6 : r_5 = bI (hasB good (ss j)) := e_6
        subst e_6
        refine k_ifeq (tgt := 48) hx hb dX1_isHeldBy_41 (by decide) (fun c_41 => ?_) (fun c_41 => ?_)
        · refine lv_iconst (v := 0) hx hb dX1_isHeldBy_48 (by decide) ?_
          exact hret _ _ _ _ 0 () dX1_isHeldBy_49 (Or.inr (Or.inl rfl)) (bI_f (by simp [c_5, c_18, c_28, c_41, heldP, hasB])).symm hP hS
        · refine lv_iconst (v := 1) hx hb dX1_isHeldBy_44 (by decide) ?_
          refine lv_goto (tgt := 49) hx hb dX1_isHeldBy_45 (by decide) ?_
          exact hret _ _ _ _ 1 () dX1_isHeldBy_49 (Or.inr (Or.inr rfl)) (bI_t (by simp [c_5, c_18, c_28, c_41, heldP, hasB])).symm hP hS

set_option maxHeartbeats 4000000 in
set_option maxRecDepth 100000 in
theorem c_X1_goodOn (l : Launch) (D : va_G) (cy : ClassId × ClassId × ClassId) (a0 a1 a2 a3 a4 a5 a6 a7 a8 : Nat) (fs ss fd ed lm dd ce cw : Nat → Int32) (n : Nat) (day : Int32) (wo : Int32) (hn : n ≤ 8) : kI l D cy yX1_goodOn wsX1_goodOn (krm 2 43) [.ref a0, .int day, .int wo] (wT cy a0 a1 a2 a3 a4 a5 a6 a7 a8 fs ss fd ed lm dd ce cw n) (fun (r : Int32) (u : Unit) => r = goodM fs ss fd ed dd day wo n) (fun _ : Unit => wT cy a0 a1 a2 a3 a4 a5 a6 a7 a8 fs ss fd ed lm dd ce cw n) := by
  refine kI.of (cc := cX1_goodOn) (maxL := 5) (rt := .int) (Or.inl rfl) (by decide) rfl (Nat.le_of_ble_eq_true rfl) ?_
  intro p e s m args below meth c Q A ls hx hb hml hown hts hE hA hP hD hl hret
  have hS : va_S A s.heap s.heap [] := va_S.rf
  have hl : lv_has ls 5 [(0, .ref a0), (1, .int day), (2, .int wo)] := hl
  have g_X1 : ∀ w ∈ wsX10, w ∈ wsX1_goodOn := by decide +kernel
  have f_36 := hts (.fieldLink RX1 36 "CertHerd$IssuerTable" "count" "I") (by decide +kernel)
  refine lv_iconst (v := 0) hx hb dX1_goodOn_0 (by decide) ?_
  refine lv_istore_n (lv' := [(3, .int 0), (0, .ref a0), (1, .int day), (2, .int wo)]) hx hb dX1_goodOn_1 rfl hl (by decide) rfl (fun ls hl => ?_)
  refine lv_iconst (v := 0) hx hb dX1_goodOn_2 (by decide) ?_
  refine lv_istore (lv' := [(4, .int 0), (3, .int 0), (0, .ref a0), (1, .int day), (2, .int wo)]) hx hb dX1_goodOn_3 hl (by decide) rfl (fun ls hl => ?_)
  have L_5 : ∀ (f : Nat) (k : Nat) (g : Int32) (H : Heap) (locs : List Loc) (ls : Array Slot), ((n - k) < f) → (k ≤ n) → (g = goodM fs ss fd ed dd day wo k) → va_P D vwCl (wT cy a0 a1 a2 a3 a4 a5 a6 a7 a8 fs ss fd ed lm dd ce cw n) H → va_D A (wT cy a0 a1 a2 a3 a4 a5 a6 a7 a8 fs ss fd ed lm dd ce cw n) → va_S A s.heap H locs → lv_has ls 5 [(4, .int (nI k)), (3, .int g), (0, .ref a0), (1, .int day), (2, .int wo)] → W p l e (krm 2 43) s m args below meth c H locs 0 0 Q (F0 m 5 ls []) := by
    intro f
    induction f with
    | zero => intro k g H locs ls hf; exact absurd hf (Nat.not_lt_zero _)
    | succ f ih_5 =>
      intro k g H locs ls hf hk eg hP hD hS hl
      refine lv_iload hx hb dX1_goodOn_5 (lv_at hl 0 rfl) ?_
      refine lv_aload_n hx hb dX1_goodOn_7 rfl (lv_at hl 2 rfl) ?_
      refine va_get (D := D) (ci := 1) (v := .int (nI n)) (C := RX1) (T := TX1) (N := 9) hx hb hts g_X1 hown hE.1 hP 0 rfl rfl 8 (by decide) f_36 (fun _ h9 => h9) rfl dX1_goodOn_8 ?_
      refine lv_icmp_ge (tgt := 53) hx hb dX1_goodOn_11 (by decide) (fun c_11 => ?_) (fun c_11 => ?_)
      · have c_11n : n ≤ k := k_leN (a := n) (b := k) (by omega) (by omega) c_11
        refine lv_iload_n hx hb dX1_goodOn_53 rfl (lv_at hl 1 rfl) ?_
        exact hret _ _ _ _ g () dX1_goodOn_54 (Or.inl rfl) (by have e9 : k = n := (by omega); subst e9; exact eg) hP hS
      · have c_11n : ¬ n ≤ k := k_nleN (a := n) (b := k) (by omega) (by omega) c_11
        have hk8 : k < 8 := by omega
        refine lv_iload hx hb dX1_goodOn_14 (lv_at hl 0 rfl) ?_
        refine lv_iload_n hx hb dX1_goodOn_16 rfl (lv_at hl 4 rfl) ?_
        refine lv_icmp_eq (tgt := 47) hx hb dX1_goodOn_17 (by decide) (fun c_17 => ?_) (fun c_17 => ?_)
        · refine lv_iinc (v := (nI (k + 1))) (lv' := [(4, .int (nI (k + 1))), (3, .int g), (0, .ref a0), (1, .int day), (2, .int wo)]) hx hb dX1_goodOn_47 hl (k := 0) rfl (k_inc _) (by decide) rfl (fun ls hl => ?_)
          refine lv_goto (tgt := 5) hx hb dX1_goodOn_50 (by decide) ?_
          exact ih_5 (k + 1) g _ _ ls (by omega) (by omega) (by subst eg; rw [goodM]; exact (if_neg (fun h => h.1 c_17)).symm) hP hD hS (lv_sub hl [0, 1, 2, 3, 4] rfl)
        · refine lv_aload_n hx hb dX1_goodOn_20 rfl (lv_at hl 2 rfl) ?_
          refine lv_iload hx hb dX1_goodOn_21 (lv_at hl 0 rfl) ?_
          refine lv_iload_n hx hb dX1_goodOn_23 rfl (lv_at hl 3 rfl) ?_
          refine kcW_i (n := 2) (wc := wT cy a0 a1 a2 a3 a4 a5 a6 a7 a8 fs ss fd ed lm dd ce cw n) (As := [.int (nI k), .int day]) (rest := []) ⟨hx, hb, hml, hown, hts⟩ hE hA hP hD hS (c_X1_standsOn l D cy a0 a1 a2 a3 a4 a5 a6 a7 a8 fs ss fd ed lm dd ce cw n k day (by first | assumption | omega)) (fun _ => rfl) (q0 := 0) (ci := 1) rfl rfl gX1_goodOn_X1_standsOn rfl rfl rfl ⟨rfl, by decide, by decide, by decide +kernel⟩ ⟨Nat.le_of_ble_eq_true rfl, Nat.le_of_ble_eq_true rfl⟩ rfl hl.1 rfl (Nat.le_of_ble_eq_true rfl) dX1_goodOn_24 ⟨Nat.zero_le _, Nat.zero_le _⟩ (fun r_1 u H locs e_2 hP hD hS => ?_)
          have hP : va_P D vwCl (wT cy a0 a1 a2 a3 a4 a5 a6 a7 a8 fs ss fd ed lm dd ce cw n) H := hP
          have hD : va_D A (wT cy a0 a1 a2 a3 a4 a5 a6 a7 a8 fs ss fd ed lm dd ce cw n) := hD
          have e_2 : r_1 = bI (standsP fd ed dd k day) := e_2
          subst e_2
          refine k_ifeq (tgt := 47) hx hb dX1_goodOn_27 (by decide) (fun c_27 => ?_) (fun c_27 => ?_)
          · refine lv_iinc (v := (nI (k + 1))) (lv' := [(4, .int (nI (k + 1))), (3, .int g), (0, .ref a0), (1, .int day), (2, .int wo)]) hx hb dX1_goodOn_47 hl (k := 0) rfl (k_inc _) (by decide) rfl (fun ls hl => ?_)
            refine lv_goto (tgt := 5) hx hb dX1_goodOn_50 (by decide) ?_
            exact ih_5 (k + 1) g _ _ ls (by omega) (by omega) (by subst eg; rw [goodM]; exact (if_neg (fun h => c_27 h.2.1)).symm) hP hD hS (lv_sub hl [0, 1, 2, 3, 4] rfl)
          · refine lv_aload_n hx hb dX1_goodOn_30 rfl (lv_at hl 2 rfl) ?_
            refine lv_iload hx hb dX1_goodOn_31 (lv_at hl 0 rfl) ?_
            refine lv_iload_n hx hb dX1_goodOn_33 rfl (lv_at hl 1 rfl) ?_
            refine kcW_i (n := 2) (wc := wT cy a0 a1 a2 a3 a4 a5 a6 a7 a8 fs ss fd ed lm dd ce cw n) (As := [.int (nI k), .int g]) (rest := []) ⟨hx, hb, hml, hown, hts⟩ hE hA hP hD hS (c_X1_isHeldBy l D cy a0 a1 a2 a3 a4 a5 a6 a7 a8 fs ss fd ed lm dd ce cw n k g (by first | assumption | omega)) (fun _ => rfl) (q0 := 0) (ci := 1) rfl rfl gX1_goodOn_X1_isHeldBy rfl rfl rfl ⟨rfl, by decide, by decide, by decide +kernel⟩ ⟨Nat.le_of_ble_eq_true rfl, Nat.le_of_ble_eq_true rfl⟩ rfl hl.1 rfl (Nat.le_of_ble_eq_true rfl) dX1_goodOn_34 ⟨Nat.zero_le _, Nat.zero_le _⟩ (fun r_3 u H locs e_4 hP hD hS => ?_)
            have hP : va_P D vwCl (wT cy a0 a1 a2 a3 a4 a5 a6 a7 a8 fs ss fd ed lm dd ce cw n) H := hP
            have hD : va_D A (wT cy a0 a1 a2 a3 a4 a5 a6 a7 a8 fs ss fd ed lm dd ce cw n) := hD
            have e_4 : r_3 = bI (heldP fs ss k g) := e_4
            subst e_4
            refine k_ifeq (tgt := 47) hx hb dX1_goodOn_37 (by decide) (fun c_37 => ?_) (fun c_37 => ?_)
            · refine lv_iinc (v := (nI (k + 1))) (lv' := [(4, .int (nI (k + 1))), (3, .int g), (0, .ref a0), (1, .int day), (2, .int wo)]) hx hb dX1_goodOn_47 hl (k := 0) rfl (k_inc _) (by decide) rfl (fun ls hl => ?_)
              refine lv_goto (tgt := 5) hx hb dX1_goodOn_50 (by decide) ?_
              exact ih_5 (k + 1) g _ _ ls (by omega) (by omega) (by subst eg; rw [goodM]; exact (if_neg (fun h => c_37 h.2.2)).symm) hP hD hS (lv_sub hl [0, 1, 2, 3, 4] rfl)
            · refine lv_iload_n hx hb dX1_goodOn_40 rfl (lv_at hl 1 rfl) ?_
              refine lv_iconst (v := 1) hx hb dX1_goodOn_41 (by decide) ?_
              refine lv_iload hx hb dX1_goodOn_42 (lv_at hl 0 rfl) ?_
              refine lv_ishl hx hb dX1_goodOn_44 ?_
              refine lv_ior hx hb dX1_goodOn_45 ?_
              refine lv_istore_n (lv' := [(3, .int (g ||| (1 <<< ((nI k) &&& 31)))), (4, .int (nI k)), (0, .ref a0), (1, .int day), (2, .int wo)]) hx hb dX1_goodOn_46 rfl hl (by decide) rfl (fun ls hl => ?_)
              refine lv_iinc (v := (nI (k + 1))) (lv' := [(4, .int (nI (k + 1))), (3, .int (g ||| (1 <<< ((nI k) &&& 31)))), (0, .ref a0), (1, .int day), (2, .int wo)]) hx hb dX1_goodOn_47 hl (k := 1) rfl (k_inc _) (by decide) rfl (fun ls hl => ?_)
              refine lv_goto (tgt := 5) hx hb dX1_goodOn_50 (by decide) ?_
              exact ih_5 (k + 1) (g ||| (1 <<< ((nI k) &&& 31))) _ _ ls (by omega) (by omega) (by subst eg; rw [goodM]; exact (if_pos ⟨c_17, c_27, c_37⟩).symm) hP hD hS (lv_sub hl [0, 1, 2, 3, 4] rfl)
  exact L_5 ((n - 0) + 1) 0 0 _ _ ls (Nat.lt_succ_self _) (by omega) rfl hP hD hS (lv_sub hl [0, 1, 2, 3, 4] rfl)

set_option maxHeartbeats 4000000 in
set_option maxRecDepth 100000 in
theorem c_X1_updateChains (l : Launch) (D : va_G) (cy : ClassId × ClassId × ClassId) (a0 a1 a2 a3 a4 a5 a6 a7 a8 : Nat) (fs ss fd ed lm dd ce cw : Nat → Int32) (n : Nat) (j : Nat) (hn : n ≤ 8) (hfs : ∀ i, i < n → sgP fs i) (hss : ∀ i, i < n → sgP ss i) (hj : j ≤ n) : kV l D cy yX1_updateChains wsX1_updateChains (krm 1 21) [.ref a0, .int (nI j)] (wT cy a0 a1 a2 a3 a4 a5 a6 a7 a8 fs ss fd ed lm dd ce cw n) (fun (u : Unit) => True) (fun _ : Unit => wT cy a0 a1 a2 a3 a4 a5 a6 a7 a8 fs ss fd ed lm dd (ucE fs ss ed j ce (n - j)) (ucC fs ss j cw (n - j)) n) := by
  refine kV.of (cc := cX1_updateChains) (maxL := 5) (by decide) rfl (Nat.le_of_ble_eq_true rfl) ?_
  intro p e s m args below meth c Q A ls hx hb hml hown hts hE hA hP hD hl hret
  have hS : va_S A s.heap s.heap [] := va_S.rf
  have hl : lv_has ls 5 [(0, .ref a0), (1, .int (nI j))] := hl
  have g_X1 : ∀ w ∈ wsX10, w ∈ wsX1_updateChains := by decide +kernel
  have f_36 := hts (.fieldLink RX1 36 "CertHerd$IssuerTable" "count" "I") (by decide +kernel)
  have f_30 := hts (.fieldLink RX1 30 "CertHerd$IssuerTable" "chainEnds" "[I") (by decide +kernel)
  have f_11 := hts (.fieldLink RX1 11 "CertHerd$IssuerTable" "firstSigners" "[I") (by decide +kernel)
  have f_33 := hts (.fieldLink RX1 33 "CertHerd$IssuerTable" "chainCounts" "[I") (by decide +kernel)
  have f_15 := hts (.fieldLink RX1 15 "CertHerd$IssuerTable" "secondSigners" "[I") (by decide +kernel)
  have f_21 := hts (.fieldLink RX1 21 "CertHerd$IssuerTable" "endDays" "[I") (by decide +kernel)
  refine lv_iload_n hx hb dX1_updateChains_0 rfl (lv_at hl 1 rfl) ?_
  refine lv_istore_n (lv' := [(2, .int (nI j)), (0, .ref a0), (1, .int (nI j))]) hx hb dX1_updateChains_1 rfl hl (by decide) rfl (fun ls hl => ?_)
  have L_2 : ∀ (f : Nat) (t : Nat) (ce_ : Nat → Int32) (cw_ : Nat → Int32) (H : Heap) (locs : List Loc) (ls : Array Slot), ((n - (j + t)) < f) → (j + t ≤ n) → (ce_ = ucE fs ss ed j ce t) → (cw_ = ucC fs ss j cw t) → va_P D vwCl (wT cy a0 a1 a2 a3 a4 a5 a6 a7 a8 fs ss fd ed lm dd ce_ cw_ n) H → va_D A (wT cy a0 a1 a2 a3 a4 a5 a6 a7 a8 fs ss fd ed lm dd ce_ cw_ n) → va_S A s.heap H locs → lv_has ls 5 [(2, .int (nI (j + t))), (0, .ref a0), (1, .int (nI j))] → W p l e (krm 1 21) s m args below meth c H locs 0 0 Q (F0 m 2 ls []) := by
    intro f
    induction f with
    | zero => intro t ce_ cw_ H locs ls hf; exact absurd hf (Nat.not_lt_zero _)
    | succ f ih_2 =>
      intro t ce_ cw_ H locs ls hf ht ece ecw hP hD hS hl
      refine lv_iload_n hx hb dX1_updateChains_2 rfl (lv_at hl 0 rfl) ?_
      refine lv_aload_n hx hb dX1_updateChains_3 rfl (lv_at hl 1 rfl) ?_
      refine va_get (D := D) (ci := 1) (v := .int (nI n)) (C := RX1) (T := TX1) (N := 9) hx hb hts g_X1 hown hE.1 hP 0 rfl rfl 8 (by decide) f_36 (fun _ h9 => h9) rfl dX1_updateChains_4 ?_
      refine lv_icmp_ge (tgt := 122) hx hb dX1_updateChains_7 (by decide) (fun c_7 => ?_) (fun c_7 => ?_)
      · have c_7n : n ≤ (j + t) := k_leN (a := n) (b := (j + t)) (by omega) (by omega) c_7
        have w_ce : ce_ = ucE fs ss ed j ce (n - j) := (by have e9 : t = n - j := (by omega); subst e9; exact ece)
        have w_cw : cw_ = ucC fs ss j cw (n - j) := (by have e9 : t = n - j := (by omega); subst e9; exact ecw)
        exact hret _ _ _ _ () dX1_updateChains_122 trivial (by show va_P D vwCl (wT cy a0 a1 a2 a3 a4 a5 a6 a7 a8 fs ss fd ed lm dd (ucE fs ss ed j ce (n - j)) (ucC fs ss j cw (n - j)) n) _; rw [← w_ce, ← w_cw]; exact hP) hS
      · have c_7n : ¬ n ≤ (j + t) := k_nleN (a := n) (b := (j + t)) (by omega) (by omega) c_7
        have hk8 : j + t < 8 := by omega
        have hkn : j + t < n := by omega
        refine lv_sipush (v := 5000) hx hb dX1_updateChains_10 (by decide) ?_
        refine lv_istore_n (lv' := [(3, .int 5000), (2, .int (nI (j + t))), (0, .ref a0), (1, .int (nI j))]) hx hb dX1_updateChains_13 rfl hl (by decide) rfl (fun ls hl => ?_)
        refine lv_iconst (v := 1) hx hb dX1_updateChains_14 (by decide) ?_
        refine lv_istore (lv' := [(4, .int 1), (3, .int 5000), (2, .int (nI (j + t))), (0, .ref a0), (1, .int (nI j))]) hx hb dX1_updateChains_15 hl (by decide) rfl (fun ls hl => ?_)
        refine lv_aload_n hx hb dX1_updateChains_17 rfl (lv_at hl 3 rfl) ?_
        refine lv_iload_n hx hb dX1_updateChains_18 rfl (lv_at hl 2 rfl) ?_
        refine kcW_i (n := 1) (wc := wT cy a0 a1 a2 a3 a4 a5 a6 a7 a8 fs ss fd ed lm dd ce_ cw_ n) (As := [.int (nI (j + t))]) (rest := []) ⟨hx, hb, hml, hown, hts⟩ hE hA hP hD hS (c_X1_isRoot l D cy a0 a1 a2 a3 a4 a5 a6 a7 a8 fs ss fd ed lm dd ce_ cw_ n (j + t) (by first | assumption | omega)) (fun _ => rfl) (q0 := 0) (ci := 1) rfl rfl gX1_updateChains_X1_isRoot rfl rfl rfl ⟨rfl, by decide, by decide, by decide +kernel⟩ ⟨Nat.le_of_ble_eq_true rfl, Nat.le_of_ble_eq_true rfl⟩ rfl hl.1 rfl (Nat.le_of_ble_eq_true rfl) dX1_updateChains_19 ⟨Nat.zero_le _, Nat.zero_le _⟩ (fun r_1 u H locs e_2 hP hD hS => ?_)
        have hP : va_P D vwCl (wT cy a0 a1 a2 a3 a4 a5 a6 a7 a8 fs ss fd ed lm dd ce_ cw_ n) H := hP
        have hD : va_D A (wT cy a0 a1 a2 a3 a4 a5 a6 a7 a8 fs ss fd ed lm dd ce_ cw_ n) := hD
        have e_2 : r_1 = bI (fs (j + t) = -1) := e_2
        subst e_2
        refine k_ifne (tgt := 50) hx hb dX1_updateChains_22 (by decide) (fun c_22 => ?_) (fun c_22 => ?_)
        · refine lv_aload_n hx hb dX1_updateChains_50 rfl (lv_at hl 3 rfl) ?_
          refine va_get (D := D) (ci := 1) (v := .ref a2) (C := RX1) (T := TX1) (N := 9) hx hb hts g_X1 hown hE.1 hP 0 rfl rfl 1 (by decide) f_15 (fun _ h9 => h9) rfl dX1_updateChains_51 ?_
          refine lv_iload_n hx hb dX1_updateChains_54 rfl (lv_at hl 2 rfl) ?_
          refine k_ild hx hb hE.1 hP 2 0 rfl rfl (j := (j + t)) (by omega) (by decide) dX1_updateChains_55 ?_
          refine lv_iconst (v := (-1)) hx hb dX1_updateChains_56 (by decide) ?_
          refine lv_icmp_eq (tgt := 92) hx hb dX1_updateChains_57 (by decide) (fun c_57 => ?_) (fun c_57 => ?_)
          · refine lv_aload_n hx hb dX1_updateChains_92 rfl (lv_at hl 3 rfl) ?_
            refine va_get (D := D) (ci := 1) (v := .ref a7) (C := RX1) (T := TX1) (N := 9) hx hb hts g_X1 hown hE.1 hP 0 rfl rfl 6 (by decide) f_30 (fun _ h9 => h9) rfl dX1_updateChains_93 ?_
            refine lv_iload_n hx hb dX1_updateChains_96 rfl (lv_at hl 2 rfl) ?_
            refine lv_iload_n hx hb dX1_updateChains_97 rfl (lv_at hl 1 rfl) ?_
            refine lv_aload_n hx hb dX1_updateChains_98 rfl (lv_at hl 3 rfl) ?_
            refine va_get (D := D) (ci := 1) (v := .ref a4) (C := RX1) (T := TX1) (N := 9) hx hb hts g_X1 hown hE.1 hP 0 rfl rfl 3 (by decide) f_21 (fun _ h9 => h9) rfl dX1_updateChains_99 ?_
            refine lv_iload_n hx hb dX1_updateChains_102 rfl (lv_at hl 2 rfl) ?_
            refine k_ild hx hb hE.1 hP 4 0 rfl rfl (j := (j + t)) (by omega) (by decide) dX1_updateChains_103 ?_
            refine va_mmin (ls := ls) hx hb (by rw [hml]; exact hl.1.symm) hown (hts (.methodLink RX1 54 Lib.Math.min.name) (by decide +kernel)) (hts (.static Lib.Math.min.name) (by decide +kernel)) (hts (.initialized "java/lang/Math") (by decide +kernel)) (hts (.code Lib.Math.min.name Lib.Math.min.code 2 (some .int)) (by decide +kernel)) (Nat.le_of_ble_eq_true rfl) (Nat.le_of_ble_eq_true rfl) (Nat.zero_le _) (Nat.zero_le _) dX1_updateChains_104 ?_
            refine k_ist hx hb hE.1 hP hD hS 7 0 rfl rfl (j := (j + t)) (by omega) (by decide) dX1_updateChains_107 (fun H locs hP hD hS => ?_)
            have hP : va_P D vwCl (wT cy a0 a1 a2 a3 a4 a5 a6 a7 a8 fs ss fd ed lm dd (upd ce_ (j + t) (if (ed (j + t)) < 5000 then (ed (j + t)) else 5000)) cw_ n) H := hP
            have hD : va_D A (wT cy a0 a1 a2 a3 a4 a5 a6 a7 a8 fs ss fd ed lm dd (upd ce_ (j + t) (if (ed (j + t)) < 5000 then (ed (j + t)) else 5000)) cw_ n) := hD
            refine lv_aload_n hx hb dX1_updateChains_108 rfl (lv_at hl 3 rfl) ?_
            refine va_get (D := D) (ci := 1) (v := .ref a8) (C := RX1) (T := TX1) (N := 9) hx hb hts g_X1 hown hE.1 hP 0 rfl rfl 7 (by decide) f_33 (fun _ h9 => h9) rfl dX1_updateChains_109 ?_
            refine lv_iload_n hx hb dX1_updateChains_112 rfl (lv_at hl 2 rfl) ?_
            refine lv_iload hx hb dX1_updateChains_113 (lv_at hl 0 rfl) ?_
            refine k_ist hx hb hE.1 hP hD hS 8 0 rfl rfl (j := (j + t)) (by omega) (by decide) dX1_updateChains_115 (fun H locs hP hD hS => ?_)
            have hP : va_P D vwCl (wT cy a0 a1 a2 a3 a4 a5 a6 a7 a8 fs ss fd ed lm dd (upd ce_ (j + t) (if (ed (j + t)) < 5000 then (ed (j + t)) else 5000)) (upd cw_ (j + t) 1) n) H := hP
            have hD : va_D A (wT cy a0 a1 a2 a3 a4 a5 a6 a7 a8 fs ss fd ed lm dd (upd ce_ (j + t) (if (ed (j + t)) < 5000 then (ed (j + t)) else 5000)) (upd cw_ (j + t) 1) n) := hD
            refine lv_iinc (v := (nI (j + t + 1))) (lv' := [(2, .int (nI (j + t + 1))), (4, .int 1), (3, .int 5000), (0, .ref a0), (1, .int (nI j))]) hx hb dX1_updateChains_116 hl (k := 2) rfl (k_inc _) (by decide) rfl (fun ls hl => ?_)
            refine lv_goto (tgt := 2) hx hb dX1_updateChains_119 (by decide) ?_
            exact ih_2 (t + 1) (upd ce_ (j + t) (if (ed (j + t)) < 5000 then (ed (j + t)) else 5000)) (upd cw_ (j + t) 1) _ _ ls (by omega) (by omega) (by subst ece; rw [ucE]; congr 1; simp [ucEnd, c_7, c_22, c_57]) (by subst ecw; rw [ucC]; congr 1; simp [ucCnt, c_7, c_22, c_57]) hP hD hS (lv_sub hl [0, 3, 4] rfl)
          · obtain ⟨q3, q4⟩ := (hss _ hkn).resolve_left c_57
            refine lv_iload_n hx hb dX1_updateChains_60 rfl (lv_at hl 1 rfl) ?_
            refine lv_aload_n hx hb dX1_updateChains_61 rfl (lv_at hl 3 rfl) ?_
            refine va_get (D := D) (ci := 1) (v := .ref a7) (C := RX1) (T := TX1) (N := 9) hx hb hts g_X1 hown hE.1 hP 0 rfl rfl 6 (by decide) f_30 (fun _ h9 => h9) rfl dX1_updateChains_62 ?_
            refine lv_aload_n hx hb dX1_updateChains_65 rfl (lv_at hl 3 rfl) ?_
            refine va_get (D := D) (ci := 1) (v := .ref a2) (C := RX1) (T := TX1) (N := 9) hx hb hts g_X1 hown hE.1 hP 0 rfl rfl 1 (by decide) f_15 (fun _ h9 => h9) rfl dX1_updateChains_66 ?_
            refine lv_iload_n hx hb dX1_updateChains_69 rfl (lv_at hl 2 rfl) ?_
            refine k_ild hx hb hE.1 hP 2 0 rfl rfl (j := (j + t)) (by omega) (by decide) dX1_updateChains_70 ?_
            refine k_top (z := nI (ix (ss (j + t)))) q3 ?_
            refine k_ild hx hb hE.1 hP 7 0 rfl rfl (j := (ix (ss (j + t)))) (by omega) (by decide) dX1_updateChains_71 ?_
            refine va_mmax (ls := ls) hx hb (by rw [hml]; exact hl.1.symm) hown (hts (.methodLink RX1 48 Lib.Math.max.name) (by decide +kernel)) (hts (.static Lib.Math.max.name) (by decide +kernel)) (hts (.initialized "java/lang/Math") (by decide +kernel)) (hts (.code Lib.Math.max.name Lib.Math.max.code 2 (some .int)) (by decide +kernel)) (Nat.le_of_ble_eq_true rfl) (Nat.le_of_ble_eq_true rfl) (Nat.zero_le _) (Nat.zero_le _) dX1_updateChains_72 ?_
            refine lv_istore_n (lv' := [(3, .int (if 5000 < (ce_ (ix (ss (j + t)))) then (ce_ (ix (ss (j + t)))) else 5000)), (4, .int 1), (2, .int (nI (j + t))), (0, .ref a0), (1, .int (nI j))]) hx hb dX1_updateChains_75 rfl hl (by decide) rfl (fun ls hl => ?_)
            refine lv_iload hx hb dX1_updateChains_76 (lv_at hl 1 rfl) ?_
            refine lv_aload_n hx hb dX1_updateChains_78 rfl (lv_at hl 3 rfl) ?_
            refine va_get (D := D) (ci := 1) (v := .ref a8) (C := RX1) (T := TX1) (N := 9) hx hb hts g_X1 hown hE.1 hP 0 rfl rfl 7 (by decide) f_33 (fun _ h9 => h9) rfl dX1_updateChains_79 ?_
            refine lv_aload_n hx hb dX1_updateChains_82 rfl (lv_at hl 3 rfl) ?_
            refine va_get (D := D) (ci := 1) (v := .ref a2) (C := RX1) (T := TX1) (N := 9) hx hb hts g_X1 hown hE.1 hP 0 rfl rfl 1 (by decide) f_15 (fun _ h9 => h9) rfl dX1_updateChains_83 ?_
            refine lv_iload_n hx hb dX1_updateChains_86 rfl (lv_at hl 2 rfl) ?_
            refine k_ild hx hb hE.1 hP 2 0 rfl rfl (j := (j + t)) (by omega) (by decide) dX1_updateChains_87 ?_
            refine k_top (z := nI (ix (ss (j + t)))) q3 ?_
            refine k_ild hx hb hE.1 hP 8 0 rfl rfl (j := (ix (ss (j + t)))) (by omega) (by decide) dX1_updateChains_88 ?_
            refine lv_iadd hx hb dX1_updateChains_89 ?_
            refine lv_istore (lv' := [(4, .int (1 + (cw_ (ix (ss (j + t)))))), (3, .int (if 5000 < (ce_ (ix (ss (j + t)))) then (ce_ (ix (ss (j + t)))) else 5000)), (2, .int (nI (j + t))), (0, .ref a0), (1, .int (nI j))]) hx hb dX1_updateChains_90 hl (by decide) rfl (fun ls hl => ?_)
            refine lv_aload_n hx hb dX1_updateChains_92 rfl (lv_at hl 3 rfl) ?_
            refine va_get (D := D) (ci := 1) (v := .ref a7) (C := RX1) (T := TX1) (N := 9) hx hb hts g_X1 hown hE.1 hP 0 rfl rfl 6 (by decide) f_30 (fun _ h9 => h9) rfl dX1_updateChains_93 ?_
            refine lv_iload_n hx hb dX1_updateChains_96 rfl (lv_at hl 2 rfl) ?_
            refine lv_iload_n hx hb dX1_updateChains_97 rfl (lv_at hl 1 rfl) ?_
            refine lv_aload_n hx hb dX1_updateChains_98 rfl (lv_at hl 3 rfl) ?_
            refine va_get (D := D) (ci := 1) (v := .ref a4) (C := RX1) (T := TX1) (N := 9) hx hb hts g_X1 hown hE.1 hP 0 rfl rfl 3 (by decide) f_21 (fun _ h9 => h9) rfl dX1_updateChains_99 ?_
            refine lv_iload_n hx hb dX1_updateChains_102 rfl (lv_at hl 2 rfl) ?_
            refine k_ild hx hb hE.1 hP 4 0 rfl rfl (j := (j + t)) (by omega) (by decide) dX1_updateChains_103 ?_
            refine va_mmin (ls := ls) hx hb (by rw [hml]; exact hl.1.symm) hown (hts (.methodLink RX1 54 Lib.Math.min.name) (by decide +kernel)) (hts (.static Lib.Math.min.name) (by decide +kernel)) (hts (.initialized "java/lang/Math") (by decide +kernel)) (hts (.code Lib.Math.min.name Lib.Math.min.code 2 (some .int)) (by decide +kernel)) (Nat.le_of_ble_eq_true rfl) (Nat.le_of_ble_eq_true rfl) (Nat.zero_le _) (Nat.zero_le _) dX1_updateChains_104 ?_
            refine k_ist hx hb hE.1 hP hD hS 7 0 rfl rfl (j := (j + t)) (by omega) (by decide) dX1_updateChains_107 (fun H locs hP hD hS => ?_)
            have hP : va_P D vwCl (wT cy a0 a1 a2 a3 a4 a5 a6 a7 a8 fs ss fd ed lm dd (upd ce_ (j + t) (if (ed (j + t)) < (if 5000 < (ce_ (ix (ss (j + t)))) then (ce_ (ix (ss (j + t)))) else 5000) then (ed (j + t)) else (if 5000 < (ce_ (ix (ss (j + t)))) then (ce_ (ix (ss (j + t)))) else 5000))) cw_ n) H := hP
            have hD : va_D A (wT cy a0 a1 a2 a3 a4 a5 a6 a7 a8 fs ss fd ed lm dd (upd ce_ (j + t) (if (ed (j + t)) < (if 5000 < (ce_ (ix (ss (j + t)))) then (ce_ (ix (ss (j + t)))) else 5000) then (ed (j + t)) else (if 5000 < (ce_ (ix (ss (j + t)))) then (ce_ (ix (ss (j + t)))) else 5000))) cw_ n) := hD
            refine lv_aload_n hx hb dX1_updateChains_108 rfl (lv_at hl 3 rfl) ?_
            refine va_get (D := D) (ci := 1) (v := .ref a8) (C := RX1) (T := TX1) (N := 9) hx hb hts g_X1 hown hE.1 hP 0 rfl rfl 7 (by decide) f_33 (fun _ h9 => h9) rfl dX1_updateChains_109 ?_
            refine lv_iload_n hx hb dX1_updateChains_112 rfl (lv_at hl 2 rfl) ?_
            refine lv_iload hx hb dX1_updateChains_113 (lv_at hl 0 rfl) ?_
            refine k_ist hx hb hE.1 hP hD hS 8 0 rfl rfl (j := (j + t)) (by omega) (by decide) dX1_updateChains_115 (fun H locs hP hD hS => ?_)
            have hP : va_P D vwCl (wT cy a0 a1 a2 a3 a4 a5 a6 a7 a8 fs ss fd ed lm dd (upd ce_ (j + t) (if (ed (j + t)) < (if 5000 < (ce_ (ix (ss (j + t)))) then (ce_ (ix (ss (j + t)))) else 5000) then (ed (j + t)) else (if 5000 < (ce_ (ix (ss (j + t)))) then (ce_ (ix (ss (j + t)))) else 5000))) (upd cw_ (j + t) (1 + (cw_ (ix (ss (j + t)))))) n) H := hP
            have hD : va_D A (wT cy a0 a1 a2 a3 a4 a5 a6 a7 a8 fs ss fd ed lm dd (upd ce_ (j + t) (if (ed (j + t)) < (if 5000 < (ce_ (ix (ss (j + t)))) then (ce_ (ix (ss (j + t)))) else 5000) then (ed (j + t)) else (if 5000 < (ce_ (ix (ss (j + t)))) then (ce_ (ix (ss (j + t)))) else 5000))) (upd cw_ (j + t) (1 + (cw_ (ix (ss (j + t)))))) n) := hD
            refine lv_iinc (v := (nI (j + t + 1))) (lv' := [(2, .int (nI (j + t + 1))), (4, .int (1 + (cw_ (ix (ss (j + t)))))), (3, .int (if 5000 < (ce_ (ix (ss (j + t)))) then (ce_ (ix (ss (j + t)))) else 5000)), (0, .ref a0), (1, .int (nI j))]) hx hb dX1_updateChains_116 hl (k := 2) rfl (k_inc _) (by decide) rfl (fun ls hl => ?_)
            refine lv_goto (tgt := 2) hx hb dX1_updateChains_119 (by decide) ?_
            exact ih_2 (t + 1) (upd ce_ (j + t) (if (ed (j + t)) < (if 5000 < (ce_ (ix (ss (j + t)))) then (ce_ (ix (ss (j + t)))) else 5000) then (ed (j + t)) else (if 5000 < (ce_ (ix (ss (j + t)))) then (ce_ (ix (ss (j + t)))) else 5000))) (upd cw_ (j + t) (1 + (cw_ (ix (ss (j + t)))))) _ _ ls (by omega) (by omega) (by subst ece; rw [ucE]; congr 1; simp [ucEnd, c_7, c_22, c_57]) (by subst ecw; rw [ucC]; congr 1; simp [ucCnt, c_7, c_22, c_57]) hP hD hS (lv_sub hl [0, 3, 4] rfl)
        · obtain ⟨q1, q2⟩ := (hfs _ hkn).resolve_left c_22
          refine lv_aload_n hx hb dX1_updateChains_25 rfl (lv_at hl 3 rfl) ?_
          refine va_get (D := D) (ci := 1) (v := .ref a7) (C := RX1) (T := TX1) (N := 9) hx hb hts g_X1 hown hE.1 hP 0 rfl rfl 6 (by decide) f_30 (fun _ h9 => h9) rfl dX1_updateChains_26 ?_
          refine lv_aload_n hx hb dX1_updateChains_29 rfl (lv_at hl 3 rfl) ?_
          refine va_get (D := D) (ci := 1) (v := .ref a1) (C := RX1) (T := TX1) (N := 9) hx hb hts g_X1 hown hE.1 hP 0 rfl rfl 0 (by decide) f_11 (fun _ h9 => h9) rfl dX1_updateChains_30 ?_
          refine lv_iload_n hx hb dX1_updateChains_33 rfl (lv_at hl 2 rfl) ?_
          refine k_ild hx hb hE.1 hP 1 0 rfl rfl (j := (j + t)) (by omega) (by decide) dX1_updateChains_34 ?_
          refine k_top (z := nI (ix (fs (j + t)))) q1 ?_
          refine k_ild hx hb hE.1 hP 7 0 rfl rfl (j := (ix (fs (j + t)))) (by omega) (by decide) dX1_updateChains_35 ?_
          refine lv_istore_n (lv' := [(3, .int (ce_ (ix (fs (j + t))))), (4, .int 1), (2, .int (nI (j + t))), (0, .ref a0), (1, .int (nI j))]) hx hb dX1_updateChains_36 rfl hl (by decide) rfl (fun ls hl => ?_)
          refine lv_aload_n hx hb dX1_updateChains_37 rfl (lv_at hl 3 rfl) ?_
          refine va_get (D := D) (ci := 1) (v := .ref a8) (C := RX1) (T := TX1) (N := 9) hx hb hts g_X1 hown hE.1 hP 0 rfl rfl 7 (by decide) f_33 (fun _ h9 => h9) rfl dX1_updateChains_38 ?_
          refine lv_aload_n hx hb dX1_updateChains_41 rfl (lv_at hl 3 rfl) ?_
          refine va_get (D := D) (ci := 1) (v := .ref a1) (C := RX1) (T := TX1) (N := 9) hx hb hts g_X1 hown hE.1 hP 0 rfl rfl 0 (by decide) f_11 (fun _ h9 => h9) rfl dX1_updateChains_42 ?_
          refine lv_iload_n hx hb dX1_updateChains_45 rfl (lv_at hl 2 rfl) ?_
          refine k_ild hx hb hE.1 hP 1 0 rfl rfl (j := (j + t)) (by omega) (by decide) dX1_updateChains_46 ?_
          refine k_top (z := nI (ix (fs (j + t)))) q1 ?_
          refine k_ild hx hb hE.1 hP 8 0 rfl rfl (j := (ix (fs (j + t)))) (by omega) (by decide) dX1_updateChains_47 ?_
          refine lv_istore (lv' := [(4, .int (cw_ (ix (fs (j + t))))), (3, .int (ce_ (ix (fs (j + t))))), (2, .int (nI (j + t))), (0, .ref a0), (1, .int (nI j))]) hx hb dX1_updateChains_48 hl (by decide) rfl (fun ls hl => ?_)
          refine lv_aload_n hx hb dX1_updateChains_50 rfl (lv_at hl 3 rfl) ?_
          refine va_get (D := D) (ci := 1) (v := .ref a2) (C := RX1) (T := TX1) (N := 9) hx hb hts g_X1 hown hE.1 hP 0 rfl rfl 1 (by decide) f_15 (fun _ h9 => h9) rfl dX1_updateChains_51 ?_
          refine lv_iload_n hx hb dX1_updateChains_54 rfl (lv_at hl 2 rfl) ?_
          refine k_ild hx hb hE.1 hP 2 0 rfl rfl (j := (j + t)) (by omega) (by decide) dX1_updateChains_55 ?_
          refine lv_iconst (v := (-1)) hx hb dX1_updateChains_56 (by decide) ?_
          refine lv_icmp_eq (tgt := 92) hx hb dX1_updateChains_57 (by decide) (fun c_57 => ?_) (fun c_57 => ?_)
          · refine lv_aload_n hx hb dX1_updateChains_92 rfl (lv_at hl 3 rfl) ?_
            refine va_get (D := D) (ci := 1) (v := .ref a7) (C := RX1) (T := TX1) (N := 9) hx hb hts g_X1 hown hE.1 hP 0 rfl rfl 6 (by decide) f_30 (fun _ h9 => h9) rfl dX1_updateChains_93 ?_
            refine lv_iload_n hx hb dX1_updateChains_96 rfl (lv_at hl 2 rfl) ?_
            refine lv_iload_n hx hb dX1_updateChains_97 rfl (lv_at hl 1 rfl) ?_
            refine lv_aload_n hx hb dX1_updateChains_98 rfl (lv_at hl 3 rfl) ?_
            refine va_get (D := D) (ci := 1) (v := .ref a4) (C := RX1) (T := TX1) (N := 9) hx hb hts g_X1 hown hE.1 hP 0 rfl rfl 3 (by decide) f_21 (fun _ h9 => h9) rfl dX1_updateChains_99 ?_
            refine lv_iload_n hx hb dX1_updateChains_102 rfl (lv_at hl 2 rfl) ?_
            refine k_ild hx hb hE.1 hP 4 0 rfl rfl (j := (j + t)) (by omega) (by decide) dX1_updateChains_103 ?_
            refine va_mmin (ls := ls) hx hb (by rw [hml]; exact hl.1.symm) hown (hts (.methodLink RX1 54 Lib.Math.min.name) (by decide +kernel)) (hts (.static Lib.Math.min.name) (by decide +kernel)) (hts (.initialized "java/lang/Math") (by decide +kernel)) (hts (.code Lib.Math.min.name Lib.Math.min.code 2 (some .int)) (by decide +kernel)) (Nat.le_of_ble_eq_true rfl) (Nat.le_of_ble_eq_true rfl) (Nat.zero_le _) (Nat.zero_le _) dX1_updateChains_104 ?_
            refine k_ist hx hb hE.1 hP hD hS 7 0 rfl rfl (j := (j + t)) (by omega) (by decide) dX1_updateChains_107 (fun H locs hP hD hS => ?_)
            have hP : va_P D vwCl (wT cy a0 a1 a2 a3 a4 a5 a6 a7 a8 fs ss fd ed lm dd (upd ce_ (j + t) (if (ed (j + t)) < (ce_ (ix (fs (j + t)))) then (ed (j + t)) else (ce_ (ix (fs (j + t)))))) cw_ n) H := hP
            have hD : va_D A (wT cy a0 a1 a2 a3 a4 a5 a6 a7 a8 fs ss fd ed lm dd (upd ce_ (j + t) (if (ed (j + t)) < (ce_ (ix (fs (j + t)))) then (ed (j + t)) else (ce_ (ix (fs (j + t)))))) cw_ n) := hD
            refine lv_aload_n hx hb dX1_updateChains_108 rfl (lv_at hl 3 rfl) ?_
            refine va_get (D := D) (ci := 1) (v := .ref a8) (C := RX1) (T := TX1) (N := 9) hx hb hts g_X1 hown hE.1 hP 0 rfl rfl 7 (by decide) f_33 (fun _ h9 => h9) rfl dX1_updateChains_109 ?_
            refine lv_iload_n hx hb dX1_updateChains_112 rfl (lv_at hl 2 rfl) ?_
            refine lv_iload hx hb dX1_updateChains_113 (lv_at hl 0 rfl) ?_
            refine k_ist hx hb hE.1 hP hD hS 8 0 rfl rfl (j := (j + t)) (by omega) (by decide) dX1_updateChains_115 (fun H locs hP hD hS => ?_)
            have hP : va_P D vwCl (wT cy a0 a1 a2 a3 a4 a5 a6 a7 a8 fs ss fd ed lm dd (upd ce_ (j + t) (if (ed (j + t)) < (ce_ (ix (fs (j + t)))) then (ed (j + t)) else (ce_ (ix (fs (j + t)))))) (upd cw_ (j + t) (cw_ (ix (fs (j + t))))) n) H := hP
            have hD : va_D A (wT cy a0 a1 a2 a3 a4 a5 a6 a7 a8 fs ss fd ed lm dd (upd ce_ (j + t) (if (ed (j + t)) < (ce_ (ix (fs (j + t)))) then (ed (j + t)) else (ce_ (ix (fs (j + t)))))) (upd cw_ (j + t) (cw_ (ix (fs (j + t))))) n) := hD
            refine lv_iinc (v := (nI (j + t + 1))) (lv' := [(2, .int (nI (j + t + 1))), (4, .int (cw_ (ix (fs (j + t))))), (3, .int (ce_ (ix (fs (j + t))))), (0, .ref a0), (1, .int (nI j))]) hx hb dX1_updateChains_116 hl (k := 2) rfl (k_inc _) (by decide) rfl (fun ls hl => ?_)
            refine lv_goto (tgt := 2) hx hb dX1_updateChains_119 (by decide) ?_
            exact ih_2 (t + 1) (upd ce_ (j + t) (if (ed (j + t)) < (ce_ (ix (fs (j + t)))) then (ed (j + t)) else (ce_ (ix (fs (j + t)))))) (upd cw_ (j + t) (cw_ (ix (fs (j + t))))) _ _ ls (by omega) (by omega) (by subst ece; rw [ucE]; congr 1; simp [ucEnd, c_7, c_22, c_57]) (by subst ecw; rw [ucC]; congr 1; simp [ucCnt, c_7, c_22, c_57]) hP hD hS (lv_sub hl [0, 3, 4] rfl)
          · obtain ⟨q3, q4⟩ := (hss _ hkn).resolve_left c_57
            refine lv_iload_n hx hb dX1_updateChains_60 rfl (lv_at hl 1 rfl) ?_
            refine lv_aload_n hx hb dX1_updateChains_61 rfl (lv_at hl 3 rfl) ?_
            refine va_get (D := D) (ci := 1) (v := .ref a7) (C := RX1) (T := TX1) (N := 9) hx hb hts g_X1 hown hE.1 hP 0 rfl rfl 6 (by decide) f_30 (fun _ h9 => h9) rfl dX1_updateChains_62 ?_
            refine lv_aload_n hx hb dX1_updateChains_65 rfl (lv_at hl 3 rfl) ?_
            refine va_get (D := D) (ci := 1) (v := .ref a2) (C := RX1) (T := TX1) (N := 9) hx hb hts g_X1 hown hE.1 hP 0 rfl rfl 1 (by decide) f_15 (fun _ h9 => h9) rfl dX1_updateChains_66 ?_
            refine lv_iload_n hx hb dX1_updateChains_69 rfl (lv_at hl 2 rfl) ?_
            refine k_ild hx hb hE.1 hP 2 0 rfl rfl (j := (j + t)) (by omega) (by decide) dX1_updateChains_70 ?_
            refine k_top (z := nI (ix (ss (j + t)))) q3 ?_
            refine k_ild hx hb hE.1 hP 7 0 rfl rfl (j := (ix (ss (j + t)))) (by omega) (by decide) dX1_updateChains_71 ?_
            refine va_mmax (ls := ls) hx hb (by rw [hml]; exact hl.1.symm) hown (hts (.methodLink RX1 48 Lib.Math.max.name) (by decide +kernel)) (hts (.static Lib.Math.max.name) (by decide +kernel)) (hts (.initialized "java/lang/Math") (by decide +kernel)) (hts (.code Lib.Math.max.name Lib.Math.max.code 2 (some .int)) (by decide +kernel)) (Nat.le_of_ble_eq_true rfl) (Nat.le_of_ble_eq_true rfl) (Nat.zero_le _) (Nat.zero_le _) dX1_updateChains_72 ?_
            refine lv_istore_n (lv' := [(3, .int (if (ce_ (ix (fs (j + t)))) < (ce_ (ix (ss (j + t)))) then (ce_ (ix (ss (j + t)))) else (ce_ (ix (fs (j + t)))))), (4, .int (cw_ (ix (fs (j + t))))), (2, .int (nI (j + t))), (0, .ref a0), (1, .int (nI j))]) hx hb dX1_updateChains_75 rfl hl (by decide) rfl (fun ls hl => ?_)
            refine lv_iload hx hb dX1_updateChains_76 (lv_at hl 1 rfl) ?_
            refine lv_aload_n hx hb dX1_updateChains_78 rfl (lv_at hl 3 rfl) ?_
            refine va_get (D := D) (ci := 1) (v := .ref a8) (C := RX1) (T := TX1) (N := 9) hx hb hts g_X1 hown hE.1 hP 0 rfl rfl 7 (by decide) f_33 (fun _ h9 => h9) rfl dX1_updateChains_79 ?_
            refine lv_aload_n hx hb dX1_updateChains_82 rfl (lv_at hl 3 rfl) ?_
            refine va_get (D := D) (ci := 1) (v := .ref a2) (C := RX1) (T := TX1) (N := 9) hx hb hts g_X1 hown hE.1 hP 0 rfl rfl 1 (by decide) f_15 (fun _ h9 => h9) rfl dX1_updateChains_83 ?_
            refine lv_iload_n hx hb dX1_updateChains_86 rfl (lv_at hl 2 rfl) ?_
            refine k_ild hx hb hE.1 hP 2 0 rfl rfl (j := (j + t)) (by omega) (by decide) dX1_updateChains_87 ?_
            refine k_top (z := nI (ix (ss (j + t)))) q3 ?_
            refine k_ild hx hb hE.1 hP 8 0 rfl rfl (j := (ix (ss (j + t)))) (by omega) (by decide) dX1_updateChains_88 ?_
            refine lv_iadd hx hb dX1_updateChains_89 ?_
            refine lv_istore (lv' := [(4, .int ((cw_ (ix (fs (j + t)))) + (cw_ (ix (ss (j + t)))))), (3, .int (if (ce_ (ix (fs (j + t)))) < (ce_ (ix (ss (j + t)))) then (ce_ (ix (ss (j + t)))) else (ce_ (ix (fs (j + t)))))), (2, .int (nI (j + t))), (0, .ref a0), (1, .int (nI j))]) hx hb dX1_updateChains_90 hl (by decide) rfl (fun ls hl => ?_)
            refine lv_aload_n hx hb dX1_updateChains_92 rfl (lv_at hl 3 rfl) ?_
            refine va_get (D := D) (ci := 1) (v := .ref a7) (C := RX1) (T := TX1) (N := 9) hx hb hts g_X1 hown hE.1 hP 0 rfl rfl 6 (by decide) f_30 (fun _ h9 => h9) rfl dX1_updateChains_93 ?_
            refine lv_iload_n hx hb dX1_updateChains_96 rfl (lv_at hl 2 rfl) ?_
            refine lv_iload_n hx hb dX1_updateChains_97 rfl (lv_at hl 1 rfl) ?_
            refine lv_aload_n hx hb dX1_updateChains_98 rfl (lv_at hl 3 rfl) ?_
            refine va_get (D := D) (ci := 1) (v := .ref a4) (C := RX1) (T := TX1) (N := 9) hx hb hts g_X1 hown hE.1 hP 0 rfl rfl 3 (by decide) f_21 (fun _ h9 => h9) rfl dX1_updateChains_99 ?_
            refine lv_iload_n hx hb dX1_updateChains_102 rfl (lv_at hl 2 rfl) ?_
            refine k_ild hx hb hE.1 hP 4 0 rfl rfl (j := (j + t)) (by omega) (by decide) dX1_updateChains_103 ?_
            refine va_mmin (ls := ls) hx hb (by rw [hml]; exact hl.1.symm) hown (hts (.methodLink RX1 54 Lib.Math.min.name) (by decide +kernel)) (hts (.static Lib.Math.min.name) (by decide +kernel)) (hts (.initialized "java/lang/Math") (by decide +kernel)) (hts (.code Lib.Math.min.name Lib.Math.min.code 2 (some .int)) (by decide +kernel)) (Nat.le_of_ble_eq_true rfl) (Nat.le_of_ble_eq_true rfl) (Nat.zero_le _) (Nat.zero_le _) dX1_updateChains_104 ?_
            refine k_ist hx hb hE.1 hP hD hS 7 0 rfl rfl (j := (j + t)) (by omega) (by decide) dX1_updateChains_107 (fun H locs hP hD hS => ?_)
            have hP : va_P D vwCl (wT cy a0 a1 a2 a3 a4 a5 a6 a7 a8 fs ss fd ed lm dd (upd ce_ (j + t) (if (ed (j + t)) < (if (ce_ (ix (fs (j + t)))) < (ce_ (ix (ss (j + t)))) then (ce_ (ix (ss (j + t)))) else (ce_ (ix (fs (j + t))))) then (ed (j + t)) else (if (ce_ (ix (fs (j + t)))) < (ce_ (ix (ss (j + t)))) then (ce_ (ix (ss (j + t)))) else (ce_ (ix (fs (j + t))))))) cw_ n) H := hP
            have hD : va_D A (wT cy a0 a1 a2 a3 a4 a5 a6 a7 a8 fs ss fd ed lm dd (upd ce_ (j + t) (if (ed (j + t)) < (if (ce_ (ix (fs (j + t)))) < (ce_ (ix (ss (j + t)))) then (ce_ (ix (ss (j + t)))) else (ce_ (ix (fs (j + t))))) then (ed (j + t)) else (if (ce_ (ix (fs (j + t)))) < (ce_ (ix (ss (j + t)))) then (ce_ (ix (ss (j + t)))) else (ce_ (ix (fs (j + t))))))) cw_ n) := hD
            refine lv_aload_n hx hb dX1_updateChains_108 rfl (lv_at hl 3 rfl) ?_
            refine va_get (D := D) (ci := 1) (v := .ref a8) (C := RX1) (T := TX1) (N := 9) hx hb hts g_X1 hown hE.1 hP 0 rfl rfl 7 (by decide) f_33 (fun _ h9 => h9) rfl dX1_updateChains_109 ?_
            refine lv_iload_n hx hb dX1_updateChains_112 rfl (lv_at hl 2 rfl) ?_
            refine lv_iload hx hb dX1_updateChains_113 (lv_at hl 0 rfl) ?_
            refine k_ist hx hb hE.1 hP hD hS 8 0 rfl rfl (j := (j + t)) (by omega) (by decide) dX1_updateChains_115 (fun H locs hP hD hS => ?_)
            have hP : va_P D vwCl (wT cy a0 a1 a2 a3 a4 a5 a6 a7 a8 fs ss fd ed lm dd (upd ce_ (j + t) (if (ed (j + t)) < (if (ce_ (ix (fs (j + t)))) < (ce_ (ix (ss (j + t)))) then (ce_ (ix (ss (j + t)))) else (ce_ (ix (fs (j + t))))) then (ed (j + t)) else (if (ce_ (ix (fs (j + t)))) < (ce_ (ix (ss (j + t)))) then (ce_ (ix (ss (j + t)))) else (ce_ (ix (fs (j + t))))))) (upd cw_ (j + t) ((cw_ (ix (fs (j + t)))) + (cw_ (ix (ss (j + t)))))) n) H := hP
            have hD : va_D A (wT cy a0 a1 a2 a3 a4 a5 a6 a7 a8 fs ss fd ed lm dd (upd ce_ (j + t) (if (ed (j + t)) < (if (ce_ (ix (fs (j + t)))) < (ce_ (ix (ss (j + t)))) then (ce_ (ix (ss (j + t)))) else (ce_ (ix (fs (j + t))))) then (ed (j + t)) else (if (ce_ (ix (fs (j + t)))) < (ce_ (ix (ss (j + t)))) then (ce_ (ix (ss (j + t)))) else (ce_ (ix (fs (j + t))))))) (upd cw_ (j + t) ((cw_ (ix (fs (j + t)))) + (cw_ (ix (ss (j + t)))))) n) := hD
            refine lv_iinc (v := (nI (j + t + 1))) (lv' := [(2, .int (nI (j + t + 1))), (4, .int ((cw_ (ix (fs (j + t)))) + (cw_ (ix (ss (j + t)))))), (3, .int (if (ce_ (ix (fs (j + t)))) < (ce_ (ix (ss (j + t)))) then (ce_ (ix (ss (j + t)))) else (ce_ (ix (fs (j + t)))))), (0, .ref a0), (1, .int (nI j))]) hx hb dX1_updateChains_116 hl (k := 2) rfl (k_inc _) (by decide) rfl (fun ls hl => ?_)
            refine lv_goto (tgt := 2) hx hb dX1_updateChains_119 (by decide) ?_
            exact ih_2 (t + 1) (upd ce_ (j + t) (if (ed (j + t)) < (if (ce_ (ix (fs (j + t)))) < (ce_ (ix (ss (j + t)))) then (ce_ (ix (ss (j + t)))) else (ce_ (ix (fs (j + t))))) then (ed (j + t)) else (if (ce_ (ix (fs (j + t)))) < (ce_ (ix (ss (j + t)))) then (ce_ (ix (ss (j + t)))) else (ce_ (ix (fs (j + t))))))) (upd cw_ (j + t) ((cw_ (ix (fs (j + t)))) + (cw_ (ix (ss (j + t)))))) _ _ ls (by omega) (by omega) (by subst ece; rw [ucE]; congr 1; simp [ucEnd, c_7, c_22, c_57]) (by subst ecw; rw [ucC]; congr 1; simp [ucCnt, c_7, c_22, c_57]) hP hD hS (lv_sub hl [0, 3, 4] rfl)
  exact L_2 ((n - (j + 0)) + 1) 0 ce cw _ _ ls (Nat.lt_succ_self _) (by omega) rfl rfl hP hD hS (lv_sub hl [0, 1, 2] rfl)

set_option maxHeartbeats 4000000 in
set_option maxRecDepth 100000 in
theorem c_X1_append (l : Launch) (D : va_G) (cy : ClassId × ClassId × ClassId) (a0 a1 a2 a3 a4 a5 a6 a7 a8 : Nat) (fs ss fd ed lm dd ce cw : Nat → Int32) (n : Nat) (sg : Int32) (fr_ : Int32) (to_ : Int32) (li_ : Int32) (hn : n < 8) (hfs : ∀ i, i < n → sgP fs i) (hss : ∀ i, i < n → sgP ss i) (hsg : sg = -1 ∨ (sg = nI (ix sg) ∧ ix sg < n)) : kI l D cy yX1_append wsX1_append (krm 2 45) [.ref a0, .int sg, .int fr_, .int to_, .int li_] (wT cy a0 a1 a2 a3 a4 a5 a6 a7 a8 fs ss fd ed lm dd ce cw n) (fun (r : Int32) (u : Unit) => r = nI n) (fun _ : Unit => wT cy a0 a1 a2 a3 a4 a5 a6 a7 a8 (upd fs n sg) (upd ss n (-1)) (upd fd n fr_) (upd ed n to_) (upd lm n li_) (upd dd n (-1)) (ucE (upd fs n sg) (upd ss n (-1)) (upd ed n to_) n ce 1) (ucC (upd fs n sg) (upd ss n (-1)) n cw 1) (n + 1)) := by
  refine kI.of (cc := cX1_append) (maxL := 6) (rt := .int) (Or.inl rfl) (by decide) rfl (Nat.le_of_ble_eq_true rfl) ?_
  intro p e s m args below meth c Q A ls hx hb hml hown hts hE hA hP hD hl hret
  have hS : va_S A s.heap s.heap [] := va_S.rf
  have hl : lv_has ls 6 [(0, .ref a0), (1, .int sg), (2, .int fr_), (3, .int to_), (4, .int li_)] := hl
  have g_X1 : ∀ w ∈ wsX10, w ∈ wsX1_append := by decide +kernel
  have f_36 := hts (.fieldLink RX1 36 "CertHerd$IssuerTable" "count" "I") (by decide +kernel)
  have f_11 := hts (.fieldLink RX1 11 "CertHerd$IssuerTable" "firstSigners" "[I") (by decide +kernel)
  have f_15 := hts (.fieldLink RX1 15 "CertHerd$IssuerTable" "secondSigners" "[I") (by decide +kernel)
  have f_18 := hts (.fieldLink RX1 18 "CertHerd$IssuerTable" "firstDays" "[I") (by decide +kernel)
  have f_21 := hts (.fieldLink RX1 21 "CertHerd$IssuerTable" "endDays" "[I") (by decide +kernel)
  have f_24 := hts (.fieldLink RX1 24 "CertHerd$IssuerTable" "limits" "[I") (by decide +kernel)
  have f_27 := hts (.fieldLink RX1 27 "CertHerd$IssuerTable" "distrustDays" "[I") (by decide +kernel)
  refine lv_aload_n hx hb dX1_append_0 rfl (lv_at hl 0 rfl) ?_
  refine va_get (D := D) (ci := 1) (v := .int (nI n)) (C := RX1) (T := TX1) (N := 9) hx hb hts g_X1 hown hE.1 hP 0 rfl rfl 8 (by decide) f_36 (fun _ h9 => h9) rfl dX1_append_1 ?_
  refine lv_istore (lv' := [(5, .int (nI n)), (0, .ref a0), (1, .int sg), (2, .int fr_), (3, .int to_), (4, .int li_)]) hx hb dX1_append_4 hl (by decide) rfl (fun ls hl => ?_)
  refine lv_aload_n hx hb dX1_append_6 rfl (lv_at hl 1 rfl) ?_
  refine va_get (D := D) (ci := 1) (v := .ref a1) (C := RX1) (T := TX1) (N := 9) hx hb hts g_X1 hown hE.1 hP 0 rfl rfl 0 (by decide) f_11 (fun _ h9 => h9) rfl dX1_append_7 ?_
  refine lv_iload hx hb dX1_append_10 (lv_at hl 0 rfl) ?_
  refine lv_iload_n hx hb dX1_append_12 rfl (lv_at hl 2 rfl) ?_
  refine k_ist hx hb hE.1 hP hD hS 1 0 rfl rfl (j := n) (by omega) (by decide) dX1_append_13 (fun H locs hP hD hS => ?_)
  have hP : va_P D vwCl (wT cy a0 a1 a2 a3 a4 a5 a6 a7 a8 (upd fs n sg) ss fd ed lm dd ce cw n) H := hP
  have hD : va_D A (wT cy a0 a1 a2 a3 a4 a5 a6 a7 a8 (upd fs n sg) ss fd ed lm dd ce cw n) := hD
  refine lv_aload_n hx hb dX1_append_14 rfl (lv_at hl 1 rfl) ?_
  refine va_get (D := D) (ci := 1) (v := .ref a2) (C := RX1) (T := TX1) (N := 9) hx hb hts g_X1 hown hE.1 hP 0 rfl rfl 1 (by decide) f_15 (fun _ h9 => h9) rfl dX1_append_15 ?_
  refine lv_iload hx hb dX1_append_18 (lv_at hl 0 rfl) ?_
  refine lv_iconst (v := (-1)) hx hb dX1_append_20 (by decide) ?_
  refine k_ist hx hb hE.1 hP hD hS 2 0 rfl rfl (j := n) (by omega) (by decide) dX1_append_21 (fun H locs hP hD hS => ?_)
  have hP : va_P D vwCl (wT cy a0 a1 a2 a3 a4 a5 a6 a7 a8 (upd fs n sg) (upd ss n (-1)) fd ed lm dd ce cw n) H := hP
  have hD : va_D A (wT cy a0 a1 a2 a3 a4 a5 a6 a7 a8 (upd fs n sg) (upd ss n (-1)) fd ed lm dd ce cw n) := hD
  refine lv_aload_n hx hb dX1_append_22 rfl (lv_at hl 1 rfl) ?_
  refine va_get (D := D) (ci := 1) (v := .ref a3) (C := RX1) (T := TX1) (N := 9) hx hb hts g_X1 hown hE.1 hP 0 rfl rfl 2 (by decide) f_18 (fun _ h9 => h9) rfl dX1_append_23 ?_
  refine lv_iload hx hb dX1_append_26 (lv_at hl 0 rfl) ?_
  refine lv_iload_n hx hb dX1_append_28 rfl (lv_at hl 3 rfl) ?_
  refine k_ist hx hb hE.1 hP hD hS 3 0 rfl rfl (j := n) (by omega) (by decide) dX1_append_29 (fun H locs hP hD hS => ?_)
  have hP : va_P D vwCl (wT cy a0 a1 a2 a3 a4 a5 a6 a7 a8 (upd fs n sg) (upd ss n (-1)) (upd fd n fr_) ed lm dd ce cw n) H := hP
  have hD : va_D A (wT cy a0 a1 a2 a3 a4 a5 a6 a7 a8 (upd fs n sg) (upd ss n (-1)) (upd fd n fr_) ed lm dd ce cw n) := hD
  refine lv_aload_n hx hb dX1_append_30 rfl (lv_at hl 1 rfl) ?_
  refine va_get (D := D) (ci := 1) (v := .ref a4) (C := RX1) (T := TX1) (N := 9) hx hb hts g_X1 hown hE.1 hP 0 rfl rfl 3 (by decide) f_21 (fun _ h9 => h9) rfl dX1_append_31 ?_
  refine lv_iload hx hb dX1_append_34 (lv_at hl 0 rfl) ?_
  refine lv_iload_n hx hb dX1_append_36 rfl (lv_at hl 4 rfl) ?_
  refine k_ist hx hb hE.1 hP hD hS 4 0 rfl rfl (j := n) (by omega) (by decide) dX1_append_37 (fun H locs hP hD hS => ?_)
  have hP : va_P D vwCl (wT cy a0 a1 a2 a3 a4 a5 a6 a7 a8 (upd fs n sg) (upd ss n (-1)) (upd fd n fr_) (upd ed n to_) lm dd ce cw n) H := hP
  have hD : va_D A (wT cy a0 a1 a2 a3 a4 a5 a6 a7 a8 (upd fs n sg) (upd ss n (-1)) (upd fd n fr_) (upd ed n to_) lm dd ce cw n) := hD
  refine lv_aload_n hx hb dX1_append_38 rfl (lv_at hl 1 rfl) ?_
  refine va_get (D := D) (ci := 1) (v := .ref a5) (C := RX1) (T := TX1) (N := 9) hx hb hts g_X1 hown hE.1 hP 0 rfl rfl 4 (by decide) f_24 (fun _ h9 => h9) rfl dX1_append_39 ?_
  refine lv_iload hx hb dX1_append_42 (lv_at hl 0 rfl) ?_
  refine lv_iload hx hb dX1_append_44 (lv_at hl 5 rfl) ?_
  refine k_ist hx hb hE.1 hP hD hS 5 0 rfl rfl (j := n) (by omega) (by decide) dX1_append_46 (fun H locs hP hD hS => ?_)
  have hP : va_P D vwCl (wT cy a0 a1 a2 a3 a4 a5 a6 a7 a8 (upd fs n sg) (upd ss n (-1)) (upd fd n fr_) (upd ed n to_) (upd lm n li_) dd ce cw n) H := hP
  have hD : va_D A (wT cy a0 a1 a2 a3 a4 a5 a6 a7 a8 (upd fs n sg) (upd ss n (-1)) (upd fd n fr_) (upd ed n to_) (upd lm n li_) dd ce cw n) := hD
  refine lv_aload_n hx hb dX1_append_47 rfl (lv_at hl 1 rfl) ?_
  refine va_get (D := D) (ci := 1) (v := .ref a6) (C := RX1) (T := TX1) (N := 9) hx hb hts g_X1 hown hE.1 hP 0 rfl rfl 5 (by decide) f_27 (fun _ h9 => h9) rfl dX1_append_48 ?_
  refine lv_iload hx hb dX1_append_51 (lv_at hl 0 rfl) ?_
  refine lv_iconst (v := (-1)) hx hb dX1_append_53 (by decide) ?_
  refine k_ist hx hb hE.1 hP hD hS 6 0 rfl rfl (j := n) (by omega) (by decide) dX1_append_54 (fun H locs hP hD hS => ?_)
  have hP : va_P D vwCl (wT cy a0 a1 a2 a3 a4 a5 a6 a7 a8 (upd fs n sg) (upd ss n (-1)) (upd fd n fr_) (upd ed n to_) (upd lm n li_) (upd dd n (-1)) ce cw n) H := hP
  have hD : va_D A (wT cy a0 a1 a2 a3 a4 a5 a6 a7 a8 (upd fs n sg) (upd ss n (-1)) (upd fd n fr_) (upd ed n to_) (upd lm n li_) (upd dd n (-1)) ce cw n) := hD
  refine lv_aload_n hx hb dX1_append_55 rfl (lv_at hl 1 rfl) ?_
  refine lv_dup hx hb dX1_append_56 rfl ?_
  refine va_get (D := D) (ci := 1) (v := .int (nI n)) (C := RX1) (T := TX1) (N := 9) hx hb hts g_X1 hown hE.1 hP 0 rfl rfl 8 (by decide) f_36 (fun _ h9 => h9) rfl dX1_append_57 ?_
  refine lv_iconst (v := 1) hx hb dX1_append_60 (by decide) ?_
  refine lv_iadd hx hb dX1_append_61 ?_
  refine k_top (z := nI (n + 1)) (nI_1 _) ?_
  refine va_put (D := D) (ci := 1) (v := .int (nI (n + 1))) (ty := .int) (C := RX1) (T := TX1) (N := 9) hx hb hts g_X1 tyX1 tyX1_ok nmX1 hown hE.1 hP hD hS 0 rfl rfl 8 (by decide) f_36 (fun _ h9 => h9) rfl (by decide +kernel) rfl rfl (Nat.le_of_ble_eq_true rfl) dX1_append_62 (fun H locs hP hD hS => ?_)
  have hP : va_P D vwCl (wT cy a0 a1 a2 a3 a4 a5 a6 a7 a8 (upd fs n sg) (upd ss n (-1)) (upd fd n fr_) (upd ed n to_) (upd lm n li_) (upd dd n (-1)) ce cw (n + 1)) H := hP
  have hD : va_D A (wT cy a0 a1 a2 a3 a4 a5 a6 a7 a8 (upd fs n sg) (upd ss n (-1)) (upd fd n fr_) (upd ed n to_) (upd lm n li_) (upd dd n (-1)) ce cw (n + 1)) := hD
  refine lv_aload_n hx hb dX1_append_65 rfl (lv_at hl 1 rfl) ?_
  refine lv_iload hx hb dX1_append_66 (lv_at hl 0 rfl) ?_
  refine kcW_v (n := 1) (wc := wT cy a0 a1 a2 a3 a4 a5 a6 a7 a8 (upd fs n sg) (upd ss n (-1)) (upd fd n fr_) (upd ed n to_) (upd lm n li_) (upd dd n (-1)) ce cw (n + 1)) (As := [.int (nI n)]) (rest := []) ⟨hx, hb, hml, hown, hts⟩ hE hA hP hD hS (c_X1_updateChains l D cy a0 a1 a2 a3 a4 a5 a6 a7 a8 (upd fs n sg) (upd ss n (-1)) (upd fd n fr_) (upd ed n to_) (upd lm n li_) (upd dd n (-1)) ce cw (n + 1) n (by omega) (sgP_upd hfs hsg) (sgP_upd hss (Or.inl rfl)) (by omega)) (fun _ => rfl) (q0 := 0) (ci := 1) rfl rfl gX1_append_X1_updateChains rfl rfl rfl ⟨rfl, by decide, by decide, by decide +kernel⟩ ⟨Nat.le_of_ble_eq_true rfl, Nat.le_of_ble_eq_true rfl⟩ rfl hl.1 rfl (Nat.le_of_ble_eq_true rfl) dX1_append_68 ⟨Nat.zero_le _, Nat.zero_le _⟩ (fun u H locs e_2 hP hD hS => ?_)
  have hP : va_P D vwCl (wT cy a0 a1 a2 a3 a4 a5 a6 a7 a8 (upd fs n sg) (upd ss n (-1)) (upd fd n fr_) (upd ed n to_) (upd lm n li_) (upd dd n (-1)) (ucE (upd fs n sg) (upd ss n (-1)) (upd ed n to_) n ce ((n + 1) - n)) (ucC (upd fs n sg) (upd ss n (-1)) n cw ((n + 1) - n)) (n + 1)) H := hP
  have hD : va_D A (wT cy a0 a1 a2 a3 a4 a5 a6 a7 a8 (upd fs n sg) (upd ss n (-1)) (upd fd n fr_) (upd ed n to_) (upd lm n li_) (upd dd n (-1)) (ucE (upd fs n sg) (upd ss n (-1)) (upd ed n to_) n ce ((n + 1) - n)) (ucC (upd fs n sg) (upd ss n (-1)) n cw ((n + 1) - n)) (n + 1)) := hD
  refine lv_iload hx hb dX1_append_71 (lv_at hl 0 rfl) ?_
  have w_ce : ucE (upd fs n sg) (upd ss n (-1)) (upd ed n to_) n ce ((n + 1) - n) = ucE (upd fs n sg) (upd ss n (-1)) (upd ed n to_) n ce 1 := (by rw [show n + 1 - n = 1 by omega])
  have w_cw : ucC (upd fs n sg) (upd ss n (-1)) n cw ((n + 1) - n) = ucC (upd fs n sg) (upd ss n (-1)) n cw 1 := (by rw [show n + 1 - n = 1 by omega])
  exact hret _ _ _ _ (nI n) () dX1_append_73 (Or.inl rfl) rfl (by show va_P D vwCl (wT cy a0 a1 a2 a3 a4 a5 a6 a7 a8 (upd fs n sg) (upd ss n (-1)) (upd fd n fr_) (upd ed n to_) (upd lm n li_) (upd dd n (-1)) (ucE (upd fs n sg) (upd ss n (-1)) (upd ed n to_) n ce 1) (ucC (upd fs n sg) (upd ss n (-1)) n cw 1) (n + 1)) _; rw [← w_ce, ← w_cw]; exact hP) hS
