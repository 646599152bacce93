set_option maxHeartbeats 4000000 in
set_option maxRecDepth 100000 in
theorem c_X3_isGood (l : Launch) (D : va_G) (cy : ClassId × ClassId × ClassId) (m0 m1 m2 m3 m4 m5 m6 m7 m8 m9 m10 m11 m12 m13 m14 m15 m16 m17 : Nat) (th td sed : Int32) (mi : Nat) (fr to lim f1 f2 dis pin ag en cm : Nat → Int32) (mc : Nat) (su isu fir lgt ofs rn wsn : Nat → Int32) (i_ : Int32) (d_ : Int32) (hm : mi ≤ 8) (h1 : ∀ i, i < mi → sgP f1 i) (h2 : ∀ i, i < mi → sgP f2 i) (hcd : cdID mi i_ d_ = 0) : kI l D cy yX3_isGood wsX3_isGood (krm 2 49) [.ref m0, .int i_, .int d_] (wM cy m0 m1 m2 m3 m4 m5 m6 m7 m8 m9 m10 m11 m12 m13 m14 m15 m16 m17 th td sed mi fr to lim f1 f2 dis pin ag en cm mc su isu fir lgt ofs rn wsn) (fun (r : Int32) (u : (Nat → Int32)) => r = bI (gd f1 f2 fr to dis d_ (-1) (ix i_) = true)) (fun u : (Nat → Int32) => wM cy m0 m1 m2 m3 m4 m5 m6 m7 m8 m9 m10 m11 m12 m13 m14 m15 m16 m17 0 td sed mi fr to lim f1 f2 dis pin u en cm mc su isu fir lgt ofs rn wsn) := by
  refine kI.of (cc := cX3_isGood) (maxL := 3) (rt := .boolean) (Or.inr rfl) (by decide) rfl (Nat.le_of_ble_eq_true rfl) ?_
  intro p e s m args below meth c Q A ls hx hb hml hown hts hE hA hP hD hl hret
  have hS : va_S A s.heap s.heap [] := va_S.rf
  have hl : lv_has ls 3 [(0, .ref m0), (1, .int i_), (2, .int d_)] := hl
  have g_X3 : ∀ w ∈ wsX30, w ∈ wsX3_isGood := by decide +kernel
  have f_66 := hts (.fieldLink RX3 66 "CertHerdModel" "thrown" "I") (by decide +kernel)
  refine lv_aload_n hx hb dX3_isGood_0 rfl (lv_at hl 0 rfl) ?_
  refine lv_aload_n hx hb dX3_isGood_1 rfl (lv_at hl 0 rfl) ?_
  refine lv_iload_n hx hb dX3_isGood_2 rfl (lv_at hl 1 rfl) ?_
  refine kcW_i (n := 1) (wc := wM cy m0 m1 m2 m3 m4 m5 m6 m7 m8 m9 m10 m11 m12 m13 m14 m15 m16 m17 th td sed mi fr to lim f1 f2 dis pin ag en cm mc su isu fir lgt ofs rn wsn) (As := [.int i_]) (rest := [.ref m0]) ⟨hx, hb, hml, hown, hts⟩ hE hA hP hD hS (c_X3_isIssuer l D cy m0 m1 m2 m3 m4 m5 m6 m7 m8 m9 m10 m11 m12 m13 m14 m15 m16 m17 th td sed mi fr to lim f1 f2 dis pin ag en cm mc su isu fir lgt ofs rn wsn i_ (by first | assumption | omega)) (fun _ => rfl) (q0 := 0) (ci := 3) rfl rfl gX3_isGood_X3_isIssuer rfl rfl rfl ⟨rfl, by decide, by decide, by decide +kernel⟩ ⟨Nat.le_of_ble_eq_true rfl, Nat.le_of_ble_eq_true rfl⟩ rfl hl.1 rfl (Nat.le_of_ble_eq_true rfl) dX3_isGood_3 ⟨Nat.zero_le _, Nat.zero_le _⟩ (fun r_1 u H locs e_2 hP hD hS => ?_)
  have hP : va_P D vwCl (wM cy m0 m1 m2 m3 m4 m5 m6 m7 m8 m9 m10 m11 m12 m13 m14 m15 m16 m17 th td sed mi fr to lim f1 f2 dis pin ag en cm mc su isu fir lgt ofs rn wsn) H := hP
  have hD : va_D A (wM cy m0 m1 m2 m3 m4 m5 m6 m7 m8 m9 m10 m11 m12 m13 m14 m15 m16 m17 th td sed mi fr to lim f1 f2 dis pin ag en cm mc su isu fir lgt ofs rn wsn) := hD
  have e_2 : r_1 = bI (badI mi i_ = false) := e_2
  subst e_2
  refine k_ifne (tgt := 13) hx hb dX3_isGood_6 (by decide) (fun c_6 => ?_) (fun c_6 => ?_)
  · refine lv_iload_n hx hb dX3_isGood_13 rfl (lv_at hl 2 rfl) ?_
    refine kcS_i (n := 1) (X := []) (wc := []) (Y := wM cy m0 m1 m2 m3 m4 m5 m6 m7 m8 m9 m10 m11 m12 m13 m14 m15 m16 m17 th td sed mi fr to lim f1 f2 dis pin ag en cm mc su isu fir lgt ofs rn wsn) (As := [.int d_]) (rest := [.ref m0]) ⟨hx, hb, hml, hown, hts⟩ hE hA hP hD hS (c_X3_isDay l D cy d_) (fun _ => rfl) gX3_isGood_X3_isDay rfl rfl rfl ⟨by decide, by decide, by decide +kernel⟩ ⟨Nat.le_of_ble_eq_true rfl, Nat.le_of_ble_eq_true rfl⟩ rfl hl.1 rfl (Nat.le_of_ble_eq_true rfl) dX3_isGood_14 ⟨Nat.zero_le _, Nat.zero_le _⟩ (fun r_3 u H locs e_4 hP hD hS => ?_)
    have hP : va_P D vwCl (wM cy m0 m1 m2 m3 m4 m5 m6 m7 m8 m9 m10 m11 m12 m13 m14 m15 m16 m17 th td sed mi fr to lim f1 f2 dis pin ag en cm mc su isu fir lgt ofs rn wsn) H := hP
    have hD : va_D A (wM cy m0 m1 m2 m3 m4 m5 m6 m7 m8 m9 m10 m11 m12 m13 m14 m15 m16 m17 th td sed mi fr to lim f1 f2 dis pin ag en cm mc su isu fir lgt ofs rn wsn) := hD
    have e_4 : r_3 = bI (badD d_ = false) := e_4
    subst e_4
    refine k_ifeq (tgt := 24) hx hb dX3_isGood_17 (by decide) (fun c_17 => ?_) (fun c_17 => ?_)
    · refine lv_iconst (v := 2) hx hb dX3_isGood_24 (by decide) ?_
      refine va_put (D := D) (ci := 3) (v := .int 2) (ty := .int) (C := RX3) (T := TX3) (N := 22) hx hb hts g_X3 tyX3 tyX3_ok nmX3 hown hE.1 hP hD hS 0 rfl rfl 0 (by decide) f_66 (fun _ h9 => h9) rfl (by decide +kernel) rfl rfl (Nat.le_of_ble_eq_true rfl) dX3_isGood_25 (fun H locs hP hD hS => ?_)
      have hP : va_P D vwCl (wM cy m0 m1 m2 m3 m4 m5 m6 m7 m8 m9 m10 m11 m12 m13 m14 m15 m16 m17 2 td sed mi fr to lim f1 f2 dis pin ag en cm mc su isu fir lgt ofs rn wsn) H := hP
      have hD : va_D A (wM cy m0 m1 m2 m3 m4 m5 m6 m7 m8 m9 m10 m11 m12 m13 m14 m15 m16 m17 2 td sed mi fr to lim f1 f2 dis pin ag en cm mc su isu fir lgt ofs rn wsn) := hD
      refine lv_aload_n hx hb dX3_isGood_28 rfl (lv_at hl 0 rfl) ?_
      refine va_get (D := D) (ci := 3) (v := .int 2) (C := RX3) (T := TX3) (N := 22) hx hb hts g_X3 hown hE.1 hP 0 rfl rfl 0 (by decide) f_66 (fun _ h9 => h9) rfl dX3_isGood_29 ?_
      refine lv_if_ne (tgt := 49) hx hb dX3_isGood_32 (by decide) (fun _ => ?_) (fun c_32 => absurd c_32 (by decide))
      refine lv_iconst (v := 0) hx hb dX3_isGood_49 (by decide) ?_
      exact absurd hcd (by simp [cdID, c_6, c_17])
    · refine lv_iconst (v := 0) hx hb dX3_isGood_20 (by decide) ?_
      refine lv_goto (tgt := 25) hx hb dX3_isGood_21 (by decide) ?_
      refine va_put (D := D) (ci := 3) (v := .int 0) (ty := .int) (C := RX3) (T := TX3) (N := 22) hx hb hts g_X3 tyX3 tyX3_ok nmX3 hown hE.1 hP hD hS 0 rfl rfl 0 (by decide) f_66 (fun _ h9 => h9) rfl (by decide +kernel) rfl rfl (Nat.le_of_ble_eq_true rfl) dX3_isGood_25 (fun H locs hP hD hS => ?_)
      have hP : va_P D vwCl (wM cy m0 m1 m2 m3 m4 m5 m6 m7 m8 m9 m10 m11 m12 m13 m14 m15 m16 m17 0 td sed mi fr to lim f1 f2 dis pin ag en cm mc su isu fir lgt ofs rn wsn) H := hP
      have hD : va_D A (wM cy m0 m1 m2 m3 m4 m5 m6 m7 m8 m9 m10 m11 m12 m13 m14 m15 m16 m17 0 td sed mi fr to lim f1 f2 dis pin ag en cm mc su isu fir lgt ofs rn wsn) := hD
      refine lv_aload_n hx hb dX3_isGood_28 rfl (lv_at hl 0 rfl) ?_
      refine va_get (D := D) (ci := 3) (v := .int 0) (C := RX3) (T := TX3) (N := 22) hx hb hts g_X3 hown hE.1 hP 0 rfl rfl 0 (by decide) f_66 (fun _ h9 => h9) rfl dX3_isGood_29 ?_
      refine lv_if_ne (tgt := 49) hx hb dX3_isGood_32 (by decide) (fun c_32 => absurd c_32 (by decide)) (fun _ => ?_)
      have hix_i_ := (badI_ok (i := i_) (by assumption) (by omega)).2
      refine lv_aload_n hx hb dX3_isGood_35 rfl (lv_at hl 0 rfl) ?_
      refine lv_iload_n hx hb dX3_isGood_36 rfl (lv_at hl 1 rfl) ?_
      refine k_top (z := nI (ix i_)) (badI_ok (i := i_) (by assumption) (by omega)).1 ?_
      refine lv_iload_n hx hb dX3_isGood_37 rfl (lv_at hl 2 rfl) ?_
      refine lv_iconst (v := (-1)) hx hb dX3_isGood_38 (by decide) ?_
      refine kcW_i (n := 3) (wc := wM cy m0 m1 m2 m3 m4 m5 m6 m7 m8 m9 m10 m11 m12 m13 m14 m15 m16 m17 0 td sed mi fr to lim f1 f2 dis pin ag en cm mc su isu fir lgt ofs rn wsn) (As := [.int (nI (ix i_)), .int d_, .int (-1)]) (rest := []) ⟨hx, hb, hml, hown, hts⟩ hE hA hP hD hS (c_X3_holds l D cy m0 m1 m2 m3 m4 m5 m6 m7 m8 m9 m10 m11 m12 m13 m14 m15 m16 m17 0 td sed mi fr to lim f1 f2 dis pin ag en cm mc su isu fir lgt ofs rn wsn (ix i_) d_ (-1) (by first | assumption | omega) (by first | assumption | omega) (by first | assumption | omega) hix_i_) (fun _ => Eq.trans (b := [m0, m1, m2, m3, m4, m5, m6, m7, m8, m9, m10, m11, m12, m13, m14, m15, m16, m17]) rfl rfl) (q0 := 0) (ci := 3) rfl rfl gX3_isGood_X3_holds rfl rfl rfl ⟨rfl, by decide, by decide, by decide +kernel⟩ ⟨Nat.le_of_ble_eq_true rfl, Nat.le_of_ble_eq_true rfl⟩ rfl hl.1 rfl (Nat.le_of_ble_eq_true rfl) dX3_isGood_39 ⟨Nat.zero_le _, Nat.zero_le _⟩ (fun r_5 u H locs e_6 hP hD hS => ?_)
      obtain ⟨ag_7, rfl⟩ : ∃ z, z = u := ⟨_, rfl⟩
      have hP : va_P D vwCl (wM cy m0 m1 m2 m3 m4 m5 m6 m7 m8 m9 m10 m11 m12 m13 m14 m15 m16 m17 0 td sed mi fr to lim f1 f2 dis pin ag_7 en cm mc su isu fir lgt ofs rn wsn) H := hP
      have hD : va_D A (wM cy m0 m1 m2 m3 m4 m5 m6 m7 m8 m9 m10 m11 m12 m13 m14 m15 m16 m17 0 td sed mi fr to lim f1 f2 dis pin ag_7 en cm mc su isu fir lgt ofs rn wsn) := hD
      have e_6 : r_5 = bI (gd f1 f2 fr to dis d_ (-1) (ix i_) = true) := e_6
      subst e_6
      refine k_ifeq (tgt := 49) hx hb dX3_isGood_42 (by decide) (fun c_42 => ?_) (fun c_42 => ?_)
      · refine lv_iconst (v := 0) hx hb dX3_isGood_49 (by decide) ?_
        exact hret _ _ _ _ 0 ag_7 dX3_isGood_50 (Or.inr (Or.inl rfl)) (bI_f (by simp [c_6, c_17, c_42])).symm hP hS
      · refine lv_iconst (v := 1) hx hb dX3_isGood_45 (by decide) ?_
        refine lv_goto (tgt := 50) hx hb dX3_isGood_46 (by decide) ?_
        exact hret _ _ _ _ 1 ag_7 dX3_isGood_50 (Or.inr (Or.inr rfl)) (bI_t (by simp [c_6, c_17, c_42])).symm hP hS
  · refine lv_iconst (v := 1) hx hb dX3_isGood_9 (by decide) ?_
    refine lv_goto (tgt := 25) hx hb dX3_isGood_10 (by decide) ?_
    refine va_put (D := D) (ci := 3) (v := .int 1) (ty := .int) (C := RX3) (T := TX3) (N := 22) hx hb hts g_X3 tyX3 tyX3_ok nmX3 hown hE.1 hP hD hS 0 rfl rfl 0 (by decide) f_66 (fun _ h9 => h9) rfl (by decide +kernel) rfl rfl (Nat.le_of_ble_eq_true rfl) dX3_isGood_25 (fun H locs hP hD hS => ?_)
    have hP : va_P D vwCl (wM cy m0 m1 m2 m3 m4 m5 m6 m7 m8 m9 m10 m11 m12 m13 m14 m15 m16 m17 1 td sed mi fr to lim f1 f2 dis pin ag en cm mc su isu fir lgt ofs rn wsn) H := hP
    have hD : va_D A (wM cy m0 m1 m2 m3 m4 m5 m6 m7 m8 m9 m10 m11 m12 m13 m14 m15 m16 m17 1 td sed mi fr to lim f1 f2 dis pin ag en cm mc su isu fir lgt ofs rn wsn) := hD
    refine lv_aload_n hx hb dX3_isGood_28 rfl (lv_at hl 0 rfl) ?_
    refine va_get (D := D) (ci := 3) (v := .int 1) (C := RX3) (T := TX3) (N := 22) hx hb hts g_X3 hown hE.1 hP 0 rfl rfl 0 (by decide) f_66 (fun _ h9 => h9) rfl dX3_isGood_29 ?_
    refine lv_if_ne (tgt := 49) hx hb dX3_isGood_32 (by decide) (fun _ => ?_) (fun c_32 => absurd c_32 (by decide))
    refine lv_iconst (v := 0) hx hb dX3_isGood_49 (by decide) ?_
    exact absurd hcd (by simp [cdID, c_6])

set_option maxHeartbeats 4000000 in
set_option maxRecDepth 100000 in
theorem c_X3_isGood_f (l : Launch) (D : va_G) (cy : ClassId × ClassId × ClassId) (m0 m1 m2 m3 m4 m5 m6 m7 m8 m9 m10 m11 m12 m13 m14 m15 m16 m17 : Nat) (th td sed : Int32) (mi : Nat) (fr to lim f1 f2 dis pin ag en cm : Nat → Int32) (mc : Nat) (su isu fir lgt ofs rn wsn : Nat → Int32) (i_ : Int32) (d_ : Int32) (hm : mi ≤ 8) (h1 : ∀ i, i < mi → sgP f1 i) (h2 : ∀ i, i < mi → sgP f2 i) (hcd : ¬ cdID mi i_ d_ = 0) : kI l D cy yX3_isGood wsX3_isGood (krm 2 49) [.ref m0, .int i_, .int d_] (wM cy m0 m1 m2 m3 m4 m5 m6 m7 m8 m9 m10 m11 m12 m13 m14 m15 m16 m17 th td sed mi fr to lim f1 f2 dis pin ag en cm mc su isu fir lgt ofs rn wsn) (fun (r : Int32) (u : (Nat → Int32)) => True) (fun u : (Nat → Int32) => wM cy m0 m1 m2 m3 m4 m5 m6 m7 m8 m9 m10 m11 m12 m13 m14 m15 m16 m17 (cdID mi i_ d_) td sed mi fr to lim f1 f2 dis pin u en cm mc su isu fir lgt ofs rn wsn) := by
  refine kI.of (cc := cX3_isGood) (maxL := 3) (rt := .boolean) (Or.inr rfl) (by decide) rfl (Nat.le_of_ble_eq_true rfl) ?_
  intro p e s m args below meth c Q A ls hx hb hml hown hts hE hA hP hD hl hret
  have hS : va_S A s.heap s.heap [] := va_S.rf
  have hl : lv_has ls 3 [(0, .ref m0), (1, .int i_), (2, .int d_)] := hl
  have g_X3 : ∀ w ∈ wsX30, w ∈ wsX3_isGood := by decide +kernel
  have f_66 := hts (.fieldLink RX3 66 "CertHerdModel" "thrown" "I") (by decide +kernel)
  refine lv_aload_n hx hb dX3_isGood_0 rfl (lv_at hl 0 rfl) ?_
  refine lv_aload_n hx hb dX3_isGood_1 rfl (lv_at hl 0 rfl) ?_
  refine lv_iload_n hx hb dX3_isGood_2 rfl (lv_at hl 1 rfl) ?_
  refine kcW_i (n := 1) (wc := wM cy m0 m1 m2 m3 m4 m5 m6 m7 m8 m9 m10 m11 m12 m13 m14 m15 m16 m17 th td sed mi fr to lim f1 f2 dis pin ag en cm mc su isu fir lgt ofs rn wsn) (As := [.int i_]) (rest := [.ref m0]) ⟨hx, hb, hml, hown, hts⟩ hE hA hP hD hS (c_X3_isIssuer l D cy m0 m1 m2 m3 m4 m5 m6 m7 m8 m9 m10 m11 m12 m13 m14 m15 m16 m17 th td sed mi fr to lim f1 f2 dis pin ag en cm mc su isu fir lgt ofs rn wsn i_ (by first | assumption | omega)) (fun _ => rfl) (q0 := 0) (ci := 3) rfl rfl gX3_isGood_X3_isIssuer rfl rfl rfl ⟨rfl, by decide, by decide, by decide +kernel⟩ ⟨Nat.le_of_ble_eq_true rfl, Nat.le_of_ble_eq_true rfl⟩ rfl hl.1 rfl (Nat.le_of_ble_eq_true rfl) dX3_isGood_3 ⟨Nat.zero_le _, Nat.zero_le _⟩ (fun r_1 u H locs e_2 hP hD hS => ?_)
  have hP : va_P D vwCl (wM cy m0 m1 m2 m3 m4 m5 m6 m7 m8 m9 m10 m11 m12 m13 m14 m15 m16 m17 th td sed mi fr to lim f1 f2 dis pin ag en cm mc su isu fir lgt ofs rn wsn) H := hP
  have hD : va_D A (wM cy m0 m1 m2 m3 m4 m5 m6 m7 m8 m9 m10 m11 m12 m13 m14 m15 m16 m17 th td sed mi fr to lim f1 f2 dis pin ag en cm mc su isu fir lgt ofs rn wsn) := hD
  have e_2 : r_1 = bI (badI mi i_ = false) := e_2
  subst e_2
  refine k_ifne (tgt := 13) hx hb dX3_isGood_6 (by decide) (fun c_6 => ?_) (fun c_6 => ?_)
  · refine lv_iload_n hx hb dX3_isGood_13 rfl (lv_at hl 2 rfl) ?_
    refine kcS_i (n := 1) (X := []) (wc := []) (Y := wM cy m0 m1 m2 m3 m4 m5 m6 m7 m8 m9 m10 m11 m12 m13 m14 m15 m16 m17 th td sed mi fr to lim f1 f2 dis pin ag en cm mc su isu fir lgt ofs rn wsn) (As := [.int d_]) (rest := [.ref m0]) ⟨hx, hb, hml, hown, hts⟩ hE hA hP hD hS (c_X3_isDay l D cy d_) (fun _ => rfl) gX3_isGood_X3_isDay rfl rfl rfl ⟨by decide, by decide, by decide +kernel⟩ ⟨Nat.le_of_ble_eq_true rfl, Nat.le_of_ble_eq_true rfl⟩ rfl hl.1 rfl (Nat.le_of_ble_eq_true rfl) dX3_isGood_14 ⟨Nat.zero_le _, Nat.zero_le _⟩ (fun r_3 u H locs e_4 hP hD hS => ?_)
    have hP : va_P D vwCl (wM cy m0 m1 m2 m3 m4 m5 m6 m7 m8 m9 m10 m11 m12 m13 m14 m15 m16 m17 th td sed mi fr to lim f1 f2 dis pin ag en cm mc su isu fir lgt ofs rn wsn) H := hP
    have hD : va_D A (wM cy m0 m1 m2 m3 m4 m5 m6 m7 m8 m9 m10 m11 m12 m13 m14 m15 m16 m17 th td sed mi fr to lim f1 f2 dis pin ag en cm mc su isu fir lgt ofs rn wsn) := hD
    have e_4 : r_3 = bI (badD d_ = false) := e_4
    subst e_4
    refine k_ifeq (tgt := 24) hx hb dX3_isGood_17 (by decide) (fun c_17 => ?_) (fun c_17 => ?_)
    · refine lv_iconst (v := 2) hx hb dX3_isGood_24 (by decide) ?_
      refine va_put (D := D) (ci := 3) (v := .int 2) (ty := .int) (C := RX3) (T := TX3) (N := 22) hx hb hts g_X3 tyX3 tyX3_ok nmX3 hown hE.1 hP hD hS 0 rfl rfl 0 (by decide) f_66 (fun _ h9 => h9) rfl (by decide +kernel) rfl rfl (Nat.le_of_ble_eq_true rfl) dX3_isGood_25 (fun H locs hP hD hS => ?_)
      have hP : va_P D vwCl (wM cy m0 m1 m2 m3 m4 m5 m6 m7 m8 m9 m10 m11 m12 m13 m14 m15 m16 m17 2 td sed mi fr to lim f1 f2 dis pin ag en cm mc su isu fir lgt ofs rn wsn) H := hP
      have hD : va_D A (wM cy m0 m1 m2 m3 m4 m5 m6 m7 m8 m9 m10 m11 m12 m13 m14 m15 m16 m17 2 td sed mi fr to lim f1 f2 dis pin ag en cm mc su isu fir lgt ofs rn wsn) := hD
      refine lv_aload_n hx hb dX3_isGood_28 rfl (lv_at hl 0 rfl) ?_
      refine va_get (D := D) (ci := 3) (v := .int 2) (C := RX3) (T := TX3) (N := 22) hx hb hts g_X3 hown hE.1 hP 0 rfl rfl 0 (by decide) f_66 (fun _ h9 => h9) rfl dX3_isGood_29 ?_
      refine lv_if_ne (tgt := 49) hx hb dX3_isGood_32 (by decide) (fun _ => ?_) (fun c_32 => absurd c_32 (by decide))
      refine lv_iconst (v := 0) hx hb dX3_isGood_49 (by decide) ?_
      have w_th : 2 = cdID mi i_ d_ := (by simp [cdID, c_6, c_17])
      exact hret _ _ _ _ 0 ag dX3_isGood_50 (Or.inr (Or.inl rfl)) trivial (by show va_P D vwCl (wM cy m0 m1 m2 m3 m4 m5 m6 m7 m8 m9 m10 m11 m12 m13 m14 m15 m16 m17 (cdID mi i_ d_) td sed mi fr to lim f1 f2 dis pin ag en cm mc su isu fir lgt ofs rn wsn) _; rw [← w_th]; exact hP) hS
    · refine lv_iconst (v := 0) hx hb dX3_isGood_20 (by decide) ?_
      refine lv_goto (tgt := 25) hx hb dX3_isGood_21 (by decide) ?_
      refine va_put (D := D) (ci := 3) (v := .int 0) (ty := .int) (C := RX3) (T := TX3) (N := 22) hx hb hts g_X3 tyX3 tyX3_ok nmX3 hown hE.1 hP hD hS 0 rfl rfl 0 (by decide) f_66 (fun _ h9 => h9) rfl (by decide +kernel) rfl rfl (Nat.le_of_ble_eq_true rfl) dX3_isGood_25 (fun H locs hP hD hS => ?_)
      have hP : va_P D vwCl (wM cy m0 m1 m2 m3 m4 m5 m6 m7 m8 m9 m10 m11 m12 m13 m14 m15 m16 m17 0 td sed mi fr to lim f1 f2 dis pin ag en cm mc su isu fir lgt ofs rn wsn) H := hP
      have hD : va_D A (wM cy m0 m1 m2 m3 m4 m5 m6 m7 m8 m9 m10 m11 m12 m13 m14 m15 m16 m17 0 td sed mi fr to lim f1 f2 dis pin ag en cm mc su isu fir lgt ofs rn wsn) := hD
      refine lv_aload_n hx hb dX3_isGood_28 rfl (lv_at hl 0 rfl) ?_
      refine va_get (D := D) (ci := 3) (v := .int 0) (C := RX3) (T := TX3) (N := 22) hx hb hts g_X3 hown hE.1 hP 0 rfl rfl 0 (by decide) f_66 (fun _ h9 => h9) rfl dX3_isGood_29 ?_
      refine lv_if_ne (tgt := 49) hx hb dX3_isGood_32 (by decide) (fun c_32 => absurd c_32 (by decide)) (fun _ => ?_)
      have hix_i_ := (badI_ok (i := i_) (by assumption) (by omega)).2
      refine lv_aload_n hx hb dX3_isGood_35 rfl (lv_at hl 0 rfl) ?_
      refine lv_iload_n hx hb dX3_isGood_36 rfl (lv_at hl 1 rfl) ?_
      refine k_top (z := nI (ix i_)) (badI_ok (i := i_) (by assumption) (by omega)).1 ?_
      refine lv_iload_n hx hb dX3_isGood_37 rfl (lv_at hl 2 rfl) ?_
      refine lv_iconst (v := (-1)) hx hb dX3_isGood_38 (by decide) ?_
      refine kcW_i (n := 3) (wc := wM cy m0 m1 m2 m3 m4 m5 m6 m7 m8 m9 m10 m11 m12 m13 m14 m15 m16 m17 0 td sed mi fr to lim f1 f2 dis pin ag en cm mc su isu fir lgt ofs rn wsn) (As := [.int (nI (ix i_)), .int d_, .int (-1)]) (rest := []) ⟨hx, hb, hml, hown, hts⟩ hE hA hP hD hS (c_X3_holds l D cy m0 m1 m2 m3 m4 m5 m6 m7 m8 m9 m10 m11 m12 m13 m14 m15 m16 m17 0 td sed mi fr to lim f1 f2 dis pin ag en cm mc su isu fir lgt ofs rn wsn (ix i_) d_ (-1) (by first | assumption | omega) (by first | assumption | omega) (by first | assumption | omega) hix_i_) (fun _ => Eq.trans (b := [m0, m1, m2, m3, m4, m5, m6, m7, m8, m9, m10, m11, m12, m13, m14, m15, m16, m17]) rfl rfl) (q0 := 0) (ci := 3) rfl rfl gX3_isGood_X3_holds rfl rfl rfl ⟨rfl, by decide, by decide, by decide +kernel⟩ ⟨Nat.le_of_ble_eq_true rfl, Nat.le_of_ble_eq_true rfl⟩ rfl hl.1 rfl (Nat.le_of_ble_eq_true rfl) dX3_isGood_39 ⟨Nat.zero_le _, Nat.zero_le _⟩ (fun r_5 u H locs e_6 hP hD hS => ?_)
      obtain ⟨ag_7, rfl⟩ : ∃ z, z = u := ⟨_, rfl⟩
      have hP : va_P D vwCl (wM cy m0 m1 m2 m3 m4 m5 m6 m7 m8 m9 m10 m11 m12 m13 m14 m15 m16 m17 0 td sed mi fr to lim f1 f2 dis pin ag_7 en cm mc su isu fir lgt ofs rn wsn) H := hP
      have hD : va_D A (wM cy m0 m1 m2 m3 m4 m5 m6 m7 m8 m9 m10 m11 m12 m13 m14 m15 m16 m17 0 td sed mi fr to lim f1 f2 dis pin ag_7 en cm mc su isu fir lgt ofs rn wsn) := hD
      have e_6 : r_5 = bI (gd f1 f2 fr to dis d_ (-1) (ix i_) = true) := e_6
      subst e_6
      refine k_ifeq (tgt := 49) hx hb dX3_isGood_42 (by decide) (fun c_42 => ?_) (fun c_42 => ?_)
      · refine lv_iconst (v := 0) hx hb dX3_isGood_49 (by decide) ?_
        exact absurd (by simp [cdID, c_6, c_17, c_42]) hcd
      · refine lv_iconst (v := 1) hx hb dX3_isGood_45 (by decide) ?_
        refine lv_goto (tgt := 50) hx hb dX3_isGood_46 (by decide) ?_
        exact absurd (by simp [cdID, c_6, c_17, c_42]) hcd
  · refine lv_iconst (v := 1) hx hb dX3_isGood_9 (by decide) ?_
    refine lv_goto (tgt := 25) hx hb dX3_isGood_10 (by decide) ?_
    refine va_put (D := D) (ci := 3) (v := .int 1) (ty := .int) (C := RX3) (T := TX3) (N := 22) hx hb hts g_X3 tyX3 tyX3_ok nmX3 hown hE.1 hP hD hS 0 rfl rfl 0 (by decide) f_66 (fun _ h9 => h9) rfl (by decide +kernel) rfl rfl (Nat.le_of_ble_eq_true rfl) dX3_isGood_25 (fun H locs hP hD hS => ?_)
    have hP : va_P D vwCl (wM cy m0 m1 m2 m3 m4 m5 m6 m7 m8 m9 m10 m11 m12 m13 m14 m15 m16 m17 1 td sed mi fr to lim f1 f2 dis pin ag en cm mc su isu fir lgt ofs rn wsn) H := hP
    have hD : va_D A (wM cy m0 m1 m2 m3 m4 m5 m6 m7 m8 m9 m10 m11 m12 m13 m14 m15 m16 m17 1 td sed mi fr to lim f1 f2 dis pin ag en cm mc su isu fir lgt ofs rn wsn) := hD
    refine lv_aload_n hx hb dX3_isGood_28 rfl (lv_at hl 0 rfl) ?_
    refine va_get (D := D) (ci := 3) (v := .int 1) (C := RX3) (T := TX3) (N := 22) hx hb hts g_X3 hown hE.1 hP 0 rfl rfl 0 (by decide) f_66 (fun _ h9 => h9) rfl dX3_isGood_29 ?_
    refine lv_if_ne (tgt := 49) hx hb dX3_isGood_32 (by decide) (fun _ => ?_) (fun c_32 => absurd c_32 (by decide))
    refine lv_iconst (v := 0) hx hb dX3_isGood_49 (by decide) ?_
    have w_th : 1 = cdID mi i_ d_ := (by simp [cdID, c_6])
    exact hret _ _ _ _ 0 ag dX3_isGood_50 (Or.inr (Or.inl rfl)) trivial (by show va_P D vwCl (wM cy m0 m1 m2 m3 m4 m5 m6 m7 m8 m9 m10 m11 m12 m13 m14 m15 m16 m17 (cdID mi i_ d_) td sed mi fr to lim f1 f2 dis pin ag en cm mc su isu fir lgt ofs rn wsn) _; rw [← w_th]; exact hP) hS

set_option maxHeartbeats 4000000 in
set_option maxRecDepth 100000 in
theorem c_X3_chainEnd (l : Launch) (D : va_G) (cy : ClassId × ClassId × ClassId) (m0 m1 m2 m3 m4 m5 m6 m7 m8 m9 m10 m11 m12 m13 m14 m15 m16 m17 : Nat) (th td sed : Int32) (mi : Nat) (fr to lim f1 f2 dis pin ag en cm : Nat → Int32) (mc : Nat) (su isu fir lgt ofs rn wsn : Nat → Int32) (i_ : Int32) (hm : mi ≤ 8) (h1 : ∀ i, i < mi → sgP f1 i) (h2 : ∀ i, i < mi → sgP f2 i) (hcd : cdOne mi i_ = 0) : kI l D cy yX3_chainEnd wsX3_chainEnd (krm 2 43) [.ref m0, .int i_] (wM cy m0 m1 m2 m3 m4 m5 m6 m7 m8 m9 m10 m11 m12 m13 m14 m15 m16 m17 th td sed mi fr to lim f1 f2 dis pin ag en cm mc su isu fir lgt ofs rn wsn) (fun (r : Int32) (u : (Nat → Int32)) => r = edV f1 f2 to (ix i_)) (fun u : (Nat → Int32) => wM cy m0 m1 m2 m3 m4 m5 m6 m7 m8 m9 m10 m11 m12 m13 m14 m15 m16 m17 0 td sed mi fr to lim f1 f2 dis pin ag u cm mc su isu fir lgt ofs rn wsn) := by
  refine kI.of (cc := cX3_chainEnd) (maxL := 2) (rt := .int) (Or.inl rfl) (by decide) rfl (Nat.le_of_ble_eq_true rfl) ?_
  intro p e s m args below meth c Q A ls hx hb hml hown hts hE hA hP hD hl hret
  have hS : va_S A s.heap s.heap [] := va_S.rf
  have hl : lv_has ls 2 [(0, .ref m0), (1, .int i_)] := hl
  have g_X3 : ∀ w ∈ wsX30, w ∈ wsX3_chainEnd := by decide +kernel
  have f_66 := hts (.fieldLink RX3 66 "CertHerdModel" "thrown" "I") (by decide +kernel)
  refine lv_aload_n hx hb dX3_chainEnd_0 rfl (lv_at hl 0 rfl) ?_
  refine lv_iconst (v := 0) hx hb dX3_chainEnd_1 (by decide) ?_
  refine va_put (D := D) (ci := 3) (v := .int 0) (ty := .int) (C := RX3) (T := TX3) (N := 22) hx hb hts g_X3 tyX3 tyX3_ok nmX3 hown hE.1 hP hD hS 0 rfl rfl 0 (by decide) f_66 (fun _ h9 => h9) rfl (by decide +kernel) rfl rfl (Nat.le_of_ble_eq_true rfl) dX3_chainEnd_2 (fun H locs hP hD hS => ?_)
  have hP : va_P D vwCl (wM cy m0 m1 m2 m3 m4 m5 m6 m7 m8 m9 m10 m11 m12 m13 m14 m15 m16 m17 0 td sed mi fr to lim f1 f2 dis pin ag en cm mc su isu fir lgt ofs rn wsn) H := hP
  have hD : va_D A (wM cy m0 m1 m2 m3 m4 m5 m6 m7 m8 m9 m10 m11 m12 m13 m14 m15 m16 m17 0 td sed mi fr to lim f1 f2 dis pin ag en cm mc su isu fir lgt ofs rn wsn) := hD
  refine lv_aload_n hx hb dX3_chainEnd_5 rfl (lv_at hl 0 rfl) ?_
  refine lv_iload_n hx hb dX3_chainEnd_6 rfl (lv_at hl 1 rfl) ?_
  refine kcW_i (n := 1) (wc := wM cy m0 m1 m2 m3 m4 m5 m6 m7 m8 m9 m10 m11 m12 m13 m14 m15 m16 m17 0 td sed mi fr to lim f1 f2 dis pin ag en cm mc su isu fir lgt ofs rn wsn) (As := [.int i_]) (rest := []) ⟨hx, hb, hml, hown, hts⟩ hE hA hP hD hS (c_X3_isIssuer l D cy m0 m1 m2 m3 m4 m5 m6 m7 m8 m9 m10 m11 m12 m13 m14 m15 m16 m17 0 td sed mi fr to lim f1 f2 dis pin ag en cm mc su isu fir lgt ofs rn wsn i_ (by first | assumption | omega)) (fun _ => rfl) (q0 := 0) (ci := 3) rfl rfl gX3_chainEnd_X3_isIssuer rfl rfl rfl ⟨rfl, by decide, by decide, by decide +kernel⟩ ⟨Nat.le_of_ble_eq_true rfl, Nat.le_of_ble_eq_true rfl⟩ rfl hl.1 rfl (Nat.le_of_ble_eq_true rfl) dX3_chainEnd_7 ⟨Nat.zero_le _, Nat.zero_le _⟩ (fun r_1 u H locs e_2 hP hD hS => ?_)
  have hP : va_P D vwCl (wM cy m0 m1 m2 m3 m4 m5 m6 m7 m8 m9 m10 m11 m12 m13 m14 m15 m16 m17 0 td sed mi fr to lim f1 f2 dis pin ag en cm mc su isu fir lgt ofs rn wsn) H := hP
  have hD : va_D A (wM cy m0 m1 m2 m3 m4 m5 m6 m7 m8 m9 m10 m11 m12 m13 m14 m15 m16 m17 0 td sed mi fr to lim f1 f2 dis pin ag en cm mc su isu fir lgt ofs rn wsn) := hD
  have e_2 : r_1 = bI (badI mi i_ = false) := e_2
  subst e_2
  refine k_ifeq (tgt := 21) hx hb dX3_chainEnd_10 (by decide) (fun c_10 => ?_) (fun c_10 => ?_)
  · refine lv_aload_n hx hb dX3_chainEnd_21 rfl (lv_at hl 0 rfl) ?_
    refine lv_iconst (v := 1) hx hb dX3_chainEnd_22 (by decide) ?_
    refine kcW_i (n := 1) (wc := wM cy m0 m1 m2 m3 m4 m5 m6 m7 m8 m9 m10 m11 m12 m13 m14 m15 m16 m17 0 td sed mi fr to lim f1 f2 dis pin ag en cm mc su isu fir lgt ofs rn wsn) (As := [.int 1]) (rest := []) ⟨hx, hb, hml, hown, hts⟩ hE hA hP hD hS (c_X3_fails l D cy m0 m1 m2 m3 m4 m5 m6 m7 m8 m9 m10 m11 m12 m13 m14 m15 m16 m17 0 td sed mi fr to lim f1 f2 dis pin ag en cm mc su isu fir lgt ofs rn wsn 1) (fun _ => Eq.trans (b := [m0, m1, m2, m3, m4, m5, m6, m7, m8, m9, m10, m11, m12, m13, m14, m15, m16, m17]) rfl rfl) (q0 := 0) (ci := 3) rfl rfl gX3_chainEnd_X3_fails rfl rfl rfl ⟨rfl, by decide, by decide, by decide +kernel⟩ ⟨Nat.le_of_ble_eq_true rfl, Nat.le_of_ble_eq_true rfl⟩ rfl hl.1 rfl (Nat.le_of_ble_eq_true rfl) dX3_chainEnd_23 ⟨Nat.zero_le _, Nat.zero_le _⟩ (fun r_3 u H locs e_4 hP hD hS => ?_)
    have hP : va_P D vwCl (wM cy m0 m1 m2 m3 m4 m5 m6 m7 m8 m9 m10 m11 m12 m13 m14 m15 m16 m17 1 td sed mi fr to lim f1 f2 dis pin ag en cm mc su isu fir lgt ofs rn wsn) H := hP
    have hD : va_D A (wM cy m0 m1 m2 m3 m4 m5 m6 m7 m8 m9 m10 m11 m12 m13 m14 m15 m16 m17 1 td sed mi fr to lim f1 f2 dis pin ag en cm mc su isu fir lgt ofs rn wsn) := hD
    have e_4 : r_3 = 0 := e_4
    subst e_4
    exact absurd hcd (by simp [cdOne, c_10])
  · have hix_i_ := (badI_ok (i := i_) (by assumption) (by omega)).2
    refine lv_aload_n hx hb dX3_chainEnd_13 rfl (lv_at hl 0 rfl) ?_
    refine lv_iload_n hx hb dX3_chainEnd_14 rfl (lv_at hl 1 rfl) ?_
    refine k_top (z := nI (ix i_)) (badI_ok (i := i_) (by assumption) (by omega)).1 ?_
    refine kcW_i (n := 1) (wc := wM cy m0 m1 m2 m3 m4 m5 m6 m7 m8 m9 m10 m11 m12 m13 m14 m15 m16 m17 0 td sed mi fr to lim f1 f2 dis pin ag en cm mc su isu fir lgt ofs rn wsn) (As := [.int (nI (ix i_))]) (rest := []) ⟨hx, hb, hml, hown, hts⟩ hE hA hP hD hS (c_X3_ends l D cy m0 m1 m2 m3 m4 m5 m6 m7 m8 m9 m10 m11 m12 m13 m14 m15 m16 m17 0 td sed mi fr to lim f1 f2 dis pin ag en cm mc su isu fir lgt ofs rn wsn (ix i_) (by first | assumption | omega) (by first | assumption | omega) (by first | assumption | omega) hix_i_) (fun _ => Eq.trans (b := [m0, m1, m2, m3, m4, m5, m6, m7, m8, m9, m10, m11, m12, m13, m14, m15, m16, m17]) rfl rfl) (q0 := 0) (ci := 3) rfl rfl gX3_chainEnd_X3_ends rfl rfl rfl ⟨rfl, by decide, by decide, by decide +kernel⟩ ⟨Nat.le_of_ble_eq_true rfl, Nat.le_of_ble_eq_true rfl⟩ rfl hl.1 rfl (Nat.le_of_ble_eq_true rfl) dX3_chainEnd_15 ⟨Nat.zero_le _, Nat.zero_le _⟩ (fun r_5 u H locs e_6 hP hD hS => ?_)
    obtain ⟨en_7, rfl⟩ : ∃ z, z = u := ⟨_, rfl⟩
    have hP : va_P D vwCl (wM cy m0 m1 m2 m3 m4 m5 m6 m7 m8 m9 m10 m11 m12 m13 m14 m15 m16 m17 0 td sed mi fr to lim f1 f2 dis pin ag en_7 cm mc su isu fir lgt ofs rn wsn) H := hP
    have hD : va_D A (wM cy m0 m1 m2 m3 m4 m5 m6 m7 m8 m9 m10 m11 m12 m13 m14 m15 m16 m17 0 td sed mi fr to lim f1 f2 dis pin ag en_7 cm mc su isu fir lgt ofs rn wsn) := hD
    have e_6 : r_5 = edV f1 f2 to (ix i_) := e_6
    subst e_6
    refine lv_goto (tgt := 26) hx hb dX3_chainEnd_18 (by decide) ?_
    exact hret _ _ _ _ (edV f1 f2 to (ix i_)) en_7 dX3_chainEnd_26 (Or.inl rfl) rfl hP hS

set_option maxHeartbeats 4000000 in
set_option maxRecDepth 100000 in
theorem c_X3_chainEnd_f (l : Launch) (D : va_G) (cy : ClassId × ClassId × ClassId) (m0 m1 m2 m3 m4 m5 m6 m7 m8 m9 m10 m11 m12 m13 m14 m15 m16 m17 : Nat) (th td sed : Int32) (mi : Nat) (fr to lim f1 f2 dis pin ag en cm : Nat → Int32) (mc : Nat) (su isu fir lgt ofs rn wsn : Nat → Int32) (i_ : Int32) (hm : mi ≤ 8) (h1 : ∀ i, i < mi → sgP f1 i) (h2 : ∀ i, i < mi → sgP f2 i) (hcd : ¬ cdOne mi i_ = 0) : kI l D cy yX3_chainEnd wsX3_chainEnd (krm 2 43) [.ref m0, .int i_] (wM cy m0 m1 m2 m3 m4 m5 m6 m7 m8 m9 m10 m11 m12 m13 m14 m15 m16 m17 th td sed mi fr to lim f1 f2 dis pin ag en cm mc su isu fir lgt ofs rn wsn) (fun (r : Int32) (u : (Nat → Int32)) => True) (fun u : (Nat → Int32) => wM cy m0 m1 m2 m3 m4 m5 m6 m7 m8 m9 m10 m11 m12 m13 m14 m15 m16 m17 (cdOne mi i_) td sed mi fr to lim f1 f2 dis pin ag u cm mc su isu fir lgt ofs rn wsn) := by
  refine kI.of (cc := cX3_chainEnd) (maxL := 2) (rt := .int) (Or.inl rfl) (by decide) rfl (Nat.le_of_ble_eq_true rfl) ?_
  intro p e s m args below meth c Q A ls hx hb hml hown hts hE hA hP hD hl hret
  have hS : va_S A s.heap s.heap [] := va_S.rf
  have hl : lv_has ls 2 [(0, .ref m0), (1, .int i_)] := hl
  have g_X3 : ∀ w ∈ wsX30, w ∈ wsX3_chainEnd := by decide +kernel
  have f_66 := hts (.fieldLink RX3 66 "CertHerdModel" "thrown" "I") (by decide +kernel)
  refine lv_aload_n hx hb dX3_chainEnd_0 rfl (lv_at hl 0 rfl) ?_
  refine lv_iconst (v := 0) hx hb dX3_chainEnd_1 (by decide) ?_
  refine va_put (D := D) (ci := 3) (v := .int 0) (ty := .int) (C := RX3) (T := TX3) (N := 22) hx hb hts g_X3 tyX3 tyX3_ok nmX3 hown hE.1 hP hD hS 0 rfl rfl 0 (by decide) f_66 (fun _ h9 => h9) rfl (by decide +kernel) rfl rfl (Nat.le_of_ble_eq_true rfl) dX3_chainEnd_2 (fun H locs hP hD hS => ?_)
  have hP : va_P D vwCl (wM cy m0 m1 m2 m3 m4 m5 m6 m7 m8 m9 m10 m11 m12 m13 m14 m15 m16 m17 0 td sed mi fr to lim f1 f2 dis pin ag en cm mc su isu fir lgt ofs rn wsn) H := hP
  have hD : va_D A (wM cy m0 m1 m2 m3 m4 m5 m6 m7 m8 m9 m10 m11 m12 m13 m14 m15 m16 m17 0 td sed mi fr to lim f1 f2 dis pin ag en cm mc su isu fir lgt ofs rn wsn) := hD
  refine lv_aload_n hx hb dX3_chainEnd_5 rfl (lv_at hl 0 rfl) ?_
  refine lv_iload_n hx hb dX3_chainEnd_6 rfl (lv_at hl 1 rfl) ?_
  refine kcW_i (n := 1) (wc := wM cy m0 m1 m2 m3 m4 m5 m6 m7 m8 m9 m10 m11 m12 m13 m14 m15 m16 m17 0 td sed mi fr to lim f1 f2 dis pin ag en cm mc su isu fir lgt ofs rn wsn) (As := [.int i_]) (rest := []) ⟨hx, hb, hml, hown, hts⟩ hE hA hP hD hS (c_X3_isIssuer l D cy m0 m1 m2 m3 m4 m5 m6 m7 m8 m9 m10 m11 m12 m13 m14 m15 m16 m17 0 td sed mi fr to lim f1 f2 dis pin ag en cm mc su isu fir lgt ofs rn wsn i_ (by first | assumption | omega)) (fun _ => rfl) (q0 := 0) (ci := 3) rfl rfl gX3_chainEnd_X3_isIssuer rfl rfl rfl ⟨rfl, by decide, by decide, by decide +kernel⟩ ⟨Nat.le_of_ble_eq_true rfl, Nat.le_of_ble_eq_true rfl⟩ rfl hl.1 rfl (Nat.le_of_ble_eq_true rfl) dX3_chainEnd_7 ⟨Nat.zero_le _, Nat.zero_le _⟩ (fun r_1 u H locs e_2 hP hD hS => ?_)
  have hP : va_P D vwCl (wM cy m0 m1 m2 m3 m4 m5 m6 m7 m8 m9 m10 m11 m12 m13 m14 m15 m16 m17 0 td sed mi fr to lim f1 f2 dis pin ag en cm mc su isu fir lgt ofs rn wsn) H := hP
  have hD : va_D A (wM cy m0 m1 m2 m3 m4 m5 m6 m7 m8 m9 m10 m11 m12 m13 m14 m15 m16 m17 0 td sed mi fr to lim f1 f2 dis pin ag en cm mc su isu fir lgt ofs rn wsn) := hD
  have e_2 : r_1 = bI (badI mi i_ = false) := e_2
  subst e_2
  refine k_ifeq (tgt := 21) hx hb dX3_chainEnd_10 (by decide) (fun c_10 => ?_) (fun c_10 => ?_)
  · refine lv_aload_n hx hb dX3_chainEnd_21 rfl (lv_at hl 0 rfl) ?_
    refine lv_iconst (v := 1) hx hb dX3_chainEnd_22 (by decide) ?_
    refine kcW_i (n := 1) (wc := wM cy m0 m1 m2 m3 m4 m5 m6 m7 m8 m9 m10 m11 m12 m13 m14 m15 m16 m17 0 td sed mi fr to lim f1 f2 dis pin ag en cm mc su isu fir lgt ofs rn wsn) (As := [.int 1]) (rest := []) ⟨hx, hb, hml, hown, hts⟩ hE hA hP hD hS (c_X3_fails l D cy m0 m1 m2 m3 m4 m5 m6 m7 m8 m9 m10 m11 m12 m13 m14 m15 m16 m17 0 td sed mi fr to lim f1 f2 dis pin ag en cm mc su isu fir lgt ofs rn wsn 1) (fun _ => Eq.trans (b := [m0, m1, m2, m3, m4, m5, m6, m7, m8, m9, m10, m11, m12, m13, m14, m15, m16, m17]) rfl rfl) (q0 := 0) (ci := 3) rfl rfl gX3_chainEnd_X3_fails rfl rfl rfl ⟨rfl, by decide, by decide, by decide +kernel⟩ ⟨Nat.le_of_ble_eq_true rfl, Nat.le_of_ble_eq_true rfl⟩ rfl hl.1 rfl (Nat.le_of_ble_eq_true rfl) dX3_chainEnd_23 ⟨Nat.zero_le _, Nat.zero_le _⟩ (fun r_3 u H locs e_4 hP hD hS => ?_)
    have hP : va_P D vwCl (wM cy m0 m1 m2 m3 m4 m5 m6 m7 m8 m9 m10 m11 m12 m13 m14 m15 m16 m17 1 td sed mi fr to lim f1 f2 dis pin ag en cm mc su isu fir lgt ofs rn wsn) H := hP
    have hD : va_D A (wM cy m0 m1 m2 m3 m4 m5 m6 m7 m8 m9 m10 m11 m12 m13 m14 m15 m16 m17 1 td sed mi fr to lim f1 f2 dis pin ag en cm mc su isu fir lgt ofs rn wsn) := hD
    have e_4 : r_3 = 0 := e_4
    subst e_4
    have w_th : 1 = cdOne mi i_ := (by simp [cdOne, c_10])
    exact hret _ _ _ _ 0 en dX3_chainEnd_26 (Or.inl rfl) trivial (by show va_P D vwCl (wM cy m0 m1 m2 m3 m4 m5 m6 m7 m8 m9 m10 m11 m12 m13 m14 m15 m16 m17 (cdOne mi i_) td sed mi fr to lim f1 f2 dis pin ag en cm mc su isu fir lgt ofs rn wsn) _; rw [← w_th]; exact hP) hS
  · have hix_i_ := (badI_ok (i := i_) (by assumption) (by omega)).2
    refine lv_aload_n hx hb dX3_chainEnd_13 rfl (lv_at hl 0 rfl) ?_
    refine lv_iload_n hx hb dX3_chainEnd_14 rfl (lv_at hl 1 rfl) ?_
    refine k_top (z := nI (ix i_)) (badI_ok (i := i_) (by assumption) (by omega)).1 ?_
    refine kcW_i (n := 1) (wc := wM cy m0 m1 m2 m3 m4 m5 m6 m7 m8 m9 m10 m11 m12 m13 m14 m15 m16 m17 0 td sed mi fr to lim f1 f2 dis pin ag en cm mc su isu fir lgt ofs rn wsn) (As := [.int (nI (ix i_))]) (rest := []) ⟨hx, hb, hml, hown, hts⟩ hE hA hP hD hS (c_X3_ends l D cy m0 m1 m2 m3 m4 m5 m6 m7 m8 m9 m10 m11 m12 m13 m14 m15 m16 m17 0 td sed mi fr to lim f1 f2 dis pin ag en cm mc su isu fir lgt ofs rn wsn (ix i_) (by first | assumption | omega) (by first | assumption | omega) (by first | assumption | omega) hix_i_) (fun _ => Eq.trans (b := [m0, m1, m2, m3, m4, m5, m6, m7, m8, m9, m10, m11, m12, m13, m14, m15, m16, m17]) rfl rfl) (q0 := 0) (ci := 3) rfl rfl gX3_chainEnd_X3_ends rfl rfl rfl ⟨rfl, by decide, by decide, by decide +kernel⟩ ⟨Nat.le_of_ble_eq_true rfl, Nat.le_of_ble_eq_true rfl⟩ rfl hl.1 rfl (Nat.le_of_ble_eq_true rfl) dX3_chainEnd_15 ⟨Nat.zero_le _, Nat.zero_le _⟩ (fun r_5 u H locs e_6 hP hD hS => ?_)
    obtain ⟨en_7, rfl⟩ : ∃ z, z = u := ⟨_, rfl⟩
    have hP : va_P D vwCl (wM cy m0 m1 m2 m3 m4 m5 m6 m7 m8 m9 m10 m11 m12 m13 m14 m15 m16 m17 0 td sed mi fr to lim f1 f2 dis pin ag en_7 cm mc su isu fir lgt ofs rn wsn) H := hP
    have hD : va_D A (wM cy m0 m1 m2 m3 m4 m5 m6 m7 m8 m9 m10 m11 m12 m13 m14 m15 m16 m17 0 td sed mi fr to lim f1 f2 dis pin ag en_7 cm mc su isu fir lgt ofs rn wsn) := hD
    have e_6 : r_5 = edV f1 f2 to (ix i_) := e_6
    subst e_6
    refine lv_goto (tgt := 26) hx hb dX3_chainEnd_18 (by decide) ?_
    exact absurd (by simp [cdOne, c_10]) hcd

set_option maxHeartbeats 4000000 in
set_option maxRecDepth 100000 in
theorem c_X3_chains (l : Launch) (D : va_G) (cy : ClassId × ClassId × ClassId) (m0 m1 m2 m3 m4 m5 m6 m7 m8 m9 m10 m11 m12 m13 m14 m15 m16 m17 : Nat) (th td sed : Int32) (mi : Nat) (fr to lim f1 f2 dis pin ag en cm : Nat → Int32) (mc : Nat) (su isu fir lgt ofs rn wsn : Nat → Int32) (i_ : Int32) (hm : mi ≤ 8) (h1 : ∀ i, i < mi → sgP f1 i) (h2 : ∀ i, i < mi → sgP f2 i) (hcd : cdOne mi i_ = 0) : kI l D cy yX3_chains wsX3_chains (krm 2 43) [.ref m0, .int i_] (wM cy m0 m1 m2 m3 m4 m5 m6 m7 m8 m9 m10 m11 m12 m13 m14 m15 m16 m17 th td sed mi fr to lim f1 f2 dis pin ag en cm mc su isu fir lgt ofs rn wsn) (fun (r : Int32) (u : (Nat → Int32)) => r = cnV f1 f2 (ix i_)) (fun u : (Nat → Int32) => wM cy m0 m1 m2 m3 m4 m5 m6 m7 m8 m9 m10 m11 m12 m13 m14 m15 m16 m17 0 td sed mi fr to lim f1 f2 dis pin ag en u mc su isu fir lgt ofs rn wsn) := by
  refine kI.of (cc := cX3_chains) (maxL := 2) (rt := .int) (Or.inl rfl) (by decide) rfl (Nat.le_of_ble_eq_true rfl) ?_
  intro p e s m args below meth c Q A ls hx hb hml hown hts hE hA hP hD hl hret
  have hS : va_S A s.heap s.heap [] := va_S.rf
  have hl : lv_has ls 2 [(0, .ref m0), (1, .int i_)] := hl
  have g_X3 : ∀ w ∈ wsX30, w ∈ wsX3_chains := by decide +kernel
  have f_66 := hts (.fieldLink RX3 66 "CertHerdModel" "thrown" "I") (by decide +kernel)
  refine lv_aload_n hx hb dX3_chains_0 rfl (lv_at hl 0 rfl) ?_
  refine lv_iconst (v := 0) hx hb dX3_chains_1 (by decide) ?_
  refine va_put (D := D) (ci := 3) (v := .int 0) (ty := .int) (C := RX3) (T := TX3) (N := 22) hx hb hts g_X3 tyX3 tyX3_ok nmX3 hown hE.1 hP hD hS 0 rfl rfl 0 (by decide) f_66 (fun _ h9 => h9) rfl (by decide +kernel) rfl rfl (Nat.le_of_ble_eq_true rfl) dX3_chains_2 (fun H locs hP hD hS => ?_)
  have hP : va_P D vwCl (wM cy m0 m1 m2 m3 m4 m5 m6 m7 m8 m9 m10 m11 m12 m13 m14 m15 m16 m17 0 td sed mi fr to lim f1 f2 dis pin ag en cm mc su isu fir lgt ofs rn wsn) H := hP
  have hD : va_D A (wM cy m0 m1 m2 m3 m4 m5 m6 m7 m8 m9 m10 m11 m12 m13 m14 m15 m16 m17 0 td sed mi fr to lim f1 f2 dis pin ag en cm mc su isu fir lgt ofs rn wsn) := hD
  refine lv_aload_n hx hb dX3_chains_5 rfl (lv_at hl 0 rfl) ?_
  refine lv_iload_n hx hb dX3_chains_6 rfl (lv_at hl 1 rfl) ?_
  refine kcW_i (n := 1) (wc := wM cy m0 m1 m2 m3 m4 m5 m6 m7 m8 m9 m10 m11 m12 m13 m14 m15 m16 m17 0 td sed mi fr to lim f1 f2 dis pin ag en cm mc su isu fir lgt ofs rn wsn) (As := [.int i_]) (rest := []) ⟨hx, hb, hml, hown, hts⟩ hE hA hP hD hS (c_X3_isIssuer l D cy m0 m1 m2 m3 m4 m5 m6 m7 m8 m9 m10 m11 m12 m13 m14 m15 m16 m17 0 td sed mi fr to lim f1 f2 dis pin ag en cm mc su isu fir lgt ofs rn wsn i_ (by first | assumption | omega)) (fun _ => rfl) (q0 := 0) (ci := 3) rfl rfl gX3_chains_X3_isIssuer rfl rfl rfl ⟨rfl, by decide, by decide, by decide +kernel⟩ ⟨Nat.le_of_ble_eq_true rfl, Nat.le_of_ble_eq_true rfl⟩ rfl hl.1 rfl (Nat.le_of_ble_eq_true rfl) dX3_chains_7 ⟨Nat.zero_le _, Nat.zero_le _⟩ (fun r_1 u H locs e_2 hP hD hS => ?_)
  have hP : va_P D vwCl (wM cy m0 m1 m2 m3 m4 m5 m6 m7 m8 m9 m10 m11 m12 m13 m14 m15 m16 m17 0 td sed mi fr to lim f1 f2 dis pin ag en cm mc su isu fir lgt ofs rn wsn) H := hP
  have hD : va_D A (wM cy m0 m1 m2 m3 m4 m5 m6 m7 m8 m9 m10 m11 m12 m13 m14 m15 m16 m17 0 td sed mi fr to lim f1 f2 dis pin ag en cm mc su isu fir lgt ofs rn wsn) := hD
  have e_2 : r_1 = bI (badI mi i_ = false) := e_2
  subst e_2
  refine k_ifeq (tgt := 21) hx hb dX3_chains_10 (by decide) (fun c_10 => ?_) (fun c_10 => ?_)
  · refine lv_aload_n hx hb dX3_chains_21 rfl (lv_at hl 0 rfl) ?_
    refine lv_iconst (v := 1) hx hb dX3_chains_22 (by decide) ?_
    refine kcW_i (n := 1) (wc := wM cy m0 m1 m2 m3 m4 m5 m6 m7 m8 m9 m10 m11 m12 m13 m14 m15 m16 m17 0 td sed mi fr to lim f1 f2 dis pin ag en cm mc su isu fir lgt ofs rn wsn) (As := [.int 1]) (rest := []) ⟨hx, hb, hml, hown, hts⟩ hE hA hP hD hS (c_X3_fails l D cy m0 m1 m2 m3 m4 m5 m6 m7 m8 m9 m10 m11 m12 m13 m14 m15 m16 m17 0 td sed mi fr to lim f1 f2 dis pin ag en cm mc su isu fir lgt ofs rn wsn 1) (fun _ => Eq.trans (b := [m0, m1, m2, m3, m4, m5, m6, m7, m8, m9, m10, m11, m12, m13, m14, m15, m16, m17]) rfl rfl) (q0 := 0) (ci := 3) rfl rfl gX3_chains_X3_fails rfl rfl rfl ⟨rfl, by decide, by decide, by decide +kernel⟩ ⟨Nat.le_of_ble_eq_true rfl, Nat.le_of_ble_eq_true rfl⟩ rfl hl.1 rfl (Nat.le_of_ble_eq_true rfl) dX3_chains_23 ⟨Nat.zero_le _, Nat.zero_le _⟩ (fun r_3 u H locs e_4 hP hD hS => ?_)
    have hP : va_P D vwCl (wM cy m0 m1 m2 m3 m4 m5 m6 m7 m8 m9 m10 m11 m12 m13 m14 m15 m16 m17 1 td sed mi fr to lim f1 f2 dis pin ag en cm mc su isu fir lgt ofs rn wsn) H := hP
    have hD : va_D A (wM cy m0 m1 m2 m3 m4 m5 m6 m7 m8 m9 m10 m11 m12 m13 m14 m15 m16 m17 1 td sed mi fr to lim f1 f2 dis pin ag en cm mc su isu fir lgt ofs rn wsn) := hD
    have e_4 : r_3 = 0 := e_4
    subst e_4
    exact absurd hcd (by simp [cdOne, c_10])
  · have hix_i_ := (badI_ok (i := i_) (by assumption) (by omega)).2
    refine lv_aload_n hx hb dX3_chains_13 rfl (lv_at hl 0 rfl) ?_
    refine lv_iload_n hx hb dX3_chains_14 rfl (lv_at hl 1 rfl) ?_
    refine k_top (z := nI (ix i_)) (badI_ok (i := i_) (by assumption) (by omega)).1 ?_
    refine kcW_i (n := 1) (wc := wM cy m0 m1 m2 m3 m4 m5 m6 m7 m8 m9 m10 m11 m12 m13 m14 m15 m16 m17 0 td sed mi fr to lim f1 f2 dis pin ag en cm mc su isu fir lgt ofs rn wsn) (As := [.int (nI (ix i_))]) (rest := []) ⟨hx, hb, hml, hown, hts⟩ hE hA hP hD hS (c_X3_ways l D cy m0 m1 m2 m3 m4 m5 m6 m7 m8 m9 m10 m11 m12 m13 m14 m15 m16 m17 0 td sed mi fr to lim f1 f2 dis pin ag en cm mc su isu fir lgt ofs rn wsn (ix i_) (by first | assumption | omega) (by first | assumption | omega) (by first | assumption | omega) hix_i_) (fun _ => Eq.trans (b := [m0, m1, m2, m3, m4, m5, m6, m7, m8, m9, m10, m11, m12, m13, m14, m15, m16, m17]) rfl rfl) (q0 := 0) (ci := 3) rfl rfl gX3_chains_X3_ways rfl rfl rfl ⟨rfl, by decide, by decide, by decide +kernel⟩ ⟨Nat.le_of_ble_eq_true rfl, Nat.le_of_ble_eq_true rfl⟩ rfl hl.1 rfl (Nat.le_of_ble_eq_true rfl) dX3_chains_15 ⟨Nat.zero_le _, Nat.zero_le _⟩ (fun r_5 u H locs e_6 hP hD hS => ?_)
    obtain ⟨cm_7, rfl⟩ : ∃ z, z = u := ⟨_, rfl⟩
    have hP : va_P D vwCl (wM cy m0 m1 m2 m3 m4 m5 m6 m7 m8 m9 m10 m11 m12 m13 m14 m15 m16 m17 0 td sed mi fr to lim f1 f2 dis pin ag en cm_7 mc su isu fir lgt ofs rn wsn) H := hP
    have hD : va_D A (wM cy m0 m1 m2 m3 m4 m5 m6 m7 m8 m9 m10 m11 m12 m13 m14 m15 m16 m17 0 td sed mi fr to lim f1 f2 dis pin ag en cm_7 mc su isu fir lgt ofs rn wsn) := hD
    have e_6 : r_5 = cnV f1 f2 (ix i_) := e_6
    subst e_6
    refine lv_goto (tgt := 26) hx hb dX3_chains_18 (by decide) ?_
    exact hret _ _ _ _ (cnV f1 f2 (ix i_)) cm_7 dX3_chains_26 (Or.inl rfl) rfl hP hS

set_option maxHeartbeats 4000000 in
set_option maxRecDepth 100000 in
theorem c_X3_chains_f (l : Launch) (D : va_G) (cy : ClassId × ClassId × ClassId) (m0 m1 m2 m3 m4 m5 m6 m7 m8 m9 m10 m11 m12 m13 m14 m15 m16 m17 : Nat) (th td sed : Int32) (mi : Nat) (fr to lim f1 f2 dis pin ag en cm : Nat → Int32) (mc : Nat) (su isu fir lgt ofs rn wsn : Nat → Int32) (i_ : Int32) (hm : mi ≤ 8) (h1 : ∀ i, i < mi → sgP f1 i) (h2 : ∀ i, i < mi → sgP f2 i) (hcd : ¬ cdOne mi i_ = 0) : kI l D cy yX3_chains wsX3_chains (krm 2 43) [.ref m0, .int i_] (wM cy m0 m1 m2 m3 m4 m5 m6 m7 m8 m9 m10 m11 m12 m13 m14 m15 m16 m17 th td sed mi fr to lim f1 f2 dis pin ag en cm mc su isu fir lgt ofs rn wsn) (fun (r : Int32) (u : (Nat → Int32)) => True) (fun u : (Nat → Int32) => wM cy m0 m1 m2 m3 m4 m5 m6 m7 m8 m9 m10 m11 m12 m13 m14 m15 m16 m17 (cdOne mi i_) td sed mi fr to lim f1 f2 dis pin ag en u mc su isu fir lgt ofs rn wsn) := by
  refine kI.of (cc := cX3_chains) (maxL := 2) (rt := .int) (Or.inl rfl) (by decide) rfl (Nat.le_of_ble_eq_true rfl) ?_
  intro p e s m args below meth c Q A ls hx hb hml hown hts hE hA hP hD hl hret
  have hS : va_S A s.heap s.heap [] := va_S.rf
  have hl : lv_has ls 2 [(0, .ref m0), (1, .int i_)] := hl
  have g_X3 : ∀ w ∈ wsX30, w ∈ wsX3_chains := by decide +kernel
  have f_66 := hts (.fieldLink RX3 66 "CertHerdModel" "thrown" "I") (by decide +kernel)
  refine lv_aload_n hx hb dX3_chains_0 rfl (lv_at hl 0 rfl) ?_
  refine lv_iconst (v := 0) hx hb dX3_chains_1 (by decide) ?_
  refine va_put (D := D) (ci := 3) (v := .int 0) (ty := .int) (C := RX3) (T := TX3) (N := 22) hx hb hts g_X3 tyX3 tyX3_ok nmX3 hown hE.1 hP hD hS 0 rfl rfl 0 (by decide) f_66 (fun _ h9 => h9) rfl (by decide +kernel) rfl rfl (Nat.le_of_ble_eq_true rfl) dX3_chains_2 (fun H locs hP hD hS => ?_)
  have hP : va_P D vwCl (wM cy m0 m1 m2 m3 m4 m5 m6 m7 m8 m9 m10 m11 m12 m13 m14 m15 m16 m17 0 td sed mi fr to lim f1 f2 dis pin ag en cm mc su isu fir lgt ofs rn wsn) H := hP
  have hD : va_D A (wM cy m0 m1 m2 m3 m4 m5 m6 m7 m8 m9 m10 m11 m12 m13 m14 m15 m16 m17 0 td sed mi fr to lim f1 f2 dis pin ag en cm mc su isu fir lgt ofs rn wsn) := hD
  refine lv_aload_n hx hb dX3_chains_5 rfl (lv_at hl 0 rfl) ?_
  refine lv_iload_n hx hb dX3_chains_6 rfl (lv_at hl 1 rfl) ?_
  refine kcW_i (n := 1) (wc := wM cy m0 m1 m2 m3 m4 m5 m6 m7 m8 m9 m10 m11 m12 m13 m14 m15 m16 m17 0 td sed mi fr to lim f1 f2 dis pin ag en cm mc su isu fir lgt ofs rn wsn) (As := [.int i_]) (rest := []) ⟨hx, hb, hml, hown, hts⟩ hE hA hP hD hS (c_X3_isIssuer l D cy m0 m1 m2 m3 m4 m5 m6 m7 m8 m9 m10 m11 m12 m13 m14 m15 m16 m17 0 td sed mi fr to lim f1 f2 dis pin ag en cm mc su isu fir lgt ofs rn wsn i_ (by first | assumption | omega)) (fun _ => rfl) (q0 := 0) (ci := 3) rfl rfl gX3_chains_X3_isIssuer rfl rfl rfl ⟨rfl, by decide, by decide, by decide +kernel⟩ ⟨Nat.le_of_ble_eq_true rfl, Nat.le_of_ble_eq_true rfl⟩ rfl hl.1 rfl (Nat.le_of_ble_eq_true rfl) dX3_chains_7 ⟨Nat.zero_le _, Nat.zero_le _⟩ (fun r_1 u H locs e_2 hP hD hS => ?_)
  have hP : va_P D vwCl (wM cy m0 m1 m2 m3 m4 m5 m6 m7 m8 m9 m10 m11 m12 m13 m14 m15 m16 m17 0 td sed mi fr to lim f1 f2 dis pin ag en cm mc su isu fir lgt ofs rn wsn) H := hP
  have hD : va_D A (wM cy m0 m1 m2 m3 m4 m5 m6 m7 m8 m9 m10 m11 m12 m13 m14 m15 m16 m17 0 td sed mi fr to lim f1 f2 dis pin ag en cm mc su isu fir lgt ofs rn wsn) := hD
  have e_2 : r_1 = bI (badI mi i_ = false) := e_2
  subst e_2
  refine k_ifeq (tgt := 21) hx hb dX3_chains_10 (by decide) (fun c_10 => ?_) (fun c_10 => ?_)
  · refine lv_aload_n hx hb dX3_chains_21 rfl (lv_at hl 0 rfl) ?_
    refine lv_iconst (v := 1) hx hb dX3_chains_22 (by decide) ?_
    refine kcW_i (n := 1) (wc := wM cy m0 m1 m2 m3 m4 m5 m6 m7 m8 m9 m10 m11 m12 m13 m14 m15 m16 m17 0 td sed mi fr to lim f1 f2 dis pin ag en cm mc su isu fir lgt ofs rn wsn) (As := [.int 1]) (rest := []) ⟨hx, hb, hml, hown, hts⟩ hE hA hP hD hS (c_X3_fails l D cy m0 m1 m2 m3 m4 m5 m6 m7 m8 m9 m10 m11 m12 m13 m14 m15 m16 m17 0 td sed mi fr to lim f1 f2 dis pin ag en cm mc su isu fir lgt ofs rn wsn 1) (fun _ => Eq.trans (b := [m0, m1, m2, m3, m4, m5, m6, m7, m8, m9, m10, m11, m12, m13, m14, m15, m16, m17]) rfl rfl) (q0 := 0) (ci := 3) rfl rfl gX3_chains_X3_fails rfl rfl rfl ⟨rfl, by decide, by decide, by decide +kernel⟩ ⟨Nat.le_of_ble_eq_true rfl, Nat.le_of_ble_eq_true rfl⟩ rfl hl.1 rfl (Nat.le_of_ble_eq_true rfl) dX3_chains_23 ⟨Nat.zero_le _, Nat.zero_le _⟩ (fun r_3 u H locs e_4 hP hD hS => ?_)
    have hP : va_P D vwCl (wM cy m0 m1 m2 m3 m4 m5 m6 m7 m8 m9 m10 m11 m12 m13 m14 m15 m16 m17 1 td sed mi fr to lim f1 f2 dis pin ag en cm mc su isu fir lgt ofs rn wsn) H := hP
    have hD : va_D A (wM cy m0 m1 m2 m3 m4 m5 m6 m7 m8 m9 m10 m11 m12 m13 m14 m15 m16 m17 1 td sed mi fr to lim f1 f2 dis pin ag en cm mc su isu fir lgt ofs rn wsn) := hD
    have e_4 : r_3 = 0 := e_4
    subst e_4
    have w_th : 1 = cdOne mi i_ := (by simp [cdOne, c_10])
    exact hret _ _ _ _ 0 cm dX3_chains_26 (Or.inl rfl) trivial (by show va_P D vwCl (wM cy m0 m1 m2 m3 m4 m5 m6 m7 m8 m9 m10 m11 m12 m13 m14 m15 m16 m17 (cdOne mi i_) td sed mi fr to lim f1 f2 dis pin ag en cm mc su isu fir lgt ofs rn wsn) _; rw [← w_th]; exact hP) hS
  · have hix_i_ := (badI_ok (i := i_) (by assumption) (by omega)).2
    refine lv_aload_n hx hb dX3_chains_13 rfl (lv_at hl 0 rfl) ?_
    refine lv_iload_n hx hb dX3_chains_14 rfl (lv_at hl 1 rfl) ?_
    refine k_top (z := nI (ix i_)) (badI_ok (i := i_) (by assumption) (by omega)).1 ?_
    refine kcW_i (n := 1) (wc := wM cy m0 m1 m2 m3 m4 m5 m6 m7 m8 m9 m10 m11 m12 m13 m14 m15 m16 m17 0 td sed mi fr to lim f1 f2 dis pin ag en cm mc su isu fir lgt ofs rn wsn) (As := [.int (nI (ix i_))]) (rest := []) ⟨hx, hb, hml, hown, hts⟩ hE hA hP hD hS (c_X3_ways l D cy m0 m1 m2 m3 m4 m5 m6 m7 m8 m9 m10 m11 m12 m13 m14 m15 m16 m17 0 td sed mi fr to lim f1 f2 dis pin ag en cm mc su isu fir lgt ofs rn wsn (ix i_) (by first | assumption | omega) (by first | assumption | omega) (by first | assumption | omega) hix_i_) (fun _ => Eq.trans (b := [m0, m1, m2, m3, m4, m5, m6, m7, m8, m9, m10, m11, m12, m13, m14, m15, m16, m17]) rfl rfl) (q0 := 0) (ci := 3) rfl rfl gX3_chains_X3_ways rfl rfl rfl ⟨rfl, by decide, by decide, by decide +kernel⟩ ⟨Nat.le_of_ble_eq_true rfl, Nat.le_of_ble_eq_true rfl⟩ rfl hl.1 rfl (Nat.le_of_ble_eq_true rfl) dX3_chains_15 ⟨Nat.zero_le _, Nat.zero_le _⟩ (fun r_5 u H locs e_6 hP hD hS => ?_)
    obtain ⟨cm_7, rfl⟩ : ∃ z, z = u := ⟨_, rfl⟩
    have hP : va_P D vwCl (wM cy m0 m1 m2 m3 m4 m5 m6 m7 m8 m9 m10 m11 m12 m13 m14 m15 m16 m17 0 td sed mi fr to lim f1 f2 dis pin ag en cm_7 mc su isu fir lgt ofs rn wsn) H := hP
    have hD : va_D A (wM cy m0 m1 m2 m3 m4 m5 m6 m7 m8 m9 m10 m11 m12 m13 m14 m15 m16 m17 0 td sed mi fr to lim f1 f2 dis pin ag en cm_7 mc su isu fir lgt ofs rn wsn) := hD
    have e_6 : r_5 = cnV f1 f2 (ix i_) := e_6
    subst e_6
    refine lv_goto (tgt := 26) hx hb dX3_chains_18 (by decide) ?_
    exact absurd (by simp [cdOne, c_10]) hcd

set_option maxHeartbeats 4000000 in
set_option maxRecDepth 100000 in
theorem c_X3_isCovered (l : Launch) (D : va_G) (cy : ClassId × ClassId × ClassId) (m0 m1 m2 m3 m4 m5 m6 m7 m8 m9 m10 m11 m12 m13 m14 m15 m16 m17 : Nat) (th td sed : Int32) (mi : Nat) (fr to lim f1 f2 dis pin ag en cm : Nat → Int32) (mc : Nat) (su isu fir lgt ofs rn wsn : Nat → Int32) (x_ : Int32) (d_ : Int32) (hm : mi ≤ 8) (hc : mc ≤ 60) (h1 : ∀ i, i < mi → sgP f1 i) (h2 : ∀ i, i < mi → sgP f2 i) (hok : certOK mi isu lgt mc) (hcd : cdND x_ d_ = 0) : kI l D cy yX3_isCovered wsX3_isCovered (krm 3 75) [.ref m0, .int x_, .int d_] (wM cy m0 m1 m2 m3 m4 m5 m6 m7 m8 m9 m10 m11 m12 m13 m14 m15 m16 m17 th td sed mi fr to lim f1 f2 dis pin ag en cm mc su isu fir lgt ofs rn wsn) (fun (r : Int32) (u : (Nat → Int32)) => r = bI ((nmN f1 f2 fr to dis isu su fir lgt d_ (-1) mc >>> (x_ &&& 31)) &&& 1 = 1)) (fun u : (Nat → Int32) => wM cy m0 m1 m2 m3 m4 m5 m6 m7 m8 m9 m10 m11 m12 m13 m14 m15 m16 m17 0 td sed mi fr to lim f1 f2 dis pin u en cm mc su isu fir lgt ofs rn wsn) := by
  refine kI.of (cc := cX3_isCovered) (maxL := 3) (rt := .boolean) (Or.inr rfl) (by decide) rfl (Nat.le_of_ble_eq_true rfl) ?_
  intro p e s m args below meth c Q A ls hx hb hml hown hts hE hA hP hD hl hret
  have hS : va_S A s.heap s.heap [] := va_S.rf
  have hl : lv_has ls 3 [(0, .ref m0), (1, .int x_), (2, .int d_)] := hl
  have g_X3 : ∀ w ∈ wsX30, w ∈ wsX3_isCovered := by decide +kernel
  have f_66 := hts (.fieldLink RX3 66 "CertHerdModel" "thrown" "I") (by decide +kernel)
  refine lv_aload_n hx hb dX3_isCovered_0 rfl (lv_at hl 0 rfl) ?_
  refine lv_iload_n hx hb dX3_isCovered_1 rfl (lv_at hl 1 rfl) ?_
  refine kcS_i (n := 1) (X := []) (wc := []) (Y := wM cy m0 m1 m2 m3 m4 m5 m6 m7 m8 m9 m10 m11 m12 m13 m14 m15 m16 m17 th td sed mi fr to lim f1 f2 dis pin ag en cm mc su isu fir lgt ofs rn wsn) (As := [.int x_]) (rest := [.ref m0]) ⟨hx, hb, hml, hown, hts⟩ hE hA hP hD hS (c_X3_isName l D cy x_) (fun _ => rfl) gX3_isCovered_X3_isName rfl rfl rfl ⟨by decide, by decide, by decide +kernel⟩ ⟨Nat.le_of_ble_eq_true rfl, Nat.le_of_ble_eq_true rfl⟩ rfl hl.1 rfl (Nat.le_of_ble_eq_true rfl) dX3_isCovered_2 ⟨Nat.zero_le _, Nat.zero_le _⟩ (fun r_1 u H locs e_2 hP hD hS => ?_)
  have hP : va_P D vwCl (wM cy m0 m1 m2 m3 m4 m5 m6 m7 m8 m9 m10 m11 m12 m13 m14 m15 m16 m17 th td sed mi fr to lim f1 f2 dis pin ag en cm mc su isu fir lgt ofs rn wsn) H := hP
  have hD : va_D A (wM cy m0 m1 m2 m3 m4 m5 m6 m7 m8 m9 m10 m11 m12 m13 m14 m15 m16 m17 th td sed mi fr to lim f1 f2 dis pin ag en cm mc su isu fir lgt ofs rn wsn) := hD
  have e_2 : r_1 = bI (badN x_ = false) := e_2
  subst e_2
  refine k_ifne (tgt := 12) hx hb dX3_isCovered_5 (by decide) (fun c_5 => ?_) (fun c_5 => ?_)
  · refine lv_iload_n hx hb dX3_isCovered_12 rfl (lv_at hl 2 rfl) ?_
    refine kcS_i (n := 1) (X := []) (wc := []) (Y := wM cy m0 m1 m2 m3 m4 m5 m6 m7 m8 m9 m10 m11 m12 m13 m14 m15 m16 m17 th td sed mi fr to lim f1 f2 dis pin ag en cm mc su isu fir lgt ofs rn wsn) (As := [.int d_]) (rest := [.ref m0]) ⟨hx, hb, hml, hown, hts⟩ hE hA hP hD hS (c_X3_isDay l D cy d_) (fun _ => rfl) gX3_isCovered_X3_isDay rfl rfl rfl ⟨by decide, by decide, by decide +kernel⟩ ⟨Nat.le_of_ble_eq_true rfl, Nat.le_of_ble_eq_true rfl⟩ rfl hl.1 rfl (Nat.le_of_ble_eq_true rfl) dX3_isCovered_13 ⟨Nat.zero_le _, Nat.zero_le _⟩ (fun r_3 u H locs e_4 hP hD hS => ?_)
    have hP : va_P D vwCl (wM cy m0 m1 m2 m3 m4 m5 m6 m7 m8 m9 m10 m11 m12 m13 m14 m15 m16 m17 th td sed mi fr to lim f1 f2 dis pin ag en cm mc su isu fir lgt ofs rn wsn) H := hP
    have hD : va_D A (wM cy m0 m1 m2 m3 m4 m5 m6 m7 m8 m9 m10 m11 m12 m13 m14 m15 m16 m17 th td sed mi fr to lim f1 f2 dis pin ag en cm mc su isu fir lgt ofs rn wsn) := hD
    have e_4 : r_3 = bI (badD d_ = false) := e_4
    subst e_4
    refine k_ifeq (tgt := 23) hx hb dX3_isCovered_16 (by decide) (fun c_16 => ?_) (fun c_16 => ?_)
    · refine lv_iconst (v := 2) hx hb dX3_isCovered_23 (by decide) ?_
      refine va_put (D := D) (ci := 3) (v := .int 2) (ty := .int) (C := RX3) (T := TX3) (N := 22) hx hb hts g_X3 tyX3 tyX3_ok nmX3 hown hE.1 hP hD hS 0 rfl rfl 0 (by decide) f_66 (fun _ h9 => h9) rfl (by decide +kernel) rfl rfl (Nat.le_of_ble_eq_true rfl) dX3_isCovered_24 (fun H locs hP hD hS => ?_)
      have hP : va_P D vwCl (wM cy m0 m1 m2 m3 m4 m5 m6 m7 m8 m9 m10 m11 m12 m13 m14 m15 m16 m17 2 td sed mi fr to lim f1 f2 dis pin ag en cm mc su isu fir lgt ofs rn wsn) H := hP
      have hD : va_D A (wM cy m0 m1 m2 m3 m4 m5 m6 m7 m8 m9 m10 m11 m12 m13 m14 m15 m16 m17 2 td sed mi fr to lim f1 f2 dis pin ag en cm mc su isu fir lgt ofs rn wsn) := hD
      refine lv_aload_n hx hb dX3_isCovered_27 rfl (lv_at hl 0 rfl) ?_
      refine va_get (D := D) (ci := 3) (v := .int 2) (C := RX3) (T := TX3) (N := 22) hx hb hts g_X3 hown hE.1 hP 0 rfl rfl 0 (by decide) f_66 (fun _ h9 => h9) rfl dX3_isCovered_28 ?_
      refine lv_if_ne (tgt := 52) hx hb dX3_isCovered_31 (by decide) (fun _ => ?_) (fun c_31 => absurd c_31 (by decide))
      refine lv_iconst (v := 0) hx hb dX3_isCovered_52 (by decide) ?_
      exact absurd hcd (by simp [cdND, c_5, c_16])
    · refine lv_iconst (v := 0) hx hb dX3_isCovered_19 (by decide) ?_
      refine lv_goto (tgt := 24) hx hb dX3_isCovered_20 (by decide) ?_
      refine va_put (D := D) (ci := 3) (v := .int 0) (ty := .int) (C := RX3) (T := TX3) (N := 22) hx hb hts g_X3 tyX3 tyX3_ok nmX3 hown hE.1 hP hD hS 0 rfl rfl 0 (by decide) f_66 (fun _ h9 => h9) rfl (by decide +kernel) rfl rfl (Nat.le_of_ble_eq_true rfl) dX3_isCovered_24 (fun H locs hP hD hS => ?_)
      have hP : va_P D vwCl (wM cy m0 m1 m2 m3 m4 m5 m6 m7 m8 m9 m10 m11 m12 m13 m14 m15 m16 m17 0 td sed mi fr to lim f1 f2 dis pin ag en cm mc su isu fir lgt ofs rn wsn) H := hP
      have hD : va_D A (wM cy m0 m1 m2 m3 m4 m5 m6 m7 m8 m9 m10 m11 m12 m13 m14 m15 m16 m17 0 td sed mi fr to lim f1 f2 dis pin ag en cm mc su isu fir lgt ofs rn wsn) := hD
      refine lv_aload_n hx hb dX3_isCovered_27 rfl (lv_at hl 0 rfl) ?_
      refine va_get (D := D) (ci := 3) (v := .int 0) (C := RX3) (T := TX3) (N := 22) hx hb hts g_X3 hown hE.1 hP 0 rfl rfl 0 (by decide) f_66 (fun _ h9 => h9) rfl dX3_isCovered_28 ?_
      refine lv_if_ne (tgt := 52) hx hb dX3_isCovered_31 (by decide) (fun c_31 => absurd c_31 (by decide)) (fun _ => ?_)
      refine lv_aload_n hx hb dX3_isCovered_34 rfl (lv_at hl 0 rfl) ?_
      refine lv_iload_n hx hb dX3_isCovered_35 rfl (lv_at hl 2 rfl) ?_
      refine lv_iconst (v := (-1)) hx hb dX3_isCovered_36 (by decide) ?_
      refine kcW_i (n := 2) (wc := wM cy m0 m1 m2 m3 m4 m5 m6 m7 m8 m9 m10 m11 m12 m13 m14 m15 m16 m17 0 td sed mi fr to lim f1 f2 dis pin ag en cm mc su isu fir lgt ofs rn wsn) (As := [.int d_, .int (-1)]) (rest := []) ⟨hx, hb, hml, hown, hts⟩ hE hA hP hD hS (c_X3_names l D cy m0 m1 m2 m3 m4 m5 m6 m7 m8 m9 m10 m11 m12 m13 m14 m15 m16 m17 0 td sed mi fr to lim f1 f2 dis pin ag en cm mc su isu fir lgt ofs rn wsn d_ (-1) (by first | assumption | omega) (by first | assumption | omega) (by first | assumption | omega) (by first | assumption | omega) (by first | assumption | omega)) (fun _ => Eq.trans (b := [m0, m1, m2, m3, m4, m5, m6, m7, m8, m9, m10, m11, m12, m13, m14, m15, m16, m17]) rfl rfl) (q0 := 0) (ci := 3) rfl rfl gX3_isCovered_X3_names rfl rfl rfl ⟨rfl, by decide, by decide, by decide +kernel⟩ ⟨Nat.le_of_ble_eq_true rfl, Nat.le_of_ble_eq_true rfl⟩ rfl hl.1 rfl (Nat.le_of_ble_eq_true rfl) dX3_isCovered_37 ⟨Nat.zero_le _, Nat.zero_le _⟩ (fun r_5 u H locs e_6 hP hD hS => ?_)
      obtain ⟨ag_7, rfl⟩ : ∃ z, z = u := ⟨_, rfl⟩
      have hP : va_P D vwCl (wM cy m0 m1 m2 m3 m4 m5 m6 m7 m8 m9 m10 m11 m12 m13 m14 m15 m16 m17 0 td sed mi fr to lim f1 f2 dis pin ag_7 en cm mc su isu fir lgt ofs rn wsn) H := hP
      have hD : va_D A (wM cy m0 m1 m2 m3 m4 m5 m6 m7 m8 m9 m10 m11 m12 m13 m14 m15 m16 m17 0 td sed mi fr to lim f1 f2 dis pin ag_7 en cm mc su isu fir lgt ofs rn wsn) := hD
      have e_6 : r_5 = nmN f1 f2 fr to dis isu su fir lgt d_ (-1) mc := e_6
      subst e_6
      refine lv_iload_n hx hb dX3_isCovered_40 rfl (lv_at hl 1 rfl) ?_
      refine lv_ishr hx hb dX3_isCovered_41 ?_
      refine lv_iconst (v := 1) hx hb dX3_isCovered_42 (by decide) ?_
      refine lv_iand hx hb dX3_isCovered_43 ?_
      refine lv_iconst (v := 1) hx hb dX3_isCovered_44 (by decide) ?_
      refine lv_icmp_ne (tgt := 52) hx hb dX3_isCovered_45 (by decide) (fun c_45 => ?_) (fun c_45 => ?_)
      · refine lv_iconst (v := 0) hx hb dX3_isCovered_52 (by decide) ?_
        exact hret _ _ _ _ 0 ag_7 dX3_isCovered_53 (Or.inr (Or.inl rfl)) (bI_f (by simp [c_5, c_16, c_45])).symm hP hS
      · refine lv_iconst (v := 1) hx hb dX3_isCovered_48 (by decide) ?_
        refine lv_goto (tgt := 53) hx hb dX3_isCovered_49 (by decide) ?_
        exact hret _ _ _ _ 1 ag_7 dX3_isCovered_53 (Or.inr (Or.inr rfl)) (bI_t (by simp [c_5, c_16, c_45])).symm hP hS
  · refine lv_iconst (v := 1) hx hb dX3_isCovered_8 (by decide) ?_
    refine lv_goto (tgt := 24) hx hb dX3_isCovered_9 (by decide) ?_
    refine va_put (D := D) (ci := 3) (v := .int 1) (ty := .int) (C := RX3) (T := TX3) (N := 22) hx hb hts g_X3 tyX3 tyX3_ok nmX3 hown hE.1 hP hD hS 0 rfl rfl 0 (by decide) f_66 (fun _ h9 => h9) rfl (by decide +kernel) rfl rfl (Nat.le_of_ble_eq_true rfl) dX3_isCovered_24 (fun H locs hP hD hS => ?_)
    have hP : va_P D vwCl (wM cy m0 m1 m2 m3 m4 m5 m6 m7 m8 m9 m10 m11 m12 m13 m14 m15 m16 m17 1 td sed mi fr to lim f1 f2 dis pin ag en cm mc su isu fir lgt ofs rn wsn) H := hP
    have hD : va_D A (wM cy m0 m1 m2 m3 m4 m5 m6 m7 m8 m9 m10 m11 m12 m13 m14 m15 m16 m17 1 td sed mi fr to lim f1 f2 dis pin ag en cm mc su isu fir lgt ofs rn wsn) := hD
    refine lv_aload_n hx hb dX3_isCovered_27 rfl (lv_at hl 0 rfl) ?_
    refine va_get (D := D) (ci := 3) (v := .int 1) (C := RX3) (T := TX3) (N := 22) hx hb hts g_X3 hown hE.1 hP 0 rfl rfl 0 (by decide) f_66 (fun _ h9 => h9) rfl dX3_isCovered_28 ?_
    refine lv_if_ne (tgt := 52) hx hb dX3_isCovered_31 (by decide) (fun _ => ?_) (fun c_31 => absurd c_31 (by decide))
    refine lv_iconst (v := 0) hx hb dX3_isCovered_52 (by decide) ?_
    exact absurd hcd (by simp [cdND, c_5])

set_option maxHeartbeats 4000000 in
set_option maxRecDepth 100000 in
theorem c_X3_isCovered_f (l : Launch) (D : va_G) (cy : ClassId × ClassId × ClassId) (m0 m1 m2 m3 m4 m5 m6 m7 m8 m9 m10 m11 m12 m13 m14 m15 m16 m17 : Nat) (th td sed : Int32) (mi : Nat) (fr to lim f1 f2 dis pin ag en cm : Nat → Int32) (mc : Nat) (su isu fir lgt ofs rn wsn : Nat → Int32) (x_ : Int32) (d_ : Int32) (hm : mi ≤ 8) (hc : mc ≤ 60) (h1 : ∀ i, i < mi → sgP f1 i) (h2 : ∀ i, i < mi → sgP f2 i) (hok : certOK mi isu lgt mc) (hcd : ¬ cdND x_ d_ = 0) : kI l D cy yX3_isCovered wsX3_isCovered (krm 3 75) [.ref m0, .int x_, .int d_] (wM cy m0 m1 m2 m3 m4 m5 m6 m7 m8 m9 m10 m11 m12 m13 m14 m15 m16 m17 th td sed mi fr to lim f1 f2 dis pin ag en cm mc su isu fir lgt ofs rn wsn) (fun (r : Int32) (u : (Nat → Int32)) => True) (fun u : (Nat → Int32) => wM cy m0 m1 m2 m3 m4 m5 m6 m7 m8 m9 m10 m11 m12 m13 m14 m15 m16 m17 (cdND x_ d_) td sed mi fr to lim f1 f2 dis pin u en cm mc su isu fir lgt ofs rn wsn) := by
  refine kI.of (cc := cX3_isCovered) (maxL := 3) (rt := .boolean) (Or.inr rfl) (by decide) rfl (Nat.le_of_ble_eq_true rfl) ?_
  intro p e s m args below meth c Q A ls hx hb hml hown hts hE hA hP hD hl hret
  have hS : va_S A s.heap s.heap [] := va_S.rf
  have hl : lv_has ls 3 [(0, .ref m0), (1, .int x_), (2, .int d_)] := hl
  have g_X3 : ∀ w ∈ wsX30, w ∈ wsX3_isCovered := by decide +kernel
  have f_66 := hts (.fieldLink RX3 66 "CertHerdModel" "thrown" "I") (by decide +kernel)
  refine lv_aload_n hx hb dX3_isCovered_0 rfl (lv_at hl 0 rfl) ?_
  refine lv_iload_n hx hb dX3_isCovered_1 rfl (lv_at hl 1 rfl) ?_
  refine kcS_i (n := 1) (X := []) (wc := []) (Y := wM cy m0 m1 m2 m3 m4 m5 m6 m7 m8 m9 m10 m11 m12 m13 m14 m15 m16 m17 th td sed mi fr to lim f1 f2 dis pin ag en cm mc su isu fir lgt ofs rn wsn) (As := [.int x_]) (rest := [.ref m0]) ⟨hx, hb, hml, hown, hts⟩ hE hA hP hD hS (c_X3_isName l D cy x_) (fun _ => rfl) gX3_isCovered_X3_isName rfl rfl rfl ⟨by decide, by decide, by decide +kernel⟩ ⟨Nat.le_of_ble_eq_true rfl, Nat.le_of_ble_eq_true rfl⟩ rfl hl.1 rfl (Nat.le_of_ble_eq_true rfl) dX3_isCovered_2 ⟨Nat.zero_le _, Nat.zero_le _⟩ (fun r_1 u H locs e_2 hP hD hS => ?_)
  have hP : va_P D vwCl (wM cy m0 m1 m2 m3 m4 m5 m6 m7 m8 m9 m10 m11 m12 m13 m14 m15 m16 m17 th td sed mi fr to lim f1 f2 dis pin ag en cm mc su isu fir lgt ofs rn wsn) H := hP
  have hD : va_D A (wM cy m0 m1 m2 m3 m4 m5 m6 m7 m8 m9 m10 m11 m12 m13 m14 m15 m16 m17 th td sed mi fr to lim f1 f2 dis pin ag en cm mc su isu fir lgt ofs rn wsn) := hD
  have e_2 : r_1 = bI (badN x_ = false) := e_2
  subst e_2
  refine k_ifne (tgt := 12) hx hb dX3_isCovered_5 (by decide) (fun c_5 => ?_) (fun c_5 => ?_)
  · refine lv_iload_n hx hb dX3_isCovered_12 rfl (lv_at hl 2 rfl) ?_
    refine kcS_i (n := 1) (X := []) (wc := []) (Y := wM cy m0 m1 m2 m3 m4 m5 m6 m7 m8 m9 m10 m11 m12 m13 m14 m15 m16 m17 th td sed mi fr to lim f1 f2 dis pin ag en cm mc su isu fir lgt ofs rn wsn) (As := [.int d_]) (rest := [.ref m0]) ⟨hx, hb, hml, hown, hts⟩ hE hA hP hD hS (c_X3_isDay l D cy d_) (fun _ => rfl) gX3_isCovered_X3_isDay rfl rfl rfl ⟨by decide, by decide, by decide +kernel⟩ ⟨Nat.le_of_ble_eq_true rfl, Nat.le_of_ble_eq_true rfl⟩ rfl hl.1 rfl (Nat.le_of_ble_eq_true rfl) dX3_isCovered_13 ⟨Nat.zero_le _, Nat.zero_le _⟩ (fun r_3 u H locs e_4 hP hD hS => ?_)
    have hP : va_P D vwCl (wM cy m0 m1 m2 m3 m4 m5 m6 m7 m8 m9 m10 m11 m12 m13 m14 m15 m16 m17 th td sed mi fr to lim f1 f2 dis pin ag en cm mc su isu fir lgt ofs rn wsn) H := hP
    have hD : va_D A (wM cy m0 m1 m2 m3 m4 m5 m6 m7 m8 m9 m10 m11 m12 m13 m14 m15 m16 m17 th td sed mi fr to lim f1 f2 dis pin ag en cm mc su isu fir lgt ofs rn wsn) := hD
    have e_4 : r_3 = bI (badD d_ = false) := e_4
    subst e_4
    refine k_ifeq (tgt := 23) hx hb dX3_isCovered_16 (by decide) (fun c_16 => ?_) (fun c_16 => ?_)
    · refine lv_iconst (v := 2) hx hb dX3_isCovered_23 (by decide) ?_
      refine va_put (D := D) (ci := 3) (v := .int 2) (ty := .int) (C := RX3) (T := TX3) (N := 22) hx hb hts g_X3 tyX3 tyX3_ok nmX3 hown hE.1 hP hD hS 0 rfl rfl 0 (by decide) f_66 (fun _ h9 => h9) rfl (by decide +kernel) rfl rfl (Nat.le_of_ble_eq_true rfl) dX3_isCovered_24 (fun H locs hP hD hS => ?_)
      have hP : va_P D vwCl (wM cy m0 m1 m2 m3 m4 m5 m6 m7 m8 m9 m10 m11 m12 m13 m14 m15 m16 m17 2 td sed mi fr to lim f1 f2 dis pin ag en cm mc su isu fir lgt ofs rn wsn) H := hP
      have hD : va_D A (wM cy m0 m1 m2 m3 m4 m5 m6 m7 m8 m9 m10 m11 m12 m13 m14 m15 m16 m17 2 td sed mi fr to lim f1 f2 dis pin ag en cm mc su isu fir lgt ofs rn wsn) := hD
      refine lv_aload_n hx hb dX3_isCovered_27 rfl (lv_at hl 0 rfl) ?_
      refine va_get (D := D) (ci := 3) (v := .int 2) (C := RX3) (T := TX3) (N := 22) hx hb hts g_X3 hown hE.1 hP 0 rfl rfl 0 (by decide) f_66 (fun _ h9 => h9) rfl dX3_isCovered_28 ?_
      refine lv_if_ne (tgt := 52) hx hb dX3_isCovered_31 (by decide) (fun _ => ?_) (fun c_31 => absurd c_31 (by decide))
      refine lv_iconst (v := 0) hx hb dX3_isCovered_52 (by decide) ?_
      have w_th : 2 = cdND x_ d_ := (by simp [cdND, c_5, c_16])
      exact hret _ _ _ _ 0 ag dX3_isCovered_53 (Or.inr (Or.inl rfl)) trivial (by show va_P D vwCl (wM cy m0 m1 m2 m3 m4 m5 m6 m7 m8 m9 m10 m11 m12 m13 m14 m15 m16 m17 (cdND x_ d_) td sed mi fr to lim f1 f2 dis pin ag en cm mc su isu fir lgt ofs rn wsn) _; rw [← w_th]; exact hP) hS
    · refine lv_iconst (v := 0) hx hb dX3_isCovered_19 (by decide) ?_
      refine lv_goto (tgt := 24) hx hb dX3_isCovered_20 (by decide) ?_
      refine va_put (D := D) (ci := 3) (v := .int 0) (ty := .int) (C := RX3) (T := TX3) (N := 22) hx hb hts g_X3 tyX3 tyX3_ok nmX3 hown hE.1 hP hD hS 0 rfl rfl 0 (by decide) f_66 (fun _ h9 => h9) rfl (by decide +kernel) rfl rfl (Nat.le_of_ble_eq_true rfl) dX3_isCovered_24 (fun H locs hP hD hS => ?_)
      have hP : va_P D vwCl (wM cy m0 m1 m2 m3 m4 m5 m6 m7 m8 m9 m10 m11 m12 m13 m14 m15 m16 m17 0 td sed mi fr to lim f1 f2 dis pin ag en cm mc su isu fir lgt ofs rn wsn) H := hP
      have hD : va_D A (wM cy m0 m1 m2 m3 m4 m5 m6 m7 m8 m9 m10 m11 m12 m13 m14 m15 m16 m17 0 td sed mi fr to lim f1 f2 dis pin ag en cm mc su isu fir lgt ofs rn wsn) := hD
      refine lv_aload_n hx hb dX3_isCovered_27 rfl (lv_at hl 0 rfl) ?_
      refine va_get (D := D) (ci := 3) (v := .int 0) (C := RX3) (T := TX3) (N := 22) hx hb hts g_X3 hown hE.1 hP 0 rfl rfl 0 (by decide) f_66 (fun _ h9 => h9) rfl dX3_isCovered_28 ?_
      refine lv_if_ne (tgt := 52) hx hb dX3_isCovered_31 (by decide) (fun c_31 => absurd c_31 (by decide)) (fun _ => ?_)
      refine lv_aload_n hx hb dX3_isCovered_34 rfl (lv_at hl 0 rfl) ?_
      refine lv_iload_n hx hb dX3_isCovered_35 rfl (lv_at hl 2 rfl) ?_
      refine lv_iconst (v := (-1)) hx hb dX3_isCovered_36 (by decide) ?_
      refine kcW_i (n := 2) (wc := wM cy m0 m1 m2 m3 m4 m5 m6 m7 m8 m9 m10 m11 m12 m13 m14 m15 m16 m17 0 td sed mi fr to lim f1 f2 dis pin ag en cm mc su isu fir lgt ofs rn wsn) (As := [.int d_, .int (-1)]) (rest := []) ⟨hx, hb, hml, hown, hts⟩ hE hA hP hD hS (c_X3_names l D cy m0 m1 m2 m3 m4 m5 m6 m7 m8 m9 m10 m11 m12 m13 m14 m15 m16 m17 0 td sed mi fr to lim f1 f2 dis pin ag en cm mc su isu fir lgt ofs rn wsn d_ (-1) (by first | assumption | omega) (by first | assumption | omega) (by first | assumption | omega) (by first | assumption | omega) (by first | assumption | omega)) (fun _ => Eq.trans (b := [m0, m1, m2, m3, m4, m5, m6, m7, m8, m9, m10, m11, m12, m13, m14, m15, m16, m17]) rfl rfl) (q0 := 0) (ci := 3) rfl rfl gX3_isCovered_X3_names rfl rfl rfl ⟨rfl, by decide, by decide, by decide +kernel⟩ ⟨Nat.le_of_ble_eq_true rfl, Nat.le_of_ble_eq_true rfl⟩ rfl hl.1 rfl (Nat.le_of_ble_eq_true rfl) dX3_isCovered_37 ⟨Nat.zero_le _, Nat.zero_le _⟩ (fun r_5 u H locs e_6 hP hD hS => ?_)
      obtain ⟨ag_7, rfl⟩ : ∃ z, z = u := ⟨_, rfl⟩
      have hP : va_P D vwCl (wM cy m0 m1 m2 m3 m4 m5 m6 m7 m8 m9 m10 m11 m12 m13 m14 m15 m16 m17 0 td sed mi fr to lim f1 f2 dis pin ag_7 en cm mc su isu fir lgt ofs rn wsn) H := hP
      have hD : va_D A (wM cy m0 m1 m2 m3 m4 m5 m6 m7 m8 m9 m10 m11 m12 m13 m14 m15 m16 m17 0 td sed mi fr to lim f1 f2 dis pin ag_7 en cm mc su isu fir lgt ofs rn wsn) := hD
      have e_6 : r_5 = nmN f1 f2 fr to dis isu su fir lgt d_ (-1) mc := e_6
      subst e_6
      refine lv_iload_n hx hb dX3_isCovered_40 rfl (lv_at hl 1 rfl) ?_
      refine lv_ishr hx hb dX3_isCovered_41 ?_
      refine lv_iconst (v := 1) hx hb dX3_isCovered_42 (by decide) ?_
      refine lv_iand hx hb dX3_isCovered_43 ?_
      refine lv_iconst (v := 1) hx hb dX3_isCovered_44 (by decide) ?_
      refine lv_icmp_ne (tgt := 52) hx hb dX3_isCovered_45 (by decide) (fun c_45 => ?_) (fun c_45 => ?_)
      · refine lv_iconst (v := 0) hx hb dX3_isCovered_52 (by decide) ?_
        exact absurd (by simp [cdND, c_5, c_16, c_45]) hcd
      · refine lv_iconst (v := 1) hx hb dX3_isCovered_48 (by decide) ?_
        refine lv_goto (tgt := 53) hx hb dX3_isCovered_49 (by decide) ?_
        exact absurd (by simp [cdND, c_5, c_16, c_45]) hcd
  · refine lv_iconst (v := 1) hx hb dX3_isCovered_8 (by decide) ?_
    refine lv_goto (tgt := 24) hx hb dX3_isCovered_9 (by decide) ?_
    refine va_put (D := D) (ci := 3) (v := .int 1) (ty := .int) (C := RX3) (T := TX3) (N := 22) hx hb hts g_X3 tyX3 tyX3_ok nmX3 hown hE.1 hP hD hS 0 rfl rfl 0 (by decide) f_66 (fun _ h9 => h9) rfl (by decide +kernel) rfl rfl (Nat.le_of_ble_eq_true rfl) dX3_isCovered_24 (fun H locs hP hD hS => ?_)
    have hP : va_P D vwCl (wM cy m0 m1 m2 m3 m4 m5 m6 m7 m8 m9 m10 m11 m12 m13 m14 m15 m16 m17 1 td sed mi fr to lim f1 f2 dis pin ag en cm mc su isu fir lgt ofs rn wsn) H := hP
    have hD : va_D A (wM cy m0 m1 m2 m3 m4 m5 m6 m7 m8 m9 m10 m11 m12 m13 m14 m15 m16 m17 1 td sed mi fr to lim f1 f2 dis pin ag en cm mc su isu fir lgt ofs rn wsn) := hD
    refine lv_aload_n hx hb dX3_isCovered_27 rfl (lv_at hl 0 rfl) ?_
    refine va_get (D := D) (ci := 3) (v := .int 1) (C := RX3) (T := TX3) (N := 22) hx hb hts g_X3 hown hE.1 hP 0 rfl rfl 0 (by decide) f_66 (fun _ h9 => h9) rfl dX3_isCovered_28 ?_
    refine lv_if_ne (tgt := 52) hx hb dX3_isCovered_31 (by decide) (fun _ => ?_) (fun c_31 => absurd c_31 (by decide))
    refine lv_iconst (v := 0) hx hb dX3_isCovered_52 (by decide) ?_
    have w_th : 1 = cdND x_ d_ := (by simp [cdND, c_5])
    exact hret _ _ _ _ 0 ag dX3_isCovered_53 (Or.inr (Or.inl rfl)) trivial (by show va_P D vwCl (wM cy m0 m1 m2 m3 m4 m5 m6 m7 m8 m9 m10 m11 m12 m13 m14 m15 m16 m17 (cdND x_ d_) td sed mi fr to lim f1 f2 dis pin ag en cm mc su isu fir lgt ofs rn wsn) _; rw [← w_th]; exact hP) hS

set_option maxHeartbeats 4000000 in
set_option maxRecDepth 100000 in
theorem c_X3_nextGap (l : Launch) (D : va_G) (cy : ClassId × ClassId × ClassId) (m0 m1 m2 m3 m4 m5 m6 m7 m8 m9 m10 m11 m12 m13 m14 m15 m16 m17 : Nat) (th td sed : Int32) (mi : Nat) (fr to lim f1 f2 dis pin ag en cm : Nat → Int32) (mc : Nat) (su isu fir lgt ofs rn wsn : Nat → Int32) (x_ : Int32) (d_ : Int32) (hm : mi ≤ 8) (hc : mc ≤ 60) (h1 : ∀ i, i < mi → sgP f1 i) (h2 : ∀ i, i < mi → sgP f2 i) (hok : certOK mi isu lgt mc) (hcd : cdND x_ d_ = 0) : kI l D cy yX3_nextGap wsX3_nextGap (krm 3 75) [.ref m0, .int x_, .int d_] (wM cy m0 m1 m2 m3 m4 m5 m6 m7 m8 m9 m10 m11 m12 m13 m14 m15 m16 m17 th td sed mi fr to lim f1 f2 dis pin ag en cm mc su isu fir lgt ofs rn wsn) (fun (r : Int32) (u : (Nat → Int32)) => r = ngM f1 f2 fr to dis isu su fir lgt mc x_ (5001 - ix d_) (ix d_)) (fun u : (Nat → Int32) => wM cy m0 m1 m2 m3 m4 m5 m6 m7 m8 m9 m10 m11 m12 m13 m14 m15 m16 m17 0 td sed mi fr to lim f1 f2 dis pin u en cm mc su isu fir lgt ofs rn wsn) := by
  refine kI.of (cc := cX3_nextGap) (maxL := 4) (rt := .int) (Or.inl rfl) (by decide) rfl (Nat.le_of_ble_eq_true rfl) ?_
  intro p e s m args below meth c Q A ls hx hb hml hown hts hE hA hP hD hl hret
  have hS : va_S A s.heap s.heap [] := va_S.rf
  have hl : lv_has ls 4 [(0, .ref m0), (1, .int x_), (2, .int d_)] := hl
  have g_X3 : ∀ w ∈ wsX30, w ∈ wsX3_nextGap := by decide +kernel
  have f_66 := hts (.fieldLink RX3 66 "CertHerdModel" "thrown" "I") (by decide +kernel)
  refine lv_aload_n hx hb dX3_nextGap_0 rfl (lv_at hl 0 rfl) ?_
  refine lv_iload_n hx hb dX3_nextGap_1 rfl (lv_at hl 1 rfl) ?_
  refine kcS_i (n := 1) (X := []) (wc := []) (Y := wM cy m0 m1 m2 m3 m4 m5 m6 m7 m8 m9 m10 m11 m12 m13 m14 m15 m16 m17 th td sed mi fr to lim f1 f2 dis pin ag en cm mc su isu fir lgt ofs rn wsn) (As := [.int x_]) (rest := [.ref m0]) ⟨hx, hb, hml, hown, hts⟩ hE hA hP hD hS (c_X3_isName l D cy x_) (fun _ => rfl) gX3_nextGap_X3_isName rfl rfl rfl ⟨by decide, by decide, by decide +kernel⟩ ⟨Nat.le_of_ble_eq_true rfl, Nat.le_of_ble_eq_true rfl⟩ rfl hl.1 rfl (Nat.le_of_ble_eq_true rfl) dX3_nextGap_2 ⟨Nat.zero_le _, Nat.zero_le _⟩ (fun r_1 u H locs e_2 hP hD hS => ?_)
  have hP : va_P D vwCl (wM cy m0 m1 m2 m3 m4 m5 m6 m7 m8 m9 m10 m11 m12 m13 m14 m15 m16 m17 th td sed mi fr to lim f1 f2 dis pin ag en cm mc su isu fir lgt ofs rn wsn) H := hP
  have hD : va_D A (wM cy m0 m1 m2 m3 m4 m5 m6 m7 m8 m9 m10 m11 m12 m13 m14 m15 m16 m17 th td sed mi fr to lim f1 f2 dis pin ag en cm mc su isu fir lgt ofs rn wsn) := hD
  have e_2 : r_1 = bI (badN x_ = false) := e_2
  subst e_2
  refine k_ifne (tgt := 12) hx hb dX3_nextGap_5 (by decide) (fun c_5 => ?_) (fun c_5 => ?_)
  · refine lv_iload_n hx hb dX3_nextGap_12 rfl (lv_at hl 2 rfl) ?_
    refine kcS_i (n := 1) (X := []) (wc := []) (Y := wM cy m0 m1 m2 m3 m4 m5 m6 m7 m8 m9 m10 m11 m12 m13 m14 m15 m16 m17 th td sed mi fr to lim f1 f2 dis pin ag en cm mc su isu fir lgt ofs rn wsn) (As := [.int d_]) (rest := [.ref m0]) ⟨hx, hb, hml, hown, hts⟩ hE hA hP hD hS (c_X3_isDay l D cy d_) (fun _ => rfl) gX3_nextGap_X3_isDay rfl rfl rfl ⟨by decide, by decide, by decide +kernel⟩ ⟨Nat.le_of_ble_eq_true rfl, Nat.le_of_ble_eq_true rfl⟩ rfl hl.1 rfl (Nat.le_of_ble_eq_true rfl) dX3_nextGap_13 ⟨Nat.zero_le _, Nat.zero_le _⟩ (fun r_3 u H locs e_4 hP hD hS => ?_)
    have hP : va_P D vwCl (wM cy m0 m1 m2 m3 m4 m5 m6 m7 m8 m9 m10 m11 m12 m13 m14 m15 m16 m17 th td sed mi fr to lim f1 f2 dis pin ag en cm mc su isu fir lgt ofs rn wsn) H := hP
    have hD : va_D A (wM cy m0 m1 m2 m3 m4 m5 m6 m7 m8 m9 m10 m11 m12 m13 m14 m15 m16 m17 th td sed mi fr to lim f1 f2 dis pin ag en cm mc su isu fir lgt ofs rn wsn) := hD
    have e_4 : r_3 = bI (badD d_ = false) := e_4
    subst e_4
    refine k_ifeq (tgt := 23) hx hb dX3_nextGap_16 (by decide) (fun c_16 => ?_) (fun c_16 => ?_)
    · refine lv_iconst (v := 2) hx hb dX3_nextGap_23 (by decide) ?_
      refine va_put (D := D) (ci := 3) (v := .int 2) (ty := .int) (C := RX3) (T := TX3) (N := 22) hx hb hts g_X3 tyX3 tyX3_ok nmX3 hown hE.1 hP hD hS 0 rfl rfl 0 (by decide) f_66 (fun _ h9 => h9) rfl (by decide +kernel) rfl rfl (Nat.le_of_ble_eq_true rfl) dX3_nextGap_24 (fun H locs hP hD hS => ?_)
      have hP : va_P D vwCl (wM cy m0 m1 m2 m3 m4 m5 m6 m7 m8 m9 m10 m11 m12 m13 m14 m15 m16 m17 2 td sed mi fr to lim f1 f2 dis pin ag en cm mc su isu fir lgt ofs rn wsn) H := hP
      have hD : va_D A (wM cy m0 m1 m2 m3 m4 m5 m6 m7 m8 m9 m10 m11 m12 m13 m14 m15 m16 m17 2 td sed mi fr to lim f1 f2 dis pin ag en cm mc su isu fir lgt ofs rn wsn) := hD
      refine lv_aload_n hx hb dX3_nextGap_27 rfl (lv_at hl 0 rfl) ?_
      refine va_get (D := D) (ci := 3) (v := .int 2) (C := RX3) (T := TX3) (N := 22) hx hb hts g_X3 hown hE.1 hP 0 rfl rfl 0 (by decide) f_66 (fun _ h9 => h9) rfl dX3_nextGap_28 ?_
      refine lv_if_le (tgt := 36) hx hb dX3_nextGap_31 (by decide) (fun c_31 => absurd c_31 (by decide)) (fun _ => ?_)
      refine lv_iconst (v := 0) hx hb dX3_nextGap_34 (by decide) ?_
      exact absurd hcd (by simp [cdND, c_5, c_16])
    · refine lv_iconst (v := 0) hx hb dX3_nextGap_19 (by decide) ?_
      refine lv_goto (tgt := 24) hx hb dX3_nextGap_20 (by decide) ?_
      refine va_put (D := D) (ci := 3) (v := .int 0) (ty := .int) (C := RX3) (T := TX3) (N := 22) hx hb hts g_X3 tyX3 tyX3_ok nmX3 hown hE.1 hP hD hS 0 rfl rfl 0 (by decide) f_66 (fun _ h9 => h9) rfl (by decide +kernel) rfl rfl (Nat.le_of_ble_eq_true rfl) dX3_nextGap_24 (fun H locs hP hD hS => ?_)
      have hP : va_P D vwCl (wM cy m0 m1 m2 m3 m4 m5 m6 m7 m8 m9 m10 m11 m12 m13 m14 m15 m16 m17 0 td sed mi fr to lim f1 f2 dis pin ag en cm mc su isu fir lgt ofs rn wsn) H := hP
      have hD : va_D A (wM cy m0 m1 m2 m3 m4 m5 m6 m7 m8 m9 m10 m11 m12 m13 m14 m15 m16 m17 0 td sed mi fr to lim f1 f2 dis pin ag en cm mc su isu fir lgt ofs rn wsn) := hD
      refine lv_aload_n hx hb dX3_nextGap_27 rfl (lv_at hl 0 rfl) ?_
      refine va_get (D := D) (ci := 3) (v := .int 0) (C := RX3) (T := TX3) (N := 22) hx hb hts g_X3 hown hE.1 hP 0 rfl rfl 0 (by decide) f_66 (fun _ h9 => h9) rfl dX3_nextGap_28 ?_
      refine lv_if_le (tgt := 36) hx hb dX3_nextGap_31 (by decide) (fun _ => ?_) (fun c_31 => absurd c_31 (by decide))
      have hix_d_ := (badD_ok (i := d_) (by assumption)).2
      refine lv_iload_n hx hb dX3_nextGap_36 rfl (lv_at hl 2 rfl) ?_
      refine k_top (z := nI (ix d_)) (badD_ok (i := d_) (by assumption)).1 ?_
      refine lv_istore_n (lv' := [(3, .int (nI (ix d_))), (0, .ref m0), (1, .int x_), (2, .int d_)]) hx hb dX3_nextGap_37 rfl hl (by decide) rfl (fun ls hl => ?_)
      have L_38 : ∀ (f : Nat) (y_ : Nat) (g_ : Nat → Int32) (H : Heap) (locs : List Loc) (ls : Array Slot), ((5001 - y_) < f) → (y_ ≤ 5001) → (ngM f1 f2 fr to dis isu su fir lgt mc x_ (5001 - y_) y_ = ngM f1 f2 fr to dis isu su fir lgt mc x_ (5001 - ix d_) (ix d_)) → va_P D vwCl (wM cy m0 m1 m2 m3 m4 m5 m6 m7 m8 m9 m10 m11 m12 m13 m14 m15 m16 m17 0 td sed mi fr to lim f1 f2 dis pin g_ en cm mc su isu fir lgt ofs rn wsn) H → va_D A (wM cy m0 m1 m2 m3 m4 m5 m6 m7 m8 m9 m10 m11 m12 m13 m14 m15 m16 m17 0 td sed mi fr to lim f1 f2 dis pin g_ en cm mc su isu fir lgt ofs rn wsn) → va_S A s.heap H locs → lv_has ls 4 [(3, .int (nI y_)), (0, .ref m0), (1, .int x_), (2, .int d_)] → W p l e (krm 3 75) s m args below meth c H locs 0 0 Q (F0 m 38 ls []) := by
        intro f
        induction f with
        | zero => intro y_ g_ H locs ls hf; exact absurd hf (Nat.not_lt_zero _)
        | succ f ih_38 =>
          intro y_ g_ H locs ls hf hy eg hP hD hS hl
          refine lv_iload_n hx hb dX3_nextGap_38 rfl (lv_at hl 0 rfl) ?_
          refine lv_sipush (v := 5000) hx hb dX3_nextGap_39 (by decide) ?_
          refine lv_icmp_gt (tgt := 65) hx hb dX3_nextGap_42 (by decide) (fun c_42 => ?_) (fun c_42 => ?_)
          · have c_42n : 5000 < y_ := k_ltN (a := 5000) (b := y_) (by omega) (by omega) c_42
            refine lv_iload_n hx hb dX3_nextGap_65 rfl (lv_at hl 0 rfl) ?_
            refine lv_sipush (v := 5000) hx hb dX3_nextGap_66 (by decide) ?_
            refine lv_icmp_le (tgt := 76) hx hb dX3_nextGap_69 (by decide) (fun c_69 => absurd c_42 (i32_nlt.mpr c_69)) (fun c_69 => ?_)
            refine lv_iconst (v := (-1)) hx hb dX3_nextGap_72 (by decide) ?_
            refine lv_goto (tgt := 77) hx hb dX3_nextGap_73 (by decide) ?_
            exact hret _ _ _ _ (-1) g_ dX3_nextGap_77 (Or.inl rfl) (by rw [← eg, show 5001 - y_ = 0 by omega]; rfl) hP hS
          · have c_42n : ¬ 5000 < y_ := k_nltN (a := 5000) (b := y_) (by omega) (by omega) c_42
            refine lv_aload_n hx hb dX3_nextGap_45 rfl (lv_at hl 1 rfl) ?_
            refine lv_iload_n hx hb dX3_nextGap_46 rfl (lv_at hl 0 rfl) ?_
            refine lv_iconst (v := (-1)) hx hb dX3_nextGap_47 (by decide) ?_
            refine kcW_i (n := 2) (wc := wM cy m0 m1 m2 m3 m4 m5 m6 m7 m8 m9 m10 m11 m12 m13 m14 m15 m16 m17 0 td sed mi fr to lim f1 f2 dis pin g_ en cm mc su isu fir lgt ofs rn wsn) (As := [.int (nI y_), .int (-1)]) (rest := []) ⟨hx, hb, hml, hown, hts⟩ hE hA hP hD hS (c_X3_names l D cy m0 m1 m2 m3 m4 m5 m6 m7 m8 m9 m10 m11 m12 m13 m14 m15 m16 m17 0 td sed mi fr to lim f1 f2 dis pin g_ en cm mc su isu fir lgt ofs rn wsn (nI y_) (-1) (by first | assumption | omega) (by first | assumption | omega) (by first | assumption | omega) (by first | assumption | omega) (by first | assumption | omega)) (fun _ => Eq.trans (b := [m0, m1, m2, m3, m4, m5, m6, m7, m8, m9, m10, m11, m12, m13, m14, m15, m16, m17]) rfl rfl) (q0 := 0) (ci := 3) rfl rfl gX3_nextGap_X3_names rfl rfl rfl ⟨rfl, by decide, by decide, by decide +kernel⟩ ⟨Nat.le_of_ble_eq_true rfl, Nat.le_of_ble_eq_true rfl⟩ rfl hl.1 rfl (Nat.le_of_ble_eq_true rfl) dX3_nextGap_48 ⟨Nat.zero_le _, Nat.zero_le _⟩ (fun r_5 u H locs e_6 hP hD hS => ?_)
            obtain ⟨ag_7, rfl⟩ : ∃ z, z = u := ⟨_, rfl⟩
            have hP : va_P D vwCl (wM cy m0 m1 m2 m3 m4 m5 m6 m7 m8 m9 m10 m11 m12 m13 m14 m15 m16 m17 0 td sed mi fr to lim f1 f2 dis pin ag_7 en cm mc su isu fir lgt ofs rn wsn) H := hP
            have hD : va_D A (wM cy m0 m1 m2 m3 m4 m5 m6 m7 m8 m9 m10 m11 m12 m13 m14 m15 m16 m17 0 td sed mi fr to lim f1 f2 dis pin ag_7 en cm mc su isu fir lgt ofs rn wsn) := hD
            have e_6 : r_5 = nmN f1 f2 fr to dis isu su fir lgt (nI y_) (-1) mc := e_6
            subst e_6
            refine lv_iload_n hx hb dX3_nextGap_51 rfl (lv_at hl 2 rfl) ?_
            refine lv_ishr hx hb dX3_nextGap_52 ?_
            refine lv_iconst (v := 1) hx hb dX3_nextGap_53 (by decide) ?_
            refine lv_iand hx hb dX3_nextGap_54 ?_
            refine lv_iconst (v := 1) hx hb dX3_nextGap_55 (by decide) ?_
            refine lv_icmp_ne (tgt := 65) hx hb dX3_nextGap_56 (by decide) (fun c_56 => ?_) (fun c_56 => ?_)
            · refine lv_iload_n hx hb dX3_nextGap_65 rfl (lv_at hl 0 rfl) ?_
              refine lv_sipush (v := 5000) hx hb dX3_nextGap_66 (by decide) ?_
              refine lv_icmp_le (tgt := 76) hx hb dX3_nextGap_69 (by decide) (fun c_69 => ?_) (fun c_69 => absurd (i32_nlt.mp c_42) c_69)
              refine lv_iload_n hx hb dX3_nextGap_76 rfl (lv_at hl 0 rfl) ?_
              exact hret _ _ _ _ (nI y_) ag_7 dX3_nextGap_77 (Or.inl rfl) (by rw [← eg, show 5001 - y_ = (5001 - (y_ + 1)) + 1 by omega, ngM, if_neg c_56]) hP hS
            · refine lv_iinc (v := (nI (y_ + 1))) (lv' := [(3, .int (nI (y_ + 1))), (0, .ref m0), (1, .int x_), (2, .int d_)]) hx hb dX3_nextGap_59 hl (k := 0) rfl (k_inc _) (by decide) rfl (fun ls hl => ?_)
              refine lv_goto (tgt := 38) hx hb dX3_nextGap_62 (by decide) ?_
              exact ih_38 (y_ + 1) ag_7 _ _ ls (by omega) (by omega) (by rw [← eg, show 5001 - y_ = (5001 - (y_ + 1)) + 1 by omega, ngM, if_pos c_56]) hP hD hS (lv_sub hl [0, 1, 2, 3] rfl)
      exact L_38 ((5001 - (ix d_)) + 1) (ix d_) ag _ _ ls (Nat.lt_succ_self _) (by omega) rfl hP hD hS (lv_sub hl [0, 1, 2, 3] rfl)
  · refine lv_iconst (v := 1) hx hb dX3_nextGap_8 (by decide) ?_
    refine lv_goto (tgt := 24) hx hb dX3_nextGap_9 (by decide) ?_
    refine va_put (D := D) (ci := 3) (v := .int 1) (ty := .int) (C := RX3) (T := TX3) (N := 22) hx hb hts g_X3 tyX3 tyX3_ok nmX3 hown hE.1 hP hD hS 0 rfl rfl 0 (by decide) f_66 (fun _ h9 => h9) rfl (by decide +kernel) rfl rfl (Nat.le_of_ble_eq_true rfl) dX3_nextGap_24 (fun H locs hP hD hS => ?_)
    have hP : va_P D vwCl (wM cy m0 m1 m2 m3 m4 m5 m6 m7 m8 m9 m10 m11 m12 m13 m14 m15 m16 m17 1 td sed mi fr to lim f1 f2 dis pin ag en cm mc su isu fir lgt ofs rn wsn) H := hP
    have hD : va_D A (wM cy m0 m1 m2 m3 m4 m5 m6 m7 m8 m9 m10 m11 m12 m13 m14 m15 m16 m17 1 td sed mi fr to lim f1 f2 dis pin ag en cm mc su isu fir lgt ofs rn wsn) := hD
    refine lv_aload_n hx hb dX3_nextGap_27 rfl (lv_at hl 0 rfl) ?_
    refine va_get (D := D) (ci := 3) (v := .int 1) (C := RX3) (T := TX3) (N := 22) hx hb hts g_X3 hown hE.1 hP 0 rfl rfl 0 (by decide) f_66 (fun _ h9 => h9) rfl dX3_nextGap_28 ?_
    refine lv_if_le (tgt := 36) hx hb dX3_nextGap_31 (by decide) (fun c_31 => absurd c_31 (by decide)) (fun _ => ?_)
    refine lv_iconst (v := 0) hx hb dX3_nextGap_34 (by decide) ?_
    exact absurd hcd (by simp [cdND, c_5])

set_option maxHeartbeats 4000000 in
set_option maxRecDepth 100000 in
theorem c_X3_nextGap_f (l : Launch) (D : va_G) (cy : ClassId × ClassId × ClassId) (m0 m1 m2 m3 m4 m5 m6 m7 m8 m9 m10 m11 m12 m13 m14 m15 m16 m17 : Nat) (th td sed : Int32) (mi : Nat) (fr to lim f1 f2 dis pin ag en cm : Nat → Int32) (mc : Nat) (su isu fir lgt ofs rn wsn : Nat → Int32) (x_ : Int32) (d_ : Int32) (hm : mi ≤ 8) (hc : mc ≤ 60) (h1 : ∀ i, i < mi → sgP f1 i) (h2 : ∀ i, i < mi → sgP f2 i) (hok : certOK mi isu lgt mc) (hcd : ¬ cdND x_ d_ = 0) : kI l D cy yX3_nextGap wsX3_nextGap (krm 3 75) [.ref m0, .int x_, .int d_] (wM cy m0 m1 m2 m3 m4 m5 m6 m7 m8 m9 m10 m11 m12 m13 m14 m15 m16 m17 th td sed mi fr to lim f1 f2 dis pin ag en cm mc su isu fir lgt ofs rn wsn) (fun (r : Int32) (u : (Nat → Int32)) => True) (fun u : (Nat → Int32) => wM cy m0 m1 m2 m3 m4 m5 m6 m7 m8 m9 m10 m11 m12 m13 m14 m15 m16 m17 (cdND x_ d_) td sed mi fr to lim f1 f2 dis pin u en cm mc su isu fir lgt ofs rn wsn) := by
  refine kI.of (cc := cX3_nextGap) (maxL := 4) (rt := .int) (Or.inl rfl) (by decide) rfl (Nat.le_of_ble_eq_true rfl) ?_
  intro p e s m args below meth c Q A ls hx hb hml hown hts hE hA hP hD hl hret
  have hS : va_S A s.heap s.heap [] := va_S.rf
  have hl : lv_has ls 4 [(0, .ref m0), (1, .int x_), (2, .int d_)] := hl
  have g_X3 : ∀ w ∈ wsX30, w ∈ wsX3_nextGap := by decide +kernel
  have f_66 := hts (.fieldLink RX3 66 "CertHerdModel" "thrown" "I") (by decide +kernel)
  refine lv_aload_n hx hb dX3_nextGap_0 rfl (lv_at hl 0 rfl) ?_
  refine lv_iload_n hx hb dX3_nextGap_1 rfl (lv_at hl 1 rfl) ?_
  refine kcS_i (n := 1) (X := []) (wc := []) (Y := wM cy m0 m1 m2 m3 m4 m5 m6 m7 m8 m9 m10 m11 m12 m13 m14 m15 m16 m17 th td sed mi fr to lim f1 f2 dis pin ag en cm mc su isu fir lgt ofs rn wsn) (As := [.int x_]) (rest := [.ref m0]) ⟨hx, hb, hml, hown, hts⟩ hE hA hP hD hS (c_X3_isName l D cy x_) (fun _ => rfl) gX3_nextGap_X3_isName rfl rfl rfl ⟨by decide, by decide, by decide +kernel⟩ ⟨Nat.le_of_ble_eq_true rfl, Nat.le_of_ble_eq_true rfl⟩ rfl hl.1 rfl (Nat.le_of_ble_eq_true rfl) dX3_nextGap_2 ⟨Nat.zero_le _, Nat.zero_le _⟩ (fun r_1 u H locs e_2 hP hD hS => ?_)
  have hP : va_P D vwCl (wM cy m0 m1 m2 m3 m4 m5 m6 m7 m8 m9 m10 m11 m12 m13 m14 m15 m16 m17 th td sed mi fr to lim f1 f2 dis pin ag en cm mc su isu fir lgt ofs rn wsn) H := hP
  have hD : va_D A (wM cy m0 m1 m2 m3 m4 m5 m6 m7 m8 m9 m10 m11 m12 m13 m14 m15 m16 m17 th td sed mi fr to lim f1 f2 dis pin ag en cm mc su isu fir lgt ofs rn wsn) := hD
  have e_2 : r_1 = bI (badN x_ = false) := e_2
  subst e_2
  refine k_ifne (tgt := 12) hx hb dX3_nextGap_5 (by decide) (fun c_5 => ?_) (fun c_5 => ?_)
  · refine lv_iload_n hx hb dX3_nextGap_12 rfl (lv_at hl 2 rfl) ?_
    refine kcS_i (n := 1) (X := []) (wc := []) (Y := wM cy m0 m1 m2 m3 m4 m5 m6 m7 m8 m9 m10 m11 m12 m13 m14 m15 m16 m17 th td sed mi fr to lim f1 f2 dis pin ag en cm mc su isu fir lgt ofs rn wsn) (As := [.int d_]) (rest := [.ref m0]) ⟨hx, hb, hml, hown, hts⟩ hE hA hP hD hS (c_X3_isDay l D cy d_) (fun _ => rfl) gX3_nextGap_X3_isDay rfl rfl rfl ⟨by decide, by decide, by decide +kernel⟩ ⟨Nat.le_of_ble_eq_true rfl, Nat.le_of_ble_eq_true rfl⟩ rfl hl.1 rfl (Nat.le_of_ble_eq_true rfl) dX3_nextGap_13 ⟨Nat.zero_le _, Nat.zero_le _⟩ (fun r_3 u H locs e_4 hP hD hS => ?_)
    have hP : va_P D vwCl (wM cy m0 m1 m2 m3 m4 m5 m6 m7 m8 m9 m10 m11 m12 m13 m14 m15 m16 m17 th td sed mi fr to lim f1 f2 dis pin ag en cm mc su isu fir lgt ofs rn wsn) H := hP
    have hD : va_D A (wM cy m0 m1 m2 m3 m4 m5 m6 m7 m8 m9 m10 m11 m12 m13 m14 m15 m16 m17 th td sed mi fr to lim f1 f2 dis pin ag en cm mc su isu fir lgt ofs rn wsn) := hD
    have e_4 : r_3 = bI (badD d_ = false) := e_4
    subst e_4
    refine k_ifeq (tgt := 23) hx hb dX3_nextGap_16 (by decide) (fun c_16 => ?_) (fun c_16 => ?_)
    · refine lv_iconst (v := 2) hx hb dX3_nextGap_23 (by decide) ?_
      refine va_put (D := D) (ci := 3) (v := .int 2) (ty := .int) (C := RX3) (T := TX3) (N := 22) hx hb hts g_X3 tyX3 tyX3_ok nmX3 hown hE.1 hP hD hS 0 rfl rfl 0 (by decide) f_66 (fun _ h9 => h9) rfl (by decide +kernel) rfl rfl (Nat.le_of_ble_eq_true rfl) dX3_nextGap_24 (fun H locs hP hD hS => ?_)
      have hP : va_P D vwCl (wM cy m0 m1 m2 m3 m4 m5 m6 m7 m8 m9 m10 m11 m12 m13 m14 m15 m16 m17 2 td sed mi fr to lim f1 f2 dis pin ag en cm mc su isu fir lgt ofs rn wsn) H := hP
      have hD : va_D A (wM cy m0 m1 m2 m3 m4 m5 m6 m7 m8 m9 m10 m11 m12 m13 m14 m15 m16 m17 2 td sed mi fr to lim f1 f2 dis pin ag en cm mc su isu fir lgt ofs rn wsn) := hD
      refine lv_aload_n hx hb dX3_nextGap_27 rfl (lv_at hl 0 rfl) ?_
      refine va_get (D := D) (ci := 3) (v := .int 2) (C := RX3) (T := TX3) (N := 22) hx hb hts g_X3 hown hE.1 hP 0 rfl rfl 0 (by decide) f_66 (fun _ h9 => h9) rfl dX3_nextGap_28 ?_
      refine lv_if_le (tgt := 36) hx hb dX3_nextGap_31 (by decide) (fun c_31 => absurd c_31 (by decide)) (fun _ => ?_)
      refine lv_iconst (v := 0) hx hb dX3_nextGap_34 (by decide) ?_
      have w_th : 2 = cdND x_ d_ := (by simp [cdND, c_5, c_16])
      exact hret _ _ _ _ 0 ag dX3_nextGap_35 (Or.inl rfl) trivial (by show va_P D vwCl (wM cy m0 m1 m2 m3 m4 m5 m6 m7 m8 m9 m10 m11 m12 m13 m14 m15 m16 m17 (cdND x_ d_) td sed mi fr to lim f1 f2 dis pin ag en cm mc su isu fir lgt ofs rn wsn) _; rw [← w_th]; exact hP) hS
    · refine lv_iconst (v := 0) hx hb dX3_nextGap_19 (by decide) ?_
      refine lv_goto (tgt := 24) hx hb dX3_nextGap_20 (by decide) ?_
      refine va_put (D := D) (ci := 3) (v := .int 0) (ty := .int) (C := RX3) (T := TX3) (N := 22) hx hb hts g_X3 tyX3 tyX3_ok nmX3 hown hE.1 hP hD hS 0 rfl rfl 0 (by decide) f_66 (fun _ h9 => h9) rfl (by decide +kernel) rfl rfl (Nat.le_of_ble_eq_true rfl) dX3_nextGap_24 (fun H locs hP hD hS => ?_)
      have hP : va_P D vwCl (wM cy m0 m1 m2 m3 m4 m5 m6 m7 m8 m9 m10 m11 m12 m13 m14 m15 m16 m17 0 td sed mi fr to lim f1 f2 dis pin ag en cm mc su isu fir lgt ofs rn wsn) H := hP
      have hD : va_D A (wM cy m0 m1 m2 m3 m4 m5 m6 m7 m8 m9 m10 m11 m12 m13 m14 m15 m16 m17 0 td sed mi fr to lim f1 f2 dis pin ag en cm mc su isu fir lgt ofs rn wsn) := hD
      refine lv_aload_n hx hb dX3_nextGap_27 rfl (lv_at hl 0 rfl) ?_
      refine va_get (D := D) (ci := 3) (v := .int 0) (C := RX3) (T := TX3) (N := 22) hx hb hts g_X3 hown hE.1 hP 0 rfl rfl 0 (by decide) f_66 (fun _ h9 => h9) rfl dX3_nextGap_28 ?_
      refine lv_if_le (tgt := 36) hx hb dX3_nextGap_31 (by decide) (fun _ => ?_) (fun c_31 => absurd c_31 (by decide))
      have hix_d_ := (badD_ok (i := d_) (by assumption)).2
      refine lv_iload_n hx hb dX3_nextGap_36 rfl (lv_at hl 2 rfl) ?_
      refine k_top (z := nI (ix d_)) (badD_ok (i := d_) (by assumption)).1 ?_
      refine lv_istore_n (lv' := [(3, .int (nI (ix d_))), (0, .ref m0), (1, .int x_), (2, .int d_)]) hx hb dX3_nextGap_37 rfl hl (by decide) rfl (fun ls hl => ?_)
      have L_38 : ∀ (f : Nat) (y_ : Nat) (g_ : Nat → Int32) (H : Heap) (locs : List Loc) (ls : Array Slot), ((5001 - y_) < f) → (y_ ≤ 5001) → (ngM f1 f2 fr to dis isu su fir lgt mc x_ (5001 - y_) y_ = ngM f1 f2 fr to dis isu su fir lgt mc x_ (5001 - ix d_) (ix d_)) → va_P D vwCl (wM cy m0 m1 m2 m3 m4 m5 m6 m7 m8 m9 m10 m11 m12 m13 m14 m15 m16 m17 0 td sed mi fr to lim f1 f2 dis pin g_ en cm mc su isu fir lgt ofs rn wsn) H → va_D A (wM cy m0 m1 m2 m3 m4 m5 m6 m7 m8 m9 m10 m11 m12 m13 m14 m15 m16 m17 0 td sed mi fr to lim f1 f2 dis pin g_ en cm mc su isu fir lgt ofs rn wsn) → va_S A s.heap H locs → lv_has ls 4 [(3, .int (nI y_)), (0, .ref m0), (1, .int x_), (2, .int d_)] → W p l e (krm 3 75) s m args below meth c H locs 0 0 Q (F0 m 38 ls []) := by
        intro f
        induction f with
        | zero => intro y_ g_ H locs ls hf; exact absurd hf (Nat.not_lt_zero _)
        | succ f ih_38 =>
          intro y_ g_ H locs ls hf hy eg hP hD hS hl
          refine lv_iload_n hx hb dX3_nextGap_38 rfl (lv_at hl 0 rfl) ?_
          refine lv_sipush (v := 5000) hx hb dX3_nextGap_39 (by decide) ?_
          refine lv_icmp_gt (tgt := 65) hx hb dX3_nextGap_42 (by decide) (fun c_42 => ?_) (fun c_42 => ?_)
          · have c_42n : 5000 < y_ := k_ltN (a := 5000) (b := y_) (by omega) (by omega) c_42
            refine lv_iload_n hx hb dX3_nextGap_65 rfl (lv_at hl 0 rfl) ?_
            refine lv_sipush (v := 5000) hx hb dX3_nextGap_66 (by decide) ?_
            refine lv_icmp_le (tgt := 76) hx hb dX3_nextGap_69 (by decide) (fun c_69 => absurd c_42 (i32_nlt.mpr c_69)) (fun c_69 => ?_)
            refine lv_iconst (v := (-1)) hx hb dX3_nextGap_72 (by decide) ?_
            refine lv_goto (tgt := 77) hx hb dX3_nextGap_73 (by decide) ?_
            exact absurd (by simp [cdND, c_5, c_16, c_42, c_69]) hcd
          · have c_42n : ¬ 5000 < y_ := k_nltN (a := 5000) (b := y_) (by omega) (by omega) c_42
            refine lv_aload_n hx hb dX3_nextGap_45 rfl (lv_at hl 1 rfl) ?_
            refine lv_iload_n hx hb dX3_nextGap_46 rfl (lv_at hl 0 rfl) ?_
            refine lv_iconst (v := (-1)) hx hb dX3_nextGap_47 (by decide) ?_
            refine kcW_i (n := 2) (wc := wM cy m0 m1 m2 m3 m4 m5 m6 m7 m8 m9 m10 m11 m12 m13 m14 m15 m16 m17 0 td sed mi fr to lim f1 f2 dis pin g_ en cm mc su isu fir lgt ofs rn wsn) (As := [.int (nI y_), .int (-1)]) (rest := []) ⟨hx, hb, hml, hown, hts⟩ hE hA hP hD hS (c_X3_names l D cy m0 m1 m2 m3 m4 m5 m6 m7 m8 m9 m10 m11 m12 m13 m14 m15 m16 m17 0 td sed mi fr to lim f1 f2 dis pin g_ en cm mc su isu fir lgt ofs rn wsn (nI y_) (-1) (by first | assumption | omega) (by first | assumption | omega) (by first | assumption | omega) (by first | assumption | omega) (by first | assumption | omega)) (fun _ => Eq.trans (b := [m0, m1, m2, m3, m4, m5, m6, m7, m8, m9, m10, m11, m12, m13, m14, m15, m16, m17]) rfl rfl) (q0 := 0) (ci := 3) rfl rfl gX3_nextGap_X3_names rfl rfl rfl ⟨rfl, by decide, by decide, by decide +kernel⟩ ⟨Nat.le_of_ble_eq_true rfl, Nat.le_of_ble_eq_true rfl⟩ rfl hl.1 rfl (Nat.le_of_ble_eq_true rfl) dX3_nextGap_48 ⟨Nat.zero_le _, Nat.zero_le _⟩ (fun r_5 u H locs e_6 hP hD hS => ?_)
            obtain ⟨ag_7, rfl⟩ : ∃ z, z = u := ⟨_, rfl⟩
            have hP : va_P D vwCl (wM cy m0 m1 m2 m3 m4 m5 m6 m7 m8 m9 m10 m11 m12 m13 m14 m15 m16 m17 0 td sed mi fr to lim f1 f2 dis pin ag_7 en cm mc su isu fir lgt ofs rn wsn) H := hP
            have hD : va_D A (wM cy m0 m1 m2 m3 m4 m5 m6 m7 m8 m9 m10 m11 m12 m13 m14 m15 m16 m17 0 td sed mi fr to lim f1 f2 dis pin ag_7 en cm mc su isu fir lgt ofs rn wsn) := hD
            have e_6 : r_5 = nmN f1 f2 fr to dis isu su fir lgt (nI y_) (-1) mc := e_6
            subst e_6
            refine lv_iload_n hx hb dX3_nextGap_51 rfl (lv_at hl 2 rfl) ?_
            refine lv_ishr hx hb dX3_nextGap_52 ?_
            refine lv_iconst (v := 1) hx hb dX3_nextGap_53 (by decide) ?_
            refine lv_iand hx hb dX3_nextGap_54 ?_
            refine lv_iconst (v := 1) hx hb dX3_nextGap_55 (by decide) ?_
            refine lv_icmp_ne (tgt := 65) hx hb dX3_nextGap_56 (by decide) (fun c_56 => ?_) (fun c_56 => ?_)
            · refine lv_iload_n hx hb dX3_nextGap_65 rfl (lv_at hl 0 rfl) ?_
              refine lv_sipush (v := 5000) hx hb dX3_nextGap_66 (by decide) ?_
              refine lv_icmp_le (tgt := 76) hx hb dX3_nextGap_69 (by decide) (fun c_69 => ?_) (fun c_69 => absurd (i32_nlt.mp c_42) c_69)
              refine lv_iload_n hx hb dX3_nextGap_76 rfl (lv_at hl 0 rfl) ?_
              exact absurd (by simp [cdND, c_5, c_16, c_42, c_56, c_69]) hcd
            · refine lv_iinc (v := (nI (y_ + 1))) (lv' := [(3, .int (nI (y_ + 1))), (0, .ref m0), (1, .int x_), (2, .int d_)]) hx hb dX3_nextGap_59 hl (k := 0) rfl (k_inc _) (by decide) rfl (fun ls hl => ?_)
              refine lv_goto (tgt := 38) hx hb dX3_nextGap_62 (by decide) ?_
              exact ih_38 (y_ + 1) ag_7 _ _ ls (by omega) (by omega) (by rw [← eg, show 5001 - y_ = (5001 - (y_ + 1)) + 1 by omega, ngM, if_pos c_56]) hP hD hS (lv_sub hl [0, 1, 2, 3] rfl)
      exact L_38 ((5001 - (ix d_)) + 1) (ix d_) ag _ _ ls (Nat.lt_succ_self _) (by omega) rfl hP hD hS (lv_sub hl [0, 1, 2, 3] rfl)
  · refine lv_iconst (v := 1) hx hb dX3_nextGap_8 (by decide) ?_
    refine lv_goto (tgt := 24) hx hb dX3_nextGap_9 (by decide) ?_
    refine va_put (D := D) (ci := 3) (v := .int 1) (ty := .int) (C := RX3) (T := TX3) (N := 22) hx hb hts g_X3 tyX3 tyX3_ok nmX3 hown hE.1 hP hD hS 0 rfl rfl 0 (by decide) f_66 (fun _ h9 => h9) rfl (by decide +kernel) rfl rfl (Nat.le_of_ble_eq_true rfl) dX3_nextGap_24 (fun H locs hP hD hS => ?_)
    have hP : va_P D vwCl (wM cy m0 m1 m2 m3 m4 m5 m6 m7 m8 m9 m10 m11 m12 m13 m14 m15 m16 m17 1 td sed mi fr to lim f1 f2 dis pin ag en cm mc su isu fir lgt ofs rn wsn) H := hP
    have hD : va_D A (wM cy m0 m1 m2 m3 m4 m5 m6 m7 m8 m9 m10 m11 m12 m13 m14 m15 m16 m17 1 td sed mi fr to lim f1 f2 dis pin ag en cm mc su isu fir lgt ofs rn wsn) := hD
    refine lv_aload_n hx hb dX3_nextGap_27 rfl (lv_at hl 0 rfl) ?_
    refine va_get (D := D) (ci := 3) (v := .int 1) (C := RX3) (T := TX3) (N := 22) hx hb hts g_X3 hown hE.1 hP 0 rfl rfl 0 (by decide) f_66 (fun _ h9 => h9) rfl dX3_nextGap_28 ?_
    refine lv_if_le (tgt := 36) hx hb dX3_nextGap_31 (by decide) (fun c_31 => absurd c_31 (by decide)) (fun _ => ?_)
    refine lv_iconst (v := 0) hx hb dX3_nextGap_34 (by decide) ?_
    have w_th : 1 = cdND x_ d_ := (by simp [cdND, c_5])
    exact hret _ _ _ _ 0 ag dX3_nextGap_35 (Or.inl rfl) trivial (by show va_P D vwCl (wM cy m0 m1 m2 m3 m4 m5 m6 m7 m8 m9 m10 m11 m12 m13 m14 m15 m16 m17 (cdND x_ d_) td sed mi fr to lim f1 f2 dis pin ag en cm mc su isu fir lgt ofs rn wsn) _; rw [← w_th]; exact hP) hS

set_option maxHeartbeats 4000000 in
set_option maxRecDepth 100000 in
theorem c_X3_covered (l : Launch) (D : va_G) (cy : ClassId × ClassId × ClassId) (m0 m1 m2 m3 m4 m5 m6 m7 m8 m9 m10 m11 m12 m13 m14 m15 m16 m17 : Nat) (th td sed : Int32) (mi : Nat) (fr to lim f1 f2 dis pin ag en cm : Nat → Int32) (mc : Nat) (su isu fir lgt ofs rn wsn : Nat → Int32) (d_ : Int32) (hm : mi ≤ 8) (hc : mc ≤ 60) (h1 : ∀ i, i < mi → sgP f1 i) (h2 : ∀ i, i < mi → sgP f2 i) (hok : certOK mi isu lgt mc) (hcd : cdD d_ = 0) : kI l D cy yX3_covered wsX3_covered (krm 3 75) [.ref m0, .int d_] (wM cy m0 m1 m2 m3 m4 m5 m6 m7 m8 m9 m10 m11 m12 m13 m14 m15 m16 m17 th td sed mi fr to lim f1 f2 dis pin ag en cm mc su isu fir lgt ofs rn wsn) (fun (r : Int32) (u : (Nat → Int32)) => r = nmN f1 f2 fr to dis isu su fir lgt d_ (-1) mc) (fun u : (Nat → Int32) => wM cy m0 m1 m2 m3 m4 m5 m6 m7 m8 m9 m10 m11 m12 m13 m14 m15 m16 m17 0 td sed mi fr to lim f1 f2 dis pin u en cm mc su isu fir lgt ofs rn wsn) := by
  refine kI.of (cc := cX3_covered) (maxL := 2) (rt := .int) (Or.inl rfl) (by decide) rfl (Nat.le_of_ble_eq_true rfl) ?_
  intro p e s m args below meth c Q A ls hx hb hml hown hts hE hA hP hD hl hret
  have hS : va_S A s.heap s.heap [] := va_S.rf
  have hl : lv_has ls 2 [(0, .ref m0), (1, .int d_)] := hl
  have g_X3 : ∀ w ∈ wsX30, w ∈ wsX3_covered := by decide +kernel
  have f_66 := hts (.fieldLink RX3 66 "CertHerdModel" "thrown" "I") (by decide +kernel)
  refine lv_aload_n hx hb dX3_covered_0 rfl (lv_at hl 0 rfl) ?_
  refine lv_iload_n hx hb dX3_covered_1 rfl (lv_at hl 1 rfl) ?_
  refine kcS_i (n := 1) (X := []) (wc := []) (Y := wM cy m0 m1 m2 m3 m4 m5 m6 m7 m8 m9 m10 m11 m12 m13 m14 m15 m16 m17 th td sed mi fr to lim f1 f2 dis pin ag en cm mc su isu fir lgt ofs rn wsn) (As := [.int d_]) (rest := [.ref m0]) ⟨hx, hb, hml, hown, hts⟩ hE hA hP hD hS (c_X3_isDay l D cy d_) (fun _ => rfl) gX3_covered_X3_isDay rfl rfl rfl ⟨by decide, by decide, by decide +kernel⟩ ⟨Nat.le_of_ble_eq_true rfl, Nat.le_of_ble_eq_true rfl⟩ rfl hl.1 rfl (Nat.le_of_ble_eq_true rfl) dX3_covered_2 ⟨Nat.zero_le _, Nat.zero_le _⟩ (fun r_1 u H locs e_2 hP hD hS => ?_)
  have hP : va_P D vwCl (wM cy m0 m1 m2 m3 m4 m5 m6 m7 m8 m9 m10 m11 m12 m13 m14 m15 m16 m17 th td sed mi fr to lim f1 f2 dis pin ag en cm mc su isu fir lgt ofs rn wsn) H := hP
  have hD : va_D A (wM cy m0 m1 m2 m3 m4 m5 m6 m7 m8 m9 m10 m11 m12 m13 m14 m15 m16 m17 th td sed mi fr to lim f1 f2 dis pin ag en cm mc su isu fir lgt ofs rn wsn) := hD
  have e_2 : r_1 = bI (badD d_ = false) := e_2
  subst e_2
  refine k_ifeq (tgt := 12) hx hb dX3_covered_5 (by decide) (fun c_5 => ?_) (fun c_5 => ?_)
  · refine lv_iconst (v := 1) hx hb dX3_covered_12 (by decide) ?_
    refine va_put (D := D) (ci := 3) (v := .int 1) (ty := .int) (C := RX3) (T := TX3) (N := 22) hx hb hts g_X3 tyX3 tyX3_ok nmX3 hown hE.1 hP hD hS 0 rfl rfl 0 (by decide) f_66 (fun _ h9 => h9) rfl (by decide +kernel) rfl rfl (Nat.le_of_ble_eq_true rfl) dX3_covered_13 (fun H locs hP hD hS => ?_)
    have hP : va_P D vwCl (wM cy m0 m1 m2 m3 m4 m5 m6 m7 m8 m9 m10 m11 m12 m13 m14 m15 m16 m17 1 td sed mi fr to lim f1 f2 dis pin ag en cm mc su isu fir lgt ofs rn wsn) H := hP
    have hD : va_D A (wM cy m0 m1 m2 m3 m4 m5 m6 m7 m8 m9 m10 m11 m12 m13 m14 m15 m16 m17 1 td sed mi fr to lim f1 f2 dis pin ag en cm mc su isu fir lgt ofs rn wsn) := hD
    refine lv_aload_n hx hb dX3_covered_16 rfl (lv_at hl 0 rfl) ?_
    refine va_get (D := D) (ci := 3) (v := .int 1) (C := RX3) (T := TX3) (N := 22) hx hb hts g_X3 hown hE.1 hP 0 rfl rfl 0 (by decide) f_66 (fun _ h9 => h9) rfl dX3_covered_17 ?_
    refine lv_if_le (tgt := 27) hx hb dX3_covered_20 (by decide) (fun c_20 => absurd c_20 (by decide)) (fun _ => ?_)
    refine lv_iconst (v := 0) hx hb dX3_covered_23 (by decide) ?_
    refine lv_goto (tgt := 33) hx hb dX3_covered_24 (by decide) ?_
    exact absurd hcd (by simp [cdD, c_5])
  · refine lv_iconst (v := 0) hx hb dX3_covered_8 (by decide) ?_
    refine lv_goto (tgt := 13) hx hb dX3_covered_9 (by decide) ?_
    refine va_put (D := D) (ci := 3) (v := .int 0) (ty := .int) (C := RX3) (T := TX3) (N := 22) hx hb hts g_X3 tyX3 tyX3_ok nmX3 hown hE.1 hP hD hS 0 rfl rfl 0 (by decide) f_66 (fun _ h9 => h9) rfl (by decide +kernel) rfl rfl (Nat.le_of_ble_eq_true rfl) dX3_covered_13 (fun H locs hP hD hS => ?_)
    have hP : va_P D vwCl (wM cy m0 m1 m2 m3 m4 m5 m6 m7 m8 m9 m10 m11 m12 m13 m14 m15 m16 m17 0 td sed mi fr to lim f1 f2 dis pin ag en cm mc su isu fir lgt ofs rn wsn) H := hP
    have hD : va_D A (wM cy m0 m1 m2 m3 m4 m5 m6 m7 m8 m9 m10 m11 m12 m13 m14 m15 m16 m17 0 td sed mi fr to lim f1 f2 dis pin ag en cm mc su isu fir lgt ofs rn wsn) := hD
    refine lv_aload_n hx hb dX3_covered_16 rfl (lv_at hl 0 rfl) ?_
    refine va_get (D := D) (ci := 3) (v := .int 0) (C := RX3) (T := TX3) (N := 22) hx hb hts g_X3 hown hE.1 hP 0 rfl rfl 0 (by decide) f_66 (fun _ h9 => h9) rfl dX3_covered_17 ?_
    refine lv_if_le (tgt := 27) hx hb dX3_covered_20 (by decide) (fun _ => ?_) (fun c_20 => absurd c_20 (by decide))
    refine lv_aload_n hx hb dX3_covered_27 rfl (lv_at hl 0 rfl) ?_
    refine lv_iload_n hx hb dX3_covered_28 rfl (lv_at hl 1 rfl) ?_
    refine lv_iconst (v := (-1)) hx hb dX3_covered_29 (by decide) ?_
    refine kcW_i (n := 2) (wc := wM cy m0 m1 m2 m3 m4 m5 m6 m7 m8 m9 m10 m11 m12 m13 m14 m15 m16 m17 0 td sed mi fr to lim f1 f2 dis pin ag en cm mc su isu fir lgt ofs rn wsn) (As := [.int d_, .int (-1)]) (rest := []) ⟨hx, hb, hml, hown, hts⟩ hE hA hP hD hS (c_X3_names l D cy m0 m1 m2 m3 m4 m5 m6 m7 m8 m9 m10 m11 m12 m13 m14 m15 m16 m17 0 td sed mi fr to lim f1 f2 dis pin ag en cm mc su isu fir lgt ofs rn wsn d_ (-1) (by first | assumption | omega) (by first | assumption | omega) (by first | assumption | omega) (by first | assumption | omega) (by first | assumption | omega)) (fun _ => Eq.trans (b := [m0, m1, m2, m3, m4, m5, m6, m7, m8, m9, m10, m11, m12, m13, m14, m15, m16, m17]) rfl rfl) (q0 := 0) (ci := 3) rfl rfl gX3_covered_X3_names rfl rfl rfl ⟨rfl, by decide, by decide, by decide +kernel⟩ ⟨Nat.le_of_ble_eq_true rfl, Nat.le_of_ble_eq_true rfl⟩ rfl hl.1 rfl (Nat.le_of_ble_eq_true rfl) dX3_covered_30 ⟨Nat.zero_le _, Nat.zero_le _⟩ (fun r_3 u H locs e_4 hP hD hS => ?_)
    obtain ⟨ag_5, rfl⟩ : ∃ z, z = u := ⟨_, rfl⟩
    have hP : va_P D vwCl (wM cy m0 m1 m2 m3 m4 m5 m6 m7 m8 m9 m10 m11 m12 m13 m14 m15 m16 m17 0 td sed mi fr to lim f1 f2 dis pin ag_5 en cm mc su isu fir lgt ofs rn wsn) H := hP
    have hD : va_D A (wM cy m0 m1 m2 m3 m4 m5 m6 m7 m8 m9 m10 m11 m12 m13 m14 m15 m16 m17 0 td sed mi fr to lim f1 f2 dis pin ag_5 en cm mc su isu fir lgt ofs rn wsn) := hD
    have e_4 : r_3 = nmN f1 f2 fr to dis isu su fir lgt d_ (-1) mc := e_4
    subst e_4
    exact hret _ _ _ _ (nmN f1 f2 fr to dis isu su fir lgt d_ (-1) mc) ag_5 dX3_covered_33 (Or.inl rfl) rfl hP hS

set_option maxHeartbeats 4000000 in
set_option maxRecDepth 100000 in
theorem c_X3_covered_f (l : Launch) (D : va_G) (cy : ClassId × ClassId × ClassId) (m0 m1 m2 m3 m4 m5 m6 m7 m8 m9 m10 m11 m12 m13 m14 m15 m16 m17 : Nat) (th td sed : Int32) (mi : Nat) (fr to lim f1 f2 dis pin ag en cm : Nat → Int32) (mc : Nat) (su isu fir lgt ofs rn wsn : Nat → Int32) (d_ : Int32) (hm : mi ≤ 8) (hc : mc ≤ 60) (h1 : ∀ i, i < mi → sgP f1 i) (h2 : ∀ i, i < mi → sgP f2 i) (hok : certOK mi isu lgt mc) (hcd : ¬ cdD d_ = 0) : kI l D cy yX3_covered wsX3_covered (krm 3 75) [.ref m0, .int d_] (wM cy m0 m1 m2 m3 m4 m5 m6 m7 m8 m9 m10 m11 m12 m13 m14 m15 m16 m17 th td sed mi fr to lim f1 f2 dis pin ag en cm mc su isu fir lgt ofs rn wsn) (fun (r : Int32) (u : (Nat → Int32)) => True) (fun u : (Nat → Int32) => wM cy m0 m1 m2 m3 m4 m5 m6 m7 m8 m9 m10 m11 m12 m13 m14 m15 m16 m17 (cdD d_) td sed mi fr to lim f1 f2 dis pin u en cm mc su isu fir lgt ofs rn wsn) := by
  refine kI.of (cc := cX3_covered) (maxL := 2) (rt := .int) (Or.inl rfl) (by decide) rfl (Nat.le_of_ble_eq_true rfl) ?_
  intro p e s m args below meth c Q A ls hx hb hml hown hts hE hA hP hD hl hret
  have hS : va_S A s.heap s.heap [] := va_S.rf
  have hl : lv_has ls 2 [(0, .ref m0), (1, .int d_)] := hl
  have g_X3 : ∀ w ∈ wsX30, w ∈ wsX3_covered := by decide +kernel
  have f_66 := hts (.fieldLink RX3 66 "CertHerdModel" "thrown" "I") (by decide +kernel)
  refine lv_aload_n hx hb dX3_covered_0 rfl (lv_at hl 0 rfl) ?_
  refine lv_iload_n hx hb dX3_covered_1 rfl (lv_at hl 1 rfl) ?_
  refine kcS_i (n := 1) (X := []) (wc := []) (Y := wM cy m0 m1 m2 m3 m4 m5 m6 m7 m8 m9 m10 m11 m12 m13 m14 m15 m16 m17 th td sed mi fr to lim f1 f2 dis pin ag en cm mc su isu fir lgt ofs rn wsn) (As := [.int d_]) (rest := [.ref m0]) ⟨hx, hb, hml, hown, hts⟩ hE hA hP hD hS (c_X3_isDay l D cy d_) (fun _ => rfl) gX3_covered_X3_isDay rfl rfl rfl ⟨by decide, by decide, by decide +kernel⟩ ⟨Nat.le_of_ble_eq_true rfl, Nat.le_of_ble_eq_true rfl⟩ rfl hl.1 rfl (Nat.le_of_ble_eq_true rfl) dX3_covered_2 ⟨Nat.zero_le _, Nat.zero_le _⟩ (fun r_1 u H locs e_2 hP hD hS => ?_)
  have hP : va_P D vwCl (wM cy m0 m1 m2 m3 m4 m5 m6 m7 m8 m9 m10 m11 m12 m13 m14 m15 m16 m17 th td sed mi fr to lim f1 f2 dis pin ag en cm mc su isu fir lgt ofs rn wsn) H := hP
  have hD : va_D A (wM cy m0 m1 m2 m3 m4 m5 m6 m7 m8 m9 m10 m11 m12 m13 m14 m15 m16 m17 th td sed mi fr to lim f1 f2 dis pin ag en cm mc su isu fir lgt ofs rn wsn) := hD
  have e_2 : r_1 = bI (badD d_ = false) := e_2
  subst e_2
  refine k_ifeq (tgt := 12) hx hb dX3_covered_5 (by decide) (fun c_5 => ?_) (fun c_5 => ?_)
  · refine lv_iconst (v := 1) hx hb dX3_covered_12 (by decide) ?_
    refine va_put (D := D) (ci := 3) (v := .int 1) (ty := .int) (C := RX3) (T := TX3) (N := 22) hx hb hts g_X3 tyX3 tyX3_ok nmX3 hown hE.1 hP hD hS 0 rfl rfl 0 (by decide) f_66 (fun _ h9 => h9) rfl (by decide +kernel) rfl rfl (Nat.le_of_ble_eq_true rfl) dX3_covered_13 (fun H locs hP hD hS => ?_)
    have hP : va_P D vwCl (wM cy m0 m1 m2 m3 m4 m5 m6 m7 m8 m9 m10 m11 m12 m13 m14 m15 m16 m17 1 td sed mi fr to lim f1 f2 dis pin ag en cm mc su isu fir lgt ofs rn wsn) H := hP
    have hD : va_D A (wM cy m0 m1 m2 m3 m4 m5 m6 m7 m8 m9 m10 m11 m12 m13 m14 m15 m16 m17 1 td sed mi fr to lim f1 f2 dis pin ag en cm mc su isu fir lgt ofs rn wsn) := hD
    refine lv_aload_n hx hb dX3_covered_16 rfl (lv_at hl 0 rfl) ?_
    refine va_get (D := D) (ci := 3) (v := .int 1) (C := RX3) (T := TX3) (N := 22) hx hb hts g_X3 hown hE.1 hP 0 rfl rfl 0 (by decide) f_66 (fun _ h9 => h9) rfl dX3_covered_17 ?_
    refine lv_if_le (tgt := 27) hx hb dX3_covered_20 (by decide) (fun c_20 => absurd c_20 (by decide)) (fun _ => ?_)
    refine lv_iconst (v := 0) hx hb dX3_covered_23 (by decide) ?_
    refine lv_goto (tgt := 33) hx hb dX3_covered_24 (by decide) ?_
    have w_th : 1 = cdD d_ := (by simp [cdD, c_5])
    exact hret _ _ _ _ 0 ag dX3_covered_33 (Or.inl rfl) trivial (by show va_P D vwCl (wM cy m0 m1 m2 m3 m4 m5 m6 m7 m8 m9 m10 m11 m12 m13 m14 m15 m16 m17 (cdD d_) td sed mi fr to lim f1 f2 dis pin ag en cm mc su isu fir lgt ofs rn wsn) _; rw [← w_th]; exact hP) hS
  · refine lv_iconst (v := 0) hx hb dX3_covered_8 (by decide) ?_
    refine lv_goto (tgt := 13) hx hb dX3_covered_9 (by decide) ?_
    refine va_put (D := D) (ci := 3) (v := .int 0) (ty := .int) (C := RX3) (T := TX3) (N := 22) hx hb hts g_X3 tyX3 tyX3_ok nmX3 hown hE.1 hP hD hS 0 rfl rfl 0 (by decide) f_66 (fun _ h9 => h9) rfl (by decide +kernel) rfl rfl (Nat.le_of_ble_eq_true rfl) dX3_covered_13 (fun H locs hP hD hS => ?_)
    have hP : va_P D vwCl (wM cy m0 m1 m2 m3 m4 m5 m6 m7 m8 m9 m10 m11 m12 m13 m14 m15 m16 m17 0 td sed mi fr to lim f1 f2 dis pin ag en cm mc su isu fir lgt ofs rn wsn) H := hP
    have hD : va_D A (wM cy m0 m1 m2 m3 m4 m5 m6 m7 m8 m9 m10 m11 m12 m13 m14 m15 m16 m17 0 td sed mi fr to lim f1 f2 dis pin ag en cm mc su isu fir lgt ofs rn wsn) := hD
    refine lv_aload_n hx hb dX3_covered_16 rfl (lv_at hl 0 rfl) ?_
    refine va_get (D := D) (ci := 3) (v := .int 0) (C := RX3) (T := TX3) (N := 22) hx hb hts g_X3 hown hE.1 hP 0 rfl rfl 0 (by decide) f_66 (fun _ h9 => h9) rfl dX3_covered_17 ?_
    refine lv_if_le (tgt := 27) hx hb dX3_covered_20 (by decide) (fun _ => ?_) (fun c_20 => absurd c_20 (by decide))
    refine lv_aload_n hx hb dX3_covered_27 rfl (lv_at hl 0 rfl) ?_
    refine lv_iload_n hx hb dX3_covered_28 rfl (lv_at hl 1 rfl) ?_
    refine lv_iconst (v := (-1)) hx hb dX3_covered_29 (by decide) ?_
    refine kcW_i (n := 2) (wc := wM cy m0 m1 m2 m3 m4 m5 m6 m7 m8 m9 m10 m11 m12 m13 m14 m15 m16 m17 0 td sed mi fr to lim f1 f2 dis pin ag en cm mc su isu fir lgt ofs rn wsn) (As := [.int d_, .int (-1)]) (rest := []) ⟨hx, hb, hml, hown, hts⟩ hE hA hP hD hS (c_X3_names l D cy m0 m1 m2 m3 m4 m5 m6 m7 m8 m9 m10 m11 m12 m13 m14 m15 m16 m17 0 td sed mi fr to lim f1 f2 dis pin ag en cm mc su isu fir lgt ofs rn wsn d_ (-1) (by first | assumption | omega) (by first | assumption | omega) (by first | assumption | omega) (by first | assumption | omega) (by first | assumption | omega)) (fun _ => Eq.trans (b := [m0, m1, m2, m3, m4, m5, m6, m7, m8, m9, m10, m11, m12, m13, m14, m15, m16, m17]) rfl rfl) (q0 := 0) (ci := 3) rfl rfl gX3_covered_X3_names rfl rfl rfl ⟨rfl, by decide, by decide, by decide +kernel⟩ ⟨Nat.le_of_ble_eq_true rfl, Nat.le_of_ble_eq_true rfl⟩ rfl hl.1 rfl (Nat.le_of_ble_eq_true rfl) dX3_covered_30 ⟨Nat.zero_le _, Nat.zero_le _⟩ (fun r_3 u H locs e_4 hP hD hS => ?_)
    obtain ⟨ag_5, rfl⟩ : ∃ z, z = u := ⟨_, rfl⟩
    have hP : va_P D vwCl (wM cy m0 m1 m2 m3 m4 m5 m6 m7 m8 m9 m10 m11 m12 m13 m14 m15 m16 m17 0 td sed mi fr to lim f1 f2 dis pin ag_5 en cm mc su isu fir lgt ofs rn wsn) H := hP
    have hD : va_D A (wM cy m0 m1 m2 m3 m4 m5 m6 m7 m8 m9 m10 m11 m12 m13 m14 m15 m16 m17 0 td sed mi fr to lim f1 f2 dis pin ag_5 en cm mc su isu fir lgt ofs rn wsn) := hD
    have e_4 : r_3 = nmN f1 f2 fr to dis isu su fir lgt d_ (-1) mc := e_4
    subst e_4
    exact absurd (by simp [cdD, c_5]) hcd

set_option maxHeartbeats 4000000 in
set_option maxRecDepth 100000 in
theorem c_X3_breaks (l : Launch) (D : va_G) (cy : ClassId × ClassId × ClassId) (m0 m1 m2 m3 m4 m5 m6 m7 m8 m9 m10 m11 m12 m13 m14 m15 m16 m17 : Nat) (th td sed : Int32) (mi : Nat) (fr to lim f1 f2 dis pin ag en cm : Nat → Int32) (mc : Nat) (su isu fir lgt ofs rn wsn : Nat → Int32) (i_ : Int32) (d_ : Int32) (hm : mi ≤ 8) (hc : mc ≤ 60) (h1 : ∀ i, i < mi → sgP f1 i) (h2 : ∀ i, i < mi → sgP f2 i) (hok : certOK mi isu lgt mc) (hcd : cdID mi i_ d_ = 0) : kI l D cy yX3_breaks wsX3_breaks (krm 3 75) [.ref m0, .int i_, .int d_] (wM cy m0 m1 m2 m3 m4 m5 m6 m7 m8 m9 m10 m11 m12 m13 m14 m15 m16 m17 th td sed mi fr to lim f1 f2 dis pin ag en cm mc su isu fir lgt ofs rn wsn) (fun (r : Int32) (u : (Nat → Int32)) => r = lostM f1 f2 fr to dis isu su fir lgt mc d_ i_) (fun u : (Nat → Int32) => wM cy m0 m1 m2 m3 m4 m5 m6 m7 m8 m9 m10 m11 m12 m13 m14 m15 m16 m17 0 td sed mi fr to lim f1 f2 dis pin u en cm mc su isu fir lgt ofs rn wsn) := by
  refine kI.of (cc := cX3_breaks) (maxL := 3) (rt := .int) (Or.inl rfl) (by decide) rfl (Nat.le_of_ble_eq_true rfl) ?_
  intro p e s m args below meth c Q A ls hx hb hml hown hts hE hA hP hD hl hret
  have hS : va_S A s.heap s.heap [] := va_S.rf
  have hl : lv_has ls 3 [(0, .ref m0), (1, .int i_), (2, .int d_)] := hl
  have g_X3 : ∀ w ∈ wsX30, w ∈ wsX3_breaks := by decide +kernel
  have f_66 := hts (.fieldLink RX3 66 "CertHerdModel" "thrown" "I") (by decide +kernel)
  refine lv_aload_n hx hb dX3_breaks_0 rfl (lv_at hl 0 rfl) ?_
  refine lv_aload_n hx hb dX3_breaks_1 rfl (lv_at hl 0 rfl) ?_
  refine lv_iload_n hx hb dX3_breaks_2 rfl (lv_at hl 1 rfl) ?_
  refine kcW_i (n := 1) (wc := wM cy m0 m1 m2 m3 m4 m5 m6 m7 m8 m9 m10 m11 m12 m13 m14 m15 m16 m17 th td sed mi fr to lim f1 f2 dis pin ag en cm mc su isu fir lgt ofs rn wsn) (As := [.int i_]) (rest := [.ref m0]) ⟨hx, hb, hml, hown, hts⟩ hE hA hP hD hS (c_X3_isIssuer l D cy m0 m1 m2 m3 m4 m5 m6 m7 m8 m9 m10 m11 m12 m13 m14 m15 m16 m17 th td sed mi fr to lim f1 f2 dis pin ag en cm mc su isu fir lgt ofs rn wsn i_ (by first | assumption | omega)) (fun _ => rfl) (q0 := 0) (ci := 3) rfl rfl gX3_breaks_X3_isIssuer rfl rfl rfl ⟨rfl, by decide, by decide, by decide +kernel⟩ ⟨Nat.le_of_ble_eq_true rfl, Nat.le_of_ble_eq_true rfl⟩ rfl hl.1 rfl (Nat.le_of_ble_eq_true rfl) dX3_breaks_3 ⟨Nat.zero_le _, Nat.zero_le _⟩ (fun r_1 u H locs e_2 hP hD hS => ?_)
  have hP : va_P D vwCl (wM cy m0 m1 m2 m3 m4 m5 m6 m7 m8 m9 m10 m11 m12 m13 m14 m15 m16 m17 th td sed mi fr to lim f1 f2 dis pin ag en cm mc su isu fir lgt ofs rn wsn) H := hP
  have hD : va_D A (wM cy m0 m1 m2 m3 m4 m5 m6 m7 m8 m9 m10 m11 m12 m13 m14 m15 m16 m17 th td sed mi fr to lim f1 f2 dis pin ag en cm mc su isu fir lgt ofs rn wsn) := hD
  have e_2 : r_1 = bI (badI mi i_ = false) := e_2
  subst e_2
  refine k_ifne (tgt := 13) hx hb dX3_breaks_6 (by decide) (fun c_6 => ?_) (fun c_6 => ?_)
  · refine lv_iload_n hx hb dX3_breaks_13 rfl (lv_at hl 2 rfl) ?_
    refine kcS_i (n := 1) (X := []) (wc := []) (Y := wM cy m0 m1 m2 m3 m4 m5 m6 m7 m8 m9 m10 m11 m12 m13 m14 m15 m16 m17 th td sed mi fr to lim f1 f2 dis pin ag en cm mc su isu fir lgt ofs rn wsn) (As := [.int d_]) (rest := [.ref m0]) ⟨hx, hb, hml, hown, hts⟩ hE hA hP hD hS (c_X3_isDay l D cy d_) (fun _ => rfl) gX3_breaks_X3_isDay rfl rfl rfl ⟨by decide, by decide, by decide +kernel⟩ ⟨Nat.le_of_ble_eq_true rfl, Nat.le_of_ble_eq_true rfl⟩ rfl hl.1 rfl (Nat.le_of_ble_eq_true rfl) dX3_breaks_14 ⟨Nat.zero_le _, Nat.zero_le _⟩ (fun r_3 u H locs e_4 hP hD hS => ?_)
    have hP : va_P D vwCl (wM cy m0 m1 m2 m3 m4 m5 m6 m7 m8 m9 m10 m11 m12 m13 m14 m15 m16 m17 th td sed mi fr to lim f1 f2 dis pin ag en cm mc su isu fir lgt ofs rn wsn) H := hP
    have hD : va_D A (wM cy m0 m1 m2 m3 m4 m5 m6 m7 m8 m9 m10 m11 m12 m13 m14 m15 m16 m17 th td sed mi fr to lim f1 f2 dis pin ag en cm mc su isu fir lgt ofs rn wsn) := hD
    have e_4 : r_3 = bI (badD d_ = false) := e_4
    subst e_4
    refine k_ifeq (tgt := 24) hx hb dX3_breaks_17 (by decide) (fun c_17 => ?_) (fun c_17 => ?_)
    · refine lv_iconst (v := 2) hx hb dX3_breaks_24 (by decide) ?_
      refine va_put (D := D) (ci := 3) (v := .int 2) (ty := .int) (C := RX3) (T := TX3) (N := 22) hx hb hts g_X3 tyX3 tyX3_ok nmX3 hown hE.1 hP hD hS 0 rfl rfl 0 (by decide) f_66 (fun _ h9 => h9) rfl (by decide +kernel) rfl rfl (Nat.le_of_ble_eq_true rfl) dX3_breaks_25 (fun H locs hP hD hS => ?_)
      have hP : va_P D vwCl (wM cy m0 m1 m2 m3 m4 m5 m6 m7 m8 m9 m10 m11 m12 m13 m14 m15 m16 m17 2 td sed mi fr to lim f1 f2 dis pin ag en cm mc su isu fir lgt ofs rn wsn) H := hP
      have hD : va_D A (wM cy m0 m1 m2 m3 m4 m5 m6 m7 m8 m9 m10 m11 m12 m13 m14 m15 m16 m17 2 td sed mi fr to lim f1 f2 dis pin ag en cm mc su isu fir lgt ofs rn wsn) := hD
      refine lv_aload_n hx hb dX3_breaks_28 rfl (lv_at hl 0 rfl) ?_
      refine va_get (D := D) (ci := 3) (v := .int 2) (C := RX3) (T := TX3) (N := 22) hx hb hts g_X3 hown hE.1 hP 0 rfl rfl 0 (by decide) f_66 (fun _ h9 => h9) rfl dX3_breaks_29 ?_
      refine lv_if_le (tgt := 39) hx hb dX3_breaks_32 (by decide) (fun c_32 => absurd c_32 (by decide)) (fun _ => ?_)
      refine lv_iconst (v := 0) hx hb dX3_breaks_35 (by decide) ?_
      refine lv_goto (tgt := 54) hx hb dX3_breaks_36 (by decide) ?_
      exact absurd hcd (by simp [cdID, c_6, c_17])
    · refine lv_iconst (v := 0) hx hb dX3_breaks_20 (by decide) ?_
      refine lv_goto (tgt := 25) hx hb dX3_breaks_21 (by decide) ?_
      refine va_put (D := D) (ci := 3) (v := .int 0) (ty := .int) (C := RX3) (T := TX3) (N := 22) hx hb hts g_X3 tyX3 tyX3_ok nmX3 hown hE.1 hP hD hS 0 rfl rfl 0 (by decide) f_66 (fun _ h9 => h9) rfl (by decide +kernel) rfl rfl (Nat.le_of_ble_eq_true rfl) dX3_breaks_25 (fun H locs hP hD hS => ?_)
      have hP : va_P D vwCl (wM cy m0 m1 m2 m3 m4 m5 m6 m7 m8 m9 m10 m11 m12 m13 m14 m15 m16 m17 0 td sed mi fr to lim f1 f2 dis pin ag en cm mc su isu fir lgt ofs rn wsn) H := hP
      have hD : va_D A (wM cy m0 m1 m2 m3 m4 m5 m6 m7 m8 m9 m10 m11 m12 m13 m14 m15 m16 m17 0 td sed mi fr to lim f1 f2 dis pin ag en cm mc su isu fir lgt ofs rn wsn) := hD
      refine lv_aload_n hx hb dX3_breaks_28 rfl (lv_at hl 0 rfl) ?_
      refine va_get (D := D) (ci := 3) (v := .int 0) (C := RX3) (T := TX3) (N := 22) hx hb hts g_X3 hown hE.1 hP 0 rfl rfl 0 (by decide) f_66 (fun _ h9 => h9) rfl dX3_breaks_29 ?_
      refine lv_if_le (tgt := 39) hx hb dX3_breaks_32 (by decide) (fun _ => ?_) (fun c_32 => absurd c_32 (by decide))
      refine lv_aload_n hx hb dX3_breaks_39 rfl (lv_at hl 0 rfl) ?_
      refine lv_iload_n hx hb dX3_breaks_40 rfl (lv_at hl 2 rfl) ?_
      refine lv_iconst (v := (-1)) hx hb dX3_breaks_41 (by decide) ?_
      refine kcW_i (n := 2) (wc := wM cy m0 m1 m2 m3 m4 m5 m6 m7 m8 m9 m10 m11 m12 m13 m14 m15 m16 m17 0 td sed mi fr to lim f1 f2 dis pin ag en cm mc su isu fir lgt ofs rn wsn) (As := [.int d_, .int (-1)]) (rest := []) ⟨hx, hb, hml, hown, hts⟩ hE hA hP hD hS (c_X3_names l D cy m0 m1 m2 m3 m4 m5 m6 m7 m8 m9 m10 m11 m12 m13 m14 m15 m16 m17 0 td sed mi fr to lim f1 f2 dis pin ag en cm mc su isu fir lgt ofs rn wsn d_ (-1) (by first | assumption | omega) (by first | assumption | omega) (by first | assumption | omega) (by first | assumption | omega) (by first | assumption | omega)) (fun _ => Eq.trans (b := [m0, m1, m2, m3, m4, m5, m6, m7, m8, m9, m10, m11, m12, m13, m14, m15, m16, m17]) rfl rfl) (q0 := 0) (ci := 3) rfl rfl gX3_breaks_X3_names rfl rfl rfl ⟨rfl, by decide, by decide, by decide +kernel⟩ ⟨Nat.le_of_ble_eq_true rfl, Nat.le_of_ble_eq_true rfl⟩ rfl hl.1 rfl (Nat.le_of_ble_eq_true rfl) dX3_breaks_42 ⟨Nat.zero_le _, Nat.zero_le _⟩ (fun r_5 u H locs e_6 hP hD hS => ?_)
      obtain ⟨ag_7, rfl⟩ : ∃ z, z = u := ⟨_, rfl⟩
      have hP : va_P D vwCl (wM cy m0 m1 m2 m3 m4 m5 m6 m7 m8 m9 m10 m11 m12 m13 m14 m15 m16 m17 0 td sed mi fr to lim f1 f2 dis pin ag_7 en cm mc su isu fir lgt ofs rn wsn) H := hP
      have hD : va_D A (wM cy m0 m1 m2 m3 m4 m5 m6 m7 m8 m9 m10 m11 m12 m13 m14 m15 m16 m17 0 td sed mi fr to lim f1 f2 dis pin ag_7 en cm mc su isu fir lgt ofs rn wsn) := hD
      have e_6 : r_5 = nmN f1 f2 fr to dis isu su fir lgt d_ (-1) mc := e_6
      subst e_6
      refine lv_aload_n hx hb dX3_breaks_45 rfl (lv_at hl 0 rfl) ?_
      refine lv_iload_n hx hb dX3_breaks_46 rfl (lv_at hl 2 rfl) ?_
      refine lv_iload_n hx hb dX3_breaks_47 rfl (lv_at hl 1 rfl) ?_
      refine kcW_i (n := 2) (wc := wM cy m0 m1 m2 m3 m4 m5 m6 m7 m8 m9 m10 m11 m12 m13 m14 m15 m16 m17 0 td sed mi fr to lim f1 f2 dis pin ag_7 en cm mc su isu fir lgt ofs rn wsn) (As := [.int d_, .int i_]) (rest := [.int (nmN f1 f2 fr to dis isu su fir lgt d_ (-1) mc)]) ⟨hx, hb, hml, hown, hts⟩ hE hA hP hD hS (c_X3_names l D cy m0 m1 m2 m3 m4 m5 m6 m7 m8 m9 m10 m11 m12 m13 m14 m15 m16 m17 0 td sed mi fr to lim f1 f2 dis pin ag_7 en cm mc su isu fir lgt ofs rn wsn d_ i_ (by first | assumption | omega) (by first | assumption | omega) (by first | assumption | omega) (by first | assumption | omega) (by first | assumption | omega)) (fun _ => Eq.trans (b := [m0, m1, m2, m3, m4, m5, m6, m7, m8, m9, m10, m11, m12, m13, m14, m15, m16, m17]) rfl rfl) (q0 := 0) (ci := 3) rfl rfl gX3_breaks_X3_names rfl rfl rfl ⟨rfl, by decide, by decide, by decide +kernel⟩ ⟨Nat.le_of_ble_eq_true rfl, Nat.le_of_ble_eq_true rfl⟩ rfl hl.1 rfl (Nat.le_of_ble_eq_true rfl) dX3_breaks_48 ⟨Nat.zero_le _, Nat.zero_le _⟩ (fun r_8 u H locs e_9 hP hD hS => ?_)
      obtain ⟨ag_10, rfl⟩ : ∃ z, z = u := ⟨_, rfl⟩
      have hP : va_P D vwCl (wM cy m0 m1 m2 m3 m4 m5 m6 m7 m8 m9 m10 m11 m12 m13 m14 m15 m16 m17 0 td sed mi fr to lim f1 f2 dis pin ag_10 en cm mc su isu fir lgt ofs rn wsn) H := hP
      have hD : va_D A (wM cy m0 m1 m2 m3 m4 m5 m6 m7 m8 m9 m10 m11 m12 m13 m14 m15 m16 m17 0 td sed mi fr to lim f1 f2 dis pin ag_10 en cm mc su isu fir lgt ofs rn wsn) := hD
      have e_9 : r_8 = nmN f1 f2 fr to dis isu su fir lgt d_ i_ mc := e_9
      subst e_9
      refine lv_iconst (v := (-1)) hx hb dX3_breaks_51 (by decide) ?_
      refine lv_ixor hx hb dX3_breaks_52 ?_
      refine lv_iand hx hb dX3_breaks_53 ?_
      exact hret _ _ _ _ ((nmN f1 f2 fr to dis isu su fir lgt d_ (-1) mc) &&& ((nmN f1 f2 fr to dis isu su fir lgt d_ i_ mc) ^^^ (-1))) ag_10 dX3_breaks_54 (Or.inl rfl) rfl hP hS
  · refine lv_iconst (v := 1) hx hb dX3_breaks_9 (by decide) ?_
    refine lv_goto (tgt := 25) hx hb dX3_breaks_10 (by decide) ?_
    refine va_put (D := D) (ci := 3) (v := .int 1) (ty := .int) (C := RX3) (T := TX3) (N := 22) hx hb hts g_X3 tyX3 tyX3_ok nmX3 hown hE.1 hP hD hS 0 rfl rfl 0 (by decide) f_66 (fun _ h9 => h9) rfl (by decide +kernel) rfl rfl (Nat.le_of_ble_eq_true rfl) dX3_breaks_25 (fun H locs hP hD hS => ?_)
    have hP : va_P D vwCl (wM cy m0 m1 m2 m3 m4 m5 m6 m7 m8 m9 m10 m11 m12 m13 m14 m15 m16 m17 1 td sed mi fr to lim f1 f2 dis pin ag en cm mc su isu fir lgt ofs rn wsn) H := hP
    have hD : va_D A (wM cy m0 m1 m2 m3 m4 m5 m6 m7 m8 m9 m10 m11 m12 m13 m14 m15 m16 m17 1 td sed mi fr to lim f1 f2 dis pin ag en cm mc su isu fir lgt ofs rn wsn) := hD
    refine lv_aload_n hx hb dX3_breaks_28 rfl (lv_at hl 0 rfl) ?_
    refine va_get (D := D) (ci := 3) (v := .int 1) (C := RX3) (T := TX3) (N := 22) hx hb hts g_X3 hown hE.1 hP 0 rfl rfl 0 (by decide) f_66 (fun _ h9 => h9) rfl dX3_breaks_29 ?_
    refine lv_if_le (tgt := 39) hx hb dX3_breaks_32 (by decide) (fun c_32 => absurd c_32 (by decide)) (fun _ => ?_)
    refine lv_iconst (v := 0) hx hb dX3_breaks_35 (by decide) ?_
    refine lv_goto (tgt := 54) hx hb dX3_breaks_36 (by decide) ?_
    exact absurd hcd (by simp [cdID, c_6])

set_option maxHeartbeats 4000000 in
set_option maxRecDepth 100000 in
theorem c_X3_breaks_f (l : Launch) (D : va_G) (cy : ClassId × ClassId × ClassId) (m0 m1 m2 m3 m4 m5 m6 m7 m8 m9 m10 m11 m12 m13 m14 m15 m16 m17 : Nat) (th td sed : Int32) (mi : Nat) (fr to lim f1 f2 dis pin ag en cm : Nat → Int32) (mc : Nat) (su isu fir lgt ofs rn wsn : Nat → Int32) (i_ : Int32) (d_ : Int32) (hm : mi ≤ 8) (hc : mc ≤ 60) (h1 : ∀ i, i < mi → sgP f1 i) (h2 : ∀ i, i < mi → sgP f2 i) (hok : certOK mi isu lgt mc) (hcd : ¬ cdID mi i_ d_ = 0) : kI l D cy yX3_breaks wsX3_breaks (krm 3 75) [.ref m0, .int i_, .int d_] (wM cy m0 m1 m2 m3 m4 m5 m6 m7 m8 m9 m10 m11 m12 m13 m14 m15 m16 m17 th td sed mi fr to lim f1 f2 dis pin ag en cm mc su isu fir lgt ofs rn wsn) (fun (r : Int32) (u : (Nat → Int32)) => True) (fun u : (Nat → Int32) => wM cy m0 m1 m2 m3 m4 m5 m6 m7 m8 m9 m10 m11 m12 m13 m14 m15 m16 m17 (cdID mi i_ d_) td sed mi fr to lim f1 f2 dis pin u en cm mc su isu fir lgt ofs rn wsn) := by
  refine kI.of (cc := cX3_breaks) (maxL := 3) (rt := .int) (Or.inl rfl) (by decide) rfl (Nat.le_of_ble_eq_true rfl) ?_
  intro p e s m args below meth c Q A ls hx hb hml hown hts hE hA hP hD hl hret
  have hS : va_S A s.heap s.heap [] := va_S.rf
  have hl : lv_has ls 3 [(0, .ref m0), (1, .int i_), (2, .int d_)] := hl
  have g_X3 : ∀ w ∈ wsX30, w ∈ wsX3_breaks := by decide +kernel
  have f_66 := hts (.fieldLink RX3 66 "CertHerdModel" "thrown" "I") (by decide +kernel)
  refine lv_aload_n hx hb dX3_breaks_0 rfl (lv_at hl 0 rfl) ?_
  refine lv_aload_n hx hb dX3_breaks_1 rfl (lv_at hl 0 rfl) ?_
  refine lv_iload_n hx hb dX3_breaks_2 rfl (lv_at hl 1 rfl) ?_
  refine kcW_i (n := 1) (wc := wM cy m0 m1 m2 m3 m4 m5 m6 m7 m8 m9 m10 m11 m12 m13 m14 m15 m16 m17 th td sed mi fr to lim f1 f2 dis pin ag en cm mc su isu fir lgt ofs rn wsn) (As := [.int i_]) (rest := [.ref m0]) ⟨hx, hb, hml, hown, hts⟩ hE hA hP hD hS (c_X3_isIssuer l D cy m0 m1 m2 m3 m4 m5 m6 m7 m8 m9 m10 m11 m12 m13 m14 m15 m16 m17 th td sed mi fr to lim f1 f2 dis pin ag en cm mc su isu fir lgt ofs rn wsn i_ (by first | assumption | omega)) (fun _ => rfl) (q0 := 0) (ci := 3) rfl rfl gX3_breaks_X3_isIssuer rfl rfl rfl ⟨rfl, by decide, by decide, by decide +kernel⟩ ⟨Nat.le_of_ble_eq_true rfl, Nat.le_of_ble_eq_true rfl⟩ rfl hl.1 rfl (Nat.le_of_ble_eq_true rfl) dX3_breaks_3 ⟨Nat.zero_le _, Nat.zero_le _⟩ (fun r_1 u H locs e_2 hP hD hS => ?_)
  have hP : va_P D vwCl (wM cy m0 m1 m2 m3 m4 m5 m6 m7 m8 m9 m10 m11 m12 m13 m14 m15 m16 m17 th td sed mi fr to lim f1 f2 dis pin ag en cm mc su isu fir lgt ofs rn wsn) H := hP
  have hD : va_D A (wM cy m0 m1 m2 m3 m4 m5 m6 m7 m8 m9 m10 m11 m12 m13 m14 m15 m16 m17 th td sed mi fr to lim f1 f2 dis pin ag en cm mc su isu fir lgt ofs rn wsn) := hD
  have e_2 : r_1 = bI (badI mi i_ = false) := e_2
  subst e_2
  refine k_ifne (tgt := 13) hx hb dX3_breaks_6 (by decide) (fun c_6 => ?_) (fun c_6 => ?_)
  · refine lv_iload_n hx hb dX3_breaks_13 rfl (lv_at hl 2 rfl) ?_
    refine kcS_i (n := 1) (X := []) (wc := []) (Y := wM cy m0 m1 m2 m3 m4 m5 m6 m7 m8 m9 m10 m11 m12 m13 m14 m15 m16 m17 th td sed mi fr to lim f1 f2 dis pin ag en cm mc su isu fir lgt ofs rn wsn) (As := [.int d_]) (rest := [.ref m0]) ⟨hx, hb, hml, hown, hts⟩ hE hA hP hD hS (c_X3_isDay l D cy d_) (fun _ => rfl) gX3_breaks_X3_isDay rfl rfl rfl ⟨by decide, by decide, by decide +kernel⟩ ⟨Nat.le_of_ble_eq_true rfl, Nat.le_of_ble_eq_true rfl⟩ rfl hl.1 rfl (Nat.le_of_ble_eq_true rfl) dX3_breaks_14 ⟨Nat.zero_le _, Nat.zero_le _⟩ (fun r_3 u H locs e_4 hP hD hS => ?_)
    have hP : va_P D vwCl (wM cy m0 m1 m2 m3 m4 m5 m6 m7 m8 m9 m10 m11 m12 m13 m14 m15 m16 m17 th td sed mi fr to lim f1 f2 dis pin ag en cm mc su isu fir lgt ofs rn wsn) H := hP
    have hD : va_D A (wM cy m0 m1 m2 m3 m4 m5 m6 m7 m8 m9 m10 m11 m12 m13 m14 m15 m16 m17 th td sed mi fr to lim f1 f2 dis pin ag en cm mc su isu fir lgt ofs rn wsn) := hD
    have e_4 : r_3 = bI (badD d_ = false) := e_4
    subst e_4
    refine k_ifeq (tgt := 24) hx hb dX3_breaks_17 (by decide) (fun c_17 => ?_) (fun c_17 => ?_)
    · refine lv_iconst (v := 2) hx hb dX3_breaks_24 (by decide) ?_
      refine va_put (D := D) (ci := 3) (v := .int 2) (ty := .int) (C := RX3) (T := TX3) (N := 22) hx hb hts g_X3 tyX3 tyX3_ok nmX3 hown hE.1 hP hD hS 0 rfl rfl 0 (by decide) f_66 (fun _ h9 => h9) rfl (by decide +kernel) rfl rfl (Nat.le_of_ble_eq_true rfl) dX3_breaks_25 (fun H locs hP hD hS => ?_)
      have hP : va_P D vwCl (wM cy m0 m1 m2 m3 m4 m5 m6 m7 m8 m9 m10 m11 m12 m13 m14 m15 m16 m17 2 td sed mi fr to lim f1 f2 dis pin ag en cm mc su isu fir lgt ofs rn wsn) H := hP
      have hD : va_D A (wM cy m0 m1 m2 m3 m4 m5 m6 m7 m8 m9 m10 m11 m12 m13 m14 m15 m16 m17 2 td sed mi fr to lim f1 f2 dis pin ag en cm mc su isu fir lgt ofs rn wsn) := hD
      refine lv_aload_n hx hb dX3_breaks_28 rfl (lv_at hl 0 rfl) ?_
      refine va_get (D := D) (ci := 3) (v := .int 2) (C := RX3) (T := TX3) (N := 22) hx hb hts g_X3 hown hE.1 hP 0 rfl rfl 0 (by decide) f_66 (fun _ h9 => h9) rfl dX3_breaks_29 ?_
      refine lv_if_le (tgt := 39) hx hb dX3_breaks_32 (by decide) (fun c_32 => absurd c_32 (by decide)) (fun _ => ?_)
      refine lv_iconst (v := 0) hx hb dX3_breaks_35 (by decide) ?_
      refine lv_goto (tgt := 54) hx hb dX3_breaks_36 (by decide) ?_
      have w_th : 2 = cdID mi i_ d_ := (by simp [cdID, c_6, c_17])
      exact hret _ _ _ _ 0 ag dX3_breaks_54 (Or.inl rfl) trivial (by show va_P D vwCl (wM cy m0 m1 m2 m3 m4 m5 m6 m7 m8 m9 m10 m11 m12 m13 m14 m15 m16 m17 (cdID mi i_ d_) td sed mi fr to lim f1 f2 dis pin ag en cm mc su isu fir lgt ofs rn wsn) _; rw [← w_th]; exact hP) hS
    · refine lv_iconst (v := 0) hx hb dX3_breaks_20 (by decide) ?_
      refine lv_goto (tgt := 25) hx hb dX3_breaks_21 (by decide) ?_
      refine va_put (D := D) (ci := 3) (v := .int 0) (ty := .int) (C := RX3) (T := TX3) (N := 22) hx hb hts g_X3 tyX3 tyX3_ok nmX3 hown hE.1 hP hD hS 0 rfl rfl 0 (by decide) f_66 (fun _ h9 => h9) rfl (by decide +kernel) rfl rfl (Nat.le_of_ble_eq_true rfl) dX3_breaks_25 (fun H locs hP hD hS => ?_)
      have hP : va_P D vwCl (wM cy m0 m1 m2 m3 m4 m5 m6 m7 m8 m9 m10 m11 m12 m13 m14 m15 m16 m17 0 td sed mi fr to lim f1 f2 dis pin ag en cm mc su isu fir lgt ofs rn wsn) H := hP
      have hD : va_D A (wM cy m0 m1 m2 m3 m4 m5 m6 m7 m8 m9 m10 m11 m12 m13 m14 m15 m16 m17 0 td sed mi fr to lim f1 f2 dis pin ag en cm mc su isu fir lgt ofs rn wsn) := hD
      refine lv_aload_n hx hb dX3_breaks_28 rfl (lv_at hl 0 rfl) ?_
      refine va_get (D := D) (ci := 3) (v := .int 0) (C := RX3) (T := TX3) (N := 22) hx hb hts g_X3 hown hE.1 hP 0 rfl rfl 0 (by decide) f_66 (fun _ h9 => h9) rfl dX3_breaks_29 ?_
      refine lv_if_le (tgt := 39) hx hb dX3_breaks_32 (by decide) (fun _ => ?_) (fun c_32 => absurd c_32 (by decide))
      refine lv_aload_n hx hb dX3_breaks_39 rfl (lv_at hl 0 rfl) ?_
      refine lv_iload_n hx hb dX3_breaks_40 rfl (lv_at hl 2 rfl) ?_
      refine lv_iconst (v := (-1)) hx hb dX3_breaks_41 (by decide) ?_
      refine kcW_i (n := 2) (wc := wM cy m0 m1 m2 m3 m4 m5 m6 m7 m8 m9 m10 m11 m12 m13 m14 m15 m16 m17 0 td sed mi fr to lim f1 f2 dis pin ag en cm mc su isu fir lgt ofs rn wsn) (As := [.int d_, .int (-1)]) (rest := []) ⟨hx, hb, hml, hown, hts⟩ hE hA hP hD hS (c_X3_names l D cy m0 m1 m2 m3 m4 m5 m6 m7 m8 m9 m10 m11 m12 m13 m14 m15 m16 m17 0 td sed mi fr to lim f1 f2 dis pin ag en cm mc su isu fir lgt ofs rn wsn d_ (-1) (by first | assumption | omega) (by first | assumption | omega) (by first | assumption | omega) (by first | assumption | omega) (by first | assumption | omega)) (fun _ => Eq.trans (b := [m0, m1, m2, m3, m4, m5, m6, m7, m8, m9, m10, m11, m12, m13, m14, m15, m16, m17]) rfl rfl) (q0 := 0) (ci := 3) rfl rfl gX3_breaks_X3_names rfl rfl rfl ⟨rfl, by decide, by decide, by decide +kernel⟩ ⟨Nat.le_of_ble_eq_true rfl, Nat.le_of_ble_eq_true rfl⟩ rfl hl.1 rfl (Nat.le_of_ble_eq_true rfl) dX3_breaks_42 ⟨Nat.zero_le _, Nat.zero_le _⟩ (fun r_5 u H locs e_6 hP hD hS => ?_)
      obtain ⟨ag_7, rfl⟩ : ∃ z, z = u := ⟨_, rfl⟩
      have hP : va_P D vwCl (wM cy m0 m1 m2 m3 m4 m5 m6 m7 m8 m9 m10 m11 m12 m13 m14 m15 m16 m17 0 td sed mi fr to lim f1 f2 dis pin ag_7 en cm mc su isu fir lgt ofs rn wsn) H := hP
      have hD : va_D A (wM cy m0 m1 m2 m3 m4 m5 m6 m7 m8 m9 m10 m11 m12 m13 m14 m15 m16 m17 0 td sed mi fr to lim f1 f2 dis pin ag_7 en cm mc su isu fir lgt ofs rn wsn) := hD
      have e_6 : r_5 = nmN f1 f2 fr to dis isu su fir lgt d_ (-1) mc := e_6
      subst e_6
      refine lv_aload_n hx hb dX3_breaks_45 rfl (lv_at hl 0 rfl) ?_
      refine lv_iload_n hx hb dX3_breaks_46 rfl (lv_at hl 2 rfl) ?_
      refine lv_iload_n hx hb dX3_breaks_47 rfl (lv_at hl 1 rfl) ?_
      refine kcW_i (n := 2) (wc := wM cy m0 m1 m2 m3 m4 m5 m6 m7 m8 m9 m10 m11 m12 m13 m14 m15 m16 m17 0 td sed mi fr to lim f1 f2 dis pin ag_7 en cm mc su isu fir lgt ofs rn wsn) (As := [.int d_, .int i_]) (rest := [.int (nmN f1 f2 fr to dis isu su fir lgt d_ (-1) mc)]) ⟨hx, hb, hml, hown, hts⟩ hE hA hP hD hS (c_X3_names l D cy m0 m1 m2 m3 m4 m5 m6 m7 m8 m9 m10 m11 m12 m13 m14 m15 m16 m17 0 td sed mi fr to lim f1 f2 dis pin ag_7 en cm mc su isu fir lgt ofs rn wsn d_ i_ (by first | assumption | omega) (by first | assumption | omega) (by first | assumption | omega) (by first | assumption | omega) (by first | assumption | omega)) (fun _ => Eq.trans (b := [m0, m1, m2, m3, m4, m5, m6, m7, m8, m9, m10, m11, m12, m13, m14, m15, m16, m17]) rfl rfl) (q0 := 0) (ci := 3) rfl rfl gX3_breaks_X3_names rfl rfl rfl ⟨rfl, by decide, by decide, by decide +kernel⟩ ⟨Nat.le_of_ble_eq_true rfl, Nat.le_of_ble_eq_true rfl⟩ rfl hl.1 rfl (Nat.le_of_ble_eq_true rfl) dX3_breaks_48 ⟨Nat.zero_le _, Nat.zero_le _⟩ (fun r_8 u H locs e_9 hP hD hS => ?_)
      obtain ⟨ag_10, rfl⟩ : ∃ z, z = u := ⟨_, rfl⟩
      have hP : va_P D vwCl (wM cy m0 m1 m2 m3 m4 m5 m6 m7 m8 m9 m10 m11 m12 m13 m14 m15 m16 m17 0 td sed mi fr to lim f1 f2 dis pin ag_10 en cm mc su isu fir lgt ofs rn wsn) H := hP
      have hD : va_D A (wM cy m0 m1 m2 m3 m4 m5 m6 m7 m8 m9 m10 m11 m12 m13 m14 m15 m16 m17 0 td sed mi fr to lim f1 f2 dis pin ag_10 en cm mc su isu fir lgt ofs rn wsn) := hD
      have e_9 : r_8 = nmN f1 f2 fr to dis isu su fir lgt d_ i_ mc := e_9
      subst e_9
      refine lv_iconst (v := (-1)) hx hb dX3_breaks_51 (by decide) ?_
      refine lv_ixor hx hb dX3_breaks_52 ?_
      refine lv_iand hx hb dX3_breaks_53 ?_
      exact absurd (by simp [cdID, c_6, c_17]) hcd
  · refine lv_iconst (v := 1) hx hb dX3_breaks_9 (by decide) ?_
    refine lv_goto (tgt := 25) hx hb dX3_breaks_10 (by decide) ?_
    refine va_put (D := D) (ci := 3) (v := .int 1) (ty := .int) (C := RX3) (T := TX3) (N := 22) hx hb hts g_X3 tyX3 tyX3_ok nmX3 hown hE.1 hP hD hS 0 rfl rfl 0 (by decide) f_66 (fun _ h9 => h9) rfl (by decide +kernel) rfl rfl (Nat.le_of_ble_eq_true rfl) dX3_breaks_25 (fun H locs hP hD hS => ?_)
    have hP : va_P D vwCl (wM cy m0 m1 m2 m3 m4 m5 m6 m7 m8 m9 m10 m11 m12 m13 m14 m15 m16 m17 1 td sed mi fr to lim f1 f2 dis pin ag en cm mc su isu fir lgt ofs rn wsn) H := hP
    have hD : va_D A (wM cy m0 m1 m2 m3 m4 m5 m6 m7 m8 m9 m10 m11 m12 m13 m14 m15 m16 m17 1 td sed mi fr to lim f1 f2 dis pin ag en cm mc su isu fir lgt ofs rn wsn) := hD
    refine lv_aload_n hx hb dX3_breaks_28 rfl (lv_at hl 0 rfl) ?_
    refine va_get (D := D) (ci := 3) (v := .int 1) (C := RX3) (T := TX3) (N := 22) hx hb hts g_X3 hown hE.1 hP 0 rfl rfl 0 (by decide) f_66 (fun _ h9 => h9) rfl dX3_breaks_29 ?_
    refine lv_if_le (tgt := 39) hx hb dX3_breaks_32 (by decide) (fun c_32 => absurd c_32 (by decide)) (fun _ => ?_)
    refine lv_iconst (v := 0) hx hb dX3_breaks_35 (by decide) ?_
    refine lv_goto (tgt := 54) hx hb dX3_breaks_36 (by decide) ?_
    have w_th : 1 = cdID mi i_ d_ := (by simp [cdID, c_6])
    exact hret _ _ _ _ 0 ag dX3_breaks_54 (Or.inl rfl) trivial (by show va_P D vwCl (wM cy m0 m1 m2 m3 m4 m5 m6 m7 m8 m9 m10 m11 m12 m13 m14 m15 m16 m17 (cdID mi i_ d_) td sed mi fr to lim f1 f2 dis pin ag en cm mc su isu fir lgt ofs rn wsn) _; rw [← w_th]; exact hP) hS

set_option maxHeartbeats 4000000 in
set_option maxRecDepth 100000 in
theorem c_X3_weakest (l : Launch) (D : va_G) (cy : ClassId × ClassId × ClassId) (m0 m1 m2 m3 m4 m5 m6 m7 m8 m9 m10 m11 m12 m13 m14 m15 m16 m17 : Nat) (th td sed : Int32) (mi : Nat) (fr to lim f1 f2 dis pin ag en cm : Nat → Int32) (mc : Nat) (su isu fir lgt ofs rn wsn : Nat → Int32) (d_ : Int32) (hm : mi ≤ 8) (hc : mc ≤ 60) (h1 : ∀ i, i < mi → sgP f1 i) (h2 : ∀ i, i < mi → sgP f2 i) (hok : certOK mi isu lgt mc) (hcd : cdD d_ = 0) : kI l D cy yX3_weakest wsX3_weakest (krm 3 75) [.ref m0, .int d_] (wM cy m0 m1 m2 m3 m4 m5 m6 m7 m8 m9 m10 m11 m12 m13 m14 m15 m16 m17 th td sed mi fr to lim f1 f2 dis pin ag en cm mc su isu fir lgt ofs rn wsn) (fun (r : Int32) (u : (Nat → Int32)) => r = (wkN (fun x => bsN x 16) (fun k => lostM f1 f2 fr to dis isu su fir lgt mc d_ (nI k)) mi).1) (fun u : (Nat → Int32) => wM cy m0 m1 m2 m3 m4 m5 m6 m7 m8 m9 m10 m11 m12 m13 m14 m15 m16 m17 0 td sed mi fr to lim f1 f2 dis pin u en cm mc su isu fir lgt ofs rn wsn) := by
  refine kI.of (cc := cX3_weakest) (maxL := 8) (rt := .int) (Or.inl rfl) (by decide) rfl (Nat.le_of_ble_eq_true rfl) ?_
  intro p e s m args below meth c Q A ls hx hb hml hown hts hE hA hP hD hl hret
  have hS : va_S A s.heap s.heap [] := va_S.rf
  have hl : lv_has ls 8 [(0, .ref m0), (1, .int d_)] := hl
  have g_X3 : ∀ w ∈ wsX30, w ∈ wsX3_weakest := by decide +kernel
  have f_66 := hts (.fieldLink RX3 66 "CertHerdModel" "thrown" "I") (by decide +kernel)
  have f_69 := hts (.fieldLink RX3 69 "CertHerdModel" "issuerMany" "I") (by decide +kernel)
  refine lv_aload_n hx hb dX3_weakest_0 rfl (lv_at hl 0 rfl) ?_
  refine lv_iload_n hx hb dX3_weakest_1 rfl (lv_at hl 1 rfl) ?_
  refine kcS_i (n := 1) (X := []) (wc := []) (Y := wM cy m0 m1 m2 m3 m4 m5 m6 m7 m8 m9 m10 m11 m12 m13 m14 m15 m16 m17 th td sed mi fr to lim f1 f2 dis pin ag en cm mc su isu fir lgt ofs rn wsn) (As := [.int d_]) (rest := [.ref m0]) ⟨hx, hb, hml, hown, hts⟩ hE hA hP hD hS (c_X3_isDay l D cy d_) (fun _ => rfl) gX3_weakest_X3_isDay rfl rfl rfl ⟨by decide, by decide, by decide +kernel⟩ ⟨Nat.le_of_ble_eq_true rfl, Nat.le_of_ble_eq_true rfl⟩ rfl hl.1 rfl (Nat.le_of_ble_eq_true rfl) dX3_weakest_2 ⟨Nat.zero_le _, Nat.zero_le _⟩ (fun r_1 u H locs e_2 hP hD hS => ?_)
  have hP : va_P D vwCl (wM cy m0 m1 m2 m3 m4 m5 m6 m7 m8 m9 m10 m11 m12 m13 m14 m15 m16 m17 th td sed mi fr to lim f1 f2 dis pin ag en cm mc su isu fir lgt ofs rn wsn) H := hP
  have hD : va_D A (wM cy m0 m1 m2 m3 m4 m5 m6 m7 m8 m9 m10 m11 m12 m13 m14 m15 m16 m17 th td sed mi fr to lim f1 f2 dis pin ag en cm mc su isu fir lgt ofs rn wsn) := hD
  have e_2 : r_1 = bI (badD d_ = false) := e_2
  subst e_2
  refine k_ifeq (tgt := 12) hx hb dX3_weakest_5 (by decide) (fun c_5 => ?_) (fun c_5 => ?_)
  · refine lv_iconst (v := 1) hx hb dX3_weakest_12 (by decide) ?_
    refine va_put (D := D) (ci := 3) (v := .int 1) (ty := .int) (C := RX3) (T := TX3) (N := 22) hx hb hts g_X3 tyX3 tyX3_ok nmX3 hown hE.1 hP hD hS 0 rfl rfl 0 (by decide) f_66 (fun _ h9 => h9) rfl (by decide +kernel) rfl rfl (Nat.le_of_ble_eq_true rfl) dX3_weakest_13 (fun H locs hP hD hS => ?_)
    have hP : va_P D vwCl (wM cy m0 m1 m2 m3 m4 m5 m6 m7 m8 m9 m10 m11 m12 m13 m14 m15 m16 m17 1 td sed mi fr to lim f1 f2 dis pin ag en cm mc su isu fir lgt ofs rn wsn) H := hP
    have hD : va_D A (wM cy m0 m1 m2 m3 m4 m5 m6 m7 m8 m9 m10 m11 m12 m13 m14 m15 m16 m17 1 td sed mi fr to lim f1 f2 dis pin ag en cm mc su isu fir lgt ofs rn wsn) := hD
    refine lv_iconst (v := (-1)) hx hb dX3_weakest_16 (by decide) ?_
    refine lv_istore_n (lv' := [(2, .int (-1)), (0, .ref m0), (1, .int d_)]) hx hb dX3_weakest_17 rfl hl (by decide) rfl (fun ls hl => ?_)
    refine lv_iconst (v := 0) hx hb dX3_weakest_18 (by decide) ?_
    refine lv_istore_n (lv' := [(3, .int 0), (2, .int (-1)), (0, .ref m0), (1, .int d_)]) hx hb dX3_weakest_19 rfl hl (by decide) rfl (fun ls hl => ?_)
    refine lv_iconst (v := 0) hx hb dX3_weakest_20 (by decide) ?_
    refine lv_istore (lv' := [(4, .int 0), (3, .int 0), (2, .int (-1)), (0, .ref m0), (1, .int d_)]) hx hb dX3_weakest_21 hl (by decide) rfl (fun ls hl => ?_)
    refine lv_iload hx hb dX3_weakest_23 (lv_at hl 0 rfl) ?_
    refine lv_aload_n hx hb dX3_weakest_25 rfl (lv_at hl 3 rfl) ?_
    refine va_get (D := D) (ci := 3) (v := .int (nI mi)) (C := RX3) (T := TX3) (N := 22) hx hb hts g_X3 hown hE.1 hP 0 rfl rfl 3 (by decide) f_69 (fun _ h9 => h9) rfl dX3_weakest_26 ?_
    refine lv_icmp_ge (tgt := 120) hx hb dX3_weakest_29 (by decide) (fun c_29 => ?_) (fun c_29 => ?_)
    · have c_29n : mi ≤ 0 := k_leN (a := mi) (b := 0) (by omega) (by omega) c_29
      refine lv_aload_n hx hb dX3_weakest_120 rfl (lv_at hl 3 rfl) ?_
      refine va_get (D := D) (ci := 3) (v := .int 1) (C := RX3) (T := TX3) (N := 22) hx hb hts g_X3 hown hE.1 hP 0 rfl rfl 0 (by decide) f_66 (fun _ h9 => h9) rfl dX3_weakest_121 ?_
      refine lv_if_le (tgt := 131) hx hb dX3_weakest_124 (by decide) (fun c_124 => absurd c_124 (by decide)) (fun _ => ?_)
      refine lv_iconst (v := 0) hx hb dX3_weakest_127 (by decide) ?_
      refine lv_goto (tgt := 132) hx hb dX3_weakest_128 (by decide) ?_
      exact absurd hcd (by simp [cdD, c_5, c_29])
    · have c_29n : ¬ mi ≤ 0 := k_nleN (a := mi) (b := 0) (by omega) (by omega) c_29
      refine lv_aload_n hx hb dX3_weakest_32 rfl (lv_at hl 3 rfl) ?_
      refine va_get (D := D) (ci := 3) (v := .int 1) (C := RX3) (T := TX3) (N := 22) hx hb hts g_X3 hown hE.1 hP 0 rfl rfl 0 (by decide) f_66 (fun _ h9 => h9) rfl dX3_weakest_33 ?_
      refine lv_if_ne (tgt := 120) hx hb dX3_weakest_36 (by decide) (fun _ => ?_) (fun c_36 => absurd c_36 (by decide))
      refine lv_aload_n hx hb dX3_weakest_120 rfl (lv_at hl 3 rfl) ?_
      refine va_get (D := D) (ci := 3) (v := .int 1) (C := RX3) (T := TX3) (N := 22) hx hb hts g_X3 hown hE.1 hP 0 rfl rfl 0 (by decide) f_66 (fun _ h9 => h9) rfl dX3_weakest_121 ?_
      refine lv_if_le (tgt := 131) hx hb dX3_weakest_124 (by decide) (fun c_124 => absurd c_124 (by decide)) (fun _ => ?_)
      refine lv_iconst (v := 0) hx hb dX3_weakest_127 (by decide) ?_
      refine lv_goto (tgt := 132) hx hb dX3_weakest_128 (by decide) ?_
      exact absurd hcd (by simp [cdD, c_5, c_29])
  · refine lv_iconst (v := 0) hx hb dX3_weakest_8 (by decide) ?_
    refine lv_goto (tgt := 13) hx hb dX3_weakest_9 (by decide) ?_
    refine va_put (D := D) (ci := 3) (v := .int 0) (ty := .int) (C := RX3) (T := TX3) (N := 22) hx hb hts g_X3 tyX3 tyX3_ok nmX3 hown hE.1 hP hD hS 0 rfl rfl 0 (by decide) f_66 (fun _ h9 => h9) rfl (by decide +kernel) rfl rfl (Nat.le_of_ble_eq_true rfl) dX3_weakest_13 (fun H locs hP hD hS => ?_)
    have hP : va_P D vwCl (wM cy m0 m1 m2 m3 m4 m5 m6 m7 m8 m9 m10 m11 m12 m13 m14 m15 m16 m17 0 td sed mi fr to lim f1 f2 dis pin ag en cm mc su isu fir lgt ofs rn wsn) H := hP
    have hD : va_D A (wM cy m0 m1 m2 m3 m4 m5 m6 m7 m8 m9 m10 m11 m12 m13 m14 m15 m16 m17 0 td sed mi fr to lim f1 f2 dis pin ag en cm mc su isu fir lgt ofs rn wsn) := hD
    refine lv_iconst (v := (-1)) hx hb dX3_weakest_16 (by decide) ?_
    refine lv_istore_n (lv' := [(2, .int (-1)), (0, .ref m0), (1, .int d_)]) hx hb dX3_weakest_17 rfl hl (by decide) rfl (fun ls hl => ?_)
    refine lv_iconst (v := 0) hx hb dX3_weakest_18 (by decide) ?_
    refine lv_istore_n (lv' := [(3, .int 0), (2, .int (-1)), (0, .ref m0), (1, .int d_)]) hx hb dX3_weakest_19 rfl hl (by decide) rfl (fun ls hl => ?_)
    refine lv_iconst (v := 0) hx hb dX3_weakest_20 (by decide) ?_
    refine lv_istore (lv' := [(4, .int 0), (3, .int 0), (2, .int (-1)), (0, .ref m0), (1, .int d_)]) hx hb dX3_weakest_21 hl (by decide) rfl (fun ls hl => ?_)
    have L_23 : ∀ (f : Nat) (k : Nat) (g1 g2 : Int32) (g_ : Nat → Int32) (H : Heap) (locs : List Loc) (ls : Array Slot), ((mi - k) < f) → (k ≤ mi) → ((g1, g2) = wkN (fun x => bsN x 16) (fun k => lostM f1 f2 fr to dis isu su fir lgt mc d_ (nI k)) k) → va_P D vwCl (wM cy m0 m1 m2 m3 m4 m5 m6 m7 m8 m9 m10 m11 m12 m13 m14 m15 m16 m17 0 td sed mi fr to lim f1 f2 dis pin g_ en cm mc su isu fir lgt ofs rn wsn) H → va_D A (wM cy m0 m1 m2 m3 m4 m5 m6 m7 m8 m9 m10 m11 m12 m13 m14 m15 m16 m17 0 td sed mi fr to lim f1 f2 dis pin g_ en cm mc su isu fir lgt ofs rn wsn) → va_S A s.heap H locs → lv_has ls 8 [(4, .int (nI k)), (3, .int g2), (2, .int g1), (0, .ref m0), (1, .int d_)] → W p l e (krm 3 75) s m args below meth c H locs 0 0 Q (F0 m 23 ls []) := by
      intro f
      induction f with
      | zero => intro k g1 g2 g_ H locs ls hf; exact absurd hf (Nat.not_lt_zero _)
      | succ f ih_23 =>
        intro k g1 g2 g_ H locs ls hf hk eg hP hD hS hl
        refine lv_iload hx hb dX3_weakest_23 (lv_at hl 0 rfl) ?_
        refine lv_aload_n hx hb dX3_weakest_25 rfl (lv_at hl 3 rfl) ?_
        refine va_get (D := D) (ci := 3) (v := .int (nI mi)) (C := RX3) (T := TX3) (N := 22) hx hb hts g_X3 hown hE.1 hP 0 rfl rfl 3 (by decide) f_69 (fun _ h9 => h9) rfl dX3_weakest_26 ?_
        refine lv_icmp_ge (tgt := 120) hx hb dX3_weakest_29 (by decide) (fun c_29 => ?_) (fun c_29 => ?_)
        · have c_29n : mi ≤ k := k_leN (a := mi) (b := k) (by omega) (by omega) c_29
          refine lv_aload_n hx hb dX3_weakest_120 rfl (lv_at hl 3 rfl) ?_
          refine va_get (D := D) (ci := 3) (v := .int 0) (C := RX3) (T := TX3) (N := 22) hx hb hts g_X3 hown hE.1 hP 0 rfl rfl 0 (by decide) f_66 (fun _ h9 => h9) rfl dX3_weakest_121 ?_
          refine lv_if_le (tgt := 131) hx hb dX3_weakest_124 (by decide) (fun _ => ?_) (fun c_124 => absurd c_124 (by decide))
          refine lv_iload_n hx hb dX3_weakest_131 rfl (lv_at hl 2 rfl) ?_
          exact hret _ _ _ _ g1 g_ dX3_weakest_132 (Or.inl rfl) (by have e9 : k = mi := (by omega); subst e9; rw [← eg]) hP hS
        · have c_29n : ¬ mi ≤ k := k_nleN (a := mi) (b := k) (by omega) (by omega) c_29
          refine lv_aload_n hx hb dX3_weakest_32 rfl (lv_at hl 3 rfl) ?_
          refine va_get (D := D) (ci := 3) (v := .int 0) (C := RX3) (T := TX3) (N := 22) hx hb hts g_X3 hown hE.1 hP 0 rfl rfl 0 (by decide) f_66 (fun _ h9 => h9) rfl dX3_weakest_33 ?_
          refine lv_if_ne (tgt := 120) hx hb dX3_weakest_36 (by decide) (fun c_36 => absurd c_36 (by decide)) (fun _ => ?_)
          refine lv_aload_n hx hb dX3_weakest_39 rfl (lv_at hl 3 rfl) ?_
          refine lv_iload_n hx hb dX3_weakest_40 rfl (lv_at hl 4 rfl) ?_
          refine lv_iconst (v := (-1)) hx hb dX3_weakest_41 (by decide) ?_
          refine kcW_i (n := 2) (wc := wM cy m0 m1 m2 m3 m4 m5 m6 m7 m8 m9 m10 m11 m12 m13 m14 m15 m16 m17 0 td sed mi fr to lim f1 f2 dis pin g_ en cm mc su isu fir lgt ofs rn wsn) (As := [.int d_, .int (-1)]) (rest := []) ⟨hx, hb, hml, hown, hts⟩ hE hA hP hD hS (c_X3_names l D cy m0 m1 m2 m3 m4 m5 m6 m7 m8 m9 m10 m11 m12 m13 m14 m15 m16 m17 0 td sed mi fr to lim f1 f2 dis pin g_ en cm mc su isu fir lgt ofs rn wsn d_ (-1) (by first | assumption | omega) (by first | assumption | omega) (by first | assumption | omega) (by first | assumption | omega) (by first | assumption | omega)) (fun _ => Eq.trans (b := [m0, m1, m2, m3, m4, m5, m6, m7, m8, m9, m10, m11, m12, m13, m14, m15, m16, m17]) rfl rfl) (q0 := 0) (ci := 3) rfl rfl gX3_weakest_X3_names rfl rfl rfl ⟨rfl, by decide, by decide, by decide +kernel⟩ ⟨Nat.le_of_ble_eq_true rfl, Nat.le_of_ble_eq_true rfl⟩ rfl hl.1 rfl (Nat.le_of_ble_eq_true rfl) dX3_weakest_42 ⟨Nat.zero_le _, Nat.zero_le _⟩ (fun r_3 u H locs e_4 hP hD hS => ?_)
          obtain ⟨ag_5, rfl⟩ : ∃ z, z = u := ⟨_, rfl⟩
          have hP : va_P D vwCl (wM cy m0 m1 m2 m3 m4 m5 m6 m7 m8 m9 m10 m11 m12 m13 m14 m15 m16 m17 0 td sed mi fr to lim f1 f2 dis pin ag_5 en cm mc su isu fir lgt ofs rn wsn) H := hP
          have hD : va_D A (wM cy m0 m1 m2 m3 m4 m5 m6 m7 m8 m9 m10 m11 m12 m13 m14 m15 m16 m17 0 td sed mi fr to lim f1 f2 dis pin ag_5 en cm mc su isu fir lgt ofs rn wsn) := hD
          have e_4 : r_3 = nmN f1 f2 fr to dis isu su fir lgt d_ (-1) mc := e_4
          subst e_4
          refine lv_aload_n hx hb dX3_weakest_45 rfl (lv_at hl 3 rfl) ?_
          refine lv_iload_n hx hb dX3_weakest_46 rfl (lv_at hl 4 rfl) ?_
          refine lv_iload hx hb dX3_weakest_47 (lv_at hl 0 rfl) ?_
          refine kcW_i (n := 2) (wc := wM cy m0 m1 m2 m3 m4 m5 m6 m7 m8 m9 m10 m11 m12 m13 m14 m15 m16 m17 0 td sed mi fr to lim f1 f2 dis pin ag_5 en cm mc su isu fir lgt ofs rn wsn) (As := [.int d_, .int (nI k)]) (rest := [.int (nmN f1 f2 fr to dis isu su fir lgt d_ (-1) mc)]) ⟨hx, hb, hml, hown, hts⟩ hE hA hP hD hS (c_X3_names l D cy m0 m1 m2 m3 m4 m5 m6 m7 m8 m9 m10 m11 m12 m13 m14 m15 m16 m17 0 td sed mi fr to lim f1 f2 dis pin ag_5 en cm mc su isu fir lgt ofs rn wsn d_ (nI k) (by first | assumption | omega) (by first | assumption | omega) (by first | assumption | omega) (by first | assumption | omega) (by first | assumption | omega)) (fun _ => Eq.trans (b := [m0, m1, m2, m3, m4, m5, m6, m7, m8, m9, m10, m11, m12, m13, m14, m15, m16, m17]) rfl rfl) (q0 := 0) (ci := 3) rfl rfl gX3_weakest_X3_names rfl rfl rfl ⟨rfl, by decide, by decide, by decide +kernel⟩ ⟨Nat.le_of_ble_eq_true rfl, Nat.le_of_ble_eq_true rfl⟩ rfl hl.1 rfl (Nat.le_of_ble_eq_true rfl) dX3_weakest_49 ⟨Nat.zero_le _, Nat.zero_le _⟩ (fun r_6 u H locs e_7 hP hD hS => ?_)
          obtain ⟨ag_8, rfl⟩ : ∃ z, z = u := ⟨_, rfl⟩
          have hP : va_P D vwCl (wM cy m0 m1 m2 m3 m4 m5 m6 m7 m8 m9 m10 m11 m12 m13 m14 m15 m16 m17 0 td sed mi fr to lim f1 f2 dis pin ag_8 en cm mc su isu fir lgt ofs rn wsn) H := hP
          have hD : va_D A (wM cy m0 m1 m2 m3 m4 m5 m6 m7 m8 m9 m10 m11 m12 m13 m14 m15 m16 m17 0 td sed mi fr to lim f1 f2 dis pin ag_8 en cm mc su isu fir lgt ofs rn wsn) := hD
          have e_7 : r_6 = nmN f1 f2 fr to dis isu su fir lgt d_ (nI k) mc := e_7
          subst e_7
          refine lv_iconst (v := (-1)) hx hb dX3_weakest_52 (by decide) ?_
          refine lv_ixor hx hb dX3_weakest_53 ?_
          refine lv_iand hx hb dX3_weakest_54 ?_
          refine lv_istore (lv' := [(5, .int ((nmN f1 f2 fr to dis isu su fir lgt d_ (-1) mc) &&& ((nmN f1 f2 fr to dis isu su fir lgt d_ (nI k) mc) ^^^ (-1)))), (4, .int (nI k)), (3, .int g2), (2, .int g1), (0, .ref m0), (1, .int d_)]) hx hb dX3_weakest_55 hl (by decide) rfl (fun ls hl => ?_)
          refine lv_iconst (v := 0) hx hb dX3_weakest_57 (by decide) ?_
          refine lv_istore (lv' := [(6, .int 0), (5, .int ((nmN f1 f2 fr to dis isu su fir lgt d_ (-1) mc) &&& ((nmN f1 f2 fr to dis isu su fir lgt d_ (nI k) mc) ^^^ (-1)))), (4, .int (nI k)), (3, .int g2), (2, .int g1), (0, .ref m0), (1, .int d_)]) hx hb dX3_weakest_58 hl (by decide) rfl (fun ls hl => ?_)
          refine lv_iconst (v := 0) hx hb dX3_weakest_60 (by decide) ?_
          refine lv_istore (lv' := [(7, .int 0), (6, .int 0), (5, .int ((nmN f1 f2 fr to dis isu su fir lgt d_ (-1) mc) &&& ((nmN f1 f2 fr to dis isu su fir lgt d_ (nI k) mc) ^^^ (-1)))), (4, .int (nI k)), (3, .int g2), (2, .int g1), (0, .ref m0), (1, .int d_)]) hx hb dX3_weakest_61 hl (by decide) rfl (fun ls hl => ?_)
          have L_63 : ∀ (f : Nat) (m_ : Nat) (b_ : Int32) (H : Heap) (locs : List Loc) (ls : Array Slot), ((16 - m_) < f) → (m_ ≤ 16) → (b_ = bsN (lostM f1 f2 fr to dis isu su fir lgt mc d_ (nI k)) m_) → va_P D vwCl (wM cy m0 m1 m2 m3 m4 m5 m6 m7 m8 m9 m10 m11 m12 m13 m14 m15 m16 m17 0 td sed mi fr to lim f1 f2 dis pin ag_8 en cm mc su isu fir lgt ofs rn wsn) H → va_D A (wM cy m0 m1 m2 m3 m4 m5 m6 m7 m8 m9 m10 m11 m12 m13 m14 m15 m16 m17 0 td sed mi fr to lim f1 f2 dis pin ag_8 en cm mc su isu fir lgt ofs rn wsn) → va_S A s.heap H locs → lv_has ls 8 [(7, .int (nI m_)), (6, .int b_), (5, .int ((nmN f1 f2 fr to dis isu su fir lgt d_ (-1) mc) &&& ((nmN f1 f2 fr to dis isu su fir lgt d_ (nI k) mc) ^^^ (-1)))), (4, .int (nI k)), (3, .int g2), (2, .int g1), (0, .ref m0), (1, .int d_)] → W p l e (krm 3 75) s m args below meth c H locs 0 0 Q (F0 m 63 ls []) := by
            intro f
            induction f with
            | zero => intro m_ b_ H locs ls hf; exact absurd hf (Nat.not_lt_zero _)
            | succ f ih_63 =>
              intro m_ b_ H locs ls hf hm16 ebs hP hD hS hl
              refine lv_iload hx hb dX3_weakest_63 (lv_at hl 0 rfl) ?_
              refine lv_bipush (v := 16) hx hb dX3_weakest_65 (by decide) ?_
              refine lv_icmp_ge (tgt := 88) hx hb dX3_weakest_67 (by decide) (fun c_67 => ?_) (fun c_67 => ?_)
              · have c_67n : 16 ≤ m_ := k_leN (a := 16) (b := m_) (by omega) (by omega) c_67
                refine lv_iload hx hb dX3_weakest_88 (lv_at hl 1 rfl) ?_
                refine lv_iload_n hx hb dX3_weakest_90 rfl (lv_at hl 4 rfl) ?_
                refine lv_icmp_le (tgt := 99) hx hb dX3_weakest_91 (by decide) (fun c_91 => ?_) (fun c_91 => ?_)
                · refine lv_iload_n hx hb dX3_weakest_99 rfl (lv_at hl 5 rfl) ?_
                  refine lv_istore_n (lv' := [(2, .int g1), (7, .int (nI m_)), (6, .int b_), (5, .int ((nmN f1 f2 fr to dis isu su fir lgt d_ (-1) mc) &&& ((nmN f1 f2 fr to dis isu su fir lgt d_ (nI k) mc) ^^^ (-1)))), (4, .int (nI k)), (3, .int g2), (0, .ref m0), (1, .int d_)]) hx hb dX3_weakest_100 rfl hl (by decide) rfl (fun ls hl => ?_)
                  refine lv_iload hx hb dX3_weakest_101 (lv_at hl 2 rfl) ?_
                  refine lv_iload_n hx hb dX3_weakest_103 rfl (lv_at hl 5 rfl) ?_
                  refine lv_icmp_le (tgt := 112) hx hb dX3_weakest_104 (by decide) (fun c_104 => ?_) (fun c_104 => absurd c_91 c_104)
                  refine lv_iload_n hx hb dX3_weakest_112 rfl (lv_at hl 5 rfl) ?_
                  refine lv_istore_n (lv' := [(3, .int g2), (2, .int g1), (7, .int (nI m_)), (6, .int b_), (5, .int ((nmN f1 f2 fr to dis isu su fir lgt d_ (-1) mc) &&& ((nmN f1 f2 fr to dis isu su fir lgt d_ (nI k) mc) ^^^ (-1)))), (4, .int (nI k)), (0, .ref m0), (1, .int d_)]) hx hb dX3_weakest_113 rfl hl (by decide) rfl (fun ls hl => ?_)
                  refine lv_iinc (v := (nI (k + 1))) (lv' := [(4, .int (nI (k + 1))), (3, .int g2), (2, .int g1), (7, .int (nI m_)), (6, .int b_), (5, .int ((nmN f1 f2 fr to dis isu su fir lgt d_ (-1) mc) &&& ((nmN f1 f2 fr to dis isu su fir lgt d_ (nI k) mc) ^^^ (-1)))), (0, .ref m0), (1, .int d_)]) hx hb dX3_weakest_114 hl (k := 5) rfl (k_inc _) (by decide) rfl (fun ls hl => ?_)
                  refine lv_goto (tgt := 23) hx hb dX3_weakest_117 (by decide) ?_
                  exact ih_23 (k + 1) g1 g2 ag_8 _ _ ls (by omega) (by omega) (by have e9 : m_ = 16 := (by omega); subst e9; rw [wkN, ← eg]; subst ebs; exact (if_pos c_91).symm) hP hD hS (lv_sub hl [0, 1, 2, 6, 7] rfl)
                · refine lv_iload hx hb dX3_weakest_94 (lv_at hl 3 rfl) ?_
                  refine lv_goto (tgt := 100) hx hb dX3_weakest_96 (by decide) ?_
                  refine lv_istore_n (lv' := [(2, .int (nI k)), (7, .int (nI m_)), (6, .int b_), (5, .int ((nmN f1 f2 fr to dis isu su fir lgt d_ (-1) mc) &&& ((nmN f1 f2 fr to dis isu su fir lgt d_ (nI k) mc) ^^^ (-1)))), (4, .int (nI k)), (3, .int g2), (0, .ref m0), (1, .int d_)]) hx hb dX3_weakest_100 rfl hl (by decide) rfl (fun ls hl => ?_)
                  refine lv_iload hx hb dX3_weakest_101 (lv_at hl 2 rfl) ?_
                  refine lv_iload_n hx hb dX3_weakest_103 rfl (lv_at hl 5 rfl) ?_
                  refine lv_icmp_le (tgt := 112) hx hb dX3_weakest_104 (by decide) (fun c_104 => absurd c_104 c_91) (fun c_104 => ?_)
                  refine lv_iload hx hb dX3_weakest_107 (lv_at hl 2 rfl) ?_
                  refine lv_goto (tgt := 113) hx hb dX3_weakest_109 (by decide) ?_
                  refine lv_istore_n (lv' := [(3, .int b_), (2, .int (nI k)), (7, .int (nI m_)), (6, .int b_), (5, .int ((nmN f1 f2 fr to dis isu su fir lgt d_ (-1) mc) &&& ((nmN f1 f2 fr to dis isu su fir lgt d_ (nI k) mc) ^^^ (-1)))), (4, .int (nI k)), (0, .ref m0), (1, .int d_)]) hx hb dX3_weakest_113 rfl hl (by decide) rfl (fun ls hl => ?_)
                  refine lv_iinc (v := (nI (k + 1))) (lv' := [(4, .int (nI (k + 1))), (3, .int b_), (2, .int (nI k)), (7, .int (nI m_)), (6, .int b_), (5, .int ((nmN f1 f2 fr to dis isu su fir lgt d_ (-1) mc) &&& ((nmN f1 f2 fr to dis isu su fir lgt d_ (nI k) mc) ^^^ (-1)))), (0, .ref m0), (1, .int d_)]) hx hb dX3_weakest_114 hl (k := 5) rfl (k_inc _) (by decide) rfl (fun ls hl => ?_)
                  refine lv_goto (tgt := 23) hx hb dX3_weakest_117 (by decide) ?_
                  exact ih_23 (k + 1) (nI k) b_ ag_8 _ _ ls (by omega) (by omega) (by have e9 : m_ = 16 := (by omega); subst e9; rw [wkN, ← eg]; subst ebs; exact (if_neg c_91).symm) hP hD hS (lv_sub hl [0, 1, 2, 6, 7] rfl)
              · have c_67n : ¬ 16 ≤ m_ := k_nleN (a := 16) (b := m_) (by omega) (by omega) c_67
                refine lv_iload hx hb dX3_weakest_70 (lv_at hl 1 rfl) ?_
                refine lv_iload hx hb dX3_weakest_72 (lv_at hl 2 rfl) ?_
                refine lv_iload hx hb dX3_weakest_74 (lv_at hl 0 rfl) ?_
                refine lv_ishr hx hb dX3_weakest_76 ?_
                refine lv_iconst (v := 1) hx hb dX3_weakest_77 (by decide) ?_
                refine lv_iand hx hb dX3_weakest_78 ?_
                refine lv_iadd hx hb dX3_weakest_79 ?_
                refine lv_istore (lv' := [(6, .int (b_ + ((((nmN f1 f2 fr to dis isu su fir lgt d_ (-1) mc) &&& ((nmN f1 f2 fr to dis isu su fir lgt d_ (nI k) mc) ^^^ (-1))) >>> ((nI m_) &&& 31)) &&& 1))), (7, .int (nI m_)), (5, .int ((nmN f1 f2 fr to dis isu su fir lgt d_ (-1) mc) &&& ((nmN f1 f2 fr to dis isu su fir lgt d_ (nI k) mc) ^^^ (-1)))), (4, .int (nI k)), (3, .int g2), (2, .int g1), (0, .ref m0), (1, .int d_)]) hx hb dX3_weakest_80 hl (by decide) rfl (fun ls hl => ?_)
                refine lv_iinc (v := (nI (m_ + 1))) (lv' := [(7, .int (nI (m_ + 1))), (6, .int (b_ + ((((nmN f1 f2 fr to dis isu su fir lgt d_ (-1) mc) &&& ((nmN f1 f2 fr to dis isu su fir lgt d_ (nI k) mc) ^^^ (-1))) >>> ((nI m_) &&& 31)) &&& 1))), (5, .int ((nmN f1 f2 fr to dis isu su fir lgt d_ (-1) mc) &&& ((nmN f1 f2 fr to dis isu su fir lgt d_ (nI k) mc) ^^^ (-1)))), (4, .int (nI k)), (3, .int g2), (2, .int g1), (0, .ref m0), (1, .int d_)]) hx hb dX3_weakest_82 hl (k := 1) rfl (k_inc _) (by decide) rfl (fun ls hl => ?_)
                refine lv_goto (tgt := 63) hx hb dX3_weakest_85 (by decide) ?_
                exact ih_63 (m_ + 1) (b_ + ((((nmN f1 f2 fr to dis isu su fir lgt d_ (-1) mc) &&& ((nmN f1 f2 fr to dis isu su fir lgt d_ (nI k) mc) ^^^ (-1))) >>> ((nI m_) &&& 31)) &&& 1)) _ _ ls (by omega) (by omega) (by rw [bsN, ← ebs]) hP hD hS (lv_sub hl [0, 1, 2, 3, 4, 5, 6, 7] rfl)
          exact L_63 ((16 - 0) + 1) 0 0 _ _ ls (Nat.lt_succ_self _) (by omega) rfl hP hD hS (lv_sub hl [0, 1, 2, 3, 4, 5, 6, 7] rfl)
    exact L_23 ((mi - 0) + 1) 0 (-1) 0 ag _ _ ls (Nat.lt_succ_self _) (by omega) rfl hP hD hS (lv_sub hl [0, 1, 2, 3, 4] rfl)

set_option maxHeartbeats 4000000 in
set_option maxRecDepth 100000 in
theorem c_X3_weakest_f (l : Launch) (D : va_G) (cy : ClassId × ClassId × ClassId) (m0 m1 m2 m3 m4 m5 m6 m7 m8 m9 m10 m11 m12 m13 m14 m15 m16 m17 : Nat) (th td sed : Int32) (mi : Nat) (fr to lim f1 f2 dis pin ag en cm : Nat → Int32) (mc : Nat) (su isu fir lgt ofs rn wsn : Nat → Int32) (d_ : Int32) (hm : mi ≤ 8) (hc : mc ≤ 60) (h1 : ∀ i, i < mi → sgP f1 i) (h2 : ∀ i, i < mi → sgP f2 i) (hok : certOK mi isu lgt mc) (hcd : ¬ cdD d_ = 0) : kI l D cy yX3_weakest wsX3_weakest (krm 3 75) [.ref m0, .int d_] (wM cy m0 m1 m2 m3 m4 m5 m6 m7 m8 m9 m10 m11 m12 m13 m14 m15 m16 m17 th td sed mi fr to lim f1 f2 dis pin ag en cm mc su isu fir lgt ofs rn wsn) (fun (r : Int32) (u : (Nat → Int32)) => True) (fun u : (Nat → Int32) => wM cy m0 m1 m2 m3 m4 m5 m6 m7 m8 m9 m10 m11 m12 m13 m14 m15 m16 m17 (cdD d_) td sed mi fr to lim f1 f2 dis pin u en cm mc su isu fir lgt ofs rn wsn) := by
  refine kI.of (cc := cX3_weakest) (maxL := 8) (rt := .int) (Or.inl rfl) (by decide) rfl (Nat.le_of_ble_eq_true rfl) ?_
  intro p e s m args below meth c Q A ls hx hb hml hown hts hE hA hP hD hl hret
  have hS : va_S A s.heap s.heap [] := va_S.rf
  have hl : lv_has ls 8 [(0, .ref m0), (1, .int d_)] := hl
  have g_X3 : ∀ w ∈ wsX30, w ∈ wsX3_weakest := by decide +kernel
  have f_66 := hts (.fieldLink RX3 66 "CertHerdModel" "thrown" "I") (by decide +kernel)
  have f_69 := hts (.fieldLink RX3 69 "CertHerdModel" "issuerMany" "I") (by decide +kernel)
  refine lv_aload_n hx hb dX3_weakest_0 rfl (lv_at hl 0 rfl) ?_
  refine lv_iload_n hx hb dX3_weakest_1 rfl (lv_at hl 1 rfl) ?_
  refine kcS_i (n := 1) (X := []) (wc := []) (Y := wM cy m0 m1 m2 m3 m4 m5 m6 m7 m8 m9 m10 m11 m12 m13 m14 m15 m16 m17 th td sed mi fr to lim f1 f2 dis pin ag en cm mc su isu fir lgt ofs rn wsn) (As := [.int d_]) (rest := [.ref m0]) ⟨hx, hb, hml, hown, hts⟩ hE hA hP hD hS (c_X3_isDay l D cy d_) (fun _ => rfl) gX3_weakest_X3_isDay rfl rfl rfl ⟨by decide, by decide, by decide +kernel⟩ ⟨Nat.le_of_ble_eq_true rfl, Nat.le_of_ble_eq_true rfl⟩ rfl hl.1 rfl (Nat.le_of_ble_eq_true rfl) dX3_weakest_2 ⟨Nat.zero_le _, Nat.zero_le _⟩ (fun r_1 u H locs e_2 hP hD hS => ?_)
  have hP : va_P D vwCl (wM cy m0 m1 m2 m3 m4 m5 m6 m7 m8 m9 m10 m11 m12 m13 m14 m15 m16 m17 th td sed mi fr to lim f1 f2 dis pin ag en cm mc su isu fir lgt ofs rn wsn) H := hP
  have hD : va_D A (wM cy m0 m1 m2 m3 m4 m5 m6 m7 m8 m9 m10 m11 m12 m13 m14 m15 m16 m17 th td sed mi fr to lim f1 f2 dis pin ag en cm mc su isu fir lgt ofs rn wsn) := hD
  have e_2 : r_1 = bI (badD d_ = false) := e_2
  subst e_2
  refine k_ifeq (tgt := 12) hx hb dX3_weakest_5 (by decide) (fun c_5 => ?_) (fun c_5 => ?_)
  · refine lv_iconst (v := 1) hx hb dX3_weakest_12 (by decide) ?_
    refine va_put (D := D) (ci := 3) (v := .int 1) (ty := .int) (C := RX3) (T := TX3) (N := 22) hx hb hts g_X3 tyX3 tyX3_ok nmX3 hown hE.1 hP hD hS 0 rfl rfl 0 (by decide) f_66 (fun _ h9 => h9) rfl (by decide +kernel) rfl rfl (Nat.le_of_ble_eq_true rfl) dX3_weakest_13 (fun H locs hP hD hS => ?_)
    have hP : va_P D vwCl (wM cy m0 m1 m2 m3 m4 m5 m6 m7 m8 m9 m10 m11 m12 m13 m14 m15 m16 m17 1 td sed mi fr to lim f1 f2 dis pin ag en cm mc su isu fir lgt ofs rn wsn) H := hP
    have hD : va_D A (wM cy m0 m1 m2 m3 m4 m5 m6 m7 m8 m9 m10 m11 m12 m13 m14 m15 m16 m17 1 td sed mi fr to lim f1 f2 dis pin ag en cm mc su isu fir lgt ofs rn wsn) := hD
    refine lv_iconst (v := (-1)) hx hb dX3_weakest_16 (by decide) ?_
    refine lv_istore_n (lv' := [(2, .int (-1)), (0, .ref m0), (1, .int d_)]) hx hb dX3_weakest_17 rfl hl (by decide) rfl (fun ls hl => ?_)
    refine lv_iconst (v := 0) hx hb dX3_weakest_18 (by decide) ?_
    refine lv_istore_n (lv' := [(3, .int 0), (2, .int (-1)), (0, .ref m0), (1, .int d_)]) hx hb dX3_weakest_19 rfl hl (by decide) rfl (fun ls hl => ?_)
    refine lv_iconst (v := 0) hx hb dX3_weakest_20 (by decide) ?_
    refine lv_istore (lv' := [(4, .int 0), (3, .int 0), (2, .int (-1)), (0, .ref m0), (1, .int d_)]) hx hb dX3_weakest_21 hl (by decide) rfl (fun ls hl => ?_)
    refine lv_iload hx hb dX3_weakest_23 (lv_at hl 0 rfl) ?_
    refine lv_aload_n hx hb dX3_weakest_25 rfl (lv_at hl 3 rfl) ?_
    refine va_get (D := D) (ci := 3) (v := .int (nI mi)) (C := RX3) (T := TX3) (N := 22) hx hb hts g_X3 hown hE.1 hP 0 rfl rfl 3 (by decide) f_69 (fun _ h9 => h9) rfl dX3_weakest_26 ?_
    refine lv_icmp_ge (tgt := 120) hx hb dX3_weakest_29 (by decide) (fun c_29 => ?_) (fun c_29 => ?_)
    · have c_29n : mi ≤ 0 := k_leN (a := mi) (b := 0) (by omega) (by omega) c_29
      refine lv_aload_n hx hb dX3_weakest_120 rfl (lv_at hl 3 rfl) ?_
      refine va_get (D := D) (ci := 3) (v := .int 1) (C := RX3) (T := TX3) (N := 22) hx hb hts g_X3 hown hE.1 hP 0 rfl rfl 0 (by decide) f_66 (fun _ h9 => h9) rfl dX3_weakest_121 ?_
      refine lv_if_le (tgt := 131) hx hb dX3_weakest_124 (by decide) (fun c_124 => absurd c_124 (by decide)) (fun _ => ?_)
      refine lv_iconst (v := 0) hx hb dX3_weakest_127 (by decide) ?_
      refine lv_goto (tgt := 132) hx hb dX3_weakest_128 (by decide) ?_
      have w_th : 1 = cdD d_ := (by simp [cdD, c_5, c_29])
      exact hret _ _ _ _ 0 ag dX3_weakest_132 (Or.inl rfl) trivial (by show va_P D vwCl (wM cy m0 m1 m2 m3 m4 m5 m6 m7 m8 m9 m10 m11 m12 m13 m14 m15 m16 m17 (cdD d_) td sed mi fr to lim f1 f2 dis pin ag en cm mc su isu fir lgt ofs rn wsn) _; rw [← w_th]; exact hP) hS
    · have c_29n : ¬ mi ≤ 0 := k_nleN (a := mi) (b := 0) (by omega) (by omega) c_29
      refine lv_aload_n hx hb dX3_weakest_32 rfl (lv_at hl 3 rfl) ?_
      refine va_get (D := D) (ci := 3) (v := .int 1) (C := RX3) (T := TX3) (N := 22) hx hb hts g_X3 hown hE.1 hP 0 rfl rfl 0 (by decide) f_66 (fun _ h9 => h9) rfl dX3_weakest_33 ?_
      refine lv_if_ne (tgt := 120) hx hb dX3_weakest_36 (by decide) (fun _ => ?_) (fun c_36 => absurd c_36 (by decide))
      refine lv_aload_n hx hb dX3_weakest_120 rfl (lv_at hl 3 rfl) ?_
      refine va_get (D := D) (ci := 3) (v := .int 1) (C := RX3) (T := TX3) (N := 22) hx hb hts g_X3 hown hE.1 hP 0 rfl rfl 0 (by decide) f_66 (fun _ h9 => h9) rfl dX3_weakest_121 ?_
      refine lv_if_le (tgt := 131) hx hb dX3_weakest_124 (by decide) (fun c_124 => absurd c_124 (by decide)) (fun _ => ?_)
      refine lv_iconst (v := 0) hx hb dX3_weakest_127 (by decide) ?_
      refine lv_goto (tgt := 132) hx hb dX3_weakest_128 (by decide) ?_
      have w_th : 1 = cdD d_ := (by simp [cdD, c_5, c_29])
      exact hret _ _ _ _ 0 ag dX3_weakest_132 (Or.inl rfl) trivial (by show va_P D vwCl (wM cy m0 m1 m2 m3 m4 m5 m6 m7 m8 m9 m10 m11 m12 m13 m14 m15 m16 m17 (cdD d_) td sed mi fr to lim f1 f2 dis pin ag en cm mc su isu fir lgt ofs rn wsn) _; rw [← w_th]; exact hP) hS
  · refine lv_iconst (v := 0) hx hb dX3_weakest_8 (by decide) ?_
    refine lv_goto (tgt := 13) hx hb dX3_weakest_9 (by decide) ?_
    refine va_put (D := D) (ci := 3) (v := .int 0) (ty := .int) (C := RX3) (T := TX3) (N := 22) hx hb hts g_X3 tyX3 tyX3_ok nmX3 hown hE.1 hP hD hS 0 rfl rfl 0 (by decide) f_66 (fun _ h9 => h9) rfl (by decide +kernel) rfl rfl (Nat.le_of_ble_eq_true rfl) dX3_weakest_13 (fun H locs hP hD hS => ?_)
    have hP : va_P D vwCl (wM cy m0 m1 m2 m3 m4 m5 m6 m7 m8 m9 m10 m11 m12 m13 m14 m15 m16 m17 0 td sed mi fr to lim f1 f2 dis pin ag en cm mc su isu fir lgt ofs rn wsn) H := hP
    have hD : va_D A (wM cy m0 m1 m2 m3 m4 m5 m6 m7 m8 m9 m10 m11 m12 m13 m14 m15 m16 m17 0 td sed mi fr to lim f1 f2 dis pin ag en cm mc su isu fir lgt ofs rn wsn) := hD
    refine lv_iconst (v := (-1)) hx hb dX3_weakest_16 (by decide) ?_
    refine lv_istore_n (lv' := [(2, .int (-1)), (0, .ref m0), (1, .int d_)]) hx hb dX3_weakest_17 rfl hl (by decide) rfl (fun ls hl => ?_)
    refine lv_iconst (v := 0) hx hb dX3_weakest_18 (by decide) ?_
    refine lv_istore_n (lv' := [(3, .int 0), (2, .int (-1)), (0, .ref m0), (1, .int d_)]) hx hb dX3_weakest_19 rfl hl (by decide) rfl (fun ls hl => ?_)
    refine lv_iconst (v := 0) hx hb dX3_weakest_20 (by decide) ?_
    refine lv_istore (lv' := [(4, .int 0), (3, .int 0), (2, .int (-1)), (0, .ref m0), (1, .int d_)]) hx hb dX3_weakest_21 hl (by decide) rfl (fun ls hl => ?_)
    have L_23 : ∀ (f : Nat) (k : Nat) (g1 g2 : Int32) (g_ : Nat → Int32) (H : Heap) (locs : List Loc) (ls : Array Slot), ((mi - k) < f) → (k ≤ mi) → ((g1, g2) = wkN (fun x => bsN x 16) (fun k => lostM f1 f2 fr to dis isu su fir lgt mc d_ (nI k)) k) → va_P D vwCl (wM cy m0 m1 m2 m3 m4 m5 m6 m7 m8 m9 m10 m11 m12 m13 m14 m15 m16 m17 0 td sed mi fr to lim f1 f2 dis pin g_ en cm mc su isu fir lgt ofs rn wsn) H → va_D A (wM cy m0 m1 m2 m3 m4 m5 m6 m7 m8 m9 m10 m11 m12 m13 m14 m15 m16 m17 0 td sed mi fr to lim f1 f2 dis pin g_ en cm mc su isu fir lgt ofs rn wsn) → va_S A s.heap H locs → lv_has ls 8 [(4, .int (nI k)), (3, .int g2), (2, .int g1), (0, .ref m0), (1, .int d_)] → W p l e (krm 3 75) s m args below meth c H locs 0 0 Q (F0 m 23 ls []) := by
      intro f
      induction f with
      | zero => intro k g1 g2 g_ H locs ls hf; exact absurd hf (Nat.not_lt_zero _)
      | succ f ih_23 =>
        intro k g1 g2 g_ H locs ls hf hk eg hP hD hS hl
        refine lv_iload hx hb dX3_weakest_23 (lv_at hl 0 rfl) ?_
        refine lv_aload_n hx hb dX3_weakest_25 rfl (lv_at hl 3 rfl) ?_
        refine va_get (D := D) (ci := 3) (v := .int (nI mi)) (C := RX3) (T := TX3) (N := 22) hx hb hts g_X3 hown hE.1 hP 0 rfl rfl 3 (by decide) f_69 (fun _ h9 => h9) rfl dX3_weakest_26 ?_
        refine lv_icmp_ge (tgt := 120) hx hb dX3_weakest_29 (by decide) (fun c_29 => ?_) (fun c_29 => ?_)
        · have c_29n : mi ≤ k := k_leN (a := mi) (b := k) (by omega) (by omega) c_29
          refine lv_aload_n hx hb dX3_weakest_120 rfl (lv_at hl 3 rfl) ?_
          refine va_get (D := D) (ci := 3) (v := .int 0) (C := RX3) (T := TX3) (N := 22) hx hb hts g_X3 hown hE.1 hP 0 rfl rfl 0 (by decide) f_66 (fun _ h9 => h9) rfl dX3_weakest_121 ?_
          refine lv_if_le (tgt := 131) hx hb dX3_weakest_124 (by decide) (fun _ => ?_) (fun c_124 => absurd c_124 (by decide))
          refine lv_iload_n hx hb dX3_weakest_131 rfl (lv_at hl 2 rfl) ?_
          exact absurd (by simp [cdD, c_5, c_29]) hcd
        · have c_29n : ¬ mi ≤ k := k_nleN (a := mi) (b := k) (by omega) (by omega) c_29
          refine lv_aload_n hx hb dX3_weakest_32 rfl (lv_at hl 3 rfl) ?_
          refine va_get (D := D) (ci := 3) (v := .int 0) (C := RX3) (T := TX3) (N := 22) hx hb hts g_X3 hown hE.1 hP 0 rfl rfl 0 (by decide) f_66 (fun _ h9 => h9) rfl dX3_weakest_33 ?_
          refine lv_if_ne (tgt := 120) hx hb dX3_weakest_36 (by decide) (fun c_36 => absurd c_36 (by decide)) (fun _ => ?_)
          refine lv_aload_n hx hb dX3_weakest_39 rfl (lv_at hl 3 rfl) ?_
          refine lv_iload_n hx hb dX3_weakest_40 rfl (lv_at hl 4 rfl) ?_
          refine lv_iconst (v := (-1)) hx hb dX3_weakest_41 (by decide) ?_
          refine kcW_i (n := 2) (wc := wM cy m0 m1 m2 m3 m4 m5 m6 m7 m8 m9 m10 m11 m12 m13 m14 m15 m16 m17 0 td sed mi fr to lim f1 f2 dis pin g_ en cm mc su isu fir lgt ofs rn wsn) (As := [.int d_, .int (-1)]) (rest := []) ⟨hx, hb, hml, hown, hts⟩ hE hA hP hD hS (c_X3_names l D cy m0 m1 m2 m3 m4 m5 m6 m7 m8 m9 m10 m11 m12 m13 m14 m15 m16 m17 0 td sed mi fr to lim f1 f2 dis pin g_ en cm mc su isu fir lgt ofs rn wsn d_ (-1) (by first | assumption | omega) (by first | assumption | omega) (by first | assumption | omega) (by first | assumption | omega) (by first | assumption | omega)) (fun _ => Eq.trans (b := [m0, m1, m2, m3, m4, m5, m6, m7, m8, m9, m10, m11, m12, m13, m14, m15, m16, m17]) rfl rfl) (q0 := 0) (ci := 3) rfl rfl gX3_weakest_X3_names rfl rfl rfl ⟨rfl, by decide, by decide, by decide +kernel⟩ ⟨Nat.le_of_ble_eq_true rfl, Nat.le_of_ble_eq_true rfl⟩ rfl hl.1 rfl (Nat.le_of_ble_eq_true rfl) dX3_weakest_42 ⟨Nat.zero_le _, Nat.zero_le _⟩ (fun r_3 u H locs e_4 hP hD hS => ?_)
          obtain ⟨ag_5, rfl⟩ : ∃ z, z = u := ⟨_, rfl⟩
          have hP : va_P D vwCl (wM cy m0 m1 m2 m3 m4 m5 m6 m7 m8 m9 m10 m11 m12 m13 m14 m15 m16 m17 0 td sed mi fr to lim f1 f2 dis pin ag_5 en cm mc su isu fir lgt ofs rn wsn) H := hP
          have hD : va_D A (wM cy m0 m1 m2 m3 m4 m5 m6 m7 m8 m9 m10 m11 m12 m13 m14 m15 m16 m17 0 td sed mi fr to lim f1 f2 dis pin ag_5 en cm mc su isu fir lgt ofs rn wsn) := hD
          have e_4 : r_3 = nmN f1 f2 fr to dis isu su fir lgt d_ (-1) mc := e_4
          subst e_4
          refine lv_aload_n hx hb dX3_weakest_45 rfl (lv_at hl 3 rfl) ?_
          refine lv_iload_n hx hb dX3_weakest_46 rfl (lv_at hl 4 rfl) ?_
          refine lv_iload hx hb dX3_weakest_47 (lv_at hl 0 rfl) ?_
          refine kcW_i (n := 2) (wc := wM cy m0 m1 m2 m3 m4 m5 m6 m7 m8 m9 m10 m11 m12 m13 m14 m15 m16 m17 0 td sed mi fr to lim f1 f2 dis pin ag_5 en cm mc su isu fir lgt ofs rn wsn) (As := [.int d_, .int (nI k)]) (rest := [.int (nmN f1 f2 fr to dis isu su fir lgt d_ (-1) mc)]) ⟨hx, hb, hml, hown, hts⟩ hE hA hP hD hS (c_X3_names l D cy m0 m1 m2 m3 m4 m5 m6 m7 m8 m9 m10 m11 m12 m13 m14 m15 m16 m17 0 td sed mi fr to lim f1 f2 dis pin ag_5 en cm mc su isu fir lgt ofs rn wsn d_ (nI k) (by first | assumption | omega) (by first | assumption | omega) (by first | assumption | omega) (by first | assumption | omega) (by first | assumption | omega)) (fun _ => Eq.trans (b := [m0, m1, m2, m3, m4, m5, m6, m7, m8, m9, m10, m11, m12, m13, m14, m15, m16, m17]) rfl rfl) (q0 := 0) (ci := 3) rfl rfl gX3_weakest_X3_names rfl rfl rfl ⟨rfl, by decide, by decide, by decide +kernel⟩ ⟨Nat.le_of_ble_eq_true rfl, Nat.le_of_ble_eq_true rfl⟩ rfl hl.1 rfl (Nat.le_of_ble_eq_true rfl) dX3_weakest_49 ⟨Nat.zero_le _, Nat.zero_le _⟩ (fun r_6 u H locs e_7 hP hD hS => ?_)
          obtain ⟨ag_8, rfl⟩ : ∃ z, z = u := ⟨_, rfl⟩
          have hP : va_P D vwCl (wM cy m0 m1 m2 m3 m4 m5 m6 m7 m8 m9 m10 m11 m12 m13 m14 m15 m16 m17 0 td sed mi fr to lim f1 f2 dis pin ag_8 en cm mc su isu fir lgt ofs rn wsn) H := hP
          have hD : va_D A (wM cy m0 m1 m2 m3 m4 m5 m6 m7 m8 m9 m10 m11 m12 m13 m14 m15 m16 m17 0 td sed mi fr to lim f1 f2 dis pin ag_8 en cm mc su isu fir lgt ofs rn wsn) := hD
          have e_7 : r_6 = nmN f1 f2 fr to dis isu su fir lgt d_ (nI k) mc := e_7
          subst e_7
          refine lv_iconst (v := (-1)) hx hb dX3_weakest_52 (by decide) ?_
          refine lv_ixor hx hb dX3_weakest_53 ?_
          refine lv_iand hx hb dX3_weakest_54 ?_
          refine lv_istore (lv' := [(5, .int ((nmN f1 f2 fr to dis isu su fir lgt d_ (-1) mc) &&& ((nmN f1 f2 fr to dis isu su fir lgt d_ (nI k) mc) ^^^ (-1)))), (4, .int (nI k)), (3, .int g2), (2, .int g1), (0, .ref m0), (1, .int d_)]) hx hb dX3_weakest_55 hl (by decide) rfl (fun ls hl => ?_)
          refine lv_iconst (v := 0) hx hb dX3_weakest_57 (by decide) ?_
          refine lv_istore (lv' := [(6, .int 0), (5, .int ((nmN f1 f2 fr to dis isu su fir lgt d_ (-1) mc) &&& ((nmN f1 f2 fr to dis isu su fir lgt d_ (nI k) mc) ^^^ (-1)))), (4, .int (nI k)), (3, .int g2), (2, .int g1), (0, .ref m0), (1, .int d_)]) hx hb dX3_weakest_58 hl (by decide) rfl (fun ls hl => ?_)
          refine lv_iconst (v := 0) hx hb dX3_weakest_60 (by decide) ?_
          refine lv_istore (lv' := [(7, .int 0), (6, .int 0), (5, .int ((nmN f1 f2 fr to dis isu su fir lgt d_ (-1) mc) &&& ((nmN f1 f2 fr to dis isu su fir lgt d_ (nI k) mc) ^^^ (-1)))), (4, .int (nI k)), (3, .int g2), (2, .int g1), (0, .ref m0), (1, .int d_)]) hx hb dX3_weakest_61 hl (by decide) rfl (fun ls hl => ?_)
          have L_63 : ∀ (f : Nat) (m_ : Nat) (b_ : Int32) (H : Heap) (locs : List Loc) (ls : Array Slot), ((16 - m_) < f) → (m_ ≤ 16) → (b_ = bsN (lostM f1 f2 fr to dis isu su fir lgt mc d_ (nI k)) m_) → va_P D vwCl (wM cy m0 m1 m2 m3 m4 m5 m6 m7 m8 m9 m10 m11 m12 m13 m14 m15 m16 m17 0 td sed mi fr to lim f1 f2 dis pin ag_8 en cm mc su isu fir lgt ofs rn wsn) H → va_D A (wM cy m0 m1 m2 m3 m4 m5 m6 m7 m8 m9 m10 m11 m12 m13 m14 m15 m16 m17 0 td sed mi fr to lim f1 f2 dis pin ag_8 en cm mc su isu fir lgt ofs rn wsn) → va_S A s.heap H locs → lv_has ls 8 [(7, .int (nI m_)), (6, .int b_), (5, .int ((nmN f1 f2 fr to dis isu su fir lgt d_ (-1) mc) &&& ((nmN f1 f2 fr to dis isu su fir lgt d_ (nI k) mc) ^^^ (-1)))), (4, .int (nI k)), (3, .int g2), (2, .int g1), (0, .ref m0), (1, .int d_)] → W p l e (krm 3 75) s m args below meth c H locs 0 0 Q (F0 m 63 ls []) := by
            intro f
            induction f with
            | zero => intro m_ b_ H locs ls hf; exact absurd hf (Nat.not_lt_zero _)
            | succ f ih_63 =>
              intro m_ b_ H locs ls hf hm16 ebs hP hD hS hl
              refine lv_iload hx hb dX3_weakest_63 (lv_at hl 0 rfl) ?_
              refine lv_bipush (v := 16) hx hb dX3_weakest_65 (by decide) ?_
              refine lv_icmp_ge (tgt := 88) hx hb dX3_weakest_67 (by decide) (fun c_67 => ?_) (fun c_67 => ?_)
              · have c_67n : 16 ≤ m_ := k_leN (a := 16) (b := m_) (by omega) (by omega) c_67
                refine lv_iload hx hb dX3_weakest_88 (lv_at hl 1 rfl) ?_
                refine lv_iload_n hx hb dX3_weakest_90 rfl (lv_at hl 4 rfl) ?_
                refine lv_icmp_le (tgt := 99) hx hb dX3_weakest_91 (by decide) (fun c_91 => ?_) (fun c_91 => ?_)
                · refine lv_iload_n hx hb dX3_weakest_99 rfl (lv_at hl 5 rfl) ?_
                  refine lv_istore_n (lv' := [(2, .int g1), (7, .int (nI m_)), (6, .int b_), (5, .int ((nmN f1 f2 fr to dis isu su fir lgt d_ (-1) mc) &&& ((nmN f1 f2 fr to dis isu su fir lgt d_ (nI k) mc) ^^^ (-1)))), (4, .int (nI k)), (3, .int g2), (0, .ref m0), (1, .int d_)]) hx hb dX3_weakest_100 rfl hl (by decide) rfl (fun ls hl => ?_)
                  refine lv_iload hx hb dX3_weakest_101 (lv_at hl 2 rfl) ?_
                  refine lv_iload_n hx hb dX3_weakest_103 rfl (lv_at hl 5 rfl) ?_
                  refine lv_icmp_le (tgt := 112) hx hb dX3_weakest_104 (by decide) (fun c_104 => ?_) (fun c_104 => absurd c_91 c_104)
                  refine lv_iload_n hx hb dX3_weakest_112 rfl (lv_at hl 5 rfl) ?_
                  refine lv_istore_n (lv' := [(3, .int g2), (2, .int g1), (7, .int (nI m_)), (6, .int b_), (5, .int ((nmN f1 f2 fr to dis isu su fir lgt d_ (-1) mc) &&& ((nmN f1 f2 fr to dis isu su fir lgt d_ (nI k) mc) ^^^ (-1)))), (4, .int (nI k)), (0, .ref m0), (1, .int d_)]) hx hb dX3_weakest_113 rfl hl (by decide) rfl (fun ls hl => ?_)
                  refine lv_iinc (v := (nI (k + 1))) (lv' := [(4, .int (nI (k + 1))), (3, .int g2), (2, .int g1), (7, .int (nI m_)), (6, .int b_), (5, .int ((nmN f1 f2 fr to dis isu su fir lgt d_ (-1) mc) &&& ((nmN f1 f2 fr to dis isu su fir lgt d_ (nI k) mc) ^^^ (-1)))), (0, .ref m0), (1, .int d_)]) hx hb dX3_weakest_114 hl (k := 5) rfl (k_inc _) (by decide) rfl (fun ls hl => ?_)
                  refine lv_goto (tgt := 23) hx hb dX3_weakest_117 (by decide) ?_
                  exact ih_23 (k + 1) g1 g2 ag_8 _ _ ls (by omega) (by omega) (by have e9 : m_ = 16 := (by omega); subst e9; rw [wkN, ← eg]; subst ebs; exact (if_pos c_91).symm) hP hD hS (lv_sub hl [0, 1, 2, 6, 7] rfl)
                · refine lv_iload hx hb dX3_weakest_94 (lv_at hl 3 rfl) ?_
                  refine lv_goto (tgt := 100) hx hb dX3_weakest_96 (by decide) ?_
                  refine lv_istore_n (lv' := [(2, .int (nI k)), (7, .int (nI m_)), (6, .int b_), (5, .int ((nmN f1 f2 fr to dis isu su fir lgt d_ (-1) mc) &&& ((nmN f1 f2 fr to dis isu su fir lgt d_ (nI k) mc) ^^^ (-1)))), (4, .int (nI k)), (3, .int g2), (0, .ref m0), (1, .int d_)]) hx hb dX3_weakest_100 rfl hl (by decide) rfl (fun ls hl => ?_)
                  refine lv_iload hx hb dX3_weakest_101 (lv_at hl 2 rfl) ?_
                  refine lv_iload_n hx hb dX3_weakest_103 rfl (lv_at hl 5 rfl) ?_
                  refine lv_icmp_le (tgt := 112) hx hb dX3_weakest_104 (by decide) (fun c_104 => absurd c_104 c_91) (fun c_104 => ?_)
                  refine lv_iload hx hb dX3_weakest_107 (lv_at hl 2 rfl) ?_
                  refine lv_goto (tgt := 113) hx hb dX3_weakest_109 (by decide) ?_
                  refine lv_istore_n (lv' := [(3, .int b_), (2, .int (nI k)), (7, .int (nI m_)), (6, .int b_), (5, .int ((nmN f1 f2 fr to dis isu su fir lgt d_ (-1) mc) &&& ((nmN f1 f2 fr to dis isu su fir lgt d_ (nI k) mc) ^^^ (-1)))), (4, .int (nI k)), (0, .ref m0), (1, .int d_)]) hx hb dX3_weakest_113 rfl hl (by decide) rfl (fun ls hl => ?_)
                  refine lv_iinc (v := (nI (k + 1))) (lv' := [(4, .int (nI (k + 1))), (3, .int b_), (2, .int (nI k)), (7, .int (nI m_)), (6, .int b_), (5, .int ((nmN f1 f2 fr to dis isu su fir lgt d_ (-1) mc) &&& ((nmN f1 f2 fr to dis isu su fir lgt d_ (nI k) mc) ^^^ (-1)))), (0, .ref m0), (1, .int d_)]) hx hb dX3_weakest_114 hl (k := 5) rfl (k_inc _) (by decide) rfl (fun ls hl => ?_)
                  refine lv_goto (tgt := 23) hx hb dX3_weakest_117 (by decide) ?_
                  exact ih_23 (k + 1) (nI k) b_ ag_8 _ _ ls (by omega) (by omega) (by have e9 : m_ = 16 := (by omega); subst e9; rw [wkN, ← eg]; subst ebs; exact (if_neg c_91).symm) hP hD hS (lv_sub hl [0, 1, 2, 6, 7] rfl)
              · have c_67n : ¬ 16 ≤ m_ := k_nleN (a := 16) (b := m_) (by omega) (by omega) c_67
                refine lv_iload hx hb dX3_weakest_70 (lv_at hl 1 rfl) ?_
                refine lv_iload hx hb dX3_weakest_72 (lv_at hl 2 rfl) ?_
                refine lv_iload hx hb dX3_weakest_74 (lv_at hl 0 rfl) ?_
                refine lv_ishr hx hb dX3_weakest_76 ?_
                refine lv_iconst (v := 1) hx hb dX3_weakest_77 (by decide) ?_
                refine lv_iand hx hb dX3_weakest_78 ?_
                refine lv_iadd hx hb dX3_weakest_79 ?_
                refine lv_istore (lv' := [(6, .int (b_ + ((((nmN f1 f2 fr to dis isu su fir lgt d_ (-1) mc) &&& ((nmN f1 f2 fr to dis isu su fir lgt d_ (nI k) mc) ^^^ (-1))) >>> ((nI m_) &&& 31)) &&& 1))), (7, .int (nI m_)), (5, .int ((nmN f1 f2 fr to dis isu su fir lgt d_ (-1) mc) &&& ((nmN f1 f2 fr to dis isu su fir lgt d_ (nI k) mc) ^^^ (-1)))), (4, .int (nI k)), (3, .int g2), (2, .int g1), (0, .ref m0), (1, .int d_)]) hx hb dX3_weakest_80 hl (by decide) rfl (fun ls hl => ?_)
                refine lv_iinc (v := (nI (m_ + 1))) (lv' := [(7, .int (nI (m_ + 1))), (6, .int (b_ + ((((nmN f1 f2 fr to dis isu su fir lgt d_ (-1) mc) &&& ((nmN f1 f2 fr to dis isu su fir lgt d_ (nI k) mc) ^^^ (-1))) >>> ((nI m_) &&& 31)) &&& 1))), (5, .int ((nmN f1 f2 fr to dis isu su fir lgt d_ (-1) mc) &&& ((nmN f1 f2 fr to dis isu su fir lgt d_ (nI k) mc) ^^^ (-1)))), (4, .int (nI k)), (3, .int g2), (2, .int g1), (0, .ref m0), (1, .int d_)]) hx hb dX3_weakest_82 hl (k := 1) rfl (k_inc _) (by decide) rfl (fun ls hl => ?_)
                refine lv_goto (tgt := 63) hx hb dX3_weakest_85 (by decide) ?_
                exact ih_63 (m_ + 1) (b_ + ((((nmN f1 f2 fr to dis isu su fir lgt d_ (-1) mc) &&& ((nmN f1 f2 fr to dis isu su fir lgt d_ (nI k) mc) ^^^ (-1))) >>> ((nI m_) &&& 31)) &&& 1)) _ _ ls (by omega) (by omega) (by rw [bsN, ← ebs]) hP hD hS (lv_sub hl [0, 1, 2, 3, 4, 5, 6, 7] rfl)
          exact L_63 ((16 - 0) + 1) 0 0 _ _ ls (Nat.lt_succ_self _) (by omega) rfl hP hD hS (lv_sub hl [0, 1, 2, 3, 4, 5, 6, 7] rfl)
    exact L_23 ((mi - 0) + 1) 0 (-1) 0 ag _ _ ls (Nat.lt_succ_self _) (by omega) rfl hP hD hS (lv_sub hl [0, 1, 2, 3, 4] rfl)

set_option maxHeartbeats 4000000 in
set_option maxRecDepth 100000 in
theorem c_X3_waiting (l : Launch) (D : va_G) (cy : ClassId × ClassId × ClassId) (m0 m1 m2 m3 m4 m5 m6 m7 m8 m9 m10 m11 m12 m13 m14 m15 m16 m17 : Nat) (th td sed : Int32) (mi : Nat) (fr to lim f1 f2 dis pin ag en cm : Nat → Int32) (mc : Nat) (su isu fir lgt ofs rn wsn : Nat → Int32) (hc : mc ≤ 60) : kI l D cy yX3_waiting wsX3_waiting (krm 2 42) [.ref m0] (wM cy m0 m1 m2 m3 m4 m5 m6 m7 m8 m9 m10 m11 m12 m13 m14 m15 m16 m17 th td sed mi fr to lim f1 f2 dis pin ag en cm mc su isu fir lgt ofs rn wsn) (fun (r : Int32) (u : Unit) => r = wcN fir lgt ofs rn td mc) (fun _ : Unit => wM cy m0 m1 m2 m3 m4 m5 m6 m7 m8 m9 m10 m11 m12 m13 m14 m15 m16 m17 0 td sed mi fr to lim f1 f2 dis pin ag en cm mc su isu fir lgt ofs rn wsn) := by
  refine kI.of (cc := cX3_waiting) (maxL := 3) (rt := .int) (Or.inl rfl) (by decide) rfl (Nat.le_of_ble_eq_true rfl) ?_
  intro p e s m args below meth c Q A ls hx hb hml hown hts hE hA hP hD hl hret
  have hS : va_S A s.heap s.heap [] := va_S.rf
  have hl : lv_has ls 3 [(0, .ref m0)] := hl
  have g_X3 : ∀ w ∈ wsX30, w ∈ wsX3_waiting := by decide +kernel
  have f_66 := hts (.fieldLink RX3 66 "CertHerdModel" "thrown" "I") (by decide +kernel)
  have f_76 := hts (.fieldLink RX3 76 "CertHerdModel" "certMany" "I") (by decide +kernel)
  refine lv_aload_n hx hb dX3_waiting_0 rfl (lv_at hl 0 rfl) ?_
  refine lv_iconst (v := 0) hx hb dX3_waiting_1 (by decide) ?_
  refine va_put (D := D) (ci := 3) (v := .int 0) (ty := .int) (C := RX3) (T := TX3) (N := 22) hx hb hts g_X3 tyX3 tyX3_ok nmX3 hown hE.1 hP hD hS 0 rfl rfl 0 (by decide) f_66 (fun _ h9 => h9) rfl (by decide +kernel) rfl rfl (Nat.le_of_ble_eq_true rfl) dX3_waiting_2 (fun H locs hP hD hS => ?_)
  have hP : va_P D vwCl (wM cy m0 m1 m2 m3 m4 m5 m6 m7 m8 m9 m10 m11 m12 m13 m14 m15 m16 m17 0 td sed mi fr to lim f1 f2 dis pin ag en cm mc su isu fir lgt ofs rn wsn) H := hP
  have hD : va_D A (wM cy m0 m1 m2 m3 m4 m5 m6 m7 m8 m9 m10 m11 m12 m13 m14 m15 m16 m17 0 td sed mi fr to lim f1 f2 dis pin ag en cm mc su isu fir lgt ofs rn wsn) := hD
  refine lv_iconst (v := 0) hx hb dX3_waiting_5 (by decide) ?_
  refine lv_istore_n (lv' := [(1, .int 0), (0, .ref m0)]) hx hb dX3_waiting_6 rfl hl (by decide) rfl (fun ls hl => ?_)
  refine lv_iconst (v := 0) hx hb dX3_waiting_7 (by decide) ?_
  refine lv_istore_n (lv' := [(2, .int 0), (1, .int 0), (0, .ref m0)]) hx hb dX3_waiting_8 rfl hl (by decide) rfl (fun ls hl => ?_)
  have L_9 : ∀ (f : Nat) (k : Nat) (g : Int32) (H : Heap) (locs : List Loc) (ls : Array Slot), ((mc - k) < f) → (k ≤ mc) → (g = wcN fir lgt ofs rn td k) → va_P D vwCl (wM cy m0 m1 m2 m3 m4 m5 m6 m7 m8 m9 m10 m11 m12 m13 m14 m15 m16 m17 0 td sed mi fr to lim f1 f2 dis pin ag en cm mc su isu fir lgt ofs rn wsn) H → va_D A (wM cy m0 m1 m2 m3 m4 m5 m6 m7 m8 m9 m10 m11 m12 m13 m14 m15 m16 m17 0 td sed mi fr to lim f1 f2 dis pin ag en cm mc su isu fir lgt ofs rn wsn) → va_S A s.heap H locs → lv_has ls 3 [(2, .int (nI k)), (1, .int g), (0, .ref m0)] → W p l e (krm 2 42) s m args below meth c H locs 0 0 Q (F0 m 9 ls []) := by
    intro f
    induction f with
    | zero => intro k g H locs ls hf; exact absurd hf (Nat.not_lt_zero _)
    | succ f ih_9 =>
      intro k g H locs ls hf hk eg hP hD hS hl
      refine lv_iload_n hx hb dX3_waiting_9 rfl (lv_at hl 0 rfl) ?_
      refine lv_aload_n hx hb dX3_waiting_10 rfl (lv_at hl 2 rfl) ?_
      refine va_get (D := D) (ci := 3) (v := .int (nI mc)) (C := RX3) (T := TX3) (N := 22) hx hb hts g_X3 hown hE.1 hP 0 rfl rfl 14 (by decide) f_76 (fun _ h9 => h9) rfl dX3_waiting_11 ?_
      refine lv_icmp_ge (tgt := 39) hx hb dX3_waiting_14 (by decide) (fun c_14 => ?_) (fun c_14 => ?_)
      · have c_14n : mc ≤ k := k_leN (a := mc) (b := k) (by omega) (by omega) c_14
        refine lv_iload_n hx hb dX3_waiting_39 rfl (lv_at hl 1 rfl) ?_
        exact hret _ _ _ _ g () dX3_waiting_40 (Or.inl rfl) (by have e9 : k = mc := (by omega); subst e9; exact eg) hP hS
      · have c_14n : ¬ mc ≤ k := k_nleN (a := mc) (b := k) (by omega) (by omega) c_14
        have hk8 : k < 60 := by omega
        refine lv_iload_n hx hb dX3_waiting_17 rfl (lv_at hl 1 rfl) ?_
        refine lv_aload_n hx hb dX3_waiting_18 rfl (lv_at hl 2 rfl) ?_
        refine lv_iload_n hx hb dX3_waiting_19 rfl (lv_at hl 0 rfl) ?_
        refine kcW_i (n := 1) (wc := wM cy m0 m1 m2 m3 m4 m5 m6 m7 m8 m9 m10 m11 m12 m13 m14 m15 m16 m17 0 td sed mi fr to lim f1 f2 dis pin ag en cm mc su isu fir lgt ofs rn wsn) (As := [.int (nI k)]) (rest := [.int g]) ⟨hx, hb, hml, hown, hts⟩ hE hA hP hD hS (c_X3_waits l D cy m0 m1 m2 m3 m4 m5 m6 m7 m8 m9 m10 m11 m12 m13 m14 m15 m16 m17 0 td sed mi fr to lim f1 f2 dis pin ag en cm mc su isu fir lgt ofs rn wsn k (by first | assumption | omega)) (fun _ => rfl) (q0 := 0) (ci := 3) rfl rfl gX3_waiting_X3_waits rfl rfl rfl ⟨rfl, by decide, by decide, by decide +kernel⟩ ⟨Nat.le_of_ble_eq_true rfl, Nat.le_of_ble_eq_true rfl⟩ rfl hl.1 rfl (Nat.le_of_ble_eq_true rfl) dX3_waiting_20 ⟨Nat.zero_le _, Nat.zero_le _⟩ (fun r_1 u H locs e_2 hP hD hS => ?_)
        have hP : va_P D vwCl (wM cy m0 m1 m2 m3 m4 m5 m6 m7 m8 m9 m10 m11 m12 m13 m14 m15 m16 m17 0 td sed mi fr to lim f1 f2 dis pin ag en cm mc su isu fir lgt ofs rn wsn) H := hP
        have hD : va_D A (wM cy m0 m1 m2 m3 m4 m5 m6 m7 m8 m9 m10 m11 m12 m13 m14 m15 m16 m17 0 td sed mi fr to lim f1 f2 dis pin ag en cm mc su isu fir lgt ofs rn wsn) := hD
        have e_2 : r_1 = bI (wtM fir lgt ofs rn td k) := e_2
        subst e_2
        refine k_ifeq (tgt := 30) hx hb dX3_waiting_23 (by decide) (fun c_23 => ?_) (fun c_23 => ?_)
        · refine lv_iconst (v := 0) hx hb dX3_waiting_30 (by decide) ?_
          refine lv_iadd hx hb dX3_waiting_31 ?_
          refine lv_istore_n (lv' := [(1, .int (g + 0)), (2, .int (nI k)), (0, .ref m0)]) hx hb dX3_waiting_32 rfl hl (by decide) rfl (fun ls hl => ?_)
          refine lv_iinc (v := (nI (k + 1))) (lv' := [(2, .int (nI (k + 1))), (1, .int (g + 0)), (0, .ref m0)]) hx hb dX3_waiting_33 hl (k := 1) rfl (k_inc _) (by decide) rfl (fun ls hl => ?_)
          refine lv_goto (tgt := 9) hx hb dX3_waiting_36 (by decide) ?_
          exact ih_9 (k + 1) (g + 0) _ _ ls (by omega) (by omega) (by rw [wcN, ← eg, if_neg c_23]) hP hD hS (lv_sub hl [0, 1, 2] rfl)
        · refine lv_iconst (v := 1) hx hb dX3_waiting_26 (by decide) ?_
          refine lv_goto (tgt := 31) hx hb dX3_waiting_27 (by decide) ?_
          refine lv_iadd hx hb dX3_waiting_31 ?_
          refine lv_istore_n (lv' := [(1, .int (g + 1)), (2, .int (nI k)), (0, .ref m0)]) hx hb dX3_waiting_32 rfl hl (by decide) rfl (fun ls hl => ?_)
          refine lv_iinc (v := (nI (k + 1))) (lv' := [(2, .int (nI (k + 1))), (1, .int (g + 1)), (0, .ref m0)]) hx hb dX3_waiting_33 hl (k := 1) rfl (k_inc _) (by decide) rfl (fun ls hl => ?_)
          refine lv_goto (tgt := 9) hx hb dX3_waiting_36 (by decide) ?_
          exact ih_9 (k + 1) (g + 1) _ _ ls (by omega) (by omega) (by rw [wcN, ← eg, if_pos c_23]) hP hD hS (lv_sub hl [0, 1, 2] rfl)
  exact L_9 ((mc - 0) + 1) 0 0 _ _ ls (Nat.lt_succ_self _) (by omega) rfl hP hD hS (lv_sub hl [0, 1, 2] rfl)

set_option maxHeartbeats 4000000 in
set_option maxRecDepth 100000 in
theorem c_X3_waitingAt (l : Launch) (D : va_G) (cy : ClassId × ClassId × ClassId) (m0 m1 m2 m3 m4 m5 m6 m7 m8 m9 m10 m11 m12 m13 m14 m15 m16 m17 : Nat) (th td sed : Int32) (mi : Nat) (fr to lim f1 f2 dis pin ag en cm : Nat → Int32) (mc : Nat) (su isu fir lgt ofs rn wsn : Nat → Int32) (p_ : Int32) (hc : mc ≤ 60) (hp : ¬ p_ < 0) (hcd : cdWa fir lgt ofs rn td mc (seeN wsn 0 60) p_ = 0) : kI l D cy yX3_waitingAt wsX3_waitingAt (krm 3 65) [.ref m0, .int p_] (wM cy m0 m1 m2 m3 m4 m5 m6 m7 m8 m9 m10 m11 m12 m13 m14 m15 m16 m17 th td sed mi fr to lim f1 f2 dis pin ag en cm mc su isu fir lgt ofs rn wsn) (fun (r : Int32) (u : (Nat → Int32)) => r = (waN fir lgt ofs rn td mc (seeN wsn 0 60) (ix p_)).2) (fun u : (Nat → Int32) => wM cy m0 m1 m2 m3 m4 m5 m6 m7 m8 m9 m10 m11 m12 m13 m14 m15 m16 m17 0 td sed mi fr to lim f1 f2 dis pin ag en cm mc su isu fir lgt ofs rn u) := by
  refine kI.of (cc := cX3_waitingAt) (maxL := 4) (rt := .int) (Or.inl rfl) (by decide) rfl (Nat.le_of_ble_eq_true rfl) ?_
  intro p e s m args below meth c Q A ls hx hb hml hown hts hE hA hP hD hl hret
  have hS : va_S A s.heap s.heap [] := va_S.rf
  have hl : lv_has ls 4 [(0, .ref m0), (1, .int p_)] := hl
  have g_X3 : ∀ w ∈ wsX30, w ∈ wsX3_waitingAt := by decide +kernel
  have f_66 := hts (.fieldLink RX3 66 "CertHerdModel" "thrown" "I") (by decide +kernel)
  have f_76 := hts (.fieldLink RX3 76 "CertHerdModel" "certMany" "I") (by decide +kernel)
  have f_63 := hts (.fieldLink RX3 63 "CertHerdModel" "wasSeen" "[Z") (by decide +kernel)
  have hpl := ix_lt hp
  refine lv_aload_n hx hb dX3_waitingAt_0 rfl (lv_at hl 0 rfl) ?_
  refine lv_iconst (v := 0) hx hb dX3_waitingAt_1 (by decide) ?_
  refine va_put (D := D) (ci := 3) (v := .int 0) (ty := .int) (C := RX3) (T := TX3) (N := 22) hx hb hts g_X3 tyX3 tyX3_ok nmX3 hown hE.1 hP hD hS 0 rfl rfl 0 (by decide) f_66 (fun _ h9 => h9) rfl (by decide +kernel) rfl rfl (Nat.le_of_ble_eq_true rfl) dX3_waitingAt_2 (fun H locs hP hD hS => ?_)
  have hP : va_P D vwCl (wM cy m0 m1 m2 m3 m4 m5 m6 m7 m8 m9 m10 m11 m12 m13 m14 m15 m16 m17 0 td sed mi fr to lim f1 f2 dis pin ag en cm mc su isu fir lgt ofs rn wsn) H := hP
  have hD : va_D A (wM cy m0 m1 m2 m3 m4 m5 m6 m7 m8 m9 m10 m11 m12 m13 m14 m15 m16 m17 0 td sed mi fr to lim f1 f2 dis pin ag en cm mc su isu fir lgt ofs rn wsn) := hD
  refine lv_aload_n hx hb dX3_waitingAt_5 rfl (lv_at hl 0 rfl) ?_
  refine lv_iconst (v := 0) hx hb dX3_waitingAt_6 (by decide) ?_
  refine kcW_v (n := 1) (wc := wM cy m0 m1 m2 m3 m4 m5 m6 m7 m8 m9 m10 m11 m12 m13 m14 m15 m16 m17 0 td sed mi fr to lim f1 f2 dis pin ag en cm mc su isu fir lgt ofs rn wsn) (As := [.int 0]) (rest := []) ⟨hx, hb, hml, hown, hts⟩ hE hA hP hD hS (c_X3_sees l D cy m0 m1 m2 m3 m4 m5 m6 m7 m8 m9 m10 m11 m12 m13 m14 m15 m16 m17 0 td sed mi fr to lim f1 f2 dis pin ag en cm mc su isu fir lgt ofs rn wsn 0 (Or.inl rfl)) (fun _ => Eq.trans (b := [m0, m1, m2, m3, m4, m5, m6, m7, m8, m9, m10, m11, m12, m13, m14, m15, m16, m17]) rfl rfl) (q0 := 0) (ci := 3) rfl rfl gX3_waitingAt_X3_sees rfl rfl rfl ⟨rfl, by decide, by decide, by decide +kernel⟩ ⟨Nat.le_of_ble_eq_true rfl, Nat.le_of_ble_eq_true rfl⟩ rfl hl.1 rfl (Nat.le_of_ble_eq_true rfl) dX3_waitingAt_7 ⟨Nat.zero_le _, Nat.zero_le _⟩ (fun u H locs e_2 hP hD hS => ?_)
  have hP : va_P D vwCl (wM cy m0 m1 m2 m3 m4 m5 m6 m7 m8 m9 m10 m11 m12 m13 m14 m15 m16 m17 0 td sed mi fr to lim f1 f2 dis pin ag en cm mc su isu fir lgt ofs rn (seeN wsn 0 60)) H := hP
  have hD : va_D A (wM cy m0 m1 m2 m3 m4 m5 m6 m7 m8 m9 m10 m11 m12 m13 m14 m15 m16 m17 0 td sed mi fr to lim f1 f2 dis pin ag en cm mc su isu fir lgt ofs rn (seeN wsn 0 60)) := hD
  refine lv_iload_n hx hb dX3_waitingAt_10 rfl (lv_at hl 1 rfl) ?_
  refine lv_if_ge (tgt := 18) hx hb dX3_waitingAt_11 (by decide) (fun c_11 => ?_) (fun c_11 => absurd (i32_nlt.mp hp) c_11)
  refine lv_aload_n hx hb dX3_waitingAt_18 rfl (lv_at hl 0 rfl) ?_
  refine lv_aload_n hx hb dX3_waitingAt_19 rfl (lv_at hl 0 rfl) ?_
  refine va_get (D := D) (ci := 3) (v := .int (nI mc)) (C := RX3) (T := TX3) (N := 22) hx hb hts g_X3 hown hE.1 hP 0 rfl rfl 14 (by decide) f_76 (fun _ h9 => h9) rfl dX3_waitingAt_20 ?_
  refine kcW_i (n := 1) (wc := wM cy m0 m1 m2 m3 m4 m5 m6 m7 m8 m9 m10 m11 m12 m13 m14 m15 m16 m17 0 td sed mi fr to lim f1 f2 dis pin ag en cm mc su isu fir lgt ofs rn (seeN wsn 0 60)) (As := [.int (nI mc)]) (rest := []) ⟨hx, hb, hml, hown, hts⟩ hE hA hP hD hS (c_X3_nextWaiting l D cy m0 m1 m2 m3 m4 m5 m6 m7 m8 m9 m10 m11 m12 m13 m14 m15 m16 m17 0 td sed mi fr to lim f1 f2 dis pin ag en cm mc su isu fir lgt ofs rn (seeN wsn 0 60) mc hc) (fun _ => rfl) (q0 := 0) (ci := 3) rfl rfl gX3_waitingAt_X3_nextWaiting rfl rfl rfl ⟨rfl, by decide, by decide, by decide +kernel⟩ ⟨Nat.le_of_ble_eq_true rfl, Nat.le_of_ble_eq_true rfl⟩ rfl hl.1 rfl (Nat.le_of_ble_eq_true rfl) dX3_waitingAt_23 ⟨Nat.zero_le _, Nat.zero_le _⟩ (fun r_3 u H locs e_4 hP hD hS => ?_)
  have hP : va_P D vwCl (wM cy m0 m1 m2 m3 m4 m5 m6 m7 m8 m9 m10 m11 m12 m13 m14 m15 m16 m17 0 td sed mi fr to lim f1 f2 dis pin ag en cm mc su isu fir lgt ofs rn (seeN wsn 0 60)) H := hP
  have hD : va_D A (wM cy m0 m1 m2 m3 m4 m5 m6 m7 m8 m9 m10 m11 m12 m13 m14 m15 m16 m17 0 td sed mi fr to lim f1 f2 dis pin ag en cm mc su isu fir lgt ofs rn (seeN wsn 0 60)) := hD
  have e_4 : r_3 = nwN fir lgt ofs rn td (seeN wsn 0 60) mc := e_4
  subst e_4
  refine lv_istore_n (lv' := [(2, .int (nwN fir lgt ofs rn td (seeN wsn 0 60) mc)), (0, .ref m0), (1, .int p_)]) hx hb dX3_waitingAt_26 rfl hl (by decide) rfl (fun ls hl => ?_)
  refine lv_iconst (v := 0) hx hb dX3_waitingAt_27 (by decide) ?_
  refine lv_istore_n (lv' := [(3, .int 0), (2, .int (nwN fir lgt ofs rn td (seeN wsn 0 60) mc)), (0, .ref m0), (1, .int p_)]) hx hb dX3_waitingAt_28 rfl hl (by decide) rfl (fun ls hl => ?_)
  have L_29 : ∀ (f : Nat) (k : Nat) (g : Int32) (w_ : Nat → Int32) (H : Heap) (locs : List Loc) (ls : Array Slot), ((ix p_ - k) < f) → (k ≤ ix p_) → ((w_, g) = waN fir lgt ofs rn td mc (seeN wsn 0 60) k) → va_P D vwCl (wM cy m0 m1 m2 m3 m4 m5 m6 m7 m8 m9 m10 m11 m12 m13 m14 m15 m16 m17 0 td sed mi fr to lim f1 f2 dis pin ag en cm mc su isu fir lgt ofs rn w_) H → va_D A (wM cy m0 m1 m2 m3 m4 m5 m6 m7 m8 m9 m10 m11 m12 m13 m14 m15 m16 m17 0 td sed mi fr to lim f1 f2 dis pin ag en cm mc su isu fir lgt ofs rn w_) → va_S A s.heap H locs → lv_has ls 4 [(3, .int (nI k)), (2, .int g), (0, .ref m0), (1, .int p_)] → W p l e (krm 3 65) s m args below meth c H locs 0 0 Q (F0 m 29 ls []) := by
    intro f
    induction f with
    | zero => intro k g w_ H locs ls hf; exact absurd hf (Nat.not_lt_zero _)
    | succ f ih_29 =>
      intro k g w_ H locs ls hf hk eW hP hD hS hl
      refine lv_iload_n hx hb dX3_waitingAt_29 rfl (lv_at hl 0 rfl) ?_
      refine lv_iload_n hx hb dX3_waitingAt_30 rfl (lv_at hl 3 rfl) ?_
      refine k_top (z := nI (ix p_)) (k_ix hp) ?_
      refine lv_icmp_ge (tgt := 61) hx hb dX3_waitingAt_31 (by decide) (fun c_31 => ?_) (fun c_31 => ?_)
      · have c_31n : (ix p_) ≤ k := k_leN (a := (ix p_)) (b := k) (by omega) (by omega) c_31
        have hW9 : (waN fir lgt ofs rn td mc (seeN wsn 0 60) (ix p_)).2 = g := by
          by_cases e8 : k = ix p_
          · rw [← e8, ← eW]
          · have e7 : g = -1 := by first | assumption | (exfalso; omega)
            have e5 := waN_stop (k := k) (show (waN fir lgt ofs rn td mc (seeN wsn 0 60) k).2 = -1 by rw [← eW]; exact e7) (ix p_ - k)
            rw [show k + (ix p_ - k) = ix p_ by omega] at e5
            rw [e5, ← eW]
        refine lv_iload_n hx hb dX3_waitingAt_61 rfl (lv_at hl 1 rfl) ?_
        refine lv_iconst (v := (-1)) hx hb dX3_waitingAt_62 (by decide) ?_
        refine lv_icmp_ne (tgt := 74) hx hb dX3_waitingAt_63 (by decide) (fun c_63 => ?_) (fun c_63 => ?_)
        · refine lv_iload_n hx hb dX3_waitingAt_74 rfl (lv_at hl 1 rfl) ?_
          exact hret _ _ _ _ g w_ dX3_waitingAt_75 (Or.inl rfl) hW9.symm hP hS
        · refine lv_aload_n hx hb dX3_waitingAt_66 rfl (lv_at hl 2 rfl) ?_
          refine lv_iconst (v := 1) hx hb dX3_waitingAt_67 (by decide) ?_
          refine kcW_i (n := 1) (wc := wM cy m0 m1 m2 m3 m4 m5 m6 m7 m8 m9 m10 m11 m12 m13 m14 m15 m16 m17 0 td sed mi fr to lim f1 f2 dis pin ag en cm mc su isu fir lgt ofs rn w_) (As := [.int 1]) (rest := []) ⟨hx, hb, hml, hown, hts⟩ hE hA hP hD hS (c_X3_fails l D cy m0 m1 m2 m3 m4 m5 m6 m7 m8 m9 m10 m11 m12 m13 m14 m15 m16 m17 0 td sed mi fr to lim f1 f2 dis pin ag en cm mc su isu fir lgt ofs rn w_ 1) (fun _ => Eq.trans (b := [m0, m1, m2, m3, m4, m5, m6, m7, m8, m9, m10, m11, m12, m13, m14, m15, m16, m17]) rfl rfl) (q0 := 0) (ci := 3) rfl rfl gX3_waitingAt_X3_fails rfl rfl rfl ⟨rfl, by decide, by decide, by decide +kernel⟩ ⟨Nat.le_of_ble_eq_true rfl, Nat.le_of_ble_eq_true rfl⟩ rfl hl.1 rfl (Nat.le_of_ble_eq_true rfl) dX3_waitingAt_68 ⟨Nat.zero_le _, Nat.zero_le _⟩ (fun r_5 u H locs e_6 hP hD hS => ?_)
          have hP : va_P D vwCl (wM cy m0 m1 m2 m3 m4 m5 m6 m7 m8 m9 m10 m11 m12 m13 m14 m15 m16 m17 1 td sed mi fr to lim f1 f2 dis pin ag en cm mc su isu fir lgt ofs rn w_) H := hP
          have hD : va_D A (wM cy m0 m1 m2 m3 m4 m5 m6 m7 m8 m9 m10 m11 m12 m13 m14 m15 m16 m17 1 td sed mi fr to lim f1 f2 dis pin ag en cm mc su isu fir lgt ofs rn w_) := hD
          have e_6 : r_5 = 0 := e_6
          subst e_6
          refine lv_goto (tgt := 75) hx hb dX3_waitingAt_71 (by decide) ?_
          exact absurd hcd (by simp [cdWa, c_11, c_31, c_63, hp, hW9])
      · have c_31n : ¬ (ix p_) ≤ k := k_nleN (a := (ix p_)) (b := k) (by omega) (by omega) c_31
        refine lv_iload_n hx hb dX3_waitingAt_34 rfl (lv_at hl 1 rfl) ?_
        refine lv_iconst (v := (-1)) hx hb dX3_waitingAt_35 (by decide) ?_
        refine lv_icmp_eq (tgt := 61) hx hb dX3_waitingAt_36 (by decide) (fun c_36 => ?_) (fun c_36 => ?_)
        · have hW9 : (waN fir lgt ofs rn td mc (seeN wsn 0 60) (ix p_)).2 = g := by
            by_cases e8 : k = ix p_
            · rw [← e8, ← eW]
            · have e7 : g = -1 := by first | assumption | (exfalso; omega)
              have e5 := waN_stop (k := k) (show (waN fir lgt ofs rn td mc (seeN wsn 0 60) k).2 = -1 by rw [← eW]; exact e7) (ix p_ - k)
              rw [show k + (ix p_ - k) = ix p_ by omega] at e5
              rw [e5, ← eW]
          refine lv_iload_n hx hb dX3_waitingAt_61 rfl (lv_at hl 1 rfl) ?_
          refine lv_iconst (v := (-1)) hx hb dX3_waitingAt_62 (by decide) ?_
          refine lv_icmp_ne (tgt := 74) hx hb dX3_waitingAt_63 (by decide) (fun c_63 => absurd c_36 c_63) (fun c_63 => ?_)
          refine lv_aload_n hx hb dX3_waitingAt_66 rfl (lv_at hl 2 rfl) ?_
          refine lv_iconst (v := 1) hx hb dX3_waitingAt_67 (by decide) ?_
          refine kcW_i (n := 1) (wc := wM cy m0 m1 m2 m3 m4 m5 m6 m7 m8 m9 m10 m11 m12 m13 m14 m15 m16 m17 0 td sed mi fr to lim f1 f2 dis pin ag en cm mc su isu fir lgt ofs rn w_) (As := [.int 1]) (rest := []) ⟨hx, hb, hml, hown, hts⟩ hE hA hP hD hS (c_X3_fails l D cy m0 m1 m2 m3 m4 m5 m6 m7 m8 m9 m10 m11 m12 m13 m14 m15 m16 m17 0 td sed mi fr to lim f1 f2 dis pin ag en cm mc su isu fir lgt ofs rn w_ 1) (fun _ => Eq.trans (b := [m0, m1, m2, m3, m4, m5, m6, m7, m8, m9, m10, m11, m12, m13, m14, m15, m16, m17]) rfl rfl) (q0 := 0) (ci := 3) rfl rfl gX3_waitingAt_X3_fails rfl rfl rfl ⟨rfl, by decide, by decide, by decide +kernel⟩ ⟨Nat.le_of_ble_eq_true rfl, Nat.le_of_ble_eq_true rfl⟩ rfl hl.1 rfl (Nat.le_of_ble_eq_true rfl) dX3_waitingAt_68 ⟨Nat.zero_le _, Nat.zero_le _⟩ (fun r_7 u H locs e_8 hP hD hS => ?_)
          have hP : va_P D vwCl (wM cy m0 m1 m2 m3 m4 m5 m6 m7 m8 m9 m10 m11 m12 m13 m14 m15 m16 m17 1 td sed mi fr to lim f1 f2 dis pin ag en cm mc su isu fir lgt ofs rn w_) H := hP
          have hD : va_D A (wM cy m0 m1 m2 m3 m4 m5 m6 m7 m8 m9 m10 m11 m12 m13 m14 m15 m16 m17 1 td sed mi fr to lim f1 f2 dis pin ag en cm mc su isu fir lgt ofs rn w_) := hD
          have e_8 : r_7 = 0 := e_8
          subst e_8
          refine lv_goto (tgt := 75) hx hb dX3_waitingAt_71 (by decide) ?_
          exact absurd hcd (by simp [cdWa, c_11, c_31, c_36, c_63, hp, hW9])
        · obtain ⟨q1, q2⟩ := (show sgP (fun _ => g) mc by have h7 := waN_ok fir lgt ofs rn td mc (seeN wsn 0 60) (by omega) k; rw [← eW] at h7; exact h7).resolve_left c_36
          have q1 : g = nI (ix g) := q1
          have q2 : ix g < mc := q2
          refine lv_aload_n hx hb dX3_waitingAt_39 rfl (lv_at hl 2 rfl) ?_
          refine va_get (D := D) (ci := 3) (v := .ref m17) (C := RX3) (T := TX3) (N := 22) hx hb hts g_X3 hown hE.1 hP 0 rfl rfl 21 (by decide) f_63 (fun _ h9 => h9) rfl dX3_waitingAt_40 ?_
          refine lv_iload_n hx hb dX3_waitingAt_43 rfl (lv_at hl 1 rfl) ?_
          refine k_top (z := nI (ix g)) q1 ?_
          refine lv_iconst (v := 1) hx hb dX3_waitingAt_44 (by decide) ?_
          refine k_zst hx hb hE.1 hP hD hS 17 1 rfl rfl (j := (ix g)) (Or.inr rfl) (by omega) (by decide) dX3_waitingAt_45 (fun H locs hP hD hS => ?_)
          have hP : va_P D vwCl (wM cy m0 m1 m2 m3 m4 m5 m6 m7 m8 m9 m10 m11 m12 m13 m14 m15 m16 m17 0 td sed mi fr to lim f1 f2 dis pin ag en cm mc su isu fir lgt ofs rn (upd w_ (ix g) 1)) H := hP
          have hD : va_D A (wM cy m0 m1 m2 m3 m4 m5 m6 m7 m8 m9 m10 m11 m12 m13 m14 m15 m16 m17 0 td sed mi fr to lim f1 f2 dis pin ag en cm mc su isu fir lgt ofs rn (upd w_ (ix g) 1)) := hD
          refine lv_aload_n hx hb dX3_waitingAt_46 rfl (lv_at hl 2 rfl) ?_
          refine lv_aload_n hx hb dX3_waitingAt_47 rfl (lv_at hl 2 rfl) ?_
          refine va_get (D := D) (ci := 3) (v := .int (nI mc)) (C := RX3) (T := TX3) (N := 22) hx hb hts g_X3 hown hE.1 hP 0 rfl rfl 14 (by decide) f_76 (fun _ h9 => h9) rfl dX3_waitingAt_48 ?_
          refine kcW_i (n := 1) (wc := wM cy m0 m1 m2 m3 m4 m5 m6 m7 m8 m9 m10 m11 m12 m13 m14 m15 m16 m17 0 td sed mi fr to lim f1 f2 dis pin ag en cm mc su isu fir lgt ofs rn (upd w_ (ix g) 1)) (As := [.int (nI mc)]) (rest := []) ⟨hx, hb, hml, hown, hts⟩ hE hA hP hD hS (c_X3_nextWaiting l D cy m0 m1 m2 m3 m4 m5 m6 m7 m8 m9 m10 m11 m12 m13 m14 m15 m16 m17 0 td sed mi fr to lim f1 f2 dis pin ag en cm mc su isu fir lgt ofs rn (upd w_ (ix g) 1) mc hc) (fun _ => rfl) (q0 := 0) (ci := 3) rfl rfl gX3_waitingAt_X3_nextWaiting rfl rfl rfl ⟨rfl, by decide, by decide, by decide +kernel⟩ ⟨Nat.le_of_ble_eq_true rfl, Nat.le_of_ble_eq_true rfl⟩ rfl hl.1 rfl (Nat.le_of_ble_eq_true rfl) dX3_waitingAt_51 ⟨Nat.zero_le _, Nat.zero_le _⟩ (fun r_9 u H locs e_10 hP hD hS => ?_)
          have hP : va_P D vwCl (wM cy m0 m1 m2 m3 m4 m5 m6 m7 m8 m9 m10 m11 m12 m13 m14 m15 m16 m17 0 td sed mi fr to lim f1 f2 dis pin ag en cm mc su isu fir lgt ofs rn (upd w_ (ix g) 1)) H := hP
          have hD : va_D A (wM cy m0 m1 m2 m3 m4 m5 m6 m7 m8 m9 m10 m11 m12 m13 m14 m15 m16 m17 0 td sed mi fr to lim f1 f2 dis pin ag en cm mc su isu fir lgt ofs rn (upd w_ (ix g) 1)) := hD
          have e_10 : r_9 = nwN fir lgt ofs rn td (upd w_ (ix g) 1) mc := e_10
          subst e_10
          refine lv_istore_n (lv' := [(2, .int (nwN fir lgt ofs rn td (upd w_ (ix g) 1) mc)), (3, .int (nI k)), (0, .ref m0), (1, .int p_)]) hx hb dX3_waitingAt_54 rfl hl (by decide) rfl (fun ls hl => ?_)
          refine lv_iinc (v := (nI (k + 1))) (lv' := [(3, .int (nI (k + 1))), (2, .int (nwN fir lgt ofs rn td (upd w_ (ix g) 1) mc)), (0, .ref m0), (1, .int p_)]) hx hb dX3_waitingAt_55 hl (k := 1) rfl (k_inc _) (by decide) rfl (fun ls hl => ?_)
          refine lv_goto (tgt := 29) hx hb dX3_waitingAt_58 (by decide) ?_
          exact ih_29 (k + 1) (nwN fir lgt ofs rn td (upd w_ (ix g) 1) mc) (upd w_ (ix g) 1) _ _ ls (by omega) (by omega) (by rw [waN, ← eW]; exact (if_neg c_36).symm) hP hD hS (lv_sub hl [0, 1, 2, 3] rfl)
  exact L_29 ((ix p_ - 0) + 1) 0 (nwN fir lgt ofs rn td (seeN wsn 0 60) mc) (seeN wsn 0 60) _ _ ls (Nat.lt_succ_self _) (by omega) rfl hP hD hS (lv_sub hl [0, 1, 2, 3] rfl)

set_option maxHeartbeats 4000000 in
set_option maxRecDepth 100000 in
theorem c_X3_waitingAt_f (l : Launch) (D : va_G) (cy : ClassId × ClassId × ClassId) (m0 m1 m2 m3 m4 m5 m6 m7 m8 m9 m10 m11 m12 m13 m14 m15 m16 m17 : Nat) (th td sed : Int32) (mi : Nat) (fr to lim f1 f2 dis pin ag en cm : Nat → Int32) (mc : Nat) (su isu fir lgt ofs rn wsn : Nat → Int32) (p_ : Int32) (hc : mc ≤ 60) (hp : ¬ p_ < 0) (hcd : ¬ cdWa fir lgt ofs rn td mc (seeN wsn 0 60) p_ = 0) : kI l D cy yX3_waitingAt wsX3_waitingAt (krm 3 65) [.ref m0, .int p_] (wM cy m0 m1 m2 m3 m4 m5 m6 m7 m8 m9 m10 m11 m12 m13 m14 m15 m16 m17 th td sed mi fr to lim f1 f2 dis pin ag en cm mc su isu fir lgt ofs rn wsn) (fun (r : Int32) (u : (Nat → Int32)) => True) (fun u : (Nat → Int32) => wM cy m0 m1 m2 m3 m4 m5 m6 m7 m8 m9 m10 m11 m12 m13 m14 m15 m16 m17 (cdWa fir lgt ofs rn td mc (seeN wsn 0 60) p_) td sed mi fr to lim f1 f2 dis pin ag en cm mc su isu fir lgt ofs rn u) := by
  refine kI.of (cc := cX3_waitingAt) (maxL := 4) (rt := .int) (Or.inl rfl) (by decide) rfl (Nat.le_of_ble_eq_true rfl) ?_
  intro p e s m args below meth c Q A ls hx hb hml hown hts hE hA hP hD hl hret
  have hS : va_S A s.heap s.heap [] := va_S.rf
  have hl : lv_has ls 4 [(0, .ref m0), (1, .int p_)] := hl
  have g_X3 : ∀ w ∈ wsX30, w ∈ wsX3_waitingAt := by decide +kernel
  have f_66 := hts (.fieldLink RX3 66 "CertHerdModel" "thrown" "I") (by decide +kernel)
  have f_76 := hts (.fieldLink RX3 76 "CertHerdModel" "certMany" "I") (by decide +kernel)
  have f_63 := hts (.fieldLink RX3 63 "CertHerdModel" "wasSeen" "[Z") (by decide +kernel)
  have hpl := ix_lt hp
  refine lv_aload_n hx hb dX3_waitingAt_0 rfl (lv_at hl 0 rfl) ?_
  refine lv_iconst (v := 0) hx hb dX3_waitingAt_1 (by decide) ?_
  refine va_put (D := D) (ci := 3) (v := .int 0) (ty := .int) (C := RX3) (T := TX3) (N := 22) hx hb hts g_X3 tyX3 tyX3_ok nmX3 hown hE.1 hP hD hS 0 rfl rfl 0 (by decide) f_66 (fun _ h9 => h9) rfl (by decide +kernel) rfl rfl (Nat.le_of_ble_eq_true rfl) dX3_waitingAt_2 (fun H locs hP hD hS => ?_)
  have hP : va_P D vwCl (wM cy m0 m1 m2 m3 m4 m5 m6 m7 m8 m9 m10 m11 m12 m13 m14 m15 m16 m17 0 td sed mi fr to lim f1 f2 dis pin ag en cm mc su isu fir lgt ofs rn wsn) H := hP
  have hD : va_D A (wM cy m0 m1 m2 m3 m4 m5 m6 m7 m8 m9 m10 m11 m12 m13 m14 m15 m16 m17 0 td sed mi fr to lim f1 f2 dis pin ag en cm mc su isu fir lgt ofs rn wsn) := hD
  refine lv_aload_n hx hb dX3_waitingAt_5 rfl (lv_at hl 0 rfl) ?_
  refine lv_iconst (v := 0) hx hb dX3_waitingAt_6 (by decide) ?_
  refine kcW_v (n := 1) (wc := wM cy m0 m1 m2 m3 m4 m5 m6 m7 m8 m9 m10 m11 m12 m13 m14 m15 m16 m17 0 td sed mi fr to lim f1 f2 dis pin ag en cm mc su isu fir lgt ofs rn wsn) (As := [.int 0]) (rest := []) ⟨hx, hb, hml, hown, hts⟩ hE hA hP hD hS (c_X3_sees l D cy m0 m1 m2 m3 m4 m5 m6 m7 m8 m9 m10 m11 m12 m13 m14 m15 m16 m17 0 td sed mi fr to lim f1 f2 dis pin ag en cm mc su isu fir lgt ofs rn wsn 0 (Or.inl rfl)) (fun _ => Eq.trans (b := [m0, m1, m2, m3, m4, m5, m6, m7, m8, m9, m10, m11, m12, m13, m14, m15, m16, m17]) rfl rfl) (q0 := 0) (ci := 3) rfl rfl gX3_waitingAt_X3_sees rfl rfl rfl ⟨rfl, by decide, by decide, by decide +kernel⟩ ⟨Nat.le_of_ble_eq_true rfl, Nat.le_of_ble_eq_true rfl⟩ rfl hl.1 rfl (Nat.le_of_ble_eq_true rfl) dX3_waitingAt_7 ⟨Nat.zero_le _, Nat.zero_le _⟩ (fun u H locs e_2 hP hD hS => ?_)
  have hP : va_P D vwCl (wM cy m0 m1 m2 m3 m4 m5 m6 m7 m8 m9 m10 m11 m12 m13 m14 m15 m16 m17 0 td sed mi fr to lim f1 f2 dis pin ag en cm mc su isu fir lgt ofs rn (seeN wsn 0 60)) H := hP
  have hD : va_D A (wM cy m0 m1 m2 m3 m4 m5 m6 m7 m8 m9 m10 m11 m12 m13 m14 m15 m16 m17 0 td sed mi fr to lim f1 f2 dis pin ag en cm mc su isu fir lgt ofs rn (seeN wsn 0 60)) := hD
  refine lv_iload_n hx hb dX3_waitingAt_10 rfl (lv_at hl 1 rfl) ?_
  refine lv_if_ge (tgt := 18) hx hb dX3_waitingAt_11 (by decide) (fun c_11 => ?_) (fun c_11 => absurd (i32_nlt.mp hp) c_11)
  refine lv_aload_n hx hb dX3_waitingAt_18 rfl (lv_at hl 0 rfl) ?_
  refine lv_aload_n hx hb dX3_waitingAt_19 rfl (lv_at hl 0 rfl) ?_
  refine va_get (D := D) (ci := 3) (v := .int (nI mc)) (C := RX3) (T := TX3) (N := 22) hx hb hts g_X3 hown hE.1 hP 0 rfl rfl 14 (by decide) f_76 (fun _ h9 => h9) rfl dX3_waitingAt_20 ?_
  refine kcW_i (n := 1) (wc := wM cy m0 m1 m2 m3 m4 m5 m6 m7 m8 m9 m10 m11 m12 m13 m14 m15 m16 m17 0 td sed mi fr to lim f1 f2 dis pin ag en cm mc su isu fir lgt ofs rn (seeN wsn 0 60)) (As := [.int (nI mc)]) (rest := []) ⟨hx, hb, hml, hown, hts⟩ hE hA hP hD hS (c_X3_nextWaiting l D cy m0 m1 m2 m3 m4 m5 m6 m7 m8 m9 m10 m11 m12 m13 m14 m15 m16 m17 0 td sed mi fr to lim f1 f2 dis pin ag en cm mc su isu fir lgt ofs rn (seeN wsn 0 60) mc hc) (fun _ => rfl) (q0 := 0) (ci := 3) rfl rfl gX3_waitingAt_X3_nextWaiting rfl rfl rfl ⟨rfl, by decide, by decide, by decide +kernel⟩ ⟨Nat.le_of_ble_eq_true rfl, Nat.le_of_ble_eq_true rfl⟩ rfl hl.1 rfl (Nat.le_of_ble_eq_true rfl) dX3_waitingAt_23 ⟨Nat.zero_le _, Nat.zero_le _⟩ (fun r_3 u H locs e_4 hP hD hS => ?_)
  have hP : va_P D vwCl (wM cy m0 m1 m2 m3 m4 m5 m6 m7 m8 m9 m10 m11 m12 m13 m14 m15 m16 m17 0 td sed mi fr to lim f1 f2 dis pin ag en cm mc su isu fir lgt ofs rn (seeN wsn 0 60)) H := hP
  have hD : va_D A (wM cy m0 m1 m2 m3 m4 m5 m6 m7 m8 m9 m10 m11 m12 m13 m14 m15 m16 m17 0 td sed mi fr to lim f1 f2 dis pin ag en cm mc su isu fir lgt ofs rn (seeN wsn 0 60)) := hD
  have e_4 : r_3 = nwN fir lgt ofs rn td (seeN wsn 0 60) mc := e_4
  subst e_4
  refine lv_istore_n (lv' := [(2, .int (nwN fir lgt ofs rn td (seeN wsn 0 60) mc)), (0, .ref m0), (1, .int p_)]) hx hb dX3_waitingAt_26 rfl hl (by decide) rfl (fun ls hl => ?_)
  refine lv_iconst (v := 0) hx hb dX3_waitingAt_27 (by decide) ?_
  refine lv_istore_n (lv' := [(3, .int 0), (2, .int (nwN fir lgt ofs rn td (seeN wsn 0 60) mc)), (0, .ref m0), (1, .int p_)]) hx hb dX3_waitingAt_28 rfl hl (by decide) rfl (fun ls hl => ?_)
  have L_29 : ∀ (f : Nat) (k : Nat) (g : Int32) (w_ : Nat → Int32) (H : Heap) (locs : List Loc) (ls : Array Slot), ((ix p_ - k) < f) → (k ≤ ix p_) → ((w_, g) = waN fir lgt ofs rn td mc (seeN wsn 0 60) k) → va_P D vwCl (wM cy m0 m1 m2 m3 m4 m5 m6 m7 m8 m9 m10 m11 m12 m13 m14 m15 m16 m17 0 td sed mi fr to lim f1 f2 dis pin ag en cm mc su isu fir lgt ofs rn w_) H → va_D A (wM cy m0 m1 m2 m3 m4 m5 m6 m7 m8 m9 m10 m11 m12 m13 m14 m15 m16 m17 0 td sed mi fr to lim f1 f2 dis pin ag en cm mc su isu fir lgt ofs rn w_) → va_S A s.heap H locs → lv_has ls 4 [(3, .int (nI k)), (2, .int g), (0, .ref m0), (1, .int p_)] → W p l e (krm 3 65) s m args below meth c H locs 0 0 Q (F0 m 29 ls []) := by
    intro f
    induction f with
    | zero => intro k g w_ H locs ls hf; exact absurd hf (Nat.not_lt_zero _)
    | succ f ih_29 =>
      intro k g w_ H locs ls hf hk eW hP hD hS hl
      refine lv_iload_n hx hb dX3_waitingAt_29 rfl (lv_at hl 0 rfl) ?_
      refine lv_iload_n hx hb dX3_waitingAt_30 rfl (lv_at hl 3 rfl) ?_
      refine k_top (z := nI (ix p_)) (k_ix hp) ?_
      refine lv_icmp_ge (tgt := 61) hx hb dX3_waitingAt_31 (by decide) (fun c_31 => ?_) (fun c_31 => ?_)
      · have c_31n : (ix p_) ≤ k := k_leN (a := (ix p_)) (b := k) (by omega) (by omega) c_31
        have hW9 : (waN fir lgt ofs rn td mc (seeN wsn 0 60) (ix p_)).2 = g := by
          by_cases e8 : k = ix p_
          · rw [← e8, ← eW]
          · have e7 : g = -1 := by first | assumption | (exfalso; omega)
            have e5 := waN_stop (k := k) (show (waN fir lgt ofs rn td mc (seeN wsn 0 60) k).2 = -1 by rw [← eW]; exact e7) (ix p_ - k)
            rw [show k + (ix p_ - k) = ix p_ by omega] at e5
            rw [e5, ← eW]
        refine lv_iload_n hx hb dX3_waitingAt_61 rfl (lv_at hl 1 rfl) ?_
        refine lv_iconst (v := (-1)) hx hb dX3_waitingAt_62 (by decide) ?_
        refine lv_icmp_ne (tgt := 74) hx hb dX3_waitingAt_63 (by decide) (fun c_63 => ?_) (fun c_63 => ?_)
        · refine lv_iload_n hx hb dX3_waitingAt_74 rfl (lv_at hl 1 rfl) ?_
          exact absurd (by simp [cdWa, c_11, c_31, c_63, hp, hW9]) hcd
        · refine lv_aload_n hx hb dX3_waitingAt_66 rfl (lv_at hl 2 rfl) ?_
          refine lv_iconst (v := 1) hx hb dX3_waitingAt_67 (by decide) ?_
          refine kcW_i (n := 1) (wc := wM cy m0 m1 m2 m3 m4 m5 m6 m7 m8 m9 m10 m11 m12 m13 m14 m15 m16 m17 0 td sed mi fr to lim f1 f2 dis pin ag en cm mc su isu fir lgt ofs rn w_) (As := [.int 1]) (rest := []) ⟨hx, hb, hml, hown, hts⟩ hE hA hP hD hS (c_X3_fails l D cy m0 m1 m2 m3 m4 m5 m6 m7 m8 m9 m10 m11 m12 m13 m14 m15 m16 m17 0 td sed mi fr to lim f1 f2 dis pin ag en cm mc su isu fir lgt ofs rn w_ 1) (fun _ => Eq.trans (b := [m0, m1, m2, m3, m4, m5, m6, m7, m8, m9, m10, m11, m12, m13, m14, m15, m16, m17]) rfl rfl) (q0 := 0) (ci := 3) rfl rfl gX3_waitingAt_X3_fails rfl rfl rfl ⟨rfl, by decide, by decide, by decide +kernel⟩ ⟨Nat.le_of_ble_eq_true rfl, Nat.le_of_ble_eq_true rfl⟩ rfl hl.1 rfl (Nat.le_of_ble_eq_true rfl) dX3_waitingAt_68 ⟨Nat.zero_le _, Nat.zero_le _⟩ (fun r_5 u H locs e_6 hP hD hS => ?_)
          have hP : va_P D vwCl (wM cy m0 m1 m2 m3 m4 m5 m6 m7 m8 m9 m10 m11 m12 m13 m14 m15 m16 m17 1 td sed mi fr to lim f1 f2 dis pin ag en cm mc su isu fir lgt ofs rn w_) H := hP
          have hD : va_D A (wM cy m0 m1 m2 m3 m4 m5 m6 m7 m8 m9 m10 m11 m12 m13 m14 m15 m16 m17 1 td sed mi fr to lim f1 f2 dis pin ag en cm mc su isu fir lgt ofs rn w_) := hD
          have e_6 : r_5 = 0 := e_6
          subst e_6
          refine lv_goto (tgt := 75) hx hb dX3_waitingAt_71 (by decide) ?_
          have w_th : 1 = cdWa fir lgt ofs rn td mc (seeN wsn 0 60) p_ := (by rw [cdWa, if_neg hp, hW9]; simp [c_11, c_31, c_63, hp, hW9])
          exact hret _ _ _ _ 0 w_ dX3_waitingAt_75 (Or.inl rfl) trivial (by show va_P D vwCl (wM cy m0 m1 m2 m3 m4 m5 m6 m7 m8 m9 m10 m11 m12 m13 m14 m15 m16 m17 (cdWa fir lgt ofs rn td mc (seeN wsn 0 60) p_) td sed mi fr to lim f1 f2 dis pin ag en cm mc su isu fir lgt ofs rn w_) _; rw [← w_th]; exact hP) hS
      · have c_31n : ¬ (ix p_) ≤ k := k_nleN (a := (ix p_)) (b := k) (by omega) (by omega) c_31
        refine lv_iload_n hx hb dX3_waitingAt_34 rfl (lv_at hl 1 rfl) ?_
        refine lv_iconst (v := (-1)) hx hb dX3_waitingAt_35 (by decide) ?_
        refine lv_icmp_eq (tgt := 61) hx hb dX3_waitingAt_36 (by decide) (fun c_36 => ?_) (fun c_36 => ?_)
        · have hW9 : (waN fir lgt ofs rn td mc (seeN wsn 0 60) (ix p_)).2 = g := by
            by_cases e8 : k = ix p_
            · rw [← e8, ← eW]
            · have e7 : g = -1 := by first | assumption | (exfalso; omega)
              have e5 := waN_stop (k := k) (show (waN fir lgt ofs rn td mc (seeN wsn 0 60) k).2 = -1 by rw [← eW]; exact e7) (ix p_ - k)
              rw [show k + (ix p_ - k) = ix p_ by omega] at e5
              rw [e5, ← eW]
          refine lv_iload_n hx hb dX3_waitingAt_61 rfl (lv_at hl 1 rfl) ?_
          refine lv_iconst (v := (-1)) hx hb dX3_waitingAt_62 (by decide) ?_
          refine lv_icmp_ne (tgt := 74) hx hb dX3_waitingAt_63 (by decide) (fun c_63 => absurd c_36 c_63) (fun c_63 => ?_)
          refine lv_aload_n hx hb dX3_waitingAt_66 rfl (lv_at hl 2 rfl) ?_
          refine lv_iconst (v := 1) hx hb dX3_waitingAt_67 (by decide) ?_
          refine kcW_i (n := 1) (wc := wM cy m0 m1 m2 m3 m4 m5 m6 m7 m8 m9 m10 m11 m12 m13 m14 m15 m16 m17 0 td sed mi fr to lim f1 f2 dis pin ag en cm mc su isu fir lgt ofs rn w_) (As := [.int 1]) (rest := []) ⟨hx, hb, hml, hown, hts⟩ hE hA hP hD hS (c_X3_fails l D cy m0 m1 m2 m3 m4 m5 m6 m7 m8 m9 m10 m11 m12 m13 m14 m15 m16 m17 0 td sed mi fr to lim f1 f2 dis pin ag en cm mc su isu fir lgt ofs rn w_ 1) (fun _ => Eq.trans (b := [m0, m1, m2, m3, m4, m5, m6, m7, m8, m9, m10, m11, m12, m13, m14, m15, m16, m17]) rfl rfl) (q0 := 0) (ci := 3) rfl rfl gX3_waitingAt_X3_fails rfl rfl rfl ⟨rfl, by decide, by decide, by decide +kernel⟩ ⟨Nat.le_of_ble_eq_true rfl, Nat.le_of_ble_eq_true rfl⟩ rfl hl.1 rfl (Nat.le_of_ble_eq_true rfl) dX3_waitingAt_68 ⟨Nat.zero_le _, Nat.zero_le _⟩ (fun r_7 u H locs e_8 hP hD hS => ?_)
          have hP : va_P D vwCl (wM cy m0 m1 m2 m3 m4 m5 m6 m7 m8 m9 m10 m11 m12 m13 m14 m15 m16 m17 1 td sed mi fr to lim f1 f2 dis pin ag en cm mc su isu fir lgt ofs rn w_) H := hP
          have hD : va_D A (wM cy m0 m1 m2 m3 m4 m5 m6 m7 m8 m9 m10 m11 m12 m13 m14 m15 m16 m17 1 td sed mi fr to lim f1 f2 dis pin ag en cm mc su isu fir lgt ofs rn w_) := hD
          have e_8 : r_7 = 0 := e_8
          subst e_8
          refine lv_goto (tgt := 75) hx hb dX3_waitingAt_71 (by decide) ?_
          have w_th : 1 = cdWa fir lgt ofs rn td mc (seeN wsn 0 60) p_ := (by rw [cdWa, if_neg hp, hW9]; simp [c_11, c_31, c_36, c_63, hp, hW9])
          exact hret _ _ _ _ 0 w_ dX3_waitingAt_75 (Or.inl rfl) trivial (by show va_P D vwCl (wM cy m0 m1 m2 m3 m4 m5 m6 m7 m8 m9 m10 m11 m12 m13 m14 m15 m16 m17 (cdWa fir lgt ofs rn td mc (seeN wsn 0 60) p_) td sed mi fr to lim f1 f2 dis pin ag en cm mc su isu fir lgt ofs rn w_) _; rw [← w_th]; exact hP) hS
        · obtain ⟨q1, q2⟩ := (show sgP (fun _ => g) mc by have h7 := waN_ok fir lgt ofs rn td mc (seeN wsn 0 60) (by omega) k; rw [← eW] at h7; exact h7).resolve_left c_36
          have q1 : g = nI (ix g) := q1
          have q2 : ix g < mc := q2
          refine lv_aload_n hx hb dX3_waitingAt_39 rfl (lv_at hl 2 rfl) ?_
          refine va_get (D := D) (ci := 3) (v := .ref m17) (C := RX3) (T := TX3) (N := 22) hx hb hts g_X3 hown hE.1 hP 0 rfl rfl 21 (by decide) f_63 (fun _ h9 => h9) rfl dX3_waitingAt_40 ?_
          refine lv_iload_n hx hb dX3_waitingAt_43 rfl (lv_at hl 1 rfl) ?_
          refine k_top (z := nI (ix g)) q1 ?_
          refine lv_iconst (v := 1) hx hb dX3_waitingAt_44 (by decide) ?_
          refine k_zst hx hb hE.1 hP hD hS 17 1 rfl rfl (j := (ix g)) (Or.inr rfl) (by omega) (by decide) dX3_waitingAt_45 (fun H locs hP hD hS => ?_)
          have hP : va_P D vwCl (wM cy m0 m1 m2 m3 m4 m5 m6 m7 m8 m9 m10 m11 m12 m13 m14 m15 m16 m17 0 td sed mi fr to lim f1 f2 dis pin ag en cm mc su isu fir lgt ofs rn (upd w_ (ix g) 1)) H := hP
          have hD : va_D A (wM cy m0 m1 m2 m3 m4 m5 m6 m7 m8 m9 m10 m11 m12 m13 m14 m15 m16 m17 0 td sed mi fr to lim f1 f2 dis pin ag en cm mc su isu fir lgt ofs rn (upd w_ (ix g) 1)) := hD
          refine lv_aload_n hx hb dX3_waitingAt_46 rfl (lv_at hl 2 rfl) ?_
          refine lv_aload_n hx hb dX3_waitingAt_47 rfl (lv_at hl 2 rfl) ?_
          refine va_get (D := D) (ci := 3) (v := .int (nI mc)) (C := RX3) (T := TX3) (N := 22) hx hb hts g_X3 hown hE.1 hP 0 rfl rfl 14 (by decide) f_76 (fun _ h9 => h9) rfl dX3_waitingAt_48 ?_
          refine kcW_i (n := 1) (wc := wM cy m0 m1 m2 m3 m4 m5 m6 m7 m8 m9 m10 m11 m12 m13 m14 m15 m16 m17 0 td sed mi fr to lim f1 f2 dis pin ag en cm mc su isu fir lgt ofs rn (upd w_ (ix g) 1)) (As := [.int (nI mc)]) (rest := []) ⟨hx, hb, hml, hown, hts⟩ hE hA hP hD hS (c_X3_nextWaiting l D cy m0 m1 m2 m3 m4 m5 m6 m7 m8 m9 m10 m11 m12 m13 m14 m15 m16 m17 0 td sed mi fr to lim f1 f2 dis pin ag en cm mc su isu fir lgt ofs rn (upd w_ (ix g) 1) mc hc) (fun _ => rfl) (q0 := 0) (ci := 3) rfl rfl gX3_waitingAt_X3_nextWaiting rfl rfl rfl ⟨rfl, by decide, by decide, by decide +kernel⟩ ⟨Nat.le_of_ble_eq_true rfl, Nat.le_of_ble_eq_true rfl⟩ rfl hl.1 rfl (Nat.le_of_ble_eq_true rfl) dX3_waitingAt_51 ⟨Nat.zero_le _, Nat.zero_le _⟩ (fun r_9 u H locs e_10 hP hD hS => ?_)
          have hP : va_P D vwCl (wM cy m0 m1 m2 m3 m4 m5 m6 m7 m8 m9 m10 m11 m12 m13 m14 m15 m16 m17 0 td sed mi fr to lim f1 f2 dis pin ag en cm mc su isu fir lgt ofs rn (upd w_ (ix g) 1)) H := hP
          have hD : va_D A (wM cy m0 m1 m2 m3 m4 m5 m6 m7 m8 m9 m10 m11 m12 m13 m14 m15 m16 m17 0 td sed mi fr to lim f1 f2 dis pin ag en cm mc su isu fir lgt ofs rn (upd w_ (ix g) 1)) := hD
          have e_10 : r_9 = nwN fir lgt ofs rn td (upd w_ (ix g) 1) mc := e_10
          subst e_10
          refine lv_istore_n (lv' := [(2, .int (nwN fir lgt ofs rn td (upd w_ (ix g) 1) mc)), (3, .int (nI k)), (0, .ref m0), (1, .int p_)]) hx hb dX3_waitingAt_54 rfl hl (by decide) rfl (fun ls hl => ?_)
          refine lv_iinc (v := (nI (k + 1))) (lv' := [(3, .int (nI (k + 1))), (2, .int (nwN fir lgt ofs rn td (upd w_ (ix g) 1) mc)), (0, .ref m0), (1, .int p_)]) hx hb dX3_waitingAt_55 hl (k := 1) rfl (k_inc _) (by decide) rfl (fun ls hl => ?_)
          refine lv_goto (tgt := 29) hx hb dX3_waitingAt_58 (by decide) ?_
          exact ih_29 (k + 1) (nwN fir lgt ofs rn td (upd w_ (ix g) 1) mc) (upd w_ (ix g) 1) _ _ ls (by omega) (by omega) (by rw [waN, ← eW]; exact (if_neg c_36).symm) hP hD hS (lv_sub hl [0, 1, 2, 3] rfl)
  exact L_29 ((ix p_ - 0) + 1) 0 (nwN fir lgt ofs rn td (seeN wsn 0 60) mc) (seeN wsn 0 60) _ _ ls (Nat.lt_succ_self _) (by omega) rfl hP hD hS (lv_sub hl [0, 1, 2, 3] rfl)

set_option maxHeartbeats 4000000 in
set_option maxRecDepth 100000 in
theorem c_X3_waitingAt_fn (l : Launch) (D : va_G) (cy : ClassId × ClassId × ClassId) (m0 m1 m2 m3 m4 m5 m6 m7 m8 m9 m10 m11 m12 m13 m14 m15 m16 m17 : Nat) (th td sed : Int32) (mi : Nat) (fr to lim f1 f2 dis pin ag en cm : Nat → Int32) (mc : Nat) (su isu fir lgt ofs rn wsn : Nat → Int32) (p_ : Int32) (hc : mc ≤ 60) (hp : p_ < 0) (hcd : ¬ cdWa fir lgt ofs rn td mc (seeN wsn 0 60) p_ = 0) : kI l D cy yX3_waitingAt wsX3_waitingAt (krm 3 65) [.ref m0, .int p_] (wM cy m0 m1 m2 m3 m4 m5 m6 m7 m8 m9 m10 m11 m12 m13 m14 m15 m16 m17 th td sed mi fr to lim f1 f2 dis pin ag en cm mc su isu fir lgt ofs rn wsn) (fun (r : Int32) (u : (Nat → Int32)) => True) (fun u : (Nat → Int32) => wM cy m0 m1 m2 m3 m4 m5 m6 m7 m8 m9 m10 m11 m12 m13 m14 m15 m16 m17 (cdWa fir lgt ofs rn td mc (seeN wsn 0 60) p_) td sed mi fr to lim f1 f2 dis pin ag en cm mc su isu fir lgt ofs rn u) := by
  refine kI.of (cc := cX3_waitingAt) (maxL := 4) (rt := .int) (Or.inl rfl) (by decide) rfl (Nat.le_of_ble_eq_true rfl) ?_
  intro p e s m args below meth c Q A ls hx hb hml hown hts hE hA hP hD hl hret
  have hS : va_S A s.heap s.heap [] := va_S.rf
  have hl : lv_has ls 4 [(0, .ref m0), (1, .int p_)] := hl
  have g_X3 : ∀ w ∈ wsX30, w ∈ wsX3_waitingAt := by decide +kernel
  have f_66 := hts (.fieldLink RX3 66 "CertHerdModel" "thrown" "I") (by decide +kernel)
  have f_76 := hts (.fieldLink RX3 76 "CertHerdModel" "certMany" "I") (by decide +kernel)
  have f_63 := hts (.fieldLink RX3 63 "CertHerdModel" "wasSeen" "[Z") (by decide +kernel)
  refine lv_aload_n hx hb dX3_waitingAt_0 rfl (lv_at hl 0 rfl) ?_
  refine lv_iconst (v := 0) hx hb dX3_waitingAt_1 (by decide) ?_
  refine va_put (D := D) (ci := 3) (v := .int 0) (ty := .int) (C := RX3) (T := TX3) (N := 22) hx hb hts g_X3 tyX3 tyX3_ok nmX3 hown hE.1 hP hD hS 0 rfl rfl 0 (by decide) f_66 (fun _ h9 => h9) rfl (by decide +kernel) rfl rfl (Nat.le_of_ble_eq_true rfl) dX3_waitingAt_2 (fun H locs hP hD hS => ?_)
  have hP : va_P D vwCl (wM cy m0 m1 m2 m3 m4 m5 m6 m7 m8 m9 m10 m11 m12 m13 m14 m15 m16 m17 0 td sed mi fr to lim f1 f2 dis pin ag en cm mc su isu fir lgt ofs rn wsn) H := hP
  have hD : va_D A (wM cy m0 m1 m2 m3 m4 m5 m6 m7 m8 m9 m10 m11 m12 m13 m14 m15 m16 m17 0 td sed mi fr to lim f1 f2 dis pin ag en cm mc su isu fir lgt ofs rn wsn) := hD
  refine lv_aload_n hx hb dX3_waitingAt_5 rfl (lv_at hl 0 rfl) ?_
  refine lv_iconst (v := 0) hx hb dX3_waitingAt_6 (by decide) ?_
  refine kcW_v (n := 1) (wc := wM cy m0 m1 m2 m3 m4 m5 m6 m7 m8 m9 m10 m11 m12 m13 m14 m15 m16 m17 0 td sed mi fr to lim f1 f2 dis pin ag en cm mc su isu fir lgt ofs rn wsn) (As := [.int 0]) (rest := []) ⟨hx, hb, hml, hown, hts⟩ hE hA hP hD hS (c_X3_sees l D cy m0 m1 m2 m3 m4 m5 m6 m7 m8 m9 m10 m11 m12 m13 m14 m15 m16 m17 0 td sed mi fr to lim f1 f2 dis pin ag en cm mc su isu fir lgt ofs rn wsn 0 (Or.inl rfl)) (fun _ => Eq.trans (b := [m0, m1, m2, m3, m4, m5, m6, m7, m8, m9, m10, m11, m12, m13, m14, m15, m16, m17]) rfl rfl) (q0 := 0) (ci := 3) rfl rfl gX3_waitingAt_X3_sees rfl rfl rfl ⟨rfl, by decide, by decide, by decide +kernel⟩ ⟨Nat.le_of_ble_eq_true rfl, Nat.le_of_ble_eq_true rfl⟩ rfl hl.1 rfl (Nat.le_of_ble_eq_true rfl) dX3_waitingAt_7 ⟨Nat.zero_le _, Nat.zero_le _⟩ (fun u H locs e_2 hP hD hS => ?_)
  have hP : va_P D vwCl (wM cy m0 m1 m2 m3 m4 m5 m6 m7 m8 m9 m10 m11 m12 m13 m14 m15 m16 m17 0 td sed mi fr to lim f1 f2 dis pin ag en cm mc su isu fir lgt ofs rn (seeN wsn 0 60)) H := hP
  have hD : va_D A (wM cy m0 m1 m2 m3 m4 m5 m6 m7 m8 m9 m10 m11 m12 m13 m14 m15 m16 m17 0 td sed mi fr to lim f1 f2 dis pin ag en cm mc su isu fir lgt ofs rn (seeN wsn 0 60)) := hD
  refine lv_iload_n hx hb dX3_waitingAt_10 rfl (lv_at hl 1 rfl) ?_
  refine lv_if_ge (tgt := 18) hx hb dX3_waitingAt_11 (by decide) (fun c_11 => absurd hp (i32_nlt.mpr c_11)) (fun c_11 => ?_)
  refine lv_iconst (v := (-1)) hx hb dX3_waitingAt_14 (by decide) ?_
  refine lv_goto (tgt := 26) hx hb dX3_waitingAt_15 (by decide) ?_
  refine lv_istore_n (lv' := [(2, .int (-1)), (0, .ref m0), (1, .int p_)]) hx hb dX3_waitingAt_26 rfl hl (by decide) rfl (fun ls hl => ?_)
  refine lv_iconst (v := 0) hx hb dX3_waitingAt_27 (by decide) ?_
  refine lv_istore_n (lv' := [(3, .int 0), (2, .int (-1)), (0, .ref m0), (1, .int p_)]) hx hb dX3_waitingAt_28 rfl hl (by decide) rfl (fun ls hl => ?_)
  refine lv_iload_n hx hb dX3_waitingAt_29 rfl (lv_at hl 0 rfl) ?_
  refine lv_iload_n hx hb dX3_waitingAt_30 rfl (lv_at hl 3 rfl) ?_
  refine lv_icmp_ge (tgt := 61) hx hb dX3_waitingAt_31 (by decide) (fun c_31 => ?_) (fun c_31 => absurd (Int32.le_of_lt hp) c_31)
  refine lv_iload_n hx hb dX3_waitingAt_61 rfl (lv_at hl 1 rfl) ?_
  refine lv_iconst (v := (-1)) hx hb dX3_waitingAt_62 (by decide) ?_
  refine lv_icmp_ne (tgt := 74) hx hb dX3_waitingAt_63 (by decide) (fun c_63 => absurd c_63 (by decide)) (fun c_63 => ?_)
  refine lv_aload_n hx hb dX3_waitingAt_66 rfl (lv_at hl 2 rfl) ?_
  refine lv_iconst (v := 1) hx hb dX3_waitingAt_67 (by decide) ?_
  refine kcW_i (n := 1) (wc := wM cy m0 m1 m2 m3 m4 m5 m6 m7 m8 m9 m10 m11 m12 m13 m14 m15 m16 m17 0 td sed mi fr to lim f1 f2 dis pin ag en cm mc su isu fir lgt ofs rn (seeN wsn 0 60)) (As := [.int 1]) (rest := []) ⟨hx, hb, hml, hown, hts⟩ hE hA hP hD hS (c_X3_fails l D cy m0 m1 m2 m3 m4 m5 m6 m7 m8 m9 m10 m11 m12 m13 m14 m15 m16 m17 0 td sed mi fr to lim f1 f2 dis pin ag en cm mc su isu fir lgt ofs rn (seeN wsn 0 60) 1) (fun _ => Eq.trans (b := [m0, m1, m2, m3, m4, m5, m6, m7, m8, m9, m10, m11, m12, m13, m14, m15, m16, m17]) rfl rfl) (q0 := 0) (ci := 3) rfl rfl gX3_waitingAt_X3_fails rfl rfl rfl ⟨rfl, by decide, by decide, by decide +kernel⟩ ⟨Nat.le_of_ble_eq_true rfl, Nat.le_of_ble_eq_true rfl⟩ rfl hl.1 rfl (Nat.le_of_ble_eq_true rfl) dX3_waitingAt_68 ⟨Nat.zero_le _, Nat.zero_le _⟩ (fun r_3 u H locs e_4 hP hD hS => ?_)
  have hP : va_P D vwCl (wM cy m0 m1 m2 m3 m4 m5 m6 m7 m8 m9 m10 m11 m12 m13 m14 m15 m16 m17 1 td sed mi fr to lim f1 f2 dis pin ag en cm mc su isu fir lgt ofs rn (seeN wsn 0 60)) H := hP
  have hD : va_D A (wM cy m0 m1 m2 m3 m4 m5 m6 m7 m8 m9 m10 m11 m12 m13 m14 m15 m16 m17 1 td sed mi fr to lim f1 f2 dis pin ag en cm mc su isu fir lgt ofs rn (seeN wsn 0 60)) := hD
  have e_4 : r_3 = 0 := e_4
  subst e_4
  refine lv_goto (tgt := 75) hx hb dX3_waitingAt_71 (by decide) ?_
  have w_th : 1 = cdWa fir lgt ofs rn td mc (seeN wsn 0 60) p_ := (by rw [cdWa, if_pos hp])
  exact hret _ _ _ _ 0 (seeN wsn 0 60) dX3_waitingAt_75 (Or.inl rfl) trivial (by show va_P D vwCl (wM cy m0 m1 m2 m3 m4 m5 m6 m7 m8 m9 m10 m11 m12 m13 m14 m15 m16 m17 (cdWa fir lgt ofs rn td mc (seeN wsn 0 60) p_) td sed mi fr to lim f1 f2 dis pin ag en cm mc su isu fir lgt ofs rn (seeN wsn 0 60)) _; rw [← w_th]; exact hP) hS
