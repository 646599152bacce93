set_option maxHeartbeats 4000000 in
set_option maxRecDepth 100000 in
theorem c_X3_today (l : Launch) (D : va_G) (cy : ClassId × ClassId × ClassId) (m0 m1 m2 m3 m4 m5 m6 m7 m8 m9 m10 m11 m12 m13 m14 m15 m16 m17 : Nat) (th td sed : Int32) (mi : Nat) (fr to lim f1 f2 dis pin ag en cm : Nat → Int32) (mc : Nat) (su isu fir lgt ofs rn wsn : Nat → Int32) : kI l D cy yX3_today wsX3_today (krm 0 0) [.ref m0] (wM cy m0 m1 m2 m3 m4 m5 m6 m7 m8 m9 m10 m11 m12 m13 m14 m15 m16 m17 th td sed mi fr to lim f1 f2 dis pin ag en cm mc su isu fir lgt ofs rn wsn) (fun (r : Int32) (u : Unit) => r = td) (fun _ : Unit => wM cy m0 m1 m2 m3 m4 m5 m6 m7 m8 m9 m10 m11 m12 m13 m14 m15 m16 m17 0 td sed mi fr to lim f1 f2 dis pin ag en cm mc su isu fir lgt ofs rn wsn) := by
  refine kI.of (cc := cX3_today) (maxL := 1) (rt := .int) (Or.inl rfl) (by decide) rfl (Nat.le_of_ble_eq_true rfl) ?_
  intro p e s m args below meth c Q A ls hx hb hml hown hts hE hA hP hD hl hret
  have hS : va_S A s.heap s.heap [] := va_S.rf
  have hl : lv_has ls 1 [(0, .ref m0)] := hl
  have g_X3 : ∀ w ∈ wsX30, w ∈ wsX3_today := by decide +kernel
  have f_66 := hts (.fieldLink RX3 66 "CertHerdModel" "thrown" "I") (by decide +kernel)
  have f_96 := hts (.fieldLink RX3 96 "CertHerdModel" "today" "I") (by decide +kernel)
  refine lv_aload_n hx hb dX3_today_0 rfl (lv_at hl 0 rfl) ?_
  refine lv_iconst (v := 0) hx hb dX3_today_1 (by decide) ?_
  refine va_put (D := D) (ci := 3) (v := .int 0) (ty := .int) (C := RX3) (T := TX3) (N := 22) hx hb hts g_X3 tyX3 tyX3_ok nmX3 hown hE.1 hP hD hS 0 rfl rfl 0 (by decide) f_66 (fun _ h9 => h9) rfl (by decide +kernel) rfl rfl (Nat.le_of_ble_eq_true rfl) dX3_today_2 (fun H locs hP hD hS => ?_)
  have hP : va_P D vwCl (wM cy m0 m1 m2 m3 m4 m5 m6 m7 m8 m9 m10 m11 m12 m13 m14 m15 m16 m17 0 td sed mi fr to lim f1 f2 dis pin ag en cm mc su isu fir lgt ofs rn wsn) H := hP
  have hD : va_D A (wM cy m0 m1 m2 m3 m4 m5 m6 m7 m8 m9 m10 m11 m12 m13 m14 m15 m16 m17 0 td sed mi fr to lim f1 f2 dis pin ag en cm mc su isu fir lgt ofs rn wsn) := hD
  refine lv_aload_n hx hb dX3_today_5 rfl (lv_at hl 0 rfl) ?_
  refine va_get (D := D) (ci := 3) (v := .int td) (C := RX3) (T := TX3) (N := 22) hx hb hts g_X3 hown hE.1 hP 0 rfl rfl 1 (by decide) f_96 (fun _ h9 => h9) rfl dX3_today_6 ?_
  exact hret _ _ _ _ td () dX3_today_9 (Or.inl rfl) rfl hP hS

set_option maxHeartbeats 4000000 in
set_option maxRecDepth 100000 in
theorem c_X3_issuers (l : Launch) (D : va_G) (cy : ClassId × ClassId × ClassId) (m0 m1 m2 m3 m4 m5 m6 m7 m8 m9 m10 m11 m12 m13 m14 m15 m16 m17 : Nat) (th td sed : Int32) (mi : Nat) (fr to lim f1 f2 dis pin ag en cm : Nat → Int32) (mc : Nat) (su isu fir lgt ofs rn wsn : Nat → Int32) : kI l D cy yX3_issuers wsX3_issuers (krm 0 0) [.ref m0] (wM cy m0 m1 m2 m3 m4 m5 m6 m7 m8 m9 m10 m11 m12 m13 m14 m15 m16 m17 th td sed mi fr to lim f1 f2 dis pin ag en cm mc su isu fir lgt ofs rn wsn) (fun (r : Int32) (u : Unit) => r = nI mi) (fun _ : Unit => wM cy m0 m1 m2 m3 m4 m5 m6 m7 m8 m9 m10 m11 m12 m13 m14 m15 m16 m17 0 td sed mi fr to lim f1 f2 dis pin ag en cm mc su isu fir lgt ofs rn wsn) := by
  refine kI.of (cc := cX3_issuers) (maxL := 1) (rt := .int) (Or.inl rfl) (by decide) rfl (Nat.le_of_ble_eq_true rfl) ?_
  intro p e s m args below meth c Q A ls hx hb hml hown hts hE hA hP hD hl hret
  have hS : va_S A s.heap s.heap [] := va_S.rf
  have hl : lv_has ls 1 [(0, .ref m0)] := hl
  have g_X3 : ∀ w ∈ wsX30, w ∈ wsX3_issuers := by decide +kernel
  have f_66 := hts (.fieldLink RX3 66 "CertHerdModel" "thrown" "I") (by decide +kernel)
  have f_69 := hts (.fieldLink RX3 69 "CertHerdModel" "issuerMany" "I") (by decide +kernel)
  refine lv_aload_n hx hb dX3_issuers_0 rfl (lv_at hl 0 rfl) ?_
  refine lv_iconst (v := 0) hx hb dX3_issuers_1 (by decide) ?_
  refine va_put (D := D) (ci := 3) (v := .int 0) (ty := .int) (C := RX3) (T := TX3) (N := 22) hx hb hts g_X3 tyX3 tyX3_ok nmX3 hown hE.1 hP hD hS 0 rfl rfl 0 (by decide) f_66 (fun _ h9 => h9) rfl (by decide +kernel) rfl rfl (Nat.le_of_ble_eq_true rfl) dX3_issuers_2 (fun H locs hP hD hS => ?_)
  have hP : va_P D vwCl (wM cy m0 m1 m2 m3 m4 m5 m6 m7 m8 m9 m10 m11 m12 m13 m14 m15 m16 m17 0 td sed mi fr to lim f1 f2 dis pin ag en cm mc su isu fir lgt ofs rn wsn) H := hP
  have hD : va_D A (wM cy m0 m1 m2 m3 m4 m5 m6 m7 m8 m9 m10 m11 m12 m13 m14 m15 m16 m17 0 td sed mi fr to lim f1 f2 dis pin ag en cm mc su isu fir lgt ofs rn wsn) := hD
  refine lv_aload_n hx hb dX3_issuers_5 rfl (lv_at hl 0 rfl) ?_
  refine va_get (D := D) (ci := 3) (v := .int (nI mi)) (C := RX3) (T := TX3) (N := 22) hx hb hts g_X3 hown hE.1 hP 0 rfl rfl 3 (by decide) f_69 (fun _ h9 => h9) rfl dX3_issuers_6 ?_
  exact hret _ _ _ _ (nI mi) () dX3_issuers_9 (Or.inl rfl) rfl hP hS

set_option maxHeartbeats 4000000 in
set_option maxRecDepth 100000 in
theorem c_X3_certificates (l : Launch) (D : va_G) (cy : ClassId × ClassId × ClassId) (m0 m1 m2 m3 m4 m5 m6 m7 m8 m9 m10 m11 m12 m13 m14 m15 m16 m17 : Nat) (th td sed : Int32) (mi : Nat) (fr to lim f1 f2 dis pin ag en cm : Nat → Int32) (mc : Nat) (su isu fir lgt ofs rn wsn : Nat → Int32) : kI l D cy yX3_certificates wsX3_certificates (krm 0 0) [.ref m0] (wM cy m0 m1 m2 m3 m4 m5 m6 m7 m8 m9 m10 m11 m12 m13 m14 m15 m16 m17 th td sed mi fr to lim f1 f2 dis pin ag en cm mc su isu fir lgt ofs rn wsn) (fun (r : Int32) (u : Unit) => r = nI mc) (fun _ : Unit => wM cy m0 m1 m2 m3 m4 m5 m6 m7 m8 m9 m10 m11 m12 m13 m14 m15 m16 m17 0 td sed mi fr to lim f1 f2 dis pin ag en cm mc su isu fir lgt ofs rn wsn) := by
  refine kI.of (cc := cX3_certificates) (maxL := 1) (rt := .int) (Or.inl rfl) (by decide) rfl (Nat.le_of_ble_eq_true rfl) ?_
  intro p e s m args below meth c Q A ls hx hb hml hown hts hE hA hP hD hl hret
  have hS : va_S A s.heap s.heap [] := va_S.rf
  have hl : lv_has ls 1 [(0, .ref m0)] := hl
  have g_X3 : ∀ w ∈ wsX30, w ∈ wsX3_certificates := by decide +kernel
  have f_66 := hts (.fieldLink RX3 66 "CertHerdModel" "thrown" "I") (by decide +kernel)
  have f_76 := hts (.fieldLink RX3 76 "CertHerdModel" "certMany" "I") (by decide +kernel)
  refine lv_aload_n hx hb dX3_certificates_0 rfl (lv_at hl 0 rfl) ?_
  refine lv_iconst (v := 0) hx hb dX3_certificates_1 (by decide) ?_
  refine va_put (D := D) (ci := 3) (v := .int 0) (ty := .int) (C := RX3) (T := TX3) (N := 22) hx hb hts g_X3 tyX3 tyX3_ok nmX3 hown hE.1 hP hD hS 0 rfl rfl 0 (by decide) f_66 (fun _ h9 => h9) rfl (by decide +kernel) rfl rfl (Nat.le_of_ble_eq_true rfl) dX3_certificates_2 (fun H locs hP hD hS => ?_)
  have hP : va_P D vwCl (wM cy m0 m1 m2 m3 m4 m5 m6 m7 m8 m9 m10 m11 m12 m13 m14 m15 m16 m17 0 td sed mi fr to lim f1 f2 dis pin ag en cm mc su isu fir lgt ofs rn wsn) H := hP
  have hD : va_D A (wM cy m0 m1 m2 m3 m4 m5 m6 m7 m8 m9 m10 m11 m12 m13 m14 m15 m16 m17 0 td sed mi fr to lim f1 f2 dis pin ag en cm mc su isu fir lgt ofs rn wsn) := hD
  refine lv_aload_n hx hb dX3_certificates_5 rfl (lv_at hl 0 rfl) ?_
  refine va_get (D := D) (ci := 3) (v := .int (nI mc)) (C := RX3) (T := TX3) (N := 22) hx hb hts g_X3 hown hE.1 hP 0 rfl rfl 14 (by decide) f_76 (fun _ h9 => h9) rfl dX3_certificates_6 ?_
  exact hret _ _ _ _ (nI mc) () dX3_certificates_9 (Or.inl rfl) rfl hP hS

set_option maxHeartbeats 4000000 in
set_option maxRecDepth 100000 in
theorem c_X3_addIssuer (l : Launch) (D : va_G) (cy : ClassId × ClassId × ClassId) (m0 m1 m2 m3 m4 m5 m6 m7 m8 m9 m10 m11 m12 m13 m14 m15 m16 m17 : Nat) (th td sed : Int32) (mi : Nat) (fr to lim f1 f2 dis pin ag en cm : Nat → Int32) (mc : Nat) (su isu fir lgt ofs rn wsn : Nat → Int32) (sg : Int32) (fr_ : Int32) (to_ : Int32) (li_ : Int32) (hm : mi ≤ 8) (hcd : cdAddM mi sg fr_ to_ li_ = 0) : kI l D cy yX3_addIssuer wsX3_addIssuer (krm 2 43) [.ref m0, .int sg, .int fr_, .int to_, .int li_] (wM cy m0 m1 m2 m3 m4 m5 m6 m7 m8 m9 m10 m11 m12 m13 m14 m15 m16 m17 th td sed mi fr to lim f1 f2 dis pin ag en cm mc su isu fir lgt ofs rn wsn) (fun (r : Int32) (u : Unit) => r = nI mi) (fun _ : Unit => wM cy m0 m1 m2 m3 m4 m5 m6 m7 m8 m9 m10 m11 m12 m13 m14 m15 m16 m17 0 td sed (mi + 1) (upd fr mi fr_) (upd to mi to_) (upd lim mi li_) (upd f1 mi sg) (upd f2 mi (-1)) (upd dis mi (-1)) pin ag en cm mc su isu fir lgt ofs rn wsn) := by
  refine kI.of (cc := cX3_addIssuer) (maxL := 6) (rt := .int) (Or.inl rfl) (by decide) rfl (Nat.le_of_ble_eq_true rfl) ?_
  intro p e s m args below meth c Q A ls hx hb hml hown hts hE hA hP hD hl hret
  have hS : va_S A s.heap s.heap [] := va_S.rf
  have hl : lv_has ls 6 [(0, .ref m0), (1, .int sg), (2, .int fr_), (3, .int to_), (4, .int li_)] := hl
  have g_X3 : ∀ w ∈ wsX30, w ∈ wsX3_addIssuer := by decide +kernel
  have f_69 := hts (.fieldLink RX3 69 "CertHerdModel" "issuerMany" "I") (by decide +kernel)
  have f_66 := hts (.fieldLink RX3 66 "CertHerdModel" "thrown" "I") (by decide +kernel)
  have f_13 := hts (.fieldLink RX3 13 "CertHerdModel" "froms" "[I") (by decide +kernel)
  have f_17 := hts (.fieldLink RX3 17 "CertHerdModel" "tos" "[I") (by decide +kernel)
  have f_20 := hts (.fieldLink RX3 20 "CertHerdModel" "limits" "[I") (by decide +kernel)
  have f_23 := hts (.fieldLink RX3 23 "CertHerdModel" "firstSigners" "[I") (by decide +kernel)
  have f_26 := hts (.fieldLink RX3 26 "CertHerdModel" "secondSigners" "[I") (by decide +kernel)
  have f_29 := hts (.fieldLink RX3 29 "CertHerdModel" "distrusted" "[I") (by decide +kernel)
  refine lv_iload_n hx hb dX3_addIssuer_0 rfl (lv_at hl 2 rfl) ?_
  refine lv_iconst (v := 0) hx hb dX3_addIssuer_1 (by decide) ?_
  refine lv_sipush (v := 5000) hx hb dX3_addIssuer_2 (by decide) ?_
  refine kcS_i (n := 3) (X := []) (wc := []) (Y := wM cy m0 m1 m2 m3 m4 m5 m6 m7 m8 m9 m10 m11 m12 m13 m14 m15 m16 m17 th td sed mi fr to lim f1 f2 dis pin ag en cm mc su isu fir lgt ofs rn wsn) (As := [.int fr_, .int 0, .int 5000]) (rest := []) ⟨hx, hb, hml, hown, hts⟩ hE hA hP hD hS (c_X3_in l D cy fr_ 0 5000) (fun _ => rfl) gX3_addIssuer_X3_in rfl rfl rfl ⟨by decide, by decide, by decide +kernel⟩ ⟨Nat.le_of_ble_eq_true rfl, Nat.le_of_ble_eq_true rfl⟩ rfl hl.1 rfl (Nat.le_of_ble_eq_true rfl) dX3_addIssuer_5 ⟨Nat.zero_le _, Nat.zero_le _⟩ (fun r_1 u H locs e_2 hP hD hS => ?_)
  have hP : va_P D vwCl (wM cy m0 m1 m2 m3 m4 m5 m6 m7 m8 m9 m10 m11 m12 m13 m14 m15 m16 m17 th td sed mi fr to lim f1 f2 dis pin ag en cm mc su isu fir lgt ofs rn wsn) H := hP
  have hD : va_D A (wM cy m0 m1 m2 m3 m4 m5 m6 m7 m8 m9 m10 m11 m12 m13 m14 m15 m16 m17 th td sed mi fr to lim f1 f2 dis pin ag en cm mc su isu fir lgt ofs rn wsn) := hD
  have e_2 : r_1 = bI (inB fr_ 0 5000 = true) := e_2
  subst e_2
  refine k_ifeq (tgt := 37) hx hb dX3_addIssuer_8 (by decide) (fun c_8 => ?_) (fun c_8 => ?_)
  · refine lv_iconst (v := 0) hx hb dX3_addIssuer_37 (by decide) ?_
    refine lv_istore (lv' := [(5, .int 0), (0, .ref m0), (1, .int sg), (2, .int fr_), (3, .int to_), (4, .int li_)]) hx hb dX3_addIssuer_38 hl (by decide) rfl (fun ls hl => ?_)
    refine lv_aload_n hx hb dX3_addIssuer_40 rfl (lv_at hl 1 rfl) ?_
    refine lv_iload_n hx hb dX3_addIssuer_41 rfl (lv_at hl 2 rfl) ?_
    refine lv_iconst (v := (-1)) hx hb dX3_addIssuer_42 (by decide) ?_
    refine lv_icmp_eq (tgt := 58) hx hb dX3_addIssuer_43 (by decide) (fun c_43 => ?_) (fun c_43 => ?_)
    · refine lv_iload hx hb dX3_addIssuer_58 (lv_at hl 0 rfl) ?_
      refine lv_if_ne (tgt := 67) hx hb dX3_addIssuer_60 (by decide) (fun c_60 => absurd c_60 (by decide)) (fun _ => ?_)
      refine lv_iconst (v := 2) hx hb dX3_addIssuer_63 (by decide) ?_
      refine lv_goto (tgt := 81) hx hb dX3_addIssuer_64 (by decide) ?_
      refine va_put (D := D) (ci := 3) (v := .int 2) (ty := .int) (C := RX3) (T := TX3) (N := 22) hx hb hts g_X3 tyX3 tyX3_ok nmX3 hown hE.1 hP hD hS 0 rfl rfl 0 (by decide) f_66 (fun _ h9 => h9) rfl (by decide +kernel) rfl rfl (Nat.le_of_ble_eq_true rfl) dX3_addIssuer_81 (fun H locs hP hD hS => ?_)
      have hP : va_P D vwCl (wM cy m0 m1 m2 m3 m4 m5 m6 m7 m8 m9 m10 m11 m12 m13 m14 m15 m16 m17 2 td sed mi fr to lim f1 f2 dis pin ag en cm mc su isu fir lgt ofs rn wsn) H := hP
      have hD : va_D A (wM cy m0 m1 m2 m3 m4 m5 m6 m7 m8 m9 m10 m11 m12 m13 m14 m15 m16 m17 2 td sed mi fr to lim f1 f2 dis pin ag en cm mc su isu fir lgt ofs rn wsn) := hD
      refine lv_aload_n hx hb dX3_addIssuer_84 rfl (lv_at hl 1 rfl) ?_
      refine va_get (D := D) (ci := 3) (v := .int 2) (C := RX3) (T := TX3) (N := 22) hx hb hts g_X3 hown hE.1 hP 0 rfl rfl 0 (by decide) f_66 (fun _ h9 => h9) rfl dX3_addIssuer_85 ?_
      refine lv_if_le (tgt := 93) hx hb dX3_addIssuer_88 (by decide) (fun c_88 => absurd c_88 (by decide)) (fun _ => ?_)
      refine lv_iconst (v := 0) hx hb dX3_addIssuer_91 (by decide) ?_
      exact absurd hcd (by simp [cdAddM, c_8, c_43])
    · refine lv_aload_n hx hb dX3_addIssuer_46 rfl (lv_at hl 1 rfl) ?_
      refine lv_iload_n hx hb dX3_addIssuer_47 rfl (lv_at hl 2 rfl) ?_
      refine kcW_i (n := 1) (wc := wM cy m0 m1 m2 m3 m4 m5 m6 m7 m8 m9 m10 m11 m12 m13 m14 m15 m16 m17 th td sed mi fr to lim f1 f2 dis pin ag en cm mc su isu fir lgt ofs rn wsn) (As := [.int sg]) (rest := [.ref m0]) ⟨hx, hb, hml, hown, hts⟩ hE hA hP hD hS (c_X3_isIssuer l D cy m0 m1 m2 m3 m4 m5 m6 m7 m8 m9 m10 m11 m12 m13 m14 m15 m16 m17 th td sed mi fr to lim f1 f2 dis pin ag en cm mc su isu fir lgt ofs rn wsn sg (by first | assumption | omega)) (fun _ => rfl) (q0 := 0) (ci := 3) rfl rfl gX3_addIssuer_X3_isIssuer rfl rfl rfl ⟨rfl, by decide, by decide, by decide +kernel⟩ ⟨Nat.le_of_ble_eq_true rfl, Nat.le_of_ble_eq_true rfl⟩ rfl hl.1 rfl (Nat.le_of_ble_eq_true rfl) dX3_addIssuer_48 ⟨Nat.zero_le _, Nat.zero_le _⟩ (fun r_3 u H locs e_4 hP hD hS => ?_)
      have hP : va_P D vwCl (wM cy m0 m1 m2 m3 m4 m5 m6 m7 m8 m9 m10 m11 m12 m13 m14 m15 m16 m17 th td sed mi fr to lim f1 f2 dis pin ag en cm mc su isu fir lgt ofs rn wsn) H := hP
      have hD : va_D A (wM cy m0 m1 m2 m3 m4 m5 m6 m7 m8 m9 m10 m11 m12 m13 m14 m15 m16 m17 th td sed mi fr to lim f1 f2 dis pin ag en cm mc su isu fir lgt ofs rn wsn) := hD
      have e_4 : r_3 = bI (badI mi sg = false) := e_4
      subst e_4
      refine k_ifne (tgt := 58) hx hb dX3_addIssuer_51 (by decide) (fun c_51 => ?_) (fun c_51 => ?_)
      · refine lv_iload hx hb dX3_addIssuer_58 (lv_at hl 0 rfl) ?_
        refine lv_if_ne (tgt := 67) hx hb dX3_addIssuer_60 (by decide) (fun c_60 => absurd c_60 (by decide)) (fun _ => ?_)
        refine lv_iconst (v := 2) hx hb dX3_addIssuer_63 (by decide) ?_
        refine lv_goto (tgt := 81) hx hb dX3_addIssuer_64 (by decide) ?_
        refine va_put (D := D) (ci := 3) (v := .int 2) (ty := .int) (C := RX3) (T := TX3) (N := 22) hx hb hts g_X3 tyX3 tyX3_ok nmX3 hown hE.1 hP hD hS 0 rfl rfl 0 (by decide) f_66 (fun _ h9 => h9) rfl (by decide +kernel) rfl rfl (Nat.le_of_ble_eq_true rfl) dX3_addIssuer_81 (fun H locs hP hD hS => ?_)
        have hP : va_P D vwCl (wM cy m0 m1 m2 m3 m4 m5 m6 m7 m8 m9 m10 m11 m12 m13 m14 m15 m16 m17 2 td sed mi fr to lim f1 f2 dis pin ag en cm mc su isu fir lgt ofs rn wsn) H := hP
        have hD : va_D A (wM cy m0 m1 m2 m3 m4 m5 m6 m7 m8 m9 m10 m11 m12 m13 m14 m15 m16 m17 2 td sed mi fr to lim f1 f2 dis pin ag en cm mc su isu fir lgt ofs rn wsn) := hD
        refine lv_aload_n hx hb dX3_addIssuer_84 rfl (lv_at hl 1 rfl) ?_
        refine va_get (D := D) (ci := 3) (v := .int 2) (C := RX3) (T := TX3) (N := 22) hx hb hts g_X3 hown hE.1 hP 0 rfl rfl 0 (by decide) f_66 (fun _ h9 => h9) rfl dX3_addIssuer_85 ?_
        refine lv_if_le (tgt := 93) hx hb dX3_addIssuer_88 (by decide) (fun c_88 => absurd c_88 (by decide)) (fun _ => ?_)
        refine lv_iconst (v := 0) hx hb dX3_addIssuer_91 (by decide) ?_
        exact absurd hcd (by simp [cdAddM, c_8, c_43, c_51])
      · refine lv_iconst (v := 1) hx hb dX3_addIssuer_54 (by decide) ?_
        refine lv_goto (tgt := 81) hx hb dX3_addIssuer_55 (by decide) ?_
        refine va_put (D := D) (ci := 3) (v := .int 1) (ty := .int) (C := RX3) (T := TX3) (N := 22) hx hb hts g_X3 tyX3 tyX3_ok nmX3 hown hE.1 hP hD hS 0 rfl rfl 0 (by decide) f_66 (fun _ h9 => h9) rfl (by decide +kernel) rfl rfl (Nat.le_of_ble_eq_true rfl) dX3_addIssuer_81 (fun H locs hP hD hS => ?_)
        have hP : va_P D vwCl (wM cy m0 m1 m2 m3 m4 m5 m6 m7 m8 m9 m10 m11 m12 m13 m14 m15 m16 m17 1 td sed mi fr to lim f1 f2 dis pin ag en cm mc su isu fir lgt ofs rn wsn) H := hP
        have hD : va_D A (wM cy m0 m1 m2 m3 m4 m5 m6 m7 m8 m9 m10 m11 m12 m13 m14 m15 m16 m17 1 td sed mi fr to lim f1 f2 dis pin ag en cm mc su isu fir lgt ofs rn wsn) := hD
        refine lv_aload_n hx hb dX3_addIssuer_84 rfl (lv_at hl 1 rfl) ?_
        refine va_get (D := D) (ci := 3) (v := .int 1) (C := RX3) (T := TX3) (N := 22) hx hb hts g_X3 hown hE.1 hP 0 rfl rfl 0 (by decide) f_66 (fun _ h9 => h9) rfl dX3_addIssuer_85 ?_
        refine lv_if_le (tgt := 93) hx hb dX3_addIssuer_88 (by decide) (fun c_88 => absurd c_88 (by decide)) (fun _ => ?_)
        refine lv_iconst (v := 0) hx hb dX3_addIssuer_91 (by decide) ?_
        exact absurd hcd (by simp [cdAddM, c_8, c_43, c_51])
  · refine lv_iload_n hx hb dX3_addIssuer_11 rfl (lv_at hl 3 rfl) ?_
    refine lv_iload_n hx hb dX3_addIssuer_12 rfl (lv_at hl 2 rfl) ?_
    refine lv_sipush (v := 5000) hx hb dX3_addIssuer_13 (by decide) ?_
    refine kcS_i (n := 3) (X := []) (wc := []) (Y := wM cy m0 m1 m2 m3 m4 m5 m6 m7 m8 m9 m10 m11 m12 m13 m14 m15 m16 m17 th td sed mi fr to lim f1 f2 dis pin ag en cm mc su isu fir lgt ofs rn wsn) (As := [.int to_, .int fr_, .int 5000]) (rest := []) ⟨hx, hb, hml, hown, hts⟩ hE hA hP hD hS (c_X3_in l D cy to_ fr_ 5000) (fun _ => rfl) gX3_addIssuer_X3_in rfl rfl rfl ⟨by decide, by decide, by decide +kernel⟩ ⟨Nat.le_of_ble_eq_true rfl, Nat.le_of_ble_eq_true rfl⟩ rfl hl.1 rfl (Nat.le_of_ble_eq_true rfl) dX3_addIssuer_16 ⟨Nat.zero_le _, Nat.zero_le _⟩ (fun r_5 u H locs e_6 hP hD hS => ?_)
    have hP : va_P D vwCl (wM cy m0 m1 m2 m3 m4 m5 m6 m7 m8 m9 m10 m11 m12 m13 m14 m15 m16 m17 th td sed mi fr to lim f1 f2 dis pin ag en cm mc su isu fir lgt ofs rn wsn) H := hP
    have hD : va_D A (wM cy m0 m1 m2 m3 m4 m5 m6 m7 m8 m9 m10 m11 m12 m13 m14 m15 m16 m17 th td sed mi fr to lim f1 f2 dis pin ag en cm mc su isu fir lgt ofs rn wsn) := hD
    have e_6 : r_5 = bI (inB to_ fr_ 5000 = true) := e_6
    subst e_6
    refine k_ifeq (tgt := 37) hx hb dX3_addIssuer_19 (by decide) (fun c_19 => ?_) (fun c_19 => ?_)
    · refine lv_iconst (v := 0) hx hb dX3_addIssuer_37 (by decide) ?_
      refine lv_istore (lv' := [(5, .int 0), (0, .ref m0), (1, .int sg), (2, .int fr_), (3, .int to_), (4, .int li_)]) hx hb dX3_addIssuer_38 hl (by decide) rfl (fun ls hl => ?_)
      refine lv_aload_n hx hb dX3_addIssuer_40 rfl (lv_at hl 1 rfl) ?_
      refine lv_iload_n hx hb dX3_addIssuer_41 rfl (lv_at hl 2 rfl) ?_
      refine lv_iconst (v := (-1)) hx hb dX3_addIssuer_42 (by decide) ?_
      refine lv_icmp_eq (tgt := 58) hx hb dX3_addIssuer_43 (by decide) (fun c_43 => ?_) (fun c_43 => ?_)
      · refine lv_iload hx hb dX3_addIssuer_58 (lv_at hl 0 rfl) ?_
        refine lv_if_ne (tgt := 67) hx hb dX3_addIssuer_60 (by decide) (fun c_60 => absurd c_60 (by decide)) (fun _ => ?_)
        refine lv_iconst (v := 2) hx hb dX3_addIssuer_63 (by decide) ?_
        refine lv_goto (tgt := 81) hx hb dX3_addIssuer_64 (by decide) ?_
        refine va_put (D := D) (ci := 3) (v := .int 2) (ty := .int) (C := RX3) (T := TX3) (N := 22) hx hb hts g_X3 tyX3 tyX3_ok nmX3 hown hE.1 hP hD hS 0 rfl rfl 0 (by decide) f_66 (fun _ h9 => h9) rfl (by decide +kernel) rfl rfl (Nat.le_of_ble_eq_true rfl) dX3_addIssuer_81 (fun H locs hP hD hS => ?_)
        have hP : va_P D vwCl (wM cy m0 m1 m2 m3 m4 m5 m6 m7 m8 m9 m10 m11 m12 m13 m14 m15 m16 m17 2 td sed mi fr to lim f1 f2 dis pin ag en cm mc su isu fir lgt ofs rn wsn) H := hP
        have hD : va_D A (wM cy m0 m1 m2 m3 m4 m5 m6 m7 m8 m9 m10 m11 m12 m13 m14 m15 m16 m17 2 td sed mi fr to lim f1 f2 dis pin ag en cm mc su isu fir lgt ofs rn wsn) := hD
        refine lv_aload_n hx hb dX3_addIssuer_84 rfl (lv_at hl 1 rfl) ?_
        refine va_get (D := D) (ci := 3) (v := .int 2) (C := RX3) (T := TX3) (N := 22) hx hb hts g_X3 hown hE.1 hP 0 rfl rfl 0 (by decide) f_66 (fun _ h9 => h9) rfl dX3_addIssuer_85 ?_
        refine lv_if_le (tgt := 93) hx hb dX3_addIssuer_88 (by decide) (fun c_88 => absurd c_88 (by decide)) (fun _ => ?_)
        refine lv_iconst (v := 0) hx hb dX3_addIssuer_91 (by decide) ?_
        exact absurd hcd (by simp [cdAddM, c_8, c_19, c_43])
      · refine lv_aload_n hx hb dX3_addIssuer_46 rfl (lv_at hl 1 rfl) ?_
        refine lv_iload_n hx hb dX3_addIssuer_47 rfl (lv_at hl 2 rfl) ?_
        refine kcW_i (n := 1) (wc := wM cy m0 m1 m2 m3 m4 m5 m6 m7 m8 m9 m10 m11 m12 m13 m14 m15 m16 m17 th td sed mi fr to lim f1 f2 dis pin ag en cm mc su isu fir lgt ofs rn wsn) (As := [.int sg]) (rest := [.ref m0]) ⟨hx, hb, hml, hown, hts⟩ hE hA hP hD hS (c_X3_isIssuer l D cy m0 m1 m2 m3 m4 m5 m6 m7 m8 m9 m10 m11 m12 m13 m14 m15 m16 m17 th td sed mi fr to lim f1 f2 dis pin ag en cm mc su isu fir lgt ofs rn wsn sg (by first | assumption | omega)) (fun _ => rfl) (q0 := 0) (ci := 3) rfl rfl gX3_addIssuer_X3_isIssuer rfl rfl rfl ⟨rfl, by decide, by decide, by decide +kernel⟩ ⟨Nat.le_of_ble_eq_true rfl, Nat.le_of_ble_eq_true rfl⟩ rfl hl.1 rfl (Nat.le_of_ble_eq_true rfl) dX3_addIssuer_48 ⟨Nat.zero_le _, Nat.zero_le _⟩ (fun r_7 u H locs e_8 hP hD hS => ?_)
        have hP : va_P D vwCl (wM cy m0 m1 m2 m3 m4 m5 m6 m7 m8 m9 m10 m11 m12 m13 m14 m15 m16 m17 th td sed mi fr to lim f1 f2 dis pin ag en cm mc su isu fir lgt ofs rn wsn) H := hP
        have hD : va_D A (wM cy m0 m1 m2 m3 m4 m5 m6 m7 m8 m9 m10 m11 m12 m13 m14 m15 m16 m17 th td sed mi fr to lim f1 f2 dis pin ag en cm mc su isu fir lgt ofs rn wsn) := hD
        have e_8 : r_7 = bI (badI mi sg = false) := e_8
        subst e_8
        refine k_ifne (tgt := 58) hx hb dX3_addIssuer_51 (by decide) (fun c_51 => ?_) (fun c_51 => ?_)
        · refine lv_iload hx hb dX3_addIssuer_58 (lv_at hl 0 rfl) ?_
          refine lv_if_ne (tgt := 67) hx hb dX3_addIssuer_60 (by decide) (fun c_60 => absurd c_60 (by decide)) (fun _ => ?_)
          refine lv_iconst (v := 2) hx hb dX3_addIssuer_63 (by decide) ?_
          refine lv_goto (tgt := 81) hx hb dX3_addIssuer_64 (by decide) ?_
          refine va_put (D := D) (ci := 3) (v := .int 2) (ty := .int) (C := RX3) (T := TX3) (N := 22) hx hb hts g_X3 tyX3 tyX3_ok nmX3 hown hE.1 hP hD hS 0 rfl rfl 0 (by decide) f_66 (fun _ h9 => h9) rfl (by decide +kernel) rfl rfl (Nat.le_of_ble_eq_true rfl) dX3_addIssuer_81 (fun H locs hP hD hS => ?_)
          have hP : va_P D vwCl (wM cy m0 m1 m2 m3 m4 m5 m6 m7 m8 m9 m10 m11 m12 m13 m14 m15 m16 m17 2 td sed mi fr to lim f1 f2 dis pin ag en cm mc su isu fir lgt ofs rn wsn) H := hP
          have hD : va_D A (wM cy m0 m1 m2 m3 m4 m5 m6 m7 m8 m9 m10 m11 m12 m13 m14 m15 m16 m17 2 td sed mi fr to lim f1 f2 dis pin ag en cm mc su isu fir lgt ofs rn wsn) := hD
          refine lv_aload_n hx hb dX3_addIssuer_84 rfl (lv_at hl 1 rfl) ?_
          refine va_get (D := D) (ci := 3) (v := .int 2) (C := RX3) (T := TX3) (N := 22) hx hb hts g_X3 hown hE.1 hP 0 rfl rfl 0 (by decide) f_66 (fun _ h9 => h9) rfl dX3_addIssuer_85 ?_
          refine lv_if_le (tgt := 93) hx hb dX3_addIssuer_88 (by decide) (fun c_88 => absurd c_88 (by decide)) (fun _ => ?_)
          refine lv_iconst (v := 0) hx hb dX3_addIssuer_91 (by decide) ?_
          exact absurd hcd (by simp [cdAddM, c_8, c_19, c_43, c_51])
        · refine lv_iconst (v := 1) hx hb dX3_addIssuer_54 (by decide) ?_
          refine lv_goto (tgt := 81) hx hb dX3_addIssuer_55 (by decide) ?_
          refine va_put (D := D) (ci := 3) (v := .int 1) (ty := .int) (C := RX3) (T := TX3) (N := 22) hx hb hts g_X3 tyX3 tyX3_ok nmX3 hown hE.1 hP hD hS 0 rfl rfl 0 (by decide) f_66 (fun _ h9 => h9) rfl (by decide +kernel) rfl rfl (Nat.le_of_ble_eq_true rfl) dX3_addIssuer_81 (fun H locs hP hD hS => ?_)
          have hP : va_P D vwCl (wM cy m0 m1 m2 m3 m4 m5 m6 m7 m8 m9 m10 m11 m12 m13 m14 m15 m16 m17 1 td sed mi fr to lim f1 f2 dis pin ag en cm mc su isu fir lgt ofs rn wsn) H := hP
          have hD : va_D A (wM cy m0 m1 m2 m3 m4 m5 m6 m7 m8 m9 m10 m11 m12 m13 m14 m15 m16 m17 1 td sed mi fr to lim f1 f2 dis pin ag en cm mc su isu fir lgt ofs rn wsn) := hD
          refine lv_aload_n hx hb dX3_addIssuer_84 rfl (lv_at hl 1 rfl) ?_
          refine va_get (D := D) (ci := 3) (v := .int 1) (C := RX3) (T := TX3) (N := 22) hx hb hts g_X3 hown hE.1 hP 0 rfl rfl 0 (by decide) f_66 (fun _ h9 => h9) rfl dX3_addIssuer_85 ?_
          refine lv_if_le (tgt := 93) hx hb dX3_addIssuer_88 (by decide) (fun c_88 => absurd c_88 (by decide)) (fun _ => ?_)
          refine lv_iconst (v := 0) hx hb dX3_addIssuer_91 (by decide) ?_
          exact absurd hcd (by simp [cdAddM, c_8, c_19, c_43, c_51])
    · refine lv_iload hx hb dX3_addIssuer_22 (lv_at hl 4 rfl) ?_
      refine lv_iconst (v := 0) hx hb dX3_addIssuer_24 (by decide) ?_
      refine lv_bipush (v := 50) hx hb dX3_addIssuer_25 (by decide) ?_
      refine kcS_i (n := 3) (X := []) (wc := []) (Y := wM cy m0 m1 m2 m3 m4 m5 m6 m7 m8 m9 m10 m11 m12 m13 m14 m15 m16 m17 th td sed mi fr to lim f1 f2 dis pin ag en cm mc su isu fir lgt ofs rn wsn) (As := [.int li_, .int 0, .int 50]) (rest := []) ⟨hx, hb, hml, hown, hts⟩ hE hA hP hD hS (c_X3_in l D cy li_ 0 50) (fun _ => rfl) gX3_addIssuer_X3_in rfl rfl rfl ⟨by decide, by decide, by decide +kernel⟩ ⟨Nat.le_of_ble_eq_true rfl, Nat.le_of_ble_eq_true rfl⟩ rfl hl.1 rfl (Nat.le_of_ble_eq_true rfl) dX3_addIssuer_27 ⟨Nat.zero_le _, Nat.zero_le _⟩ (fun r_9 u H locs e_10 hP hD hS => ?_)
      have hP : va_P D vwCl (wM cy m0 m1 m2 m3 m4 m5 m6 m7 m8 m9 m10 m11 m12 m13 m14 m15 m16 m17 th td sed mi fr to lim f1 f2 dis pin ag en cm mc su isu fir lgt ofs rn wsn) H := hP
      have hD : va_D A (wM cy m0 m1 m2 m3 m4 m5 m6 m7 m8 m9 m10 m11 m12 m13 m14 m15 m16 m17 th td sed mi fr to lim f1 f2 dis pin ag en cm mc su isu fir lgt ofs rn wsn) := hD
      have e_10 : r_9 = bI (inB li_ 0 50 = true) := e_10
      subst e_10
      refine k_ifeq (tgt := 37) hx hb dX3_addIssuer_30 (by decide) (fun c_30 => ?_) (fun c_30 => ?_)
      · refine lv_iconst (v := 0) hx hb dX3_addIssuer_37 (by decide) ?_
        refine lv_istore (lv' := [(5, .int 0), (0, .ref m0), (1, .int sg), (2, .int fr_), (3, .int to_), (4, .int li_)]) hx hb dX3_addIssuer_38 hl (by decide) rfl (fun ls hl => ?_)
        refine lv_aload_n hx hb dX3_addIssuer_40 rfl (lv_at hl 1 rfl) ?_
        refine lv_iload_n hx hb dX3_addIssuer_41 rfl (lv_at hl 2 rfl) ?_
        refine lv_iconst (v := (-1)) hx hb dX3_addIssuer_42 (by decide) ?_
        refine lv_icmp_eq (tgt := 58) hx hb dX3_addIssuer_43 (by decide) (fun c_43 => ?_) (fun c_43 => ?_)
        · refine lv_iload hx hb dX3_addIssuer_58 (lv_at hl 0 rfl) ?_
          refine lv_if_ne (tgt := 67) hx hb dX3_addIssuer_60 (by decide) (fun c_60 => absurd c_60 (by decide)) (fun _ => ?_)
          refine lv_iconst (v := 2) hx hb dX3_addIssuer_63 (by decide) ?_
          refine lv_goto (tgt := 81) hx hb dX3_addIssuer_64 (by decide) ?_
          refine va_put (D := D) (ci := 3) (v := .int 2) (ty := .int) (C := RX3) (T := TX3) (N := 22) hx hb hts g_X3 tyX3 tyX3_ok nmX3 hown hE.1 hP hD hS 0 rfl rfl 0 (by decide) f_66 (fun _ h9 => h9) rfl (by decide +kernel) rfl rfl (Nat.le_of_ble_eq_true rfl) dX3_addIssuer_81 (fun H locs hP hD hS => ?_)
          have hP : va_P D vwCl (wM cy m0 m1 m2 m3 m4 m5 m6 m7 m8 m9 m10 m11 m12 m13 m14 m15 m16 m17 2 td sed mi fr to lim f1 f2 dis pin ag en cm mc su isu fir lgt ofs rn wsn) H := hP
          have hD : va_D A (wM cy m0 m1 m2 m3 m4 m5 m6 m7 m8 m9 m10 m11 m12 m13 m14 m15 m16 m17 2 td sed mi fr to lim f1 f2 dis pin ag en cm mc su isu fir lgt ofs rn wsn) := hD
          refine lv_aload_n hx hb dX3_addIssuer_84 rfl (lv_at hl 1 rfl) ?_
          refine va_get (D := D) (ci := 3) (v := .int 2) (C := RX3) (T := TX3) (N := 22) hx hb hts g_X3 hown hE.1 hP 0 rfl rfl 0 (by decide) f_66 (fun _ h9 => h9) rfl dX3_addIssuer_85 ?_
          refine lv_if_le (tgt := 93) hx hb dX3_addIssuer_88 (by decide) (fun c_88 => absurd c_88 (by decide)) (fun _ => ?_)
          refine lv_iconst (v := 0) hx hb dX3_addIssuer_91 (by decide) ?_
          exact absurd hcd (by simp [cdAddM, c_8, c_19, c_30, c_43])
        · refine lv_aload_n hx hb dX3_addIssuer_46 rfl (lv_at hl 1 rfl) ?_
          refine lv_iload_n hx hb dX3_addIssuer_47 rfl (lv_at hl 2 rfl) ?_
          refine kcW_i (n := 1) (wc := wM cy m0 m1 m2 m3 m4 m5 m6 m7 m8 m9 m10 m11 m12 m13 m14 m15 m16 m17 th td sed mi fr to lim f1 f2 dis pin ag en cm mc su isu fir lgt ofs rn wsn) (As := [.int sg]) (rest := [.ref m0]) ⟨hx, hb, hml, hown, hts⟩ hE hA hP hD hS (c_X3_isIssuer l D cy m0 m1 m2 m3 m4 m5 m6 m7 m8 m9 m10 m11 m12 m13 m14 m15 m16 m17 th td sed mi fr to lim f1 f2 dis pin ag en cm mc su isu fir lgt ofs rn wsn sg (by first | assumption | omega)) (fun _ => rfl) (q0 := 0) (ci := 3) rfl rfl gX3_addIssuer_X3_isIssuer rfl rfl rfl ⟨rfl, by decide, by decide, by decide +kernel⟩ ⟨Nat.le_of_ble_eq_true rfl, Nat.le_of_ble_eq_true rfl⟩ rfl hl.1 rfl (Nat.le_of_ble_eq_true rfl) dX3_addIssuer_48 ⟨Nat.zero_le _, Nat.zero_le _⟩ (fun r_11 u H locs e_12 hP hD hS => ?_)
          have hP : va_P D vwCl (wM cy m0 m1 m2 m3 m4 m5 m6 m7 m8 m9 m10 m11 m12 m13 m14 m15 m16 m17 th td sed mi fr to lim f1 f2 dis pin ag en cm mc su isu fir lgt ofs rn wsn) H := hP
          have hD : va_D A (wM cy m0 m1 m2 m3 m4 m5 m6 m7 m8 m9 m10 m11 m12 m13 m14 m15 m16 m17 th td sed mi fr to lim f1 f2 dis pin ag en cm mc su isu fir lgt ofs rn wsn) := hD
          have e_12 : r_11 = bI (badI mi sg = false) := e_12
          subst e_12
          refine k_ifne (tgt := 58) hx hb dX3_addIssuer_51 (by decide) (fun c_51 => ?_) (fun c_51 => ?_)
          · refine lv_iload hx hb dX3_addIssuer_58 (lv_at hl 0 rfl) ?_
            refine lv_if_ne (tgt := 67) hx hb dX3_addIssuer_60 (by decide) (fun c_60 => absurd c_60 (by decide)) (fun _ => ?_)
            refine lv_iconst (v := 2) hx hb dX3_addIssuer_63 (by decide) ?_
            refine lv_goto (tgt := 81) hx hb dX3_addIssuer_64 (by decide) ?_
            refine va_put (D := D) (ci := 3) (v := .int 2) (ty := .int) (C := RX3) (T := TX3) (N := 22) hx hb hts g_X3 tyX3 tyX3_ok nmX3 hown hE.1 hP hD hS 0 rfl rfl 0 (by decide) f_66 (fun _ h9 => h9) rfl (by decide +kernel) rfl rfl (Nat.le_of_ble_eq_true rfl) dX3_addIssuer_81 (fun H locs hP hD hS => ?_)
            have hP : va_P D vwCl (wM cy m0 m1 m2 m3 m4 m5 m6 m7 m8 m9 m10 m11 m12 m13 m14 m15 m16 m17 2 td sed mi fr to lim f1 f2 dis pin ag en cm mc su isu fir lgt ofs rn wsn) H := hP
            have hD : va_D A (wM cy m0 m1 m2 m3 m4 m5 m6 m7 m8 m9 m10 m11 m12 m13 m14 m15 m16 m17 2 td sed mi fr to lim f1 f2 dis pin ag en cm mc su isu fir lgt ofs rn wsn) := hD
            refine lv_aload_n hx hb dX3_addIssuer_84 rfl (lv_at hl 1 rfl) ?_
            refine va_get (D := D) (ci := 3) (v := .int 2) (C := RX3) (T := TX3) (N := 22) hx hb hts g_X3 hown hE.1 hP 0 rfl rfl 0 (by decide) f_66 (fun _ h9 => h9) rfl dX3_addIssuer_85 ?_
            refine lv_if_le (tgt := 93) hx hb dX3_addIssuer_88 (by decide) (fun c_88 => absurd c_88 (by decide)) (fun _ => ?_)
            refine lv_iconst (v := 0) hx hb dX3_addIssuer_91 (by decide) ?_
            exact absurd hcd (by simp [cdAddM, c_8, c_19, c_30, c_43, c_51])
          · refine lv_iconst (v := 1) hx hb dX3_addIssuer_54 (by decide) ?_
            refine lv_goto (tgt := 81) hx hb dX3_addIssuer_55 (by decide) ?_
            refine va_put (D := D) (ci := 3) (v := .int 1) (ty := .int) (C := RX3) (T := TX3) (N := 22) hx hb hts g_X3 tyX3 tyX3_ok nmX3 hown hE.1 hP hD hS 0 rfl rfl 0 (by decide) f_66 (fun _ h9 => h9) rfl (by decide +kernel) rfl rfl (Nat.le_of_ble_eq_true rfl) dX3_addIssuer_81 (fun H locs hP hD hS => ?_)
            have hP : va_P D vwCl (wM cy m0 m1 m2 m3 m4 m5 m6 m7 m8 m9 m10 m11 m12 m13 m14 m15 m16 m17 1 td sed mi fr to lim f1 f2 dis pin ag en cm mc su isu fir lgt ofs rn wsn) H := hP
            have hD : va_D A (wM cy m0 m1 m2 m3 m4 m5 m6 m7 m8 m9 m10 m11 m12 m13 m14 m15 m16 m17 1 td sed mi fr to lim f1 f2 dis pin ag en cm mc su isu fir lgt ofs rn wsn) := hD
            refine lv_aload_n hx hb dX3_addIssuer_84 rfl (lv_at hl 1 rfl) ?_
            refine va_get (D := D) (ci := 3) (v := .int 1) (C := RX3) (T := TX3) (N := 22) hx hb hts g_X3 hown hE.1 hP 0 rfl rfl 0 (by decide) f_66 (fun _ h9 => h9) rfl dX3_addIssuer_85 ?_
            refine lv_if_le (tgt := 93) hx hb dX3_addIssuer_88 (by decide) (fun c_88 => absurd c_88 (by decide)) (fun _ => ?_)
            refine lv_iconst (v := 0) hx hb dX3_addIssuer_91 (by decide) ?_
            exact absurd hcd (by simp [cdAddM, c_8, c_19, c_30, c_43, c_51])
      · refine lv_iconst (v := 1) hx hb dX3_addIssuer_33 (by decide) ?_
        refine lv_goto (tgt := 38) hx hb dX3_addIssuer_34 (by decide) ?_
        refine lv_istore (lv' := [(5, .int 1), (0, .ref m0), (1, .int sg), (2, .int fr_), (3, .int to_), (4, .int li_)]) hx hb dX3_addIssuer_38 hl (by decide) rfl (fun ls hl => ?_)
        refine lv_aload_n hx hb dX3_addIssuer_40 rfl (lv_at hl 1 rfl) ?_
        refine lv_iload_n hx hb dX3_addIssuer_41 rfl (lv_at hl 2 rfl) ?_
        refine lv_iconst (v := (-1)) hx hb dX3_addIssuer_42 (by decide) ?_
        refine lv_icmp_eq (tgt := 58) hx hb dX3_addIssuer_43 (by decide) (fun c_43 => ?_) (fun c_43 => ?_)
        · refine lv_iload hx hb dX3_addIssuer_58 (lv_at hl 0 rfl) ?_
          refine lv_if_ne (tgt := 67) hx hb dX3_addIssuer_60 (by decide) (fun _ => ?_) (fun c_60 => absurd c_60 (by decide))
          refine lv_aload_n hx hb dX3_addIssuer_67 rfl (lv_at hl 1 rfl) ?_
          refine va_get (D := D) (ci := 3) (v := .int (nI mi)) (C := RX3) (T := TX3) (N := 22) hx hb hts g_X3 hown hE.1 hP 0 rfl rfl 3 (by decide) f_69 (fun _ h9 => h9) rfl dX3_addIssuer_68 ?_
          refine lv_bipush (v := 8) hx hb dX3_addIssuer_71 (by decide) ?_
          refine lv_icmp_ne (tgt := 80) hx hb dX3_addIssuer_73 (by decide) (fun c_73 => ?_) (fun c_73 => ?_)
          · have c_73n : ¬ mi = 8 := k_neN (a := mi) (b := 8) (by omega) (by omega) c_73
            refine lv_iconst (v := 0) hx hb dX3_addIssuer_80 (by decide) ?_
            refine va_put (D := D) (ci := 3) (v := .int 0) (ty := .int) (C := RX3) (T := TX3) (N := 22) hx hb hts g_X3 tyX3 tyX3_ok nmX3 hown hE.1 hP hD hS 0 rfl rfl 0 (by decide) f_66 (fun _ h9 => h9) rfl (by decide +kernel) rfl rfl (Nat.le_of_ble_eq_true rfl) dX3_addIssuer_81 (fun H locs hP hD hS => ?_)
            have hP : va_P D vwCl (wM cy m0 m1 m2 m3 m4 m5 m6 m7 m8 m9 m10 m11 m12 m13 m14 m15 m16 m17 0 td sed mi fr to lim f1 f2 dis pin ag en cm mc su isu fir lgt ofs rn wsn) H := hP
            have hD : va_D A (wM cy m0 m1 m2 m3 m4 m5 m6 m7 m8 m9 m10 m11 m12 m13 m14 m15 m16 m17 0 td sed mi fr to lim f1 f2 dis pin ag en cm mc su isu fir lgt ofs rn wsn) := hD
            refine lv_aload_n hx hb dX3_addIssuer_84 rfl (lv_at hl 1 rfl) ?_
            refine va_get (D := D) (ci := 3) (v := .int 0) (C := RX3) (T := TX3) (N := 22) hx hb hts g_X3 hown hE.1 hP 0 rfl rfl 0 (by decide) f_66 (fun _ h9 => h9) rfl dX3_addIssuer_85 ?_
            refine lv_if_le (tgt := 93) hx hb dX3_addIssuer_88 (by decide) (fun _ => ?_) (fun c_88 => absurd c_88 (by decide))
            have hm8 : mi < 8 := by omega
            refine lv_aload_n hx hb dX3_addIssuer_93 rfl (lv_at hl 1 rfl) ?_
            refine va_get (D := D) (ci := 3) (v := .ref m1) (C := RX3) (T := TX3) (N := 22) hx hb hts g_X3 hown hE.1 hP 0 rfl rfl 4 (by decide) f_13 (fun _ h9 => h9) rfl dX3_addIssuer_94 ?_
            refine lv_aload_n hx hb dX3_addIssuer_97 rfl (lv_at hl 1 rfl) ?_
            refine va_get (D := D) (ci := 3) (v := .int (nI mi)) (C := RX3) (T := TX3) (N := 22) hx hb hts g_X3 hown hE.1 hP 0 rfl rfl 3 (by decide) f_69 (fun _ h9 => h9) rfl dX3_addIssuer_98 ?_
            refine lv_iload_n hx hb dX3_addIssuer_101 rfl (lv_at hl 3 rfl) ?_
            refine k_ist hx hb hE.1 hP hD hS 1 0 rfl rfl (j := mi) (by omega) (by decide) dX3_addIssuer_102 (fun H locs hP hD hS => ?_)
            have hP : va_P D vwCl (wM cy m0 m1 m2 m3 m4 m5 m6 m7 m8 m9 m10 m11 m12 m13 m14 m15 m16 m17 0 td sed mi (upd fr mi fr_) to lim f1 f2 dis pin ag en cm mc su isu fir lgt ofs rn wsn) H := hP
            have hD : va_D A (wM cy m0 m1 m2 m3 m4 m5 m6 m7 m8 m9 m10 m11 m12 m13 m14 m15 m16 m17 0 td sed mi (upd fr mi fr_) to lim f1 f2 dis pin ag en cm mc su isu fir lgt ofs rn wsn) := hD
            refine lv_aload_n hx hb dX3_addIssuer_103 rfl (lv_at hl 1 rfl) ?_
            refine va_get (D := D) (ci := 3) (v := .ref m2) (C := RX3) (T := TX3) (N := 22) hx hb hts g_X3 hown hE.1 hP 0 rfl rfl 5 (by decide) f_17 (fun _ h9 => h9) rfl dX3_addIssuer_104 ?_
            refine lv_aload_n hx hb dX3_addIssuer_107 rfl (lv_at hl 1 rfl) ?_
            refine va_get (D := D) (ci := 3) (v := .int (nI mi)) (C := RX3) (T := TX3) (N := 22) hx hb hts g_X3 hown hE.1 hP 0 rfl rfl 3 (by decide) f_69 (fun _ h9 => h9) rfl dX3_addIssuer_108 ?_
            refine lv_iload_n hx hb dX3_addIssuer_111 rfl (lv_at hl 4 rfl) ?_
            refine k_ist hx hb hE.1 hP hD hS 2 0 rfl rfl (j := mi) (by omega) (by decide) dX3_addIssuer_112 (fun H locs hP hD hS => ?_)
            have hP : va_P D vwCl (wM cy m0 m1 m2 m3 m4 m5 m6 m7 m8 m9 m10 m11 m12 m13 m14 m15 m16 m17 0 td sed mi (upd fr mi fr_) (upd to mi to_) lim f1 f2 dis pin ag en cm mc su isu fir lgt ofs rn wsn) H := hP
            have hD : va_D A (wM cy m0 m1 m2 m3 m4 m5 m6 m7 m8 m9 m10 m11 m12 m13 m14 m15 m16 m17 0 td sed mi (upd fr mi fr_) (upd to mi to_) lim f1 f2 dis pin ag en cm mc su isu fir lgt ofs rn wsn) := hD
            refine lv_aload_n hx hb dX3_addIssuer_113 rfl (lv_at hl 1 rfl) ?_
            refine va_get (D := D) (ci := 3) (v := .ref m3) (C := RX3) (T := TX3) (N := 22) hx hb hts g_X3 hown hE.1 hP 0 rfl rfl 6 (by decide) f_20 (fun _ h9 => h9) rfl dX3_addIssuer_114 ?_
            refine lv_aload_n hx hb dX3_addIssuer_117 rfl (lv_at hl 1 rfl) ?_
            refine va_get (D := D) (ci := 3) (v := .int (nI mi)) (C := RX3) (T := TX3) (N := 22) hx hb hts g_X3 hown hE.1 hP 0 rfl rfl 3 (by decide) f_69 (fun _ h9 => h9) rfl dX3_addIssuer_118 ?_
            refine lv_iload hx hb dX3_addIssuer_121 (lv_at hl 5 rfl) ?_
            refine k_ist hx hb hE.1 hP hD hS 3 0 rfl rfl (j := mi) (by omega) (by decide) dX3_addIssuer_123 (fun H locs hP hD hS => ?_)
            have hP : va_P D vwCl (wM cy m0 m1 m2 m3 m4 m5 m6 m7 m8 m9 m10 m11 m12 m13 m14 m15 m16 m17 0 td sed mi (upd fr mi fr_) (upd to mi to_) (upd lim mi li_) f1 f2 dis pin ag en cm mc su isu fir lgt ofs rn wsn) H := hP
            have hD : va_D A (wM cy m0 m1 m2 m3 m4 m5 m6 m7 m8 m9 m10 m11 m12 m13 m14 m15 m16 m17 0 td sed mi (upd fr mi fr_) (upd to mi to_) (upd lim mi li_) f1 f2 dis pin ag en cm mc su isu fir lgt ofs rn wsn) := hD
            refine lv_aload_n hx hb dX3_addIssuer_124 rfl (lv_at hl 1 rfl) ?_
            refine va_get (D := D) (ci := 3) (v := .ref m4) (C := RX3) (T := TX3) (N := 22) hx hb hts g_X3 hown hE.1 hP 0 rfl rfl 7 (by decide) f_23 (fun _ h9 => h9) rfl dX3_addIssuer_125 ?_
            refine lv_aload_n hx hb dX3_addIssuer_128 rfl (lv_at hl 1 rfl) ?_
            refine va_get (D := D) (ci := 3) (v := .int (nI mi)) (C := RX3) (T := TX3) (N := 22) hx hb hts g_X3 hown hE.1 hP 0 rfl rfl 3 (by decide) f_69 (fun _ h9 => h9) rfl dX3_addIssuer_129 ?_
            refine lv_iload_n hx hb dX3_addIssuer_132 rfl (lv_at hl 2 rfl) ?_
            refine k_ist hx hb hE.1 hP hD hS 4 0 rfl rfl (j := mi) (by omega) (by decide) dX3_addIssuer_133 (fun H locs hP hD hS => ?_)
            have hP : va_P D vwCl (wM cy m0 m1 m2 m3 m4 m5 m6 m7 m8 m9 m10 m11 m12 m13 m14 m15 m16 m17 0 td sed mi (upd fr mi fr_) (upd to mi to_) (upd lim mi li_) (upd f1 mi sg) f2 dis pin ag en cm mc su isu fir lgt ofs rn wsn) H := hP
            have hD : va_D A (wM cy m0 m1 m2 m3 m4 m5 m6 m7 m8 m9 m10 m11 m12 m13 m14 m15 m16 m17 0 td sed mi (upd fr mi fr_) (upd to mi to_) (upd lim mi li_) (upd f1 mi sg) f2 dis pin ag en cm mc su isu fir lgt ofs rn wsn) := hD
            refine lv_aload_n hx hb dX3_addIssuer_134 rfl (lv_at hl 1 rfl) ?_
            refine va_get (D := D) (ci := 3) (v := .ref m5) (C := RX3) (T := TX3) (N := 22) hx hb hts g_X3 hown hE.1 hP 0 rfl rfl 8 (by decide) f_26 (fun _ h9 => h9) rfl dX3_addIssuer_135 ?_
            refine lv_aload_n hx hb dX3_addIssuer_138 rfl (lv_at hl 1 rfl) ?_
            refine va_get (D := D) (ci := 3) (v := .int (nI mi)) (C := RX3) (T := TX3) (N := 22) hx hb hts g_X3 hown hE.1 hP 0 rfl rfl 3 (by decide) f_69 (fun _ h9 => h9) rfl dX3_addIssuer_139 ?_
            refine lv_iconst (v := (-1)) hx hb dX3_addIssuer_142 (by decide) ?_
            refine k_ist hx hb hE.1 hP hD hS 5 0 rfl rfl (j := mi) (by omega) (by decide) dX3_addIssuer_143 (fun H locs hP hD hS => ?_)
            have hP : va_P D vwCl (wM cy m0 m1 m2 m3 m4 m5 m6 m7 m8 m9 m10 m11 m12 m13 m14 m15 m16 m17 0 td sed mi (upd fr mi fr_) (upd to mi to_) (upd lim mi li_) (upd f1 mi sg) (upd f2 mi (-1)) dis pin ag en cm mc su isu fir lgt ofs rn wsn) H := hP
            have hD : va_D A (wM cy m0 m1 m2 m3 m4 m5 m6 m7 m8 m9 m10 m11 m12 m13 m14 m15 m16 m17 0 td sed mi (upd fr mi fr_) (upd to mi to_) (upd lim mi li_) (upd f1 mi sg) (upd f2 mi (-1)) dis pin ag en cm mc su isu fir lgt ofs rn wsn) := hD
            refine lv_aload_n hx hb dX3_addIssuer_144 rfl (lv_at hl 1 rfl) ?_
            refine va_get (D := D) (ci := 3) (v := .ref m6) (C := RX3) (T := TX3) (N := 22) hx hb hts g_X3 hown hE.1 hP 0 rfl rfl 9 (by decide) f_29 (fun _ h9 => h9) rfl dX3_addIssuer_145 ?_
            refine lv_aload_n hx hb dX3_addIssuer_148 rfl (lv_at hl 1 rfl) ?_
            refine va_get (D := D) (ci := 3) (v := .int (nI mi)) (C := RX3) (T := TX3) (N := 22) hx hb hts g_X3 hown hE.1 hP 0 rfl rfl 3 (by decide) f_69 (fun _ h9 => h9) rfl dX3_addIssuer_149 ?_
            refine lv_iconst (v := (-1)) hx hb dX3_addIssuer_152 (by decide) ?_
            refine k_ist hx hb hE.1 hP hD hS 6 0 rfl rfl (j := mi) (by omega) (by decide) dX3_addIssuer_153 (fun H locs hP hD hS => ?_)
            have hP : va_P D vwCl (wM cy m0 m1 m2 m3 m4 m5 m6 m7 m8 m9 m10 m11 m12 m13 m14 m15 m16 m17 0 td sed mi (upd fr mi fr_) (upd to mi to_) (upd lim mi li_) (upd f1 mi sg) (upd f2 mi (-1)) (upd dis mi (-1)) pin ag en cm mc su isu fir lgt ofs rn wsn) H := hP
            have hD : va_D A (wM cy m0 m1 m2 m3 m4 m5 m6 m7 m8 m9 m10 m11 m12 m13 m14 m15 m16 m17 0 td sed mi (upd fr mi fr_) (upd to mi to_) (upd lim mi li_) (upd f1 mi sg) (upd f2 mi (-1)) (upd dis mi (-1)) pin ag en cm mc su isu fir lgt ofs rn wsn) := hD
            refine lv_aload_n hx hb dX3_addIssuer_154 rfl (lv_at hl 1 rfl) ?_
            refine lv_dup hx hb dX3_addIssuer_155 rfl ?_
            refine va_get (D := D) (ci := 3) (v := .int (nI mi)) (C := RX3) (T := TX3) (N := 22) hx hb hts g_X3 hown hE.1 hP 0 rfl rfl 3 (by decide) f_69 (fun _ h9 => h9) rfl dX3_addIssuer_156 ?_
            refine lv_iconst (v := 1) hx hb dX3_addIssuer_159 (by decide) ?_
            refine lv_iadd hx hb dX3_addIssuer_160 ?_
            refine k_top (z := nI (mi + 1)) (nI_1 _) ?_
            refine va_put (D := D) (ci := 3) (v := .int (nI (mi + 1))) (ty := .int) (C := RX3) (T := TX3) (N := 22) hx hb hts g_X3 tyX3 tyX3_ok nmX3 hown hE.1 hP hD hS 0 rfl rfl 3 (by decide) f_69 (fun _ h9 => h9) rfl (by decide +kernel) rfl rfl (Nat.le_of_ble_eq_true rfl) dX3_addIssuer_161 (fun H locs hP hD hS => ?_)
            have hP : va_P D vwCl (wM cy m0 m1 m2 m3 m4 m5 m6 m7 m8 m9 m10 m11 m12 m13 m14 m15 m16 m17 0 td sed (mi + 1) (upd fr mi fr_) (upd to mi to_) (upd lim mi li_) (upd f1 mi sg) (upd f2 mi (-1)) (upd dis mi (-1)) pin ag en cm mc su isu fir lgt ofs rn wsn) H := hP
            have hD : va_D A (wM cy m0 m1 m2 m3 m4 m5 m6 m7 m8 m9 m10 m11 m12 m13 m14 m15 m16 m17 0 td sed (mi + 1) (upd fr mi fr_) (upd to mi to_) (upd lim mi li_) (upd f1 mi sg) (upd f2 mi (-1)) (upd dis mi (-1)) pin ag en cm mc su isu fir lgt ofs rn wsn) := hD
            refine lv_aload_n hx hb dX3_addIssuer_164 rfl (lv_at hl 1 rfl) ?_
            refine va_get (D := D) (ci := 3) (v := .int (nI (mi + 1))) (C := RX3) (T := TX3) (N := 22) hx hb hts g_X3 hown hE.1 hP 0 rfl rfl 3 (by decide) f_69 (fun _ h9 => h9) rfl dX3_addIssuer_165 ?_
            refine lv_iconst (v := 1) hx hb dX3_addIssuer_168 (by decide) ?_
            refine lv_isub hx hb dX3_addIssuer_169 ?_
            refine k_top (z := nI mi) (nI_pred _) ?_
            exact hret _ _ _ _ (nI mi) () dX3_addIssuer_170 (Or.inl rfl) rfl hP hS
          · have c_73n : mi = 8 := k_eqN (a := mi) (b := 8) (by omega) (by omega) c_73
            refine lv_iconst (v := 3) hx hb dX3_addIssuer_76 (by decide) ?_
            refine lv_goto (tgt := 81) hx hb dX3_addIssuer_77 (by decide) ?_
            refine va_put (D := D) (ci := 3) (v := .int 3) (ty := .int) (C := RX3) (T := TX3) (N := 22) hx hb hts g_X3 tyX3 tyX3_ok nmX3 hown hE.1 hP hD hS 0 rfl rfl 0 (by decide) f_66 (fun _ h9 => h9) rfl (by decide +kernel) rfl rfl (Nat.le_of_ble_eq_true rfl) dX3_addIssuer_81 (fun H locs hP hD hS => ?_)
            have hP : va_P D vwCl (wM cy m0 m1 m2 m3 m4 m5 m6 m7 m8 m9 m10 m11 m12 m13 m14 m15 m16 m17 3 td sed mi fr to lim f1 f2 dis pin ag en cm mc su isu fir lgt ofs rn wsn) H := hP
            have hD : va_D A (wM cy m0 m1 m2 m3 m4 m5 m6 m7 m8 m9 m10 m11 m12 m13 m14 m15 m16 m17 3 td sed mi fr to lim f1 f2 dis pin ag en cm mc su isu fir lgt ofs rn wsn) := hD
            refine lv_aload_n hx hb dX3_addIssuer_84 rfl (lv_at hl 1 rfl) ?_
            refine va_get (D := D) (ci := 3) (v := .int 3) (C := RX3) (T := TX3) (N := 22) hx hb hts g_X3 hown hE.1 hP 0 rfl rfl 0 (by decide) f_66 (fun _ h9 => h9) rfl dX3_addIssuer_85 ?_
            refine lv_if_le (tgt := 93) hx hb dX3_addIssuer_88 (by decide) (fun c_88 => absurd c_88 (by decide)) (fun _ => ?_)
            refine lv_iconst (v := 0) hx hb dX3_addIssuer_91 (by decide) ?_
            exact absurd hcd (by simp [cdAddM, c_8, c_19, c_30, c_43, c_73])
        · refine lv_aload_n hx hb dX3_addIssuer_46 rfl (lv_at hl 1 rfl) ?_
          refine lv_iload_n hx hb dX3_addIssuer_47 rfl (lv_at hl 2 rfl) ?_
          refine kcW_i (n := 1) (wc := wM cy m0 m1 m2 m3 m4 m5 m6 m7 m8 m9 m10 m11 m12 m13 m14 m15 m16 m17 th td sed mi fr to lim f1 f2 dis pin ag en cm mc su isu fir lgt ofs rn wsn) (As := [.int sg]) (rest := [.ref m0]) ⟨hx, hb, hml, hown, hts⟩ hE hA hP hD hS (c_X3_isIssuer l D cy m0 m1 m2 m3 m4 m5 m6 m7 m8 m9 m10 m11 m12 m13 m14 m15 m16 m17 th td sed mi fr to lim f1 f2 dis pin ag en cm mc su isu fir lgt ofs rn wsn sg (by first | assumption | omega)) (fun _ => rfl) (q0 := 0) (ci := 3) rfl rfl gX3_addIssuer_X3_isIssuer rfl rfl rfl ⟨rfl, by decide, by decide, by decide +kernel⟩ ⟨Nat.le_of_ble_eq_true rfl, Nat.le_of_ble_eq_true rfl⟩ rfl hl.1 rfl (Nat.le_of_ble_eq_true rfl) dX3_addIssuer_48 ⟨Nat.zero_le _, Nat.zero_le _⟩ (fun r_13 u H locs e_14 hP hD hS => ?_)
          have hP : va_P D vwCl (wM cy m0 m1 m2 m3 m4 m5 m6 m7 m8 m9 m10 m11 m12 m13 m14 m15 m16 m17 th td sed mi fr to lim f1 f2 dis pin ag en cm mc su isu fir lgt ofs rn wsn) H := hP
          have hD : va_D A (wM cy m0 m1 m2 m3 m4 m5 m6 m7 m8 m9 m10 m11 m12 m13 m14 m15 m16 m17 th td sed mi fr to lim f1 f2 dis pin ag en cm mc su isu fir lgt ofs rn wsn) := hD
          have e_14 : r_13 = bI (badI mi sg = false) := e_14
          subst e_14
          refine k_ifne (tgt := 58) hx hb dX3_addIssuer_51 (by decide) (fun c_51 => ?_) (fun c_51 => ?_)
          · refine lv_iload hx hb dX3_addIssuer_58 (lv_at hl 0 rfl) ?_
            refine lv_if_ne (tgt := 67) hx hb dX3_addIssuer_60 (by decide) (fun _ => ?_) (fun c_60 => absurd c_60 (by decide))
            refine lv_aload_n hx hb dX3_addIssuer_67 rfl (lv_at hl 1 rfl) ?_
            refine va_get (D := D) (ci := 3) (v := .int (nI mi)) (C := RX3) (T := TX3) (N := 22) hx hb hts g_X3 hown hE.1 hP 0 rfl rfl 3 (by decide) f_69 (fun _ h9 => h9) rfl dX3_addIssuer_68 ?_
            refine lv_bipush (v := 8) hx hb dX3_addIssuer_71 (by decide) ?_
            refine lv_icmp_ne (tgt := 80) hx hb dX3_addIssuer_73 (by decide) (fun c_73 => ?_) (fun c_73 => ?_)
            · have c_73n : ¬ mi = 8 := k_neN (a := mi) (b := 8) (by omega) (by omega) c_73
              refine lv_iconst (v := 0) hx hb dX3_addIssuer_80 (by decide) ?_
              refine va_put (D := D) (ci := 3) (v := .int 0) (ty := .int) (C := RX3) (T := TX3) (N := 22) hx hb hts g_X3 tyX3 tyX3_ok nmX3 hown hE.1 hP hD hS 0 rfl rfl 0 (by decide) f_66 (fun _ h9 => h9) rfl (by decide +kernel) rfl rfl (Nat.le_of_ble_eq_true rfl) dX3_addIssuer_81 (fun H locs hP hD hS => ?_)
              have hP : va_P D vwCl (wM cy m0 m1 m2 m3 m4 m5 m6 m7 m8 m9 m10 m11 m12 m13 m14 m15 m16 m17 0 td sed mi fr to lim f1 f2 dis pin ag en cm mc su isu fir lgt ofs rn wsn) H := hP
              have hD : va_D A (wM cy m0 m1 m2 m3 m4 m5 m6 m7 m8 m9 m10 m11 m12 m13 m14 m15 m16 m17 0 td sed mi fr to lim f1 f2 dis pin ag en cm mc su isu fir lgt ofs rn wsn) := hD
              refine lv_aload_n hx hb dX3_addIssuer_84 rfl (lv_at hl 1 rfl) ?_
              refine va_get (D := D) (ci := 3) (v := .int 0) (C := RX3) (T := TX3) (N := 22) hx hb hts g_X3 hown hE.1 hP 0 rfl rfl 0 (by decide) f_66 (fun _ h9 => h9) rfl dX3_addIssuer_85 ?_
              refine lv_if_le (tgt := 93) hx hb dX3_addIssuer_88 (by decide) (fun _ => ?_) (fun c_88 => absurd c_88 (by decide))
              have hm8 : mi < 8 := by omega
              refine lv_aload_n hx hb dX3_addIssuer_93 rfl (lv_at hl 1 rfl) ?_
              refine va_get (D := D) (ci := 3) (v := .ref m1) (C := RX3) (T := TX3) (N := 22) hx hb hts g_X3 hown hE.1 hP 0 rfl rfl 4 (by decide) f_13 (fun _ h9 => h9) rfl dX3_addIssuer_94 ?_
              refine lv_aload_n hx hb dX3_addIssuer_97 rfl (lv_at hl 1 rfl) ?_
              refine va_get (D := D) (ci := 3) (v := .int (nI mi)) (C := RX3) (T := TX3) (N := 22) hx hb hts g_X3 hown hE.1 hP 0 rfl rfl 3 (by decide) f_69 (fun _ h9 => h9) rfl dX3_addIssuer_98 ?_
              refine lv_iload_n hx hb dX3_addIssuer_101 rfl (lv_at hl 3 rfl) ?_
              refine k_ist hx hb hE.1 hP hD hS 1 0 rfl rfl (j := mi) (by omega) (by decide) dX3_addIssuer_102 (fun H locs hP hD hS => ?_)
              have hP : va_P D vwCl (wM cy m0 m1 m2 m3 m4 m5 m6 m7 m8 m9 m10 m11 m12 m13 m14 m15 m16 m17 0 td sed mi (upd fr mi fr_) to lim f1 f2 dis pin ag en cm mc su isu fir lgt ofs rn wsn) H := hP
              have hD : va_D A (wM cy m0 m1 m2 m3 m4 m5 m6 m7 m8 m9 m10 m11 m12 m13 m14 m15 m16 m17 0 td sed mi (upd fr mi fr_) to lim f1 f2 dis pin ag en cm mc su isu fir lgt ofs rn wsn) := hD
              refine lv_aload_n hx hb dX3_addIssuer_103 rfl (lv_at hl 1 rfl) ?_
              refine va_get (D := D) (ci := 3) (v := .ref m2) (C := RX3) (T := TX3) (N := 22) hx hb hts g_X3 hown hE.1 hP 0 rfl rfl 5 (by decide) f_17 (fun _ h9 => h9) rfl dX3_addIssuer_104 ?_
              refine lv_aload_n hx hb dX3_addIssuer_107 rfl (lv_at hl 1 rfl) ?_
              refine va_get (D := D) (ci := 3) (v := .int (nI mi)) (C := RX3) (T := TX3) (N := 22) hx hb hts g_X3 hown hE.1 hP 0 rfl rfl 3 (by decide) f_69 (fun _ h9 => h9) rfl dX3_addIssuer_108 ?_
              refine lv_iload_n hx hb dX3_addIssuer_111 rfl (lv_at hl 4 rfl) ?_
              refine k_ist hx hb hE.1 hP hD hS 2 0 rfl rfl (j := mi) (by omega) (by decide) dX3_addIssuer_112 (fun H locs hP hD hS => ?_)
              have hP : va_P D vwCl (wM cy m0 m1 m2 m3 m4 m5 m6 m7 m8 m9 m10 m11 m12 m13 m14 m15 m16 m17 0 td sed mi (upd fr mi fr_) (upd to mi to_) lim f1 f2 dis pin ag en cm mc su isu fir lgt ofs rn wsn) H := hP
              have hD : va_D A (wM cy m0 m1 m2 m3 m4 m5 m6 m7 m8 m9 m10 m11 m12 m13 m14 m15 m16 m17 0 td sed mi (upd fr mi fr_) (upd to mi to_) lim f1 f2 dis pin ag en cm mc su isu fir lgt ofs rn wsn) := hD
              refine lv_aload_n hx hb dX3_addIssuer_113 rfl (lv_at hl 1 rfl) ?_
              refine va_get (D := D) (ci := 3) (v := .ref m3) (C := RX3) (T := TX3) (N := 22) hx hb hts g_X3 hown hE.1 hP 0 rfl rfl 6 (by decide) f_20 (fun _ h9 => h9) rfl dX3_addIssuer_114 ?_
              refine lv_aload_n hx hb dX3_addIssuer_117 rfl (lv_at hl 1 rfl) ?_
              refine va_get (D := D) (ci := 3) (v := .int (nI mi)) (C := RX3) (T := TX3) (N := 22) hx hb hts g_X3 hown hE.1 hP 0 rfl rfl 3 (by decide) f_69 (fun _ h9 => h9) rfl dX3_addIssuer_118 ?_
              refine lv_iload hx hb dX3_addIssuer_121 (lv_at hl 5 rfl) ?_
              refine k_ist hx hb hE.1 hP hD hS 3 0 rfl rfl (j := mi) (by omega) (by decide) dX3_addIssuer_123 (fun H locs hP hD hS => ?_)
              have hP : va_P D vwCl (wM cy m0 m1 m2 m3 m4 m5 m6 m7 m8 m9 m10 m11 m12 m13 m14 m15 m16 m17 0 td sed mi (upd fr mi fr_) (upd to mi to_) (upd lim mi li_) f1 f2 dis pin ag en cm mc su isu fir lgt ofs rn wsn) H := hP
              have hD : va_D A (wM cy m0 m1 m2 m3 m4 m5 m6 m7 m8 m9 m10 m11 m12 m13 m14 m15 m16 m17 0 td sed mi (upd fr mi fr_) (upd to mi to_) (upd lim mi li_) f1 f2 dis pin ag en cm mc su isu fir lgt ofs rn wsn) := hD
              refine lv_aload_n hx hb dX3_addIssuer_124 rfl (lv_at hl 1 rfl) ?_
              refine va_get (D := D) (ci := 3) (v := .ref m4) (C := RX3) (T := TX3) (N := 22) hx hb hts g_X3 hown hE.1 hP 0 rfl rfl 7 (by decide) f_23 (fun _ h9 => h9) rfl dX3_addIssuer_125 ?_
              refine lv_aload_n hx hb dX3_addIssuer_128 rfl (lv_at hl 1 rfl) ?_
              refine va_get (D := D) (ci := 3) (v := .int (nI mi)) (C := RX3) (T := TX3) (N := 22) hx hb hts g_X3 hown hE.1 hP 0 rfl rfl 3 (by decide) f_69 (fun _ h9 => h9) rfl dX3_addIssuer_129 ?_
              refine lv_iload_n hx hb dX3_addIssuer_132 rfl (lv_at hl 2 rfl) ?_
              refine k_ist hx hb hE.1 hP hD hS 4 0 rfl rfl (j := mi) (by omega) (by decide) dX3_addIssuer_133 (fun H locs hP hD hS => ?_)
              have hP : va_P D vwCl (wM cy m0 m1 m2 m3 m4 m5 m6 m7 m8 m9 m10 m11 m12 m13 m14 m15 m16 m17 0 td sed mi (upd fr mi fr_) (upd to mi to_) (upd lim mi li_) (upd f1 mi sg) f2 dis pin ag en cm mc su isu fir lgt ofs rn wsn) H := hP
              have hD : va_D A (wM cy m0 m1 m2 m3 m4 m5 m6 m7 m8 m9 m10 m11 m12 m13 m14 m15 m16 m17 0 td sed mi (upd fr mi fr_) (upd to mi to_) (upd lim mi li_) (upd f1 mi sg) f2 dis pin ag en cm mc su isu fir lgt ofs rn wsn) := hD
              refine lv_aload_n hx hb dX3_addIssuer_134 rfl (lv_at hl 1 rfl) ?_
              refine va_get (D := D) (ci := 3) (v := .ref m5) (C := RX3) (T := TX3) (N := 22) hx hb hts g_X3 hown hE.1 hP 0 rfl rfl 8 (by decide) f_26 (fun _ h9 => h9) rfl dX3_addIssuer_135 ?_
              refine lv_aload_n hx hb dX3_addIssuer_138 rfl (lv_at hl 1 rfl) ?_
              refine va_get (D := D) (ci := 3) (v := .int (nI mi)) (C := RX3) (T := TX3) (N := 22) hx hb hts g_X3 hown hE.1 hP 0 rfl rfl 3 (by decide) f_69 (fun _ h9 => h9) rfl dX3_addIssuer_139 ?_
              refine lv_iconst (v := (-1)) hx hb dX3_addIssuer_142 (by decide) ?_
              refine k_ist hx hb hE.1 hP hD hS 5 0 rfl rfl (j := mi) (by omega) (by decide) dX3_addIssuer_143 (fun H locs hP hD hS => ?_)
              have hP : va_P D vwCl (wM cy m0 m1 m2 m3 m4 m5 m6 m7 m8 m9 m10 m11 m12 m13 m14 m15 m16 m17 0 td sed mi (upd fr mi fr_) (upd to mi to_) (upd lim mi li_) (upd f1 mi sg) (upd f2 mi (-1)) dis pin ag en cm mc su isu fir lgt ofs rn wsn) H := hP
              have hD : va_D A (wM cy m0 m1 m2 m3 m4 m5 m6 m7 m8 m9 m10 m11 m12 m13 m14 m15 m16 m17 0 td sed mi (upd fr mi fr_) (upd to mi to_) (upd lim mi li_) (upd f1 mi sg) (upd f2 mi (-1)) dis pin ag en cm mc su isu fir lgt ofs rn wsn) := hD
              refine lv_aload_n hx hb dX3_addIssuer_144 rfl (lv_at hl 1 rfl) ?_
              refine va_get (D := D) (ci := 3) (v := .ref m6) (C := RX3) (T := TX3) (N := 22) hx hb hts g_X3 hown hE.1 hP 0 rfl rfl 9 (by decide) f_29 (fun _ h9 => h9) rfl dX3_addIssuer_145 ?_
              refine lv_aload_n hx hb dX3_addIssuer_148 rfl (lv_at hl 1 rfl) ?_
              refine va_get (D := D) (ci := 3) (v := .int (nI mi)) (C := RX3) (T := TX3) (N := 22) hx hb hts g_X3 hown hE.1 hP 0 rfl rfl 3 (by decide) f_69 (fun _ h9 => h9) rfl dX3_addIssuer_149 ?_
              refine lv_iconst (v := (-1)) hx hb dX3_addIssuer_152 (by decide) ?_
              refine k_ist hx hb hE.1 hP hD hS 6 0 rfl rfl (j := mi) (by omega) (by decide) dX3_addIssuer_153 (fun H locs hP hD hS => ?_)
              have hP : va_P D vwCl (wM cy m0 m1 m2 m3 m4 m5 m6 m7 m8 m9 m10 m11 m12 m13 m14 m15 m16 m17 0 td sed mi (upd fr mi fr_) (upd to mi to_) (upd lim mi li_) (upd f1 mi sg) (upd f2 mi (-1)) (upd dis mi (-1)) pin ag en cm mc su isu fir lgt ofs rn wsn) H := hP
              have hD : va_D A (wM cy m0 m1 m2 m3 m4 m5 m6 m7 m8 m9 m10 m11 m12 m13 m14 m15 m16 m17 0 td sed mi (upd fr mi fr_) (upd to mi to_) (upd lim mi li_) (upd f1 mi sg) (upd f2 mi (-1)) (upd dis mi (-1)) pin ag en cm mc su isu fir lgt ofs rn wsn) := hD
              refine lv_aload_n hx hb dX3_addIssuer_154 rfl (lv_at hl 1 rfl) ?_
              refine lv_dup hx hb dX3_addIssuer_155 rfl ?_
              refine va_get (D := D) (ci := 3) (v := .int (nI mi)) (C := RX3) (T := TX3) (N := 22) hx hb hts g_X3 hown hE.1 hP 0 rfl rfl 3 (by decide) f_69 (fun _ h9 => h9) rfl dX3_addIssuer_156 ?_
              refine lv_iconst (v := 1) hx hb dX3_addIssuer_159 (by decide) ?_
              refine lv_iadd hx hb dX3_addIssuer_160 ?_
              refine k_top (z := nI (mi + 1)) (nI_1 _) ?_
              refine va_put (D := D) (ci := 3) (v := .int (nI (mi + 1))) (ty := .int) (C := RX3) (T := TX3) (N := 22) hx hb hts g_X3 tyX3 tyX3_ok nmX3 hown hE.1 hP hD hS 0 rfl rfl 3 (by decide) f_69 (fun _ h9 => h9) rfl (by decide +kernel) rfl rfl (Nat.le_of_ble_eq_true rfl) dX3_addIssuer_161 (fun H locs hP hD hS => ?_)
              have hP : va_P D vwCl (wM cy m0 m1 m2 m3 m4 m5 m6 m7 m8 m9 m10 m11 m12 m13 m14 m15 m16 m17 0 td sed (mi + 1) (upd fr mi fr_) (upd to mi to_) (upd lim mi li_) (upd f1 mi sg) (upd f2 mi (-1)) (upd dis mi (-1)) pin ag en cm mc su isu fir lgt ofs rn wsn) H := hP
              have hD : va_D A (wM cy m0 m1 m2 m3 m4 m5 m6 m7 m8 m9 m10 m11 m12 m13 m14 m15 m16 m17 0 td sed (mi + 1) (upd fr mi fr_) (upd to mi to_) (upd lim mi li_) (upd f1 mi sg) (upd f2 mi (-1)) (upd dis mi (-1)) pin ag en cm mc su isu fir lgt ofs rn wsn) := hD
              refine lv_aload_n hx hb dX3_addIssuer_164 rfl (lv_at hl 1 rfl) ?_
              refine va_get (D := D) (ci := 3) (v := .int (nI (mi + 1))) (C := RX3) (T := TX3) (N := 22) hx hb hts g_X3 hown hE.1 hP 0 rfl rfl 3 (by decide) f_69 (fun _ h9 => h9) rfl dX3_addIssuer_165 ?_
              refine lv_iconst (v := 1) hx hb dX3_addIssuer_168 (by decide) ?_
              refine lv_isub hx hb dX3_addIssuer_169 ?_
              refine k_top (z := nI mi) (nI_pred _) ?_
              exact hret _ _ _ _ (nI mi) () dX3_addIssuer_170 (Or.inl rfl) rfl hP hS
            · have c_73n : mi = 8 := k_eqN (a := mi) (b := 8) (by omega) (by omega) c_73
              refine lv_iconst (v := 3) hx hb dX3_addIssuer_76 (by decide) ?_
              refine lv_goto (tgt := 81) hx hb dX3_addIssuer_77 (by decide) ?_
              refine va_put (D := D) (ci := 3) (v := .int 3) (ty := .int) (C := RX3) (T := TX3) (N := 22) hx hb hts g_X3 tyX3 tyX3_ok nmX3 hown hE.1 hP hD hS 0 rfl rfl 0 (by decide) f_66 (fun _ h9 => h9) rfl (by decide +kernel) rfl rfl (Nat.le_of_ble_eq_true rfl) dX3_addIssuer_81 (fun H locs hP hD hS => ?_)
              have hP : va_P D vwCl (wM cy m0 m1 m2 m3 m4 m5 m6 m7 m8 m9 m10 m11 m12 m13 m14 m15 m16 m17 3 td sed mi fr to lim f1 f2 dis pin ag en cm mc su isu fir lgt ofs rn wsn) H := hP
              have hD : va_D A (wM cy m0 m1 m2 m3 m4 m5 m6 m7 m8 m9 m10 m11 m12 m13 m14 m15 m16 m17 3 td sed mi fr to lim f1 f2 dis pin ag en cm mc su isu fir lgt ofs rn wsn) := hD
              refine lv_aload_n hx hb dX3_addIssuer_84 rfl (lv_at hl 1 rfl) ?_
              refine va_get (D := D) (ci := 3) (v := .int 3) (C := RX3) (T := TX3) (N := 22) hx hb hts g_X3 hown hE.1 hP 0 rfl rfl 0 (by decide) f_66 (fun _ h9 => h9) rfl dX3_addIssuer_85 ?_
              refine lv_if_le (tgt := 93) hx hb dX3_addIssuer_88 (by decide) (fun c_88 => absurd c_88 (by decide)) (fun _ => ?_)
              refine lv_iconst (v := 0) hx hb dX3_addIssuer_91 (by decide) ?_
              exact absurd hcd (by simp [cdAddM, c_8, c_19, c_30, c_43, c_51, c_73])
          · refine lv_iconst (v := 1) hx hb dX3_addIssuer_54 (by decide) ?_
            refine lv_goto (tgt := 81) hx hb dX3_addIssuer_55 (by decide) ?_
            refine va_put (D := D) (ci := 3) (v := .int 1) (ty := .int) (C := RX3) (T := TX3) (N := 22) hx hb hts g_X3 tyX3 tyX3_ok nmX3 hown hE.1 hP hD hS 0 rfl rfl 0 (by decide) f_66 (fun _ h9 => h9) rfl (by decide +kernel) rfl rfl (Nat.le_of_ble_eq_true rfl) dX3_addIssuer_81 (fun H locs hP hD hS => ?_)
            have hP : va_P D vwCl (wM cy m0 m1 m2 m3 m4 m5 m6 m7 m8 m9 m10 m11 m12 m13 m14 m15 m16 m17 1 td sed mi fr to lim f1 f2 dis pin ag en cm mc su isu fir lgt ofs rn wsn) H := hP
            have hD : va_D A (wM cy m0 m1 m2 m3 m4 m5 m6 m7 m8 m9 m10 m11 m12 m13 m14 m15 m16 m17 1 td sed mi fr to lim f1 f2 dis pin ag en cm mc su isu fir lgt ofs rn wsn) := hD
            refine lv_aload_n hx hb dX3_addIssuer_84 rfl (lv_at hl 1 rfl) ?_
            refine va_get (D := D) (ci := 3) (v := .int 1) (C := RX3) (T := TX3) (N := 22) hx hb hts g_X3 hown hE.1 hP 0 rfl rfl 0 (by decide) f_66 (fun _ h9 => h9) rfl dX3_addIssuer_85 ?_
            refine lv_if_le (tgt := 93) hx hb dX3_addIssuer_88 (by decide) (fun c_88 => absurd c_88 (by decide)) (fun _ => ?_)
            refine lv_iconst (v := 0) hx hb dX3_addIssuer_91 (by decide) ?_
            exact absurd hcd (by simp [cdAddM, c_8, c_19, c_30, c_43, c_51])

set_option maxHeartbeats 4000000 in
set_option maxRecDepth 100000 in
theorem c_X3_addIssuer_f (l : Launch) (D : va_G) (cy : ClassId × ClassId × ClassId) (m0 m1 m2 m3 m4 m5 m6 m7 m8 m9 m10 m11 m12 m13 m14 m15 m16 m17 : Nat) (th td sed : Int32) (mi : Nat) (fr to lim f1 f2 dis pin ag en cm : Nat → Int32) (mc : Nat) (su isu fir lgt ofs rn wsn : Nat → Int32) (sg : Int32) (fr_ : Int32) (to_ : Int32) (li_ : Int32) (hm : mi ≤ 8) (hcd : ¬ cdAddM mi sg fr_ to_ li_ = 0) : kI l D cy yX3_addIssuer wsX3_addIssuer (krm 2 43) [.ref m0, .int sg, .int fr_, .int to_, .int li_] (wM cy m0 m1 m2 m3 m4 m5 m6 m7 m8 m9 m10 m11 m12 m13 m14 m15 m16 m17 th td sed mi fr to lim f1 f2 dis pin ag en cm mc su isu fir lgt ofs rn wsn) (fun (r : Int32) (u : Unit) => True) (fun _ : Unit => wM cy m0 m1 m2 m3 m4 m5 m6 m7 m8 m9 m10 m11 m12 m13 m14 m15 m16 m17 (cdAddM mi sg fr_ to_ li_) td sed mi fr to lim f1 f2 dis pin ag en cm mc su isu fir lgt ofs rn wsn) := by
  refine kI.of (cc := cX3_addIssuer) (maxL := 6) (rt := .int) (Or.inl rfl) (by decide) rfl (Nat.le_of_ble_eq_true rfl) ?_
  intro p e s m args below meth c Q A ls hx hb hml hown hts hE hA hP hD hl hret
  have hS : va_S A s.heap s.heap [] := va_S.rf
  have hl : lv_has ls 6 [(0, .ref m0), (1, .int sg), (2, .int fr_), (3, .int to_), (4, .int li_)] := hl
  have g_X3 : ∀ w ∈ wsX30, w ∈ wsX3_addIssuer := by decide +kernel
  have f_69 := hts (.fieldLink RX3 69 "CertHerdModel" "issuerMany" "I") (by decide +kernel)
  have f_66 := hts (.fieldLink RX3 66 "CertHerdModel" "thrown" "I") (by decide +kernel)
  have f_13 := hts (.fieldLink RX3 13 "CertHerdModel" "froms" "[I") (by decide +kernel)
  have f_17 := hts (.fieldLink RX3 17 "CertHerdModel" "tos" "[I") (by decide +kernel)
  have f_20 := hts (.fieldLink RX3 20 "CertHerdModel" "limits" "[I") (by decide +kernel)
  have f_23 := hts (.fieldLink RX3 23 "CertHerdModel" "firstSigners" "[I") (by decide +kernel)
  have f_26 := hts (.fieldLink RX3 26 "CertHerdModel" "secondSigners" "[I") (by decide +kernel)
  have f_29 := hts (.fieldLink RX3 29 "CertHerdModel" "distrusted" "[I") (by decide +kernel)
  refine lv_iload_n hx hb dX3_addIssuer_0 rfl (lv_at hl 2 rfl) ?_
  refine lv_iconst (v := 0) hx hb dX3_addIssuer_1 (by decide) ?_
  refine lv_sipush (v := 5000) hx hb dX3_addIssuer_2 (by decide) ?_
  refine kcS_i (n := 3) (X := []) (wc := []) (Y := wM cy m0 m1 m2 m3 m4 m5 m6 m7 m8 m9 m10 m11 m12 m13 m14 m15 m16 m17 th td sed mi fr to lim f1 f2 dis pin ag en cm mc su isu fir lgt ofs rn wsn) (As := [.int fr_, .int 0, .int 5000]) (rest := []) ⟨hx, hb, hml, hown, hts⟩ hE hA hP hD hS (c_X3_in l D cy fr_ 0 5000) (fun _ => rfl) gX3_addIssuer_X3_in rfl rfl rfl ⟨by decide, by decide, by decide +kernel⟩ ⟨Nat.le_of_ble_eq_true rfl, Nat.le_of_ble_eq_true rfl⟩ rfl hl.1 rfl (Nat.le_of_ble_eq_true rfl) dX3_addIssuer_5 ⟨Nat.zero_le _, Nat.zero_le _⟩ (fun r_1 u H locs e_2 hP hD hS => ?_)
  have hP : va_P D vwCl (wM cy m0 m1 m2 m3 m4 m5 m6 m7 m8 m9 m10 m11 m12 m13 m14 m15 m16 m17 th td sed mi fr to lim f1 f2 dis pin ag en cm mc su isu fir lgt ofs rn wsn) H := hP
  have hD : va_D A (wM cy m0 m1 m2 m3 m4 m5 m6 m7 m8 m9 m10 m11 m12 m13 m14 m15 m16 m17 th td sed mi fr to lim f1 f2 dis pin ag en cm mc su isu fir lgt ofs rn wsn) := hD
  have e_2 : r_1 = bI (inB fr_ 0 5000 = true) := e_2
  subst e_2
  refine k_ifeq (tgt := 37) hx hb dX3_addIssuer_8 (by decide) (fun c_8 => ?_) (fun c_8 => ?_)
  · refine lv_iconst (v := 0) hx hb dX3_addIssuer_37 (by decide) ?_
    refine lv_istore (lv' := [(5, .int 0), (0, .ref m0), (1, .int sg), (2, .int fr_), (3, .int to_), (4, .int li_)]) hx hb dX3_addIssuer_38 hl (by decide) rfl (fun ls hl => ?_)
    refine lv_aload_n hx hb dX3_addIssuer_40 rfl (lv_at hl 1 rfl) ?_
    refine lv_iload_n hx hb dX3_addIssuer_41 rfl (lv_at hl 2 rfl) ?_
    refine lv_iconst (v := (-1)) hx hb dX3_addIssuer_42 (by decide) ?_
    refine lv_icmp_eq (tgt := 58) hx hb dX3_addIssuer_43 (by decide) (fun c_43 => ?_) (fun c_43 => ?_)
    · refine lv_iload hx hb dX3_addIssuer_58 (lv_at hl 0 rfl) ?_
      refine lv_if_ne (tgt := 67) hx hb dX3_addIssuer_60 (by decide) (fun c_60 => absurd c_60 (by decide)) (fun _ => ?_)
      refine lv_iconst (v := 2) hx hb dX3_addIssuer_63 (by decide) ?_
      refine lv_goto (tgt := 81) hx hb dX3_addIssuer_64 (by decide) ?_
      refine va_put (D := D) (ci := 3) (v := .int 2) (ty := .int) (C := RX3) (T := TX3) (N := 22) hx hb hts g_X3 tyX3 tyX3_ok nmX3 hown hE.1 hP hD hS 0 rfl rfl 0 (by decide) f_66 (fun _ h9 => h9) rfl (by decide +kernel) rfl rfl (Nat.le_of_ble_eq_true rfl) dX3_addIssuer_81 (fun H locs hP hD hS => ?_)
      have hP : va_P D vwCl (wM cy m0 m1 m2 m3 m4 m5 m6 m7 m8 m9 m10 m11 m12 m13 m14 m15 m16 m17 2 td sed mi fr to lim f1 f2 dis pin ag en cm mc su isu fir lgt ofs rn wsn) H := hP
      have hD : va_D A (wM cy m0 m1 m2 m3 m4 m5 m6 m7 m8 m9 m10 m11 m12 m13 m14 m15 m16 m17 2 td sed mi fr to lim f1 f2 dis pin ag en cm mc su isu fir lgt ofs rn wsn) := hD
      refine lv_aload_n hx hb dX3_addIssuer_84 rfl (lv_at hl 1 rfl) ?_
      refine va_get (D := D) (ci := 3) (v := .int 2) (C := RX3) (T := TX3) (N := 22) hx hb hts g_X3 hown hE.1 hP 0 rfl rfl 0 (by decide) f_66 (fun _ h9 => h9) rfl dX3_addIssuer_85 ?_
      refine lv_if_le (tgt := 93) hx hb dX3_addIssuer_88 (by decide) (fun c_88 => absurd c_88 (by decide)) (fun _ => ?_)
      refine lv_iconst (v := 0) hx hb dX3_addIssuer_91 (by decide) ?_
      have w_th : 2 = cdAddM mi sg fr_ to_ li_ := (by simp [cdAddM, c_8, c_43])
      exact hret _ _ _ _ 0 () dX3_addIssuer_92 (Or.inl rfl) trivial (by show va_P D vwCl (wM cy m0 m1 m2 m3 m4 m5 m6 m7 m8 m9 m10 m11 m12 m13 m14 m15 m16 m17 (cdAddM mi sg fr_ to_ li_) td sed mi fr to lim f1 f2 dis pin ag en cm mc su isu fir lgt ofs rn wsn) _; rw [← w_th]; exact hP) hS
    · refine lv_aload_n hx hb dX3_addIssuer_46 rfl (lv_at hl 1 rfl) ?_
      refine lv_iload_n hx hb dX3_addIssuer_47 rfl (lv_at hl 2 rfl) ?_
      refine kcW_i (n := 1) (wc := wM cy m0 m1 m2 m3 m4 m5 m6 m7 m8 m9 m10 m11 m12 m13 m14 m15 m16 m17 th td sed mi fr to lim f1 f2 dis pin ag en cm mc su isu fir lgt ofs rn wsn) (As := [.int sg]) (rest := [.ref m0]) ⟨hx, hb, hml, hown, hts⟩ hE hA hP hD hS (c_X3_isIssuer l D cy m0 m1 m2 m3 m4 m5 m6 m7 m8 m9 m10 m11 m12 m13 m14 m15 m16 m17 th td sed mi fr to lim f1 f2 dis pin ag en cm mc su isu fir lgt ofs rn wsn sg (by first | assumption | omega)) (fun _ => rfl) (q0 := 0) (ci := 3) rfl rfl gX3_addIssuer_X3_isIssuer rfl rfl rfl ⟨rfl, by decide, by decide, by decide +kernel⟩ ⟨Nat.le_of_ble_eq_true rfl, Nat.le_of_ble_eq_true rfl⟩ rfl hl.1 rfl (Nat.le_of_ble_eq_true rfl) dX3_addIssuer_48 ⟨Nat.zero_le _, Nat.zero_le _⟩ (fun r_3 u H locs e_4 hP hD hS => ?_)
      have hP : va_P D vwCl (wM cy m0 m1 m2 m3 m4 m5 m6 m7 m8 m9 m10 m11 m12 m13 m14 m15 m16 m17 th td sed mi fr to lim f1 f2 dis pin ag en cm mc su isu fir lgt ofs rn wsn) H := hP
      have hD : va_D A (wM cy m0 m1 m2 m3 m4 m5 m6 m7 m8 m9 m10 m11 m12 m13 m14 m15 m16 m17 th td sed mi fr to lim f1 f2 dis pin ag en cm mc su isu fir lgt ofs rn wsn) := hD
      have e_4 : r_3 = bI (badI mi sg = false) := e_4
      subst e_4
      refine k_ifne (tgt := 58) hx hb dX3_addIssuer_51 (by decide) (fun c_51 => ?_) (fun c_51 => ?_)
      · refine lv_iload hx hb dX3_addIssuer_58 (lv_at hl 0 rfl) ?_
        refine lv_if_ne (tgt := 67) hx hb dX3_addIssuer_60 (by decide) (fun c_60 => absurd c_60 (by decide)) (fun _ => ?_)
        refine lv_iconst (v := 2) hx hb dX3_addIssuer_63 (by decide) ?_
        refine lv_goto (tgt := 81) hx hb dX3_addIssuer_64 (by decide) ?_
        refine va_put (D := D) (ci := 3) (v := .int 2) (ty := .int) (C := RX3) (T := TX3) (N := 22) hx hb hts g_X3 tyX3 tyX3_ok nmX3 hown hE.1 hP hD hS 0 rfl rfl 0 (by decide) f_66 (fun _ h9 => h9) rfl (by decide +kernel) rfl rfl (Nat.le_of_ble_eq_true rfl) dX3_addIssuer_81 (fun H locs hP hD hS => ?_)
        have hP : va_P D vwCl (wM cy m0 m1 m2 m3 m4 m5 m6 m7 m8 m9 m10 m11 m12 m13 m14 m15 m16 m17 2 td sed mi fr to lim f1 f2 dis pin ag en cm mc su isu fir lgt ofs rn wsn) H := hP
        have hD : va_D A (wM cy m0 m1 m2 m3 m4 m5 m6 m7 m8 m9 m10 m11 m12 m13 m14 m15 m16 m17 2 td sed mi fr to lim f1 f2 dis pin ag en cm mc su isu fir lgt ofs rn wsn) := hD
        refine lv_aload_n hx hb dX3_addIssuer_84 rfl (lv_at hl 1 rfl) ?_
        refine va_get (D := D) (ci := 3) (v := .int 2) (C := RX3) (T := TX3) (N := 22) hx hb hts g_X3 hown hE.1 hP 0 rfl rfl 0 (by decide) f_66 (fun _ h9 => h9) rfl dX3_addIssuer_85 ?_
        refine lv_if_le (tgt := 93) hx hb dX3_addIssuer_88 (by decide) (fun c_88 => absurd c_88 (by decide)) (fun _ => ?_)
        refine lv_iconst (v := 0) hx hb dX3_addIssuer_91 (by decide) ?_
        have w_th : 2 = cdAddM mi sg fr_ to_ li_ := (by simp [cdAddM, c_8, c_43, c_51])
        exact hret _ _ _ _ 0 () dX3_addIssuer_92 (Or.inl rfl) trivial (by show va_P D vwCl (wM cy m0 m1 m2 m3 m4 m5 m6 m7 m8 m9 m10 m11 m12 m13 m14 m15 m16 m17 (cdAddM mi sg fr_ to_ li_) td sed mi fr to lim f1 f2 dis pin ag en cm mc su isu fir lgt ofs rn wsn) _; rw [← w_th]; exact hP) hS
      · refine lv_iconst (v := 1) hx hb dX3_addIssuer_54 (by decide) ?_
        refine lv_goto (tgt := 81) hx hb dX3_addIssuer_55 (by decide) ?_
        refine va_put (D := D) (ci := 3) (v := .int 1) (ty := .int) (C := RX3) (T := TX3) (N := 22) hx hb hts g_X3 tyX3 tyX3_ok nmX3 hown hE.1 hP hD hS 0 rfl rfl 0 (by decide) f_66 (fun _ h9 => h9) rfl (by decide +kernel) rfl rfl (Nat.le_of_ble_eq_true rfl) dX3_addIssuer_81 (fun H locs hP hD hS => ?_)
        have hP : va_P D vwCl (wM cy m0 m1 m2 m3 m4 m5 m6 m7 m8 m9 m10 m11 m12 m13 m14 m15 m16 m17 1 td sed mi fr to lim f1 f2 dis pin ag en cm mc su isu fir lgt ofs rn wsn) H := hP
        have hD : va_D A (wM cy m0 m1 m2 m3 m4 m5 m6 m7 m8 m9 m10 m11 m12 m13 m14 m15 m16 m17 1 td sed mi fr to lim f1 f2 dis pin ag en cm mc su isu fir lgt ofs rn wsn) := hD
        refine lv_aload_n hx hb dX3_addIssuer_84 rfl (lv_at hl 1 rfl) ?_
        refine va_get (D := D) (ci := 3) (v := .int 1) (C := RX3) (T := TX3) (N := 22) hx hb hts g_X3 hown hE.1 hP 0 rfl rfl 0 (by decide) f_66 (fun _ h9 => h9) rfl dX3_addIssuer_85 ?_
        refine lv_if_le (tgt := 93) hx hb dX3_addIssuer_88 (by decide) (fun c_88 => absurd c_88 (by decide)) (fun _ => ?_)
        refine lv_iconst (v := 0) hx hb dX3_addIssuer_91 (by decide) ?_
        have w_th : 1 = cdAddM mi sg fr_ to_ li_ := (by simp [cdAddM, c_8, c_43, c_51])
        exact hret _ _ _ _ 0 () dX3_addIssuer_92 (Or.inl rfl) trivial (by show va_P D vwCl (wM cy m0 m1 m2 m3 m4 m5 m6 m7 m8 m9 m10 m11 m12 m13 m14 m15 m16 m17 (cdAddM mi sg fr_ to_ li_) td sed mi fr to lim f1 f2 dis pin ag en cm mc su isu fir lgt ofs rn wsn) _; rw [← w_th]; exact hP) hS
  · refine lv_iload_n hx hb dX3_addIssuer_11 rfl (lv_at hl 3 rfl) ?_
    refine lv_iload_n hx hb dX3_addIssuer_12 rfl (lv_at hl 2 rfl) ?_
    refine lv_sipush (v := 5000) hx hb dX3_addIssuer_13 (by decide) ?_
    refine kcS_i (n := 3) (X := []) (wc := []) (Y := wM cy m0 m1 m2 m3 m4 m5 m6 m7 m8 m9 m10 m11 m12 m13 m14 m15 m16 m17 th td sed mi fr to lim f1 f2 dis pin ag en cm mc su isu fir lgt ofs rn wsn) (As := [.int to_, .int fr_, .int 5000]) (rest := []) ⟨hx, hb, hml, hown, hts⟩ hE hA hP hD hS (c_X3_in l D cy to_ fr_ 5000) (fun _ => rfl) gX3_addIssuer_X3_in rfl rfl rfl ⟨by decide, by decide, by decide +kernel⟩ ⟨Nat.le_of_ble_eq_true rfl, Nat.le_of_ble_eq_true rfl⟩ rfl hl.1 rfl (Nat.le_of_ble_eq_true rfl) dX3_addIssuer_16 ⟨Nat.zero_le _, Nat.zero_le _⟩ (fun r_5 u H locs e_6 hP hD hS => ?_)
    have hP : va_P D vwCl (wM cy m0 m1 m2 m3 m4 m5 m6 m7 m8 m9 m10 m11 m12 m13 m14 m15 m16 m17 th td sed mi fr to lim f1 f2 dis pin ag en cm mc su isu fir lgt ofs rn wsn) H := hP
    have hD : va_D A (wM cy m0 m1 m2 m3 m4 m5 m6 m7 m8 m9 m10 m11 m12 m13 m14 m15 m16 m17 th td sed mi fr to lim f1 f2 dis pin ag en cm mc su isu fir lgt ofs rn wsn) := hD
    have e_6 : r_5 = bI (inB to_ fr_ 5000 = true) := e_6
    subst e_6
    refine k_ifeq (tgt := 37) hx hb dX3_addIssuer_19 (by decide) (fun c_19 => ?_) (fun c_19 => ?_)
    · refine lv_iconst (v := 0) hx hb dX3_addIssuer_37 (by decide) ?_
      refine lv_istore (lv' := [(5, .int 0), (0, .ref m0), (1, .int sg), (2, .int fr_), (3, .int to_), (4, .int li_)]) hx hb dX3_addIssuer_38 hl (by decide) rfl (fun ls hl => ?_)
      refine lv_aload_n hx hb dX3_addIssuer_40 rfl (lv_at hl 1 rfl) ?_
      refine lv_iload_n hx hb dX3_addIssuer_41 rfl (lv_at hl 2 rfl) ?_
      refine lv_iconst (v := (-1)) hx hb dX3_addIssuer_42 (by decide) ?_
      refine lv_icmp_eq (tgt := 58) hx hb dX3_addIssuer_43 (by decide) (fun c_43 => ?_) (fun c_43 => ?_)
      · refine lv_iload hx hb dX3_addIssuer_58 (lv_at hl 0 rfl) ?_
        refine lv_if_ne (tgt := 67) hx hb dX3_addIssuer_60 (by decide) (fun c_60 => absurd c_60 (by decide)) (fun _ => ?_)
        refine lv_iconst (v := 2) hx hb dX3_addIssuer_63 (by decide) ?_
        refine lv_goto (tgt := 81) hx hb dX3_addIssuer_64 (by decide) ?_
        refine va_put (D := D) (ci := 3) (v := .int 2) (ty := .int) (C := RX3) (T := TX3) (N := 22) hx hb hts g_X3 tyX3 tyX3_ok nmX3 hown hE.1 hP hD hS 0 rfl rfl 0 (by decide) f_66 (fun _ h9 => h9) rfl (by decide +kernel) rfl rfl (Nat.le_of_ble_eq_true rfl) dX3_addIssuer_81 (fun H locs hP hD hS => ?_)
        have hP : va_P D vwCl (wM cy m0 m1 m2 m3 m4 m5 m6 m7 m8 m9 m10 m11 m12 m13 m14 m15 m16 m17 2 td sed mi fr to lim f1 f2 dis pin ag en cm mc su isu fir lgt ofs rn wsn) H := hP
        have hD : va_D A (wM cy m0 m1 m2 m3 m4 m5 m6 m7 m8 m9 m10 m11 m12 m13 m14 m15 m16 m17 2 td sed mi fr to lim f1 f2 dis pin ag en cm mc su isu fir lgt ofs rn wsn) := hD
        refine lv_aload_n hx hb dX3_addIssuer_84 rfl (lv_at hl 1 rfl) ?_
        refine va_get (D := D) (ci := 3) (v := .int 2) (C := RX3) (T := TX3) (N := 22) hx hb hts g_X3 hown hE.1 hP 0 rfl rfl 0 (by decide) f_66 (fun _ h9 => h9) rfl dX3_addIssuer_85 ?_
        refine lv_if_le (tgt := 93) hx hb dX3_addIssuer_88 (by decide) (fun c_88 => absurd c_88 (by decide)) (fun _ => ?_)
        refine lv_iconst (v := 0) hx hb dX3_addIssuer_91 (by decide) ?_
        have w_th : 2 = cdAddM mi sg fr_ to_ li_ := (by simp [cdAddM, c_8, c_19, c_43])
        exact hret _ _ _ _ 0 () dX3_addIssuer_92 (Or.inl rfl) trivial (by show va_P D vwCl (wM cy m0 m1 m2 m3 m4 m5 m6 m7 m8 m9 m10 m11 m12 m13 m14 m15 m16 m17 (cdAddM mi sg fr_ to_ li_) td sed mi fr to lim f1 f2 dis pin ag en cm mc su isu fir lgt ofs rn wsn) _; rw [← w_th]; exact hP) hS
      · refine lv_aload_n hx hb dX3_addIssuer_46 rfl (lv_at hl 1 rfl) ?_
        refine lv_iload_n hx hb dX3_addIssuer_47 rfl (lv_at hl 2 rfl) ?_
        refine kcW_i (n := 1) (wc := wM cy m0 m1 m2 m3 m4 m5 m6 m7 m8 m9 m10 m11 m12 m13 m14 m15 m16 m17 th td sed mi fr to lim f1 f2 dis pin ag en cm mc su isu fir lgt ofs rn wsn) (As := [.int sg]) (rest := [.ref m0]) ⟨hx, hb, hml, hown, hts⟩ hE hA hP hD hS (c_X3_isIssuer l D cy m0 m1 m2 m3 m4 m5 m6 m7 m8 m9 m10 m11 m12 m13 m14 m15 m16 m17 th td sed mi fr to lim f1 f2 dis pin ag en cm mc su isu fir lgt ofs rn wsn sg (by first | assumption | omega)) (fun _ => rfl) (q0 := 0) (ci := 3) rfl rfl gX3_addIssuer_X3_isIssuer rfl rfl rfl ⟨rfl, by decide, by decide, by decide +kernel⟩ ⟨Nat.le_of_ble_eq_true rfl, Nat.le_of_ble_eq_true rfl⟩ rfl hl.1 rfl (Nat.le_of_ble_eq_true rfl) dX3_addIssuer_48 ⟨Nat.zero_le _, Nat.zero_le _⟩ (fun r_7 u H locs e_8 hP hD hS => ?_)
        have hP : va_P D vwCl (wM cy m0 m1 m2 m3 m4 m5 m6 m7 m8 m9 m10 m11 m12 m13 m14 m15 m16 m17 th td sed mi fr to lim f1 f2 dis pin ag en cm mc su isu fir lgt ofs rn wsn) H := hP
        have hD : va_D A (wM cy m0 m1 m2 m3 m4 m5 m6 m7 m8 m9 m10 m11 m12 m13 m14 m15 m16 m17 th td sed mi fr to lim f1 f2 dis pin ag en cm mc su isu fir lgt ofs rn wsn) := hD
        have e_8 : r_7 = bI (badI mi sg = false) := e_8
        subst e_8
        refine k_ifne (tgt := 58) hx hb dX3_addIssuer_51 (by decide) (fun c_51 => ?_) (fun c_51 => ?_)
        · refine lv_iload hx hb dX3_addIssuer_58 (lv_at hl 0 rfl) ?_
          refine lv_if_ne (tgt := 67) hx hb dX3_addIssuer_60 (by decide) (fun c_60 => absurd c_60 (by decide)) (fun _ => ?_)
          refine lv_iconst (v := 2) hx hb dX3_addIssuer_63 (by decide) ?_
          refine lv_goto (tgt := 81) hx hb dX3_addIssuer_64 (by decide) ?_
          refine va_put (D := D) (ci := 3) (v := .int 2) (ty := .int) (C := RX3) (T := TX3) (N := 22) hx hb hts g_X3 tyX3 tyX3_ok nmX3 hown hE.1 hP hD hS 0 rfl rfl 0 (by decide) f_66 (fun _ h9 => h9) rfl (by decide +kernel) rfl rfl (Nat.le_of_ble_eq_true rfl) dX3_addIssuer_81 (fun H locs hP hD hS => ?_)
          have hP : va_P D vwCl (wM cy m0 m1 m2 m3 m4 m5 m6 m7 m8 m9 m10 m11 m12 m13 m14 m15 m16 m17 2 td sed mi fr to lim f1 f2 dis pin ag en cm mc su isu fir lgt ofs rn wsn) H := hP
          have hD : va_D A (wM cy m0 m1 m2 m3 m4 m5 m6 m7 m8 m9 m10 m11 m12 m13 m14 m15 m16 m17 2 td sed mi fr to lim f1 f2 dis pin ag en cm mc su isu fir lgt ofs rn wsn) := hD
          refine lv_aload_n hx hb dX3_addIssuer_84 rfl (lv_at hl 1 rfl) ?_
          refine va_get (D := D) (ci := 3) (v := .int 2) (C := RX3) (T := TX3) (N := 22) hx hb hts g_X3 hown hE.1 hP 0 rfl rfl 0 (by decide) f_66 (fun _ h9 => h9) rfl dX3_addIssuer_85 ?_
          refine lv_if_le (tgt := 93) hx hb dX3_addIssuer_88 (by decide) (fun c_88 => absurd c_88 (by decide)) (fun _ => ?_)
          refine lv_iconst (v := 0) hx hb dX3_addIssuer_91 (by decide) ?_
          have w_th : 2 = cdAddM mi sg fr_ to_ li_ := (by simp [cdAddM, c_8, c_19, c_43, c_51])
          exact hret _ _ _ _ 0 () dX3_addIssuer_92 (Or.inl rfl) trivial (by show va_P D vwCl (wM cy m0 m1 m2 m3 m4 m5 m6 m7 m8 m9 m10 m11 m12 m13 m14 m15 m16 m17 (cdAddM mi sg fr_ to_ li_) td sed mi fr to lim f1 f2 dis pin ag en cm mc su isu fir lgt ofs rn wsn) _; rw [← w_th]; exact hP) hS
        · refine lv_iconst (v := 1) hx hb dX3_addIssuer_54 (by decide) ?_
          refine lv_goto (tgt := 81) hx hb dX3_addIssuer_55 (by decide) ?_
          refine va_put (D := D) (ci := 3) (v := .int 1) (ty := .int) (C := RX3) (T := TX3) (N := 22) hx hb hts g_X3 tyX3 tyX3_ok nmX3 hown hE.1 hP hD hS 0 rfl rfl 0 (by decide) f_66 (fun _ h9 => h9) rfl (by decide +kernel) rfl rfl (Nat.le_of_ble_eq_true rfl) dX3_addIssuer_81 (fun H locs hP hD hS => ?_)
          have hP : va_P D vwCl (wM cy m0 m1 m2 m3 m4 m5 m6 m7 m8 m9 m10 m11 m12 m13 m14 m15 m16 m17 1 td sed mi fr to lim f1 f2 dis pin ag en cm mc su isu fir lgt ofs rn wsn) H := hP
          have hD : va_D A (wM cy m0 m1 m2 m3 m4 m5 m6 m7 m8 m9 m10 m11 m12 m13 m14 m15 m16 m17 1 td sed mi fr to lim f1 f2 dis pin ag en cm mc su isu fir lgt ofs rn wsn) := hD
          refine lv_aload_n hx hb dX3_addIssuer_84 rfl (lv_at hl 1 rfl) ?_
          refine va_get (D := D) (ci := 3) (v := .int 1) (C := RX3) (T := TX3) (N := 22) hx hb hts g_X3 hown hE.1 hP 0 rfl rfl 0 (by decide) f_66 (fun _ h9 => h9) rfl dX3_addIssuer_85 ?_
          refine lv_if_le (tgt := 93) hx hb dX3_addIssuer_88 (by decide) (fun c_88 => absurd c_88 (by decide)) (fun _ => ?_)
          refine lv_iconst (v := 0) hx hb dX3_addIssuer_91 (by decide) ?_
          have w_th : 1 = cdAddM mi sg fr_ to_ li_ := (by simp [cdAddM, c_8, c_19, c_43, c_51])
          exact hret _ _ _ _ 0 () dX3_addIssuer_92 (Or.inl rfl) trivial (by show va_P D vwCl (wM cy m0 m1 m2 m3 m4 m5 m6 m7 m8 m9 m10 m11 m12 m13 m14 m15 m16 m17 (cdAddM mi sg fr_ to_ li_) td sed mi fr to lim f1 f2 dis pin ag en cm mc su isu fir lgt ofs rn wsn) _; rw [← w_th]; exact hP) hS
    · refine lv_iload hx hb dX3_addIssuer_22 (lv_at hl 4 rfl) ?_
      refine lv_iconst (v := 0) hx hb dX3_addIssuer_24 (by decide) ?_
      refine lv_bipush (v := 50) hx hb dX3_addIssuer_25 (by decide) ?_
      refine kcS_i (n := 3) (X := []) (wc := []) (Y := wM cy m0 m1 m2 m3 m4 m5 m6 m7 m8 m9 m10 m11 m12 m13 m14 m15 m16 m17 th td sed mi fr to lim f1 f2 dis pin ag en cm mc su isu fir lgt ofs rn wsn) (As := [.int li_, .int 0, .int 50]) (rest := []) ⟨hx, hb, hml, hown, hts⟩ hE hA hP hD hS (c_X3_in l D cy li_ 0 50) (fun _ => rfl) gX3_addIssuer_X3_in rfl rfl rfl ⟨by decide, by decide, by decide +kernel⟩ ⟨Nat.le_of_ble_eq_true rfl, Nat.le_of_ble_eq_true rfl⟩ rfl hl.1 rfl (Nat.le_of_ble_eq_true rfl) dX3_addIssuer_27 ⟨Nat.zero_le _, Nat.zero_le _⟩ (fun r_9 u H locs e_10 hP hD hS => ?_)
      have hP : va_P D vwCl (wM cy m0 m1 m2 m3 m4 m5 m6 m7 m8 m9 m10 m11 m12 m13 m14 m15 m16 m17 th td sed mi fr to lim f1 f2 dis pin ag en cm mc su isu fir lgt ofs rn wsn) H := hP
      have hD : va_D A (wM cy m0 m1 m2 m3 m4 m5 m6 m7 m8 m9 m10 m11 m12 m13 m14 m15 m16 m17 th td sed mi fr to lim f1 f2 dis pin ag en cm mc su isu fir lgt ofs rn wsn) := hD
      have e_10 : r_9 = bI (inB li_ 0 50 = true) := e_10
      subst e_10
      refine k_ifeq (tgt := 37) hx hb dX3_addIssuer_30 (by decide) (fun c_30 => ?_) (fun c_30 => ?_)
      · refine lv_iconst (v := 0) hx hb dX3_addIssuer_37 (by decide) ?_
        refine lv_istore (lv' := [(5, .int 0), (0, .ref m0), (1, .int sg), (2, .int fr_), (3, .int to_), (4, .int li_)]) hx hb dX3_addIssuer_38 hl (by decide) rfl (fun ls hl => ?_)
        refine lv_aload_n hx hb dX3_addIssuer_40 rfl (lv_at hl 1 rfl) ?_
        refine lv_iload_n hx hb dX3_addIssuer_41 rfl (lv_at hl 2 rfl) ?_
        refine lv_iconst (v := (-1)) hx hb dX3_addIssuer_42 (by decide) ?_
        refine lv_icmp_eq (tgt := 58) hx hb dX3_addIssuer_43 (by decide) (fun c_43 => ?_) (fun c_43 => ?_)
        · refine lv_iload hx hb dX3_addIssuer_58 (lv_at hl 0 rfl) ?_
          refine lv_if_ne (tgt := 67) hx hb dX3_addIssuer_60 (by decide) (fun c_60 => absurd c_60 (by decide)) (fun _ => ?_)
          refine lv_iconst (v := 2) hx hb dX3_addIssuer_63 (by decide) ?_
          refine lv_goto (tgt := 81) hx hb dX3_addIssuer_64 (by decide) ?_
          refine va_put (D := D) (ci := 3) (v := .int 2) (ty := .int) (C := RX3) (T := TX3) (N := 22) hx hb hts g_X3 tyX3 tyX3_ok nmX3 hown hE.1 hP hD hS 0 rfl rfl 0 (by decide) f_66 (fun _ h9 => h9) rfl (by decide +kernel) rfl rfl (Nat.le_of_ble_eq_true rfl) dX3_addIssuer_81 (fun H locs hP hD hS => ?_)
          have hP : va_P D vwCl (wM cy m0 m1 m2 m3 m4 m5 m6 m7 m8 m9 m10 m11 m12 m13 m14 m15 m16 m17 2 td sed mi fr to lim f1 f2 dis pin ag en cm mc su isu fir lgt ofs rn wsn) H := hP
          have hD : va_D A (wM cy m0 m1 m2 m3 m4 m5 m6 m7 m8 m9 m10 m11 m12 m13 m14 m15 m16 m17 2 td sed mi fr to lim f1 f2 dis pin ag en cm mc su isu fir lgt ofs rn wsn) := hD
          refine lv_aload_n hx hb dX3_addIssuer_84 rfl (lv_at hl 1 rfl) ?_
          refine va_get (D := D) (ci := 3) (v := .int 2) (C := RX3) (T := TX3) (N := 22) hx hb hts g_X3 hown hE.1 hP 0 rfl rfl 0 (by decide) f_66 (fun _ h9 => h9) rfl dX3_addIssuer_85 ?_
          refine lv_if_le (tgt := 93) hx hb dX3_addIssuer_88 (by decide) (fun c_88 => absurd c_88 (by decide)) (fun _ => ?_)
          refine lv_iconst (v := 0) hx hb dX3_addIssuer_91 (by decide) ?_
          have w_th : 2 = cdAddM mi sg fr_ to_ li_ := (by simp [cdAddM, c_8, c_19, c_30, c_43])
          exact hret _ _ _ _ 0 () dX3_addIssuer_92 (Or.inl rfl) trivial (by show va_P D vwCl (wM cy m0 m1 m2 m3 m4 m5 m6 m7 m8 m9 m10 m11 m12 m13 m14 m15 m16 m17 (cdAddM mi sg fr_ to_ li_) td sed mi fr to lim f1 f2 dis pin ag en cm mc su isu fir lgt ofs rn wsn) _; rw [← w_th]; exact hP) hS
        · refine lv_aload_n hx hb dX3_addIssuer_46 rfl (lv_at hl 1 rfl) ?_
          refine lv_iload_n hx hb dX3_addIssuer_47 rfl (lv_at hl 2 rfl) ?_
          refine kcW_i (n := 1) (wc := wM cy m0 m1 m2 m3 m4 m5 m6 m7 m8 m9 m10 m11 m12 m13 m14 m15 m16 m17 th td sed mi fr to lim f1 f2 dis pin ag en cm mc su isu fir lgt ofs rn wsn) (As := [.int sg]) (rest := [.ref m0]) ⟨hx, hb, hml, hown, hts⟩ hE hA hP hD hS (c_X3_isIssuer l D cy m0 m1 m2 m3 m4 m5 m6 m7 m8 m9 m10 m11 m12 m13 m14 m15 m16 m17 th td sed mi fr to lim f1 f2 dis pin ag en cm mc su isu fir lgt ofs rn wsn sg (by first | assumption | omega)) (fun _ => rfl) (q0 := 0) (ci := 3) rfl rfl gX3_addIssuer_X3_isIssuer rfl rfl rfl ⟨rfl, by decide, by decide, by decide +kernel⟩ ⟨Nat.le_of_ble_eq_true rfl, Nat.le_of_ble_eq_true rfl⟩ rfl hl.1 rfl (Nat.le_of_ble_eq_true rfl) dX3_addIssuer_48 ⟨Nat.zero_le _, Nat.zero_le _⟩ (fun r_11 u H locs e_12 hP hD hS => ?_)
          have hP : va_P D vwCl (wM cy m0 m1 m2 m3 m4 m5 m6 m7 m8 m9 m10 m11 m12 m13 m14 m15 m16 m17 th td sed mi fr to lim f1 f2 dis pin ag en cm mc su isu fir lgt ofs rn wsn) H := hP
          have hD : va_D A (wM cy m0 m1 m2 m3 m4 m5 m6 m7 m8 m9 m10 m11 m12 m13 m14 m15 m16 m17 th td sed mi fr to lim f1 f2 dis pin ag en cm mc su isu fir lgt ofs rn wsn) := hD
          have e_12 : r_11 = bI (badI mi sg = false) := e_12
          subst e_12
          refine k_ifne (tgt := 58) hx hb dX3_addIssuer_51 (by decide) (fun c_51 => ?_) (fun c_51 => ?_)
          · refine lv_iload hx hb dX3_addIssuer_58 (lv_at hl 0 rfl) ?_
            refine lv_if_ne (tgt := 67) hx hb dX3_addIssuer_60 (by decide) (fun c_60 => absurd c_60 (by decide)) (fun _ => ?_)
            refine lv_iconst (v := 2) hx hb dX3_addIssuer_63 (by decide) ?_
            refine lv_goto (tgt := 81) hx hb dX3_addIssuer_64 (by decide) ?_
            refine va_put (D := D) (ci := 3) (v := .int 2) (ty := .int) (C := RX3) (T := TX3) (N := 22) hx hb hts g_X3 tyX3 tyX3_ok nmX3 hown hE.1 hP hD hS 0 rfl rfl 0 (by decide) f_66 (fun _ h9 => h9) rfl (by decide +kernel) rfl rfl (Nat.le_of_ble_eq_true rfl) dX3_addIssuer_81 (fun H locs hP hD hS => ?_)
            have hP : va_P D vwCl (wM cy m0 m1 m2 m3 m4 m5 m6 m7 m8 m9 m10 m11 m12 m13 m14 m15 m16 m17 2 td sed mi fr to lim f1 f2 dis pin ag en cm mc su isu fir lgt ofs rn wsn) H := hP
            have hD : va_D A (wM cy m0 m1 m2 m3 m4 m5 m6 m7 m8 m9 m10 m11 m12 m13 m14 m15 m16 m17 2 td sed mi fr to lim f1 f2 dis pin ag en cm mc su isu fir lgt ofs rn wsn) := hD
            refine lv_aload_n hx hb dX3_addIssuer_84 rfl (lv_at hl 1 rfl) ?_
            refine va_get (D := D) (ci := 3) (v := .int 2) (C := RX3) (T := TX3) (N := 22) hx hb hts g_X3 hown hE.1 hP 0 rfl rfl 0 (by decide) f_66 (fun _ h9 => h9) rfl dX3_addIssuer_85 ?_
            refine lv_if_le (tgt := 93) hx hb dX3_addIssuer_88 (by decide) (fun c_88 => absurd c_88 (by decide)) (fun _ => ?_)
            refine lv_iconst (v := 0) hx hb dX3_addIssuer_91 (by decide) ?_
            have w_th : 2 = cdAddM mi sg fr_ to_ li_ := (by simp [cdAddM, c_8, c_19, c_30, c_43, c_51])
            exact hret _ _ _ _ 0 () dX3_addIssuer_92 (Or.inl rfl) trivial (by show va_P D vwCl (wM cy m0 m1 m2 m3 m4 m5 m6 m7 m8 m9 m10 m11 m12 m13 m14 m15 m16 m17 (cdAddM mi sg fr_ to_ li_) td sed mi fr to lim f1 f2 dis pin ag en cm mc su isu fir lgt ofs rn wsn) _; rw [← w_th]; exact hP) hS
          · refine lv_iconst (v := 1) hx hb dX3_addIssuer_54 (by decide) ?_
            refine lv_goto (tgt := 81) hx hb dX3_addIssuer_55 (by decide) ?_
            refine va_put (D := D) (ci := 3) (v := .int 1) (ty := .int) (C := RX3) (T := TX3) (N := 22) hx hb hts g_X3 tyX3 tyX3_ok nmX3 hown hE.1 hP hD hS 0 rfl rfl 0 (by decide) f_66 (fun _ h9 => h9) rfl (by decide +kernel) rfl rfl (Nat.le_of_ble_eq_true rfl) dX3_addIssuer_81 (fun H locs hP hD hS => ?_)
            have hP : va_P D vwCl (wM cy m0 m1 m2 m3 m4 m5 m6 m7 m8 m9 m10 m11 m12 m13 m14 m15 m16 m17 1 td sed mi fr to lim f1 f2 dis pin ag en cm mc su isu fir lgt ofs rn wsn) H := hP
            have hD : va_D A (wM cy m0 m1 m2 m3 m4 m5 m6 m7 m8 m9 m10 m11 m12 m13 m14 m15 m16 m17 1 td sed mi fr to lim f1 f2 dis pin ag en cm mc su isu fir lgt ofs rn wsn) := hD
            refine lv_aload_n hx hb dX3_addIssuer_84 rfl (lv_at hl 1 rfl) ?_
            refine va_get (D := D) (ci := 3) (v := .int 1) (C := RX3) (T := TX3) (N := 22) hx hb hts g_X3 hown hE.1 hP 0 rfl rfl 0 (by decide) f_66 (fun _ h9 => h9) rfl dX3_addIssuer_85 ?_
            refine lv_if_le (tgt := 93) hx hb dX3_addIssuer_88 (by decide) (fun c_88 => absurd c_88 (by decide)) (fun _ => ?_)
            refine lv_iconst (v := 0) hx hb dX3_addIssuer_91 (by decide) ?_
            have w_th : 1 = cdAddM mi sg fr_ to_ li_ := (by simp [cdAddM, c_8, c_19, c_30, c_43, c_51])
            exact hret _ _ _ _ 0 () dX3_addIssuer_92 (Or.inl rfl) trivial (by show va_P D vwCl (wM cy m0 m1 m2 m3 m4 m5 m6 m7 m8 m9 m10 m11 m12 m13 m14 m15 m16 m17 (cdAddM mi sg fr_ to_ li_) td sed mi fr to lim f1 f2 dis pin ag en cm mc su isu fir lgt ofs rn wsn) _; rw [← w_th]; exact hP) hS
      · refine lv_iconst (v := 1) hx hb dX3_addIssuer_33 (by decide) ?_
        refine lv_goto (tgt := 38) hx hb dX3_addIssuer_34 (by decide) ?_
        refine lv_istore (lv' := [(5, .int 1), (0, .ref m0), (1, .int sg), (2, .int fr_), (3, .int to_), (4, .int li_)]) hx hb dX3_addIssuer_38 hl (by decide) rfl (fun ls hl => ?_)
        refine lv_aload_n hx hb dX3_addIssuer_40 rfl (lv_at hl 1 rfl) ?_
        refine lv_iload_n hx hb dX3_addIssuer_41 rfl (lv_at hl 2 rfl) ?_
        refine lv_iconst (v := (-1)) hx hb dX3_addIssuer_42 (by decide) ?_
        refine lv_icmp_eq (tgt := 58) hx hb dX3_addIssuer_43 (by decide) (fun c_43 => ?_) (fun c_43 => ?_)
        · refine lv_iload hx hb dX3_addIssuer_58 (lv_at hl 0 rfl) ?_
          refine lv_if_ne (tgt := 67) hx hb dX3_addIssuer_60 (by decide) (fun _ => ?_) (fun c_60 => absurd c_60 (by decide))
          refine lv_aload_n hx hb dX3_addIssuer_67 rfl (lv_at hl 1 rfl) ?_
          refine va_get (D := D) (ci := 3) (v := .int (nI mi)) (C := RX3) (T := TX3) (N := 22) hx hb hts g_X3 hown hE.1 hP 0 rfl rfl 3 (by decide) f_69 (fun _ h9 => h9) rfl dX3_addIssuer_68 ?_
          refine lv_bipush (v := 8) hx hb dX3_addIssuer_71 (by decide) ?_
          refine lv_icmp_ne (tgt := 80) hx hb dX3_addIssuer_73 (by decide) (fun c_73 => ?_) (fun c_73 => ?_)
          · have c_73n : ¬ mi = 8 := k_neN (a := mi) (b := 8) (by omega) (by omega) c_73
            refine lv_iconst (v := 0) hx hb dX3_addIssuer_80 (by decide) ?_
            refine va_put (D := D) (ci := 3) (v := .int 0) (ty := .int) (C := RX3) (T := TX3) (N := 22) hx hb hts g_X3 tyX3 tyX3_ok nmX3 hown hE.1 hP hD hS 0 rfl rfl 0 (by decide) f_66 (fun _ h9 => h9) rfl (by decide +kernel) rfl rfl (Nat.le_of_ble_eq_true rfl) dX3_addIssuer_81 (fun H locs hP hD hS => ?_)
            have hP : va_P D vwCl (wM cy m0 m1 m2 m3 m4 m5 m6 m7 m8 m9 m10 m11 m12 m13 m14 m15 m16 m17 0 td sed mi fr to lim f1 f2 dis pin ag en cm mc su isu fir lgt ofs rn wsn) H := hP
            have hD : va_D A (wM cy m0 m1 m2 m3 m4 m5 m6 m7 m8 m9 m10 m11 m12 m13 m14 m15 m16 m17 0 td sed mi fr to lim f1 f2 dis pin ag en cm mc su isu fir lgt ofs rn wsn) := hD
            refine lv_aload_n hx hb dX3_addIssuer_84 rfl (lv_at hl 1 rfl) ?_
            refine va_get (D := D) (ci := 3) (v := .int 0) (C := RX3) (T := TX3) (N := 22) hx hb hts g_X3 hown hE.1 hP 0 rfl rfl 0 (by decide) f_66 (fun _ h9 => h9) rfl dX3_addIssuer_85 ?_
            refine lv_if_le (tgt := 93) hx hb dX3_addIssuer_88 (by decide) (fun _ => ?_) (fun c_88 => absurd c_88 (by decide))
            have hm8 : mi < 8 := by omega
            refine lv_aload_n hx hb dX3_addIssuer_93 rfl (lv_at hl 1 rfl) ?_
            refine va_get (D := D) (ci := 3) (v := .ref m1) (C := RX3) (T := TX3) (N := 22) hx hb hts g_X3 hown hE.1 hP 0 rfl rfl 4 (by decide) f_13 (fun _ h9 => h9) rfl dX3_addIssuer_94 ?_
            refine lv_aload_n hx hb dX3_addIssuer_97 rfl (lv_at hl 1 rfl) ?_
            refine va_get (D := D) (ci := 3) (v := .int (nI mi)) (C := RX3) (T := TX3) (N := 22) hx hb hts g_X3 hown hE.1 hP 0 rfl rfl 3 (by decide) f_69 (fun _ h9 => h9) rfl dX3_addIssuer_98 ?_
            refine lv_iload_n hx hb dX3_addIssuer_101 rfl (lv_at hl 3 rfl) ?_
            refine k_ist hx hb hE.1 hP hD hS 1 0 rfl rfl (j := mi) (by omega) (by decide) dX3_addIssuer_102 (fun H locs hP hD hS => ?_)
            have hP : va_P D vwCl (wM cy m0 m1 m2 m3 m4 m5 m6 m7 m8 m9 m10 m11 m12 m13 m14 m15 m16 m17 0 td sed mi (upd fr mi fr_) to lim f1 f2 dis pin ag en cm mc su isu fir lgt ofs rn wsn) H := hP
            have hD : va_D A (wM cy m0 m1 m2 m3 m4 m5 m6 m7 m8 m9 m10 m11 m12 m13 m14 m15 m16 m17 0 td sed mi (upd fr mi fr_) to lim f1 f2 dis pin ag en cm mc su isu fir lgt ofs rn wsn) := hD
            refine lv_aload_n hx hb dX3_addIssuer_103 rfl (lv_at hl 1 rfl) ?_
            refine va_get (D := D) (ci := 3) (v := .ref m2) (C := RX3) (T := TX3) (N := 22) hx hb hts g_X3 hown hE.1 hP 0 rfl rfl 5 (by decide) f_17 (fun _ h9 => h9) rfl dX3_addIssuer_104 ?_
            refine lv_aload_n hx hb dX3_addIssuer_107 rfl (lv_at hl 1 rfl) ?_
            refine va_get (D := D) (ci := 3) (v := .int (nI mi)) (C := RX3) (T := TX3) (N := 22) hx hb hts g_X3 hown hE.1 hP 0 rfl rfl 3 (by decide) f_69 (fun _ h9 => h9) rfl dX3_addIssuer_108 ?_
            refine lv_iload_n hx hb dX3_addIssuer_111 rfl (lv_at hl 4 rfl) ?_
            refine k_ist hx hb hE.1 hP hD hS 2 0 rfl rfl (j := mi) (by omega) (by decide) dX3_addIssuer_112 (fun H locs hP hD hS => ?_)
            have hP : va_P D vwCl (wM cy m0 m1 m2 m3 m4 m5 m6 m7 m8 m9 m10 m11 m12 m13 m14 m15 m16 m17 0 td sed mi (upd fr mi fr_) (upd to mi to_) lim f1 f2 dis pin ag en cm mc su isu fir lgt ofs rn wsn) H := hP
            have hD : va_D A (wM cy m0 m1 m2 m3 m4 m5 m6 m7 m8 m9 m10 m11 m12 m13 m14 m15 m16 m17 0 td sed mi (upd fr mi fr_) (upd to mi to_) lim f1 f2 dis pin ag en cm mc su isu fir lgt ofs rn wsn) := hD
            refine lv_aload_n hx hb dX3_addIssuer_113 rfl (lv_at hl 1 rfl) ?_
            refine va_get (D := D) (ci := 3) (v := .ref m3) (C := RX3) (T := TX3) (N := 22) hx hb hts g_X3 hown hE.1 hP 0 rfl rfl 6 (by decide) f_20 (fun _ h9 => h9) rfl dX3_addIssuer_114 ?_
            refine lv_aload_n hx hb dX3_addIssuer_117 rfl (lv_at hl 1 rfl) ?_
            refine va_get (D := D) (ci := 3) (v := .int (nI mi)) (C := RX3) (T := TX3) (N := 22) hx hb hts g_X3 hown hE.1 hP 0 rfl rfl 3 (by decide) f_69 (fun _ h9 => h9) rfl dX3_addIssuer_118 ?_
            refine lv_iload hx hb dX3_addIssuer_121 (lv_at hl 5 rfl) ?_
            refine k_ist hx hb hE.1 hP hD hS 3 0 rfl rfl (j := mi) (by omega) (by decide) dX3_addIssuer_123 (fun H locs hP hD hS => ?_)
            have hP : va_P D vwCl (wM cy m0 m1 m2 m3 m4 m5 m6 m7 m8 m9 m10 m11 m12 m13 m14 m15 m16 m17 0 td sed mi (upd fr mi fr_) (upd to mi to_) (upd lim mi li_) f1 f2 dis pin ag en cm mc su isu fir lgt ofs rn wsn) H := hP
            have hD : va_D A (wM cy m0 m1 m2 m3 m4 m5 m6 m7 m8 m9 m10 m11 m12 m13 m14 m15 m16 m17 0 td sed mi (upd fr mi fr_) (upd to mi to_) (upd lim mi li_) f1 f2 dis pin ag en cm mc su isu fir lgt ofs rn wsn) := hD
            refine lv_aload_n hx hb dX3_addIssuer_124 rfl (lv_at hl 1 rfl) ?_
            refine va_get (D := D) (ci := 3) (v := .ref m4) (C := RX3) (T := TX3) (N := 22) hx hb hts g_X3 hown hE.1 hP 0 rfl rfl 7 (by decide) f_23 (fun _ h9 => h9) rfl dX3_addIssuer_125 ?_
            refine lv_aload_n hx hb dX3_addIssuer_128 rfl (lv_at hl 1 rfl) ?_
            refine va_get (D := D) (ci := 3) (v := .int (nI mi)) (C := RX3) (T := TX3) (N := 22) hx hb hts g_X3 hown hE.1 hP 0 rfl rfl 3 (by decide) f_69 (fun _ h9 => h9) rfl dX3_addIssuer_129 ?_
            refine lv_iload_n hx hb dX3_addIssuer_132 rfl (lv_at hl 2 rfl) ?_
            refine k_ist hx hb hE.1 hP hD hS 4 0 rfl rfl (j := mi) (by omega) (by decide) dX3_addIssuer_133 (fun H locs hP hD hS => ?_)
            have hP : va_P D vwCl (wM cy m0 m1 m2 m3 m4 m5 m6 m7 m8 m9 m10 m11 m12 m13 m14 m15 m16 m17 0 td sed mi (upd fr mi fr_) (upd to mi to_) (upd lim mi li_) (upd f1 mi sg) f2 dis pin ag en cm mc su isu fir lgt ofs rn wsn) H := hP
            have hD : va_D A (wM cy m0 m1 m2 m3 m4 m5 m6 m7 m8 m9 m10 m11 m12 m13 m14 m15 m16 m17 0 td sed mi (upd fr mi fr_) (upd to mi to_) (upd lim mi li_) (upd f1 mi sg) f2 dis pin ag en cm mc su isu fir lgt ofs rn wsn) := hD
            refine lv_aload_n hx hb dX3_addIssuer_134 rfl (lv_at hl 1 rfl) ?_
            refine va_get (D := D) (ci := 3) (v := .ref m5) (C := RX3) (T := TX3) (N := 22) hx hb hts g_X3 hown hE.1 hP 0 rfl rfl 8 (by decide) f_26 (fun _ h9 => h9) rfl dX3_addIssuer_135 ?_
            refine lv_aload_n hx hb dX3_addIssuer_138 rfl (lv_at hl 1 rfl) ?_
            refine va_get (D := D) (ci := 3) (v := .int (nI mi)) (C := RX3) (T := TX3) (N := 22) hx hb hts g_X3 hown hE.1 hP 0 rfl rfl 3 (by decide) f_69 (fun _ h9 => h9) rfl dX3_addIssuer_139 ?_
            refine lv_iconst (v := (-1)) hx hb dX3_addIssuer_142 (by decide) ?_
            refine k_ist hx hb hE.1 hP hD hS 5 0 rfl rfl (j := mi) (by omega) (by decide) dX3_addIssuer_143 (fun H locs hP hD hS => ?_)
            have hP : va_P D vwCl (wM cy m0 m1 m2 m3 m4 m5 m6 m7 m8 m9 m10 m11 m12 m13 m14 m15 m16 m17 0 td sed mi (upd fr mi fr_) (upd to mi to_) (upd lim mi li_) (upd f1 mi sg) (upd f2 mi (-1)) dis pin ag en cm mc su isu fir lgt ofs rn wsn) H := hP
            have hD : va_D A (wM cy m0 m1 m2 m3 m4 m5 m6 m7 m8 m9 m10 m11 m12 m13 m14 m15 m16 m17 0 td sed mi (upd fr mi fr_) (upd to mi to_) (upd lim mi li_) (upd f1 mi sg) (upd f2 mi (-1)) dis pin ag en cm mc su isu fir lgt ofs rn wsn) := hD
            refine lv_aload_n hx hb dX3_addIssuer_144 rfl (lv_at hl 1 rfl) ?_
            refine va_get (D := D) (ci := 3) (v := .ref m6) (C := RX3) (T := TX3) (N := 22) hx hb hts g_X3 hown hE.1 hP 0 rfl rfl 9 (by decide) f_29 (fun _ h9 => h9) rfl dX3_addIssuer_145 ?_
            refine lv_aload_n hx hb dX3_addIssuer_148 rfl (lv_at hl 1 rfl) ?_
            refine va_get (D := D) (ci := 3) (v := .int (nI mi)) (C := RX3) (T := TX3) (N := 22) hx hb hts g_X3 hown hE.1 hP 0 rfl rfl 3 (by decide) f_69 (fun _ h9 => h9) rfl dX3_addIssuer_149 ?_
            refine lv_iconst (v := (-1)) hx hb dX3_addIssuer_152 (by decide) ?_
            refine k_ist hx hb hE.1 hP hD hS 6 0 rfl rfl (j := mi) (by omega) (by decide) dX3_addIssuer_153 (fun H locs hP hD hS => ?_)
            have hP : va_P D vwCl (wM cy m0 m1 m2 m3 m4 m5 m6 m7 m8 m9 m10 m11 m12 m13 m14 m15 m16 m17 0 td sed mi (upd fr mi fr_) (upd to mi to_) (upd lim mi li_) (upd f1 mi sg) (upd f2 mi (-1)) (upd dis mi (-1)) pin ag en cm mc su isu fir lgt ofs rn wsn) H := hP
            have hD : va_D A (wM cy m0 m1 m2 m3 m4 m5 m6 m7 m8 m9 m10 m11 m12 m13 m14 m15 m16 m17 0 td sed mi (upd fr mi fr_) (upd to mi to_) (upd lim mi li_) (upd f1 mi sg) (upd f2 mi (-1)) (upd dis mi (-1)) pin ag en cm mc su isu fir lgt ofs rn wsn) := hD
            refine lv_aload_n hx hb dX3_addIssuer_154 rfl (lv_at hl 1 rfl) ?_
            refine lv_dup hx hb dX3_addIssuer_155 rfl ?_
            refine va_get (D := D) (ci := 3) (v := .int (nI mi)) (C := RX3) (T := TX3) (N := 22) hx hb hts g_X3 hown hE.1 hP 0 rfl rfl 3 (by decide) f_69 (fun _ h9 => h9) rfl dX3_addIssuer_156 ?_
            refine lv_iconst (v := 1) hx hb dX3_addIssuer_159 (by decide) ?_
            refine lv_iadd hx hb dX3_addIssuer_160 ?_
            refine k_top (z := nI (mi + 1)) (nI_1 _) ?_
            refine va_put (D := D) (ci := 3) (v := .int (nI (mi + 1))) (ty := .int) (C := RX3) (T := TX3) (N := 22) hx hb hts g_X3 tyX3 tyX3_ok nmX3 hown hE.1 hP hD hS 0 rfl rfl 3 (by decide) f_69 (fun _ h9 => h9) rfl (by decide +kernel) rfl rfl (Nat.le_of_ble_eq_true rfl) dX3_addIssuer_161 (fun H locs hP hD hS => ?_)
            have hP : va_P D vwCl (wM cy m0 m1 m2 m3 m4 m5 m6 m7 m8 m9 m10 m11 m12 m13 m14 m15 m16 m17 0 td sed (mi + 1) (upd fr mi fr_) (upd to mi to_) (upd lim mi li_) (upd f1 mi sg) (upd f2 mi (-1)) (upd dis mi (-1)) pin ag en cm mc su isu fir lgt ofs rn wsn) H := hP
            have hD : va_D A (wM cy m0 m1 m2 m3 m4 m5 m6 m7 m8 m9 m10 m11 m12 m13 m14 m15 m16 m17 0 td sed (mi + 1) (upd fr mi fr_) (upd to mi to_) (upd lim mi li_) (upd f1 mi sg) (upd f2 mi (-1)) (upd dis mi (-1)) pin ag en cm mc su isu fir lgt ofs rn wsn) := hD
            refine lv_aload_n hx hb dX3_addIssuer_164 rfl (lv_at hl 1 rfl) ?_
            refine va_get (D := D) (ci := 3) (v := .int (nI (mi + 1))) (C := RX3) (T := TX3) (N := 22) hx hb hts g_X3 hown hE.1 hP 0 rfl rfl 3 (by decide) f_69 (fun _ h9 => h9) rfl dX3_addIssuer_165 ?_
            refine lv_iconst (v := 1) hx hb dX3_addIssuer_168 (by decide) ?_
            refine lv_isub hx hb dX3_addIssuer_169 ?_
            refine k_top (z := nI mi) (nI_pred _) ?_
            exact absurd (by simp [cdAddM, c_8, c_19, c_30, c_43, c_73]) hcd
          · have c_73n : mi = 8 := k_eqN (a := mi) (b := 8) (by omega) (by omega) c_73
            refine lv_iconst (v := 3) hx hb dX3_addIssuer_76 (by decide) ?_
            refine lv_goto (tgt := 81) hx hb dX3_addIssuer_77 (by decide) ?_
            refine va_put (D := D) (ci := 3) (v := .int 3) (ty := .int) (C := RX3) (T := TX3) (N := 22) hx hb hts g_X3 tyX3 tyX3_ok nmX3 hown hE.1 hP hD hS 0 rfl rfl 0 (by decide) f_66 (fun _ h9 => h9) rfl (by decide +kernel) rfl rfl (Nat.le_of_ble_eq_true rfl) dX3_addIssuer_81 (fun H locs hP hD hS => ?_)
            have hP : va_P D vwCl (wM cy m0 m1 m2 m3 m4 m5 m6 m7 m8 m9 m10 m11 m12 m13 m14 m15 m16 m17 3 td sed mi fr to lim f1 f2 dis pin ag en cm mc su isu fir lgt ofs rn wsn) H := hP
            have hD : va_D A (wM cy m0 m1 m2 m3 m4 m5 m6 m7 m8 m9 m10 m11 m12 m13 m14 m15 m16 m17 3 td sed mi fr to lim f1 f2 dis pin ag en cm mc su isu fir lgt ofs rn wsn) := hD
            refine lv_aload_n hx hb dX3_addIssuer_84 rfl (lv_at hl 1 rfl) ?_
            refine va_get (D := D) (ci := 3) (v := .int 3) (C := RX3) (T := TX3) (N := 22) hx hb hts g_X3 hown hE.1 hP 0 rfl rfl 0 (by decide) f_66 (fun _ h9 => h9) rfl dX3_addIssuer_85 ?_
            refine lv_if_le (tgt := 93) hx hb dX3_addIssuer_88 (by decide) (fun c_88 => absurd c_88 (by decide)) (fun _ => ?_)
            refine lv_iconst (v := 0) hx hb dX3_addIssuer_91 (by decide) ?_
            have w_th : 3 = cdAddM mi sg fr_ to_ li_ := (by simp [cdAddM, c_8, c_19, c_30, c_43, c_73])
            exact hret _ _ _ _ 0 () dX3_addIssuer_92 (Or.inl rfl) trivial (by show va_P D vwCl (wM cy m0 m1 m2 m3 m4 m5 m6 m7 m8 m9 m10 m11 m12 m13 m14 m15 m16 m17 (cdAddM mi sg fr_ to_ li_) td sed mi fr to lim f1 f2 dis pin ag en cm mc su isu fir lgt ofs rn wsn) _; rw [← w_th]; exact hP) hS
        · refine lv_aload_n hx hb dX3_addIssuer_46 rfl (lv_at hl 1 rfl) ?_
          refine lv_iload_n hx hb dX3_addIssuer_47 rfl (lv_at hl 2 rfl) ?_
          refine kcW_i (n := 1) (wc := wM cy m0 m1 m2 m3 m4 m5 m6 m7 m8 m9 m10 m11 m12 m13 m14 m15 m16 m17 th td sed mi fr to lim f1 f2 dis pin ag en cm mc su isu fir lgt ofs rn wsn) (As := [.int sg]) (rest := [.ref m0]) ⟨hx, hb, hml, hown, hts⟩ hE hA hP hD hS (c_X3_isIssuer l D cy m0 m1 m2 m3 m4 m5 m6 m7 m8 m9 m10 m11 m12 m13 m14 m15 m16 m17 th td sed mi fr to lim f1 f2 dis pin ag en cm mc su isu fir lgt ofs rn wsn sg (by first | assumption | omega)) (fun _ => rfl) (q0 := 0) (ci := 3) rfl rfl gX3_addIssuer_X3_isIssuer rfl rfl rfl ⟨rfl, by decide, by decide, by decide +kernel⟩ ⟨Nat.le_of_ble_eq_true rfl, Nat.le_of_ble_eq_true rfl⟩ rfl hl.1 rfl (Nat.le_of_ble_eq_true rfl) dX3_addIssuer_48 ⟨Nat.zero_le _, Nat.zero_le _⟩ (fun r_13 u H locs e_14 hP hD hS => ?_)
          have hP : va_P D vwCl (wM cy m0 m1 m2 m3 m4 m5 m6 m7 m8 m9 m10 m11 m12 m13 m14 m15 m16 m17 th td sed mi fr to lim f1 f2 dis pin ag en cm mc su isu fir lgt ofs rn wsn) H := hP
          have hD : va_D A (wM cy m0 m1 m2 m3 m4 m5 m6 m7 m8 m9 m10 m11 m12 m13 m14 m15 m16 m17 th td sed mi fr to lim f1 f2 dis pin ag en cm mc su isu fir lgt ofs rn wsn) := hD
          have e_14 : r_13 = bI (badI mi sg = false) := e_14
          subst e_14
          refine k_ifne (tgt := 58) hx hb dX3_addIssuer_51 (by decide) (fun c_51 => ?_) (fun c_51 => ?_)
          · refine lv_iload hx hb dX3_addIssuer_58 (lv_at hl 0 rfl) ?_
            refine lv_if_ne (tgt := 67) hx hb dX3_addIssuer_60 (by decide) (fun _ => ?_) (fun c_60 => absurd c_60 (by decide))
            refine lv_aload_n hx hb dX3_addIssuer_67 rfl (lv_at hl 1 rfl) ?_
            refine va_get (D := D) (ci := 3) (v := .int (nI mi)) (C := RX3) (T := TX3) (N := 22) hx hb hts g_X3 hown hE.1 hP 0 rfl rfl 3 (by decide) f_69 (fun _ h9 => h9) rfl dX3_addIssuer_68 ?_
            refine lv_bipush (v := 8) hx hb dX3_addIssuer_71 (by decide) ?_
            refine lv_icmp_ne (tgt := 80) hx hb dX3_addIssuer_73 (by decide) (fun c_73 => ?_) (fun c_73 => ?_)
            · have c_73n : ¬ mi = 8 := k_neN (a := mi) (b := 8) (by omega) (by omega) c_73
              refine lv_iconst (v := 0) hx hb dX3_addIssuer_80 (by decide) ?_
              refine va_put (D := D) (ci := 3) (v := .int 0) (ty := .int) (C := RX3) (T := TX3) (N := 22) hx hb hts g_X3 tyX3 tyX3_ok nmX3 hown hE.1 hP hD hS 0 rfl rfl 0 (by decide) f_66 (fun _ h9 => h9) rfl (by decide +kernel) rfl rfl (Nat.le_of_ble_eq_true rfl) dX3_addIssuer_81 (fun H locs hP hD hS => ?_)
              have hP : va_P D vwCl (wM cy m0 m1 m2 m3 m4 m5 m6 m7 m8 m9 m10 m11 m12 m13 m14 m15 m16 m17 0 td sed mi fr to lim f1 f2 dis pin ag en cm mc su isu fir lgt ofs rn wsn) H := hP
              have hD : va_D A (wM cy m0 m1 m2 m3 m4 m5 m6 m7 m8 m9 m10 m11 m12 m13 m14 m15 m16 m17 0 td sed mi fr to lim f1 f2 dis pin ag en cm mc su isu fir lgt ofs rn wsn) := hD
              refine lv_aload_n hx hb dX3_addIssuer_84 rfl (lv_at hl 1 rfl) ?_
              refine va_get (D := D) (ci := 3) (v := .int 0) (C := RX3) (T := TX3) (N := 22) hx hb hts g_X3 hown hE.1 hP 0 rfl rfl 0 (by decide) f_66 (fun _ h9 => h9) rfl dX3_addIssuer_85 ?_
              refine lv_if_le (tgt := 93) hx hb dX3_addIssuer_88 (by decide) (fun _ => ?_) (fun c_88 => absurd c_88 (by decide))
              have hm8 : mi < 8 := by omega
              refine lv_aload_n hx hb dX3_addIssuer_93 rfl (lv_at hl 1 rfl) ?_
              refine va_get (D := D) (ci := 3) (v := .ref m1) (C := RX3) (T := TX3) (N := 22) hx hb hts g_X3 hown hE.1 hP 0 rfl rfl 4 (by decide) f_13 (fun _ h9 => h9) rfl dX3_addIssuer_94 ?_
              refine lv_aload_n hx hb dX3_addIssuer_97 rfl (lv_at hl 1 rfl) ?_
              refine va_get (D := D) (ci := 3) (v := .int (nI mi)) (C := RX3) (T := TX3) (N := 22) hx hb hts g_X3 hown hE.1 hP 0 rfl rfl 3 (by decide) f_69 (fun _ h9 => h9) rfl dX3_addIssuer_98 ?_
              refine lv_iload_n hx hb dX3_addIssuer_101 rfl (lv_at hl 3 rfl) ?_
              refine k_ist hx hb hE.1 hP hD hS 1 0 rfl rfl (j := mi) (by omega) (by decide) dX3_addIssuer_102 (fun H locs hP hD hS => ?_)
              have hP : va_P D vwCl (wM cy m0 m1 m2 m3 m4 m5 m6 m7 m8 m9 m10 m11 m12 m13 m14 m15 m16 m17 0 td sed mi (upd fr mi fr_) to lim f1 f2 dis pin ag en cm mc su isu fir lgt ofs rn wsn) H := hP
              have hD : va_D A (wM cy m0 m1 m2 m3 m4 m5 m6 m7 m8 m9 m10 m11 m12 m13 m14 m15 m16 m17 0 td sed mi (upd fr mi fr_) to lim f1 f2 dis pin ag en cm mc su isu fir lgt ofs rn wsn) := hD
              refine lv_aload_n hx hb dX3_addIssuer_103 rfl (lv_at hl 1 rfl) ?_
              refine va_get (D := D) (ci := 3) (v := .ref m2) (C := RX3) (T := TX3) (N := 22) hx hb hts g_X3 hown hE.1 hP 0 rfl rfl 5 (by decide) f_17 (fun _ h9 => h9) rfl dX3_addIssuer_104 ?_
              refine lv_aload_n hx hb dX3_addIssuer_107 rfl (lv_at hl 1 rfl) ?_
              refine va_get (D := D) (ci := 3) (v := .int (nI mi)) (C := RX3) (T := TX3) (N := 22) hx hb hts g_X3 hown hE.1 hP 0 rfl rfl 3 (by decide) f_69 (fun _ h9 => h9) rfl dX3_addIssuer_108 ?_
              refine lv_iload_n hx hb dX3_addIssuer_111 rfl (lv_at hl 4 rfl) ?_
              refine k_ist hx hb hE.1 hP hD hS 2 0 rfl rfl (j := mi) (by omega) (by decide) dX3_addIssuer_112 (fun H locs hP hD hS => ?_)
              have hP : va_P D vwCl (wM cy m0 m1 m2 m3 m4 m5 m6 m7 m8 m9 m10 m11 m12 m13 m14 m15 m16 m17 0 td sed mi (upd fr mi fr_) (upd to mi to_) lim f1 f2 dis pin ag en cm mc su isu fir lgt ofs rn wsn) H := hP
              have hD : va_D A (wM cy m0 m1 m2 m3 m4 m5 m6 m7 m8 m9 m10 m11 m12 m13 m14 m15 m16 m17 0 td sed mi (upd fr mi fr_) (upd to mi to_) lim f1 f2 dis pin ag en cm mc su isu fir lgt ofs rn wsn) := hD
              refine lv_aload_n hx hb dX3_addIssuer_113 rfl (lv_at hl 1 rfl) ?_
              refine va_get (D := D) (ci := 3) (v := .ref m3) (C := RX3) (T := TX3) (N := 22) hx hb hts g_X3 hown hE.1 hP 0 rfl rfl 6 (by decide) f_20 (fun _ h9 => h9) rfl dX3_addIssuer_114 ?_
              refine lv_aload_n hx hb dX3_addIssuer_117 rfl (lv_at hl 1 rfl) ?_
              refine va_get (D := D) (ci := 3) (v := .int (nI mi)) (C := RX3) (T := TX3) (N := 22) hx hb hts g_X3 hown hE.1 hP 0 rfl rfl 3 (by decide) f_69 (fun _ h9 => h9) rfl dX3_addIssuer_118 ?_
              refine lv_iload hx hb dX3_addIssuer_121 (lv_at hl 5 rfl) ?_
              refine k_ist hx hb hE.1 hP hD hS 3 0 rfl rfl (j := mi) (by omega) (by decide) dX3_addIssuer_123 (fun H locs hP hD hS => ?_)
              have hP : va_P D vwCl (wM cy m0 m1 m2 m3 m4 m5 m6 m7 m8 m9 m10 m11 m12 m13 m14 m15 m16 m17 0 td sed mi (upd fr mi fr_) (upd to mi to_) (upd lim mi li_) f1 f2 dis pin ag en cm mc su isu fir lgt ofs rn wsn) H := hP
              have hD : va_D A (wM cy m0 m1 m2 m3 m4 m5 m6 m7 m8 m9 m10 m11 m12 m13 m14 m15 m16 m17 0 td sed mi (upd fr mi fr_) (upd to mi to_) (upd lim mi li_) f1 f2 dis pin ag en cm mc su isu fir lgt ofs rn wsn) := hD
              refine lv_aload_n hx hb dX3_addIssuer_124 rfl (lv_at hl 1 rfl) ?_
              refine va_get (D := D) (ci := 3) (v := .ref m4) (C := RX3) (T := TX3) (N := 22) hx hb hts g_X3 hown hE.1 hP 0 rfl rfl 7 (by decide) f_23 (fun _ h9 => h9) rfl dX3_addIssuer_125 ?_
              refine lv_aload_n hx hb dX3_addIssuer_128 rfl (lv_at hl 1 rfl) ?_
              refine va_get (D := D) (ci := 3) (v := .int (nI mi)) (C := RX3) (T := TX3) (N := 22) hx hb hts g_X3 hown hE.1 hP 0 rfl rfl 3 (by decide) f_69 (fun _ h9 => h9) rfl dX3_addIssuer_129 ?_
              refine lv_iload_n hx hb dX3_addIssuer_132 rfl (lv_at hl 2 rfl) ?_
              refine k_ist hx hb hE.1 hP hD hS 4 0 rfl rfl (j := mi) (by omega) (by decide) dX3_addIssuer_133 (fun H locs hP hD hS => ?_)
              have hP : va_P D vwCl (wM cy m0 m1 m2 m3 m4 m5 m6 m7 m8 m9 m10 m11 m12 m13 m14 m15 m16 m17 0 td sed mi (upd fr mi fr_) (upd to mi to_) (upd lim mi li_) (upd f1 mi sg) f2 dis pin ag en cm mc su isu fir lgt ofs rn wsn) H := hP
              have hD : va_D A (wM cy m0 m1 m2 m3 m4 m5 m6 m7 m8 m9 m10 m11 m12 m13 m14 m15 m16 m17 0 td sed mi (upd fr mi fr_) (upd to mi to_) (upd lim mi li_) (upd f1 mi sg) f2 dis pin ag en cm mc su isu fir lgt ofs rn wsn) := hD
              refine lv_aload_n hx hb dX3_addIssuer_134 rfl (lv_at hl 1 rfl) ?_
              refine va_get (D := D) (ci := 3) (v := .ref m5) (C := RX3) (T := TX3) (N := 22) hx hb hts g_X3 hown hE.1 hP 0 rfl rfl 8 (by decide) f_26 (fun _ h9 => h9) rfl dX3_addIssuer_135 ?_
              refine lv_aload_n hx hb dX3_addIssuer_138 rfl (lv_at hl 1 rfl) ?_
              refine va_get (D := D) (ci := 3) (v := .int (nI mi)) (C := RX3) (T := TX3) (N := 22) hx hb hts g_X3 hown hE.1 hP 0 rfl rfl 3 (by decide) f_69 (fun _ h9 => h9) rfl dX3_addIssuer_139 ?_
              refine lv_iconst (v := (-1)) hx hb dX3_addIssuer_142 (by decide) ?_
              refine k_ist hx hb hE.1 hP hD hS 5 0 rfl rfl (j := mi) (by omega) (by decide) dX3_addIssuer_143 (fun H locs hP hD hS => ?_)
              have hP : va_P D vwCl (wM cy m0 m1 m2 m3 m4 m5 m6 m7 m8 m9 m10 m11 m12 m13 m14 m15 m16 m17 0 td sed mi (upd fr mi fr_) (upd to mi to_) (upd lim mi li_) (upd f1 mi sg) (upd f2 mi (-1)) dis pin ag en cm mc su isu fir lgt ofs rn wsn) H := hP
              have hD : va_D A (wM cy m0 m1 m2 m3 m4 m5 m6 m7 m8 m9 m10 m11 m12 m13 m14 m15 m16 m17 0 td sed mi (upd fr mi fr_) (upd to mi to_) (upd lim mi li_) (upd f1 mi sg) (upd f2 mi (-1)) dis pin ag en cm mc su isu fir lgt ofs rn wsn) := hD
              refine lv_aload_n hx hb dX3_addIssuer_144 rfl (lv_at hl 1 rfl) ?_
              refine va_get (D := D) (ci := 3) (v := .ref m6) (C := RX3) (T := TX3) (N := 22) hx hb hts g_X3 hown hE.1 hP 0 rfl rfl 9 (by decide) f_29 (fun _ h9 => h9) rfl dX3_addIssuer_145 ?_
              refine lv_aload_n hx hb dX3_addIssuer_148 rfl (lv_at hl 1 rfl) ?_
              refine va_get (D := D) (ci := 3) (v := .int (nI mi)) (C := RX3) (T := TX3) (N := 22) hx hb hts g_X3 hown hE.1 hP 0 rfl rfl 3 (by decide) f_69 (fun _ h9 => h9) rfl dX3_addIssuer_149 ?_
              refine lv_iconst (v := (-1)) hx hb dX3_addIssuer_152 (by decide) ?_
              refine k_ist hx hb hE.1 hP hD hS 6 0 rfl rfl (j := mi) (by omega) (by decide) dX3_addIssuer_153 (fun H locs hP hD hS => ?_)
              have hP : va_P D vwCl (wM cy m0 m1 m2 m3 m4 m5 m6 m7 m8 m9 m10 m11 m12 m13 m14 m15 m16 m17 0 td sed mi (upd fr mi fr_) (upd to mi to_) (upd lim mi li_) (upd f1 mi sg) (upd f2 mi (-1)) (upd dis mi (-1)) pin ag en cm mc su isu fir lgt ofs rn wsn) H := hP
              have hD : va_D A (wM cy m0 m1 m2 m3 m4 m5 m6 m7 m8 m9 m10 m11 m12 m13 m14 m15 m16 m17 0 td sed mi (upd fr mi fr_) (upd to mi to_) (upd lim mi li_) (upd f1 mi sg) (upd f2 mi (-1)) (upd dis mi (-1)) pin ag en cm mc su isu fir lgt ofs rn wsn) := hD
              refine lv_aload_n hx hb dX3_addIssuer_154 rfl (lv_at hl 1 rfl) ?_
              refine lv_dup hx hb dX3_addIssuer_155 rfl ?_
              refine va_get (D := D) (ci := 3) (v := .int (nI mi)) (C := RX3) (T := TX3) (N := 22) hx hb hts g_X3 hown hE.1 hP 0 rfl rfl 3 (by decide) f_69 (fun _ h9 => h9) rfl dX3_addIssuer_156 ?_
              refine lv_iconst (v := 1) hx hb dX3_addIssuer_159 (by decide) ?_
              refine lv_iadd hx hb dX3_addIssuer_160 ?_
              refine k_top (z := nI (mi + 1)) (nI_1 _) ?_
              refine va_put (D := D) (ci := 3) (v := .int (nI (mi + 1))) (ty := .int) (C := RX3) (T := TX3) (N := 22) hx hb hts g_X3 tyX3 tyX3_ok nmX3 hown hE.1 hP hD hS 0 rfl rfl 3 (by decide) f_69 (fun _ h9 => h9) rfl (by decide +kernel) rfl rfl (Nat.le_of_ble_eq_true rfl) dX3_addIssuer_161 (fun H locs hP hD hS => ?_)
              have hP : va_P D vwCl (wM cy m0 m1 m2 m3 m4 m5 m6 m7 m8 m9 m10 m11 m12 m13 m14 m15 m16 m17 0 td sed (mi + 1) (upd fr mi fr_) (upd to mi to_) (upd lim mi li_) (upd f1 mi sg) (upd f2 mi (-1)) (upd dis mi (-1)) pin ag en cm mc su isu fir lgt ofs rn wsn) H := hP
              have hD : va_D A (wM cy m0 m1 m2 m3 m4 m5 m6 m7 m8 m9 m10 m11 m12 m13 m14 m15 m16 m17 0 td sed (mi + 1) (upd fr mi fr_) (upd to mi to_) (upd lim mi li_) (upd f1 mi sg) (upd f2 mi (-1)) (upd dis mi (-1)) pin ag en cm mc su isu fir lgt ofs rn wsn) := hD
              refine lv_aload_n hx hb dX3_addIssuer_164 rfl (lv_at hl 1 rfl) ?_
              refine va_get (D := D) (ci := 3) (v := .int (nI (mi + 1))) (C := RX3) (T := TX3) (N := 22) hx hb hts g_X3 hown hE.1 hP 0 rfl rfl 3 (by decide) f_69 (fun _ h9 => h9) rfl dX3_addIssuer_165 ?_
              refine lv_iconst (v := 1) hx hb dX3_addIssuer_168 (by decide) ?_
              refine lv_isub hx hb dX3_addIssuer_169 ?_
              refine k_top (z := nI mi) (nI_pred _) ?_
              exact absurd (by simp [cdAddM, c_8, c_19, c_30, c_43, c_51, c_73]) hcd
            · have c_73n : mi = 8 := k_eqN (a := mi) (b := 8) (by omega) (by omega) c_73
              refine lv_iconst (v := 3) hx hb dX3_addIssuer_76 (by decide) ?_
              refine lv_goto (tgt := 81) hx hb dX3_addIssuer_77 (by decide) ?_
              refine va_put (D := D) (ci := 3) (v := .int 3) (ty := .int) (C := RX3) (T := TX3) (N := 22) hx hb hts g_X3 tyX3 tyX3_ok nmX3 hown hE.1 hP hD hS 0 rfl rfl 0 (by decide) f_66 (fun _ h9 => h9) rfl (by decide +kernel) rfl rfl (Nat.le_of_ble_eq_true rfl) dX3_addIssuer_81 (fun H locs hP hD hS => ?_)
              have hP : va_P D vwCl (wM cy m0 m1 m2 m3 m4 m5 m6 m7 m8 m9 m10 m11 m12 m13 m14 m15 m16 m17 3 td sed mi fr to lim f1 f2 dis pin ag en cm mc su isu fir lgt ofs rn wsn) H := hP
              have hD : va_D A (wM cy m0 m1 m2 m3 m4 m5 m6 m7 m8 m9 m10 m11 m12 m13 m14 m15 m16 m17 3 td sed mi fr to lim f1 f2 dis pin ag en cm mc su isu fir lgt ofs rn wsn) := hD
              refine lv_aload_n hx hb dX3_addIssuer_84 rfl (lv_at hl 1 rfl) ?_
              refine va_get (D := D) (ci := 3) (v := .int 3) (C := RX3) (T := TX3) (N := 22) hx hb hts g_X3 hown hE.1 hP 0 rfl rfl 0 (by decide) f_66 (fun _ h9 => h9) rfl dX3_addIssuer_85 ?_
              refine lv_if_le (tgt := 93) hx hb dX3_addIssuer_88 (by decide) (fun c_88 => absurd c_88 (by decide)) (fun _ => ?_)
              refine lv_iconst (v := 0) hx hb dX3_addIssuer_91 (by decide) ?_
              have w_th : 3 = cdAddM mi sg fr_ to_ li_ := (by simp [cdAddM, c_8, c_19, c_30, c_43, c_51, c_73])
              exact hret _ _ _ _ 0 () dX3_addIssuer_92 (Or.inl rfl) trivial (by show va_P D vwCl (wM cy m0 m1 m2 m3 m4 m5 m6 m7 m8 m9 m10 m11 m12 m13 m14 m15 m16 m17 (cdAddM mi sg fr_ to_ li_) td sed mi fr to lim f1 f2 dis pin ag en cm mc su isu fir lgt ofs rn wsn) _; rw [← w_th]; exact hP) hS
          · refine lv_iconst (v := 1) hx hb dX3_addIssuer_54 (by decide) ?_
            refine lv_goto (tgt := 81) hx hb dX3_addIssuer_55 (by decide) ?_
            refine va_put (D := D) (ci := 3) (v := .int 1) (ty := .int) (C := RX3) (T := TX3) (N := 22) hx hb hts g_X3 tyX3 tyX3_ok nmX3 hown hE.1 hP hD hS 0 rfl rfl 0 (by decide) f_66 (fun _ h9 => h9) rfl (by decide +kernel) rfl rfl (Nat.le_of_ble_eq_true rfl) dX3_addIssuer_81 (fun H locs hP hD hS => ?_)
            have hP : va_P D vwCl (wM cy m0 m1 m2 m3 m4 m5 m6 m7 m8 m9 m10 m11 m12 m13 m14 m15 m16 m17 1 td sed mi fr to lim f1 f2 dis pin ag en cm mc su isu fir lgt ofs rn wsn) H := hP
            have hD : va_D A (wM cy m0 m1 m2 m3 m4 m5 m6 m7 m8 m9 m10 m11 m12 m13 m14 m15 m16 m17 1 td sed mi fr to lim f1 f2 dis pin ag en cm mc su isu fir lgt ofs rn wsn) := hD
            refine lv_aload_n hx hb dX3_addIssuer_84 rfl (lv_at hl 1 rfl) ?_
            refine va_get (D := D) (ci := 3) (v := .int 1) (C := RX3) (T := TX3) (N := 22) hx hb hts g_X3 hown hE.1 hP 0 rfl rfl 0 (by decide) f_66 (fun _ h9 => h9) rfl dX3_addIssuer_85 ?_
            refine lv_if_le (tgt := 93) hx hb dX3_addIssuer_88 (by decide) (fun c_88 => absurd c_88 (by decide)) (fun _ => ?_)
            refine lv_iconst (v := 0) hx hb dX3_addIssuer_91 (by decide) ?_
            have w_th : 1 = cdAddM mi sg fr_ to_ li_ := (by simp [cdAddM, c_8, c_19, c_30, c_43, c_51])
            exact hret _ _ _ _ 0 () dX3_addIssuer_92 (Or.inl rfl) trivial (by show va_P D vwCl (wM cy m0 m1 m2 m3 m4 m5 m6 m7 m8 m9 m10 m11 m12 m13 m14 m15 m16 m17 (cdAddM mi sg fr_ to_ li_) td sed mi fr to lim f1 f2 dis pin ag en cm mc su isu fir lgt ofs rn wsn) _; rw [← w_th]; exact hP) hS

set_option maxHeartbeats 4000000 in
set_option maxRecDepth 100000 in
theorem c_X3_cross (l : Launch) (D : va_G) (cy : ClassId × ClassId × ClassId) (m0 m1 m2 m3 m4 m5 m6 m7 m8 m9 m10 m11 m12 m13 m14 m15 m16 m17 : Nat) (th td sed : Int32) (mi : Nat) (fr to lim f1 f2 dis pin ag en cm : Nat → Int32) (mc : Nat) (su isu fir lgt ofs rn wsn : Nat → Int32) (i_ : Int32) (s_ : Int32) (hm : mi ≤ 8) (h1 : ∀ i, i < mi → sgP f1 i) (h2 : ∀ i, i < mi → sgP f2 i) (hcd : cdCrossM mi f1 f2 i_ s_ = 0) : kI l D cy yX3_cross wsX3_cross (krm 2 43) [.ref m0, .int i_, .int s_] (wM cy m0 m1 m2 m3 m4 m5 m6 m7 m8 m9 m10 m11 m12 m13 m14 m15 m16 m17 th td sed mi fr to lim f1 f2 dis pin ag en cm mc su isu fir lgt ofs rn wsn) (fun (r : Int32) (u : (Nat → Int32)) => r = edV f1 (upd f2 (ix i_) (nI (ix s_))) to (ix i_)) (fun u : (Nat → Int32) => wM cy m0 m1 m2 m3 m4 m5 m6 m7 m8 m9 m10 m11 m12 m13 m14 m15 m16 m17 0 td sed mi fr to lim f1 (upd f2 (ix i_) (nI (ix s_))) dis pin ag u cm mc su isu fir lgt ofs rn wsn) := by
  refine kI.of (cc := cX3_cross) (maxL := 4) (rt := .int) (Or.inl rfl) (by decide) rfl (Nat.le_of_ble_eq_true rfl) ?_
  intro p e s m args below meth c Q A ls hx hb hml hown hts hE hA hP hD hl hret
  have hS : va_S A s.heap s.heap [] := va_S.rf
  have hl : lv_has ls 4 [(0, .ref m0), (1, .int i_), (2, .int s_)] := hl
  have g_X3 : ∀ w ∈ wsX30, w ∈ wsX3_cross := by decide +kernel
  have f_66 := hts (.fieldLink RX3 66 "CertHerdModel" "thrown" "I") (by decide +kernel)
  have f_23 := hts (.fieldLink RX3 23 "CertHerdModel" "firstSigners" "[I") (by decide +kernel)
  have f_26 := hts (.fieldLink RX3 26 "CertHerdModel" "secondSigners" "[I") (by decide +kernel)
  refine lv_aload_n hx hb dX3_cross_0 rfl (lv_at hl 0 rfl) ?_
  refine lv_aload_n hx hb dX3_cross_1 rfl (lv_at hl 0 rfl) ?_
  refine lv_iload_n hx hb dX3_cross_2 rfl (lv_at hl 1 rfl) ?_
  refine kcW_i (n := 1) (wc := wM cy m0 m1 m2 m3 m4 m5 m6 m7 m8 m9 m10 m11 m12 m13 m14 m15 m16 m17 th td sed mi fr to lim f1 f2 dis pin ag en cm mc su isu fir lgt ofs rn wsn) (As := [.int i_]) (rest := [.ref m0]) ⟨hx, hb, hml, hown, hts⟩ hE hA hP hD hS (c_X3_isIssuer l D cy m0 m1 m2 m3 m4 m5 m6 m7 m8 m9 m10 m11 m12 m13 m14 m15 m16 m17 th td sed mi fr to lim f1 f2 dis pin ag en cm mc su isu fir lgt ofs rn wsn i_ (by first | assumption | omega)) (fun _ => rfl) (q0 := 0) (ci := 3) rfl rfl gX3_cross_X3_isIssuer rfl rfl rfl ⟨rfl, by decide, by decide, by decide +kernel⟩ ⟨Nat.le_of_ble_eq_true rfl, Nat.le_of_ble_eq_true rfl⟩ rfl hl.1 rfl (Nat.le_of_ble_eq_true rfl) dX3_cross_3 ⟨Nat.zero_le _, Nat.zero_le _⟩ (fun r_1 u H locs e_2 hP hD hS => ?_)
  have hP : va_P D vwCl (wM cy m0 m1 m2 m3 m4 m5 m6 m7 m8 m9 m10 m11 m12 m13 m14 m15 m16 m17 th td sed mi fr to lim f1 f2 dis pin ag en cm mc su isu fir lgt ofs rn wsn) H := hP
  have hD : va_D A (wM cy m0 m1 m2 m3 m4 m5 m6 m7 m8 m9 m10 m11 m12 m13 m14 m15 m16 m17 th td sed mi fr to lim f1 f2 dis pin ag en cm mc su isu fir lgt ofs rn wsn) := hD
  have e_2 : r_1 = bI (badI mi i_ = false) := e_2
  subst e_2
  refine k_ifeq (tgt := 17) hx hb dX3_cross_6 (by decide) (fun c_6 => ?_) (fun c_6 => ?_)
  · refine lv_iconst (v := 1) hx hb dX3_cross_17 (by decide) ?_
    refine lv_goto (tgt := 31) hx hb dX3_cross_18 (by decide) ?_
    refine va_put (D := D) (ci := 3) (v := .int 1) (ty := .int) (C := RX3) (T := TX3) (N := 22) hx hb hts g_X3 tyX3 tyX3_ok nmX3 hown hE.1 hP hD hS 0 rfl rfl 0 (by decide) f_66 (fun _ h9 => h9) rfl (by decide +kernel) rfl rfl (Nat.le_of_ble_eq_true rfl) dX3_cross_31 (fun H locs hP hD hS => ?_)
    have hP : va_P D vwCl (wM cy m0 m1 m2 m3 m4 m5 m6 m7 m8 m9 m10 m11 m12 m13 m14 m15 m16 m17 1 td sed mi fr to lim f1 f2 dis pin ag en cm mc su isu fir lgt ofs rn wsn) H := hP
    have hD : va_D A (wM cy m0 m1 m2 m3 m4 m5 m6 m7 m8 m9 m10 m11 m12 m13 m14 m15 m16 m17 1 td sed mi fr to lim f1 f2 dis pin ag en cm mc su isu fir lgt ofs rn wsn) := hD
    refine lv_aload_n hx hb dX3_cross_34 rfl (lv_at hl 0 rfl) ?_
    refine va_get (D := D) (ci := 3) (v := .int 1) (C := RX3) (T := TX3) (N := 22) hx hb hts g_X3 hown hE.1 hP 0 rfl rfl 0 (by decide) f_66 (fun _ h9 => h9) rfl dX3_cross_35 ?_
    refine lv_if_le (tgt := 43) hx hb dX3_cross_38 (by decide) (fun c_38 => absurd c_38 (by decide)) (fun _ => ?_)
    refine lv_iconst (v := 0) hx hb dX3_cross_41 (by decide) ?_
    exact absurd hcd (by simp [cdCrossM, c_6])
  · refine lv_aload_n hx hb dX3_cross_9 rfl (lv_at hl 0 rfl) ?_
    refine lv_iload_n hx hb dX3_cross_10 rfl (lv_at hl 2 rfl) ?_
    refine kcW_i (n := 1) (wc := wM cy m0 m1 m2 m3 m4 m5 m6 m7 m8 m9 m10 m11 m12 m13 m14 m15 m16 m17 th td sed mi fr to lim f1 f2 dis pin ag en cm mc su isu fir lgt ofs rn wsn) (As := [.int s_]) (rest := [.ref m0]) ⟨hx, hb, hml, hown, hts⟩ hE hA hP hD hS (c_X3_isIssuer l D cy m0 m1 m2 m3 m4 m5 m6 m7 m8 m9 m10 m11 m12 m13 m14 m15 m16 m17 th td sed mi fr to lim f1 f2 dis pin ag en cm mc su isu fir lgt ofs rn wsn s_ (by first | assumption | omega)) (fun _ => rfl) (q0 := 0) (ci := 3) rfl rfl gX3_cross_X3_isIssuer rfl rfl rfl ⟨rfl, by decide, by decide, by decide +kernel⟩ ⟨Nat.le_of_ble_eq_true rfl, Nat.le_of_ble_eq_true rfl⟩ rfl hl.1 rfl (Nat.le_of_ble_eq_true rfl) dX3_cross_11 ⟨Nat.zero_le _, Nat.zero_le _⟩ (fun r_3 u H locs e_4 hP hD hS => ?_)
    have hP : va_P D vwCl (wM cy m0 m1 m2 m3 m4 m5 m6 m7 m8 m9 m10 m11 m12 m13 m14 m15 m16 m17 th td sed mi fr to lim f1 f2 dis pin ag en cm mc su isu fir lgt ofs rn wsn) H := hP
    have hD : va_D A (wM cy m0 m1 m2 m3 m4 m5 m6 m7 m8 m9 m10 m11 m12 m13 m14 m15 m16 m17 th td sed mi fr to lim f1 f2 dis pin ag en cm mc su isu fir lgt ofs rn wsn) := hD
    have e_4 : r_3 = bI (badI mi s_ = false) := e_4
    subst e_4
    refine k_ifne (tgt := 21) hx hb dX3_cross_14 (by decide) (fun c_14 => ?_) (fun c_14 => ?_)
    · refine lv_iload_n hx hb dX3_cross_21 rfl (lv_at hl 2 rfl) ?_
      refine lv_iload_n hx hb dX3_cross_22 rfl (lv_at hl 1 rfl) ?_
      refine lv_icmp_lt (tgt := 30) hx hb dX3_cross_23 (by decide) (fun c_23 => ?_) (fun c_23 => ?_)
      · refine lv_iconst (v := 0) hx hb dX3_cross_30 (by decide) ?_
        refine va_put (D := D) (ci := 3) (v := .int 0) (ty := .int) (C := RX3) (T := TX3) (N := 22) hx hb hts g_X3 tyX3 tyX3_ok nmX3 hown hE.1 hP hD hS 0 rfl rfl 0 (by decide) f_66 (fun _ h9 => h9) rfl (by decide +kernel) rfl rfl (Nat.le_of_ble_eq_true rfl) dX3_cross_31 (fun H locs hP hD hS => ?_)
        have hP : va_P D vwCl (wM cy m0 m1 m2 m3 m4 m5 m6 m7 m8 m9 m10 m11 m12 m13 m14 m15 m16 m17 0 td sed mi fr to lim f1 f2 dis pin ag en cm mc su isu fir lgt ofs rn wsn) H := hP
        have hD : va_D A (wM cy m0 m1 m2 m3 m4 m5 m6 m7 m8 m9 m10 m11 m12 m13 m14 m15 m16 m17 0 td sed mi fr to lim f1 f2 dis pin ag en cm mc su isu fir lgt ofs rn wsn) := hD
        refine lv_aload_n hx hb dX3_cross_34 rfl (lv_at hl 0 rfl) ?_
        refine va_get (D := D) (ci := 3) (v := .int 0) (C := RX3) (T := TX3) (N := 22) hx hb hts g_X3 hown hE.1 hP 0 rfl rfl 0 (by decide) f_66 (fun _ h9 => h9) rfl dX3_cross_35 ?_
        refine lv_if_le (tgt := 43) hx hb dX3_cross_38 (by decide) (fun _ => ?_) (fun c_38 => absurd c_38 (by decide))
        have hix_i_ := (badI_ok (i := i_) (by assumption) (by omega)).2
        have hix_s_ := (badI_ok (i := s_) (by assumption) (by omega)).2
        have hlt : ix s_ < ix i_ := k_ltN (by omega) (by omega) (by rw [← (badI_ok (i := i_) (by assumption) (by omega)).1, ← (badI_ok (i := s_) (by assumption) (by omega)).1]; exact c_23)
        refine lv_aload_n hx hb dX3_cross_43 rfl (lv_at hl 0 rfl) ?_
        refine va_get (D := D) (ci := 3) (v := .ref m4) (C := RX3) (T := TX3) (N := 22) hx hb hts g_X3 hown hE.1 hP 0 rfl rfl 7 (by decide) f_23 (fun _ h9 => h9) rfl dX3_cross_44 ?_
        refine lv_iload_n hx hb dX3_cross_47 rfl (lv_at hl 1 rfl) ?_
        refine k_top (z := nI (ix i_)) (badI_ok (i := i_) (by assumption) (by omega)).1 ?_
        refine k_ild hx hb hE.1 hP 4 0 rfl rfl (j := (ix i_)) (by omega) (by decide) dX3_cross_48 ?_
        refine lv_iconst (v := (-1)) hx hb dX3_cross_49 (by decide) ?_
        refine lv_icmp_eq (tgt := 73) hx hb dX3_cross_50 (by decide) (fun c_50 => ?_) (fun c_50 => ?_)
        · refine lv_iconst (v := 1) hx hb dX3_cross_73 (by decide) ?_
          refine lv_goto (tgt := 78) hx hb dX3_cross_74 (by decide) ?_
          refine lv_istore_n (lv' := [(3, .int 1), (0, .ref m0), (1, .int i_), (2, .int s_)]) hx hb dX3_cross_78 rfl hl (by decide) rfl (fun ls hl => ?_)
          refine lv_iload_n hx hb dX3_cross_79 rfl (lv_at hl 0 rfl) ?_
          refine lv_if_eq (tgt := 89) hx hb dX3_cross_80 (by decide) (fun c_80 => absurd c_80 (by decide)) (fun _ => ?_)
          refine lv_aload_n hx hb dX3_cross_83 rfl (lv_at hl 1 rfl) ?_
          refine lv_iconst (v := 3) hx hb dX3_cross_84 (by decide) ?_
          refine kcW_i (n := 1) (wc := wM cy m0 m1 m2 m3 m4 m5 m6 m7 m8 m9 m10 m11 m12 m13 m14 m15 m16 m17 0 td sed mi fr to lim f1 f2 dis pin ag en cm mc su isu fir lgt ofs rn wsn) (As := [.int 3]) (rest := []) ⟨hx, hb, hml, hown, hts⟩ hE hA hP hD hS (c_X3_fails l D cy m0 m1 m2 m3 m4 m5 m6 m7 m8 m9 m10 m11 m12 m13 m14 m15 m16 m17 0 td sed mi fr to lim f1 f2 dis pin ag en cm mc su isu fir lgt ofs rn wsn 3) (fun _ => Eq.trans (b := [m0, m1, m2, m3, m4, m5, m6, m7, m8, m9, m10, m11, m12, m13, m14, m15, m16, m17]) rfl rfl) (q0 := 0) (ci := 3) rfl rfl gX3_cross_X3_fails rfl rfl rfl ⟨rfl, by decide, by decide, by decide +kernel⟩ ⟨Nat.le_of_ble_eq_true rfl, Nat.le_of_ble_eq_true rfl⟩ rfl hl.1 rfl (Nat.le_of_ble_eq_true rfl) dX3_cross_85 ⟨Nat.zero_le _, Nat.zero_le _⟩ (fun r_5 u H locs e_6 hP hD hS => ?_)
          have hP : va_P D vwCl (wM cy m0 m1 m2 m3 m4 m5 m6 m7 m8 m9 m10 m11 m12 m13 m14 m15 m16 m17 3 td sed mi fr to lim f1 f2 dis pin ag en cm mc su isu fir lgt ofs rn wsn) H := hP
          have hD : va_D A (wM cy m0 m1 m2 m3 m4 m5 m6 m7 m8 m9 m10 m11 m12 m13 m14 m15 m16 m17 3 td sed mi fr to lim f1 f2 dis pin ag en cm mc su isu fir lgt ofs rn wsn) := hD
          have e_6 : r_5 = 0 := e_6
          subst e_6
          exact absurd hcd (by simp [cdCrossM, c_6, c_14, c_23, c_50])
        · refine lv_aload_n hx hb dX3_cross_53 rfl (lv_at hl 0 rfl) ?_
          refine va_get (D := D) (ci := 3) (v := .ref m5) (C := RX3) (T := TX3) (N := 22) hx hb hts g_X3 hown hE.1 hP 0 rfl rfl 8 (by decide) f_26 (fun _ h9 => h9) rfl dX3_cross_54 ?_
          refine lv_iload_n hx hb dX3_cross_57 rfl (lv_at hl 1 rfl) ?_
          refine k_top (z := nI (ix i_)) (badI_ok (i := i_) (by assumption) (by omega)).1 ?_
          refine k_ild hx hb hE.1 hP 5 0 rfl rfl (j := (ix i_)) (by omega) (by decide) dX3_cross_58 ?_
          refine lv_iconst (v := (-1)) hx hb dX3_cross_59 (by decide) ?_
          refine lv_icmp_ne (tgt := 73) hx hb dX3_cross_60 (by decide) (fun c_60 => ?_) (fun c_60 => ?_)
          · refine lv_iconst (v := 1) hx hb dX3_cross_73 (by decide) ?_
            refine lv_goto (tgt := 78) hx hb dX3_cross_74 (by decide) ?_
            refine lv_istore_n (lv' := [(3, .int 1), (0, .ref m0), (1, .int i_), (2, .int s_)]) hx hb dX3_cross_78 rfl hl (by decide) rfl (fun ls hl => ?_)
            refine lv_iload_n hx hb dX3_cross_79 rfl (lv_at hl 0 rfl) ?_
            refine lv_if_eq (tgt := 89) hx hb dX3_cross_80 (by decide) (fun c_80 => absurd c_80 (by decide)) (fun _ => ?_)
            refine lv_aload_n hx hb dX3_cross_83 rfl (lv_at hl 1 rfl) ?_
            refine lv_iconst (v := 3) hx hb dX3_cross_84 (by decide) ?_
            refine kcW_i (n := 1) (wc := wM cy m0 m1 m2 m3 m4 m5 m6 m7 m8 m9 m10 m11 m12 m13 m14 m15 m16 m17 0 td sed mi fr to lim f1 f2 dis pin ag en cm mc su isu fir lgt ofs rn wsn) (As := [.int 3]) (rest := []) ⟨hx, hb, hml, hown, hts⟩ hE hA hP hD hS (c_X3_fails l D cy m0 m1 m2 m3 m4 m5 m6 m7 m8 m9 m10 m11 m12 m13 m14 m15 m16 m17 0 td sed mi fr to lim f1 f2 dis pin ag en cm mc su isu fir lgt ofs rn wsn 3) (fun _ => Eq.trans (b := [m0, m1, m2, m3, m4, m5, m6, m7, m8, m9, m10, m11, m12, m13, m14, m15, m16, m17]) rfl rfl) (q0 := 0) (ci := 3) rfl rfl gX3_cross_X3_fails rfl rfl rfl ⟨rfl, by decide, by decide, by decide +kernel⟩ ⟨Nat.le_of_ble_eq_true rfl, Nat.le_of_ble_eq_true rfl⟩ rfl hl.1 rfl (Nat.le_of_ble_eq_true rfl) dX3_cross_85 ⟨Nat.zero_le _, Nat.zero_le _⟩ (fun r_7 u H locs e_8 hP hD hS => ?_)
            have hP : va_P D vwCl (wM cy m0 m1 m2 m3 m4 m5 m6 m7 m8 m9 m10 m11 m12 m13 m14 m15 m16 m17 3 td sed mi fr to lim f1 f2 dis pin ag en cm mc su isu fir lgt ofs rn wsn) H := hP
            have hD : va_D A (wM cy m0 m1 m2 m3 m4 m5 m6 m7 m8 m9 m10 m11 m12 m13 m14 m15 m16 m17 3 td sed mi fr to lim f1 f2 dis pin ag en cm mc su isu fir lgt ofs rn wsn) := hD
            have e_8 : r_7 = 0 := e_8
            subst e_8
            exact absurd hcd (by simp [cdCrossM, c_6, c_14, c_23, c_50, c_60])
          · refine lv_aload_n hx hb dX3_cross_63 rfl (lv_at hl 0 rfl) ?_
            refine va_get (D := D) (ci := 3) (v := .ref m4) (C := RX3) (T := TX3) (N := 22) hx hb hts g_X3 hown hE.1 hP 0 rfl rfl 7 (by decide) f_23 (fun _ h9 => h9) rfl dX3_cross_64 ?_
            refine lv_iload_n hx hb dX3_cross_67 rfl (lv_at hl 1 rfl) ?_
            refine k_top (z := nI (ix i_)) (badI_ok (i := i_) (by assumption) (by omega)).1 ?_
            refine k_ild hx hb hE.1 hP 4 0 rfl rfl (j := (ix i_)) (by omega) (by decide) dX3_cross_68 ?_
            refine lv_iload_n hx hb dX3_cross_69 rfl (lv_at hl 2 rfl) ?_
            refine lv_icmp_ne (tgt := 77) hx hb dX3_cross_70 (by decide) (fun c_70 => ?_) (fun c_70 => ?_)
            · refine lv_iconst (v := 0) hx hb dX3_cross_77 (by decide) ?_
              refine lv_istore_n (lv' := [(3, .int 0), (0, .ref m0), (1, .int i_), (2, .int s_)]) hx hb dX3_cross_78 rfl hl (by decide) rfl (fun ls hl => ?_)
              refine lv_iload_n hx hb dX3_cross_79 rfl (lv_at hl 0 rfl) ?_
              refine lv_if_eq (tgt := 89) hx hb dX3_cross_80 (by decide) (fun _ => ?_) (fun c_80 => absurd c_80 (by decide))
              refine lv_aload_n hx hb dX3_cross_89 rfl (lv_at hl 1 rfl) ?_
              refine va_get (D := D) (ci := 3) (v := .ref m5) (C := RX3) (T := TX3) (N := 22) hx hb hts g_X3 hown hE.1 hP 0 rfl rfl 8 (by decide) f_26 (fun _ h9 => h9) rfl dX3_cross_90 ?_
              refine lv_iload_n hx hb dX3_cross_93 rfl (lv_at hl 2 rfl) ?_
              refine k_top (z := nI (ix i_)) (badI_ok (i := i_) (by assumption) (by omega)).1 ?_
              refine lv_iload_n hx hb dX3_cross_94 rfl (lv_at hl 3 rfl) ?_
              refine k_top (z := nI (ix s_)) (badI_ok (i := s_) (by assumption) (by omega)).1 ?_
              refine k_ist hx hb hE.1 hP hD hS 5 0 rfl rfl (j := (ix i_)) (by omega) (by decide) dX3_cross_95 (fun H locs hP hD hS => ?_)
              have hP : va_P D vwCl (wM cy m0 m1 m2 m3 m4 m5 m6 m7 m8 m9 m10 m11 m12 m13 m14 m15 m16 m17 0 td sed mi fr to lim f1 (upd f2 (ix i_) (nI (ix s_))) dis pin ag en cm mc su isu fir lgt ofs rn wsn) H := hP
              have hD : va_D A (wM cy m0 m1 m2 m3 m4 m5 m6 m7 m8 m9 m10 m11 m12 m13 m14 m15 m16 m17 0 td sed mi fr to lim f1 (upd f2 (ix i_) (nI (ix s_))) dis pin ag en cm mc su isu fir lgt ofs rn wsn) := hD
              refine lv_aload_n hx hb dX3_cross_96 rfl (lv_at hl 1 rfl) ?_
              refine lv_iload_n hx hb dX3_cross_97 rfl (lv_at hl 2 rfl) ?_
              refine k_top (z := nI (ix i_)) (badI_ok (i := i_) (by assumption) (by omega)).1 ?_
              refine kcW_i (n := 1) (wc := wM cy m0 m1 m2 m3 m4 m5 m6 m7 m8 m9 m10 m11 m12 m13 m14 m15 m16 m17 0 td sed mi fr to lim f1 (upd f2 (ix i_) (nI (ix s_))) dis pin ag en cm mc su isu fir lgt ofs rn wsn) (As := [.int (nI (ix i_))]) (rest := []) ⟨hx, hb, hml, hown, hts⟩ hE hA hP hD hS (c_X3_ends l D cy m0 m1 m2 m3 m4 m5 m6 m7 m8 m9 m10 m11 m12 m13 m14 m15 m16 m17 0 td sed mi fr to lim f1 (upd f2 (ix i_) (nI (ix s_))) dis pin ag en cm mc su isu fir lgt ofs rn wsn (ix i_) (by first | assumption | omega) (by first | assumption | omega) (sgP_put h2 hlt (by omega)) hix_i_) (fun _ => Eq.trans (b := [m0, m1, m2, m3, m4, m5, m6, m7, m8, m9, m10, m11, m12, m13, m14, m15, m16, m17]) rfl rfl) (q0 := 0) (ci := 3) rfl rfl gX3_cross_X3_ends rfl rfl rfl ⟨rfl, by decide, by decide, by decide +kernel⟩ ⟨Nat.le_of_ble_eq_true rfl, Nat.le_of_ble_eq_true rfl⟩ rfl hl.1 rfl (Nat.le_of_ble_eq_true rfl) dX3_cross_98 ⟨Nat.zero_le _, Nat.zero_le _⟩ (fun r_9 u H locs e_10 hP hD hS => ?_)
              obtain ⟨en_11, rfl⟩ : ∃ z, z = u := ⟨_, rfl⟩
              have hP : va_P D vwCl (wM cy m0 m1 m2 m3 m4 m5 m6 m7 m8 m9 m10 m11 m12 m13 m14 m15 m16 m17 0 td sed mi fr to lim f1 (upd f2 (ix i_) (nI (ix s_))) dis pin ag en_11 cm mc su isu fir lgt ofs rn wsn) H := hP
              have hD : va_D A (wM cy m0 m1 m2 m3 m4 m5 m6 m7 m8 m9 m10 m11 m12 m13 m14 m15 m16 m17 0 td sed mi fr to lim f1 (upd f2 (ix i_) (nI (ix s_))) dis pin ag en_11 cm mc su isu fir lgt ofs rn wsn) := hD
              have e_10 : r_9 = edV f1 (upd f2 (ix i_) (nI (ix s_))) to (ix i_) := e_10
              subst e_10
              exact hret _ _ _ _ (edV f1 (upd f2 (ix i_) (nI (ix s_))) to (ix i_)) en_11 dX3_cross_101 (Or.inl rfl) rfl hP hS
            · refine lv_iconst (v := 1) hx hb dX3_cross_73 (by decide) ?_
              refine lv_goto (tgt := 78) hx hb dX3_cross_74 (by decide) ?_
              refine lv_istore_n (lv' := [(3, .int 1), (0, .ref m0), (1, .int i_), (2, .int s_)]) hx hb dX3_cross_78 rfl hl (by decide) rfl (fun ls hl => ?_)
              refine lv_iload_n hx hb dX3_cross_79 rfl (lv_at hl 0 rfl) ?_
              refine lv_if_eq (tgt := 89) hx hb dX3_cross_80 (by decide) (fun c_80 => absurd c_80 (by decide)) (fun _ => ?_)
              refine lv_aload_n hx hb dX3_cross_83 rfl (lv_at hl 1 rfl) ?_
              refine lv_iconst (v := 3) hx hb dX3_cross_84 (by decide) ?_
              refine kcW_i (n := 1) (wc := wM cy m0 m1 m2 m3 m4 m5 m6 m7 m8 m9 m10 m11 m12 m13 m14 m15 m16 m17 0 td sed mi fr to lim f1 f2 dis pin ag en cm mc su isu fir lgt ofs rn wsn) (As := [.int 3]) (rest := []) ⟨hx, hb, hml, hown, hts⟩ hE hA hP hD hS (c_X3_fails l D cy m0 m1 m2 m3 m4 m5 m6 m7 m8 m9 m10 m11 m12 m13 m14 m15 m16 m17 0 td sed mi fr to lim f1 f2 dis pin ag en cm mc su isu fir lgt ofs rn wsn 3) (fun _ => Eq.trans (b := [m0, m1, m2, m3, m4, m5, m6, m7, m8, m9, m10, m11, m12, m13, m14, m15, m16, m17]) rfl rfl) (q0 := 0) (ci := 3) rfl rfl gX3_cross_X3_fails rfl rfl rfl ⟨rfl, by decide, by decide, by decide +kernel⟩ ⟨Nat.le_of_ble_eq_true rfl, Nat.le_of_ble_eq_true rfl⟩ rfl hl.1 rfl (Nat.le_of_ble_eq_true rfl) dX3_cross_85 ⟨Nat.zero_le _, Nat.zero_le _⟩ (fun r_12 u H locs e_13 hP hD hS => ?_)
              have hP : va_P D vwCl (wM cy m0 m1 m2 m3 m4 m5 m6 m7 m8 m9 m10 m11 m12 m13 m14 m15 m16 m17 3 td sed mi fr to lim f1 f2 dis pin ag en cm mc su isu fir lgt ofs rn wsn) H := hP
              have hD : va_D A (wM cy m0 m1 m2 m3 m4 m5 m6 m7 m8 m9 m10 m11 m12 m13 m14 m15 m16 m17 3 td sed mi fr to lim f1 f2 dis pin ag en cm mc su isu fir lgt ofs rn wsn) := hD
              have e_13 : r_12 = 0 := e_13
              subst e_13
              exact absurd hcd (by simp [cdCrossM, c_6, c_14, c_23, c_50, c_60, c_70])
      · refine lv_iconst (v := 2) hx hb dX3_cross_26 (by decide) ?_
        refine lv_goto (tgt := 31) hx hb dX3_cross_27 (by decide) ?_
        refine va_put (D := D) (ci := 3) (v := .int 2) (ty := .int) (C := RX3) (T := TX3) (N := 22) hx hb hts g_X3 tyX3 tyX3_ok nmX3 hown hE.1 hP hD hS 0 rfl rfl 0 (by decide) f_66 (fun _ h9 => h9) rfl (by decide +kernel) rfl rfl (Nat.le_of_ble_eq_true rfl) dX3_cross_31 (fun H locs hP hD hS => ?_)
        have hP : va_P D vwCl (wM cy m0 m1 m2 m3 m4 m5 m6 m7 m8 m9 m10 m11 m12 m13 m14 m15 m16 m17 2 td sed mi fr to lim f1 f2 dis pin ag en cm mc su isu fir lgt ofs rn wsn) H := hP
        have hD : va_D A (wM cy m0 m1 m2 m3 m4 m5 m6 m7 m8 m9 m10 m11 m12 m13 m14 m15 m16 m17 2 td sed mi fr to lim f1 f2 dis pin ag en cm mc su isu fir lgt ofs rn wsn) := hD
        refine lv_aload_n hx hb dX3_cross_34 rfl (lv_at hl 0 rfl) ?_
        refine va_get (D := D) (ci := 3) (v := .int 2) (C := RX3) (T := TX3) (N := 22) hx hb hts g_X3 hown hE.1 hP 0 rfl rfl 0 (by decide) f_66 (fun _ h9 => h9) rfl dX3_cross_35 ?_
        refine lv_if_le (tgt := 43) hx hb dX3_cross_38 (by decide) (fun c_38 => absurd c_38 (by decide)) (fun _ => ?_)
        refine lv_iconst (v := 0) hx hb dX3_cross_41 (by decide) ?_
        exact absurd hcd (by simp [cdCrossM, c_6, c_14, c_23])
    · refine lv_iconst (v := 1) hx hb dX3_cross_17 (by decide) ?_
      refine lv_goto (tgt := 31) hx hb dX3_cross_18 (by decide) ?_
      refine va_put (D := D) (ci := 3) (v := .int 1) (ty := .int) (C := RX3) (T := TX3) (N := 22) hx hb hts g_X3 tyX3 tyX3_ok nmX3 hown hE.1 hP hD hS 0 rfl rfl 0 (by decide) f_66 (fun _ h9 => h9) rfl (by decide +kernel) rfl rfl (Nat.le_of_ble_eq_true rfl) dX3_cross_31 (fun H locs hP hD hS => ?_)
      have hP : va_P D vwCl (wM cy m0 m1 m2 m3 m4 m5 m6 m7 m8 m9 m10 m11 m12 m13 m14 m15 m16 m17 1 td sed mi fr to lim f1 f2 dis pin ag en cm mc su isu fir lgt ofs rn wsn) H := hP
      have hD : va_D A (wM cy m0 m1 m2 m3 m4 m5 m6 m7 m8 m9 m10 m11 m12 m13 m14 m15 m16 m17 1 td sed mi fr to lim f1 f2 dis pin ag en cm mc su isu fir lgt ofs rn wsn) := hD
      refine lv_aload_n hx hb dX3_cross_34 rfl (lv_at hl 0 rfl) ?_
      refine va_get (D := D) (ci := 3) (v := .int 1) (C := RX3) (T := TX3) (N := 22) hx hb hts g_X3 hown hE.1 hP 0 rfl rfl 0 (by decide) f_66 (fun _ h9 => h9) rfl dX3_cross_35 ?_
      refine lv_if_le (tgt := 43) hx hb dX3_cross_38 (by decide) (fun c_38 => absurd c_38 (by decide)) (fun _ => ?_)
      refine lv_iconst (v := 0) hx hb dX3_cross_41 (by decide) ?_
      exact absurd hcd (by simp [cdCrossM, c_6, c_14])

set_option maxHeartbeats 4000000 in
set_option maxRecDepth 100000 in
theorem c_X3_cross_f (l : Launch) (D : va_G) (cy : ClassId × ClassId × ClassId) (m0 m1 m2 m3 m4 m5 m6 m7 m8 m9 m10 m11 m12 m13 m14 m15 m16 m17 : Nat) (th td sed : Int32) (mi : Nat) (fr to lim f1 f2 dis pin ag en cm : Nat → Int32) (mc : Nat) (su isu fir lgt ofs rn wsn : Nat → Int32) (i_ : Int32) (s_ : Int32) (hm : mi ≤ 8) (h1 : ∀ i, i < mi → sgP f1 i) (h2 : ∀ i, i < mi → sgP f2 i) (hcd : ¬ cdCrossM mi f1 f2 i_ s_ = 0) : kI l D cy yX3_cross wsX3_cross (krm 2 43) [.ref m0, .int i_, .int s_] (wM cy m0 m1 m2 m3 m4 m5 m6 m7 m8 m9 m10 m11 m12 m13 m14 m15 m16 m17 th td sed mi fr to lim f1 f2 dis pin ag en cm mc su isu fir lgt ofs rn wsn) (fun (r : Int32) (u : (Nat → Int32)) => True) (fun u : (Nat → Int32) => wM cy m0 m1 m2 m3 m4 m5 m6 m7 m8 m9 m10 m11 m12 m13 m14 m15 m16 m17 (cdCrossM mi f1 f2 i_ s_) td sed mi fr to lim f1 f2 dis pin ag u cm mc su isu fir lgt ofs rn wsn) := by
  refine kI.of (cc := cX3_cross) (maxL := 4) (rt := .int) (Or.inl rfl) (by decide) rfl (Nat.le_of_ble_eq_true rfl) ?_
  intro p e s m args below meth c Q A ls hx hb hml hown hts hE hA hP hD hl hret
  have hS : va_S A s.heap s.heap [] := va_S.rf
  have hl : lv_has ls 4 [(0, .ref m0), (1, .int i_), (2, .int s_)] := hl
  have g_X3 : ∀ w ∈ wsX30, w ∈ wsX3_cross := by decide +kernel
  have f_66 := hts (.fieldLink RX3 66 "CertHerdModel" "thrown" "I") (by decide +kernel)
  have f_23 := hts (.fieldLink RX3 23 "CertHerdModel" "firstSigners" "[I") (by decide +kernel)
  have f_26 := hts (.fieldLink RX3 26 "CertHerdModel" "secondSigners" "[I") (by decide +kernel)
  refine lv_aload_n hx hb dX3_cross_0 rfl (lv_at hl 0 rfl) ?_
  refine lv_aload_n hx hb dX3_cross_1 rfl (lv_at hl 0 rfl) ?_
  refine lv_iload_n hx hb dX3_cross_2 rfl (lv_at hl 1 rfl) ?_
  refine kcW_i (n := 1) (wc := wM cy m0 m1 m2 m3 m4 m5 m6 m7 m8 m9 m10 m11 m12 m13 m14 m15 m16 m17 th td sed mi fr to lim f1 f2 dis pin ag en cm mc su isu fir lgt ofs rn wsn) (As := [.int i_]) (rest := [.ref m0]) ⟨hx, hb, hml, hown, hts⟩ hE hA hP hD hS (c_X3_isIssuer l D cy m0 m1 m2 m3 m4 m5 m6 m7 m8 m9 m10 m11 m12 m13 m14 m15 m16 m17 th td sed mi fr to lim f1 f2 dis pin ag en cm mc su isu fir lgt ofs rn wsn i_ (by first | assumption | omega)) (fun _ => rfl) (q0 := 0) (ci := 3) rfl rfl gX3_cross_X3_isIssuer rfl rfl rfl ⟨rfl, by decide, by decide, by decide +kernel⟩ ⟨Nat.le_of_ble_eq_true rfl, Nat.le_of_ble_eq_true rfl⟩ rfl hl.1 rfl (Nat.le_of_ble_eq_true rfl) dX3_cross_3 ⟨Nat.zero_le _, Nat.zero_le _⟩ (fun r_1 u H locs e_2 hP hD hS => ?_)
  have hP : va_P D vwCl (wM cy m0 m1 m2 m3 m4 m5 m6 m7 m8 m9 m10 m11 m12 m13 m14 m15 m16 m17 th td sed mi fr to lim f1 f2 dis pin ag en cm mc su isu fir lgt ofs rn wsn) H := hP
  have hD : va_D A (wM cy m0 m1 m2 m3 m4 m5 m6 m7 m8 m9 m10 m11 m12 m13 m14 m15 m16 m17 th td sed mi fr to lim f1 f2 dis pin ag en cm mc su isu fir lgt ofs rn wsn) := hD
  have e_2 : r_1 = bI (badI mi i_ = false) := e_2
  subst e_2
  refine k_ifeq (tgt := 17) hx hb dX3_cross_6 (by decide) (fun c_6 => ?_) (fun c_6 => ?_)
  · refine lv_iconst (v := 1) hx hb dX3_cross_17 (by decide) ?_
    refine lv_goto (tgt := 31) hx hb dX3_cross_18 (by decide) ?_
    refine va_put (D := D) (ci := 3) (v := .int 1) (ty := .int) (C := RX3) (T := TX3) (N := 22) hx hb hts g_X3 tyX3 tyX3_ok nmX3 hown hE.1 hP hD hS 0 rfl rfl 0 (by decide) f_66 (fun _ h9 => h9) rfl (by decide +kernel) rfl rfl (Nat.le_of_ble_eq_true rfl) dX3_cross_31 (fun H locs hP hD hS => ?_)
    have hP : va_P D vwCl (wM cy m0 m1 m2 m3 m4 m5 m6 m7 m8 m9 m10 m11 m12 m13 m14 m15 m16 m17 1 td sed mi fr to lim f1 f2 dis pin ag en cm mc su isu fir lgt ofs rn wsn) H := hP
    have hD : va_D A (wM cy m0 m1 m2 m3 m4 m5 m6 m7 m8 m9 m10 m11 m12 m13 m14 m15 m16 m17 1 td sed mi fr to lim f1 f2 dis pin ag en cm mc su isu fir lgt ofs rn wsn) := hD
    refine lv_aload_n hx hb dX3_cross_34 rfl (lv_at hl 0 rfl) ?_
    refine va_get (D := D) (ci := 3) (v := .int 1) (C := RX3) (T := TX3) (N := 22) hx hb hts g_X3 hown hE.1 hP 0 rfl rfl 0 (by decide) f_66 (fun _ h9 => h9) rfl dX3_cross_35 ?_
    refine lv_if_le (tgt := 43) hx hb dX3_cross_38 (by decide) (fun c_38 => absurd c_38 (by decide)) (fun _ => ?_)
    refine lv_iconst (v := 0) hx hb dX3_cross_41 (by decide) ?_
    have w_th : 1 = cdCrossM mi f1 f2 i_ s_ := (by simp [cdCrossM, c_6])
    exact hret _ _ _ _ 0 en dX3_cross_42 (Or.inl rfl) trivial (by show va_P D vwCl (wM cy m0 m1 m2 m3 m4 m5 m6 m7 m8 m9 m10 m11 m12 m13 m14 m15 m16 m17 (cdCrossM mi f1 f2 i_ s_) td sed mi fr to lim f1 f2 dis pin ag en cm mc su isu fir lgt ofs rn wsn) _; rw [← w_th]; exact hP) hS
  · refine lv_aload_n hx hb dX3_cross_9 rfl (lv_at hl 0 rfl) ?_
    refine lv_iload_n hx hb dX3_cross_10 rfl (lv_at hl 2 rfl) ?_
    refine kcW_i (n := 1) (wc := wM cy m0 m1 m2 m3 m4 m5 m6 m7 m8 m9 m10 m11 m12 m13 m14 m15 m16 m17 th td sed mi fr to lim f1 f2 dis pin ag en cm mc su isu fir lgt ofs rn wsn) (As := [.int s_]) (rest := [.ref m0]) ⟨hx, hb, hml, hown, hts⟩ hE hA hP hD hS (c_X3_isIssuer l D cy m0 m1 m2 m3 m4 m5 m6 m7 m8 m9 m10 m11 m12 m13 m14 m15 m16 m17 th td sed mi fr to lim f1 f2 dis pin ag en cm mc su isu fir lgt ofs rn wsn s_ (by first | assumption | omega)) (fun _ => rfl) (q0 := 0) (ci := 3) rfl rfl gX3_cross_X3_isIssuer rfl rfl rfl ⟨rfl, by decide, by decide, by decide +kernel⟩ ⟨Nat.le_of_ble_eq_true rfl, Nat.le_of_ble_eq_true rfl⟩ rfl hl.1 rfl (Nat.le_of_ble_eq_true rfl) dX3_cross_11 ⟨Nat.zero_le _, Nat.zero_le _⟩ (fun r_3 u H locs e_4 hP hD hS => ?_)
    have hP : va_P D vwCl (wM cy m0 m1 m2 m3 m4 m5 m6 m7 m8 m9 m10 m11 m12 m13 m14 m15 m16 m17 th td sed mi fr to lim f1 f2 dis pin ag en cm mc su isu fir lgt ofs rn wsn) H := hP
    have hD : va_D A (wM cy m0 m1 m2 m3 m4 m5 m6 m7 m8 m9 m10 m11 m12 m13 m14 m15 m16 m17 th td sed mi fr to lim f1 f2 dis pin ag en cm mc su isu fir lgt ofs rn wsn) := hD
    have e_4 : r_3 = bI (badI mi s_ = false) := e_4
    subst e_4
    refine k_ifne (tgt := 21) hx hb dX3_cross_14 (by decide) (fun c_14 => ?_) (fun c_14 => ?_)
    · refine lv_iload_n hx hb dX3_cross_21 rfl (lv_at hl 2 rfl) ?_
      refine lv_iload_n hx hb dX3_cross_22 rfl (lv_at hl 1 rfl) ?_
      refine lv_icmp_lt (tgt := 30) hx hb dX3_cross_23 (by decide) (fun c_23 => ?_) (fun c_23 => ?_)
      · refine lv_iconst (v := 0) hx hb dX3_cross_30 (by decide) ?_
        refine va_put (D := D) (ci := 3) (v := .int 0) (ty := .int) (C := RX3) (T := TX3) (N := 22) hx hb hts g_X3 tyX3 tyX3_ok nmX3 hown hE.1 hP hD hS 0 rfl rfl 0 (by decide) f_66 (fun _ h9 => h9) rfl (by decide +kernel) rfl rfl (Nat.le_of_ble_eq_true rfl) dX3_cross_31 (fun H locs hP hD hS => ?_)
        have hP : va_P D vwCl (wM cy m0 m1 m2 m3 m4 m5 m6 m7 m8 m9 m10 m11 m12 m13 m14 m15 m16 m17 0 td sed mi fr to lim f1 f2 dis pin ag en cm mc su isu fir lgt ofs rn wsn) H := hP
        have hD : va_D A (wM cy m0 m1 m2 m3 m4 m5 m6 m7 m8 m9 m10 m11 m12 m13 m14 m15 m16 m17 0 td sed mi fr to lim f1 f2 dis pin ag en cm mc su isu fir lgt ofs rn wsn) := hD
        refine lv_aload_n hx hb dX3_cross_34 rfl (lv_at hl 0 rfl) ?_
        refine va_get (D := D) (ci := 3) (v := .int 0) (C := RX3) (T := TX3) (N := 22) hx hb hts g_X3 hown hE.1 hP 0 rfl rfl 0 (by decide) f_66 (fun _ h9 => h9) rfl dX3_cross_35 ?_
        refine lv_if_le (tgt := 43) hx hb dX3_cross_38 (by decide) (fun _ => ?_) (fun c_38 => absurd c_38 (by decide))
        have hix_i_ := (badI_ok (i := i_) (by assumption) (by omega)).2
        have hix_s_ := (badI_ok (i := s_) (by assumption) (by omega)).2
        have hlt : ix s_ < ix i_ := k_ltN (by omega) (by omega) (by rw [← (badI_ok (i := i_) (by assumption) (by omega)).1, ← (badI_ok (i := s_) (by assumption) (by omega)).1]; exact c_23)
        refine lv_aload_n hx hb dX3_cross_43 rfl (lv_at hl 0 rfl) ?_
        refine va_get (D := D) (ci := 3) (v := .ref m4) (C := RX3) (T := TX3) (N := 22) hx hb hts g_X3 hown hE.1 hP 0 rfl rfl 7 (by decide) f_23 (fun _ h9 => h9) rfl dX3_cross_44 ?_
        refine lv_iload_n hx hb dX3_cross_47 rfl (lv_at hl 1 rfl) ?_
        refine k_top (z := nI (ix i_)) (badI_ok (i := i_) (by assumption) (by omega)).1 ?_
        refine k_ild hx hb hE.1 hP 4 0 rfl rfl (j := (ix i_)) (by omega) (by decide) dX3_cross_48 ?_
        refine lv_iconst (v := (-1)) hx hb dX3_cross_49 (by decide) ?_
        refine lv_icmp_eq (tgt := 73) hx hb dX3_cross_50 (by decide) (fun c_50 => ?_) (fun c_50 => ?_)
        · refine lv_iconst (v := 1) hx hb dX3_cross_73 (by decide) ?_
          refine lv_goto (tgt := 78) hx hb dX3_cross_74 (by decide) ?_
          refine lv_istore_n (lv' := [(3, .int 1), (0, .ref m0), (1, .int i_), (2, .int s_)]) hx hb dX3_cross_78 rfl hl (by decide) rfl (fun ls hl => ?_)
          refine lv_iload_n hx hb dX3_cross_79 rfl (lv_at hl 0 rfl) ?_
          refine lv_if_eq (tgt := 89) hx hb dX3_cross_80 (by decide) (fun c_80 => absurd c_80 (by decide)) (fun _ => ?_)
          refine lv_aload_n hx hb dX3_cross_83 rfl (lv_at hl 1 rfl) ?_
          refine lv_iconst (v := 3) hx hb dX3_cross_84 (by decide) ?_
          refine kcW_i (n := 1) (wc := wM cy m0 m1 m2 m3 m4 m5 m6 m7 m8 m9 m10 m11 m12 m13 m14 m15 m16 m17 0 td sed mi fr to lim f1 f2 dis pin ag en cm mc su isu fir lgt ofs rn wsn) (As := [.int 3]) (rest := []) ⟨hx, hb, hml, hown, hts⟩ hE hA hP hD hS (c_X3_fails l D cy m0 m1 m2 m3 m4 m5 m6 m7 m8 m9 m10 m11 m12 m13 m14 m15 m16 m17 0 td sed mi fr to lim f1 f2 dis pin ag en cm mc su isu fir lgt ofs rn wsn 3) (fun _ => Eq.trans (b := [m0, m1, m2, m3, m4, m5, m6, m7, m8, m9, m10, m11, m12, m13, m14, m15, m16, m17]) rfl rfl) (q0 := 0) (ci := 3) rfl rfl gX3_cross_X3_fails rfl rfl rfl ⟨rfl, by decide, by decide, by decide +kernel⟩ ⟨Nat.le_of_ble_eq_true rfl, Nat.le_of_ble_eq_true rfl⟩ rfl hl.1 rfl (Nat.le_of_ble_eq_true rfl) dX3_cross_85 ⟨Nat.zero_le _, Nat.zero_le _⟩ (fun r_5 u H locs e_6 hP hD hS => ?_)
          have hP : va_P D vwCl (wM cy m0 m1 m2 m3 m4 m5 m6 m7 m8 m9 m10 m11 m12 m13 m14 m15 m16 m17 3 td sed mi fr to lim f1 f2 dis pin ag en cm mc su isu fir lgt ofs rn wsn) H := hP
          have hD : va_D A (wM cy m0 m1 m2 m3 m4 m5 m6 m7 m8 m9 m10 m11 m12 m13 m14 m15 m16 m17 3 td sed mi fr to lim f1 f2 dis pin ag en cm mc su isu fir lgt ofs rn wsn) := hD
          have e_6 : r_5 = 0 := e_6
          subst e_6
          have w_th : 3 = cdCrossM mi f1 f2 i_ s_ := (by simp [cdCrossM, c_6, c_14, c_23, c_50])
          exact hret _ _ _ _ 0 en dX3_cross_88 (Or.inl rfl) trivial (by show va_P D vwCl (wM cy m0 m1 m2 m3 m4 m5 m6 m7 m8 m9 m10 m11 m12 m13 m14 m15 m16 m17 (cdCrossM mi f1 f2 i_ s_) td sed mi fr to lim f1 f2 dis pin ag en cm mc su isu fir lgt ofs rn wsn) _; rw [← w_th]; exact hP) hS
        · refine lv_aload_n hx hb dX3_cross_53 rfl (lv_at hl 0 rfl) ?_
          refine va_get (D := D) (ci := 3) (v := .ref m5) (C := RX3) (T := TX3) (N := 22) hx hb hts g_X3 hown hE.1 hP 0 rfl rfl 8 (by decide) f_26 (fun _ h9 => h9) rfl dX3_cross_54 ?_
          refine lv_iload_n hx hb dX3_cross_57 rfl (lv_at hl 1 rfl) ?_
          refine k_top (z := nI (ix i_)) (badI_ok (i := i_) (by assumption) (by omega)).1 ?_
          refine k_ild hx hb hE.1 hP 5 0 rfl rfl (j := (ix i_)) (by omega) (by decide) dX3_cross_58 ?_
          refine lv_iconst (v := (-1)) hx hb dX3_cross_59 (by decide) ?_
          refine lv_icmp_ne (tgt := 73) hx hb dX3_cross_60 (by decide) (fun c_60 => ?_) (fun c_60 => ?_)
          · refine lv_iconst (v := 1) hx hb dX3_cross_73 (by decide) ?_
            refine lv_goto (tgt := 78) hx hb dX3_cross_74 (by decide) ?_
            refine lv_istore_n (lv' := [(3, .int 1), (0, .ref m0), (1, .int i_), (2, .int s_)]) hx hb dX3_cross_78 rfl hl (by decide) rfl (fun ls hl => ?_)
            refine lv_iload_n hx hb dX3_cross_79 rfl (lv_at hl 0 rfl) ?_
            refine lv_if_eq (tgt := 89) hx hb dX3_cross_80 (by decide) (fun c_80 => absurd c_80 (by decide)) (fun _ => ?_)
            refine lv_aload_n hx hb dX3_cross_83 rfl (lv_at hl 1 rfl) ?_
            refine lv_iconst (v := 3) hx hb dX3_cross_84 (by decide) ?_
            refine kcW_i (n := 1) (wc := wM cy m0 m1 m2 m3 m4 m5 m6 m7 m8 m9 m10 m11 m12 m13 m14 m15 m16 m17 0 td sed mi fr to lim f1 f2 dis pin ag en cm mc su isu fir lgt ofs rn wsn) (As := [.int 3]) (rest := []) ⟨hx, hb, hml, hown, hts⟩ hE hA hP hD hS (c_X3_fails l D cy m0 m1 m2 m3 m4 m5 m6 m7 m8 m9 m10 m11 m12 m13 m14 m15 m16 m17 0 td sed mi fr to lim f1 f2 dis pin ag en cm mc su isu fir lgt ofs rn wsn 3) (fun _ => Eq.trans (b := [m0, m1, m2, m3, m4, m5, m6, m7, m8, m9, m10, m11, m12, m13, m14, m15, m16, m17]) rfl rfl) (q0 := 0) (ci := 3) rfl rfl gX3_cross_X3_fails rfl rfl rfl ⟨rfl, by decide, by decide, by decide +kernel⟩ ⟨Nat.le_of_ble_eq_true rfl, Nat.le_of_ble_eq_true rfl⟩ rfl hl.1 rfl (Nat.le_of_ble_eq_true rfl) dX3_cross_85 ⟨Nat.zero_le _, Nat.zero_le _⟩ (fun r_7 u H locs e_8 hP hD hS => ?_)
            have hP : va_P D vwCl (wM cy m0 m1 m2 m3 m4 m5 m6 m7 m8 m9 m10 m11 m12 m13 m14 m15 m16 m17 3 td sed mi fr to lim f1 f2 dis pin ag en cm mc su isu fir lgt ofs rn wsn) H := hP
            have hD : va_D A (wM cy m0 m1 m2 m3 m4 m5 m6 m7 m8 m9 m10 m11 m12 m13 m14 m15 m16 m17 3 td sed mi fr to lim f1 f2 dis pin ag en cm mc su isu fir lgt ofs rn wsn) := hD
            have e_8 : r_7 = 0 := e_8
            subst e_8
            have w_th : 3 = cdCrossM mi f1 f2 i_ s_ := (by simp [cdCrossM, c_6, c_14, c_23, c_50, c_60])
            exact hret _ _ _ _ 0 en dX3_cross_88 (Or.inl rfl) trivial (by show va_P D vwCl (wM cy m0 m1 m2 m3 m4 m5 m6 m7 m8 m9 m10 m11 m12 m13 m14 m15 m16 m17 (cdCrossM mi f1 f2 i_ s_) td sed mi fr to lim f1 f2 dis pin ag en cm mc su isu fir lgt ofs rn wsn) _; rw [← w_th]; exact hP) hS
          · refine lv_aload_n hx hb dX3_cross_63 rfl (lv_at hl 0 rfl) ?_
            refine va_get (D := D) (ci := 3) (v := .ref m4) (C := RX3) (T := TX3) (N := 22) hx hb hts g_X3 hown hE.1 hP 0 rfl rfl 7 (by decide) f_23 (fun _ h9 => h9) rfl dX3_cross_64 ?_
            refine lv_iload_n hx hb dX3_cross_67 rfl (lv_at hl 1 rfl) ?_
            refine k_top (z := nI (ix i_)) (badI_ok (i := i_) (by assumption) (by omega)).1 ?_
            refine k_ild hx hb hE.1 hP 4 0 rfl rfl (j := (ix i_)) (by omega) (by decide) dX3_cross_68 ?_
            refine lv_iload_n hx hb dX3_cross_69 rfl (lv_at hl 2 rfl) ?_
            refine lv_icmp_ne (tgt := 77) hx hb dX3_cross_70 (by decide) (fun c_70 => ?_) (fun c_70 => ?_)
            · refine lv_iconst (v := 0) hx hb dX3_cross_77 (by decide) ?_
              refine lv_istore_n (lv' := [(3, .int 0), (0, .ref m0), (1, .int i_), (2, .int s_)]) hx hb dX3_cross_78 rfl hl (by decide) rfl (fun ls hl => ?_)
              refine lv_iload_n hx hb dX3_cross_79 rfl (lv_at hl 0 rfl) ?_
              refine lv_if_eq (tgt := 89) hx hb dX3_cross_80 (by decide) (fun _ => ?_) (fun c_80 => absurd c_80 (by decide))
              refine lv_aload_n hx hb dX3_cross_89 rfl (lv_at hl 1 rfl) ?_
              refine va_get (D := D) (ci := 3) (v := .ref m5) (C := RX3) (T := TX3) (N := 22) hx hb hts g_X3 hown hE.1 hP 0 rfl rfl 8 (by decide) f_26 (fun _ h9 => h9) rfl dX3_cross_90 ?_
              refine lv_iload_n hx hb dX3_cross_93 rfl (lv_at hl 2 rfl) ?_
              refine k_top (z := nI (ix i_)) (badI_ok (i := i_) (by assumption) (by omega)).1 ?_
              refine lv_iload_n hx hb dX3_cross_94 rfl (lv_at hl 3 rfl) ?_
              refine k_top (z := nI (ix s_)) (badI_ok (i := s_) (by assumption) (by omega)).1 ?_
              refine k_ist hx hb hE.1 hP hD hS 5 0 rfl rfl (j := (ix i_)) (by omega) (by decide) dX3_cross_95 (fun H locs hP hD hS => ?_)
              have hP : va_P D vwCl (wM cy m0 m1 m2 m3 m4 m5 m6 m7 m8 m9 m10 m11 m12 m13 m14 m15 m16 m17 0 td sed mi fr to lim f1 (upd f2 (ix i_) (nI (ix s_))) dis pin ag en cm mc su isu fir lgt ofs rn wsn) H := hP
              have hD : va_D A (wM cy m0 m1 m2 m3 m4 m5 m6 m7 m8 m9 m10 m11 m12 m13 m14 m15 m16 m17 0 td sed mi fr to lim f1 (upd f2 (ix i_) (nI (ix s_))) dis pin ag en cm mc su isu fir lgt ofs rn wsn) := hD
              refine lv_aload_n hx hb dX3_cross_96 rfl (lv_at hl 1 rfl) ?_
              refine lv_iload_n hx hb dX3_cross_97 rfl (lv_at hl 2 rfl) ?_
              refine k_top (z := nI (ix i_)) (badI_ok (i := i_) (by assumption) (by omega)).1 ?_
              refine kcW_i (n := 1) (wc := wM cy m0 m1 m2 m3 m4 m5 m6 m7 m8 m9 m10 m11 m12 m13 m14 m15 m16 m17 0 td sed mi fr to lim f1 (upd f2 (ix i_) (nI (ix s_))) dis pin ag en cm mc su isu fir lgt ofs rn wsn) (As := [.int (nI (ix i_))]) (rest := []) ⟨hx, hb, hml, hown, hts⟩ hE hA hP hD hS (c_X3_ends l D cy m0 m1 m2 m3 m4 m5 m6 m7 m8 m9 m10 m11 m12 m13 m14 m15 m16 m17 0 td sed mi fr to lim f1 (upd f2 (ix i_) (nI (ix s_))) dis pin ag en cm mc su isu fir lgt ofs rn wsn (ix i_) (by first | assumption | omega) (by first | assumption | omega) (sgP_put h2 hlt (by omega)) hix_i_) (fun _ => Eq.trans (b := [m0, m1, m2, m3, m4, m5, m6, m7, m8, m9, m10, m11, m12, m13, m14, m15, m16, m17]) rfl rfl) (q0 := 0) (ci := 3) rfl rfl gX3_cross_X3_ends rfl rfl rfl ⟨rfl, by decide, by decide, by decide +kernel⟩ ⟨Nat.le_of_ble_eq_true rfl, Nat.le_of_ble_eq_true rfl⟩ rfl hl.1 rfl (Nat.le_of_ble_eq_true rfl) dX3_cross_98 ⟨Nat.zero_le _, Nat.zero_le _⟩ (fun r_9 u H locs e_10 hP hD hS => ?_)
              obtain ⟨en_11, rfl⟩ : ∃ z, z = u := ⟨_, rfl⟩
              have hP : va_P D vwCl (wM cy m0 m1 m2 m3 m4 m5 m6 m7 m8 m9 m10 m11 m12 m13 m14 m15 m16 m17 0 td sed mi fr to lim f1 (upd f2 (ix i_) (nI (ix s_))) dis pin ag en_11 cm mc su isu fir lgt ofs rn wsn) H := hP
              have hD : va_D A (wM cy m0 m1 m2 m3 m4 m5 m6 m7 m8 m9 m10 m11 m12 m13 m14 m15 m16 m17 0 td sed mi fr to lim f1 (upd f2 (ix i_) (nI (ix s_))) dis pin ag en_11 cm mc su isu fir lgt ofs rn wsn) := hD
              have e_10 : r_9 = edV f1 (upd f2 (ix i_) (nI (ix s_))) to (ix i_) := e_10
              subst e_10
              exact absurd (by simp [cdCrossM, c_6, c_14, c_23, c_50, c_60, c_70]) hcd
            · refine lv_iconst (v := 1) hx hb dX3_cross_73 (by decide) ?_
              refine lv_goto (tgt := 78) hx hb dX3_cross_74 (by decide) ?_
              refine lv_istore_n (lv' := [(3, .int 1), (0, .ref m0), (1, .int i_), (2, .int s_)]) hx hb dX3_cross_78 rfl hl (by decide) rfl (fun ls hl => ?_)
              refine lv_iload_n hx hb dX3_cross_79 rfl (lv_at hl 0 rfl) ?_
              refine lv_if_eq (tgt := 89) hx hb dX3_cross_80 (by decide) (fun c_80 => absurd c_80 (by decide)) (fun _ => ?_)
              refine lv_aload_n hx hb dX3_cross_83 rfl (lv_at hl 1 rfl) ?_
              refine lv_iconst (v := 3) hx hb dX3_cross_84 (by decide) ?_
              refine kcW_i (n := 1) (wc := wM cy m0 m1 m2 m3 m4 m5 m6 m7 m8 m9 m10 m11 m12 m13 m14 m15 m16 m17 0 td sed mi fr to lim f1 f2 dis pin ag en cm mc su isu fir lgt ofs rn wsn) (As := [.int 3]) (rest := []) ⟨hx, hb, hml, hown, hts⟩ hE hA hP hD hS (c_X3_fails l D cy m0 m1 m2 m3 m4 m5 m6 m7 m8 m9 m10 m11 m12 m13 m14 m15 m16 m17 0 td sed mi fr to lim f1 f2 dis pin ag en cm mc su isu fir lgt ofs rn wsn 3) (fun _ => Eq.trans (b := [m0, m1, m2, m3, m4, m5, m6, m7, m8, m9, m10, m11, m12, m13, m14, m15, m16, m17]) rfl rfl) (q0 := 0) (ci := 3) rfl rfl gX3_cross_X3_fails rfl rfl rfl ⟨rfl, by decide, by decide, by decide +kernel⟩ ⟨Nat.le_of_ble_eq_true rfl, Nat.le_of_ble_eq_true rfl⟩ rfl hl.1 rfl (Nat.le_of_ble_eq_true rfl) dX3_cross_85 ⟨Nat.zero_le _, Nat.zero_le _⟩ (fun r_12 u H locs e_13 hP hD hS => ?_)
              have hP : va_P D vwCl (wM cy m0 m1 m2 m3 m4 m5 m6 m7 m8 m9 m10 m11 m12 m13 m14 m15 m16 m17 3 td sed mi fr to lim f1 f2 dis pin ag en cm mc su isu fir lgt ofs rn wsn) H := hP
              have hD : va_D A (wM cy m0 m1 m2 m3 m4 m5 m6 m7 m8 m9 m10 m11 m12 m13 m14 m15 m16 m17 3 td sed mi fr to lim f1 f2 dis pin ag en cm mc su isu fir lgt ofs rn wsn) := hD
              have e_13 : r_12 = 0 := e_13
              subst e_13
              have w_th : 3 = cdCrossM mi f1 f2 i_ s_ := (by simp [cdCrossM, c_6, c_14, c_23, c_50, c_60, c_70])
              exact hret _ _ _ _ 0 en dX3_cross_88 (Or.inl rfl) trivial (by show va_P D vwCl (wM cy m0 m1 m2 m3 m4 m5 m6 m7 m8 m9 m10 m11 m12 m13 m14 m15 m16 m17 (cdCrossM mi f1 f2 i_ s_) td sed mi fr to lim f1 f2 dis pin ag en cm mc su isu fir lgt ofs rn wsn) _; rw [← w_th]; exact hP) hS
      · refine lv_iconst (v := 2) hx hb dX3_cross_26 (by decide) ?_
        refine lv_goto (tgt := 31) hx hb dX3_cross_27 (by decide) ?_
        refine va_put (D := D) (ci := 3) (v := .int 2) (ty := .int) (C := RX3) (T := TX3) (N := 22) hx hb hts g_X3 tyX3 tyX3_ok nmX3 hown hE.1 hP hD hS 0 rfl rfl 0 (by decide) f_66 (fun _ h9 => h9) rfl (by decide +kernel) rfl rfl (Nat.le_of_ble_eq_true rfl) dX3_cross_31 (fun H locs hP hD hS => ?_)
        have hP : va_P D vwCl (wM cy m0 m1 m2 m3 m4 m5 m6 m7 m8 m9 m10 m11 m12 m13 m14 m15 m16 m17 2 td sed mi fr to lim f1 f2 dis pin ag en cm mc su isu fir lgt ofs rn wsn) H := hP
        have hD : va_D A (wM cy m0 m1 m2 m3 m4 m5 m6 m7 m8 m9 m10 m11 m12 m13 m14 m15 m16 m17 2 td sed mi fr to lim f1 f2 dis pin ag en cm mc su isu fir lgt ofs rn wsn) := hD
        refine lv_aload_n hx hb dX3_cross_34 rfl (lv_at hl 0 rfl) ?_
        refine va_get (D := D) (ci := 3) (v := .int 2) (C := RX3) (T := TX3) (N := 22) hx hb hts g_X3 hown hE.1 hP 0 rfl rfl 0 (by decide) f_66 (fun _ h9 => h9) rfl dX3_cross_35 ?_
        refine lv_if_le (tgt := 43) hx hb dX3_cross_38 (by decide) (fun c_38 => absurd c_38 (by decide)) (fun _ => ?_)
        refine lv_iconst (v := 0) hx hb dX3_cross_41 (by decide) ?_
        have w_th : 2 = cdCrossM mi f1 f2 i_ s_ := (by simp [cdCrossM, c_6, c_14, c_23])
        exact hret _ _ _ _ 0 en dX3_cross_42 (Or.inl rfl) trivial (by show va_P D vwCl (wM cy m0 m1 m2 m3 m4 m5 m6 m7 m8 m9 m10 m11 m12 m13 m14 m15 m16 m17 (cdCrossM mi f1 f2 i_ s_) td sed mi fr to lim f1 f2 dis pin ag en cm mc su isu fir lgt ofs rn wsn) _; rw [← w_th]; exact hP) hS
    · refine lv_iconst (v := 1) hx hb dX3_cross_17 (by decide) ?_
      refine lv_goto (tgt := 31) hx hb dX3_cross_18 (by decide) ?_
      refine va_put (D := D) (ci := 3) (v := .int 1) (ty := .int) (C := RX3) (T := TX3) (N := 22) hx hb hts g_X3 tyX3 tyX3_ok nmX3 hown hE.1 hP hD hS 0 rfl rfl 0 (by decide) f_66 (fun _ h9 => h9) rfl (by decide +kernel) rfl rfl (Nat.le_of_ble_eq_true rfl) dX3_cross_31 (fun H locs hP hD hS => ?_)
      have hP : va_P D vwCl (wM cy m0 m1 m2 m3 m4 m5 m6 m7 m8 m9 m10 m11 m12 m13 m14 m15 m16 m17 1 td sed mi fr to lim f1 f2 dis pin ag en cm mc su isu fir lgt ofs rn wsn) H := hP
      have hD : va_D A (wM cy m0 m1 m2 m3 m4 m5 m6 m7 m8 m9 m10 m11 m12 m13 m14 m15 m16 m17 1 td sed mi fr to lim f1 f2 dis pin ag en cm mc su isu fir lgt ofs rn wsn) := hD
      refine lv_aload_n hx hb dX3_cross_34 rfl (lv_at hl 0 rfl) ?_
      refine va_get (D := D) (ci := 3) (v := .int 1) (C := RX3) (T := TX3) (N := 22) hx hb hts g_X3 hown hE.1 hP 0 rfl rfl 0 (by decide) f_66 (fun _ h9 => h9) rfl dX3_cross_35 ?_
      refine lv_if_le (tgt := 43) hx hb dX3_cross_38 (by decide) (fun c_38 => absurd c_38 (by decide)) (fun _ => ?_)
      refine lv_iconst (v := 0) hx hb dX3_cross_41 (by decide) ?_
      have w_th : 1 = cdCrossM mi f1 f2 i_ s_ := (by simp [cdCrossM, c_6, c_14])
      exact hret _ _ _ _ 0 en dX3_cross_42 (Or.inl rfl) trivial (by show va_P D vwCl (wM cy m0 m1 m2 m3 m4 m5 m6 m7 m8 m9 m10 m11 m12 m13 m14 m15 m16 m17 (cdCrossM mi f1 f2 i_ s_) td sed mi fr to lim f1 f2 dis pin ag en cm mc su isu fir lgt ofs rn wsn) _; rw [← w_th]; exact hP) hS

set_option maxHeartbeats 4000000 in
set_option maxRecDepth 100000 in
theorem c_X3_distrust (l : Launch) (D : va_G) (cy : ClassId × ClassId × ClassId) (m0 m1 m2 m3 m4 m5 m6 m7 m8 m9 m10 m11 m12 m13 m14 m15 m16 m17 : Nat) (th td sed : Int32) (mi : Nat) (fr to lim f1 f2 dis pin ag en cm : Nat → Int32) (mc : Nat) (su isu fir lgt ofs rn wsn : Nat → Int32) (i_ : Int32) (d_ : Int32) (hm : mi ≤ 8) (hcd : cdDis mi i_ d_ = 0) : kI l D cy yX3_distrust wsX3_distrust (krm 2 43) [.ref m0, .int i_, .int d_] (wM cy m0 m1 m2 m3 m4 m5 m6 m7 m8 m9 m10 m11 m12 m13 m14 m15 m16 m17 th td sed mi fr to lim f1 f2 dis pin ag en cm mc su isu fir lgt ofs rn wsn) (fun (r : Int32) (u : Unit) => r = dis (ix i_)) (fun _ : Unit => wM cy m0 m1 m2 m3 m4 m5 m6 m7 m8 m9 m10 m11 m12 m13 m14 m15 m16 m17 0 td sed mi fr to lim f1 f2 (upd dis (ix i_) d_) pin ag en cm mc su isu fir lgt ofs rn wsn) := by
  refine kI.of (cc := cX3_distrust) (maxL := 4) (rt := .int) (Or.inl rfl) (by decide) rfl (Nat.le_of_ble_eq_true rfl) ?_
  intro p e s m args below meth c Q A ls hx hb hml hown hts hE hA hP hD hl hret
  have hS : va_S A s.heap s.heap [] := va_S.rf
  have hl : lv_has ls 4 [(0, .ref m0), (1, .int i_), (2, .int d_)] := hl
  have g_X3 : ∀ w ∈ wsX30, w ∈ wsX3_distrust := by decide +kernel
  have f_66 := hts (.fieldLink RX3 66 "CertHerdModel" "thrown" "I") (by decide +kernel)
  have f_29 := hts (.fieldLink RX3 29 "CertHerdModel" "distrusted" "[I") (by decide +kernel)
  refine lv_aload_n hx hb dX3_distrust_0 rfl (lv_at hl 0 rfl) ?_
  refine lv_aload_n hx hb dX3_distrust_1 rfl (lv_at hl 0 rfl) ?_
  refine lv_iload_n hx hb dX3_distrust_2 rfl (lv_at hl 1 rfl) ?_
  refine kcW_i (n := 1) (wc := wM cy m0 m1 m2 m3 m4 m5 m6 m7 m8 m9 m10 m11 m12 m13 m14 m15 m16 m17 th td sed mi fr to lim f1 f2 dis pin ag en cm mc su isu fir lgt ofs rn wsn) (As := [.int i_]) (rest := [.ref m0]) ⟨hx, hb, hml, hown, hts⟩ hE hA hP hD hS (c_X3_isIssuer l D cy m0 m1 m2 m3 m4 m5 m6 m7 m8 m9 m10 m11 m12 m13 m14 m15 m16 m17 th td sed mi fr to lim f1 f2 dis pin ag en cm mc su isu fir lgt ofs rn wsn i_ (by first | assumption | omega)) (fun _ => rfl) (q0 := 0) (ci := 3) rfl rfl gX3_distrust_X3_isIssuer rfl rfl rfl ⟨rfl, by decide, by decide, by decide +kernel⟩ ⟨Nat.le_of_ble_eq_true rfl, Nat.le_of_ble_eq_true rfl⟩ rfl hl.1 rfl (Nat.le_of_ble_eq_true rfl) dX3_distrust_3 ⟨Nat.zero_le _, Nat.zero_le _⟩ (fun r_1 u H locs e_2 hP hD hS => ?_)
  have hP : va_P D vwCl (wM cy m0 m1 m2 m3 m4 m5 m6 m7 m8 m9 m10 m11 m12 m13 m14 m15 m16 m17 th td sed mi fr to lim f1 f2 dis pin ag en cm mc su isu fir lgt ofs rn wsn) H := hP
  have hD : va_D A (wM cy m0 m1 m2 m3 m4 m5 m6 m7 m8 m9 m10 m11 m12 m13 m14 m15 m16 m17 th td sed mi fr to lim f1 f2 dis pin ag en cm mc su isu fir lgt ofs rn wsn) := hD
  have e_2 : r_1 = bI (badI mi i_ = false) := e_2
  subst e_2
  refine k_ifne (tgt := 13) hx hb dX3_distrust_6 (by decide) (fun c_6 => ?_) (fun c_6 => ?_)
  · refine lv_iload_n hx hb dX3_distrust_13 rfl (lv_at hl 2 rfl) ?_
    refine lv_iconst (v := (-1)) hx hb dX3_distrust_14 (by decide) ?_
    refine lv_icmp_eq (tgt := 25) hx hb dX3_distrust_15 (by decide) (fun c_15 => ?_) (fun c_15 => ?_)
    · refine lv_iconst (v := 0) hx hb dX3_distrust_25 (by decide) ?_
      refine lv_goto (tgt := 30) hx hb dX3_distrust_26 (by decide) ?_
      refine va_put (D := D) (ci := 3) (v := .int 0) (ty := .int) (C := RX3) (T := TX3) (N := 22) hx hb hts g_X3 tyX3 tyX3_ok nmX3 hown hE.1 hP hD hS 0 rfl rfl 0 (by decide) f_66 (fun _ h9 => h9) rfl (by decide +kernel) rfl rfl (Nat.le_of_ble_eq_true rfl) dX3_distrust_30 (fun H locs hP hD hS => ?_)
      have hP : va_P D vwCl (wM cy m0 m1 m2 m3 m4 m5 m6 m7 m8 m9 m10 m11 m12 m13 m14 m15 m16 m17 0 td sed mi fr to lim f1 f2 dis pin ag en cm mc su isu fir lgt ofs rn wsn) H := hP
      have hD : va_D A (wM cy m0 m1 m2 m3 m4 m5 m6 m7 m8 m9 m10 m11 m12 m13 m14 m15 m16 m17 0 td sed mi fr to lim f1 f2 dis pin ag en cm mc su isu fir lgt ofs rn wsn) := hD
      refine lv_aload_n hx hb dX3_distrust_33 rfl (lv_at hl 0 rfl) ?_
      refine va_get (D := D) (ci := 3) (v := .int 0) (C := RX3) (T := TX3) (N := 22) hx hb hts g_X3 hown hE.1 hP 0 rfl rfl 0 (by decide) f_66 (fun _ h9 => h9) rfl dX3_distrust_34 ?_
      refine lv_if_le (tgt := 42) hx hb dX3_distrust_37 (by decide) (fun _ => ?_) (fun c_37 => absurd c_37 (by decide))
      have hix_i_ := (badI_ok (i := i_) (by assumption) (by omega)).2
      refine lv_aload_n hx hb dX3_distrust_42 rfl (lv_at hl 0 rfl) ?_
      refine va_get (D := D) (ci := 3) (v := .ref m6) (C := RX3) (T := TX3) (N := 22) hx hb hts g_X3 hown hE.1 hP 0 rfl rfl 9 (by decide) f_29 (fun _ h9 => h9) rfl dX3_distrust_43 ?_
      refine lv_iload_n hx hb dX3_distrust_46 rfl (lv_at hl 1 rfl) ?_
      refine k_top (z := nI (ix i_)) (badI_ok (i := i_) (by assumption) (by omega)).1 ?_
      refine k_ild hx hb hE.1 hP 6 0 rfl rfl (j := (ix i_)) (by omega) (by decide) dX3_distrust_47 ?_
      refine lv_istore_n (lv' := [(3, .int (dis (ix i_))), (0, .ref m0), (1, .int i_), (2, .int d_)]) hx hb dX3_distrust_48 rfl hl (by decide) rfl (fun ls hl => ?_)
      refine lv_aload_n hx hb dX3_distrust_49 rfl (lv_at hl 1 rfl) ?_
      refine va_get (D := D) (ci := 3) (v := .ref m6) (C := RX3) (T := TX3) (N := 22) hx hb hts g_X3 hown hE.1 hP 0 rfl rfl 9 (by decide) f_29 (fun _ h9 => h9) rfl dX3_distrust_50 ?_
      refine lv_iload_n hx hb dX3_distrust_53 rfl (lv_at hl 2 rfl) ?_
      refine k_top (z := nI (ix i_)) (badI_ok (i := i_) (by assumption) (by omega)).1 ?_
      refine lv_iload_n hx hb dX3_distrust_54 rfl (lv_at hl 3 rfl) ?_
      refine k_ist hx hb hE.1 hP hD hS 6 0 rfl rfl (j := (ix i_)) (by omega) (by decide) dX3_distrust_55 (fun H locs hP hD hS => ?_)
      have hP : va_P D vwCl (wM cy m0 m1 m2 m3 m4 m5 m6 m7 m8 m9 m10 m11 m12 m13 m14 m15 m16 m17 0 td sed mi fr to lim f1 f2 (upd dis (ix i_) d_) pin ag en cm mc su isu fir lgt ofs rn wsn) H := hP
      have hD : va_D A (wM cy m0 m1 m2 m3 m4 m5 m6 m7 m8 m9 m10 m11 m12 m13 m14 m15 m16 m17 0 td sed mi fr to lim f1 f2 (upd dis (ix i_) d_) pin ag en cm mc su isu fir lgt ofs rn wsn) := hD
      refine lv_iload_n hx hb dX3_distrust_56 rfl (lv_at hl 0 rfl) ?_
      exact hret _ _ _ _ (dis (ix i_)) () dX3_distrust_57 (Or.inl rfl) rfl hP hS
    · refine lv_iload_n hx hb dX3_distrust_18 rfl (lv_at hl 2 rfl) ?_
      refine kcS_i (n := 1) (X := []) (wc := []) (Y := wM cy m0 m1 m2 m3 m4 m5 m6 m7 m8 m9 m10 m11 m12 m13 m14 m15 m16 m17 th td sed mi fr to lim f1 f2 dis pin ag en cm mc su isu fir lgt ofs rn wsn) (As := [.int d_]) (rest := [.ref m0]) ⟨hx, hb, hml, hown, hts⟩ hE hA hP hD hS (c_X3_isDay l D cy d_) (fun _ => rfl) gX3_distrust_X3_isDay rfl rfl rfl ⟨by decide, by decide, by decide +kernel⟩ ⟨Nat.le_of_ble_eq_true rfl, Nat.le_of_ble_eq_true rfl⟩ rfl hl.1 rfl (Nat.le_of_ble_eq_true rfl) dX3_distrust_19 ⟨Nat.zero_le _, Nat.zero_le _⟩ (fun r_3 u H locs e_4 hP hD hS => ?_)
      have hP : va_P D vwCl (wM cy m0 m1 m2 m3 m4 m5 m6 m7 m8 m9 m10 m11 m12 m13 m14 m15 m16 m17 th td sed mi fr to lim f1 f2 dis pin ag en cm mc su isu fir lgt ofs rn wsn) H := hP
      have hD : va_D A (wM cy m0 m1 m2 m3 m4 m5 m6 m7 m8 m9 m10 m11 m12 m13 m14 m15 m16 m17 th td sed mi fr to lim f1 f2 dis pin ag en cm mc su isu fir lgt ofs rn wsn) := hD
      have e_4 : r_3 = bI (badD d_ = false) := e_4
      subst e_4
      refine k_ifeq (tgt := 29) hx hb dX3_distrust_22 (by decide) (fun c_22 => ?_) (fun c_22 => ?_)
      · refine lv_iconst (v := 2) hx hb dX3_distrust_29 (by decide) ?_
        refine va_put (D := D) (ci := 3) (v := .int 2) (ty := .int) (C := RX3) (T := TX3) (N := 22) hx hb hts g_X3 tyX3 tyX3_ok nmX3 hown hE.1 hP hD hS 0 rfl rfl 0 (by decide) f_66 (fun _ h9 => h9) rfl (by decide +kernel) rfl rfl (Nat.le_of_ble_eq_true rfl) dX3_distrust_30 (fun H locs hP hD hS => ?_)
        have hP : va_P D vwCl (wM cy m0 m1 m2 m3 m4 m5 m6 m7 m8 m9 m10 m11 m12 m13 m14 m15 m16 m17 2 td sed mi fr to lim f1 f2 dis pin ag en cm mc su isu fir lgt ofs rn wsn) H := hP
        have hD : va_D A (wM cy m0 m1 m2 m3 m4 m5 m6 m7 m8 m9 m10 m11 m12 m13 m14 m15 m16 m17 2 td sed mi fr to lim f1 f2 dis pin ag en cm mc su isu fir lgt ofs rn wsn) := hD
        refine lv_aload_n hx hb dX3_distrust_33 rfl (lv_at hl 0 rfl) ?_
        refine va_get (D := D) (ci := 3) (v := .int 2) (C := RX3) (T := TX3) (N := 22) hx hb hts g_X3 hown hE.1 hP 0 rfl rfl 0 (by decide) f_66 (fun _ h9 => h9) rfl dX3_distrust_34 ?_
        refine lv_if_le (tgt := 42) hx hb dX3_distrust_37 (by decide) (fun c_37 => absurd c_37 (by decide)) (fun _ => ?_)
        refine lv_iconst (v := 0) hx hb dX3_distrust_40 (by decide) ?_
        exact absurd hcd (by simp [cdDis, c_6, c_15, c_22])
      · refine lv_iconst (v := 0) hx hb dX3_distrust_25 (by decide) ?_
        refine lv_goto (tgt := 30) hx hb dX3_distrust_26 (by decide) ?_
        refine va_put (D := D) (ci := 3) (v := .int 0) (ty := .int) (C := RX3) (T := TX3) (N := 22) hx hb hts g_X3 tyX3 tyX3_ok nmX3 hown hE.1 hP hD hS 0 rfl rfl 0 (by decide) f_66 (fun _ h9 => h9) rfl (by decide +kernel) rfl rfl (Nat.le_of_ble_eq_true rfl) dX3_distrust_30 (fun H locs hP hD hS => ?_)
        have hP : va_P D vwCl (wM cy m0 m1 m2 m3 m4 m5 m6 m7 m8 m9 m10 m11 m12 m13 m14 m15 m16 m17 0 td sed mi fr to lim f1 f2 dis pin ag en cm mc su isu fir lgt ofs rn wsn) H := hP
        have hD : va_D A (wM cy m0 m1 m2 m3 m4 m5 m6 m7 m8 m9 m10 m11 m12 m13 m14 m15 m16 m17 0 td sed mi fr to lim f1 f2 dis pin ag en cm mc su isu fir lgt ofs rn wsn) := hD
        refine lv_aload_n hx hb dX3_distrust_33 rfl (lv_at hl 0 rfl) ?_
        refine va_get (D := D) (ci := 3) (v := .int 0) (C := RX3) (T := TX3) (N := 22) hx hb hts g_X3 hown hE.1 hP 0 rfl rfl 0 (by decide) f_66 (fun _ h9 => h9) rfl dX3_distrust_34 ?_
        refine lv_if_le (tgt := 42) hx hb dX3_distrust_37 (by decide) (fun _ => ?_) (fun c_37 => absurd c_37 (by decide))
        have hix_i_ := (badI_ok (i := i_) (by assumption) (by omega)).2
        refine lv_aload_n hx hb dX3_distrust_42 rfl (lv_at hl 0 rfl) ?_
        refine va_get (D := D) (ci := 3) (v := .ref m6) (C := RX3) (T := TX3) (N := 22) hx hb hts g_X3 hown hE.1 hP 0 rfl rfl 9 (by decide) f_29 (fun _ h9 => h9) rfl dX3_distrust_43 ?_
        refine lv_iload_n hx hb dX3_distrust_46 rfl (lv_at hl 1 rfl) ?_
        refine k_top (z := nI (ix i_)) (badI_ok (i := i_) (by assumption) (by omega)).1 ?_
        refine k_ild hx hb hE.1 hP 6 0 rfl rfl (j := (ix i_)) (by omega) (by decide) dX3_distrust_47 ?_
        refine lv_istore_n (lv' := [(3, .int (dis (ix i_))), (0, .ref m0), (1, .int i_), (2, .int d_)]) hx hb dX3_distrust_48 rfl hl (by decide) rfl (fun ls hl => ?_)
        refine lv_aload_n hx hb dX3_distrust_49 rfl (lv_at hl 1 rfl) ?_
        refine va_get (D := D) (ci := 3) (v := .ref m6) (C := RX3) (T := TX3) (N := 22) hx hb hts g_X3 hown hE.1 hP 0 rfl rfl 9 (by decide) f_29 (fun _ h9 => h9) rfl dX3_distrust_50 ?_
        refine lv_iload_n hx hb dX3_distrust_53 rfl (lv_at hl 2 rfl) ?_
        refine k_top (z := nI (ix i_)) (badI_ok (i := i_) (by assumption) (by omega)).1 ?_
        refine lv_iload_n hx hb dX3_distrust_54 rfl (lv_at hl 3 rfl) ?_
        refine k_ist hx hb hE.1 hP hD hS 6 0 rfl rfl (j := (ix i_)) (by omega) (by decide) dX3_distrust_55 (fun H locs hP hD hS => ?_)
        have hP : va_P D vwCl (wM cy m0 m1 m2 m3 m4 m5 m6 m7 m8 m9 m10 m11 m12 m13 m14 m15 m16 m17 0 td sed mi fr to lim f1 f2 (upd dis (ix i_) d_) pin ag en cm mc su isu fir lgt ofs rn wsn) H := hP
        have hD : va_D A (wM cy m0 m1 m2 m3 m4 m5 m6 m7 m8 m9 m10 m11 m12 m13 m14 m15 m16 m17 0 td sed mi fr to lim f1 f2 (upd dis (ix i_) d_) pin ag en cm mc su isu fir lgt ofs rn wsn) := hD
        refine lv_iload_n hx hb dX3_distrust_56 rfl (lv_at hl 0 rfl) ?_
        exact hret _ _ _ _ (dis (ix i_)) () dX3_distrust_57 (Or.inl rfl) rfl hP hS
  · refine lv_iconst (v := 1) hx hb dX3_distrust_9 (by decide) ?_
    refine lv_goto (tgt := 30) hx hb dX3_distrust_10 (by decide) ?_
    refine va_put (D := D) (ci := 3) (v := .int 1) (ty := .int) (C := RX3) (T := TX3) (N := 22) hx hb hts g_X3 tyX3 tyX3_ok nmX3 hown hE.1 hP hD hS 0 rfl rfl 0 (by decide) f_66 (fun _ h9 => h9) rfl (by decide +kernel) rfl rfl (Nat.le_of_ble_eq_true rfl) dX3_distrust_30 (fun H locs hP hD hS => ?_)
    have hP : va_P D vwCl (wM cy m0 m1 m2 m3 m4 m5 m6 m7 m8 m9 m10 m11 m12 m13 m14 m15 m16 m17 1 td sed mi fr to lim f1 f2 dis pin ag en cm mc su isu fir lgt ofs rn wsn) H := hP
    have hD : va_D A (wM cy m0 m1 m2 m3 m4 m5 m6 m7 m8 m9 m10 m11 m12 m13 m14 m15 m16 m17 1 td sed mi fr to lim f1 f2 dis pin ag en cm mc su isu fir lgt ofs rn wsn) := hD
    refine lv_aload_n hx hb dX3_distrust_33 rfl (lv_at hl 0 rfl) ?_
    refine va_get (D := D) (ci := 3) (v := .int 1) (C := RX3) (T := TX3) (N := 22) hx hb hts g_X3 hown hE.1 hP 0 rfl rfl 0 (by decide) f_66 (fun _ h9 => h9) rfl dX3_distrust_34 ?_
    refine lv_if_le (tgt := 42) hx hb dX3_distrust_37 (by decide) (fun c_37 => absurd c_37 (by decide)) (fun _ => ?_)
    refine lv_iconst (v := 0) hx hb dX3_distrust_40 (by decide) ?_
    exact absurd hcd (by simp [cdDis, c_6])

set_option maxHeartbeats 4000000 in
set_option maxRecDepth 100000 in
theorem c_X3_distrust_f (l : Launch) (D : va_G) (cy : ClassId × ClassId × ClassId) (m0 m1 m2 m3 m4 m5 m6 m7 m8 m9 m10 m11 m12 m13 m14 m15 m16 m17 : Nat) (th td sed : Int32) (mi : Nat) (fr to lim f1 f2 dis pin ag en cm : Nat → Int32) (mc : Nat) (su isu fir lgt ofs rn wsn : Nat → Int32) (i_ : Int32) (d_ : Int32) (hm : mi ≤ 8) (hcd : ¬ cdDis mi i_ d_ = 0) : kI l D cy yX3_distrust wsX3_distrust (krm 2 43) [.ref m0, .int i_, .int d_] (wM cy m0 m1 m2 m3 m4 m5 m6 m7 m8 m9 m10 m11 m12 m13 m14 m15 m16 m17 th td sed mi fr to lim f1 f2 dis pin ag en cm mc su isu fir lgt ofs rn wsn) (fun (r : Int32) (u : Unit) => True) (fun _ : Unit => wM cy m0 m1 m2 m3 m4 m5 m6 m7 m8 m9 m10 m11 m12 m13 m14 m15 m16 m17 (cdDis mi i_ d_) td sed mi fr to lim f1 f2 dis pin ag en cm mc su isu fir lgt ofs rn wsn) := by
  refine kI.of (cc := cX3_distrust) (maxL := 4) (rt := .int) (Or.inl rfl) (by decide) rfl (Nat.le_of_ble_eq_true rfl) ?_
  intro p e s m args below meth c Q A ls hx hb hml hown hts hE hA hP hD hl hret
  have hS : va_S A s.heap s.heap [] := va_S.rf
  have hl : lv_has ls 4 [(0, .ref m0), (1, .int i_), (2, .int d_)] := hl
  have g_X3 : ∀ w ∈ wsX30, w ∈ wsX3_distrust := by decide +kernel
  have f_66 := hts (.fieldLink RX3 66 "CertHerdModel" "thrown" "I") (by decide +kernel)
  have f_29 := hts (.fieldLink RX3 29 "CertHerdModel" "distrusted" "[I") (by decide +kernel)
  refine lv_aload_n hx hb dX3_distrust_0 rfl (lv_at hl 0 rfl) ?_
  refine lv_aload_n hx hb dX3_distrust_1 rfl (lv_at hl 0 rfl) ?_
  refine lv_iload_n hx hb dX3_distrust_2 rfl (lv_at hl 1 rfl) ?_
  refine kcW_i (n := 1) (wc := wM cy m0 m1 m2 m3 m4 m5 m6 m7 m8 m9 m10 m11 m12 m13 m14 m15 m16 m17 th td sed mi fr to lim f1 f2 dis pin ag en cm mc su isu fir lgt ofs rn wsn) (As := [.int i_]) (rest := [.ref m0]) ⟨hx, hb, hml, hown, hts⟩ hE hA hP hD hS (c_X3_isIssuer l D cy m0 m1 m2 m3 m4 m5 m6 m7 m8 m9 m10 m11 m12 m13 m14 m15 m16 m17 th td sed mi fr to lim f1 f2 dis pin ag en cm mc su isu fir lgt ofs rn wsn i_ (by first | assumption | omega)) (fun _ => rfl) (q0 := 0) (ci := 3) rfl rfl gX3_distrust_X3_isIssuer rfl rfl rfl ⟨rfl, by decide, by decide, by decide +kernel⟩ ⟨Nat.le_of_ble_eq_true rfl, Nat.le_of_ble_eq_true rfl⟩ rfl hl.1 rfl (Nat.le_of_ble_eq_true rfl) dX3_distrust_3 ⟨Nat.zero_le _, Nat.zero_le _⟩ (fun r_1 u H locs e_2 hP hD hS => ?_)
  have hP : va_P D vwCl (wM cy m0 m1 m2 m3 m4 m5 m6 m7 m8 m9 m10 m11 m12 m13 m14 m15 m16 m17 th td sed mi fr to lim f1 f2 dis pin ag en cm mc su isu fir lgt ofs rn wsn) H := hP
  have hD : va_D A (wM cy m0 m1 m2 m3 m4 m5 m6 m7 m8 m9 m10 m11 m12 m13 m14 m15 m16 m17 th td sed mi fr to lim f1 f2 dis pin ag en cm mc su isu fir lgt ofs rn wsn) := hD
  have e_2 : r_1 = bI (badI mi i_ = false) := e_2
  subst e_2
  refine k_ifne (tgt := 13) hx hb dX3_distrust_6 (by decide) (fun c_6 => ?_) (fun c_6 => ?_)
  · refine lv_iload_n hx hb dX3_distrust_13 rfl (lv_at hl 2 rfl) ?_
    refine lv_iconst (v := (-1)) hx hb dX3_distrust_14 (by decide) ?_
    refine lv_icmp_eq (tgt := 25) hx hb dX3_distrust_15 (by decide) (fun c_15 => ?_) (fun c_15 => ?_)
    · refine lv_iconst (v := 0) hx hb dX3_distrust_25 (by decide) ?_
      refine lv_goto (tgt := 30) hx hb dX3_distrust_26 (by decide) ?_
      refine va_put (D := D) (ci := 3) (v := .int 0) (ty := .int) (C := RX3) (T := TX3) (N := 22) hx hb hts g_X3 tyX3 tyX3_ok nmX3 hown hE.1 hP hD hS 0 rfl rfl 0 (by decide) f_66 (fun _ h9 => h9) rfl (by decide +kernel) rfl rfl (Nat.le_of_ble_eq_true rfl) dX3_distrust_30 (fun H locs hP hD hS => ?_)
      have hP : va_P D vwCl (wM cy m0 m1 m2 m3 m4 m5 m6 m7 m8 m9 m10 m11 m12 m13 m14 m15 m16 m17 0 td sed mi fr to lim f1 f2 dis pin ag en cm mc su isu fir lgt ofs rn wsn) H := hP
      have hD : va_D A (wM cy m0 m1 m2 m3 m4 m5 m6 m7 m8 m9 m10 m11 m12 m13 m14 m15 m16 m17 0 td sed mi fr to lim f1 f2 dis pin ag en cm mc su isu fir lgt ofs rn wsn) := hD
      refine lv_aload_n hx hb dX3_distrust_33 rfl (lv_at hl 0 rfl) ?_
      refine va_get (D := D) (ci := 3) (v := .int 0) (C := RX3) (T := TX3) (N := 22) hx hb hts g_X3 hown hE.1 hP 0 rfl rfl 0 (by decide) f_66 (fun _ h9 => h9) rfl dX3_distrust_34 ?_
      refine lv_if_le (tgt := 42) hx hb dX3_distrust_37 (by decide) (fun _ => ?_) (fun c_37 => absurd c_37 (by decide))
      have hix_i_ := (badI_ok (i := i_) (by assumption) (by omega)).2
      refine lv_aload_n hx hb dX3_distrust_42 rfl (lv_at hl 0 rfl) ?_
      refine va_get (D := D) (ci := 3) (v := .ref m6) (C := RX3) (T := TX3) (N := 22) hx hb hts g_X3 hown hE.1 hP 0 rfl rfl 9 (by decide) f_29 (fun _ h9 => h9) rfl dX3_distrust_43 ?_
      refine lv_iload_n hx hb dX3_distrust_46 rfl (lv_at hl 1 rfl) ?_
      refine k_top (z := nI (ix i_)) (badI_ok (i := i_) (by assumption) (by omega)).1 ?_
      refine k_ild hx hb hE.1 hP 6 0 rfl rfl (j := (ix i_)) (by omega) (by decide) dX3_distrust_47 ?_
      refine lv_istore_n (lv' := [(3, .int (dis (ix i_))), (0, .ref m0), (1, .int i_), (2, .int d_)]) hx hb dX3_distrust_48 rfl hl (by decide) rfl (fun ls hl => ?_)
      refine lv_aload_n hx hb dX3_distrust_49 rfl (lv_at hl 1 rfl) ?_
      refine va_get (D := D) (ci := 3) (v := .ref m6) (C := RX3) (T := TX3) (N := 22) hx hb hts g_X3 hown hE.1 hP 0 rfl rfl 9 (by decide) f_29 (fun _ h9 => h9) rfl dX3_distrust_50 ?_
      refine lv_iload_n hx hb dX3_distrust_53 rfl (lv_at hl 2 rfl) ?_
      refine k_top (z := nI (ix i_)) (badI_ok (i := i_) (by assumption) (by omega)).1 ?_
      refine lv_iload_n hx hb dX3_distrust_54 rfl (lv_at hl 3 rfl) ?_
      refine k_ist hx hb hE.1 hP hD hS 6 0 rfl rfl (j := (ix i_)) (by omega) (by decide) dX3_distrust_55 (fun H locs hP hD hS => ?_)
      have hP : va_P D vwCl (wM cy m0 m1 m2 m3 m4 m5 m6 m7 m8 m9 m10 m11 m12 m13 m14 m15 m16 m17 0 td sed mi fr to lim f1 f2 (upd dis (ix i_) d_) pin ag en cm mc su isu fir lgt ofs rn wsn) H := hP
      have hD : va_D A (wM cy m0 m1 m2 m3 m4 m5 m6 m7 m8 m9 m10 m11 m12 m13 m14 m15 m16 m17 0 td sed mi fr to lim f1 f2 (upd dis (ix i_) d_) pin ag en cm mc su isu fir lgt ofs rn wsn) := hD
      refine lv_iload_n hx hb dX3_distrust_56 rfl (lv_at hl 0 rfl) ?_
      exact absurd (by simp [cdDis, c_6, c_15]) hcd
    · refine lv_iload_n hx hb dX3_distrust_18 rfl (lv_at hl 2 rfl) ?_
      refine kcS_i (n := 1) (X := []) (wc := []) (Y := wM cy m0 m1 m2 m3 m4 m5 m6 m7 m8 m9 m10 m11 m12 m13 m14 m15 m16 m17 th td sed mi fr to lim f1 f2 dis pin ag en cm mc su isu fir lgt ofs rn wsn) (As := [.int d_]) (rest := [.ref m0]) ⟨hx, hb, hml, hown, hts⟩ hE hA hP hD hS (c_X3_isDay l D cy d_) (fun _ => rfl) gX3_distrust_X3_isDay rfl rfl rfl ⟨by decide, by decide, by decide +kernel⟩ ⟨Nat.le_of_ble_eq_true rfl, Nat.le_of_ble_eq_true rfl⟩ rfl hl.1 rfl (Nat.le_of_ble_eq_true rfl) dX3_distrust_19 ⟨Nat.zero_le _, Nat.zero_le _⟩ (fun r_3 u H locs e_4 hP hD hS => ?_)
      have hP : va_P D vwCl (wM cy m0 m1 m2 m3 m4 m5 m6 m7 m8 m9 m10 m11 m12 m13 m14 m15 m16 m17 th td sed mi fr to lim f1 f2 dis pin ag en cm mc su isu fir lgt ofs rn wsn) H := hP
      have hD : va_D A (wM cy m0 m1 m2 m3 m4 m5 m6 m7 m8 m9 m10 m11 m12 m13 m14 m15 m16 m17 th td sed mi fr to lim f1 f2 dis pin ag en cm mc su isu fir lgt ofs rn wsn) := hD
      have e_4 : r_3 = bI (badD d_ = false) := e_4
      subst e_4
      refine k_ifeq (tgt := 29) hx hb dX3_distrust_22 (by decide) (fun c_22 => ?_) (fun c_22 => ?_)
      · refine lv_iconst (v := 2) hx hb dX3_distrust_29 (by decide) ?_
        refine va_put (D := D) (ci := 3) (v := .int 2) (ty := .int) (C := RX3) (T := TX3) (N := 22) hx hb hts g_X3 tyX3 tyX3_ok nmX3 hown hE.1 hP hD hS 0 rfl rfl 0 (by decide) f_66 (fun _ h9 => h9) rfl (by decide +kernel) rfl rfl (Nat.le_of_ble_eq_true rfl) dX3_distrust_30 (fun H locs hP hD hS => ?_)
        have hP : va_P D vwCl (wM cy m0 m1 m2 m3 m4 m5 m6 m7 m8 m9 m10 m11 m12 m13 m14 m15 m16 m17 2 td sed mi fr to lim f1 f2 dis pin ag en cm mc su isu fir lgt ofs rn wsn) H := hP
        have hD : va_D A (wM cy m0 m1 m2 m3 m4 m5 m6 m7 m8 m9 m10 m11 m12 m13 m14 m15 m16 m17 2 td sed mi fr to lim f1 f2 dis pin ag en cm mc su isu fir lgt ofs rn wsn) := hD
        refine lv_aload_n hx hb dX3_distrust_33 rfl (lv_at hl 0 rfl) ?_
        refine va_get (D := D) (ci := 3) (v := .int 2) (C := RX3) (T := TX3) (N := 22) hx hb hts g_X3 hown hE.1 hP 0 rfl rfl 0 (by decide) f_66 (fun _ h9 => h9) rfl dX3_distrust_34 ?_
        refine lv_if_le (tgt := 42) hx hb dX3_distrust_37 (by decide) (fun c_37 => absurd c_37 (by decide)) (fun _ => ?_)
        refine lv_iconst (v := 0) hx hb dX3_distrust_40 (by decide) ?_
        have w_th : 2 = cdDis mi i_ d_ := (by simp [cdDis, c_6, c_15, c_22])
        exact hret _ _ _ _ 0 () dX3_distrust_41 (Or.inl rfl) trivial (by show va_P D vwCl (wM cy m0 m1 m2 m3 m4 m5 m6 m7 m8 m9 m10 m11 m12 m13 m14 m15 m16 m17 (cdDis mi i_ d_) td sed mi fr to lim f1 f2 dis pin ag en cm mc su isu fir lgt ofs rn wsn) _; rw [← w_th]; exact hP) hS
      · refine lv_iconst (v := 0) hx hb dX3_distrust_25 (by decide) ?_
        refine lv_goto (tgt := 30) hx hb dX3_distrust_26 (by decide) ?_
        refine va_put (D := D) (ci := 3) (v := .int 0) (ty := .int) (C := RX3) (T := TX3) (N := 22) hx hb hts g_X3 tyX3 tyX3_ok nmX3 hown hE.1 hP hD hS 0 rfl rfl 0 (by decide) f_66 (fun _ h9 => h9) rfl (by decide +kernel) rfl rfl (Nat.le_of_ble_eq_true rfl) dX3_distrust_30 (fun H locs hP hD hS => ?_)
        have hP : va_P D vwCl (wM cy m0 m1 m2 m3 m4 m5 m6 m7 m8 m9 m10 m11 m12 m13 m14 m15 m16 m17 0 td sed mi fr to lim f1 f2 dis pin ag en cm mc su isu fir lgt ofs rn wsn) H := hP
        have hD : va_D A (wM cy m0 m1 m2 m3 m4 m5 m6 m7 m8 m9 m10 m11 m12 m13 m14 m15 m16 m17 0 td sed mi fr to lim f1 f2 dis pin ag en cm mc su isu fir lgt ofs rn wsn) := hD
        refine lv_aload_n hx hb dX3_distrust_33 rfl (lv_at hl 0 rfl) ?_
        refine va_get (D := D) (ci := 3) (v := .int 0) (C := RX3) (T := TX3) (N := 22) hx hb hts g_X3 hown hE.1 hP 0 rfl rfl 0 (by decide) f_66 (fun _ h9 => h9) rfl dX3_distrust_34 ?_
        refine lv_if_le (tgt := 42) hx hb dX3_distrust_37 (by decide) (fun _ => ?_) (fun c_37 => absurd c_37 (by decide))
        have hix_i_ := (badI_ok (i := i_) (by assumption) (by omega)).2
        refine lv_aload_n hx hb dX3_distrust_42 rfl (lv_at hl 0 rfl) ?_
        refine va_get (D := D) (ci := 3) (v := .ref m6) (C := RX3) (T := TX3) (N := 22) hx hb hts g_X3 hown hE.1 hP 0 rfl rfl 9 (by decide) f_29 (fun _ h9 => h9) rfl dX3_distrust_43 ?_
        refine lv_iload_n hx hb dX3_distrust_46 rfl (lv_at hl 1 rfl) ?_
        refine k_top (z := nI (ix i_)) (badI_ok (i := i_) (by assumption) (by omega)).1 ?_
        refine k_ild hx hb hE.1 hP 6 0 rfl rfl (j := (ix i_)) (by omega) (by decide) dX3_distrust_47 ?_
        refine lv_istore_n (lv' := [(3, .int (dis (ix i_))), (0, .ref m0), (1, .int i_), (2, .int d_)]) hx hb dX3_distrust_48 rfl hl (by decide) rfl (fun ls hl => ?_)
        refine lv_aload_n hx hb dX3_distrust_49 rfl (lv_at hl 1 rfl) ?_
        refine va_get (D := D) (ci := 3) (v := .ref m6) (C := RX3) (T := TX3) (N := 22) hx hb hts g_X3 hown hE.1 hP 0 rfl rfl 9 (by decide) f_29 (fun _ h9 => h9) rfl dX3_distrust_50 ?_
        refine lv_iload_n hx hb dX3_distrust_53 rfl (lv_at hl 2 rfl) ?_
        refine k_top (z := nI (ix i_)) (badI_ok (i := i_) (by assumption) (by omega)).1 ?_
        refine lv_iload_n hx hb dX3_distrust_54 rfl (lv_at hl 3 rfl) ?_
        refine k_ist hx hb hE.1 hP hD hS 6 0 rfl rfl (j := (ix i_)) (by omega) (by decide) dX3_distrust_55 (fun H locs hP hD hS => ?_)
        have hP : va_P D vwCl (wM cy m0 m1 m2 m3 m4 m5 m6 m7 m8 m9 m10 m11 m12 m13 m14 m15 m16 m17 0 td sed mi fr to lim f1 f2 (upd dis (ix i_) d_) pin ag en cm mc su isu fir lgt ofs rn wsn) H := hP
        have hD : va_D A (wM cy m0 m1 m2 m3 m4 m5 m6 m7 m8 m9 m10 m11 m12 m13 m14 m15 m16 m17 0 td sed mi fr to lim f1 f2 (upd dis (ix i_) d_) pin ag en cm mc su isu fir lgt ofs rn wsn) := hD
        refine lv_iload_n hx hb dX3_distrust_56 rfl (lv_at hl 0 rfl) ?_
        exact absurd (by simp [cdDis, c_6, c_15, c_22]) hcd
  · refine lv_iconst (v := 1) hx hb dX3_distrust_9 (by decide) ?_
    refine lv_goto (tgt := 30) hx hb dX3_distrust_10 (by decide) ?_
    refine va_put (D := D) (ci := 3) (v := .int 1) (ty := .int) (C := RX3) (T := TX3) (N := 22) hx hb hts g_X3 tyX3 tyX3_ok nmX3 hown hE.1 hP hD hS 0 rfl rfl 0 (by decide) f_66 (fun _ h9 => h9) rfl (by decide +kernel) rfl rfl (Nat.le_of_ble_eq_true rfl) dX3_distrust_30 (fun H locs hP hD hS => ?_)
    have hP : va_P D vwCl (wM cy m0 m1 m2 m3 m4 m5 m6 m7 m8 m9 m10 m11 m12 m13 m14 m15 m16 m17 1 td sed mi fr to lim f1 f2 dis pin ag en cm mc su isu fir lgt ofs rn wsn) H := hP
    have hD : va_D A (wM cy m0 m1 m2 m3 m4 m5 m6 m7 m8 m9 m10 m11 m12 m13 m14 m15 m16 m17 1 td sed mi fr to lim f1 f2 dis pin ag en cm mc su isu fir lgt ofs rn wsn) := hD
    refine lv_aload_n hx hb dX3_distrust_33 rfl (lv_at hl 0 rfl) ?_
    refine va_get (D := D) (ci := 3) (v := .int 1) (C := RX3) (T := TX3) (N := 22) hx hb hts g_X3 hown hE.1 hP 0 rfl rfl 0 (by decide) f_66 (fun _ h9 => h9) rfl dX3_distrust_34 ?_
    refine lv_if_le (tgt := 42) hx hb dX3_distrust_37 (by decide) (fun c_37 => absurd c_37 (by decide)) (fun _ => ?_)
    refine lv_iconst (v := 0) hx hb dX3_distrust_40 (by decide) ?_
    have w_th : 1 = cdDis mi i_ d_ := (by simp [cdDis, c_6])
    exact hret _ _ _ _ 0 () dX3_distrust_41 (Or.inl rfl) trivial (by show va_P D vwCl (wM cy m0 m1 m2 m3 m4 m5 m6 m7 m8 m9 m10 m11 m12 m13 m14 m15 m16 m17 (cdDis mi i_ d_) td sed mi fr to lim f1 f2 dis pin ag en cm mc su isu fir lgt ofs rn wsn) _; rw [← w_th]; exact hP) hS

set_option maxHeartbeats 4000000 in
set_option maxRecDepth 100000 in
theorem c_X3_pin (l : Launch) (D : va_G) (cy : ClassId × ClassId × ClassId) (m0 m1 m2 m3 m4 m5 m6 m7 m8 m9 m10 m11 m12 m13 m14 m15 m16 m17 : Nat) (th td sed : Int32) (mi : Nat) (fr to lim f1 f2 dis pin ag en cm : Nat → Int32) (mc : Nat) (su isu fir lgt ofs rn wsn : Nat → Int32) (x_ : Int32) (v_ : Int32) (hcd : cdPinM x_ v_ = 0) : kI l D cy yX3_pin wsX3_pin (krm 2 42) [.ref m0, .int x_, .int v_] (wM cy m0 m1 m2 m3 m4 m5 m6 m7 m8 m9 m10 m11 m12 m13 m14 m15 m16 m17 th td sed mi fr to lim f1 f2 dis pin ag en cm mc su isu fir lgt ofs rn wsn) (fun (r : Int32) (u : Unit) => r = pin (ix x_)) (fun _ : Unit => wM cy m0 m1 m2 m3 m4 m5 m6 m7 m8 m9 m10 m11 m12 m13 m14 m15 m16 m17 0 td sed mi fr to lim f1 f2 dis (upd pin (ix x_) v_) ag en cm mc su isu fir lgt ofs rn wsn) := by
  refine kI.of (cc := cX3_pin) (maxL := 4) (rt := .int) (Or.inl rfl) (by decide) rfl (Nat.le_of_ble_eq_true rfl) ?_
  intro p e s m args below meth c Q A ls hx hb hml hown hts hE hA hP hD hl hret
  have hS : va_S A s.heap s.heap [] := va_S.rf
  have hl : lv_has ls 4 [(0, .ref m0), (1, .int x_), (2, .int v_)] := hl
  have g_X3 : ∀ w ∈ wsX30, w ∈ wsX3_pin := by decide +kernel
  have f_66 := hts (.fieldLink RX3 66 "CertHerdModel" "thrown" "I") (by decide +kernel)
  have f_32 := hts (.fieldLink RX3 32 "CertHerdModel" "pins" "[I") (by decide +kernel)
  refine lv_aload_n hx hb dX3_pin_0 rfl (lv_at hl 0 rfl) ?_
  refine lv_iload_n hx hb dX3_pin_1 rfl (lv_at hl 1 rfl) ?_
  refine kcS_i (n := 1) (X := []) (wc := []) (Y := wM cy m0 m1 m2 m3 m4 m5 m6 m7 m8 m9 m10 m11 m12 m13 m14 m15 m16 m17 th td sed mi fr to lim f1 f2 dis pin ag en cm mc su isu fir lgt ofs rn wsn) (As := [.int x_]) (rest := [.ref m0]) ⟨hx, hb, hml, hown, hts⟩ hE hA hP hD hS (c_X3_isName l D cy x_) (fun _ => rfl) gX3_pin_X3_isName rfl rfl rfl ⟨by decide, by decide, by decide +kernel⟩ ⟨Nat.le_of_ble_eq_true rfl, Nat.le_of_ble_eq_true rfl⟩ rfl hl.1 rfl (Nat.le_of_ble_eq_true rfl) dX3_pin_2 ⟨Nat.zero_le _, Nat.zero_le _⟩ (fun r_1 u H locs e_2 hP hD hS => ?_)
  have hP : va_P D vwCl (wM cy m0 m1 m2 m3 m4 m5 m6 m7 m8 m9 m10 m11 m12 m13 m14 m15 m16 m17 th td sed mi fr to lim f1 f2 dis pin ag en cm mc su isu fir lgt ofs rn wsn) H := hP
  have hD : va_D A (wM cy m0 m1 m2 m3 m4 m5 m6 m7 m8 m9 m10 m11 m12 m13 m14 m15 m16 m17 th td sed mi fr to lim f1 f2 dis pin ag en cm mc su isu fir lgt ofs rn wsn) := hD
  have e_2 : r_1 = bI (badN x_ = false) := e_2
  subst e_2
  refine k_ifne (tgt := 12) hx hb dX3_pin_5 (by decide) (fun c_5 => ?_) (fun c_5 => ?_)
  · refine lv_iload_n hx hb dX3_pin_12 rfl (lv_at hl 2 rfl) ?_
    refine lv_iconst (v := 0) hx hb dX3_pin_13 (by decide) ?_
    refine lv_sipush (v := 255) hx hb dX3_pin_14 (by decide) ?_
    refine kcS_i (n := 3) (X := []) (wc := []) (Y := wM cy m0 m1 m2 m3 m4 m5 m6 m7 m8 m9 m10 m11 m12 m13 m14 m15 m16 m17 th td sed mi fr to lim f1 f2 dis pin ag en cm mc su isu fir lgt ofs rn wsn) (As := [.int v_, .int 0, .int 255]) (rest := [.ref m0]) ⟨hx, hb, hml, hown, hts⟩ hE hA hP hD hS (c_X3_in l D cy v_ 0 255) (fun _ => rfl) gX3_pin_X3_in rfl rfl rfl ⟨by decide, by decide, by decide +kernel⟩ ⟨Nat.le_of_ble_eq_true rfl, Nat.le_of_ble_eq_true rfl⟩ rfl hl.1 rfl (Nat.le_of_ble_eq_true rfl) dX3_pin_17 ⟨Nat.zero_le _, Nat.zero_le _⟩ (fun r_3 u H locs e_4 hP hD hS => ?_)
    have hP : va_P D vwCl (wM cy m0 m1 m2 m3 m4 m5 m6 m7 m8 m9 m10 m11 m12 m13 m14 m15 m16 m17 th td sed mi fr to lim f1 f2 dis pin ag en cm mc su isu fir lgt ofs rn wsn) H := hP
    have hD : va_D A (wM cy m0 m1 m2 m3 m4 m5 m6 m7 m8 m9 m10 m11 m12 m13 m14 m15 m16 m17 th td sed mi fr to lim f1 f2 dis pin ag en cm mc su isu fir lgt ofs rn wsn) := hD
    have e_4 : r_3 = bI (inB v_ 0 255 = true) := e_4
    subst e_4
    refine k_ifeq (tgt := 27) hx hb dX3_pin_20 (by decide) (fun c_20 => ?_) (fun c_20 => ?_)
    · refine lv_iconst (v := 2) hx hb dX3_pin_27 (by decide) ?_
      refine va_put (D := D) (ci := 3) (v := .int 2) (ty := .int) (C := RX3) (T := TX3) (N := 22) hx hb hts g_X3 tyX3 tyX3_ok nmX3 hown hE.1 hP hD hS 0 rfl rfl 0 (by decide) f_66 (fun _ h9 => h9) rfl (by decide +kernel) rfl rfl (Nat.le_of_ble_eq_true rfl) dX3_pin_28 (fun H locs hP hD hS => ?_)
      have hP : va_P D vwCl (wM cy m0 m1 m2 m3 m4 m5 m6 m7 m8 m9 m10 m11 m12 m13 m14 m15 m16 m17 2 td sed mi fr to lim f1 f2 dis pin ag en cm mc su isu fir lgt ofs rn wsn) H := hP
      have hD : va_D A (wM cy m0 m1 m2 m3 m4 m5 m6 m7 m8 m9 m10 m11 m12 m13 m14 m15 m16 m17 2 td sed mi fr to lim f1 f2 dis pin ag en cm mc su isu fir lgt ofs rn wsn) := hD
      refine lv_aload_n hx hb dX3_pin_31 rfl (lv_at hl 0 rfl) ?_
      refine va_get (D := D) (ci := 3) (v := .int 2) (C := RX3) (T := TX3) (N := 22) hx hb hts g_X3 hown hE.1 hP 0 rfl rfl 0 (by decide) f_66 (fun _ h9 => h9) rfl dX3_pin_32 ?_
      refine lv_if_le (tgt := 40) hx hb dX3_pin_35 (by decide) (fun c_35 => absurd c_35 (by decide)) (fun _ => ?_)
      refine lv_iconst (v := 0) hx hb dX3_pin_38 (by decide) ?_
      exact absurd hcd (by simp [cdPinM, c_5, c_20])
    · refine lv_iconst (v := 0) hx hb dX3_pin_23 (by decide) ?_
      refine lv_goto (tgt := 28) hx hb dX3_pin_24 (by decide) ?_
      refine va_put (D := D) (ci := 3) (v := .int 0) (ty := .int) (C := RX3) (T := TX3) (N := 22) hx hb hts g_X3 tyX3 tyX3_ok nmX3 hown hE.1 hP hD hS 0 rfl rfl 0 (by decide) f_66 (fun _ h9 => h9) rfl (by decide +kernel) rfl rfl (Nat.le_of_ble_eq_true rfl) dX3_pin_28 (fun H locs hP hD hS => ?_)
      have hP : va_P D vwCl (wM cy m0 m1 m2 m3 m4 m5 m6 m7 m8 m9 m10 m11 m12 m13 m14 m15 m16 m17 0 td sed mi fr to lim f1 f2 dis pin ag en cm mc su isu fir lgt ofs rn wsn) H := hP
      have hD : va_D A (wM cy m0 m1 m2 m3 m4 m5 m6 m7 m8 m9 m10 m11 m12 m13 m14 m15 m16 m17 0 td sed mi fr to lim f1 f2 dis pin ag en cm mc su isu fir lgt ofs rn wsn) := hD
      refine lv_aload_n hx hb dX3_pin_31 rfl (lv_at hl 0 rfl) ?_
      refine va_get (D := D) (ci := 3) (v := .int 0) (C := RX3) (T := TX3) (N := 22) hx hb hts g_X3 hown hE.1 hP 0 rfl rfl 0 (by decide) f_66 (fun _ h9 => h9) rfl dX3_pin_32 ?_
      refine lv_if_le (tgt := 40) hx hb dX3_pin_35 (by decide) (fun _ => ?_) (fun c_35 => absurd c_35 (by decide))
      have hix_x_ := (badN_ok (i := x_) (by assumption)).2
      refine lv_aload_n hx hb dX3_pin_40 rfl (lv_at hl 0 rfl) ?_
      refine va_get (D := D) (ci := 3) (v := .ref m7) (C := RX3) (T := TX3) (N := 22) hx hb hts g_X3 hown hE.1 hP 0 rfl rfl 10 (by decide) f_32 (fun _ h9 => h9) rfl dX3_pin_41 ?_
      refine lv_iload_n hx hb dX3_pin_44 rfl (lv_at hl 1 rfl) ?_
      refine k_top (z := nI (ix x_)) (badN_ok (i := x_) (by assumption)).1 ?_
      refine k_ild hx hb hE.1 hP 7 0 rfl rfl (j := (ix x_)) (by omega) (by decide) dX3_pin_45 ?_
      refine lv_istore_n (lv' := [(3, .int (pin (ix x_))), (0, .ref m0), (1, .int x_), (2, .int v_)]) hx hb dX3_pin_46 rfl hl (by decide) rfl (fun ls hl => ?_)
      refine lv_aload_n hx hb dX3_pin_47 rfl (lv_at hl 1 rfl) ?_
      refine va_get (D := D) (ci := 3) (v := .ref m7) (C := RX3) (T := TX3) (N := 22) hx hb hts g_X3 hown hE.1 hP 0 rfl rfl 10 (by decide) f_32 (fun _ h9 => h9) rfl dX3_pin_48 ?_
      refine lv_iload_n hx hb dX3_pin_51 rfl (lv_at hl 2 rfl) ?_
      refine k_top (z := nI (ix x_)) (badN_ok (i := x_) (by assumption)).1 ?_
      refine lv_iload_n hx hb dX3_pin_52 rfl (lv_at hl 3 rfl) ?_
      refine k_ist hx hb hE.1 hP hD hS 7 0 rfl rfl (j := (ix x_)) (by omega) (by decide) dX3_pin_53 (fun H locs hP hD hS => ?_)
      have hP : va_P D vwCl (wM cy m0 m1 m2 m3 m4 m5 m6 m7 m8 m9 m10 m11 m12 m13 m14 m15 m16 m17 0 td sed mi fr to lim f1 f2 dis (upd pin (ix x_) v_) ag en cm mc su isu fir lgt ofs rn wsn) H := hP
      have hD : va_D A (wM cy m0 m1 m2 m3 m4 m5 m6 m7 m8 m9 m10 m11 m12 m13 m14 m15 m16 m17 0 td sed mi fr to lim f1 f2 dis (upd pin (ix x_) v_) ag en cm mc su isu fir lgt ofs rn wsn) := hD
      refine lv_iload_n hx hb dX3_pin_54 rfl (lv_at hl 0 rfl) ?_
      exact hret _ _ _ _ (pin (ix x_)) () dX3_pin_55 (Or.inl rfl) rfl hP hS
  · refine lv_iconst (v := 1) hx hb dX3_pin_8 (by decide) ?_
    refine lv_goto (tgt := 28) hx hb dX3_pin_9 (by decide) ?_
    refine va_put (D := D) (ci := 3) (v := .int 1) (ty := .int) (C := RX3) (T := TX3) (N := 22) hx hb hts g_X3 tyX3 tyX3_ok nmX3 hown hE.1 hP hD hS 0 rfl rfl 0 (by decide) f_66 (fun _ h9 => h9) rfl (by decide +kernel) rfl rfl (Nat.le_of_ble_eq_true rfl) dX3_pin_28 (fun H locs hP hD hS => ?_)
    have hP : va_P D vwCl (wM cy m0 m1 m2 m3 m4 m5 m6 m7 m8 m9 m10 m11 m12 m13 m14 m15 m16 m17 1 td sed mi fr to lim f1 f2 dis pin ag en cm mc su isu fir lgt ofs rn wsn) H := hP
    have hD : va_D A (wM cy m0 m1 m2 m3 m4 m5 m6 m7 m8 m9 m10 m11 m12 m13 m14 m15 m16 m17 1 td sed mi fr to lim f1 f2 dis pin ag en cm mc su isu fir lgt ofs rn wsn) := hD
    refine lv_aload_n hx hb dX3_pin_31 rfl (lv_at hl 0 rfl) ?_
    refine va_get (D := D) (ci := 3) (v := .int 1) (C := RX3) (T := TX3) (N := 22) hx hb hts g_X3 hown hE.1 hP 0 rfl rfl 0 (by decide) f_66 (fun _ h9 => h9) rfl dX3_pin_32 ?_
    refine lv_if_le (tgt := 40) hx hb dX3_pin_35 (by decide) (fun c_35 => absurd c_35 (by decide)) (fun _ => ?_)
    refine lv_iconst (v := 0) hx hb dX3_pin_38 (by decide) ?_
    exact absurd hcd (by simp [cdPinM, c_5])

set_option maxHeartbeats 4000000 in
set_option maxRecDepth 100000 in
theorem c_X3_pin_f (l : Launch) (D : va_G) (cy : ClassId × ClassId × ClassId) (m0 m1 m2 m3 m4 m5 m6 m7 m8 m9 m10 m11 m12 m13 m14 m15 m16 m17 : Nat) (th td sed : Int32) (mi : Nat) (fr to lim f1 f2 dis pin ag en cm : Nat → Int32) (mc : Nat) (su isu fir lgt ofs rn wsn : Nat → Int32) (x_ : Int32) (v_ : Int32) (hcd : ¬ cdPinM x_ v_ = 0) : kI l D cy yX3_pin wsX3_pin (krm 2 42) [.ref m0, .int x_, .int v_] (wM cy m0 m1 m2 m3 m4 m5 m6 m7 m8 m9 m10 m11 m12 m13 m14 m15 m16 m17 th td sed mi fr to lim f1 f2 dis pin ag en cm mc su isu fir lgt ofs rn wsn) (fun (r : Int32) (u : Unit) => True) (fun _ : Unit => wM cy m0 m1 m2 m3 m4 m5 m6 m7 m8 m9 m10 m11 m12 m13 m14 m15 m16 m17 (cdPinM x_ v_) td sed mi fr to lim f1 f2 dis pin ag en cm mc su isu fir lgt ofs rn wsn) := by
  refine kI.of (cc := cX3_pin) (maxL := 4) (rt := .int) (Or.inl rfl) (by decide) rfl (Nat.le_of_ble_eq_true rfl) ?_
  intro p e s m args below meth c Q A ls hx hb hml hown hts hE hA hP hD hl hret
  have hS : va_S A s.heap s.heap [] := va_S.rf
  have hl : lv_has ls 4 [(0, .ref m0), (1, .int x_), (2, .int v_)] := hl
  have g_X3 : ∀ w ∈ wsX30, w ∈ wsX3_pin := by decide +kernel
  have f_66 := hts (.fieldLink RX3 66 "CertHerdModel" "thrown" "I") (by decide +kernel)
  have f_32 := hts (.fieldLink RX3 32 "CertHerdModel" "pins" "[I") (by decide +kernel)
  refine lv_aload_n hx hb dX3_pin_0 rfl (lv_at hl 0 rfl) ?_
  refine lv_iload_n hx hb dX3_pin_1 rfl (lv_at hl 1 rfl) ?_
  refine kcS_i (n := 1) (X := []) (wc := []) (Y := wM cy m0 m1 m2 m3 m4 m5 m6 m7 m8 m9 m10 m11 m12 m13 m14 m15 m16 m17 th td sed mi fr to lim f1 f2 dis pin ag en cm mc su isu fir lgt ofs rn wsn) (As := [.int x_]) (rest := [.ref m0]) ⟨hx, hb, hml, hown, hts⟩ hE hA hP hD hS (c_X3_isName l D cy x_) (fun _ => rfl) gX3_pin_X3_isName rfl rfl rfl ⟨by decide, by decide, by decide +kernel⟩ ⟨Nat.le_of_ble_eq_true rfl, Nat.le_of_ble_eq_true rfl⟩ rfl hl.1 rfl (Nat.le_of_ble_eq_true rfl) dX3_pin_2 ⟨Nat.zero_le _, Nat.zero_le _⟩ (fun r_1 u H locs e_2 hP hD hS => ?_)
  have hP : va_P D vwCl (wM cy m0 m1 m2 m3 m4 m5 m6 m7 m8 m9 m10 m11 m12 m13 m14 m15 m16 m17 th td sed mi fr to lim f1 f2 dis pin ag en cm mc su isu fir lgt ofs rn wsn) H := hP
  have hD : va_D A (wM cy m0 m1 m2 m3 m4 m5 m6 m7 m8 m9 m10 m11 m12 m13 m14 m15 m16 m17 th td sed mi fr to lim f1 f2 dis pin ag en cm mc su isu fir lgt ofs rn wsn) := hD
  have e_2 : r_1 = bI (badN x_ = false) := e_2
  subst e_2
  refine k_ifne (tgt := 12) hx hb dX3_pin_5 (by decide) (fun c_5 => ?_) (fun c_5 => ?_)
  · refine lv_iload_n hx hb dX3_pin_12 rfl (lv_at hl 2 rfl) ?_
    refine lv_iconst (v := 0) hx hb dX3_pin_13 (by decide) ?_
    refine lv_sipush (v := 255) hx hb dX3_pin_14 (by decide) ?_
    refine kcS_i (n := 3) (X := []) (wc := []) (Y := wM cy m0 m1 m2 m3 m4 m5 m6 m7 m8 m9 m10 m11 m12 m13 m14 m15 m16 m17 th td sed mi fr to lim f1 f2 dis pin ag en cm mc su isu fir lgt ofs rn wsn) (As := [.int v_, .int 0, .int 255]) (rest := [.ref m0]) ⟨hx, hb, hml, hown, hts⟩ hE hA hP hD hS (c_X3_in l D cy v_ 0 255) (fun _ => rfl) gX3_pin_X3_in rfl rfl rfl ⟨by decide, by decide, by decide +kernel⟩ ⟨Nat.le_of_ble_eq_true rfl, Nat.le_of_ble_eq_true rfl⟩ rfl hl.1 rfl (Nat.le_of_ble_eq_true rfl) dX3_pin_17 ⟨Nat.zero_le _, Nat.zero_le _⟩ (fun r_3 u H locs e_4 hP hD hS => ?_)
    have hP : va_P D vwCl (wM cy m0 m1 m2 m3 m4 m5 m6 m7 m8 m9 m10 m11 m12 m13 m14 m15 m16 m17 th td sed mi fr to lim f1 f2 dis pin ag en cm mc su isu fir lgt ofs rn wsn) H := hP
    have hD : va_D A (wM cy m0 m1 m2 m3 m4 m5 m6 m7 m8 m9 m10 m11 m12 m13 m14 m15 m16 m17 th td sed mi fr to lim f1 f2 dis pin ag en cm mc su isu fir lgt ofs rn wsn) := hD
    have e_4 : r_3 = bI (inB v_ 0 255 = true) := e_4
    subst e_4
    refine k_ifeq (tgt := 27) hx hb dX3_pin_20 (by decide) (fun c_20 => ?_) (fun c_20 => ?_)
    · refine lv_iconst (v := 2) hx hb dX3_pin_27 (by decide) ?_
      refine va_put (D := D) (ci := 3) (v := .int 2) (ty := .int) (C := RX3) (T := TX3) (N := 22) hx hb hts g_X3 tyX3 tyX3_ok nmX3 hown hE.1 hP hD hS 0 rfl rfl 0 (by decide) f_66 (fun _ h9 => h9) rfl (by decide +kernel) rfl rfl (Nat.le_of_ble_eq_true rfl) dX3_pin_28 (fun H locs hP hD hS => ?_)
      have hP : va_P D vwCl (wM cy m0 m1 m2 m3 m4 m5 m6 m7 m8 m9 m10 m11 m12 m13 m14 m15 m16 m17 2 td sed mi fr to lim f1 f2 dis pin ag en cm mc su isu fir lgt ofs rn wsn) H := hP
      have hD : va_D A (wM cy m0 m1 m2 m3 m4 m5 m6 m7 m8 m9 m10 m11 m12 m13 m14 m15 m16 m17 2 td sed mi fr to lim f1 f2 dis pin ag en cm mc su isu fir lgt ofs rn wsn) := hD
      refine lv_aload_n hx hb dX3_pin_31 rfl (lv_at hl 0 rfl) ?_
      refine va_get (D := D) (ci := 3) (v := .int 2) (C := RX3) (T := TX3) (N := 22) hx hb hts g_X3 hown hE.1 hP 0 rfl rfl 0 (by decide) f_66 (fun _ h9 => h9) rfl dX3_pin_32 ?_
      refine lv_if_le (tgt := 40) hx hb dX3_pin_35 (by decide) (fun c_35 => absurd c_35 (by decide)) (fun _ => ?_)
      refine lv_iconst (v := 0) hx hb dX3_pin_38 (by decide) ?_
      have w_th : 2 = cdPinM x_ v_ := (by simp [cdPinM, c_5, c_20])
      exact hret _ _ _ _ 0 () dX3_pin_39 (Or.inl rfl) trivial (by show va_P D vwCl (wM cy m0 m1 m2 m3 m4 m5 m6 m7 m8 m9 m10 m11 m12 m13 m14 m15 m16 m17 (cdPinM x_ v_) td sed mi fr to lim f1 f2 dis pin ag en cm mc su isu fir lgt ofs rn wsn) _; rw [← w_th]; exact hP) hS
    · refine lv_iconst (v := 0) hx hb dX3_pin_23 (by decide) ?_
      refine lv_goto (tgt := 28) hx hb dX3_pin_24 (by decide) ?_
      refine va_put (D := D) (ci := 3) (v := .int 0) (ty := .int) (C := RX3) (T := TX3) (N := 22) hx hb hts g_X3 tyX3 tyX3_ok nmX3 hown hE.1 hP hD hS 0 rfl rfl 0 (by decide) f_66 (fun _ h9 => h9) rfl (by decide +kernel) rfl rfl (Nat.le_of_ble_eq_true rfl) dX3_pin_28 (fun H locs hP hD hS => ?_)
      have hP : va_P D vwCl (wM cy m0 m1 m2 m3 m4 m5 m6 m7 m8 m9 m10 m11 m12 m13 m14 m15 m16 m17 0 td sed mi fr to lim f1 f2 dis pin ag en cm mc su isu fir lgt ofs rn wsn) H := hP
      have hD : va_D A (wM cy m0 m1 m2 m3 m4 m5 m6 m7 m8 m9 m10 m11 m12 m13 m14 m15 m16 m17 0 td sed mi fr to lim f1 f2 dis pin ag en cm mc su isu fir lgt ofs rn wsn) := hD
      refine lv_aload_n hx hb dX3_pin_31 rfl (lv_at hl 0 rfl) ?_
      refine va_get (D := D) (ci := 3) (v := .int 0) (C := RX3) (T := TX3) (N := 22) hx hb hts g_X3 hown hE.1 hP 0 rfl rfl 0 (by decide) f_66 (fun _ h9 => h9) rfl dX3_pin_32 ?_
      refine lv_if_le (tgt := 40) hx hb dX3_pin_35 (by decide) (fun _ => ?_) (fun c_35 => absurd c_35 (by decide))
      have hix_x_ := (badN_ok (i := x_) (by assumption)).2
      refine lv_aload_n hx hb dX3_pin_40 rfl (lv_at hl 0 rfl) ?_
      refine va_get (D := D) (ci := 3) (v := .ref m7) (C := RX3) (T := TX3) (N := 22) hx hb hts g_X3 hown hE.1 hP 0 rfl rfl 10 (by decide) f_32 (fun _ h9 => h9) rfl dX3_pin_41 ?_
      refine lv_iload_n hx hb dX3_pin_44 rfl (lv_at hl 1 rfl) ?_
      refine k_top (z := nI (ix x_)) (badN_ok (i := x_) (by assumption)).1 ?_
      refine k_ild hx hb hE.1 hP 7 0 rfl rfl (j := (ix x_)) (by omega) (by decide) dX3_pin_45 ?_
      refine lv_istore_n (lv' := [(3, .int (pin (ix x_))), (0, .ref m0), (1, .int x_), (2, .int v_)]) hx hb dX3_pin_46 rfl hl (by decide) rfl (fun ls hl => ?_)
      refine lv_aload_n hx hb dX3_pin_47 rfl (lv_at hl 1 rfl) ?_
      refine va_get (D := D) (ci := 3) (v := .ref m7) (C := RX3) (T := TX3) (N := 22) hx hb hts g_X3 hown hE.1 hP 0 rfl rfl 10 (by decide) f_32 (fun _ h9 => h9) rfl dX3_pin_48 ?_
      refine lv_iload_n hx hb dX3_pin_51 rfl (lv_at hl 2 rfl) ?_
      refine k_top (z := nI (ix x_)) (badN_ok (i := x_) (by assumption)).1 ?_
      refine lv_iload_n hx hb dX3_pin_52 rfl (lv_at hl 3 rfl) ?_
      refine k_ist hx hb hE.1 hP hD hS 7 0 rfl rfl (j := (ix x_)) (by omega) (by decide) dX3_pin_53 (fun H locs hP hD hS => ?_)
      have hP : va_P D vwCl (wM cy m0 m1 m2 m3 m4 m5 m6 m7 m8 m9 m10 m11 m12 m13 m14 m15 m16 m17 0 td sed mi fr to lim f1 f2 dis (upd pin (ix x_) v_) ag en cm mc su isu fir lgt ofs rn wsn) H := hP
      have hD : va_D A (wM cy m0 m1 m2 m3 m4 m5 m6 m7 m8 m9 m10 m11 m12 m13 m14 m15 m16 m17 0 td sed mi fr to lim f1 f2 dis (upd pin (ix x_) v_) ag en cm mc su isu fir lgt ofs rn wsn) := hD
      refine lv_iload_n hx hb dX3_pin_54 rfl (lv_at hl 0 rfl) ?_
      exact absurd (by simp [cdPinM, c_5, c_20]) hcd
  · refine lv_iconst (v := 1) hx hb dX3_pin_8 (by decide) ?_
    refine lv_goto (tgt := 28) hx hb dX3_pin_9 (by decide) ?_
    refine va_put (D := D) (ci := 3) (v := .int 1) (ty := .int) (C := RX3) (T := TX3) (N := 22) hx hb hts g_X3 tyX3 tyX3_ok nmX3 hown hE.1 hP hD hS 0 rfl rfl 0 (by decide) f_66 (fun _ h9 => h9) rfl (by decide +kernel) rfl rfl (Nat.le_of_ble_eq_true rfl) dX3_pin_28 (fun H locs hP hD hS => ?_)
    have hP : va_P D vwCl (wM cy m0 m1 m2 m3 m4 m5 m6 m7 m8 m9 m10 m11 m12 m13 m14 m15 m16 m17 1 td sed mi fr to lim f1 f2 dis pin ag en cm mc su isu fir lgt ofs rn wsn) H := hP
    have hD : va_D A (wM cy m0 m1 m2 m3 m4 m5 m6 m7 m8 m9 m10 m11 m12 m13 m14 m15 m16 m17 1 td sed mi fr to lim f1 f2 dis pin ag en cm mc su isu fir lgt ofs rn wsn) := hD
    refine lv_aload_n hx hb dX3_pin_31 rfl (lv_at hl 0 rfl) ?_
    refine va_get (D := D) (ci := 3) (v := .int 1) (C := RX3) (T := TX3) (N := 22) hx hb hts g_X3 hown hE.1 hP 0 rfl rfl 0 (by decide) f_66 (fun _ h9 => h9) rfl dX3_pin_32 ?_
    refine lv_if_le (tgt := 40) hx hb dX3_pin_35 (by decide) (fun c_35 => absurd c_35 (by decide)) (fun _ => ?_)
    refine lv_iconst (v := 0) hx hb dX3_pin_38 (by decide) ?_
    have w_th : 1 = cdPinM x_ v_ := (by simp [cdPinM, c_5])
    exact hret _ _ _ _ 0 () dX3_pin_39 (Or.inl rfl) trivial (by show va_P D vwCl (wM cy m0 m1 m2 m3 m4 m5 m6 m7 m8 m9 m10 m11 m12 m13 m14 m15 m16 m17 (cdPinM x_ v_) td sed mi fr to lim f1 f2 dis pin ag en cm mc su isu fir lgt ofs rn wsn) _; rw [← w_th]; exact hP) hS

set_option maxHeartbeats 4000000 in
set_option maxRecDepth 100000 in
theorem c_X3_issue (l : Launch) (D : va_G) (cy : ClassId × ClassId × ClassId) (m0 m1 m2 m3 m4 m5 m6 m7 m8 m9 m10 m11 m12 m13 m14 m15 m16 m17 : Nat) (th td sed : Int32) (mi : Nat) (fr to lim f1 f2 dis pin ag en cm : Nat → Int32) (mc : Nat) (su isu fir lgt ofs rn wsn : Nat → Int32) (i_ : Int32) (su_ : Int32) (ln_ : Int32) (hm : mi ≤ 8) (hc : mc ≤ 60) (h1 : ∀ i, i < mi → sgP f1 i) (h2 : ∀ i, i < mi → sgP f2 i) (hcd : cdIssM (decide (canM f1 f2 fr to lim dis isu fir mc pin td (ix i_) su_ 16)) mi i_ su_ ln_ = 0) : kI l D cy yX3_issue wsX3_issue (krm 3 73) [.ref m0, .int i_, .int su_, .int ln_] (wM cy m0 m1 m2 m3 m4 m5 m6 m7 m8 m9 m10 m11 m12 m13 m14 m15 m16 m17 th td sed mi fr to lim f1 f2 dis pin ag en cm mc su isu fir lgt ofs rn wsn) (fun (r : Int32) (u : (Nat → Int32)) => r = nI mc) (fun u : (Nat → Int32) => wM cy m0 m1 m2 m3 m4 m5 m6 m7 m8 m9 m10 m11 m12 m13 m14 m15 m16 m17 0 td (seedN sed) mi fr to lim f1 f2 dis pin u en cm (mc + 1) (upd su mc su_) (upd isu mc i_) (upd fir mc td) (upd lgt mc ln_) (upd ofs mc (offD (seedN sed) ln_)) (upd rn mc (-1)) wsn) := by
  refine kI.of (cc := cX3_issue) (maxL := 4) (rt := .int) (Or.inl rfl) (by decide) rfl (Nat.le_of_ble_eq_true rfl) ?_
  intro p e s m args below meth c Q A ls hx hb hml hown hts hE hA hP hD hl hret
  have hS : va_S A s.heap s.heap [] := va_S.rf
  have hl : lv_has ls 4 [(0, .ref m0), (1, .int i_), (2, .int su_), (3, .int ln_)] := hl
  have g_X3 : ∀ w ∈ wsX30, w ∈ wsX3_issue := by decide +kernel
  have f_66 := hts (.fieldLink RX3 66 "CertHerdModel" "thrown" "I") (by decide +kernel)
  refine lv_aload_n hx hb dX3_issue_0 rfl (lv_at hl 0 rfl) ?_
  refine lv_aload_n hx hb dX3_issue_1 rfl (lv_at hl 0 rfl) ?_
  refine lv_iload_n hx hb dX3_issue_2 rfl (lv_at hl 1 rfl) ?_
  refine kcW_i (n := 1) (wc := wM cy m0 m1 m2 m3 m4 m5 m6 m7 m8 m9 m10 m11 m12 m13 m14 m15 m16 m17 th td sed mi fr to lim f1 f2 dis pin ag en cm mc su isu fir lgt ofs rn wsn) (As := [.int i_]) (rest := [.ref m0]) ⟨hx, hb, hml, hown, hts⟩ hE hA hP hD hS (c_X3_isIssuer l D cy m0 m1 m2 m3 m4 m5 m6 m7 m8 m9 m10 m11 m12 m13 m14 m15 m16 m17 th td sed mi fr to lim f1 f2 dis pin ag en cm mc su isu fir lgt ofs rn wsn i_ (by first | assumption | omega)) (fun _ => rfl) (q0 := 0) (ci := 3) rfl rfl gX3_issue_X3_isIssuer rfl rfl rfl ⟨rfl, by decide, by decide, by decide +kernel⟩ ⟨Nat.le_of_ble_eq_true rfl, Nat.le_of_ble_eq_true rfl⟩ rfl hl.1 rfl (Nat.le_of_ble_eq_true rfl) dX3_issue_3 ⟨Nat.zero_le _, Nat.zero_le _⟩ (fun r_1 u H locs e_2 hP hD hS => ?_)
  have hP : va_P D vwCl (wM cy m0 m1 m2 m3 m4 m5 m6 m7 m8 m9 m10 m11 m12 m13 m14 m15 m16 m17 th td sed mi fr to lim f1 f2 dis pin ag en cm mc su isu fir lgt ofs rn wsn) H := hP
  have hD : va_D A (wM cy m0 m1 m2 m3 m4 m5 m6 m7 m8 m9 m10 m11 m12 m13 m14 m15 m16 m17 th td sed mi fr to lim f1 f2 dis pin ag en cm mc su isu fir lgt ofs rn wsn) := hD
  have e_2 : r_1 = bI (badI mi i_ = false) := e_2
  subst e_2
  refine k_ifne (tgt := 13) hx hb dX3_issue_6 (by decide) (fun c_6 => ?_) (fun c_6 => ?_)
  · refine lv_iload_n hx hb dX3_issue_13 rfl (lv_at hl 2 rfl) ?_
    refine lv_iconst (v := 0) hx hb dX3_issue_14 (by decide) ?_
    refine lv_bipush (v := 19) hx hb dX3_issue_15 (by decide) ?_
    refine kcS_i (n := 3) (X := []) (wc := []) (Y := wM cy m0 m1 m2 m3 m4 m5 m6 m7 m8 m9 m10 m11 m12 m13 m14 m15 m16 m17 th td sed mi fr to lim f1 f2 dis pin ag en cm mc su isu fir lgt ofs rn wsn) (As := [.int su_, .int 0, .int 19]) (rest := [.ref m0]) ⟨hx, hb, hml, hown, hts⟩ hE hA hP hD hS (c_X3_in l D cy su_ 0 19) (fun _ => rfl) gX3_issue_X3_in rfl rfl rfl ⟨by decide, by decide, by decide +kernel⟩ ⟨Nat.le_of_ble_eq_true rfl, Nat.le_of_ble_eq_true rfl⟩ rfl hl.1 rfl (Nat.le_of_ble_eq_true rfl) dX3_issue_17 ⟨Nat.zero_le _, Nat.zero_le _⟩ (fun r_3 u H locs e_4 hP hD hS => ?_)
    have hP : va_P D vwCl (wM cy m0 m1 m2 m3 m4 m5 m6 m7 m8 m9 m10 m11 m12 m13 m14 m15 m16 m17 th td sed mi fr to lim f1 f2 dis pin ag en cm mc su isu fir lgt ofs rn wsn) H := hP
    have hD : va_D A (wM cy m0 m1 m2 m3 m4 m5 m6 m7 m8 m9 m10 m11 m12 m13 m14 m15 m16 m17 th td sed mi fr to lim f1 f2 dis pin ag en cm mc su isu fir lgt ofs rn wsn) := hD
    have e_4 : r_3 = bI (inB su_ 0 19 = true) := e_4
    subst e_4
    refine k_ifeq (tgt := 34) hx hb dX3_issue_20 (by decide) (fun c_20 => ?_) (fun c_20 => ?_)
    · refine lv_iconst (v := 2) hx hb dX3_issue_34 (by decide) ?_
      refine lv_goto (tgt := 52) hx hb dX3_issue_35 (by decide) ?_
      refine va_put (D := D) (ci := 3) (v := .int 2) (ty := .int) (C := RX3) (T := TX3) (N := 22) hx hb hts g_X3 tyX3 tyX3_ok nmX3 hown hE.1 hP hD hS 0 rfl rfl 0 (by decide) f_66 (fun _ h9 => h9) rfl (by decide +kernel) rfl rfl (Nat.le_of_ble_eq_true rfl) dX3_issue_52 (fun H locs hP hD hS => ?_)
      have hP : va_P D vwCl (wM cy m0 m1 m2 m3 m4 m5 m6 m7 m8 m9 m10 m11 m12 m13 m14 m15 m16 m17 2 td sed mi fr to lim f1 f2 dis pin ag en cm mc su isu fir lgt ofs rn wsn) H := hP
      have hD : va_D A (wM cy m0 m1 m2 m3 m4 m5 m6 m7 m8 m9 m10 m11 m12 m13 m14 m15 m16 m17 2 td sed mi fr to lim f1 f2 dis pin ag en cm mc su isu fir lgt ofs rn wsn) := hD
      refine lv_aload_n hx hb dX3_issue_55 rfl (lv_at hl 0 rfl) ?_
      refine va_get (D := D) (ci := 3) (v := .int 2) (C := RX3) (T := TX3) (N := 22) hx hb hts g_X3 hown hE.1 hP 0 rfl rfl 0 (by decide) f_66 (fun _ h9 => h9) rfl dX3_issue_56 ?_
      refine lv_if_le (tgt := 66) hx hb dX3_issue_59 (by decide) (fun c_59 => absurd c_59 (by decide)) (fun _ => ?_)
      refine lv_iconst (v := 0) hx hb dX3_issue_62 (by decide) ?_
      refine lv_goto (tgt := 73) hx hb dX3_issue_63 (by decide) ?_
      exact absurd hcd (by simp [cdIssM, c_6, c_20])
    · refine lv_iload_n hx hb dX3_issue_23 rfl (lv_at hl 3 rfl) ?_
      refine lv_iconst (v := 1) hx hb dX3_issue_24 (by decide) ?_
      refine lv_sipush (v := 400) hx hb dX3_issue_25 (by decide) ?_
      refine kcS_i (n := 3) (X := []) (wc := []) (Y := wM cy m0 m1 m2 m3 m4 m5 m6 m7 m8 m9 m10 m11 m12 m13 m14 m15 m16 m17 th td sed mi fr to lim f1 f2 dis pin ag en cm mc su isu fir lgt ofs rn wsn) (As := [.int ln_, .int 1, .int 400]) (rest := [.ref m0]) ⟨hx, hb, hml, hown, hts⟩ hE hA hP hD hS (c_X3_in l D cy ln_ 1 400) (fun _ => rfl) gX3_issue_X3_in rfl rfl rfl ⟨by decide, by decide, by decide +kernel⟩ ⟨Nat.le_of_ble_eq_true rfl, Nat.le_of_ble_eq_true rfl⟩ rfl hl.1 rfl (Nat.le_of_ble_eq_true rfl) dX3_issue_28 ⟨Nat.zero_le _, Nat.zero_le _⟩ (fun r_5 u H locs e_6 hP hD hS => ?_)
      have hP : va_P D vwCl (wM cy m0 m1 m2 m3 m4 m5 m6 m7 m8 m9 m10 m11 m12 m13 m14 m15 m16 m17 th td sed mi fr to lim f1 f2 dis pin ag en cm mc su isu fir lgt ofs rn wsn) H := hP
      have hD : va_D A (wM cy m0 m1 m2 m3 m4 m5 m6 m7 m8 m9 m10 m11 m12 m13 m14 m15 m16 m17 th td sed mi fr to lim f1 f2 dis pin ag en cm mc su isu fir lgt ofs rn wsn) := hD
      have e_6 : r_5 = bI (inB ln_ 1 400 = true) := e_6
      subst e_6
      refine k_ifne (tgt := 38) hx hb dX3_issue_31 (by decide) (fun c_31 => ?_) (fun c_31 => ?_)
      · have hix_i_ := (badI_ok (i := i_) (by assumption) (by omega)).2
        refine lv_aload_n hx hb dX3_issue_38 rfl (lv_at hl 0 rfl) ?_
        refine lv_iload_n hx hb dX3_issue_39 rfl (lv_at hl 1 rfl) ?_
        refine k_top (z := nI (ix i_)) (badI_ok (i := i_) (by assumption) (by omega)).1 ?_
        refine lv_iload_n hx hb dX3_issue_40 rfl (lv_at hl 2 rfl) ?_
        refine kcW_i (n := 2) (wc := wM cy m0 m1 m2 m3 m4 m5 m6 m7 m8 m9 m10 m11 m12 m13 m14 m15 m16 m17 th td sed mi fr to lim f1 f2 dis pin ag en cm mc su isu fir lgt ofs rn wsn) (As := [.int (nI (ix i_)), .int su_]) (rest := [.ref m0]) ⟨hx, hb, hml, hown, hts⟩ hE hA hP hD hS (c_X3_canIssue l D cy m0 m1 m2 m3 m4 m5 m6 m7 m8 m9 m10 m11 m12 m13 m14 m15 m16 m17 th td sed mi fr to lim f1 f2 dis pin ag en cm mc su isu fir lgt ofs rn wsn (ix i_) su_ (by first | assumption | omega) (by first | assumption | omega) (by first | assumption | omega) (by first | assumption | omega) hix_i_) (fun _ => Eq.trans (b := [m0, m1, m2, m3, m4, m5, m6, m7, m8, m9, m10, m11, m12, m13, m14, m15, m16, m17]) rfl rfl) (q0 := 0) (ci := 3) rfl rfl gX3_issue_X3_canIssue rfl rfl rfl ⟨rfl, by decide, by decide, by decide +kernel⟩ ⟨Nat.le_of_ble_eq_true rfl, Nat.le_of_ble_eq_true rfl⟩ rfl hl.1 rfl (Nat.le_of_ble_eq_true rfl) dX3_issue_41 ⟨Nat.zero_le _, Nat.zero_le _⟩ (fun r_7 u H locs e_8 hP hD hS => ?_)
        obtain ⟨ag_9, rfl⟩ : ∃ z, z = u := ⟨_, rfl⟩
        have hP : va_P D vwCl (wM cy m0 m1 m2 m3 m4 m5 m6 m7 m8 m9 m10 m11 m12 m13 m14 m15 m16 m17 th td sed mi fr to lim f1 f2 dis pin ag_9 en cm mc su isu fir lgt ofs rn wsn) H := hP
        have hD : va_D A (wM cy m0 m1 m2 m3 m4 m5 m6 m7 m8 m9 m10 m11 m12 m13 m14 m15 m16 m17 th td sed mi fr to lim f1 f2 dis pin ag_9 en cm mc su isu fir lgt ofs rn wsn) := hD
        have e_8 : r_7 = bI (canM f1 f2 fr to lim dis isu fir mc pin td (ix i_) su_ 16) := e_8
        subst e_8
        refine k_ifeq (tgt := 51) hx hb dX3_issue_44 (by decide) (fun c_44 => ?_) (fun c_44 => ?_)
        · refine lv_iconst (v := 3) hx hb dX3_issue_51 (by decide) ?_
          refine va_put (D := D) (ci := 3) (v := .int 3) (ty := .int) (C := RX3) (T := TX3) (N := 22) hx hb hts g_X3 tyX3 tyX3_ok nmX3 hown hE.1 hP hD hS 0 rfl rfl 0 (by decide) f_66 (fun _ h9 => h9) rfl (by decide +kernel) rfl rfl (Nat.le_of_ble_eq_true rfl) dX3_issue_52 (fun H locs hP hD hS => ?_)
          have hP : va_P D vwCl (wM cy m0 m1 m2 m3 m4 m5 m6 m7 m8 m9 m10 m11 m12 m13 m14 m15 m16 m17 3 td sed mi fr to lim f1 f2 dis pin ag_9 en cm mc su isu fir lgt ofs rn wsn) H := hP
          have hD : va_D A (wM cy m0 m1 m2 m3 m4 m5 m6 m7 m8 m9 m10 m11 m12 m13 m14 m15 m16 m17 3 td sed mi fr to lim f1 f2 dis pin ag_9 en cm mc su isu fir lgt ofs rn wsn) := hD
          refine lv_aload_n hx hb dX3_issue_55 rfl (lv_at hl 0 rfl) ?_
          refine va_get (D := D) (ci := 3) (v := .int 3) (C := RX3) (T := TX3) (N := 22) hx hb hts g_X3 hown hE.1 hP 0 rfl rfl 0 (by decide) f_66 (fun _ h9 => h9) rfl dX3_issue_56 ?_
          refine lv_if_le (tgt := 66) hx hb dX3_issue_59 (by decide) (fun c_59 => absurd c_59 (by decide)) (fun _ => ?_)
          refine lv_iconst (v := 0) hx hb dX3_issue_62 (by decide) ?_
          refine lv_goto (tgt := 73) hx hb dX3_issue_63 (by decide) ?_
          exact absurd hcd (by simp [cdIssM, c_6, c_20, c_31, c_44])
        · refine lv_iconst (v := 0) hx hb dX3_issue_47 (by decide) ?_
          refine lv_goto (tgt := 52) hx hb dX3_issue_48 (by decide) ?_
          refine va_put (D := D) (ci := 3) (v := .int 0) (ty := .int) (C := RX3) (T := TX3) (N := 22) hx hb hts g_X3 tyX3 tyX3_ok nmX3 hown hE.1 hP hD hS 0 rfl rfl 0 (by decide) f_66 (fun _ h9 => h9) rfl (by decide +kernel) rfl rfl (Nat.le_of_ble_eq_true rfl) dX3_issue_52 (fun H locs hP hD hS => ?_)
          have hP : va_P D vwCl (wM cy m0 m1 m2 m3 m4 m5 m6 m7 m8 m9 m10 m11 m12 m13 m14 m15 m16 m17 0 td sed mi fr to lim f1 f2 dis pin ag_9 en cm mc su isu fir lgt ofs rn wsn) H := hP
          have hD : va_D A (wM cy m0 m1 m2 m3 m4 m5 m6 m7 m8 m9 m10 m11 m12 m13 m14 m15 m16 m17 0 td sed mi fr to lim f1 f2 dis pin ag_9 en cm mc su isu fir lgt ofs rn wsn) := hD
          refine lv_aload_n hx hb dX3_issue_55 rfl (lv_at hl 0 rfl) ?_
          refine va_get (D := D) (ci := 3) (v := .int 0) (C := RX3) (T := TX3) (N := 22) hx hb hts g_X3 hown hE.1 hP 0 rfl rfl 0 (by decide) f_66 (fun _ h9 => h9) rfl dX3_issue_56 ?_
          refine lv_if_le (tgt := 66) hx hb dX3_issue_59 (by decide) (fun _ => ?_) (fun c_59 => absurd c_59 (by decide))
          refine lv_aload_n hx hb dX3_issue_66 rfl (lv_at hl 0 rfl) ?_
          refine lv_iload_n hx hb dX3_issue_67 rfl (lv_at hl 1 rfl) ?_
          refine lv_iload_n hx hb dX3_issue_68 rfl (lv_at hl 2 rfl) ?_
          refine lv_iload_n hx hb dX3_issue_69 rfl (lv_at hl 3 rfl) ?_
          refine kcW_i (n := 3) (wc := wM cy m0 m1 m2 m3 m4 m5 m6 m7 m8 m9 m10 m11 m12 m13 m14 m15 m16 m17 0 td sed mi fr to lim f1 f2 dis pin ag_9 en cm mc su isu fir lgt ofs rn wsn) (As := [.int i_, .int su_, .int ln_]) (rest := []) ⟨hx, hb, hml, hown, hts⟩ hE hA hP hD hS (c_X3_makes l D cy m0 m1 m2 m3 m4 m5 m6 m7 m8 m9 m10 m11 m12 m13 m14 m15 m16 m17 0 td sed mi fr to lim f1 f2 dis pin ag_9 en cm mc su isu fir lgt ofs rn wsn i_ su_ ln_ (by have := c_44.1.2.2; omega) (ln_neB c_31)) (fun _ => Eq.trans (b := [m0, m1, m2, m3, m4, m5, m6, m7, m8, m9, m10, m11, m12, m13, m14, m15, m16, m17]) rfl rfl) (q0 := 0) (ci := 3) rfl rfl gX3_issue_X3_makes rfl rfl rfl ⟨rfl, by decide, by decide, by decide +kernel⟩ ⟨Nat.le_of_ble_eq_true rfl, Nat.le_of_ble_eq_true rfl⟩ rfl hl.1 rfl (Nat.le_of_ble_eq_true rfl) dX3_issue_70 ⟨Nat.zero_le _, Nat.zero_le _⟩ (fun r_10 u H locs e_11 hP hD hS => ?_)
          have hP : va_P D vwCl (wM cy m0 m1 m2 m3 m4 m5 m6 m7 m8 m9 m10 m11 m12 m13 m14 m15 m16 m17 0 td (seedN sed) mi fr to lim f1 f2 dis pin ag_9 en cm (mc + 1) (upd su mc su_) (upd isu mc i_) (upd fir mc td) (upd lgt mc ln_) (upd ofs mc (offD (seedN sed) ln_)) (upd rn mc (-1)) wsn) H := hP
          have hD : va_D A (wM cy m0 m1 m2 m3 m4 m5 m6 m7 m8 m9 m10 m11 m12 m13 m14 m15 m16 m17 0 td (seedN sed) mi fr to lim f1 f2 dis pin ag_9 en cm (mc + 1) (upd su mc su_) (upd isu mc i_) (upd fir mc td) (upd lgt mc ln_) (upd ofs mc (offD (seedN sed) ln_)) (upd rn mc (-1)) wsn) := hD
          have e_11 : r_10 = nI mc := e_11
          subst e_11
          exact hret _ _ _ _ (nI mc) ag_9 dX3_issue_73 (Or.inl rfl) rfl hP hS
      · refine lv_iconst (v := 2) hx hb dX3_issue_34 (by decide) ?_
        refine lv_goto (tgt := 52) hx hb dX3_issue_35 (by decide) ?_
        refine va_put (D := D) (ci := 3) (v := .int 2) (ty := .int) (C := RX3) (T := TX3) (N := 22) hx hb hts g_X3 tyX3 tyX3_ok nmX3 hown hE.1 hP hD hS 0 rfl rfl 0 (by decide) f_66 (fun _ h9 => h9) rfl (by decide +kernel) rfl rfl (Nat.le_of_ble_eq_true rfl) dX3_issue_52 (fun H locs hP hD hS => ?_)
        have hP : va_P D vwCl (wM cy m0 m1 m2 m3 m4 m5 m6 m7 m8 m9 m10 m11 m12 m13 m14 m15 m16 m17 2 td sed mi fr to lim f1 f2 dis pin ag en cm mc su isu fir lgt ofs rn wsn) H := hP
        have hD : va_D A (wM cy m0 m1 m2 m3 m4 m5 m6 m7 m8 m9 m10 m11 m12 m13 m14 m15 m16 m17 2 td sed mi fr to lim f1 f2 dis pin ag en cm mc su isu fir lgt ofs rn wsn) := hD
        refine lv_aload_n hx hb dX3_issue_55 rfl (lv_at hl 0 rfl) ?_
        refine va_get (D := D) (ci := 3) (v := .int 2) (C := RX3) (T := TX3) (N := 22) hx hb hts g_X3 hown hE.1 hP 0 rfl rfl 0 (by decide) f_66 (fun _ h9 => h9) rfl dX3_issue_56 ?_
        refine lv_if_le (tgt := 66) hx hb dX3_issue_59 (by decide) (fun c_59 => absurd c_59 (by decide)) (fun _ => ?_)
        refine lv_iconst (v := 0) hx hb dX3_issue_62 (by decide) ?_
        refine lv_goto (tgt := 73) hx hb dX3_issue_63 (by decide) ?_
        exact absurd hcd (by simp [cdIssM, c_6, c_20, c_31])
  · refine lv_iconst (v := 1) hx hb dX3_issue_9 (by decide) ?_
    refine lv_goto (tgt := 52) hx hb dX3_issue_10 (by decide) ?_
    refine va_put (D := D) (ci := 3) (v := .int 1) (ty := .int) (C := RX3) (T := TX3) (N := 22) hx hb hts g_X3 tyX3 tyX3_ok nmX3 hown hE.1 hP hD hS 0 rfl rfl 0 (by decide) f_66 (fun _ h9 => h9) rfl (by decide +kernel) rfl rfl (Nat.le_of_ble_eq_true rfl) dX3_issue_52 (fun H locs hP hD hS => ?_)
    have hP : va_P D vwCl (wM cy m0 m1 m2 m3 m4 m5 m6 m7 m8 m9 m10 m11 m12 m13 m14 m15 m16 m17 1 td sed mi fr to lim f1 f2 dis pin ag en cm mc su isu fir lgt ofs rn wsn) H := hP
    have hD : va_D A (wM cy m0 m1 m2 m3 m4 m5 m6 m7 m8 m9 m10 m11 m12 m13 m14 m15 m16 m17 1 td sed mi fr to lim f1 f2 dis pin ag en cm mc su isu fir lgt ofs rn wsn) := hD
    refine lv_aload_n hx hb dX3_issue_55 rfl (lv_at hl 0 rfl) ?_
    refine va_get (D := D) (ci := 3) (v := .int 1) (C := RX3) (T := TX3) (N := 22) hx hb hts g_X3 hown hE.1 hP 0 rfl rfl 0 (by decide) f_66 (fun _ h9 => h9) rfl dX3_issue_56 ?_
    refine lv_if_le (tgt := 66) hx hb dX3_issue_59 (by decide) (fun c_59 => absurd c_59 (by decide)) (fun _ => ?_)
    refine lv_iconst (v := 0) hx hb dX3_issue_62 (by decide) ?_
    refine lv_goto (tgt := 73) hx hb dX3_issue_63 (by decide) ?_
    exact absurd hcd (by simp [cdIssM, c_6])

set_option maxHeartbeats 4000000 in
set_option maxRecDepth 100000 in
theorem c_X3_issue_f (l : Launch) (D : va_G) (cy : ClassId × ClassId × ClassId) (m0 m1 m2 m3 m4 m5 m6 m7 m8 m9 m10 m11 m12 m13 m14 m15 m16 m17 : Nat) (th td sed : Int32) (mi : Nat) (fr to lim f1 f2 dis pin ag en cm : Nat → Int32) (mc : Nat) (su isu fir lgt ofs rn wsn : Nat → Int32) (i_ : Int32) (su_ : Int32) (ln_ : Int32) (hm : mi ≤ 8) (hc : mc ≤ 60) (h1 : ∀ i, i < mi → sgP f1 i) (h2 : ∀ i, i < mi → sgP f2 i) (hcd : ¬ cdIssM (decide (canM f1 f2 fr to lim dis isu fir mc pin td (ix i_) su_ 16)) mi i_ su_ ln_ = 0) : kI l D cy yX3_issue wsX3_issue (krm 3 73) [.ref m0, .int i_, .int su_, .int ln_] (wM cy m0 m1 m2 m3 m4 m5 m6 m7 m8 m9 m10 m11 m12 m13 m14 m15 m16 m17 th td sed mi fr to lim f1 f2 dis pin ag en cm mc su isu fir lgt ofs rn wsn) (fun (r : Int32) (u : (Nat → Int32)) => True) (fun u : (Nat → Int32) => wM cy m0 m1 m2 m3 m4 m5 m6 m7 m8 m9 m10 m11 m12 m13 m14 m15 m16 m17 (cdIssM (decide (canM f1 f2 fr to lim dis isu fir mc pin td (ix i_) su_ 16)) mi i_ su_ ln_) td sed mi fr to lim f1 f2 dis pin u en cm mc su isu fir lgt ofs rn wsn) := by
  refine kI.of (cc := cX3_issue) (maxL := 4) (rt := .int) (Or.inl rfl) (by decide) rfl (Nat.le_of_ble_eq_true rfl) ?_
  intro p e s m args below meth c Q A ls hx hb hml hown hts hE hA hP hD hl hret
  have hS : va_S A s.heap s.heap [] := va_S.rf
  have hl : lv_has ls 4 [(0, .ref m0), (1, .int i_), (2, .int su_), (3, .int ln_)] := hl
  have g_X3 : ∀ w ∈ wsX30, w ∈ wsX3_issue := by decide +kernel
  have f_66 := hts (.fieldLink RX3 66 "CertHerdModel" "thrown" "I") (by decide +kernel)
  refine lv_aload_n hx hb dX3_issue_0 rfl (lv_at hl 0 rfl) ?_
  refine lv_aload_n hx hb dX3_issue_1 rfl (lv_at hl 0 rfl) ?_
  refine lv_iload_n hx hb dX3_issue_2 rfl (lv_at hl 1 rfl) ?_
  refine kcW_i (n := 1) (wc := wM cy m0 m1 m2 m3 m4 m5 m6 m7 m8 m9 m10 m11 m12 m13 m14 m15 m16 m17 th td sed mi fr to lim f1 f2 dis pin ag en cm mc su isu fir lgt ofs rn wsn) (As := [.int i_]) (rest := [.ref m0]) ⟨hx, hb, hml, hown, hts⟩ hE hA hP hD hS (c_X3_isIssuer l D cy m0 m1 m2 m3 m4 m5 m6 m7 m8 m9 m10 m11 m12 m13 m14 m15 m16 m17 th td sed mi fr to lim f1 f2 dis pin ag en cm mc su isu fir lgt ofs rn wsn i_ (by first | assumption | omega)) (fun _ => rfl) (q0 := 0) (ci := 3) rfl rfl gX3_issue_X3_isIssuer rfl rfl rfl ⟨rfl, by decide, by decide, by decide +kernel⟩ ⟨Nat.le_of_ble_eq_true rfl, Nat.le_of_ble_eq_true rfl⟩ rfl hl.1 rfl (Nat.le_of_ble_eq_true rfl) dX3_issue_3 ⟨Nat.zero_le _, Nat.zero_le _⟩ (fun r_1 u H locs e_2 hP hD hS => ?_)
  have hP : va_P D vwCl (wM cy m0 m1 m2 m3 m4 m5 m6 m7 m8 m9 m10 m11 m12 m13 m14 m15 m16 m17 th td sed mi fr to lim f1 f2 dis pin ag en cm mc su isu fir lgt ofs rn wsn) H := hP
  have hD : va_D A (wM cy m0 m1 m2 m3 m4 m5 m6 m7 m8 m9 m10 m11 m12 m13 m14 m15 m16 m17 th td sed mi fr to lim f1 f2 dis pin ag en cm mc su isu fir lgt ofs rn wsn) := hD
  have e_2 : r_1 = bI (badI mi i_ = false) := e_2
  subst e_2
  refine k_ifne (tgt := 13) hx hb dX3_issue_6 (by decide) (fun c_6 => ?_) (fun c_6 => ?_)
  · refine lv_iload_n hx hb dX3_issue_13 rfl (lv_at hl 2 rfl) ?_
    refine lv_iconst (v := 0) hx hb dX3_issue_14 (by decide) ?_
    refine lv_bipush (v := 19) hx hb dX3_issue_15 (by decide) ?_
    refine kcS_i (n := 3) (X := []) (wc := []) (Y := wM cy m0 m1 m2 m3 m4 m5 m6 m7 m8 m9 m10 m11 m12 m13 m14 m15 m16 m17 th td sed mi fr to lim f1 f2 dis pin ag en cm mc su isu fir lgt ofs rn wsn) (As := [.int su_, .int 0, .int 19]) (rest := [.ref m0]) ⟨hx, hb, hml, hown, hts⟩ hE hA hP hD hS (c_X3_in l D cy su_ 0 19) (fun _ => rfl) gX3_issue_X3_in rfl rfl rfl ⟨by decide, by decide, by decide +kernel⟩ ⟨Nat.le_of_ble_eq_true rfl, Nat.le_of_ble_eq_true rfl⟩ rfl hl.1 rfl (Nat.le_of_ble_eq_true rfl) dX3_issue_17 ⟨Nat.zero_le _, Nat.zero_le _⟩ (fun r_3 u H locs e_4 hP hD hS => ?_)
    have hP : va_P D vwCl (wM cy m0 m1 m2 m3 m4 m5 m6 m7 m8 m9 m10 m11 m12 m13 m14 m15 m16 m17 th td sed mi fr to lim f1 f2 dis pin ag en cm mc su isu fir lgt ofs rn wsn) H := hP
    have hD : va_D A (wM cy m0 m1 m2 m3 m4 m5 m6 m7 m8 m9 m10 m11 m12 m13 m14 m15 m16 m17 th td sed mi fr to lim f1 f2 dis pin ag en cm mc su isu fir lgt ofs rn wsn) := hD
    have e_4 : r_3 = bI (inB su_ 0 19 = true) := e_4
    subst e_4
    refine k_ifeq (tgt := 34) hx hb dX3_issue_20 (by decide) (fun c_20 => ?_) (fun c_20 => ?_)
    · refine lv_iconst (v := 2) hx hb dX3_issue_34 (by decide) ?_
      refine lv_goto (tgt := 52) hx hb dX3_issue_35 (by decide) ?_
      refine va_put (D := D) (ci := 3) (v := .int 2) (ty := .int) (C := RX3) (T := TX3) (N := 22) hx hb hts g_X3 tyX3 tyX3_ok nmX3 hown hE.1 hP hD hS 0 rfl rfl 0 (by decide) f_66 (fun _ h9 => h9) rfl (by decide +kernel) rfl rfl (Nat.le_of_ble_eq_true rfl) dX3_issue_52 (fun H locs hP hD hS => ?_)
      have hP : va_P D vwCl (wM cy m0 m1 m2 m3 m4 m5 m6 m7 m8 m9 m10 m11 m12 m13 m14 m15 m16 m17 2 td sed mi fr to lim f1 f2 dis pin ag en cm mc su isu fir lgt ofs rn wsn) H := hP
      have hD : va_D A (wM cy m0 m1 m2 m3 m4 m5 m6 m7 m8 m9 m10 m11 m12 m13 m14 m15 m16 m17 2 td sed mi fr to lim f1 f2 dis pin ag en cm mc su isu fir lgt ofs rn wsn) := hD
      refine lv_aload_n hx hb dX3_issue_55 rfl (lv_at hl 0 rfl) ?_
      refine va_get (D := D) (ci := 3) (v := .int 2) (C := RX3) (T := TX3) (N := 22) hx hb hts g_X3 hown hE.1 hP 0 rfl rfl 0 (by decide) f_66 (fun _ h9 => h9) rfl dX3_issue_56 ?_
      refine lv_if_le (tgt := 66) hx hb dX3_issue_59 (by decide) (fun c_59 => absurd c_59 (by decide)) (fun _ => ?_)
      refine lv_iconst (v := 0) hx hb dX3_issue_62 (by decide) ?_
      refine lv_goto (tgt := 73) hx hb dX3_issue_63 (by decide) ?_
      have w_th : 2 = cdIssM (decide (canM f1 f2 fr to lim dis isu fir mc pin td (ix i_) su_ 16)) mi i_ su_ ln_ := (by simp [cdIssM, c_6, c_20])
      exact hret _ _ _ _ 0 ag dX3_issue_73 (Or.inl rfl) trivial (by show va_P D vwCl (wM cy m0 m1 m2 m3 m4 m5 m6 m7 m8 m9 m10 m11 m12 m13 m14 m15 m16 m17 (cdIssM (decide (canM f1 f2 fr to lim dis isu fir mc pin td (ix i_) su_ 16)) mi i_ su_ ln_) td sed mi fr to lim f1 f2 dis pin ag en cm mc su isu fir lgt ofs rn wsn) _; rw [← w_th]; exact hP) hS
    · refine lv_iload_n hx hb dX3_issue_23 rfl (lv_at hl 3 rfl) ?_
      refine lv_iconst (v := 1) hx hb dX3_issue_24 (by decide) ?_
      refine lv_sipush (v := 400) hx hb dX3_issue_25 (by decide) ?_
      refine kcS_i (n := 3) (X := []) (wc := []) (Y := wM cy m0 m1 m2 m3 m4 m5 m6 m7 m8 m9 m10 m11 m12 m13 m14 m15 m16 m17 th td sed mi fr to lim f1 f2 dis pin ag en cm mc su isu fir lgt ofs rn wsn) (As := [.int ln_, .int 1, .int 400]) (rest := [.ref m0]) ⟨hx, hb, hml, hown, hts⟩ hE hA hP hD hS (c_X3_in l D cy ln_ 1 400) (fun _ => rfl) gX3_issue_X3_in rfl rfl rfl ⟨by decide, by decide, by decide +kernel⟩ ⟨Nat.le_of_ble_eq_true rfl, Nat.le_of_ble_eq_true rfl⟩ rfl hl.1 rfl (Nat.le_of_ble_eq_true rfl) dX3_issue_28 ⟨Nat.zero_le _, Nat.zero_le _⟩ (fun r_5 u H locs e_6 hP hD hS => ?_)
      have hP : va_P D vwCl (wM cy m0 m1 m2 m3 m4 m5 m6 m7 m8 m9 m10 m11 m12 m13 m14 m15 m16 m17 th td sed mi fr to lim f1 f2 dis pin ag en cm mc su isu fir lgt ofs rn wsn) H := hP
      have hD : va_D A (wM cy m0 m1 m2 m3 m4 m5 m6 m7 m8 m9 m10 m11 m12 m13 m14 m15 m16 m17 th td sed mi fr to lim f1 f2 dis pin ag en cm mc su isu fir lgt ofs rn wsn) := hD
      have e_6 : r_5 = bI (inB ln_ 1 400 = true) := e_6
      subst e_6
      refine k_ifne (tgt := 38) hx hb dX3_issue_31 (by decide) (fun c_31 => ?_) (fun c_31 => ?_)
      · have hix_i_ := (badI_ok (i := i_) (by assumption) (by omega)).2
        refine lv_aload_n hx hb dX3_issue_38 rfl (lv_at hl 0 rfl) ?_
        refine lv_iload_n hx hb dX3_issue_39 rfl (lv_at hl 1 rfl) ?_
        refine k_top (z := nI (ix i_)) (badI_ok (i := i_) (by assumption) (by omega)).1 ?_
        refine lv_iload_n hx hb dX3_issue_40 rfl (lv_at hl 2 rfl) ?_
        refine kcW_i (n := 2) (wc := wM cy m0 m1 m2 m3 m4 m5 m6 m7 m8 m9 m10 m11 m12 m13 m14 m15 m16 m17 th td sed mi fr to lim f1 f2 dis pin ag en cm mc su isu fir lgt ofs rn wsn) (As := [.int (nI (ix i_)), .int su_]) (rest := [.ref m0]) ⟨hx, hb, hml, hown, hts⟩ hE hA hP hD hS (c_X3_canIssue l D cy m0 m1 m2 m3 m4 m5 m6 m7 m8 m9 m10 m11 m12 m13 m14 m15 m16 m17 th td sed mi fr to lim f1 f2 dis pin ag en cm mc su isu fir lgt ofs rn wsn (ix i_) su_ (by first | assumption | omega) (by first | assumption | omega) (by first | assumption | omega) (by first | assumption | omega) hix_i_) (fun _ => Eq.trans (b := [m0, m1, m2, m3, m4, m5, m6, m7, m8, m9, m10, m11, m12, m13, m14, m15, m16, m17]) rfl rfl) (q0 := 0) (ci := 3) rfl rfl gX3_issue_X3_canIssue rfl rfl rfl ⟨rfl, by decide, by decide, by decide +kernel⟩ ⟨Nat.le_of_ble_eq_true rfl, Nat.le_of_ble_eq_true rfl⟩ rfl hl.1 rfl (Nat.le_of_ble_eq_true rfl) dX3_issue_41 ⟨Nat.zero_le _, Nat.zero_le _⟩ (fun r_7 u H locs e_8 hP hD hS => ?_)
        obtain ⟨ag_9, rfl⟩ : ∃ z, z = u := ⟨_, rfl⟩
        have hP : va_P D vwCl (wM cy m0 m1 m2 m3 m4 m5 m6 m7 m8 m9 m10 m11 m12 m13 m14 m15 m16 m17 th td sed mi fr to lim f1 f2 dis pin ag_9 en cm mc su isu fir lgt ofs rn wsn) H := hP
        have hD : va_D A (wM cy m0 m1 m2 m3 m4 m5 m6 m7 m8 m9 m10 m11 m12 m13 m14 m15 m16 m17 th td sed mi fr to lim f1 f2 dis pin ag_9 en cm mc su isu fir lgt ofs rn wsn) := hD
        have e_8 : r_7 = bI (canM f1 f2 fr to lim dis isu fir mc pin td (ix i_) su_ 16) := e_8
        subst e_8
        refine k_ifeq (tgt := 51) hx hb dX3_issue_44 (by decide) (fun c_44 => ?_) (fun c_44 => ?_)
        · refine lv_iconst (v := 3) hx hb dX3_issue_51 (by decide) ?_
          refine va_put (D := D) (ci := 3) (v := .int 3) (ty := .int) (C := RX3) (T := TX3) (N := 22) hx hb hts g_X3 tyX3 tyX3_ok nmX3 hown hE.1 hP hD hS 0 rfl rfl 0 (by decide) f_66 (fun _ h9 => h9) rfl (by decide +kernel) rfl rfl (Nat.le_of_ble_eq_true rfl) dX3_issue_52 (fun H locs hP hD hS => ?_)
          have hP : va_P D vwCl (wM cy m0 m1 m2 m3 m4 m5 m6 m7 m8 m9 m10 m11 m12 m13 m14 m15 m16 m17 3 td sed mi fr to lim f1 f2 dis pin ag_9 en cm mc su isu fir lgt ofs rn wsn) H := hP
          have hD : va_D A (wM cy m0 m1 m2 m3 m4 m5 m6 m7 m8 m9 m10 m11 m12 m13 m14 m15 m16 m17 3 td sed mi fr to lim f1 f2 dis pin ag_9 en cm mc su isu fir lgt ofs rn wsn) := hD
          refine lv_aload_n hx hb dX3_issue_55 rfl (lv_at hl 0 rfl) ?_
          refine va_get (D := D) (ci := 3) (v := .int 3) (C := RX3) (T := TX3) (N := 22) hx hb hts g_X3 hown hE.1 hP 0 rfl rfl 0 (by decide) f_66 (fun _ h9 => h9) rfl dX3_issue_56 ?_
          refine lv_if_le (tgt := 66) hx hb dX3_issue_59 (by decide) (fun c_59 => absurd c_59 (by decide)) (fun _ => ?_)
          refine lv_iconst (v := 0) hx hb dX3_issue_62 (by decide) ?_
          refine lv_goto (tgt := 73) hx hb dX3_issue_63 (by decide) ?_
          have w_th : 3 = cdIssM (decide (canM f1 f2 fr to lim dis isu fir mc pin td (ix i_) su_ 16)) mi i_ su_ ln_ := (by simp [cdIssM, c_6, c_20, c_31, c_44])
          exact hret _ _ _ _ 0 ag_9 dX3_issue_73 (Or.inl rfl) trivial (by show va_P D vwCl (wM cy m0 m1 m2 m3 m4 m5 m6 m7 m8 m9 m10 m11 m12 m13 m14 m15 m16 m17 (cdIssM (decide (canM f1 f2 fr to lim dis isu fir mc pin td (ix i_) su_ 16)) mi i_ su_ ln_) td sed mi fr to lim f1 f2 dis pin ag_9 en cm mc su isu fir lgt ofs rn wsn) _; rw [← w_th]; exact hP) hS
        · refine lv_iconst (v := 0) hx hb dX3_issue_47 (by decide) ?_
          refine lv_goto (tgt := 52) hx hb dX3_issue_48 (by decide) ?_
          refine va_put (D := D) (ci := 3) (v := .int 0) (ty := .int) (C := RX3) (T := TX3) (N := 22) hx hb hts g_X3 tyX3 tyX3_ok nmX3 hown hE.1 hP hD hS 0 rfl rfl 0 (by decide) f_66 (fun _ h9 => h9) rfl (by decide +kernel) rfl rfl (Nat.le_of_ble_eq_true rfl) dX3_issue_52 (fun H locs hP hD hS => ?_)
          have hP : va_P D vwCl (wM cy m0 m1 m2 m3 m4 m5 m6 m7 m8 m9 m10 m11 m12 m13 m14 m15 m16 m17 0 td sed mi fr to lim f1 f2 dis pin ag_9 en cm mc su isu fir lgt ofs rn wsn) H := hP
          have hD : va_D A (wM cy m0 m1 m2 m3 m4 m5 m6 m7 m8 m9 m10 m11 m12 m13 m14 m15 m16 m17 0 td sed mi fr to lim f1 f2 dis pin ag_9 en cm mc su isu fir lgt ofs rn wsn) := hD
          refine lv_aload_n hx hb dX3_issue_55 rfl (lv_at hl 0 rfl) ?_
          refine va_get (D := D) (ci := 3) (v := .int 0) (C := RX3) (T := TX3) (N := 22) hx hb hts g_X3 hown hE.1 hP 0 rfl rfl 0 (by decide) f_66 (fun _ h9 => h9) rfl dX3_issue_56 ?_
          refine lv_if_le (tgt := 66) hx hb dX3_issue_59 (by decide) (fun _ => ?_) (fun c_59 => absurd c_59 (by decide))
          refine lv_aload_n hx hb dX3_issue_66 rfl (lv_at hl 0 rfl) ?_
          refine lv_iload_n hx hb dX3_issue_67 rfl (lv_at hl 1 rfl) ?_
          refine lv_iload_n hx hb dX3_issue_68 rfl (lv_at hl 2 rfl) ?_
          refine lv_iload_n hx hb dX3_issue_69 rfl (lv_at hl 3 rfl) ?_
          refine kcW_i (n := 3) (wc := wM cy m0 m1 m2 m3 m4 m5 m6 m7 m8 m9 m10 m11 m12 m13 m14 m15 m16 m17 0 td sed mi fr to lim f1 f2 dis pin ag_9 en cm mc su isu fir lgt ofs rn wsn) (As := [.int i_, .int su_, .int ln_]) (rest := []) ⟨hx, hb, hml, hown, hts⟩ hE hA hP hD hS (c_X3_makes l D cy m0 m1 m2 m3 m4 m5 m6 m7 m8 m9 m10 m11 m12 m13 m14 m15 m16 m17 0 td sed mi fr to lim f1 f2 dis pin ag_9 en cm mc su isu fir lgt ofs rn wsn i_ su_ ln_ (by have := c_44.1.2.2; omega) (ln_neB c_31)) (fun _ => Eq.trans (b := [m0, m1, m2, m3, m4, m5, m6, m7, m8, m9, m10, m11, m12, m13, m14, m15, m16, m17]) rfl rfl) (q0 := 0) (ci := 3) rfl rfl gX3_issue_X3_makes rfl rfl rfl ⟨rfl, by decide, by decide, by decide +kernel⟩ ⟨Nat.le_of_ble_eq_true rfl, Nat.le_of_ble_eq_true rfl⟩ rfl hl.1 rfl (Nat.le_of_ble_eq_true rfl) dX3_issue_70 ⟨Nat.zero_le _, Nat.zero_le _⟩ (fun r_10 u H locs e_11 hP hD hS => ?_)
          have hP : va_P D vwCl (wM cy m0 m1 m2 m3 m4 m5 m6 m7 m8 m9 m10 m11 m12 m13 m14 m15 m16 m17 0 td (seedN sed) mi fr to lim f1 f2 dis pin ag_9 en cm (mc + 1) (upd su mc su_) (upd isu mc i_) (upd fir mc td) (upd lgt mc ln_) (upd ofs mc (offD (seedN sed) ln_)) (upd rn mc (-1)) wsn) H := hP
          have hD : va_D A (wM cy m0 m1 m2 m3 m4 m5 m6 m7 m8 m9 m10 m11 m12 m13 m14 m15 m16 m17 0 td (seedN sed) mi fr to lim f1 f2 dis pin ag_9 en cm (mc + 1) (upd su mc su_) (upd isu mc i_) (upd fir mc td) (upd lgt mc ln_) (upd ofs mc (offD (seedN sed) ln_)) (upd rn mc (-1)) wsn) := hD
          have e_11 : r_10 = nI mc := e_11
          subst e_11
          exact absurd (by rw [decide_eq_true c_44]; simp [cdIssM, c_6, c_20, c_31, c_44]) hcd
      · refine lv_iconst (v := 2) hx hb dX3_issue_34 (by decide) ?_
        refine lv_goto (tgt := 52) hx hb dX3_issue_35 (by decide) ?_
        refine va_put (D := D) (ci := 3) (v := .int 2) (ty := .int) (C := RX3) (T := TX3) (N := 22) hx hb hts g_X3 tyX3 tyX3_ok nmX3 hown hE.1 hP hD hS 0 rfl rfl 0 (by decide) f_66 (fun _ h9 => h9) rfl (by decide +kernel) rfl rfl (Nat.le_of_ble_eq_true rfl) dX3_issue_52 (fun H locs hP hD hS => ?_)
        have hP : va_P D vwCl (wM cy m0 m1 m2 m3 m4 m5 m6 m7 m8 m9 m10 m11 m12 m13 m14 m15 m16 m17 2 td sed mi fr to lim f1 f2 dis pin ag en cm mc su isu fir lgt ofs rn wsn) H := hP
        have hD : va_D A (wM cy m0 m1 m2 m3 m4 m5 m6 m7 m8 m9 m10 m11 m12 m13 m14 m15 m16 m17 2 td sed mi fr to lim f1 f2 dis pin ag en cm mc su isu fir lgt ofs rn wsn) := hD
        refine lv_aload_n hx hb dX3_issue_55 rfl (lv_at hl 0 rfl) ?_
        refine va_get (D := D) (ci := 3) (v := .int 2) (C := RX3) (T := TX3) (N := 22) hx hb hts g_X3 hown hE.1 hP 0 rfl rfl 0 (by decide) f_66 (fun _ h9 => h9) rfl dX3_issue_56 ?_
        refine lv_if_le (tgt := 66) hx hb dX3_issue_59 (by decide) (fun c_59 => absurd c_59 (by decide)) (fun _ => ?_)
        refine lv_iconst (v := 0) hx hb dX3_issue_62 (by decide) ?_
        refine lv_goto (tgt := 73) hx hb dX3_issue_63 (by decide) ?_
        have w_th : 2 = cdIssM (decide (canM f1 f2 fr to lim dis isu fir mc pin td (ix i_) su_ 16)) mi i_ su_ ln_ := (by simp [cdIssM, c_6, c_20, c_31])
        exact hret _ _ _ _ 0 ag dX3_issue_73 (Or.inl rfl) trivial (by show va_P D vwCl (wM cy m0 m1 m2 m3 m4 m5 m6 m7 m8 m9 m10 m11 m12 m13 m14 m15 m16 m17 (cdIssM (decide (canM f1 f2 fr to lim dis isu fir mc pin td (ix i_) su_ 16)) mi i_ su_ ln_) td sed mi fr to lim f1 f2 dis pin ag en cm mc su isu fir lgt ofs rn wsn) _; rw [← w_th]; exact hP) hS
  · refine lv_iconst (v := 1) hx hb dX3_issue_9 (by decide) ?_
    refine lv_goto (tgt := 52) hx hb dX3_issue_10 (by decide) ?_
    refine va_put (D := D) (ci := 3) (v := .int 1) (ty := .int) (C := RX3) (T := TX3) (N := 22) hx hb hts g_X3 tyX3 tyX3_ok nmX3 hown hE.1 hP hD hS 0 rfl rfl 0 (by decide) f_66 (fun _ h9 => h9) rfl (by decide +kernel) rfl rfl (Nat.le_of_ble_eq_true rfl) dX3_issue_52 (fun H locs hP hD hS => ?_)
    have hP : va_P D vwCl (wM cy m0 m1 m2 m3 m4 m5 m6 m7 m8 m9 m10 m11 m12 m13 m14 m15 m16 m17 1 td sed mi fr to lim f1 f2 dis pin ag en cm mc su isu fir lgt ofs rn wsn) H := hP
    have hD : va_D A (wM cy m0 m1 m2 m3 m4 m5 m6 m7 m8 m9 m10 m11 m12 m13 m14 m15 m16 m17 1 td sed mi fr to lim f1 f2 dis pin ag en cm mc su isu fir lgt ofs rn wsn) := hD
    refine lv_aload_n hx hb dX3_issue_55 rfl (lv_at hl 0 rfl) ?_
    refine va_get (D := D) (ci := 3) (v := .int 1) (C := RX3) (T := TX3) (N := 22) hx hb hts g_X3 hown hE.1 hP 0 rfl rfl 0 (by decide) f_66 (fun _ h9 => h9) rfl dX3_issue_56 ?_
    refine lv_if_le (tgt := 66) hx hb dX3_issue_59 (by decide) (fun c_59 => absurd c_59 (by decide)) (fun _ => ?_)
    refine lv_iconst (v := 0) hx hb dX3_issue_62 (by decide) ?_
    refine lv_goto (tgt := 73) hx hb dX3_issue_63 (by decide) ?_
    have w_th : 1 = cdIssM (decide (canM f1 f2 fr to lim dis isu fir mc pin td (ix i_) su_ 16)) mi i_ su_ ln_ := (by simp [cdIssM, c_6])
    exact hret _ _ _ _ 0 ag dX3_issue_73 (Or.inl rfl) trivial (by show va_P D vwCl (wM cy m0 m1 m2 m3 m4 m5 m6 m7 m8 m9 m10 m11 m12 m13 m14 m15 m16 m17 (cdIssM (decide (canM f1 f2 fr to lim dis isu fir mc pin td (ix i_) su_ 16)) mi i_ su_ ln_) td sed mi fr to lim f1 f2 dis pin ag en cm mc su isu fir lgt ofs rn wsn) _; rw [← w_th]; exact hP) hS

set_option maxHeartbeats 4000000 in
set_option maxRecDepth 100000 in
theorem c_X3_issuerOf (l : Launch) (D : va_G) (cy : ClassId × ClassId × ClassId) (m0 m1 m2 m3 m4 m5 m6 m7 m8 m9 m10 m11 m12 m13 m14 m15 m16 m17 : Nat) (th td sed : Int32) (mi : Nat) (fr to lim f1 f2 dis pin ag en cm : Nat → Int32) (mc : Nat) (su isu fir lgt ofs rn wsn : Nat → Int32) (i_ : Int32) (hc : mc ≤ 60) (hcd : cdOne mc i_ = 0) : kI l D cy yX3_issuerOf wsX3_issuerOf (krm 2 43) [.ref m0, .int i_] (wM cy m0 m1 m2 m3 m4 m5 m6 m7 m8 m9 m10 m11 m12 m13 m14 m15 m16 m17 th td sed mi fr to lim f1 f2 dis pin ag en cm mc su isu fir lgt ofs rn wsn) (fun (r : Int32) (u : Unit) => r = isu (ix i_)) (fun _ : Unit => wM cy m0 m1 m2 m3 m4 m5 m6 m7 m8 m9 m10 m11 m12 m13 m14 m15 m16 m17 0 td sed mi fr to lim f1 f2 dis pin ag en cm mc su isu fir lgt ofs rn wsn) := by
  refine kI.of (cc := cX3_issuerOf) (maxL := 2) (rt := .int) (Or.inl rfl) (by decide) rfl (Nat.le_of_ble_eq_true rfl) ?_
  intro p e s m args below meth c Q A ls hx hb hml hown hts hE hA hP hD hl hret
  have hS : va_S A s.heap s.heap [] := va_S.rf
  have hl : lv_has ls 2 [(0, .ref m0), (1, .int i_)] := hl
  have g_X3 : ∀ w ∈ wsX30, w ∈ wsX3_issuerOf := by decide +kernel
  have f_66 := hts (.fieldLink RX3 66 "CertHerdModel" "thrown" "I") (by decide +kernel)
  have f_48 := hts (.fieldLink RX3 48 "CertHerdModel" "issuers" "[I") (by decide +kernel)
  refine lv_aload_n hx hb dX3_issuerOf_0 rfl (lv_at hl 0 rfl) ?_
  refine lv_iconst (v := 0) hx hb dX3_issuerOf_1 (by decide) ?_
  refine va_put (D := D) (ci := 3) (v := .int 0) (ty := .int) (C := RX3) (T := TX3) (N := 22) hx hb hts g_X3 tyX3 tyX3_ok nmX3 hown hE.1 hP hD hS 0 rfl rfl 0 (by decide) f_66 (fun _ h9 => h9) rfl (by decide +kernel) rfl rfl (Nat.le_of_ble_eq_true rfl) dX3_issuerOf_2 (fun H locs hP hD hS => ?_)
  have hP : va_P D vwCl (wM cy m0 m1 m2 m3 m4 m5 m6 m7 m8 m9 m10 m11 m12 m13 m14 m15 m16 m17 0 td sed mi fr to lim f1 f2 dis pin ag en cm mc su isu fir lgt ofs rn wsn) H := hP
  have hD : va_D A (wM cy m0 m1 m2 m3 m4 m5 m6 m7 m8 m9 m10 m11 m12 m13 m14 m15 m16 m17 0 td sed mi fr to lim f1 f2 dis pin ag en cm mc su isu fir lgt ofs rn wsn) := hD
  refine lv_aload_n hx hb dX3_issuerOf_5 rfl (lv_at hl 0 rfl) ?_
  refine lv_iload_n hx hb dX3_issuerOf_6 rfl (lv_at hl 1 rfl) ?_
  refine kcW_i (n := 1) (wc := wM cy m0 m1 m2 m3 m4 m5 m6 m7 m8 m9 m10 m11 m12 m13 m14 m15 m16 m17 0 td sed mi fr to lim f1 f2 dis pin ag en cm mc su isu fir lgt ofs rn wsn) (As := [.int i_]) (rest := []) ⟨hx, hb, hml, hown, hts⟩ hE hA hP hD hS (c_X3_isCert l D cy m0 m1 m2 m3 m4 m5 m6 m7 m8 m9 m10 m11 m12 m13 m14 m15 m16 m17 0 td sed mi fr to lim f1 f2 dis pin ag en cm mc su isu fir lgt ofs rn wsn i_ (by first | assumption | omega)) (fun _ => rfl) (q0 := 0) (ci := 3) rfl rfl gX3_issuerOf_X3_isCert rfl rfl rfl ⟨rfl, by decide, by decide, by decide +kernel⟩ ⟨Nat.le_of_ble_eq_true rfl, Nat.le_of_ble_eq_true rfl⟩ rfl hl.1 rfl (Nat.le_of_ble_eq_true rfl) dX3_issuerOf_7 ⟨Nat.zero_le _, Nat.zero_le _⟩ (fun r_1 u H locs e_2 hP hD hS => ?_)
  have hP : va_P D vwCl (wM cy m0 m1 m2 m3 m4 m5 m6 m7 m8 m9 m10 m11 m12 m13 m14 m15 m16 m17 0 td sed mi fr to lim f1 f2 dis pin ag en cm mc su isu fir lgt ofs rn wsn) H := hP
  have hD : va_D A (wM cy m0 m1 m2 m3 m4 m5 m6 m7 m8 m9 m10 m11 m12 m13 m14 m15 m16 m17 0 td sed mi fr to lim f1 f2 dis pin ag en cm mc su isu fir lgt ofs rn wsn) := hD
  have e_2 : r_1 = bI (badI mc i_ = false) := e_2
  subst e_2
  refine k_ifeq (tgt := 22) hx hb dX3_issuerOf_10 (by decide) (fun c_10 => ?_) (fun c_10 => ?_)
  · refine lv_aload_n hx hb dX3_issuerOf_22 rfl (lv_at hl 0 rfl) ?_
    refine lv_iconst (v := 1) hx hb dX3_issuerOf_23 (by decide) ?_
    refine kcW_i (n := 1) (wc := wM cy m0 m1 m2 m3 m4 m5 m6 m7 m8 m9 m10 m11 m12 m13 m14 m15 m16 m17 0 td sed mi fr to lim f1 f2 dis pin ag en cm mc su isu fir lgt ofs rn wsn) (As := [.int 1]) (rest := []) ⟨hx, hb, hml, hown, hts⟩ hE hA hP hD hS (c_X3_fails l D cy m0 m1 m2 m3 m4 m5 m6 m7 m8 m9 m10 m11 m12 m13 m14 m15 m16 m17 0 td sed mi fr to lim f1 f2 dis pin ag en cm mc su isu fir lgt ofs rn wsn 1) (fun _ => Eq.trans (b := [m0, m1, m2, m3, m4, m5, m6, m7, m8, m9, m10, m11, m12, m13, m14, m15, m16, m17]) rfl rfl) (q0 := 0) (ci := 3) rfl rfl gX3_issuerOf_X3_fails rfl rfl rfl ⟨rfl, by decide, by decide, by decide +kernel⟩ ⟨Nat.le_of_ble_eq_true rfl, Nat.le_of_ble_eq_true rfl⟩ rfl hl.1 rfl (Nat.le_of_ble_eq_true rfl) dX3_issuerOf_24 ⟨Nat.zero_le _, Nat.zero_le _⟩ (fun r_3 u H locs e_4 hP hD hS => ?_)
    have hP : va_P D vwCl (wM cy m0 m1 m2 m3 m4 m5 m6 m7 m8 m9 m10 m11 m12 m13 m14 m15 m16 m17 1 td sed mi fr to lim f1 f2 dis pin ag en cm mc su isu fir lgt ofs rn wsn) H := hP
    have hD : va_D A (wM cy m0 m1 m2 m3 m4 m5 m6 m7 m8 m9 m10 m11 m12 m13 m14 m15 m16 m17 1 td sed mi fr to lim f1 f2 dis pin ag en cm mc su isu fir lgt ofs rn wsn) := hD
    have e_4 : r_3 = 0 := e_4
    subst e_4
    exact absurd hcd (by simp [cdOne, c_10])
  · have hix_i_ := (badI_ok (i := i_) (by assumption) (by omega)).2
    refine lv_aload_n hx hb dX3_issuerOf_13 rfl (lv_at hl 0 rfl) ?_
    refine va_get (D := D) (ci := 3) (v := .ref m12) (C := RX3) (T := TX3) (N := 22) hx hb hts g_X3 hown hE.1 hP 0 rfl rfl 16 (by decide) f_48 (fun _ h9 => h9) rfl dX3_issuerOf_14 ?_
    refine lv_iload_n hx hb dX3_issuerOf_17 rfl (lv_at hl 1 rfl) ?_
    refine k_top (z := nI (ix i_)) (badI_ok (i := i_) (by assumption) (by omega)).1 ?_
    refine k_ild hx hb hE.1 hP 12 0 rfl rfl (j := (ix i_)) (by omega) (by decide) dX3_issuerOf_18 ?_
    refine lv_goto (tgt := 27) hx hb dX3_issuerOf_19 (by decide) ?_
    exact hret _ _ _ _ (isu (ix i_)) () dX3_issuerOf_27 (Or.inl rfl) rfl hP hS

set_option maxHeartbeats 4000000 in
set_option maxRecDepth 100000 in
theorem c_X3_issuerOf_f (l : Launch) (D : va_G) (cy : ClassId × ClassId × ClassId) (m0 m1 m2 m3 m4 m5 m6 m7 m8 m9 m10 m11 m12 m13 m14 m15 m16 m17 : Nat) (th td sed : Int32) (mi : Nat) (fr to lim f1 f2 dis pin ag en cm : Nat → Int32) (mc : Nat) (su isu fir lgt ofs rn wsn : Nat → Int32) (i_ : Int32) (hc : mc ≤ 60) (hcd : ¬ cdOne mc i_ = 0) : kI l D cy yX3_issuerOf wsX3_issuerOf (krm 2 43) [.ref m0, .int i_] (wM cy m0 m1 m2 m3 m4 m5 m6 m7 m8 m9 m10 m11 m12 m13 m14 m15 m16 m17 th td sed mi fr to lim f1 f2 dis pin ag en cm mc su isu fir lgt ofs rn wsn) (fun (r : Int32) (u : Unit) => True) (fun _ : Unit => wM cy m0 m1 m2 m3 m4 m5 m6 m7 m8 m9 m10 m11 m12 m13 m14 m15 m16 m17 (cdOne mc i_) td sed mi fr to lim f1 f2 dis pin ag en cm mc su isu fir lgt ofs rn wsn) := by
  refine kI.of (cc := cX3_issuerOf) (maxL := 2) (rt := .int) (Or.inl rfl) (by decide) rfl (Nat.le_of_ble_eq_true rfl) ?_
  intro p e s m args below meth c Q A ls hx hb hml hown hts hE hA hP hD hl hret
  have hS : va_S A s.heap s.heap [] := va_S.rf
  have hl : lv_has ls 2 [(0, .ref m0), (1, .int i_)] := hl
  have g_X3 : ∀ w ∈ wsX30, w ∈ wsX3_issuerOf := by decide +kernel
  have f_66 := hts (.fieldLink RX3 66 "CertHerdModel" "thrown" "I") (by decide +kernel)
  have f_48 := hts (.fieldLink RX3 48 "CertHerdModel" "issuers" "[I") (by decide +kernel)
  refine lv_aload_n hx hb dX3_issuerOf_0 rfl (lv_at hl 0 rfl) ?_
  refine lv_iconst (v := 0) hx hb dX3_issuerOf_1 (by decide) ?_
  refine va_put (D := D) (ci := 3) (v := .int 0) (ty := .int) (C := RX3) (T := TX3) (N := 22) hx hb hts g_X3 tyX3 tyX3_ok nmX3 hown hE.1 hP hD hS 0 rfl rfl 0 (by decide) f_66 (fun _ h9 => h9) rfl (by decide +kernel) rfl rfl (Nat.le_of_ble_eq_true rfl) dX3_issuerOf_2 (fun H locs hP hD hS => ?_)
  have hP : va_P D vwCl (wM cy m0 m1 m2 m3 m4 m5 m6 m7 m8 m9 m10 m11 m12 m13 m14 m15 m16 m17 0 td sed mi fr to lim f1 f2 dis pin ag en cm mc su isu fir lgt ofs rn wsn) H := hP
  have hD : va_D A (wM cy m0 m1 m2 m3 m4 m5 m6 m7 m8 m9 m10 m11 m12 m13 m14 m15 m16 m17 0 td sed mi fr to lim f1 f2 dis pin ag en cm mc su isu fir lgt ofs rn wsn) := hD
  refine lv_aload_n hx hb dX3_issuerOf_5 rfl (lv_at hl 0 rfl) ?_
  refine lv_iload_n hx hb dX3_issuerOf_6 rfl (lv_at hl 1 rfl) ?_
  refine kcW_i (n := 1) (wc := wM cy m0 m1 m2 m3 m4 m5 m6 m7 m8 m9 m10 m11 m12 m13 m14 m15 m16 m17 0 td sed mi fr to lim f1 f2 dis pin ag en cm mc su isu fir lgt ofs rn wsn) (As := [.int i_]) (rest := []) ⟨hx, hb, hml, hown, hts⟩ hE hA hP hD hS (c_X3_isCert l D cy m0 m1 m2 m3 m4 m5 m6 m7 m8 m9 m10 m11 m12 m13 m14 m15 m16 m17 0 td sed mi fr to lim f1 f2 dis pin ag en cm mc su isu fir lgt ofs rn wsn i_ (by first | assumption | omega)) (fun _ => rfl) (q0 := 0) (ci := 3) rfl rfl gX3_issuerOf_X3_isCert rfl rfl rfl ⟨rfl, by decide, by decide, by decide +kernel⟩ ⟨Nat.le_of_ble_eq_true rfl, Nat.le_of_ble_eq_true rfl⟩ rfl hl.1 rfl (Nat.le_of_ble_eq_true rfl) dX3_issuerOf_7 ⟨Nat.zero_le _, Nat.zero_le _⟩ (fun r_1 u H locs e_2 hP hD hS => ?_)
  have hP : va_P D vwCl (wM cy m0 m1 m2 m3 m4 m5 m6 m7 m8 m9 m10 m11 m12 m13 m14 m15 m16 m17 0 td sed mi fr to lim f1 f2 dis pin ag en cm mc su isu fir lgt ofs rn wsn) H := hP
  have hD : va_D A (wM cy m0 m1 m2 m3 m4 m5 m6 m7 m8 m9 m10 m11 m12 m13 m14 m15 m16 m17 0 td sed mi fr to lim f1 f2 dis pin ag en cm mc su isu fir lgt ofs rn wsn) := hD
  have e_2 : r_1 = bI (badI mc i_ = false) := e_2
  subst e_2
  refine k_ifeq (tgt := 22) hx hb dX3_issuerOf_10 (by decide) (fun c_10 => ?_) (fun c_10 => ?_)
  · refine lv_aload_n hx hb dX3_issuerOf_22 rfl (lv_at hl 0 rfl) ?_
    refine lv_iconst (v := 1) hx hb dX3_issuerOf_23 (by decide) ?_
    refine kcW_i (n := 1) (wc := wM cy m0 m1 m2 m3 m4 m5 m6 m7 m8 m9 m10 m11 m12 m13 m14 m15 m16 m17 0 td sed mi fr to lim f1 f2 dis pin ag en cm mc su isu fir lgt ofs rn wsn) (As := [.int 1]) (rest := []) ⟨hx, hb, hml, hown, hts⟩ hE hA hP hD hS (c_X3_fails l D cy m0 m1 m2 m3 m4 m5 m6 m7 m8 m9 m10 m11 m12 m13 m14 m15 m16 m17 0 td sed mi fr to lim f1 f2 dis pin ag en cm mc su isu fir lgt ofs rn wsn 1) (fun _ => Eq.trans (b := [m0, m1, m2, m3, m4, m5, m6, m7, m8, m9, m10, m11, m12, m13, m14, m15, m16, m17]) rfl rfl) (q0 := 0) (ci := 3) rfl rfl gX3_issuerOf_X3_fails rfl rfl rfl ⟨rfl, by decide, by decide, by decide +kernel⟩ ⟨Nat.le_of_ble_eq_true rfl, Nat.le_of_ble_eq_true rfl⟩ rfl hl.1 rfl (Nat.le_of_ble_eq_true rfl) dX3_issuerOf_24 ⟨Nat.zero_le _, Nat.zero_le _⟩ (fun r_3 u H locs e_4 hP hD hS => ?_)
    have hP : va_P D vwCl (wM cy m0 m1 m2 m3 m4 m5 m6 m7 m8 m9 m10 m11 m12 m13 m14 m15 m16 m17 1 td sed mi fr to lim f1 f2 dis pin ag en cm mc su isu fir lgt ofs rn wsn) H := hP
    have hD : va_D A (wM cy m0 m1 m2 m3 m4 m5 m6 m7 m8 m9 m10 m11 m12 m13 m14 m15 m16 m17 1 td sed mi fr to lim f1 f2 dis pin ag en cm mc su isu fir lgt ofs rn wsn) := hD
    have e_4 : r_3 = 0 := e_4
    subst e_4
    have w_th : 1 = cdOne mc i_ := (by simp [cdOne, c_10])
    exact hret _ _ _ _ 0 () dX3_issuerOf_27 (Or.inl rfl) trivial (by show va_P D vwCl (wM cy m0 m1 m2 m3 m4 m5 m6 m7 m8 m9 m10 m11 m12 m13 m14 m15 m16 m17 (cdOne mc i_) td sed mi fr to lim f1 f2 dis pin ag en cm mc su isu fir lgt ofs rn wsn) _; rw [← w_th]; exact hP) hS
  · have hix_i_ := (badI_ok (i := i_) (by assumption) (by omega)).2
    refine lv_aload_n hx hb dX3_issuerOf_13 rfl (lv_at hl 0 rfl) ?_
    refine va_get (D := D) (ci := 3) (v := .ref m12) (C := RX3) (T := TX3) (N := 22) hx hb hts g_X3 hown hE.1 hP 0 rfl rfl 16 (by decide) f_48 (fun _ h9 => h9) rfl dX3_issuerOf_14 ?_
    refine lv_iload_n hx hb dX3_issuerOf_17 rfl (lv_at hl 1 rfl) ?_
    refine k_top (z := nI (ix i_)) (badI_ok (i := i_) (by assumption) (by omega)).1 ?_
    refine k_ild hx hb hE.1 hP 12 0 rfl rfl (j := (ix i_)) (by omega) (by decide) dX3_issuerOf_18 ?_
    refine lv_goto (tgt := 27) hx hb dX3_issuerOf_19 (by decide) ?_
    exact absurd (by simp [cdOne, c_10]) hcd

set_option maxHeartbeats 4000000 in
set_option maxRecDepth 100000 in
theorem c_X3_renewal (l : Launch) (D : va_G) (cy : ClassId × ClassId × ClassId) (m0 m1 m2 m3 m4 m5 m6 m7 m8 m9 m10 m11 m12 m13 m14 m15 m16 m17 : Nat) (th td sed : Int32) (mi : Nat) (fr to lim f1 f2 dis pin ag en cm : Nat → Int32) (mc : Nat) (su isu fir lgt ofs rn wsn : Nat → Int32) (i_ : Int32) (hc : mc ≤ 60) (hcd : cdOne mc i_ = 0) : kI l D cy yX3_renewal wsX3_renewal (krm 2 43) [.ref m0, .int i_] (wM cy m0 m1 m2 m3 m4 m5 m6 m7 m8 m9 m10 m11 m12 m13 m14 m15 m16 m17 th td sed mi fr to lim f1 f2 dis pin ag en cm mc su isu fir lgt ofs rn wsn) (fun (r : Int32) (u : Unit) => r = rn (ix i_)) (fun _ : Unit => wM cy m0 m1 m2 m3 m4 m5 m6 m7 m8 m9 m10 m11 m12 m13 m14 m15 m16 m17 0 td sed mi fr to lim f1 f2 dis pin ag en cm mc su isu fir lgt ofs rn wsn) := by
  refine kI.of (cc := cX3_renewal) (maxL := 2) (rt := .int) (Or.inl rfl) (by decide) rfl (Nat.le_of_ble_eq_true rfl) ?_
  intro p e s m args below meth c Q A ls hx hb hml hown hts hE hA hP hD hl hret
  have hS : va_S A s.heap s.heap [] := va_S.rf
  have hl : lv_has ls 2 [(0, .ref m0), (1, .int i_)] := hl
  have g_X3 : ∀ w ∈ wsX30, w ∈ wsX3_renewal := by decide +kernel
  have f_66 := hts (.fieldLink RX3 66 "CertHerdModel" "thrown" "I") (by decide +kernel)
  have f_60 := hts (.fieldLink RX3 60 "CertHerdModel" "renewals" "[I") (by decide +kernel)
  refine lv_aload_n hx hb dX3_renewal_0 rfl (lv_at hl 0 rfl) ?_
  refine lv_iconst (v := 0) hx hb dX3_renewal_1 (by decide) ?_
  refine va_put (D := D) (ci := 3) (v := .int 0) (ty := .int) (C := RX3) (T := TX3) (N := 22) hx hb hts g_X3 tyX3 tyX3_ok nmX3 hown hE.1 hP hD hS 0 rfl rfl 0 (by decide) f_66 (fun _ h9 => h9) rfl (by decide +kernel) rfl rfl (Nat.le_of_ble_eq_true rfl) dX3_renewal_2 (fun H locs hP hD hS => ?_)
  have hP : va_P D vwCl (wM cy m0 m1 m2 m3 m4 m5 m6 m7 m8 m9 m10 m11 m12 m13 m14 m15 m16 m17 0 td sed mi fr to lim f1 f2 dis pin ag en cm mc su isu fir lgt ofs rn wsn) H := hP
  have hD : va_D A (wM cy m0 m1 m2 m3 m4 m5 m6 m7 m8 m9 m10 m11 m12 m13 m14 m15 m16 m17 0 td sed mi fr to lim f1 f2 dis pin ag en cm mc su isu fir lgt ofs rn wsn) := hD
  refine lv_aload_n hx hb dX3_renewal_5 rfl (lv_at hl 0 rfl) ?_
  refine lv_iload_n hx hb dX3_renewal_6 rfl (lv_at hl 1 rfl) ?_
  refine kcW_i (n := 1) (wc := wM cy m0 m1 m2 m3 m4 m5 m6 m7 m8 m9 m10 m11 m12 m13 m14 m15 m16 m17 0 td sed mi fr to lim f1 f2 dis pin ag en cm mc su isu fir lgt ofs rn wsn) (As := [.int i_]) (rest := []) ⟨hx, hb, hml, hown, hts⟩ hE hA hP hD hS (c_X3_isCert l D cy m0 m1 m2 m3 m4 m5 m6 m7 m8 m9 m10 m11 m12 m13 m14 m15 m16 m17 0 td sed mi fr to lim f1 f2 dis pin ag en cm mc su isu fir lgt ofs rn wsn i_ (by first | assumption | omega)) (fun _ => rfl) (q0 := 0) (ci := 3) rfl rfl gX3_renewal_X3_isCert rfl rfl rfl ⟨rfl, by decide, by decide, by decide +kernel⟩ ⟨Nat.le_of_ble_eq_true rfl, Nat.le_of_ble_eq_true rfl⟩ rfl hl.1 rfl (Nat.le_of_ble_eq_true rfl) dX3_renewal_7 ⟨Nat.zero_le _, Nat.zero_le _⟩ (fun r_1 u H locs e_2 hP hD hS => ?_)
  have hP : va_P D vwCl (wM cy m0 m1 m2 m3 m4 m5 m6 m7 m8 m9 m10 m11 m12 m13 m14 m15 m16 m17 0 td sed mi fr to lim f1 f2 dis pin ag en cm mc su isu fir lgt ofs rn wsn) H := hP
  have hD : va_D A (wM cy m0 m1 m2 m3 m4 m5 m6 m7 m8 m9 m10 m11 m12 m13 m14 m15 m16 m17 0 td sed mi fr to lim f1 f2 dis pin ag en cm mc su isu fir lgt ofs rn wsn) := hD
  have e_2 : r_1 = bI (badI mc i_ = false) := e_2
  subst e_2
  refine k_ifeq (tgt := 22) hx hb dX3_renewal_10 (by decide) (fun c_10 => ?_) (fun c_10 => ?_)
  · refine lv_aload_n hx hb dX3_renewal_22 rfl (lv_at hl 0 rfl) ?_
    refine lv_iconst (v := 1) hx hb dX3_renewal_23 (by decide) ?_
    refine kcW_i (n := 1) (wc := wM cy m0 m1 m2 m3 m4 m5 m6 m7 m8 m9 m10 m11 m12 m13 m14 m15 m16 m17 0 td sed mi fr to lim f1 f2 dis pin ag en cm mc su isu fir lgt ofs rn wsn) (As := [.int 1]) (rest := []) ⟨hx, hb, hml, hown, hts⟩ hE hA hP hD hS (c_X3_fails l D cy m0 m1 m2 m3 m4 m5 m6 m7 m8 m9 m10 m11 m12 m13 m14 m15 m16 m17 0 td sed mi fr to lim f1 f2 dis pin ag en cm mc su isu fir lgt ofs rn wsn 1) (fun _ => Eq.trans (b := [m0, m1, m2, m3, m4, m5, m6, m7, m8, m9, m10, m11, m12, m13, m14, m15, m16, m17]) rfl rfl) (q0 := 0) (ci := 3) rfl rfl gX3_renewal_X3_fails rfl rfl rfl ⟨rfl, by decide, by decide, by decide +kernel⟩ ⟨Nat.le_of_ble_eq_true rfl, Nat.le_of_ble_eq_true rfl⟩ rfl hl.1 rfl (Nat.le_of_ble_eq_true rfl) dX3_renewal_24 ⟨Nat.zero_le _, Nat.zero_le _⟩ (fun r_3 u H locs e_4 hP hD hS => ?_)
    have hP : va_P D vwCl (wM cy m0 m1 m2 m3 m4 m5 m6 m7 m8 m9 m10 m11 m12 m13 m14 m15 m16 m17 1 td sed mi fr to lim f1 f2 dis pin ag en cm mc su isu fir lgt ofs rn wsn) H := hP
    have hD : va_D A (wM cy m0 m1 m2 m3 m4 m5 m6 m7 m8 m9 m10 m11 m12 m13 m14 m15 m16 m17 1 td sed mi fr to lim f1 f2 dis pin ag en cm mc su isu fir lgt ofs rn wsn) := hD
    have e_4 : r_3 = 0 := e_4
    subst e_4
    exact absurd hcd (by simp [cdOne, c_10])
  · have hix_i_ := (badI_ok (i := i_) (by assumption) (by omega)).2
    refine lv_aload_n hx hb dX3_renewal_13 rfl (lv_at hl 0 rfl) ?_
    refine va_get (D := D) (ci := 3) (v := .ref m16) (C := RX3) (T := TX3) (N := 22) hx hb hts g_X3 hown hE.1 hP 0 rfl rfl 20 (by decide) f_60 (fun _ h9 => h9) rfl dX3_renewal_14 ?_
    refine lv_iload_n hx hb dX3_renewal_17 rfl (lv_at hl 1 rfl) ?_
    refine k_top (z := nI (ix i_)) (badI_ok (i := i_) (by assumption) (by omega)).1 ?_
    refine k_ild hx hb hE.1 hP 16 0 rfl rfl (j := (ix i_)) (by omega) (by decide) dX3_renewal_18 ?_
    refine lv_goto (tgt := 27) hx hb dX3_renewal_19 (by decide) ?_
    exact hret _ _ _ _ (rn (ix i_)) () dX3_renewal_27 (Or.inl rfl) rfl hP hS

set_option maxHeartbeats 4000000 in
set_option maxRecDepth 100000 in
theorem c_X3_renewal_f (l : Launch) (D : va_G) (cy : ClassId × ClassId × ClassId) (m0 m1 m2 m3 m4 m5 m6 m7 m8 m9 m10 m11 m12 m13 m14 m15 m16 m17 : Nat) (th td sed : Int32) (mi : Nat) (fr to lim f1 f2 dis pin ag en cm : Nat → Int32) (mc : Nat) (su isu fir lgt ofs rn wsn : Nat → Int32) (i_ : Int32) (hc : mc ≤ 60) (hcd : ¬ cdOne mc i_ = 0) : kI l D cy yX3_renewal wsX3_renewal (krm 2 43) [.ref m0, .int i_] (wM cy m0 m1 m2 m3 m4 m5 m6 m7 m8 m9 m10 m11 m12 m13 m14 m15 m16 m17 th td sed mi fr to lim f1 f2 dis pin ag en cm mc su isu fir lgt ofs rn wsn) (fun (r : Int32) (u : Unit) => True) (fun _ : Unit => wM cy m0 m1 m2 m3 m4 m5 m6 m7 m8 m9 m10 m11 m12 m13 m14 m15 m16 m17 (cdOne mc i_) td sed mi fr to lim f1 f2 dis pin ag en cm mc su isu fir lgt ofs rn wsn) := by
  refine kI.of (cc := cX3_renewal) (maxL := 2) (rt := .int) (Or.inl rfl) (by decide) rfl (Nat.le_of_ble_eq_true rfl) ?_
  intro p e s m args below meth c Q A ls hx hb hml hown hts hE hA hP hD hl hret
  have hS : va_S A s.heap s.heap [] := va_S.rf
  have hl : lv_has ls 2 [(0, .ref m0), (1, .int i_)] := hl
  have g_X3 : ∀ w ∈ wsX30, w ∈ wsX3_renewal := by decide +kernel
  have f_66 := hts (.fieldLink RX3 66 "CertHerdModel" "thrown" "I") (by decide +kernel)
  have f_60 := hts (.fieldLink RX3 60 "CertHerdModel" "renewals" "[I") (by decide +kernel)
  refine lv_aload_n hx hb dX3_renewal_0 rfl (lv_at hl 0 rfl) ?_
  refine lv_iconst (v := 0) hx hb dX3_renewal_1 (by decide) ?_
  refine va_put (D := D) (ci := 3) (v := .int 0) (ty := .int) (C := RX3) (T := TX3) (N := 22) hx hb hts g_X3 tyX3 tyX3_ok nmX3 hown hE.1 hP hD hS 0 rfl rfl 0 (by decide) f_66 (fun _ h9 => h9) rfl (by decide +kernel) rfl rfl (Nat.le_of_ble_eq_true rfl) dX3_renewal_2 (fun H locs hP hD hS => ?_)
  have hP : va_P D vwCl (wM cy m0 m1 m2 m3 m4 m5 m6 m7 m8 m9 m10 m11 m12 m13 m14 m15 m16 m17 0 td sed mi fr to lim f1 f2 dis pin ag en cm mc su isu fir lgt ofs rn wsn) H := hP
  have hD : va_D A (wM cy m0 m1 m2 m3 m4 m5 m6 m7 m8 m9 m10 m11 m12 m13 m14 m15 m16 m17 0 td sed mi fr to lim f1 f2 dis pin ag en cm mc su isu fir lgt ofs rn wsn) := hD
  refine lv_aload_n hx hb dX3_renewal_5 rfl (lv_at hl 0 rfl) ?_
  refine lv_iload_n hx hb dX3_renewal_6 rfl (lv_at hl 1 rfl) ?_
  refine kcW_i (n := 1) (wc := wM cy m0 m1 m2 m3 m4 m5 m6 m7 m8 m9 m10 m11 m12 m13 m14 m15 m16 m17 0 td sed mi fr to lim f1 f2 dis pin ag en cm mc su isu fir lgt ofs rn wsn) (As := [.int i_]) (rest := []) ⟨hx, hb, hml, hown, hts⟩ hE hA hP hD hS (c_X3_isCert l D cy m0 m1 m2 m3 m4 m5 m6 m7 m8 m9 m10 m11 m12 m13 m14 m15 m16 m17 0 td sed mi fr to lim f1 f2 dis pin ag en cm mc su isu fir lgt ofs rn wsn i_ (by first | assumption | omega)) (fun _ => rfl) (q0 := 0) (ci := 3) rfl rfl gX3_renewal_X3_isCert rfl rfl rfl ⟨rfl, by decide, by decide, by decide +kernel⟩ ⟨Nat.le_of_ble_eq_true rfl, Nat.le_of_ble_eq_true rfl⟩ rfl hl.1 rfl (Nat.le_of_ble_eq_true rfl) dX3_renewal_7 ⟨Nat.zero_le _, Nat.zero_le _⟩ (fun r_1 u H locs e_2 hP hD hS => ?_)
  have hP : va_P D vwCl (wM cy m0 m1 m2 m3 m4 m5 m6 m7 m8 m9 m10 m11 m12 m13 m14 m15 m16 m17 0 td sed mi fr to lim f1 f2 dis pin ag en cm mc su isu fir lgt ofs rn wsn) H := hP
  have hD : va_D A (wM cy m0 m1 m2 m3 m4 m5 m6 m7 m8 m9 m10 m11 m12 m13 m14 m15 m16 m17 0 td sed mi fr to lim f1 f2 dis pin ag en cm mc su isu fir lgt ofs rn wsn) := hD
  have e_2 : r_1 = bI (badI mc i_ = false) := e_2
  subst e_2
  refine k_ifeq (tgt := 22) hx hb dX3_renewal_10 (by decide) (fun c_10 => ?_) (fun c_10 => ?_)
  · refine lv_aload_n hx hb dX3_renewal_22 rfl (lv_at hl 0 rfl) ?_
    refine lv_iconst (v := 1) hx hb dX3_renewal_23 (by decide) ?_
    refine kcW_i (n := 1) (wc := wM cy m0 m1 m2 m3 m4 m5 m6 m7 m8 m9 m10 m11 m12 m13 m14 m15 m16 m17 0 td sed mi fr to lim f1 f2 dis pin ag en cm mc su isu fir lgt ofs rn wsn) (As := [.int 1]) (rest := []) ⟨hx, hb, hml, hown, hts⟩ hE hA hP hD hS (c_X3_fails l D cy m0 m1 m2 m3 m4 m5 m6 m7 m8 m9 m10 m11 m12 m13 m14 m15 m16 m17 0 td sed mi fr to lim f1 f2 dis pin ag en cm mc su isu fir lgt ofs rn wsn 1) (fun _ => Eq.trans (b := [m0, m1, m2, m3, m4, m5, m6, m7, m8, m9, m10, m11, m12, m13, m14, m15, m16, m17]) rfl rfl) (q0 := 0) (ci := 3) rfl rfl gX3_renewal_X3_fails rfl rfl rfl ⟨rfl, by decide, by decide, by decide +kernel⟩ ⟨Nat.le_of_ble_eq_true rfl, Nat.le_of_ble_eq_true rfl⟩ rfl hl.1 rfl (Nat.le_of_ble_eq_true rfl) dX3_renewal_24 ⟨Nat.zero_le _, Nat.zero_le _⟩ (fun r_3 u H locs e_4 hP hD hS => ?_)
    have hP : va_P D vwCl (wM cy m0 m1 m2 m3 m4 m5 m6 m7 m8 m9 m10 m11 m12 m13 m14 m15 m16 m17 1 td sed mi fr to lim f1 f2 dis pin ag en cm mc su isu fir lgt ofs rn wsn) H := hP
    have hD : va_D A (wM cy m0 m1 m2 m3 m4 m5 m6 m7 m8 m9 m10 m11 m12 m13 m14 m15 m16 m17 1 td sed mi fr to lim f1 f2 dis pin ag en cm mc su isu fir lgt ofs rn wsn) := hD
    have e_4 : r_3 = 0 := e_4
    subst e_4
    have w_th : 1 = cdOne mc i_ := (by simp [cdOne, c_10])
    exact hret _ _ _ _ 0 () dX3_renewal_27 (Or.inl rfl) trivial (by show va_P D vwCl (wM cy m0 m1 m2 m3 m4 m5 m6 m7 m8 m9 m10 m11 m12 m13 m14 m15 m16 m17 (cdOne mc i_) td sed mi fr to lim f1 f2 dis pin ag en cm mc su isu fir lgt ofs rn wsn) _; rw [← w_th]; exact hP) hS
  · have hix_i_ := (badI_ok (i := i_) (by assumption) (by omega)).2
    refine lv_aload_n hx hb dX3_renewal_13 rfl (lv_at hl 0 rfl) ?_
    refine va_get (D := D) (ci := 3) (v := .ref m16) (C := RX3) (T := TX3) (N := 22) hx hb hts g_X3 hown hE.1 hP 0 rfl rfl 20 (by decide) f_60 (fun _ h9 => h9) rfl dX3_renewal_14 ?_
    refine lv_iload_n hx hb dX3_renewal_17 rfl (lv_at hl 1 rfl) ?_
    refine k_top (z := nI (ix i_)) (badI_ok (i := i_) (by assumption) (by omega)).1 ?_
    refine k_ild hx hb hE.1 hP 16 0 rfl rfl (j := (ix i_)) (by omega) (by decide) dX3_renewal_18 ?_
    refine lv_goto (tgt := 27) hx hb dX3_renewal_19 (by decide) ?_
    exact absurd (by simp [cdOne, c_10]) hcd

set_option maxHeartbeats 4000000 in
set_option maxRecDepth 100000 in
theorem c_X3_lastDay (l : Launch) (D : va_G) (cy : ClassId × ClassId × ClassId) (m0 m1 m2 m3 m4 m5 m6 m7 m8 m9 m10 m11 m12 m13 m14 m15 m16 m17 : Nat) (th td sed : Int32) (mi : Nat) (fr to lim f1 f2 dis pin ag en cm : Nat → Int32) (mc : Nat) (su isu fir lgt ofs rn wsn : Nat → Int32) (i_ : Int32) (hc : mc ≤ 60) (hcd : cdOne mc i_ = 0) : kI l D cy yX3_lastDay wsX3_lastDay (krm 2 43) [.ref m0, .int i_] (wM cy m0 m1 m2 m3 m4 m5 m6 m7 m8 m9 m10 m11 m12 m13 m14 m15 m16 m17 th td sed mi fr to lim f1 f2 dis pin ag en cm mc su isu fir lgt ofs rn wsn) (fun (r : Int32) (u : Unit) => r = ctEnd fir lgt (ix i_)) (fun _ : Unit => wM cy m0 m1 m2 m3 m4 m5 m6 m7 m8 m9 m10 m11 m12 m13 m14 m15 m16 m17 0 td sed mi fr to lim f1 f2 dis pin ag en cm mc su isu fir lgt ofs rn wsn) := by
  refine kI.of (cc := cX3_lastDay) (maxL := 2) (rt := .int) (Or.inl rfl) (by decide) rfl (Nat.le_of_ble_eq_true rfl) ?_
  intro p e s m args below meth c Q A ls hx hb hml hown hts hE hA hP hD hl hret
  have hS : va_S A s.heap s.heap [] := va_S.rf
  have hl : lv_has ls 2 [(0, .ref m0), (1, .int i_)] := hl
  have g_X3 : ∀ w ∈ wsX30, w ∈ wsX3_lastDay := by decide +kernel
  have f_66 := hts (.fieldLink RX3 66 "CertHerdModel" "thrown" "I") (by decide +kernel)
  refine lv_aload_n hx hb dX3_lastDay_0 rfl (lv_at hl 0 rfl) ?_
  refine lv_iconst (v := 0) hx hb dX3_lastDay_1 (by decide) ?_
  refine va_put (D := D) (ci := 3) (v := .int 0) (ty := .int) (C := RX3) (T := TX3) (N := 22) hx hb hts g_X3 tyX3 tyX3_ok nmX3 hown hE.1 hP hD hS 0 rfl rfl 0 (by decide) f_66 (fun _ h9 => h9) rfl (by decide +kernel) rfl rfl (Nat.le_of_ble_eq_true rfl) dX3_lastDay_2 (fun H locs hP hD hS => ?_)
  have hP : va_P D vwCl (wM cy m0 m1 m2 m3 m4 m5 m6 m7 m8 m9 m10 m11 m12 m13 m14 m15 m16 m17 0 td sed mi fr to lim f1 f2 dis pin ag en cm mc su isu fir lgt ofs rn wsn) H := hP
  have hD : va_D A (wM cy m0 m1 m2 m3 m4 m5 m6 m7 m8 m9 m10 m11 m12 m13 m14 m15 m16 m17 0 td sed mi fr to lim f1 f2 dis pin ag en cm mc su isu fir lgt ofs rn wsn) := hD
  refine lv_aload_n hx hb dX3_lastDay_5 rfl (lv_at hl 0 rfl) ?_
  refine lv_iload_n hx hb dX3_lastDay_6 rfl (lv_at hl 1 rfl) ?_
  refine kcW_i (n := 1) (wc := wM cy m0 m1 m2 m3 m4 m5 m6 m7 m8 m9 m10 m11 m12 m13 m14 m15 m16 m17 0 td sed mi fr to lim f1 f2 dis pin ag en cm mc su isu fir lgt ofs rn wsn) (As := [.int i_]) (rest := []) ⟨hx, hb, hml, hown, hts⟩ hE hA hP hD hS (c_X3_isCert l D cy m0 m1 m2 m3 m4 m5 m6 m7 m8 m9 m10 m11 m12 m13 m14 m15 m16 m17 0 td sed mi fr to lim f1 f2 dis pin ag en cm mc su isu fir lgt ofs rn wsn i_ (by first | assumption | omega)) (fun _ => rfl) (q0 := 0) (ci := 3) rfl rfl gX3_lastDay_X3_isCert rfl rfl rfl ⟨rfl, by decide, by decide, by decide +kernel⟩ ⟨Nat.le_of_ble_eq_true rfl, Nat.le_of_ble_eq_true rfl⟩ rfl hl.1 rfl (Nat.le_of_ble_eq_true rfl) dX3_lastDay_7 ⟨Nat.zero_le _, Nat.zero_le _⟩ (fun r_1 u H locs e_2 hP hD hS => ?_)
  have hP : va_P D vwCl (wM cy m0 m1 m2 m3 m4 m5 m6 m7 m8 m9 m10 m11 m12 m13 m14 m15 m16 m17 0 td sed mi fr to lim f1 f2 dis pin ag en cm mc su isu fir lgt ofs rn wsn) H := hP
  have hD : va_D A (wM cy m0 m1 m2 m3 m4 m5 m6 m7 m8 m9 m10 m11 m12 m13 m14 m15 m16 m17 0 td sed mi fr to lim f1 f2 dis pin ag en cm mc su isu fir lgt ofs rn wsn) := hD
  have e_2 : r_1 = bI (badI mc i_ = false) := e_2
  subst e_2
  refine k_ifeq (tgt := 21) hx hb dX3_lastDay_10 (by decide) (fun c_10 => ?_) (fun c_10 => ?_)
  · refine lv_aload_n hx hb dX3_lastDay_21 rfl (lv_at hl 0 rfl) ?_
    refine lv_iconst (v := 1) hx hb dX3_lastDay_22 (by decide) ?_
    refine kcW_i (n := 1) (wc := wM cy m0 m1 m2 m3 m4 m5 m6 m7 m8 m9 m10 m11 m12 m13 m14 m15 m16 m17 0 td sed mi fr to lim f1 f2 dis pin ag en cm mc su isu fir lgt ofs rn wsn) (As := [.int 1]) (rest := []) ⟨hx, hb, hml, hown, hts⟩ hE hA hP hD hS (c_X3_fails l D cy m0 m1 m2 m3 m4 m5 m6 m7 m8 m9 m10 m11 m12 m13 m14 m15 m16 m17 0 td sed mi fr to lim f1 f2 dis pin ag en cm mc su isu fir lgt ofs rn wsn 1) (fun _ => Eq.trans (b := [m0, m1, m2, m3, m4, m5, m6, m7, m8, m9, m10, m11, m12, m13, m14, m15, m16, m17]) rfl rfl) (q0 := 0) (ci := 3) rfl rfl gX3_lastDay_X3_fails rfl rfl rfl ⟨rfl, by decide, by decide, by decide +kernel⟩ ⟨Nat.le_of_ble_eq_true rfl, Nat.le_of_ble_eq_true rfl⟩ rfl hl.1 rfl (Nat.le_of_ble_eq_true rfl) dX3_lastDay_23 ⟨Nat.zero_le _, Nat.zero_le _⟩ (fun r_3 u H locs e_4 hP hD hS => ?_)
    have hP : va_P D vwCl (wM cy m0 m1 m2 m3 m4 m5 m6 m7 m8 m9 m10 m11 m12 m13 m14 m15 m16 m17 1 td sed mi fr to lim f1 f2 dis pin ag en cm mc su isu fir lgt ofs rn wsn) H := hP
    have hD : va_D A (wM cy m0 m1 m2 m3 m4 m5 m6 m7 m8 m9 m10 m11 m12 m13 m14 m15 m16 m17 1 td sed mi fr to lim f1 f2 dis pin ag en cm mc su isu fir lgt ofs rn wsn) := hD
    have e_4 : r_3 = 0 := e_4
    subst e_4
    exact absurd hcd (by simp [cdOne, c_10])
  · have hix_i_ := (badI_ok (i := i_) (by assumption) (by omega)).2
    refine lv_aload_n hx hb dX3_lastDay_13 rfl (lv_at hl 0 rfl) ?_
    refine lv_iload_n hx hb dX3_lastDay_14 rfl (lv_at hl 1 rfl) ?_
    refine k_top (z := nI (ix i_)) (badI_ok (i := i_) (by assumption) (by omega)).1 ?_
    refine kcW_i (n := 1) (wc := wM cy m0 m1 m2 m3 m4 m5 m6 m7 m8 m9 m10 m11 m12 m13 m14 m15 m16 m17 0 td sed mi fr to lim f1 f2 dis pin ag en cm mc su isu fir lgt ofs rn wsn) (As := [.int (nI (ix i_))]) (rest := []) ⟨hx, hb, hml, hown, hts⟩ hE hA hP hD hS (c_X3_last l D cy m0 m1 m2 m3 m4 m5 m6 m7 m8 m9 m10 m11 m12 m13 m14 m15 m16 m17 0 td sed mi fr to lim f1 f2 dis pin ag en cm mc su isu fir lgt ofs rn wsn (ix i_) (by first | assumption | omega)) (fun _ => rfl) (q0 := 0) (ci := 3) rfl rfl gX3_lastDay_X3_last rfl rfl rfl ⟨rfl, by decide, by decide, by decide +kernel⟩ ⟨Nat.le_of_ble_eq_true rfl, Nat.le_of_ble_eq_true rfl⟩ rfl hl.1 rfl (Nat.le_of_ble_eq_true rfl) dX3_lastDay_15 ⟨Nat.zero_le _, Nat.zero_le _⟩ (fun r_5 u H locs e_6 hP hD hS => ?_)
    have hP : va_P D vwCl (wM cy m0 m1 m2 m3 m4 m5 m6 m7 m8 m9 m10 m11 m12 m13 m14 m15 m16 m17 0 td sed mi fr to lim f1 f2 dis pin ag en cm mc su isu fir lgt ofs rn wsn) H := hP
    have hD : va_D A (wM cy m0 m1 m2 m3 m4 m5 m6 m7 m8 m9 m10 m11 m12 m13 m14 m15 m16 m17 0 td sed mi fr to lim f1 f2 dis pin ag en cm mc su isu fir lgt ofs rn wsn) := hD
    have e_6 : r_5 = ctEnd fir lgt (ix i_) := e_6
    subst e_6
    refine lv_goto (tgt := 26) hx hb dX3_lastDay_18 (by decide) ?_
    exact hret _ _ _ _ (ctEnd fir lgt (ix i_)) () dX3_lastDay_26 (Or.inl rfl) rfl hP hS

set_option maxHeartbeats 4000000 in
set_option maxRecDepth 100000 in
theorem c_X3_lastDay_f (l : Launch) (D : va_G) (cy : ClassId × ClassId × ClassId) (m0 m1 m2 m3 m4 m5 m6 m7 m8 m9 m10 m11 m12 m13 m14 m15 m16 m17 : Nat) (th td sed : Int32) (mi : Nat) (fr to lim f1 f2 dis pin ag en cm : Nat → Int32) (mc : Nat) (su isu fir lgt ofs rn wsn : Nat → Int32) (i_ : Int32) (hc : mc ≤ 60) (hcd : ¬ cdOne mc i_ = 0) : kI l D cy yX3_lastDay wsX3_lastDay (krm 2 43) [.ref m0, .int i_] (wM cy m0 m1 m2 m3 m4 m5 m6 m7 m8 m9 m10 m11 m12 m13 m14 m15 m16 m17 th td sed mi fr to lim f1 f2 dis pin ag en cm mc su isu fir lgt ofs rn wsn) (fun (r : Int32) (u : Unit) => True) (fun _ : Unit => wM cy m0 m1 m2 m3 m4 m5 m6 m7 m8 m9 m10 m11 m12 m13 m14 m15 m16 m17 (cdOne mc i_) td sed mi fr to lim f1 f2 dis pin ag en cm mc su isu fir lgt ofs rn wsn) := by
  refine kI.of (cc := cX3_lastDay) (maxL := 2) (rt := .int) (Or.inl rfl) (by decide) rfl (Nat.le_of_ble_eq_true rfl) ?_
  intro p e s m args below meth c Q A ls hx hb hml hown hts hE hA hP hD hl hret
  have hS : va_S A s.heap s.heap [] := va_S.rf
  have hl : lv_has ls 2 [(0, .ref m0), (1, .int i_)] := hl
  have g_X3 : ∀ w ∈ wsX30, w ∈ wsX3_lastDay := by decide +kernel
  have f_66 := hts (.fieldLink RX3 66 "CertHerdModel" "thrown" "I") (by decide +kernel)
  refine lv_aload_n hx hb dX3_lastDay_0 rfl (lv_at hl 0 rfl) ?_
  refine lv_iconst (v := 0) hx hb dX3_lastDay_1 (by decide) ?_
  refine va_put (D := D) (ci := 3) (v := .int 0) (ty := .int) (C := RX3) (T := TX3) (N := 22) hx hb hts g_X3 tyX3 tyX3_ok nmX3 hown hE.1 hP hD hS 0 rfl rfl 0 (by decide) f_66 (fun _ h9 => h9) rfl (by decide +kernel) rfl rfl (Nat.le_of_ble_eq_true rfl) dX3_lastDay_2 (fun H locs hP hD hS => ?_)
  have hP : va_P D vwCl (wM cy m0 m1 m2 m3 m4 m5 m6 m7 m8 m9 m10 m11 m12 m13 m14 m15 m16 m17 0 td sed mi fr to lim f1 f2 dis pin ag en cm mc su isu fir lgt ofs rn wsn) H := hP
  have hD : va_D A (wM cy m0 m1 m2 m3 m4 m5 m6 m7 m8 m9 m10 m11 m12 m13 m14 m15 m16 m17 0 td sed mi fr to lim f1 f2 dis pin ag en cm mc su isu fir lgt ofs rn wsn) := hD
  refine lv_aload_n hx hb dX3_lastDay_5 rfl (lv_at hl 0 rfl) ?_
  refine lv_iload_n hx hb dX3_lastDay_6 rfl (lv_at hl 1 rfl) ?_
  refine kcW_i (n := 1) (wc := wM cy m0 m1 m2 m3 m4 m5 m6 m7 m8 m9 m10 m11 m12 m13 m14 m15 m16 m17 0 td sed mi fr to lim f1 f2 dis pin ag en cm mc su isu fir lgt ofs rn wsn) (As := [.int i_]) (rest := []) ⟨hx, hb, hml, hown, hts⟩ hE hA hP hD hS (c_X3_isCert l D cy m0 m1 m2 m3 m4 m5 m6 m7 m8 m9 m10 m11 m12 m13 m14 m15 m16 m17 0 td sed mi fr to lim f1 f2 dis pin ag en cm mc su isu fir lgt ofs rn wsn i_ (by first | assumption | omega)) (fun _ => rfl) (q0 := 0) (ci := 3) rfl rfl gX3_lastDay_X3_isCert rfl rfl rfl ⟨rfl, by decide, by decide, by decide +kernel⟩ ⟨Nat.le_of_ble_eq_true rfl, Nat.le_of_ble_eq_true rfl⟩ rfl hl.1 rfl (Nat.le_of_ble_eq_true rfl) dX3_lastDay_7 ⟨Nat.zero_le _, Nat.zero_le _⟩ (fun r_1 u H locs e_2 hP hD hS => ?_)
  have hP : va_P D vwCl (wM cy m0 m1 m2 m3 m4 m5 m6 m7 m8 m9 m10 m11 m12 m13 m14 m15 m16 m17 0 td sed mi fr to lim f1 f2 dis pin ag en cm mc su isu fir lgt ofs rn wsn) H := hP
  have hD : va_D A (wM cy m0 m1 m2 m3 m4 m5 m6 m7 m8 m9 m10 m11 m12 m13 m14 m15 m16 m17 0 td sed mi fr to lim f1 f2 dis pin ag en cm mc su isu fir lgt ofs rn wsn) := hD
  have e_2 : r_1 = bI (badI mc i_ = false) := e_2
  subst e_2
  refine k_ifeq (tgt := 21) hx hb dX3_lastDay_10 (by decide) (fun c_10 => ?_) (fun c_10 => ?_)
  · refine lv_aload_n hx hb dX3_lastDay_21 rfl (lv_at hl 0 rfl) ?_
    refine lv_iconst (v := 1) hx hb dX3_lastDay_22 (by decide) ?_
    refine kcW_i (n := 1) (wc := wM cy m0 m1 m2 m3 m4 m5 m6 m7 m8 m9 m10 m11 m12 m13 m14 m15 m16 m17 0 td sed mi fr to lim f1 f2 dis pin ag en cm mc su isu fir lgt ofs rn wsn) (As := [.int 1]) (rest := []) ⟨hx, hb, hml, hown, hts⟩ hE hA hP hD hS (c_X3_fails l D cy m0 m1 m2 m3 m4 m5 m6 m7 m8 m9 m10 m11 m12 m13 m14 m15 m16 m17 0 td sed mi fr to lim f1 f2 dis pin ag en cm mc su isu fir lgt ofs rn wsn 1) (fun _ => Eq.trans (b := [m0, m1, m2, m3, m4, m5, m6, m7, m8, m9, m10, m11, m12, m13, m14, m15, m16, m17]) rfl rfl) (q0 := 0) (ci := 3) rfl rfl gX3_lastDay_X3_fails rfl rfl rfl ⟨rfl, by decide, by decide, by decide +kernel⟩ ⟨Nat.le_of_ble_eq_true rfl, Nat.le_of_ble_eq_true rfl⟩ rfl hl.1 rfl (Nat.le_of_ble_eq_true rfl) dX3_lastDay_23 ⟨Nat.zero_le _, Nat.zero_le _⟩ (fun r_3 u H locs e_4 hP hD hS => ?_)
    have hP : va_P D vwCl (wM cy m0 m1 m2 m3 m4 m5 m6 m7 m8 m9 m10 m11 m12 m13 m14 m15 m16 m17 1 td sed mi fr to lim f1 f2 dis pin ag en cm mc su isu fir lgt ofs rn wsn) H := hP
    have hD : va_D A (wM cy m0 m1 m2 m3 m4 m5 m6 m7 m8 m9 m10 m11 m12 m13 m14 m15 m16 m17 1 td sed mi fr to lim f1 f2 dis pin ag en cm mc su isu fir lgt ofs rn wsn) := hD
    have e_4 : r_3 = 0 := e_4
    subst e_4
    have w_th : 1 = cdOne mc i_ := (by simp [cdOne, c_10])
    exact hret _ _ _ _ 0 () dX3_lastDay_26 (Or.inl rfl) trivial (by show va_P D vwCl (wM cy m0 m1 m2 m3 m4 m5 m6 m7 m8 m9 m10 m11 m12 m13 m14 m15 m16 m17 (cdOne mc i_) td sed mi fr to lim f1 f2 dis pin ag en cm mc su isu fir lgt ofs rn wsn) _; rw [← w_th]; exact hP) hS
  · have hix_i_ := (badI_ok (i := i_) (by assumption) (by omega)).2
    refine lv_aload_n hx hb dX3_lastDay_13 rfl (lv_at hl 0 rfl) ?_
    refine lv_iload_n hx hb dX3_lastDay_14 rfl (lv_at hl 1 rfl) ?_
    refine k_top (z := nI (ix i_)) (badI_ok (i := i_) (by assumption) (by omega)).1 ?_
    refine kcW_i (n := 1) (wc := wM cy m0 m1 m2 m3 m4 m5 m6 m7 m8 m9 m10 m11 m12 m13 m14 m15 m16 m17 0 td sed mi fr to lim f1 f2 dis pin ag en cm mc su isu fir lgt ofs rn wsn) (As := [.int (nI (ix i_))]) (rest := []) ⟨hx, hb, hml, hown, hts⟩ hE hA hP hD hS (c_X3_last l D cy m0 m1 m2 m3 m4 m5 m6 m7 m8 m9 m10 m11 m12 m13 m14 m15 m16 m17 0 td sed mi fr to lim f1 f2 dis pin ag en cm mc su isu fir lgt ofs rn wsn (ix i_) (by first | assumption | omega)) (fun _ => rfl) (q0 := 0) (ci := 3) rfl rfl gX3_lastDay_X3_last rfl rfl rfl ⟨rfl, by decide, by decide, by decide +kernel⟩ ⟨Nat.le_of_ble_eq_true rfl, Nat.le_of_ble_eq_true rfl⟩ rfl hl.1 rfl (Nat.le_of_ble_eq_true rfl) dX3_lastDay_15 ⟨Nat.zero_le _, Nat.zero_le _⟩ (fun r_5 u H locs e_6 hP hD hS => ?_)
    have hP : va_P D vwCl (wM cy m0 m1 m2 m3 m4 m5 m6 m7 m8 m9 m10 m11 m12 m13 m14 m15 m16 m17 0 td sed mi fr to lim f1 f2 dis pin ag en cm mc su isu fir lgt ofs rn wsn) H := hP
    have hD : va_D A (wM cy m0 m1 m2 m3 m4 m5 m6 m7 m8 m9 m10 m11 m12 m13 m14 m15 m16 m17 0 td sed mi fr to lim f1 f2 dis pin ag en cm mc su isu fir lgt ofs rn wsn) := hD
    have e_6 : r_5 = ctEnd fir lgt (ix i_) := e_6
    subst e_6
    refine lv_goto (tgt := 26) hx hb dX3_lastDay_18 (by decide) ?_
    exact absurd (by simp [cdOne, c_10]) hcd

set_option maxHeartbeats 4000000 in
set_option maxRecDepth 100000 in
theorem c_X3_dueOn (l : Launch) (D : va_G) (cy : ClassId × ClassId × ClassId) (m0 m1 m2 m3 m4 m5 m6 m7 m8 m9 m10 m11 m12 m13 m14 m15 m16 m17 : Nat) (th td sed : Int32) (mi : Nat) (fr to lim f1 f2 dis pin ag en cm : Nat → Int32) (mc : Nat) (su isu fir lgt ofs rn wsn : Nat → Int32) (i_ : Int32) (hc : mc ≤ 60) (hcd : cdOne mc i_ = 0) : kI l D cy yX3_dueOn wsX3_dueOn (krm 2 43) [.ref m0, .int i_] (wM cy m0 m1 m2 m3 m4 m5 m6 m7 m8 m9 m10 m11 m12 m13 m14 m15 m16 m17 th td sed mi fr to lim f1 f2 dis pin ag en cm mc su isu fir lgt ofs rn wsn) (fun (r : Int32) (u : Unit) => r = dueM fir lgt ofs (ix i_)) (fun _ : Unit => wM cy m0 m1 m2 m3 m4 m5 m6 m7 m8 m9 m10 m11 m12 m13 m14 m15 m16 m17 0 td sed mi fr to lim f1 f2 dis pin ag en cm mc su isu fir lgt ofs rn wsn) := by
  refine kI.of (cc := cX3_dueOn) (maxL := 2) (rt := .int) (Or.inl rfl) (by decide) rfl (Nat.le_of_ble_eq_true rfl) ?_
  intro p e s m args below meth c Q A ls hx hb hml hown hts hE hA hP hD hl hret
  have hS : va_S A s.heap s.heap [] := va_S.rf
  have hl : lv_has ls 2 [(0, .ref m0), (1, .int i_)] := hl
  have g_X3 : ∀ w ∈ wsX30, w ∈ wsX3_dueOn := by decide +kernel
  have f_66 := hts (.fieldLink RX3 66 "CertHerdModel" "thrown" "I") (by decide +kernel)
  refine lv_aload_n hx hb dX3_dueOn_0 rfl (lv_at hl 0 rfl) ?_
  refine lv_iconst (v := 0) hx hb dX3_dueOn_1 (by decide) ?_
  refine va_put (D := D) (ci := 3) (v := .int 0) (ty := .int) (C := RX3) (T := TX3) (N := 22) hx hb hts g_X3 tyX3 tyX3_ok nmX3 hown hE.1 hP hD hS 0 rfl rfl 0 (by decide) f_66 (fun _ h9 => h9) rfl (by decide +kernel) rfl rfl (Nat.le_of_ble_eq_true rfl) dX3_dueOn_2 (fun H locs hP hD hS => ?_)
  have hP : va_P D vwCl (wM cy m0 m1 m2 m3 m4 m5 m6 m7 m8 m9 m10 m11 m12 m13 m14 m15 m16 m17 0 td sed mi fr to lim f1 f2 dis pin ag en cm mc su isu fir lgt ofs rn wsn) H := hP
  have hD : va_D A (wM cy m0 m1 m2 m3 m4 m5 m6 m7 m8 m9 m10 m11 m12 m13 m14 m15 m16 m17 0 td sed mi fr to lim f1 f2 dis pin ag en cm mc su isu fir lgt ofs rn wsn) := hD
  refine lv_aload_n hx hb dX3_dueOn_5 rfl (lv_at hl 0 rfl) ?_
  refine lv_iload_n hx hb dX3_dueOn_6 rfl (lv_at hl 1 rfl) ?_
  refine kcW_i (n := 1) (wc := wM cy m0 m1 m2 m3 m4 m5 m6 m7 m8 m9 m10 m11 m12 m13 m14 m15 m16 m17 0 td sed mi fr to lim f1 f2 dis pin ag en cm mc su isu fir lgt ofs rn wsn) (As := [.int i_]) (rest := []) ⟨hx, hb, hml, hown, hts⟩ hE hA hP hD hS (c_X3_isCert l D cy m0 m1 m2 m3 m4 m5 m6 m7 m8 m9 m10 m11 m12 m13 m14 m15 m16 m17 0 td sed mi fr to lim f1 f2 dis pin ag en cm mc su isu fir lgt ofs rn wsn i_ (by first | assumption | omega)) (fun _ => rfl) (q0 := 0) (ci := 3) rfl rfl gX3_dueOn_X3_isCert rfl rfl rfl ⟨rfl, by decide, by decide, by decide +kernel⟩ ⟨Nat.le_of_ble_eq_true rfl, Nat.le_of_ble_eq_true rfl⟩ rfl hl.1 rfl (Nat.le_of_ble_eq_true rfl) dX3_dueOn_7 ⟨Nat.zero_le _, Nat.zero_le _⟩ (fun r_1 u H locs e_2 hP hD hS => ?_)
  have hP : va_P D vwCl (wM cy m0 m1 m2 m3 m4 m5 m6 m7 m8 m9 m10 m11 m12 m13 m14 m15 m16 m17 0 td sed mi fr to lim f1 f2 dis pin ag en cm mc su isu fir lgt ofs rn wsn) H := hP
  have hD : va_D A (wM cy m0 m1 m2 m3 m4 m5 m6 m7 m8 m9 m10 m11 m12 m13 m14 m15 m16 m17 0 td sed mi fr to lim f1 f2 dis pin ag en cm mc su isu fir lgt ofs rn wsn) := hD
  have e_2 : r_1 = bI (badI mc i_ = false) := e_2
  subst e_2
  refine k_ifeq (tgt := 21) hx hb dX3_dueOn_10 (by decide) (fun c_10 => ?_) (fun c_10 => ?_)
  · refine lv_aload_n hx hb dX3_dueOn_21 rfl (lv_at hl 0 rfl) ?_
    refine lv_iconst (v := 1) hx hb dX3_dueOn_22 (by decide) ?_
    refine kcW_i (n := 1) (wc := wM cy m0 m1 m2 m3 m4 m5 m6 m7 m8 m9 m10 m11 m12 m13 m14 m15 m16 m17 0 td sed mi fr to lim f1 f2 dis pin ag en cm mc su isu fir lgt ofs rn wsn) (As := [.int 1]) (rest := []) ⟨hx, hb, hml, hown, hts⟩ hE hA hP hD hS (c_X3_fails l D cy m0 m1 m2 m3 m4 m5 m6 m7 m8 m9 m10 m11 m12 m13 m14 m15 m16 m17 0 td sed mi fr to lim f1 f2 dis pin ag en cm mc su isu fir lgt ofs rn wsn 1) (fun _ => Eq.trans (b := [m0, m1, m2, m3, m4, m5, m6, m7, m8, m9, m10, m11, m12, m13, m14, m15, m16, m17]) rfl rfl) (q0 := 0) (ci := 3) rfl rfl gX3_dueOn_X3_fails rfl rfl rfl ⟨rfl, by decide, by decide, by decide +kernel⟩ ⟨Nat.le_of_ble_eq_true rfl, Nat.le_of_ble_eq_true rfl⟩ rfl hl.1 rfl (Nat.le_of_ble_eq_true rfl) dX3_dueOn_23 ⟨Nat.zero_le _, Nat.zero_le _⟩ (fun r_3 u H locs e_4 hP hD hS => ?_)
    have hP : va_P D vwCl (wM cy m0 m1 m2 m3 m4 m5 m6 m7 m8 m9 m10 m11 m12 m13 m14 m15 m16 m17 1 td sed mi fr to lim f1 f2 dis pin ag en cm mc su isu fir lgt ofs rn wsn) H := hP
    have hD : va_D A (wM cy m0 m1 m2 m3 m4 m5 m6 m7 m8 m9 m10 m11 m12 m13 m14 m15 m16 m17 1 td sed mi fr to lim f1 f2 dis pin ag en cm mc su isu fir lgt ofs rn wsn) := hD
    have e_4 : r_3 = 0 := e_4
    subst e_4
    exact absurd hcd (by simp [cdOne, c_10])
  · have hix_i_ := (badI_ok (i := i_) (by assumption) (by omega)).2
    refine lv_aload_n hx hb dX3_dueOn_13 rfl (lv_at hl 0 rfl) ?_
    refine lv_iload_n hx hb dX3_dueOn_14 rfl (lv_at hl 1 rfl) ?_
    refine k_top (z := nI (ix i_)) (badI_ok (i := i_) (by assumption) (by omega)).1 ?_
    refine kcW_i (n := 1) (wc := wM cy m0 m1 m2 m3 m4 m5 m6 m7 m8 m9 m10 m11 m12 m13 m14 m15 m16 m17 0 td sed mi fr to lim f1 f2 dis pin ag en cm mc su isu fir lgt ofs rn wsn) (As := [.int (nI (ix i_))]) (rest := []) ⟨hx, hb, hml, hown, hts⟩ hE hA hP hD hS (c_X3_due l D cy m0 m1 m2 m3 m4 m5 m6 m7 m8 m9 m10 m11 m12 m13 m14 m15 m16 m17 0 td sed mi fr to lim f1 f2 dis pin ag en cm mc su isu fir lgt ofs rn wsn (ix i_) (by first | assumption | omega)) (fun _ => rfl) (q0 := 0) (ci := 3) rfl rfl gX3_dueOn_X3_due rfl rfl rfl ⟨rfl, by decide, by decide, by decide +kernel⟩ ⟨Nat.le_of_ble_eq_true rfl, Nat.le_of_ble_eq_true rfl⟩ rfl hl.1 rfl (Nat.le_of_ble_eq_true rfl) dX3_dueOn_15 ⟨Nat.zero_le _, Nat.zero_le _⟩ (fun r_5 u H locs e_6 hP hD hS => ?_)
    have hP : va_P D vwCl (wM cy m0 m1 m2 m3 m4 m5 m6 m7 m8 m9 m10 m11 m12 m13 m14 m15 m16 m17 0 td sed mi fr to lim f1 f2 dis pin ag en cm mc su isu fir lgt ofs rn wsn) H := hP
    have hD : va_D A (wM cy m0 m1 m2 m3 m4 m5 m6 m7 m8 m9 m10 m11 m12 m13 m14 m15 m16 m17 0 td sed mi fr to lim f1 f2 dis pin ag en cm mc su isu fir lgt ofs rn wsn) := hD
    have e_6 : r_5 = dueM fir lgt ofs (ix i_) := e_6
    subst e_6
    refine lv_goto (tgt := 26) hx hb dX3_dueOn_18 (by decide) ?_
    exact hret _ _ _ _ (dueM fir lgt ofs (ix i_)) () dX3_dueOn_26 (Or.inl rfl) rfl hP hS

set_option maxHeartbeats 4000000 in
set_option maxRecDepth 100000 in
theorem c_X3_dueOn_f (l : Launch) (D : va_G) (cy : ClassId × ClassId × ClassId) (m0 m1 m2 m3 m4 m5 m6 m7 m8 m9 m10 m11 m12 m13 m14 m15 m16 m17 : Nat) (th td sed : Int32) (mi : Nat) (fr to lim f1 f2 dis pin ag en cm : Nat → Int32) (mc : Nat) (su isu fir lgt ofs rn wsn : Nat → Int32) (i_ : Int32) (hc : mc ≤ 60) (hcd : ¬ cdOne mc i_ = 0) : kI l D cy yX3_dueOn wsX3_dueOn (krm 2 43) [.ref m0, .int i_] (wM cy m0 m1 m2 m3 m4 m5 m6 m7 m8 m9 m10 m11 m12 m13 m14 m15 m16 m17 th td sed mi fr to lim f1 f2 dis pin ag en cm mc su isu fir lgt ofs rn wsn) (fun (r : Int32) (u : Unit) => True) (fun _ : Unit => wM cy m0 m1 m2 m3 m4 m5 m6 m7 m8 m9 m10 m11 m12 m13 m14 m15 m16 m17 (cdOne mc i_) td sed mi fr to lim f1 f2 dis pin ag en cm mc su isu fir lgt ofs rn wsn) := by
  refine kI.of (cc := cX3_dueOn) (maxL := 2) (rt := .int) (Or.inl rfl) (by decide) rfl (Nat.le_of_ble_eq_true rfl) ?_
  intro p e s m args below meth c Q A ls hx hb hml hown hts hE hA hP hD hl hret
  have hS : va_S A s.heap s.heap [] := va_S.rf
  have hl : lv_has ls 2 [(0, .ref m0), (1, .int i_)] := hl
  have g_X3 : ∀ w ∈ wsX30, w ∈ wsX3_dueOn := by decide +kernel
  have f_66 := hts (.fieldLink RX3 66 "CertHerdModel" "thrown" "I") (by decide +kernel)
  refine lv_aload_n hx hb dX3_dueOn_0 rfl (lv_at hl 0 rfl) ?_
  refine lv_iconst (v := 0) hx hb dX3_dueOn_1 (by decide) ?_
  refine va_put (D := D) (ci := 3) (v := .int 0) (ty := .int) (C := RX3) (T := TX3) (N := 22) hx hb hts g_X3 tyX3 tyX3_ok nmX3 hown hE.1 hP hD hS 0 rfl rfl 0 (by decide) f_66 (fun _ h9 => h9) rfl (by decide +kernel) rfl rfl (Nat.le_of_ble_eq_true rfl) dX3_dueOn_2 (fun H locs hP hD hS => ?_)
  have hP : va_P D vwCl (wM cy m0 m1 m2 m3 m4 m5 m6 m7 m8 m9 m10 m11 m12 m13 m14 m15 m16 m17 0 td sed mi fr to lim f1 f2 dis pin ag en cm mc su isu fir lgt ofs rn wsn) H := hP
  have hD : va_D A (wM cy m0 m1 m2 m3 m4 m5 m6 m7 m8 m9 m10 m11 m12 m13 m14 m15 m16 m17 0 td sed mi fr to lim f1 f2 dis pin ag en cm mc su isu fir lgt ofs rn wsn) := hD
  refine lv_aload_n hx hb dX3_dueOn_5 rfl (lv_at hl 0 rfl) ?_
  refine lv_iload_n hx hb dX3_dueOn_6 rfl (lv_at hl 1 rfl) ?_
  refine kcW_i (n := 1) (wc := wM cy m0 m1 m2 m3 m4 m5 m6 m7 m8 m9 m10 m11 m12 m13 m14 m15 m16 m17 0 td sed mi fr to lim f1 f2 dis pin ag en cm mc su isu fir lgt ofs rn wsn) (As := [.int i_]) (rest := []) ⟨hx, hb, hml, hown, hts⟩ hE hA hP hD hS (c_X3_isCert l D cy m0 m1 m2 m3 m4 m5 m6 m7 m8 m9 m10 m11 m12 m13 m14 m15 m16 m17 0 td sed mi fr to lim f1 f2 dis pin ag en cm mc su isu fir lgt ofs rn wsn i_ (by first | assumption | omega)) (fun _ => rfl) (q0 := 0) (ci := 3) rfl rfl gX3_dueOn_X3_isCert rfl rfl rfl ⟨rfl, by decide, by decide, by decide +kernel⟩ ⟨Nat.le_of_ble_eq_true rfl, Nat.le_of_ble_eq_true rfl⟩ rfl hl.1 rfl (Nat.le_of_ble_eq_true rfl) dX3_dueOn_7 ⟨Nat.zero_le _, Nat.zero_le _⟩ (fun r_1 u H locs e_2 hP hD hS => ?_)
  have hP : va_P D vwCl (wM cy m0 m1 m2 m3 m4 m5 m6 m7 m8 m9 m10 m11 m12 m13 m14 m15 m16 m17 0 td sed mi fr to lim f1 f2 dis pin ag en cm mc su isu fir lgt ofs rn wsn) H := hP
  have hD : va_D A (wM cy m0 m1 m2 m3 m4 m5 m6 m7 m8 m9 m10 m11 m12 m13 m14 m15 m16 m17 0 td sed mi fr to lim f1 f2 dis pin ag en cm mc su isu fir lgt ofs rn wsn) := hD
  have e_2 : r_1 = bI (badI mc i_ = false) := e_2
  subst e_2
  refine k_ifeq (tgt := 21) hx hb dX3_dueOn_10 (by decide) (fun c_10 => ?_) (fun c_10 => ?_)
  · refine lv_aload_n hx hb dX3_dueOn_21 rfl (lv_at hl 0 rfl) ?_
    refine lv_iconst (v := 1) hx hb dX3_dueOn_22 (by decide) ?_
    refine kcW_i (n := 1) (wc := wM cy m0 m1 m2 m3 m4 m5 m6 m7 m8 m9 m10 m11 m12 m13 m14 m15 m16 m17 0 td sed mi fr to lim f1 f2 dis pin ag en cm mc su isu fir lgt ofs rn wsn) (As := [.int 1]) (rest := []) ⟨hx, hb, hml, hown, hts⟩ hE hA hP hD hS (c_X3_fails l D cy m0 m1 m2 m3 m4 m5 m6 m7 m8 m9 m10 m11 m12 m13 m14 m15 m16 m17 0 td sed mi fr to lim f1 f2 dis pin ag en cm mc su isu fir lgt ofs rn wsn 1) (fun _ => Eq.trans (b := [m0, m1, m2, m3, m4, m5, m6, m7, m8, m9, m10, m11, m12, m13, m14, m15, m16, m17]) rfl rfl) (q0 := 0) (ci := 3) rfl rfl gX3_dueOn_X3_fails rfl rfl rfl ⟨rfl, by decide, by decide, by decide +kernel⟩ ⟨Nat.le_of_ble_eq_true rfl, Nat.le_of_ble_eq_true rfl⟩ rfl hl.1 rfl (Nat.le_of_ble_eq_true rfl) dX3_dueOn_23 ⟨Nat.zero_le _, Nat.zero_le _⟩ (fun r_3 u H locs e_4 hP hD hS => ?_)
    have hP : va_P D vwCl (wM cy m0 m1 m2 m3 m4 m5 m6 m7 m8 m9 m10 m11 m12 m13 m14 m15 m16 m17 1 td sed mi fr to lim f1 f2 dis pin ag en cm mc su isu fir lgt ofs rn wsn) H := hP
    have hD : va_D A (wM cy m0 m1 m2 m3 m4 m5 m6 m7 m8 m9 m10 m11 m12 m13 m14 m15 m16 m17 1 td sed mi fr to lim f1 f2 dis pin ag en cm mc su isu fir lgt ofs rn wsn) := hD
    have e_4 : r_3 = 0 := e_4
    subst e_4
    have w_th : 1 = cdOne mc i_ := (by simp [cdOne, c_10])
    exact hret _ _ _ _ 0 () dX3_dueOn_26 (Or.inl rfl) trivial (by show va_P D vwCl (wM cy m0 m1 m2 m3 m4 m5 m6 m7 m8 m9 m10 m11 m12 m13 m14 m15 m16 m17 (cdOne mc i_) td sed mi fr to lim f1 f2 dis pin ag en cm mc su isu fir lgt ofs rn wsn) _; rw [← w_th]; exact hP) hS
  · have hix_i_ := (badI_ok (i := i_) (by assumption) (by omega)).2
    refine lv_aload_n hx hb dX3_dueOn_13 rfl (lv_at hl 0 rfl) ?_
    refine lv_iload_n hx hb dX3_dueOn_14 rfl (lv_at hl 1 rfl) ?_
    refine k_top (z := nI (ix i_)) (badI_ok (i := i_) (by assumption) (by omega)).1 ?_
    refine kcW_i (n := 1) (wc := wM cy m0 m1 m2 m3 m4 m5 m6 m7 m8 m9 m10 m11 m12 m13 m14 m15 m16 m17 0 td sed mi fr to lim f1 f2 dis pin ag en cm mc su isu fir lgt ofs rn wsn) (As := [.int (nI (ix i_))]) (rest := []) ⟨hx, hb, hml, hown, hts⟩ hE hA hP hD hS (c_X3_due l D cy m0 m1 m2 m3 m4 m5 m6 m7 m8 m9 m10 m11 m12 m13 m14 m15 m16 m17 0 td sed mi fr to lim f1 f2 dis pin ag en cm mc su isu fir lgt ofs rn wsn (ix i_) (by first | assumption | omega)) (fun _ => rfl) (q0 := 0) (ci := 3) rfl rfl gX3_dueOn_X3_due rfl rfl rfl ⟨rfl, by decide, by decide, by decide +kernel⟩ ⟨Nat.le_of_ble_eq_true rfl, Nat.le_of_ble_eq_true rfl⟩ rfl hl.1 rfl (Nat.le_of_ble_eq_true rfl) dX3_dueOn_15 ⟨Nat.zero_le _, Nat.zero_le _⟩ (fun r_5 u H locs e_6 hP hD hS => ?_)
    have hP : va_P D vwCl (wM cy m0 m1 m2 m3 m4 m5 m6 m7 m8 m9 m10 m11 m12 m13 m14 m15 m16 m17 0 td sed mi fr to lim f1 f2 dis pin ag en cm mc su isu fir lgt ofs rn wsn) H := hP
    have hD : va_D A (wM cy m0 m1 m2 m3 m4 m5 m6 m7 m8 m9 m10 m11 m12 m13 m14 m15 m16 m17 0 td sed mi fr to lim f1 f2 dis pin ag en cm mc su isu fir lgt ofs rn wsn) := hD
    have e_6 : r_5 = dueM fir lgt ofs (ix i_) := e_6
    subst e_6
    refine lv_goto (tgt := 26) hx hb dX3_dueOn_18 (by decide) ?_
    exact absurd (by simp [cdOne, c_10]) hcd

set_option maxHeartbeats 4000000 in
set_option maxRecDepth 100000 in
theorem c_X3_room (l : Launch) (D : va_G) (cy : ClassId × ClassId × ClassId) (m0 m1 m2 m3 m4 m5 m6 m7 m8 m9 m10 m11 m12 m13 m14 m15 m16 m17 : Nat) (th td sed : Int32) (mi : Nat) (fr to lim f1 f2 dis pin ag en cm : Nat → Int32) (mc : Nat) (su isu fir lgt ofs rn wsn : Nat → Int32) (i_ : Int32) (hm : mi ≤ 8) (hc : mc ≤ 60) (hcd : cdOne mi i_ = 0) : kI l D cy yX3_room wsX3_room (krm 2 43) [.ref m0, .int i_] (wM cy m0 m1 m2 m3 m4 m5 m6 m7 m8 m9 m10 m11 m12 m13 m14 m15 m16 m17 th td sed mi fr to lim f1 f2 dis pin ag en cm mc su isu fir lgt ofs rn wsn) (fun (r : Int32) (u : Unit) => r = lim (ix i_) - iwN isu fir (nI (ix i_)) (td / 7) mc) (fun _ : Unit => wM cy m0 m1 m2 m3 m4 m5 m6 m7 m8 m9 m10 m11 m12 m13 m14 m15 m16 m17 0 td sed mi fr to lim f1 f2 dis pin ag en cm mc su isu fir lgt ofs rn wsn) := by
  refine kI.of (cc := cX3_room) (maxL := 2) (rt := .int) (Or.inl rfl) (by decide) rfl (Nat.le_of_ble_eq_true rfl) ?_
  intro p e s m args below meth c Q A ls hx hb hml hown hts hE hA hP hD hl hret
  have hS : va_S A s.heap s.heap [] := va_S.rf
  have hl : lv_has ls 2 [(0, .ref m0), (1, .int i_)] := hl
  have g_X3 : ∀ w ∈ wsX30, w ∈ wsX3_room := by decide +kernel
  have f_66 := hts (.fieldLink RX3 66 "CertHerdModel" "thrown" "I") (by decide +kernel)
  have f_20 := hts (.fieldLink RX3 20 "CertHerdModel" "limits" "[I") (by decide +kernel)
  refine lv_aload_n hx hb dX3_room_0 rfl (lv_at hl 0 rfl) ?_
  refine lv_iconst (v := 0) hx hb dX3_room_1 (by decide) ?_
  refine va_put (D := D) (ci := 3) (v := .int 0) (ty := .int) (C := RX3) (T := TX3) (N := 22) hx hb hts g_X3 tyX3 tyX3_ok nmX3 hown hE.1 hP hD hS 0 rfl rfl 0 (by decide) f_66 (fun _ h9 => h9) rfl (by decide +kernel) rfl rfl (Nat.le_of_ble_eq_true rfl) dX3_room_2 (fun H locs hP hD hS => ?_)
  have hP : va_P D vwCl (wM cy m0 m1 m2 m3 m4 m5 m6 m7 m8 m9 m10 m11 m12 m13 m14 m15 m16 m17 0 td sed mi fr to lim f1 f2 dis pin ag en cm mc su isu fir lgt ofs rn wsn) H := hP
  have hD : va_D A (wM cy m0 m1 m2 m3 m4 m5 m6 m7 m8 m9 m10 m11 m12 m13 m14 m15 m16 m17 0 td sed mi fr to lim f1 f2 dis pin ag en cm mc su isu fir lgt ofs rn wsn) := hD
  refine lv_aload_n hx hb dX3_room_5 rfl (lv_at hl 0 rfl) ?_
  refine lv_iload_n hx hb dX3_room_6 rfl (lv_at hl 1 rfl) ?_
  refine kcW_i (n := 1) (wc := wM cy m0 m1 m2 m3 m4 m5 m6 m7 m8 m9 m10 m11 m12 m13 m14 m15 m16 m17 0 td sed mi fr to lim f1 f2 dis pin ag en cm mc su isu fir lgt ofs rn wsn) (As := [.int i_]) (rest := []) ⟨hx, hb, hml, hown, hts⟩ hE hA hP hD hS (c_X3_isIssuer l D cy m0 m1 m2 m3 m4 m5 m6 m7 m8 m9 m10 m11 m12 m13 m14 m15 m16 m17 0 td sed mi fr to lim f1 f2 dis pin ag en cm mc su isu fir lgt ofs rn wsn i_ (by first | assumption | omega)) (fun _ => rfl) (q0 := 0) (ci := 3) rfl rfl gX3_room_X3_isIssuer rfl rfl rfl ⟨rfl, by decide, by decide, by decide +kernel⟩ ⟨Nat.le_of_ble_eq_true rfl, Nat.le_of_ble_eq_true rfl⟩ rfl hl.1 rfl (Nat.le_of_ble_eq_true rfl) dX3_room_7 ⟨Nat.zero_le _, Nat.zero_le _⟩ (fun r_1 u H locs e_2 hP hD hS => ?_)
  have hP : va_P D vwCl (wM cy m0 m1 m2 m3 m4 m5 m6 m7 m8 m9 m10 m11 m12 m13 m14 m15 m16 m17 0 td sed mi fr to lim f1 f2 dis pin ag en cm mc su isu fir lgt ofs rn wsn) H := hP
  have hD : va_D A (wM cy m0 m1 m2 m3 m4 m5 m6 m7 m8 m9 m10 m11 m12 m13 m14 m15 m16 m17 0 td sed mi fr to lim f1 f2 dis pin ag en cm mc su isu fir lgt ofs rn wsn) := hD
  have e_2 : r_1 = bI (badI mi i_ = false) := e_2
  subst e_2
  refine k_ifeq (tgt := 28) hx hb dX3_room_10 (by decide) (fun c_10 => ?_) (fun c_10 => ?_)
  · refine lv_aload_n hx hb dX3_room_28 rfl (lv_at hl 0 rfl) ?_
    refine lv_iconst (v := 1) hx hb dX3_room_29 (by decide) ?_
    refine kcW_i (n := 1) (wc := wM cy m0 m1 m2 m3 m4 m5 m6 m7 m8 m9 m10 m11 m12 m13 m14 m15 m16 m17 0 td sed mi fr to lim f1 f2 dis pin ag en cm mc su isu fir lgt ofs rn wsn) (As := [.int 1]) (rest := []) ⟨hx, hb, hml, hown, hts⟩ hE hA hP hD hS (c_X3_fails l D cy m0 m1 m2 m3 m4 m5 m6 m7 m8 m9 m10 m11 m12 m13 m14 m15 m16 m17 0 td sed mi fr to lim f1 f2 dis pin ag en cm mc su isu fir lgt ofs rn wsn 1) (fun _ => Eq.trans (b := [m0, m1, m2, m3, m4, m5, m6, m7, m8, m9, m10, m11, m12, m13, m14, m15, m16, m17]) rfl rfl) (q0 := 0) (ci := 3) rfl rfl gX3_room_X3_fails rfl rfl rfl ⟨rfl, by decide, by decide, by decide +kernel⟩ ⟨Nat.le_of_ble_eq_true rfl, Nat.le_of_ble_eq_true rfl⟩ rfl hl.1 rfl (Nat.le_of_ble_eq_true rfl) dX3_room_30 ⟨Nat.zero_le _, Nat.zero_le _⟩ (fun r_3 u H locs e_4 hP hD hS => ?_)
    have hP : va_P D vwCl (wM cy m0 m1 m2 m3 m4 m5 m6 m7 m8 m9 m10 m11 m12 m13 m14 m15 m16 m17 1 td sed mi fr to lim f1 f2 dis pin ag en cm mc su isu fir lgt ofs rn wsn) H := hP
    have hD : va_D A (wM cy m0 m1 m2 m3 m4 m5 m6 m7 m8 m9 m10 m11 m12 m13 m14 m15 m16 m17 1 td sed mi fr to lim f1 f2 dis pin ag en cm mc su isu fir lgt ofs rn wsn) := hD
    have e_4 : r_3 = 0 := e_4
    subst e_4
    exact absurd hcd (by simp [cdOne, c_10])
  · have hix_i_ := (badI_ok (i := i_) (by assumption) (by omega)).2
    refine lv_aload_n hx hb dX3_room_13 rfl (lv_at hl 0 rfl) ?_
    refine va_get (D := D) (ci := 3) (v := .ref m3) (C := RX3) (T := TX3) (N := 22) hx hb hts g_X3 hown hE.1 hP 0 rfl rfl 6 (by decide) f_20 (fun _ h9 => h9) rfl dX3_room_14 ?_
    refine lv_iload_n hx hb dX3_room_17 rfl (lv_at hl 1 rfl) ?_
    refine k_top (z := nI (ix i_)) (badI_ok (i := i_) (by assumption) (by omega)).1 ?_
    refine k_ild hx hb hE.1 hP 3 0 rfl rfl (j := (ix i_)) (by omega) (by decide) dX3_room_18 ?_
    refine lv_aload_n hx hb dX3_room_19 rfl (lv_at hl 0 rfl) ?_
    refine lv_iload_n hx hb dX3_room_20 rfl (lv_at hl 1 rfl) ?_
    refine k_top (z := nI (ix i_)) (badI_ok (i := i_) (by assumption) (by omega)).1 ?_
    refine kcW_i (n := 1) (wc := wM cy m0 m1 m2 m3 m4 m5 m6 m7 m8 m9 m10 m11 m12 m13 m14 m15 m16 m17 0 td sed mi fr to lim f1 f2 dis pin ag en cm mc su isu fir lgt ofs rn wsn) (As := [.int (nI (ix i_))]) (rest := [.int (lim (ix i_))]) ⟨hx, hb, hml, hown, hts⟩ hE hA hP hD hS (c_X3_issued l D cy m0 m1 m2 m3 m4 m5 m6 m7 m8 m9 m10 m11 m12 m13 m14 m15 m16 m17 0 td sed mi fr to lim f1 f2 dis pin ag en cm mc su isu fir lgt ofs rn wsn (nI (ix i_)) (by first | assumption | omega)) (fun _ => rfl) (q0 := 0) (ci := 3) rfl rfl gX3_room_X3_issued rfl rfl rfl ⟨rfl, by decide, by decide, by decide +kernel⟩ ⟨Nat.le_of_ble_eq_true rfl, Nat.le_of_ble_eq_true rfl⟩ rfl hl.1 rfl (Nat.le_of_ble_eq_true rfl) dX3_room_21 ⟨Nat.zero_le _, Nat.zero_le _⟩ (fun r_5 u H locs e_6 hP hD hS => ?_)
    have hP : va_P D vwCl (wM cy m0 m1 m2 m3 m4 m5 m6 m7 m8 m9 m10 m11 m12 m13 m14 m15 m16 m17 0 td sed mi fr to lim f1 f2 dis pin ag en cm mc su isu fir lgt ofs rn wsn) H := hP
    have hD : va_D A (wM cy m0 m1 m2 m3 m4 m5 m6 m7 m8 m9 m10 m11 m12 m13 m14 m15 m16 m17 0 td sed mi fr to lim f1 f2 dis pin ag en cm mc su isu fir lgt ofs rn wsn) := hD
    have e_6 : r_5 = iwN isu fir (nI (ix i_)) (td / 7) mc := e_6
    subst e_6
    refine lv_isub hx hb dX3_room_24 ?_
    refine lv_goto (tgt := 33) hx hb dX3_room_25 (by decide) ?_
    exact hret _ _ _ _ ((lim (ix i_)) - (iwN isu fir (nI (ix i_)) (td / 7) mc)) () dX3_room_33 (Or.inl rfl) rfl hP hS

set_option maxHeartbeats 4000000 in
set_option maxRecDepth 100000 in
theorem c_X3_room_f (l : Launch) (D : va_G) (cy : ClassId × ClassId × ClassId) (m0 m1 m2 m3 m4 m5 m6 m7 m8 m9 m10 m11 m12 m13 m14 m15 m16 m17 : Nat) (th td sed : Int32) (mi : Nat) (fr to lim f1 f2 dis pin ag en cm : Nat → Int32) (mc : Nat) (su isu fir lgt ofs rn wsn : Nat → Int32) (i_ : Int32) (hm : mi ≤ 8) (hc : mc ≤ 60) (hcd : ¬ cdOne mi i_ = 0) : kI l D cy yX3_room wsX3_room (krm 2 43) [.ref m0, .int i_] (wM cy m0 m1 m2 m3 m4 m5 m6 m7 m8 m9 m10 m11 m12 m13 m14 m15 m16 m17 th td sed mi fr to lim f1 f2 dis pin ag en cm mc su isu fir lgt ofs rn wsn) (fun (r : Int32) (u : Unit) => True) (fun _ : Unit => wM cy m0 m1 m2 m3 m4 m5 m6 m7 m8 m9 m10 m11 m12 m13 m14 m15 m16 m17 (cdOne mi i_) td sed mi fr to lim f1 f2 dis pin ag en cm mc su isu fir lgt ofs rn wsn) := by
  refine kI.of (cc := cX3_room) (maxL := 2) (rt := .int) (Or.inl rfl) (by decide) rfl (Nat.le_of_ble_eq_true rfl) ?_
  intro p e s m args below meth c Q A ls hx hb hml hown hts hE hA hP hD hl hret
  have hS : va_S A s.heap s.heap [] := va_S.rf
  have hl : lv_has ls 2 [(0, .ref m0), (1, .int i_)] := hl
  have g_X3 : ∀ w ∈ wsX30, w ∈ wsX3_room := by decide +kernel
  have f_66 := hts (.fieldLink RX3 66 "CertHerdModel" "thrown" "I") (by decide +kernel)
  have f_20 := hts (.fieldLink RX3 20 "CertHerdModel" "limits" "[I") (by decide +kernel)
  refine lv_aload_n hx hb dX3_room_0 rfl (lv_at hl 0 rfl) ?_
  refine lv_iconst (v := 0) hx hb dX3_room_1 (by decide) ?_
  refine va_put (D := D) (ci := 3) (v := .int 0) (ty := .int) (C := RX3) (T := TX3) (N := 22) hx hb hts g_X3 tyX3 tyX3_ok nmX3 hown hE.1 hP hD hS 0 rfl rfl 0 (by decide) f_66 (fun _ h9 => h9) rfl (by decide +kernel) rfl rfl (Nat.le_of_ble_eq_true rfl) dX3_room_2 (fun H locs hP hD hS => ?_)
  have hP : va_P D vwCl (wM cy m0 m1 m2 m3 m4 m5 m6 m7 m8 m9 m10 m11 m12 m13 m14 m15 m16 m17 0 td sed mi fr to lim f1 f2 dis pin ag en cm mc su isu fir lgt ofs rn wsn) H := hP
  have hD : va_D A (wM cy m0 m1 m2 m3 m4 m5 m6 m7 m8 m9 m10 m11 m12 m13 m14 m15 m16 m17 0 td sed mi fr to lim f1 f2 dis pin ag en cm mc su isu fir lgt ofs rn wsn) := hD
  refine lv_aload_n hx hb dX3_room_5 rfl (lv_at hl 0 rfl) ?_
  refine lv_iload_n hx hb dX3_room_6 rfl (lv_at hl 1 rfl) ?_
  refine kcW_i (n := 1) (wc := wM cy m0 m1 m2 m3 m4 m5 m6 m7 m8 m9 m10 m11 m12 m13 m14 m15 m16 m17 0 td sed mi fr to lim f1 f2 dis pin ag en cm mc su isu fir lgt ofs rn wsn) (As := [.int i_]) (rest := []) ⟨hx, hb, hml, hown, hts⟩ hE hA hP hD hS (c_X3_isIssuer l D cy m0 m1 m2 m3 m4 m5 m6 m7 m8 m9 m10 m11 m12 m13 m14 m15 m16 m17 0 td sed mi fr to lim f1 f2 dis pin ag en cm mc su isu fir lgt ofs rn wsn i_ (by first | assumption | omega)) (fun _ => rfl) (q0 := 0) (ci := 3) rfl rfl gX3_room_X3_isIssuer rfl rfl rfl ⟨rfl, by decide, by decide, by decide +kernel⟩ ⟨Nat.le_of_ble_eq_true rfl, Nat.le_of_ble_eq_true rfl⟩ rfl hl.1 rfl (Nat.le_of_ble_eq_true rfl) dX3_room_7 ⟨Nat.zero_le _, Nat.zero_le _⟩ (fun r_1 u H locs e_2 hP hD hS => ?_)
  have hP : va_P D vwCl (wM cy m0 m1 m2 m3 m4 m5 m6 m7 m8 m9 m10 m11 m12 m13 m14 m15 m16 m17 0 td sed mi fr to lim f1 f2 dis pin ag en cm mc su isu fir lgt ofs rn wsn) H := hP
  have hD : va_D A (wM cy m0 m1 m2 m3 m4 m5 m6 m7 m8 m9 m10 m11 m12 m13 m14 m15 m16 m17 0 td sed mi fr to lim f1 f2 dis pin ag en cm mc su isu fir lgt ofs rn wsn) := hD
  have e_2 : r_1 = bI (badI mi i_ = false) := e_2
  subst e_2
  refine k_ifeq (tgt := 28) hx hb dX3_room_10 (by decide) (fun c_10 => ?_) (fun c_10 => ?_)
  · refine lv_aload_n hx hb dX3_room_28 rfl (lv_at hl 0 rfl) ?_
    refine lv_iconst (v := 1) hx hb dX3_room_29 (by decide) ?_
    refine kcW_i (n := 1) (wc := wM cy m0 m1 m2 m3 m4 m5 m6 m7 m8 m9 m10 m11 m12 m13 m14 m15 m16 m17 0 td sed mi fr to lim f1 f2 dis pin ag en cm mc su isu fir lgt ofs rn wsn) (As := [.int 1]) (rest := []) ⟨hx, hb, hml, hown, hts⟩ hE hA hP hD hS (c_X3_fails l D cy m0 m1 m2 m3 m4 m5 m6 m7 m8 m9 m10 m11 m12 m13 m14 m15 m16 m17 0 td sed mi fr to lim f1 f2 dis pin ag en cm mc su isu fir lgt ofs rn wsn 1) (fun _ => Eq.trans (b := [m0, m1, m2, m3, m4, m5, m6, m7, m8, m9, m10, m11, m12, m13, m14, m15, m16, m17]) rfl rfl) (q0 := 0) (ci := 3) rfl rfl gX3_room_X3_fails rfl rfl rfl ⟨rfl, by decide, by decide, by decide +kernel⟩ ⟨Nat.le_of_ble_eq_true rfl, Nat.le_of_ble_eq_true rfl⟩ rfl hl.1 rfl (Nat.le_of_ble_eq_true rfl) dX3_room_30 ⟨Nat.zero_le _, Nat.zero_le _⟩ (fun r_3 u H locs e_4 hP hD hS => ?_)
    have hP : va_P D vwCl (wM cy m0 m1 m2 m3 m4 m5 m6 m7 m8 m9 m10 m11 m12 m13 m14 m15 m16 m17 1 td sed mi fr to lim f1 f2 dis pin ag en cm mc su isu fir lgt ofs rn wsn) H := hP
    have hD : va_D A (wM cy m0 m1 m2 m3 m4 m5 m6 m7 m8 m9 m10 m11 m12 m13 m14 m15 m16 m17 1 td sed mi fr to lim f1 f2 dis pin ag en cm mc su isu fir lgt ofs rn wsn) := hD
    have e_4 : r_3 = 0 := e_4
    subst e_4
    have w_th : 1 = cdOne mi i_ := (by simp [cdOne, c_10])
    exact hret _ _ _ _ 0 () dX3_room_33 (Or.inl rfl) trivial (by show va_P D vwCl (wM cy m0 m1 m2 m3 m4 m5 m6 m7 m8 m9 m10 m11 m12 m13 m14 m15 m16 m17 (cdOne mi i_) td sed mi fr to lim f1 f2 dis pin ag en cm mc su isu fir lgt ofs rn wsn) _; rw [← w_th]; exact hP) hS
  · have hix_i_ := (badI_ok (i := i_) (by assumption) (by omega)).2
    refine lv_aload_n hx hb dX3_room_13 rfl (lv_at hl 0 rfl) ?_
    refine va_get (D := D) (ci := 3) (v := .ref m3) (C := RX3) (T := TX3) (N := 22) hx hb hts g_X3 hown hE.1 hP 0 rfl rfl 6 (by decide) f_20 (fun _ h9 => h9) rfl dX3_room_14 ?_
    refine lv_iload_n hx hb dX3_room_17 rfl (lv_at hl 1 rfl) ?_
    refine k_top (z := nI (ix i_)) (badI_ok (i := i_) (by assumption) (by omega)).1 ?_
    refine k_ild hx hb hE.1 hP 3 0 rfl rfl (j := (ix i_)) (by omega) (by decide) dX3_room_18 ?_
    refine lv_aload_n hx hb dX3_room_19 rfl (lv_at hl 0 rfl) ?_
    refine lv_iload_n hx hb dX3_room_20 rfl (lv_at hl 1 rfl) ?_
    refine k_top (z := nI (ix i_)) (badI_ok (i := i_) (by assumption) (by omega)).1 ?_
    refine kcW_i (n := 1) (wc := wM cy m0 m1 m2 m3 m4 m5 m6 m7 m8 m9 m10 m11 m12 m13 m14 m15 m16 m17 0 td sed mi fr to lim f1 f2 dis pin ag en cm mc su isu fir lgt ofs rn wsn) (As := [.int (nI (ix i_))]) (rest := [.int (lim (ix i_))]) ⟨hx, hb, hml, hown, hts⟩ hE hA hP hD hS (c_X3_issued l D cy m0 m1 m2 m3 m4 m5 m6 m7 m8 m9 m10 m11 m12 m13 m14 m15 m16 m17 0 td sed mi fr to lim f1 f2 dis pin ag en cm mc su isu fir lgt ofs rn wsn (nI (ix i_)) (by first | assumption | omega)) (fun _ => rfl) (q0 := 0) (ci := 3) rfl rfl gX3_room_X3_issued rfl rfl rfl ⟨rfl, by decide, by decide, by decide +kernel⟩ ⟨Nat.le_of_ble_eq_true rfl, Nat.le_of_ble_eq_true rfl⟩ rfl hl.1 rfl (Nat.le_of_ble_eq_true rfl) dX3_room_21 ⟨Nat.zero_le _, Nat.zero_le _⟩ (fun r_5 u H locs e_6 hP hD hS => ?_)
    have hP : va_P D vwCl (wM cy m0 m1 m2 m3 m4 m5 m6 m7 m8 m9 m10 m11 m12 m13 m14 m15 m16 m17 0 td sed mi fr to lim f1 f2 dis pin ag en cm mc su isu fir lgt ofs rn wsn) H := hP
    have hD : va_D A (wM cy m0 m1 m2 m3 m4 m5 m6 m7 m8 m9 m10 m11 m12 m13 m14 m15 m16 m17 0 td sed mi fr to lim f1 f2 dis pin ag en cm mc su isu fir lgt ofs rn wsn) := hD
    have e_6 : r_5 = iwN isu fir (nI (ix i_)) (td / 7) mc := e_6
    subst e_6
    refine lv_isub hx hb dX3_room_24 ?_
    refine lv_goto (tgt := 33) hx hb dX3_room_25 (by decide) ?_
    exact absurd (by simp [cdOne, c_10]) hcd
