set_option maxHeartbeats 4000000 in
set_option maxRecDepth 100000 in
theorem c_X3_makes (l : Launch) (D : va_G) (cy : ClassId × ClassId × ClassId) (m0 m1 m2 m3 m4 m5 m6 m7 m8 m9 m10 m11 m12 m13 m14 m15 m16 m17 : Nat) (th td sed : Int32) (mi : Nat) (fr to lim f1 f2 dis pin ag en cm : Nat → Int32) (mc : Nat) (su isu fir lgt ofs rn wsn : Nat → Int32) (iu : Int32) (su_ : Int32) (ln : Int32) (hc : mc < 60) (hl0 : ¬ ln / 6 + 1 = 0) : kI l D cy yX3_makes wsX3_makes (krm 0 0) [.ref m0, .int iu, .int su_, .int ln] (wM cy m0 m1 m2 m3 m4 m5 m6 m7 m8 m9 m10 m11 m12 m13 m14 m15 m16 m17 th td sed mi fr to lim f1 f2 dis pin ag en cm mc su isu fir lgt ofs rn wsn) (fun (r : Int32) (u : Unit) => r = nI mc) (fun _ : Unit => wM cy m0 m1 m2 m3 m4 m5 m6 m7 m8 m9 m10 m11 m12 m13 m14 m15 m16 m17 th td (seedN sed) mi fr to lim f1 f2 dis pin ag en cm (mc + 1) (upd su mc su_) (upd isu mc iu) (upd fir mc td) (upd lgt mc ln) (upd ofs mc (offD (seedN sed) ln)) (upd rn mc (-1)) wsn) := by
  refine kI.of (cc := cX3_makes) (maxL := 4) (rt := .int) (Or.inl rfl) (by decide) rfl (Nat.le_of_ble_eq_true rfl) ?_
  intro p e s m args below meth c Q A ls hx hb hml hown hts hE hA hP hD hl hret
  have hS : va_S A s.heap s.heap [] := va_S.rf
  have hl : lv_has ls 4 [(0, .ref m0), (1, .int iu), (2, .int su_), (3, .int ln)] := hl
  have g_X3 : ∀ w ∈ wsX30, w ∈ wsX3_makes := by decide +kernel
  have f_7 := hts (.fieldLink RX3 7 "CertHerdModel" "seed" "I") (by decide +kernel)
  have f_45 := hts (.fieldLink RX3 45 "CertHerdModel" "subjects" "[I") (by decide +kernel)
  have f_76 := hts (.fieldLink RX3 76 "CertHerdModel" "certMany" "I") (by decide +kernel)
  have f_48 := hts (.fieldLink RX3 48 "CertHerdModel" "issuers" "[I") (by decide +kernel)
  have f_51 := hts (.fieldLink RX3 51 "CertHerdModel" "firsts" "[I") (by decide +kernel)
  have f_96 := hts (.fieldLink RX3 96 "CertHerdModel" "today" "I") (by decide +kernel)
  have f_54 := hts (.fieldLink RX3 54 "CertHerdModel" "lengths" "[I") (by decide +kernel)
  have f_57 := hts (.fieldLink RX3 57 "CertHerdModel" "offsets" "[I") (by decide +kernel)
  have f_60 := hts (.fieldLink RX3 60 "CertHerdModel" "renewals" "[I") (by decide +kernel)
  refine lv_aload_n hx hb dX3_makes_0 rfl (lv_at hl 0 rfl) ?_
  refine lv_aload_n hx hb dX3_makes_1 rfl (lv_at hl 0 rfl) ?_
  refine va_get (D := D) (ci := 3) (v := .int sed) (C := RX3) (T := TX3) (N := 22) hx hb hts g_X3 hown hE.1 hP 0 rfl rfl 2 (by decide) f_7 (fun _ h9 => h9) rfl dX3_makes_2 ?_
  refine lv_ldc (v := 1103515245) hx hb hown (hts (.constant RX3 109 (1103515245)) (by decide +kernel)) dX3_makes_5 ?_
  refine lv_imul hx hb dX3_makes_7 ?_
  refine lv_sipush (v := 12345) hx hb dX3_makes_8 (by decide) ?_
  refine lv_iadd hx hb dX3_makes_11 ?_
  refine va_put (D := D) (ci := 3) (v := .int ((sed * 1103515245) + 12345)) (ty := .int) (C := RX3) (T := TX3) (N := 22) hx hb hts g_X3 tyX3 tyX3_ok nmX3 hown hE.1 hP hD hS 0 rfl rfl 2 (by decide) f_7 (fun _ h9 => h9) rfl (by decide +kernel) rfl rfl (Nat.le_of_ble_eq_true rfl) dX3_makes_12 (fun H locs hP hD hS => ?_)
  have hP : va_P D vwCl (wM cy m0 m1 m2 m3 m4 m5 m6 m7 m8 m9 m10 m11 m12 m13 m14 m15 m16 m17 th td ((sed * 1103515245) + 12345) mi fr to lim f1 f2 dis pin ag en cm mc su isu fir lgt ofs rn wsn) H := hP
  have hD : va_D A (wM cy m0 m1 m2 m3 m4 m5 m6 m7 m8 m9 m10 m11 m12 m13 m14 m15 m16 m17 th td ((sed * 1103515245) + 12345) mi fr to lim f1 f2 dis pin ag en cm mc su isu fir lgt ofs rn wsn) := hD
  refine lv_aload_n hx hb dX3_makes_15 rfl (lv_at hl 0 rfl) ?_
  refine va_get (D := D) (ci := 3) (v := .ref m11) (C := RX3) (T := TX3) (N := 22) hx hb hts g_X3 hown hE.1 hP 0 rfl rfl 15 (by decide) f_45 (fun _ h9 => h9) rfl dX3_makes_16 ?_
  refine lv_aload_n hx hb dX3_makes_19 rfl (lv_at hl 0 rfl) ?_
  refine va_get (D := D) (ci := 3) (v := .int (nI mc)) (C := RX3) (T := TX3) (N := 22) hx hb hts g_X3 hown hE.1 hP 0 rfl rfl 14 (by decide) f_76 (fun _ h9 => h9) rfl dX3_makes_20 ?_
  refine lv_iload_n hx hb dX3_makes_23 rfl (lv_at hl 2 rfl) ?_
  refine k_ist hx hb hE.1 hP hD hS 11 0 rfl rfl (j := mc) (by omega) (by decide) dX3_makes_24 (fun H locs hP hD hS => ?_)
  have hP : va_P D vwCl (wM cy m0 m1 m2 m3 m4 m5 m6 m7 m8 m9 m10 m11 m12 m13 m14 m15 m16 m17 th td ((sed * 1103515245) + 12345) mi fr to lim f1 f2 dis pin ag en cm mc (upd su mc su_) isu fir lgt ofs rn wsn) H := hP
  have hD : va_D A (wM cy m0 m1 m2 m3 m4 m5 m6 m7 m8 m9 m10 m11 m12 m13 m14 m15 m16 m17 th td ((sed * 1103515245) + 12345) mi fr to lim f1 f2 dis pin ag en cm mc (upd su mc su_) isu fir lgt ofs rn wsn) := hD
  refine lv_aload_n hx hb dX3_makes_25 rfl (lv_at hl 0 rfl) ?_
  refine va_get (D := D) (ci := 3) (v := .ref m12) (C := RX3) (T := TX3) (N := 22) hx hb hts g_X3 hown hE.1 hP 0 rfl rfl 16 (by decide) f_48 (fun _ h9 => h9) rfl dX3_makes_26 ?_
  refine lv_aload_n hx hb dX3_makes_29 rfl (lv_at hl 0 rfl) ?_
  refine va_get (D := D) (ci := 3) (v := .int (nI mc)) (C := RX3) (T := TX3) (N := 22) hx hb hts g_X3 hown hE.1 hP 0 rfl rfl 14 (by decide) f_76 (fun _ h9 => h9) rfl dX3_makes_30 ?_
  refine lv_iload_n hx hb dX3_makes_33 rfl (lv_at hl 1 rfl) ?_
  refine k_ist hx hb hE.1 hP hD hS 12 0 rfl rfl (j := mc) (by omega) (by decide) dX3_makes_34 (fun H locs hP hD hS => ?_)
  have hP : va_P D vwCl (wM cy m0 m1 m2 m3 m4 m5 m6 m7 m8 m9 m10 m11 m12 m13 m14 m15 m16 m17 th td ((sed * 1103515245) + 12345) mi fr to lim f1 f2 dis pin ag en cm mc (upd su mc su_) (upd isu mc iu) fir lgt ofs rn wsn) H := hP
  have hD : va_D A (wM cy m0 m1 m2 m3 m4 m5 m6 m7 m8 m9 m10 m11 m12 m13 m14 m15 m16 m17 th td ((sed * 1103515245) + 12345) mi fr to lim f1 f2 dis pin ag en cm mc (upd su mc su_) (upd isu mc iu) fir lgt ofs rn wsn) := hD
  refine lv_aload_n hx hb dX3_makes_35 rfl (lv_at hl 0 rfl) ?_
  refine va_get (D := D) (ci := 3) (v := .ref m13) (C := RX3) (T := TX3) (N := 22) hx hb hts g_X3 hown hE.1 hP 0 rfl rfl 17 (by decide) f_51 (fun _ h9 => h9) rfl dX3_makes_36 ?_
  refine lv_aload_n hx hb dX3_makes_39 rfl (lv_at hl 0 rfl) ?_
  refine va_get (D := D) (ci := 3) (v := .int (nI mc)) (C := RX3) (T := TX3) (N := 22) hx hb hts g_X3 hown hE.1 hP 0 rfl rfl 14 (by decide) f_76 (fun _ h9 => h9) rfl dX3_makes_40 ?_
  refine lv_aload_n hx hb dX3_makes_43 rfl (lv_at hl 0 rfl) ?_
  refine va_get (D := D) (ci := 3) (v := .int td) (C := RX3) (T := TX3) (N := 22) hx hb hts g_X3 hown hE.1 hP 0 rfl rfl 1 (by decide) f_96 (fun _ h9 => h9) rfl dX3_makes_44 ?_
  refine k_ist hx hb hE.1 hP hD hS 13 0 rfl rfl (j := mc) (by omega) (by decide) dX3_makes_47 (fun H locs hP hD hS => ?_)
  have hP : va_P D vwCl (wM cy m0 m1 m2 m3 m4 m5 m6 m7 m8 m9 m10 m11 m12 m13 m14 m15 m16 m17 th td ((sed * 1103515245) + 12345) mi fr to lim f1 f2 dis pin ag en cm mc (upd su mc su_) (upd isu mc iu) (upd fir mc td) lgt ofs rn wsn) H := hP
  have hD : va_D A (wM cy m0 m1 m2 m3 m4 m5 m6 m7 m8 m9 m10 m11 m12 m13 m14 m15 m16 m17 th td ((sed * 1103515245) + 12345) mi fr to lim f1 f2 dis pin ag en cm mc (upd su mc su_) (upd isu mc iu) (upd fir mc td) lgt ofs rn wsn) := hD
  refine lv_aload_n hx hb dX3_makes_48 rfl (lv_at hl 0 rfl) ?_
  refine va_get (D := D) (ci := 3) (v := .ref m14) (C := RX3) (T := TX3) (N := 22) hx hb hts g_X3 hown hE.1 hP 0 rfl rfl 18 (by decide) f_54 (fun _ h9 => h9) rfl dX3_makes_49 ?_
  refine lv_aload_n hx hb dX3_makes_52 rfl (lv_at hl 0 rfl) ?_
  refine va_get (D := D) (ci := 3) (v := .int (nI mc)) (C := RX3) (T := TX3) (N := 22) hx hb hts g_X3 hown hE.1 hP 0 rfl rfl 14 (by decide) f_76 (fun _ h9 => h9) rfl dX3_makes_53 ?_
  refine lv_iload_n hx hb dX3_makes_56 rfl (lv_at hl 3 rfl) ?_
  refine k_ist hx hb hE.1 hP hD hS 14 0 rfl rfl (j := mc) (by omega) (by decide) dX3_makes_57 (fun H locs hP hD hS => ?_)
  have hP : va_P D vwCl (wM cy m0 m1 m2 m3 m4 m5 m6 m7 m8 m9 m10 m11 m12 m13 m14 m15 m16 m17 th td ((sed * 1103515245) + 12345) mi fr to lim f1 f2 dis pin ag en cm mc (upd su mc su_) (upd isu mc iu) (upd fir mc td) (upd lgt mc ln) ofs rn wsn) H := hP
  have hD : va_D A (wM cy m0 m1 m2 m3 m4 m5 m6 m7 m8 m9 m10 m11 m12 m13 m14 m15 m16 m17 th td ((sed * 1103515245) + 12345) mi fr to lim f1 f2 dis pin ag en cm mc (upd su mc su_) (upd isu mc iu) (upd fir mc td) (upd lgt mc ln) ofs rn wsn) := hD
  refine lv_aload_n hx hb dX3_makes_58 rfl (lv_at hl 0 rfl) ?_
  refine va_get (D := D) (ci := 3) (v := .ref m15) (C := RX3) (T := TX3) (N := 22) hx hb hts g_X3 hown hE.1 hP 0 rfl rfl 19 (by decide) f_57 (fun _ h9 => h9) rfl dX3_makes_59 ?_
  refine lv_aload_n hx hb dX3_makes_62 rfl (lv_at hl 0 rfl) ?_
  refine va_get (D := D) (ci := 3) (v := .int (nI mc)) (C := RX3) (T := TX3) (N := 22) hx hb hts g_X3 hown hE.1 hP 0 rfl rfl 14 (by decide) f_76 (fun _ h9 => h9) rfl dX3_makes_63 ?_
  refine lv_aload_n hx hb dX3_makes_66 rfl (lv_at hl 0 rfl) ?_
  refine va_get (D := D) (ci := 3) (v := .int ((sed * 1103515245) + 12345)) (C := RX3) (T := TX3) (N := 22) hx hb hts g_X3 hown hE.1 hP 0 rfl rfl 2 (by decide) f_7 (fun _ h9 => h9) rfl dX3_makes_67 ?_
  refine lv_bipush (v := 16) hx hb dX3_makes_70 (by decide) ?_
  refine lv_iushr hx hb dX3_makes_72 rfl ?_
  refine lv_iload_n hx hb dX3_makes_73 rfl (lv_at hl 3 rfl) ?_
  refine lv_bipush (v := 6) hx hb dX3_makes_74 (by decide) ?_
  refine lv_idiv hx hb dX3_makes_76 (by decide) ?_
  refine lv_iconst (v := 1) hx hb dX3_makes_77 (by decide) ?_
  refine lv_iadd hx hb dX3_makes_78 ?_
  refine lv_irem hx hb dX3_makes_79 hl0 ?_
  refine k_ist hx hb hE.1 hP hD hS 15 0 rfl rfl (j := mc) (by omega) (by decide) dX3_makes_80 (fun H locs hP hD hS => ?_)
  have hP : va_P D vwCl (wM cy m0 m1 m2 m3 m4 m5 m6 m7 m8 m9 m10 m11 m12 m13 m14 m15 m16 m17 th td ((sed * 1103515245) + 12345) mi fr to lim f1 f2 dis pin ag en cm mc (upd su mc su_) (upd isu mc iu) (upd fir mc td) (upd lgt mc ln) (upd ofs mc (((((sed * 1103515245) + 12345).toUInt32 >>> ((16 : Int32).toUInt32 &&& Int32.toUInt32 31)).toInt32) - ((((sed * 1103515245) + 12345).toUInt32 >>> ((16 : Int32).toUInt32 &&& Int32.toUInt32 31)).toInt32) / ((ln / 6) + 1) * ((ln / 6) + 1))) rn wsn) H := hP
  have hD : va_D A (wM cy m0 m1 m2 m3 m4 m5 m6 m7 m8 m9 m10 m11 m12 m13 m14 m15 m16 m17 th td ((sed * 1103515245) + 12345) mi fr to lim f1 f2 dis pin ag en cm mc (upd su mc su_) (upd isu mc iu) (upd fir mc td) (upd lgt mc ln) (upd ofs mc (((((sed * 1103515245) + 12345).toUInt32 >>> ((16 : Int32).toUInt32 &&& Int32.toUInt32 31)).toInt32) - ((((sed * 1103515245) + 12345).toUInt32 >>> ((16 : Int32).toUInt32 &&& Int32.toUInt32 31)).toInt32) / ((ln / 6) + 1) * ((ln / 6) + 1))) rn wsn) := hD
  refine lv_aload_n hx hb dX3_makes_81 rfl (lv_at hl 0 rfl) ?_
  refine va_get (D := D) (ci := 3) (v := .ref m16) (C := RX3) (T := TX3) (N := 22) hx hb hts g_X3 hown hE.1 hP 0 rfl rfl 20 (by decide) f_60 (fun _ h9 => h9) rfl dX3_makes_82 ?_
  refine lv_aload_n hx hb dX3_makes_85 rfl (lv_at hl 0 rfl) ?_
  refine va_get (D := D) (ci := 3) (v := .int (nI mc)) (C := RX3) (T := TX3) (N := 22) hx hb hts g_X3 hown hE.1 hP 0 rfl rfl 14 (by decide) f_76 (fun _ h9 => h9) rfl dX3_makes_86 ?_
  refine lv_iconst (v := (-1)) hx hb dX3_makes_89 (by decide) ?_
  refine k_ist hx hb hE.1 hP hD hS 16 0 rfl rfl (j := mc) (by omega) (by decide) dX3_makes_90 (fun H locs hP hD hS => ?_)
  have hP : va_P D vwCl (wM cy m0 m1 m2 m3 m4 m5 m6 m7 m8 m9 m10 m11 m12 m13 m14 m15 m16 m17 th td ((sed * 1103515245) + 12345) mi fr to lim f1 f2 dis pin ag en cm mc (upd su mc su_) (upd isu mc iu) (upd fir mc td) (upd lgt mc ln) (upd ofs mc (((((sed * 1103515245) + 12345).toUInt32 >>> ((16 : Int32).toUInt32 &&& Int32.toUInt32 31)).toInt32) - ((((sed * 1103515245) + 12345).toUInt32 >>> ((16 : Int32).toUInt32 &&& Int32.toUInt32 31)).toInt32) / ((ln / 6) + 1) * ((ln / 6) + 1))) (upd rn mc (-1)) wsn) H := hP
  have hD : va_D A (wM cy m0 m1 m2 m3 m4 m5 m6 m7 m8 m9 m10 m11 m12 m13 m14 m15 m16 m17 th td ((sed * 1103515245) + 12345) mi fr to lim f1 f2 dis pin ag en cm mc (upd su mc su_) (upd isu mc iu) (upd fir mc td) (upd lgt mc ln) (upd ofs mc (((((sed * 1103515245) + 12345).toUInt32 >>> ((16 : Int32).toUInt32 &&& Int32.toUInt32 31)).toInt32) - ((((sed * 1103515245) + 12345).toUInt32 >>> ((16 : Int32).toUInt32 &&& Int32.toUInt32 31)).toInt32) / ((ln / 6) + 1) * ((ln / 6) + 1))) (upd rn mc (-1)) wsn) := hD
  refine lv_aload_n hx hb dX3_makes_91 rfl (lv_at hl 0 rfl) ?_
  refine lv_dup hx hb dX3_makes_92 rfl ?_
  refine va_get (D := D) (ci := 3) (v := .int (nI mc)) (C := RX3) (T := TX3) (N := 22) hx hb hts g_X3 hown hE.1 hP 0 rfl rfl 14 (by decide) f_76 (fun _ h9 => h9) rfl dX3_makes_93 ?_
  refine lv_iconst (v := 1) hx hb dX3_makes_96 (by decide) ?_
  refine lv_iadd hx hb dX3_makes_97 ?_
  refine k_top (z := nI (mc + 1)) (nI_1 _) ?_
  refine va_put (D := D) (ci := 3) (v := .int (nI (mc + 1))) (ty := .int) (C := RX3) (T := TX3) (N := 22) hx hb hts g_X3 tyX3 tyX3_ok nmX3 hown hE.1 hP hD hS 0 rfl rfl 14 (by decide) f_76 (fun _ h9 => h9) rfl (by decide +kernel) rfl rfl (Nat.le_of_ble_eq_true rfl) dX3_makes_98 (fun H locs hP hD hS => ?_)
  have hP : va_P D vwCl (wM cy m0 m1 m2 m3 m4 m5 m6 m7 m8 m9 m10 m11 m12 m13 m14 m15 m16 m17 th td ((sed * 1103515245) + 12345) mi fr to lim f1 f2 dis pin ag en cm (mc + 1) (upd su mc su_) (upd isu mc iu) (upd fir mc td) (upd lgt mc ln) (upd ofs mc (((((sed * 1103515245) + 12345).toUInt32 >>> ((16 : Int32).toUInt32 &&& Int32.toUInt32 31)).toInt32) - ((((sed * 1103515245) + 12345).toUInt32 >>> ((16 : Int32).toUInt32 &&& Int32.toUInt32 31)).toInt32) / ((ln / 6) + 1) * ((ln / 6) + 1))) (upd rn mc (-1)) wsn) H := hP
  have hD : va_D A (wM cy m0 m1 m2 m3 m4 m5 m6 m7 m8 m9 m10 m11 m12 m13 m14 m15 m16 m17 th td ((sed * 1103515245) + 12345) mi fr to lim f1 f2 dis pin ag en cm (mc + 1) (upd su mc su_) (upd isu mc iu) (upd fir mc td) (upd lgt mc ln) (upd ofs mc (((((sed * 1103515245) + 12345).toUInt32 >>> ((16 : Int32).toUInt32 &&& Int32.toUInt32 31)).toInt32) - ((((sed * 1103515245) + 12345).toUInt32 >>> ((16 : Int32).toUInt32 &&& Int32.toUInt32 31)).toInt32) / ((ln / 6) + 1) * ((ln / 6) + 1))) (upd rn mc (-1)) wsn) := hD
  refine lv_aload_n hx hb dX3_makes_101 rfl (lv_at hl 0 rfl) ?_
  refine va_get (D := D) (ci := 3) (v := .int (nI (mc + 1))) (C := RX3) (T := TX3) (N := 22) hx hb hts g_X3 hown hE.1 hP 0 rfl rfl 14 (by decide) f_76 (fun _ h9 => h9) rfl dX3_makes_102 ?_
  refine lv_iconst (v := 1) hx hb dX3_makes_105 (by decide) ?_
  refine lv_isub hx hb dX3_makes_106 ?_
  refine k_top (z := nI mc) (nI_pred _) ?_
  exact hret _ _ _ _ (nI mc) () dX3_makes_107 (Or.inl rfl) rfl hP hS

set_option maxHeartbeats 4000000 in
set_option maxRecDepth 100000 in
theorem c_X3_last (l : Launch) (D : va_G) (cy : ClassId × ClassId × ClassId) (m0 m1 m2 m3 m4 m5 m6 m7 m8 m9 m10 m11 m12 m13 m14 m15 m16 m17 : Nat) (th td sed : Int32) (mi : Nat) (fr to lim f1 f2 dis pin ag en cm : Nat → Int32) (mc : Nat) (su isu fir lgt ofs rn wsn : Nat → Int32) (j : Nat) (hj : j < 60) : kI l D cy yX3_last wsX3_last (krm 0 0) [.ref m0, .int (nI j)] (wM cy m0 m1 m2 m3 m4 m5 m6 m7 m8 m9 m10 m11 m12 m13 m14 m15 m16 m17 th td sed mi fr to lim f1 f2 dis pin ag en cm mc su isu fir lgt ofs rn wsn) (fun (r : Int32) (u : Unit) => r = ctEnd fir lgt j) (fun _ : Unit => wM cy m0 m1 m2 m3 m4 m5 m6 m7 m8 m9 m10 m11 m12 m13 m14 m15 m16 m17 th td sed mi fr to lim f1 f2 dis pin ag en cm mc su isu fir lgt ofs rn wsn) := by
  refine kI.of (cc := cX3_last) (maxL := 2) (rt := .int) (Or.inl rfl) (by decide) rfl (Nat.le_of_ble_eq_true rfl) ?_
  intro p e s m args below meth c Q A ls hx hb hml hown hts hE hA hP hD hl hret
  have hS : va_S A s.heap s.heap [] := va_S.rf
  have hl : lv_has ls 2 [(0, .ref m0), (1, .int (nI j))] := hl
  have g_X3 : ∀ w ∈ wsX30, w ∈ wsX3_last := by decide +kernel
  have f_51 := hts (.fieldLink RX3 51 "CertHerdModel" "firsts" "[I") (by decide +kernel)
  have f_54 := hts (.fieldLink RX3 54 "CertHerdModel" "lengths" "[I") (by decide +kernel)
  refine lv_aload_n hx hb dX3_last_0 rfl (lv_at hl 0 rfl) ?_
  refine va_get (D := D) (ci := 3) (v := .ref m13) (C := RX3) (T := TX3) (N := 22) hx hb hts g_X3 hown hE.1 hP 0 rfl rfl 17 (by decide) f_51 (fun _ h9 => h9) rfl dX3_last_1 ?_
  refine lv_iload_n hx hb dX3_last_4 rfl (lv_at hl 1 rfl) ?_
  refine k_ild hx hb hE.1 hP 13 0 rfl rfl (j := j) (by omega) (by decide) dX3_last_5 ?_
  refine lv_aload_n hx hb dX3_last_6 rfl (lv_at hl 0 rfl) ?_
  refine va_get (D := D) (ci := 3) (v := .ref m14) (C := RX3) (T := TX3) (N := 22) hx hb hts g_X3 hown hE.1 hP 0 rfl rfl 18 (by decide) f_54 (fun _ h9 => h9) rfl dX3_last_7 ?_
  refine lv_iload_n hx hb dX3_last_10 rfl (lv_at hl 1 rfl) ?_
  refine k_ild hx hb hE.1 hP 14 0 rfl rfl (j := j) (by omega) (by decide) dX3_last_11 ?_
  refine lv_iadd hx hb dX3_last_12 ?_
  refine lv_iconst (v := 1) hx hb dX3_last_13 (by decide) ?_
  refine lv_isub hx hb dX3_last_14 ?_
  exact hret _ _ _ _ (((fir j) + (lgt j)) - 1) () dX3_last_15 (Or.inl rfl) rfl hP hS

set_option maxHeartbeats 4000000 in
set_option maxRecDepth 100000 in
theorem c_X3_due (l : Launch) (D : va_G) (cy : ClassId × ClassId × ClassId) (m0 m1 m2 m3 m4 m5 m6 m7 m8 m9 m10 m11 m12 m13 m14 m15 m16 m17 : Nat) (th td sed : Int32) (mi : Nat) (fr to lim f1 f2 dis pin ag en cm : Nat → Int32) (mc : Nat) (su isu fir lgt ofs rn wsn : Nat → Int32) (j : Nat) (hj : j < 60) : kI l D cy yX3_due wsX3_due (krm 0 0) [.ref m0, .int (nI j)] (wM cy m0 m1 m2 m3 m4 m5 m6 m7 m8 m9 m10 m11 m12 m13 m14 m15 m16 m17 th td sed mi fr to lim f1 f2 dis pin ag en cm mc su isu fir lgt ofs rn wsn) (fun (r : Int32) (u : Unit) => r = dueM fir lgt ofs j) (fun _ : Unit => wM cy m0 m1 m2 m3 m4 m5 m6 m7 m8 m9 m10 m11 m12 m13 m14 m15 m16 m17 th td sed mi fr to lim f1 f2 dis pin ag en cm mc su isu fir lgt ofs rn wsn) := by
  refine kI.of (cc := cX3_due) (maxL := 2) (rt := .int) (Or.inl rfl) (by decide) rfl (Nat.le_of_ble_eq_true rfl) ?_
  intro p e s m args below meth c Q A ls hx hb hml hown hts hE hA hP hD hl hret
  have hS : va_S A s.heap s.heap [] := va_S.rf
  have hl : lv_has ls 2 [(0, .ref m0), (1, .int (nI j))] := hl
  have g_X3 : ∀ w ∈ wsX30, w ∈ wsX3_due := by decide +kernel
  have f_51 := hts (.fieldLink RX3 51 "CertHerdModel" "firsts" "[I") (by decide +kernel)
  have f_54 := hts (.fieldLink RX3 54 "CertHerdModel" "lengths" "[I") (by decide +kernel)
  have f_57 := hts (.fieldLink RX3 57 "CertHerdModel" "offsets" "[I") (by decide +kernel)
  refine lv_aload_n hx hb dX3_due_0 rfl (lv_at hl 0 rfl) ?_
  refine va_get (D := D) (ci := 3) (v := .ref m13) (C := RX3) (T := TX3) (N := 22) hx hb hts g_X3 hown hE.1 hP 0 rfl rfl 17 (by decide) f_51 (fun _ h9 => h9) rfl dX3_due_1 ?_
  refine lv_iload_n hx hb dX3_due_4 rfl (lv_at hl 1 rfl) ?_
  refine k_ild hx hb hE.1 hP 13 0 rfl rfl (j := j) (by omega) (by decide) dX3_due_5 ?_
  refine lv_iconst (v := 2) hx hb dX3_due_6 (by decide) ?_
  refine lv_aload_n hx hb dX3_due_7 rfl (lv_at hl 0 rfl) ?_
  refine va_get (D := D) (ci := 3) (v := .ref m14) (C := RX3) (T := TX3) (N := 22) hx hb hts g_X3 hown hE.1 hP 0 rfl rfl 18 (by decide) f_54 (fun _ h9 => h9) rfl dX3_due_8 ?_
  refine lv_iload_n hx hb dX3_due_11 rfl (lv_at hl 1 rfl) ?_
  refine k_ild hx hb hE.1 hP 14 0 rfl rfl (j := j) (by omega) (by decide) dX3_due_12 ?_
  refine lv_imul hx hb dX3_due_13 ?_
  refine lv_iconst (v := 3) hx hb dX3_due_14 (by decide) ?_
  refine lv_idiv hx hb dX3_due_15 (by decide) ?_
  refine lv_iadd hx hb dX3_due_16 ?_
  refine lv_aload_n hx hb dX3_due_17 rfl (lv_at hl 0 rfl) ?_
  refine va_get (D := D) (ci := 3) (v := .ref m15) (C := RX3) (T := TX3) (N := 22) hx hb hts g_X3 hown hE.1 hP 0 rfl rfl 19 (by decide) f_57 (fun _ h9 => h9) rfl dX3_due_18 ?_
  refine lv_iload_n hx hb dX3_due_21 rfl (lv_at hl 1 rfl) ?_
  refine k_ild hx hb hE.1 hP 15 0 rfl rfl (j := j) (by omega) (by decide) dX3_due_22 ?_
  refine lv_iadd hx hb dX3_due_23 ?_
  exact hret _ _ _ _ (((fir j) + ((2 * (lgt j)) / 3)) + (ofs j)) () dX3_due_24 (Or.inl rfl) rfl hP hS

set_option maxHeartbeats 4000000 in
set_option maxRecDepth 100000 in
theorem c_X3_waits (l : Launch) (D : va_G) (cy : ClassId × ClassId × ClassId) (m0 m1 m2 m3 m4 m5 m6 m7 m8 m9 m10 m11 m12 m13 m14 m15 m16 m17 : Nat) (th td sed : Int32) (mi : Nat) (fr to lim f1 f2 dis pin ag en cm : Nat → Int32) (mc : Nat) (su isu fir lgt ofs rn wsn : Nat → Int32) (j : Nat) (hj : j < 60) : kI l D cy yX3_waits wsX3_waits (krm 1 21) [.ref m0, .int (nI j)] (wM cy m0 m1 m2 m3 m4 m5 m6 m7 m8 m9 m10 m11 m12 m13 m14 m15 m16 m17 th td sed mi fr to lim f1 f2 dis pin ag en cm mc su isu fir lgt ofs rn wsn) (fun (r : Int32) (u : Unit) => r = bI (wtM fir lgt ofs rn td j)) (fun _ : Unit => wM cy m0 m1 m2 m3 m4 m5 m6 m7 m8 m9 m10 m11 m12 m13 m14 m15 m16 m17 th td sed mi fr to lim f1 f2 dis pin ag en cm mc su isu fir lgt ofs rn wsn) := by
  refine kI.of (cc := cX3_waits) (maxL := 2) (rt := .boolean) (Or.inr rfl) (by decide) rfl (Nat.le_of_ble_eq_true rfl) ?_
  intro p e s m args below meth c Q A ls hx hb hml hown hts hE hA hP hD hl hret
  have hS : va_S A s.heap s.heap [] := va_S.rf
  have hl : lv_has ls 2 [(0, .ref m0), (1, .int (nI j))] := hl
  have g_X3 : ∀ w ∈ wsX30, w ∈ wsX3_waits := by decide +kernel
  have f_96 := hts (.fieldLink RX3 96 "CertHerdModel" "today" "I") (by decide +kernel)
  have f_60 := hts (.fieldLink RX3 60 "CertHerdModel" "renewals" "[I") (by decide +kernel)
  refine lv_aload_n hx hb dX3_waits_0 rfl (lv_at hl 0 rfl) ?_
  refine lv_iload_n hx hb dX3_waits_1 rfl (lv_at hl 1 rfl) ?_
  refine kcW_i (n := 1) (wc := wM cy m0 m1 m2 m3 m4 m5 m6 m7 m8 m9 m10 m11 m12 m13 m14 m15 m16 m17 th td sed mi fr to lim f1 f2 dis pin ag en cm mc su isu fir lgt ofs rn wsn) (As := [.int (nI j)]) (rest := []) ⟨hx, hb, hml, hown, hts⟩ hE hA hP hD hS (c_X3_due l D cy m0 m1 m2 m3 m4 m5 m6 m7 m8 m9 m10 m11 m12 m13 m14 m15 m16 m17 th td sed mi fr to lim f1 f2 dis pin ag en cm mc su isu fir lgt ofs rn wsn j (by first | assumption | omega)) (fun _ => rfl) (q0 := 0) (ci := 3) rfl rfl gX3_waits_X3_due rfl rfl rfl ⟨rfl, by decide, by decide, by decide +kernel⟩ ⟨Nat.le_of_ble_eq_true rfl, Nat.le_of_ble_eq_true rfl⟩ rfl hl.1 rfl (Nat.le_of_ble_eq_true rfl) dX3_waits_2 ⟨Nat.zero_le _, Nat.zero_le _⟩ (fun r_1 u H locs e_2 hP hD hS => ?_)
  have hP : va_P D vwCl (wM cy m0 m1 m2 m3 m4 m5 m6 m7 m8 m9 m10 m11 m12 m13 m14 m15 m16 m17 th td sed mi fr to lim f1 f2 dis pin ag en cm mc su isu fir lgt ofs rn wsn) H := hP
  have hD : va_D A (wM cy m0 m1 m2 m3 m4 m5 m6 m7 m8 m9 m10 m11 m12 m13 m14 m15 m16 m17 th td sed mi fr to lim f1 f2 dis pin ag en cm mc su isu fir lgt ofs rn wsn) := hD
  have e_2 : r_1 = dueM fir lgt ofs j := e_2
  subst e_2
  refine lv_aload_n hx hb dX3_waits_5 rfl (lv_at hl 0 rfl) ?_
  refine va_get (D := D) (ci := 3) (v := .int td) (C := RX3) (T := TX3) (N := 22) hx hb hts g_X3 hown hE.1 hP 0 rfl rfl 1 (by decide) f_96 (fun _ h9 => h9) rfl dX3_waits_6 ?_
  refine lv_icmp_gt (tgt := 38) hx hb dX3_waits_9 (by decide) (fun c_9 => ?_) (fun c_9 => ?_)
  · refine lv_iconst (v := 0) hx hb dX3_waits_38 (by decide) ?_
    exact hret _ _ _ _ 0 () dX3_waits_39 (Or.inr (Or.inl rfl)) (bI_f (by simp [c_9, wtM])).symm hP hS
  · refine lv_aload_n hx hb dX3_waits_12 rfl (lv_at hl 0 rfl) ?_
    refine va_get (D := D) (ci := 3) (v := .ref m16) (C := RX3) (T := TX3) (N := 22) hx hb hts g_X3 hown hE.1 hP 0 rfl rfl 20 (by decide) f_60 (fun _ h9 => h9) rfl dX3_waits_13 ?_
    refine lv_iload_n hx hb dX3_waits_16 rfl (lv_at hl 1 rfl) ?_
    refine k_ild hx hb hE.1 hP 16 0 rfl rfl (j := j) (by omega) (by decide) dX3_waits_17 ?_
    refine lv_iconst (v := (-1)) hx hb dX3_waits_18 (by decide) ?_
    refine lv_icmp_ne (tgt := 38) hx hb dX3_waits_19 (by decide) (fun c_19 => ?_) (fun c_19 => ?_)
    · refine lv_iconst (v := 0) hx hb dX3_waits_38 (by decide) ?_
      exact hret _ _ _ _ 0 () dX3_waits_39 (Or.inr (Or.inl rfl)) (bI_f (by simp [c_9, c_19, wtM])).symm hP hS
    · refine lv_aload_n hx hb dX3_waits_22 rfl (lv_at hl 0 rfl) ?_
      refine lv_iload_n hx hb dX3_waits_23 rfl (lv_at hl 1 rfl) ?_
      refine kcW_i (n := 1) (wc := wM cy m0 m1 m2 m3 m4 m5 m6 m7 m8 m9 m10 m11 m12 m13 m14 m15 m16 m17 th td sed mi fr to lim f1 f2 dis pin ag en cm mc su isu fir lgt ofs rn wsn) (As := [.int (nI j)]) (rest := []) ⟨hx, hb, hml, hown, hts⟩ hE hA hP hD hS (c_X3_last l D cy m0 m1 m2 m3 m4 m5 m6 m7 m8 m9 m10 m11 m12 m13 m14 m15 m16 m17 th td sed mi fr to lim f1 f2 dis pin ag en cm mc su isu fir lgt ofs rn wsn j (by first | assumption | omega)) (fun _ => rfl) (q0 := 0) (ci := 3) rfl rfl gX3_waits_X3_last rfl rfl rfl ⟨rfl, by decide, by decide, by decide +kernel⟩ ⟨Nat.le_of_ble_eq_true rfl, Nat.le_of_ble_eq_true rfl⟩ rfl hl.1 rfl (Nat.le_of_ble_eq_true rfl) dX3_waits_24 ⟨Nat.zero_le _, Nat.zero_le _⟩ (fun r_3 u H locs e_4 hP hD hS => ?_)
      have hP : va_P D vwCl (wM cy m0 m1 m2 m3 m4 m5 m6 m7 m8 m9 m10 m11 m12 m13 m14 m15 m16 m17 th td sed mi fr to lim f1 f2 dis pin ag en cm mc su isu fir lgt ofs rn wsn) H := hP
      have hD : va_D A (wM cy m0 m1 m2 m3 m4 m5 m6 m7 m8 m9 m10 m11 m12 m13 m14 m15 m16 m17 th td sed mi fr to lim f1 f2 dis pin ag en cm mc su isu fir lgt ofs rn wsn) := hD
      have e_4 : r_3 = ctEnd fir lgt j := e_4
      subst e_4
      refine lv_aload_n hx hb dX3_waits_27 rfl (lv_at hl 0 rfl) ?_
      refine va_get (D := D) (ci := 3) (v := .int td) (C := RX3) (T := TX3) (N := 22) hx hb hts g_X3 hown hE.1 hP 0 rfl rfl 1 (by decide) f_96 (fun _ h9 => h9) rfl dX3_waits_28 ?_
      refine lv_icmp_lt (tgt := 38) hx hb dX3_waits_31 (by decide) (fun c_31 => ?_) (fun c_31 => ?_)
      · refine lv_iconst (v := 0) hx hb dX3_waits_38 (by decide) ?_
        exact hret _ _ _ _ 0 () dX3_waits_39 (Or.inr (Or.inl rfl)) (bI_f (by simp [c_9, c_19, c_31, wtM])).symm hP hS
      · refine lv_iconst (v := 1) hx hb dX3_waits_34 (by decide) ?_
        refine lv_goto (tgt := 39) hx hb dX3_waits_35 (by decide) ?_
        exact hret _ _ _ _ 1 () dX3_waits_39 (Or.inr (Or.inr rfl)) (bI_t (by simp [c_9, c_19, c_31, wtM])).symm hP hS

set_option maxHeartbeats 4000000 in
set_option maxRecDepth 100000 in
theorem c_X3_nextWaiting (l : Launch) (D : va_G) (cy : ClassId × ClassId × ClassId) (m0 m1 m2 m3 m4 m5 m6 m7 m8 m9 m10 m11 m12 m13 m14 m15 m16 m17 : Nat) (th td sed : Int32) (mi : Nat) (fr to lim f1 f2 dis pin ag en cm : Nat → Int32) (mc : Nat) (su isu fir lgt ofs rn wsn : Nat → Int32) (b_ : Nat) (hb : b_ ≤ 60) : kI l D cy yX3_nextWaiting wsX3_nextWaiting (krm 2 42) [.ref m0, .int (nI b_)] (wM cy m0 m1 m2 m3 m4 m5 m6 m7 m8 m9 m10 m11 m12 m13 m14 m15 m16 m17 th td sed mi fr to lim f1 f2 dis pin ag en cm mc su isu fir lgt ofs rn wsn) (fun (r : Int32) (u : Unit) => r = nwN fir lgt ofs rn td wsn b_) (fun _ : Unit => wM cy m0 m1 m2 m3 m4 m5 m6 m7 m8 m9 m10 m11 m12 m13 m14 m15 m16 m17 th td sed mi fr to lim f1 f2 dis pin ag en cm mc su isu fir lgt ofs rn wsn) := by
  refine kI.of (cc := cX3_nextWaiting) (maxL := 4) (rt := .int) (Or.inl rfl) (by decide) rfl (Nat.le_of_ble_eq_true rfl) ?_
  intro p e s m args below meth c Q A ls hx hb hml hown hts hE hA hP hD hl hret
  have hS : va_S A s.heap s.heap [] := va_S.rf
  have hl : lv_has ls 4 [(0, .ref m0), (1, .int (nI b_))] := hl
  have g_X3 : ∀ w ∈ wsX30, w ∈ wsX3_nextWaiting := by decide +kernel
  have f_63 := hts (.fieldLink RX3 63 "CertHerdModel" "wasSeen" "[Z") (by decide +kernel)
  refine lv_iconst (v := (-1)) hx hb dX3_nextWaiting_0 (by decide) ?_
  refine lv_istore_n (lv' := [(2, .int (-1)), (0, .ref m0), (1, .int (nI b_))]) hx hb dX3_nextWaiting_1 rfl hl (by decide) rfl (fun ls hl => ?_)
  refine lv_iconst (v := 0) hx hb dX3_nextWaiting_2 (by decide) ?_
  refine lv_istore_n (lv' := [(3, .int 0), (2, .int (-1)), (0, .ref m0), (1, .int (nI b_))]) hx hb dX3_nextWaiting_3 rfl hl (by decide) rfl (fun ls hl => ?_)
  have L_4 : ∀ (f : Nat) (k : Nat) (g : Int32) (H : Heap) (locs : List Loc) (ls : Array Slot), ((b_ - k) < f) → (k ≤ b_) → (g = nwN fir lgt ofs rn td wsn k) → va_P D vwCl (wM cy m0 m1 m2 m3 m4 m5 m6 m7 m8 m9 m10 m11 m12 m13 m14 m15 m16 m17 th td sed mi fr to lim f1 f2 dis pin ag en cm mc su isu fir lgt ofs rn wsn) H → va_D A (wM cy m0 m1 m2 m3 m4 m5 m6 m7 m8 m9 m10 m11 m12 m13 m14 m15 m16 m17 th td sed mi fr to lim f1 f2 dis pin ag en cm mc su isu fir lgt ofs rn wsn) → va_S A s.heap H locs → lv_has ls 4 [(3, .int (nI k)), (2, .int g), (0, .ref m0), (1, .int (nI b_))] → W p l e (krm 2 42) s m args below meth c H locs 0 0 Q (F0 m 4 ls []) := by
    intro f
    induction f with
    | zero => intro k g H locs ls hf; exact absurd hf (Nat.not_lt_zero _)
    | succ f ih_4 =>
      intro k g H locs ls hf hk eg hP hD hS hl
      refine lv_iload_n hx hb dX3_nextWaiting_4 rfl (lv_at hl 0 rfl) ?_
      refine lv_iload_n hx hb dX3_nextWaiting_5 rfl (lv_at hl 3 rfl) ?_
      refine lv_icmp_ge (tgt := 56) hx hb dX3_nextWaiting_6 (by decide) (fun c_6 => ?_) (fun c_6 => ?_)
      · have c_6n : b_ ≤ k := k_leN (a := b_) (b := k) (by omega) (by omega) c_6
        refine lv_iload_n hx hb dX3_nextWaiting_56 rfl (lv_at hl 1 rfl) ?_
        exact hret _ _ _ _ g () dX3_nextWaiting_57 (Or.inl rfl) (by have e9 : k = b_ := (by omega); subst e9; exact eg) hP hS
      · have c_6n : ¬ b_ ≤ k := k_nleN (a := b_) (b := k) (by omega) (by omega) c_6
        have hk8 : k < 60 := by omega
        refine lv_aload_n hx hb dX3_nextWaiting_9 rfl (lv_at hl 2 rfl) ?_
        refine lv_iload_n hx hb dX3_nextWaiting_10 rfl (lv_at hl 0 rfl) ?_
        refine kcW_i (n := 1) (wc := wM cy m0 m1 m2 m3 m4 m5 m6 m7 m8 m9 m10 m11 m12 m13 m14 m15 m16 m17 th td sed mi fr to lim f1 f2 dis pin ag en cm mc su isu fir lgt ofs rn wsn) (As := [.int (nI k)]) (rest := []) ⟨hx, hb, hml, hown, hts⟩ hE hA hP hD hS (c_X3_waits l D cy m0 m1 m2 m3 m4 m5 m6 m7 m8 m9 m10 m11 m12 m13 m14 m15 m16 m17 th td sed mi fr to lim f1 f2 dis pin ag en cm mc su isu fir lgt ofs rn wsn k (by first | assumption | omega)) (fun _ => rfl) (q0 := 0) (ci := 3) rfl rfl gX3_nextWaiting_X3_waits rfl rfl rfl ⟨rfl, by decide, by decide, by decide +kernel⟩ ⟨Nat.le_of_ble_eq_true rfl, Nat.le_of_ble_eq_true rfl⟩ rfl hl.1 rfl (Nat.le_of_ble_eq_true rfl) dX3_nextWaiting_11 ⟨Nat.zero_le _, Nat.zero_le _⟩ (fun r_1 u H locs e_2 hP hD hS => ?_)
        have hP : va_P D vwCl (wM cy m0 m1 m2 m3 m4 m5 m6 m7 m8 m9 m10 m11 m12 m13 m14 m15 m16 m17 th td sed mi fr to lim f1 f2 dis pin ag en cm mc su isu fir lgt ofs rn wsn) H := hP
        have hD : va_D A (wM cy m0 m1 m2 m3 m4 m5 m6 m7 m8 m9 m10 m11 m12 m13 m14 m15 m16 m17 th td sed mi fr to lim f1 f2 dis pin ag en cm mc su isu fir lgt ofs rn wsn) := hD
        have e_2 : r_1 = bI (wtM fir lgt ofs rn td k) := e_2
        subst e_2
        refine k_ifeq (tgt := 48) hx hb dX3_nextWaiting_14 (by decide) (fun c_14 => ?_) (fun c_14 => ?_)
        · refine lv_iload_n hx hb dX3_nextWaiting_48 rfl (lv_at hl 1 rfl) ?_
          refine lv_istore_n (lv' := [(2, .int g), (3, .int (nI k)), (0, .ref m0), (1, .int (nI b_))]) hx hb dX3_nextWaiting_49 rfl hl (by decide) rfl (fun ls hl => ?_)
          refine lv_iinc (v := (nI (k + 1))) (lv' := [(3, .int (nI (k + 1))), (2, .int g), (0, .ref m0), (1, .int (nI b_))]) hx hb dX3_nextWaiting_50 hl (k := 1) rfl (k_inc _) (by decide) rfl (fun ls hl => ?_)
          refine lv_goto (tgt := 4) hx hb dX3_nextWaiting_53 (by decide) ?_
          exact ih_4 (k + 1) g _ _ ls (by omega) (by omega) (by subst eg; rw [nwN]; exact (if_neg (fun h => c_14 h.1)).symm) hP hD hS (lv_sub hl [0, 1, 2, 3] rfl)
        · refine lv_aload_n hx hb dX3_nextWaiting_17 rfl (lv_at hl 2 rfl) ?_
          refine va_get (D := D) (ci := 3) (v := .ref m17) (C := RX3) (T := TX3) (N := 22) hx hb hts g_X3 hown hE.1 hP 0 rfl rfl 21 (by decide) f_63 (fun _ h9 => h9) rfl dX3_nextWaiting_18 ?_
          refine lv_iload_n hx hb dX3_nextWaiting_21 rfl (lv_at hl 0 rfl) ?_
          refine k_zld hx hb hE.1 hP 17 1 rfl rfl (j := k) (by omega) (by decide) dX3_nextWaiting_22 ?_
          refine lv_if_ne (tgt := 48) hx hb dX3_nextWaiting_23 (by decide) (fun c_23 => ?_) (fun c_23 => ?_)
          · refine lv_iload_n hx hb dX3_nextWaiting_48 rfl (lv_at hl 1 rfl) ?_
            refine lv_istore_n (lv' := [(2, .int g), (3, .int (nI k)), (0, .ref m0), (1, .int (nI b_))]) hx hb dX3_nextWaiting_49 rfl hl (by decide) rfl (fun ls hl => ?_)
            refine lv_iinc (v := (nI (k + 1))) (lv' := [(3, .int (nI (k + 1))), (2, .int g), (0, .ref m0), (1, .int (nI b_))]) hx hb dX3_nextWaiting_50 hl (k := 1) rfl (k_inc _) (by decide) rfl (fun ls hl => ?_)
            refine lv_goto (tgt := 4) hx hb dX3_nextWaiting_53 (by decide) ?_
            exact ih_4 (k + 1) g _ _ ls (by omega) (by omega) (by subst eg; rw [nwN]; exact (if_neg (fun h => c_23 h.2.1)).symm) hP hD hS (lv_sub hl [0, 1, 2, 3] rfl)
          · refine lv_iload_n hx hb dX3_nextWaiting_26 rfl (lv_at hl 1 rfl) ?_
            refine lv_iconst (v := (-1)) hx hb dX3_nextWaiting_27 (by decide) ?_
            refine lv_icmp_eq (tgt := 44) hx hb dX3_nextWaiting_28 (by decide) (fun c_28 => ?_) (fun c_28 => ?_)
            · refine lv_iload_n hx hb dX3_nextWaiting_44 rfl (lv_at hl 0 rfl) ?_
              refine lv_goto (tgt := 49) hx hb dX3_nextWaiting_45 (by decide) ?_
              refine lv_istore_n (lv' := [(2, .int (nI k)), (3, .int (nI k)), (0, .ref m0), (1, .int (nI b_))]) hx hb dX3_nextWaiting_49 rfl hl (by decide) rfl (fun ls hl => ?_)
              refine lv_iinc (v := (nI (k + 1))) (lv' := [(3, .int (nI (k + 1))), (2, .int (nI k)), (0, .ref m0), (1, .int (nI b_))]) hx hb dX3_nextWaiting_50 hl (k := 1) rfl (k_inc _) (by decide) rfl (fun ls hl => ?_)
              refine lv_goto (tgt := 4) hx hb dX3_nextWaiting_53 (by decide) ?_
              exact ih_4 (k + 1) (nI k) _ _ ls (by omega) (by omega) (by subst eg; rw [nwN]; exact (if_pos ⟨c_14, c_23, Or.inl c_28⟩).symm) hP hD hS (lv_sub hl [0, 1, 2, 3] rfl)
            · obtain ⟨q1, q2⟩ := (show sgP (fun _ => g) k by rw [eg]; exact nwN_ok fir lgt ofs rn td wsn k (by omega)).resolve_left c_28
              have q1 : g = nI (ix g) := q1
              have q2 : ix g < k := q2
              refine lv_aload_n hx hb dX3_nextWaiting_31 rfl (lv_at hl 2 rfl) ?_
              refine lv_iload_n hx hb dX3_nextWaiting_32 rfl (lv_at hl 0 rfl) ?_
              refine kcW_i (n := 1) (wc := wM cy m0 m1 m2 m3 m4 m5 m6 m7 m8 m9 m10 m11 m12 m13 m14 m15 m16 m17 th td sed mi fr to lim f1 f2 dis pin ag en cm mc su isu fir lgt ofs rn wsn) (As := [.int (nI k)]) (rest := []) ⟨hx, hb, hml, hown, hts⟩ hE hA hP hD hS (c_X3_last l D cy m0 m1 m2 m3 m4 m5 m6 m7 m8 m9 m10 m11 m12 m13 m14 m15 m16 m17 th td sed mi fr to lim f1 f2 dis pin ag en cm mc su isu fir lgt ofs rn wsn k (by first | assumption | omega)) (fun _ => rfl) (q0 := 0) (ci := 3) rfl rfl gX3_nextWaiting_X3_last rfl rfl rfl ⟨rfl, by decide, by decide, by decide +kernel⟩ ⟨Nat.le_of_ble_eq_true rfl, Nat.le_of_ble_eq_true rfl⟩ rfl hl.1 rfl (Nat.le_of_ble_eq_true rfl) dX3_nextWaiting_33 ⟨Nat.zero_le _, Nat.zero_le _⟩ (fun r_3 u H locs e_4 hP hD hS => ?_)
              have hP : va_P D vwCl (wM cy m0 m1 m2 m3 m4 m5 m6 m7 m8 m9 m10 m11 m12 m13 m14 m15 m16 m17 th td sed mi fr to lim f1 f2 dis pin ag en cm mc su isu fir lgt ofs rn wsn) H := hP
              have hD : va_D A (wM cy m0 m1 m2 m3 m4 m5 m6 m7 m8 m9 m10 m11 m12 m13 m14 m15 m16 m17 th td sed mi fr to lim f1 f2 dis pin ag en cm mc su isu fir lgt ofs rn wsn) := hD
              have e_4 : r_3 = ctEnd fir lgt k := e_4
              subst e_4
              refine lv_aload_n hx hb dX3_nextWaiting_36 rfl (lv_at hl 2 rfl) ?_
              refine lv_iload_n hx hb dX3_nextWaiting_37 rfl (lv_at hl 1 rfl) ?_
              refine k_top (z := nI (ix g)) q1 ?_
              refine kcW_i (n := 1) (wc := wM cy m0 m1 m2 m3 m4 m5 m6 m7 m8 m9 m10 m11 m12 m13 m14 m15 m16 m17 th td sed mi fr to lim f1 f2 dis pin ag en cm mc su isu fir lgt ofs rn wsn) (As := [.int (nI (ix g))]) (rest := [.int (ctEnd fir lgt k)]) ⟨hx, hb, hml, hown, hts⟩ hE hA hP hD hS (c_X3_last l D cy m0 m1 m2 m3 m4 m5 m6 m7 m8 m9 m10 m11 m12 m13 m14 m15 m16 m17 th td sed mi fr to lim f1 f2 dis pin ag en cm mc su isu fir lgt ofs rn wsn (ix g) (by first | assumption | omega)) (fun _ => rfl) (q0 := 0) (ci := 3) rfl rfl gX3_nextWaiting_X3_last rfl rfl rfl ⟨rfl, by decide, by decide, by decide +kernel⟩ ⟨Nat.le_of_ble_eq_true rfl, Nat.le_of_ble_eq_true rfl⟩ rfl hl.1 rfl (Nat.le_of_ble_eq_true rfl) dX3_nextWaiting_38 ⟨Nat.zero_le _, Nat.zero_le _⟩ (fun r_5 u H locs e_6 hP hD hS => ?_)
              have hP : va_P D vwCl (wM cy m0 m1 m2 m3 m4 m5 m6 m7 m8 m9 m10 m11 m12 m13 m14 m15 m16 m17 th td sed mi fr to lim f1 f2 dis pin ag en cm mc su isu fir lgt ofs rn wsn) H := hP
              have hD : va_D A (wM cy m0 m1 m2 m3 m4 m5 m6 m7 m8 m9 m10 m11 m12 m13 m14 m15 m16 m17 th td sed mi fr to lim f1 f2 dis pin ag en cm mc su isu fir lgt ofs rn wsn) := hD
              have e_6 : r_5 = ctEnd fir lgt (ix g) := e_6
              subst e_6
              refine lv_icmp_ge (tgt := 48) hx hb dX3_nextWaiting_41 (by decide) (fun c_41 => ?_) (fun c_41 => ?_)
              · refine lv_iload_n hx hb dX3_nextWaiting_48 rfl (lv_at hl 1 rfl) ?_
                refine lv_istore_n (lv' := [(2, .int g), (3, .int (nI k)), (0, .ref m0), (1, .int (nI b_))]) hx hb dX3_nextWaiting_49 rfl hl (by decide) rfl (fun ls hl => ?_)
                refine lv_iinc (v := (nI (k + 1))) (lv' := [(3, .int (nI (k + 1))), (2, .int g), (0, .ref m0), (1, .int (nI b_))]) hx hb dX3_nextWaiting_50 hl (k := 1) rfl (k_inc _) (by decide) rfl (fun ls hl => ?_)
                refine lv_goto (tgt := 4) hx hb dX3_nextWaiting_53 (by decide) ?_
                exact ih_4 (k + 1) g _ _ ls (by omega) (by omega) (by subst eg; rw [nwN]; exact (if_neg (fun h => h.2.2.elim c_28 (fun q => q c_41))).symm) hP hD hS (lv_sub hl [0, 1, 2, 3] rfl)
              · refine lv_iload_n hx hb dX3_nextWaiting_44 rfl (lv_at hl 0 rfl) ?_
                refine lv_goto (tgt := 49) hx hb dX3_nextWaiting_45 (by decide) ?_
                refine lv_istore_n (lv' := [(2, .int (nI k)), (3, .int (nI k)), (0, .ref m0), (1, .int (nI b_))]) hx hb dX3_nextWaiting_49 rfl hl (by decide) rfl (fun ls hl => ?_)
                refine lv_iinc (v := (nI (k + 1))) (lv' := [(3, .int (nI (k + 1))), (2, .int (nI k)), (0, .ref m0), (1, .int (nI b_))]) hx hb dX3_nextWaiting_50 hl (k := 1) rfl (k_inc _) (by decide) rfl (fun ls hl => ?_)
                refine lv_goto (tgt := 4) hx hb dX3_nextWaiting_53 (by decide) ?_
                exact ih_4 (k + 1) (nI k) _ _ ls (by omega) (by omega) (by subst eg; rw [nwN]; exact (if_pos ⟨c_14, c_23, Or.inr c_41⟩).symm) hP hD hS (lv_sub hl [0, 1, 2, 3] rfl)
  exact L_4 ((b_ - 0) + 1) 0 (-1) _ _ ls (Nat.lt_succ_self _) (by omega) rfl hP hD hS (lv_sub hl [0, 1, 2, 3] rfl)

set_option maxHeartbeats 4000000 in
set_option maxRecDepth 100000 in
theorem c_X3_sees (l : Launch) (D : va_G) (cy : ClassId × ClassId × ClassId) (m0 m1 m2 m3 m4 m5 m6 m7 m8 m9 m10 m11 m12 m13 m14 m15 m16 m17 : Nat) (th td sed : Int32) (mi : Nat) (fr to lim f1 f2 dis pin ag en cm : Nat → Int32) (mc : Nat) (su isu fir lgt ofs rn wsn : Nat → Int32) (b_ : Int32) (hb01 : b_ = 0 ∨ b_ = 1) : kV l D cy yX3_sees wsX3_sees (krm 0 0) [.ref m0, .int b_] (wM cy m0 m1 m2 m3 m4 m5 m6 m7 m8 m9 m10 m11 m12 m13 m14 m15 m16 m17 th td sed mi fr to lim f1 f2 dis pin ag en cm mc su isu fir lgt ofs rn wsn) (fun (u : Unit) => True) (fun _ : Unit => wM cy m0 m1 m2 m3 m4 m5 m6 m7 m8 m9 m10 m11 m12 m13 m14 m15 m16 m17 th td sed mi fr to lim f1 f2 dis pin ag en cm mc su isu fir lgt ofs rn (seeN wsn b_ 60)) := by
  refine kV.of (cc := cX3_sees) (maxL := 3) (by decide) rfl (Nat.le_of_ble_eq_true rfl) ?_
  intro p e s m args below meth c Q A ls hx hb hml hown hts hE hA hP hD hl hret
  have hS : va_S A s.heap s.heap [] := va_S.rf
  have hl : lv_has ls 3 [(0, .ref m0), (1, .int b_)] := hl
  have g_X3 : ∀ w ∈ wsX30, w ∈ wsX3_sees := by decide +kernel
  have f_63 := hts (.fieldLink RX3 63 "CertHerdModel" "wasSeen" "[Z") (by decide +kernel)
  refine lv_iconst (v := 0) hx hb dX3_sees_0 (by decide) ?_
  refine lv_istore_n (lv' := [(2, .int 0), (0, .ref m0), (1, .int b_)]) hx hb dX3_sees_1 rfl hl (by decide) rfl (fun ls hl => ?_)
  have L_2 : ∀ (f : Nat) (k : Nat) (w_ : Nat → Int32) (H : Heap) (locs : List Loc) (ls : Array Slot), ((60 - k) < f) → (k ≤ 60) → (w_ = seeN wsn b_ k) → va_P D vwCl (wM cy m0 m1 m2 m3 m4 m5 m6 m7 m8 m9 m10 m11 m12 m13 m14 m15 m16 m17 th td sed mi fr to lim f1 f2 dis pin ag en cm mc su isu fir lgt ofs rn w_) H → va_D A (wM cy m0 m1 m2 m3 m4 m5 m6 m7 m8 m9 m10 m11 m12 m13 m14 m15 m16 m17 th td sed mi fr to lim f1 f2 dis pin ag en cm mc su isu fir lgt ofs rn w_) → va_S A s.heap H locs → lv_has ls 3 [(2, .int (nI k)), (0, .ref m0), (1, .int b_)] → W p l e (krm 0 0) s m args below meth c H locs 0 0 Q (F0 m 2 ls []) := by
    intro f
    induction f with
    | zero => intro k w_ H locs ls hf; exact absurd hf (Nat.not_lt_zero _)
    | succ f ih_2 =>
      intro k w_ H locs ls hf hk ew hP hD hS hl
      refine lv_iload_n hx hb dX3_sees_2 rfl (lv_at hl 0 rfl) ?_
      refine lv_bipush (v := 60) hx hb dX3_sees_3 (by decide) ?_
      refine lv_icmp_ge (tgt := 21) hx hb dX3_sees_5 (by decide) (fun c_5 => ?_) (fun c_5 => ?_)
      · have c_5n : 60 ≤ k := k_leN (a := 60) (b := k) (by omega) (by omega) c_5
        have w_wsn : w_ = seeN wsn b_ 60 := (by have e9 : k = 60 := (by omega); subst e9; exact ew)
        exact hret _ _ _ _ () dX3_sees_21 trivial (by show va_P D vwCl (wM cy m0 m1 m2 m3 m4 m5 m6 m7 m8 m9 m10 m11 m12 m13 m14 m15 m16 m17 th td sed mi fr to lim f1 f2 dis pin ag en cm mc su isu fir lgt ofs rn (seeN wsn b_ 60)) _; rw [← w_wsn]; exact hP) hS
      · have c_5n : ¬ 60 ≤ k := k_nleN (a := 60) (b := k) (by omega) (by omega) c_5
        refine lv_aload_n hx hb dX3_sees_8 rfl (lv_at hl 1 rfl) ?_
        refine va_get (D := D) (ci := 3) (v := .ref m17) (C := RX3) (T := TX3) (N := 22) hx hb hts g_X3 hown hE.1 hP 0 rfl rfl 21 (by decide) f_63 (fun _ h9 => h9) rfl dX3_sees_9 ?_
        refine lv_iload_n hx hb dX3_sees_12 rfl (lv_at hl 0 rfl) ?_
        refine lv_iload_n hx hb dX3_sees_13 rfl (lv_at hl 2 rfl) ?_
        refine k_zst hx hb hE.1 hP hD hS 17 1 rfl rfl (j := k) hb01 (by omega) (by decide) dX3_sees_14 (fun H locs hP hD hS => ?_)
        have hP : va_P D vwCl (wM cy m0 m1 m2 m3 m4 m5 m6 m7 m8 m9 m10 m11 m12 m13 m14 m15 m16 m17 th td sed mi fr to lim f1 f2 dis pin ag en cm mc su isu fir lgt ofs rn (upd w_ k b_)) H := hP
        have hD : va_D A (wM cy m0 m1 m2 m3 m4 m5 m6 m7 m8 m9 m10 m11 m12 m13 m14 m15 m16 m17 th td sed mi fr to lim f1 f2 dis pin ag en cm mc su isu fir lgt ofs rn (upd w_ k b_)) := hD
        refine lv_iinc (v := (nI (k + 1))) (lv' := [(2, .int (nI (k + 1))), (0, .ref m0), (1, .int b_)]) hx hb dX3_sees_15 hl (k := 0) rfl (k_inc _) (by decide) rfl (fun ls hl => ?_)
        refine lv_goto (tgt := 2) hx hb dX3_sees_18 (by decide) ?_
        exact ih_2 (k + 1) (upd w_ k b_) _ _ ls (by omega) (by omega) (by rw [seeN, ← ew]) hP hD hS (lv_sub hl [0, 1, 2] rfl)
  exact L_2 ((60 - 0) + 1) 0 wsn _ _ ls (Nat.lt_succ_self _) (by omega) rfl hP hD hS (lv_sub hl [0, 1, 2] rfl)

set_option maxHeartbeats 4000000 in
set_option maxRecDepth 100000 in
theorem c_X3_names (l : Launch) (D : va_G) (cy : ClassId × ClassId × ClassId) (m0 m1 m2 m3 m4 m5 m6 m7 m8 m9 m10 m11 m12 m13 m14 m15 m16 m17 : Nat) (th td sed : Int32) (mi : Nat) (fr to lim f1 f2 dis pin ag en cm : Nat → Int32) (mc : Nat) (su isu fir lgt ofs rn wsn : Nat → Int32) (day : Int32) (wo : Int32) (hm : mi ≤ 8) (hc : mc ≤ 60) (h1 : ∀ i, i < mi → sgP f1 i) (h2 : ∀ i, i < mi → sgP f2 i) (hok : certOK mi isu lgt mc) : kI l D cy yX3_names wsX3_names (krm 2 49) [.ref m0, .int day, .int wo] (wM cy m0 m1 m2 m3 m4 m5 m6 m7 m8 m9 m10 m11 m12 m13 m14 m15 m16 m17 th td sed mi fr to lim f1 f2 dis pin ag en cm mc su isu fir lgt ofs rn wsn) (fun (r : Int32) (u : (Nat → Int32)) => r = nmN f1 f2 fr to dis isu su fir lgt day wo mc) (fun u : (Nat → Int32) => wM cy m0 m1 m2 m3 m4 m5 m6 m7 m8 m9 m10 m11 m12 m13 m14 m15 m16 m17 th td sed mi fr to lim f1 f2 dis pin u en cm mc su isu fir lgt ofs rn wsn) := by
  refine kI.of (cc := cX3_names) (maxL := 7) (rt := .int) (Or.inl rfl) (by decide) rfl (Nat.le_of_ble_eq_true rfl) ?_
  intro p e s m args below meth c Q A ls hx hb hml hown hts hE hA hP hD hl hret
  have hS : va_S A s.heap s.heap [] := va_S.rf
  have hl : lv_has ls 7 [(0, .ref m0), (1, .int day), (2, .int wo)] := hl
  have g_X3 : ∀ w ∈ wsX30, w ∈ wsX3_names := by decide +kernel
  have f_76 := hts (.fieldLink RX3 76 "CertHerdModel" "certMany" "I") (by decide +kernel)
  have f_51 := hts (.fieldLink RX3 51 "CertHerdModel" "firsts" "[I") (by decide +kernel)
  have f_48 := hts (.fieldLink RX3 48 "CertHerdModel" "issuers" "[I") (by decide +kernel)
  have f_45 := hts (.fieldLink RX3 45 "CertHerdModel" "subjects" "[I") (by decide +kernel)
  refine lv_iconst (v := 0) hx hb dX3_names_0 (by decide) ?_
  refine lv_istore_n (lv' := [(3, .int 0), (0, .ref m0), (1, .int day), (2, .int wo)]) hx hb dX3_names_1 rfl hl (by decide) rfl (fun ls hl => ?_)
  refine lv_iconst (v := 0) hx hb dX3_names_2 (by decide) ?_
  refine lv_istore (lv' := [(4, .int 0), (3, .int 0), (0, .ref m0), (1, .int day), (2, .int wo)]) hx hb dX3_names_3 hl (by decide) rfl (fun ls hl => ?_)
  have L_5 : ∀ (f : Nat) (k : Nat) (g : Int32) (g_ : Nat → Int32) (H : Heap) (locs : List Loc) (ls : Array Slot), ((mc - k) < f) → (k ≤ mc) → (g = nmN f1 f2 fr to dis isu su fir lgt day wo k) → va_P D vwCl (wM cy m0 m1 m2 m3 m4 m5 m6 m7 m8 m9 m10 m11 m12 m13 m14 m15 m16 m17 th td sed mi fr to lim f1 f2 dis pin g_ en cm mc su isu fir lgt ofs rn wsn) H → va_D A (wM cy m0 m1 m2 m3 m4 m5 m6 m7 m8 m9 m10 m11 m12 m13 m14 m15 m16 m17 th td sed mi fr to lim f1 f2 dis pin g_ en cm mc su isu fir lgt ofs rn wsn) → va_S A s.heap H locs → lv_has ls 7 [(4, .int (nI k)), (3, .int g), (0, .ref m0), (1, .int day), (2, .int wo)] → W p l e (krm 2 49) s m args below meth c H locs 0 0 Q (F0 m 5 ls []) := by
    intro f
    induction f with
    | zero => intro k g g_ H locs ls hf; exact absurd hf (Nat.not_lt_zero _)
    | succ f ih_5 =>
      intro k g g_ H locs ls hf hk eg hP hD hS hl
      refine lv_iload hx hb dX3_names_5 (lv_at hl 0 rfl) ?_
      refine lv_aload_n hx hb dX3_names_7 rfl (lv_at hl 2 rfl) ?_
      refine va_get (D := D) (ci := 3) (v := .int (nI mc)) (C := RX3) (T := TX3) (N := 22) hx hb hts g_X3 hown hE.1 hP 0 rfl rfl 14 (by decide) f_76 (fun _ h9 => h9) rfl dX3_names_8 ?_
      refine lv_icmp_ge (tgt := 110) hx hb dX3_names_11 (by decide) (fun c_11 => ?_) (fun c_11 => ?_)
      · have c_11n : mc ≤ k := k_leN (a := mc) (b := k) (by omega) (by omega) c_11
        refine lv_iload_n hx hb dX3_names_110 rfl (lv_at hl 1 rfl) ?_
        exact hret _ _ _ _ g g_ dX3_names_111 (Or.inl rfl) (by have e9 : k = mc := (by omega); subst e9; exact eg) hP hS
      · have c_11n : ¬ mc ≤ k := k_nleN (a := mc) (b := k) (by omega) (by omega) c_11
        have hkc : k < mc := by omega
        have hk8 : k < 60 := by omega
        obtain ⟨o1, o2, o3⟩ := hok k hkc
        refine lv_iload_n hx hb dX3_names_14 rfl (lv_at hl 3 rfl) ?_
        refine lv_aload_n hx hb dX3_names_15 rfl (lv_at hl 2 rfl) ?_
        refine va_get (D := D) (ci := 3) (v := .ref m13) (C := RX3) (T := TX3) (N := 22) hx hb hts g_X3 hown hE.1 hP 0 rfl rfl 17 (by decide) f_51 (fun _ h9 => h9) rfl dX3_names_16 ?_
        refine lv_iload hx hb dX3_names_19 (lv_at hl 0 rfl) ?_
        refine k_ild hx hb hE.1 hP 13 0 rfl rfl (j := k) (by omega) (by decide) dX3_names_21 ?_
        refine lv_aload_n hx hb dX3_names_22 rfl (lv_at hl 2 rfl) ?_
        refine lv_iload hx hb dX3_names_23 (lv_at hl 0 rfl) ?_
        refine kcW_i (n := 1) (wc := wM cy m0 m1 m2 m3 m4 m5 m6 m7 m8 m9 m10 m11 m12 m13 m14 m15 m16 m17 th td sed mi fr to lim f1 f2 dis pin g_ en cm mc su isu fir lgt ofs rn wsn) (As := [.int (nI k)]) (rest := [.int (fir k), .int day]) ⟨hx, hb, hml, hown, hts⟩ hE hA hP hD hS (c_X3_last l D cy m0 m1 m2 m3 m4 m5 m6 m7 m8 m9 m10 m11 m12 m13 m14 m15 m16 m17 th td sed mi fr to lim f1 f2 dis pin g_ en cm mc su isu fir lgt ofs rn wsn k (by first | assumption | omega)) (fun _ => rfl) (q0 := 0) (ci := 3) rfl rfl gX3_names_X3_last rfl rfl rfl ⟨rfl, by decide, by decide, by decide +kernel⟩ ⟨Nat.le_of_ble_eq_true rfl, Nat.le_of_ble_eq_true rfl⟩ rfl hl.1 rfl (Nat.le_of_ble_eq_true rfl) dX3_names_25 ⟨Nat.zero_le _, Nat.zero_le _⟩ (fun r_1 u H locs e_2 hP hD hS => ?_)
        have hP : va_P D vwCl (wM cy m0 m1 m2 m3 m4 m5 m6 m7 m8 m9 m10 m11 m12 m13 m14 m15 m16 m17 th td sed mi fr to lim f1 f2 dis pin g_ en cm mc su isu fir lgt ofs rn wsn) H := hP
        have hD : va_D A (wM cy m0 m1 m2 m3 m4 m5 m6 m7 m8 m9 m10 m11 m12 m13 m14 m15 m16 m17 th td sed mi fr to lim f1 f2 dis pin g_ en cm mc su isu fir lgt ofs rn wsn) := hD
        have e_2 : r_1 = ctEnd fir lgt k := e_2
        subst e_2
        refine kcS_i (n := 3) (X := []) (wc := []) (Y := wM cy m0 m1 m2 m3 m4 m5 m6 m7 m8 m9 m10 m11 m12 m13 m14 m15 m16 m17 th td sed mi fr to lim f1 f2 dis pin g_ en cm mc su isu fir lgt ofs rn wsn) (As := [.int day, .int (fir k), .int (ctEnd fir lgt k)]) (rest := []) ⟨hx, hb, hml, hown, hts⟩ hE hA hP hD hS (c_X3_in l D cy day (fir k) (ctEnd fir lgt k)) (fun _ => rfl) gX3_names_X3_in rfl rfl rfl ⟨by decide, by decide, by decide +kernel⟩ ⟨Nat.le_of_ble_eq_true rfl, Nat.le_of_ble_eq_true rfl⟩ rfl hl.1 rfl (Nat.le_of_ble_eq_true rfl) dX3_names_28 ⟨Nat.zero_le _, Nat.zero_le _⟩ (fun r_3 u H locs e_4 hP hD hS => ?_)
        have hP : va_P D vwCl (wM cy m0 m1 m2 m3 m4 m5 m6 m7 m8 m9 m10 m11 m12 m13 m14 m15 m16 m17 th td sed mi fr to lim f1 f2 dis pin g_ en cm mc su isu fir lgt ofs rn wsn) H := hP
        have hD : va_D A (wM cy m0 m1 m2 m3 m4 m5 m6 m7 m8 m9 m10 m11 m12 m13 m14 m15 m16 m17 th td sed mi fr to lim f1 f2 dis pin g_ en cm mc su isu fir lgt ofs rn wsn) := hD
        have e_4 : r_3 = bI (inB day (fir k) (ctEnd fir lgt k) = true) := e_4
        subst e_4
        refine k_ifeq (tgt := 54) hx hb dX3_names_31 (by decide) (fun c_31 => ?_) (fun c_31 => ?_)
        · refine lv_iconst (v := 0) hx hb dX3_names_54 (by decide) ?_
          refine lv_istore (lv' := [(5, .int 0), (4, .int (nI k)), (3, .int g), (0, .ref m0), (1, .int day), (2, .int wo)]) hx hb dX3_names_55 hl (by decide) rfl (fun ls hl => ?_)
          refine lv_iconst (v := 0) hx hb dX3_names_57 (by decide) ?_
          refine lv_istore (lv' := [(6, .int 0), (5, .int 0), (4, .int (nI k)), (3, .int g), (0, .ref m0), (1, .int day), (2, .int wo)]) hx hb dX3_names_58 hl (by decide) rfl (fun ls hl => ?_)
          refine lv_iload hx hb dX3_names_60 (lv_at hl 0 rfl) ?_
          refine lv_bipush (v := 16) hx hb dX3_names_62 (by decide) ?_
          refine lv_icmp_ge (tgt := 104) hx hb dX3_names_64 (by decide) (fun c_64 => absurd c_64 (by decide)) (fun c_64 => ?_)
          refine lv_iload hx hb dX3_names_67 (lv_at hl 1 rfl) ?_
          refine lv_if_eq (tgt := 104) hx hb dX3_names_69 (by decide) (fun _ => ?_) (fun c_69 => absurd c_69 (by decide))
          refine lv_iinc (v := (nI (k + 1))) (lv' := [(4, .int (nI (k + 1))), (6, .int 0), (5, .int 0), (3, .int g), (0, .ref m0), (1, .int day), (2, .int wo)]) hx hb dX3_names_104 hl (k := 2) rfl (k_inc _) (by decide) rfl (fun ls hl => ?_)
          refine lv_goto (tgt := 5) hx hb dX3_names_107 (by decide) ?_
          exact ih_5 (k + 1) g g_ _ _ ls (by omega) (by omega) (by rw [nmN, ← eg]; exact (if_neg (fun h => c_31 h.1)).symm) hP hD hS (lv_sub hl [0, 3, 4, 5, 6] rfl)
        · refine lv_aload_n hx hb dX3_names_34 rfl (lv_at hl 2 rfl) ?_
          refine lv_aload_n hx hb dX3_names_35 rfl (lv_at hl 2 rfl) ?_
          refine va_get (D := D) (ci := 3) (v := .ref m12) (C := RX3) (T := TX3) (N := 22) hx hb hts g_X3 hown hE.1 hP 0 rfl rfl 16 (by decide) f_48 (fun _ h9 => h9) rfl dX3_names_36 ?_
          refine lv_iload hx hb dX3_names_39 (lv_at hl 0 rfl) ?_
          refine k_ild hx hb hE.1 hP 12 0 rfl rfl (j := k) (by omega) (by decide) dX3_names_41 ?_
          refine k_top (z := nI (ix (isu k))) o1 ?_
          refine lv_iload_n hx hb dX3_names_42 rfl (lv_at hl 3 rfl) ?_
          refine lv_iload_n hx hb dX3_names_43 rfl (lv_at hl 4 rfl) ?_
          refine kcW_i (n := 3) (wc := wM cy m0 m1 m2 m3 m4 m5 m6 m7 m8 m9 m10 m11 m12 m13 m14 m15 m16 m17 th td sed mi fr to lim f1 f2 dis pin g_ en cm mc su isu fir lgt ofs rn wsn) (As := [.int (nI (ix (isu k))), .int day, .int wo]) (rest := []) ⟨hx, hb, hml, hown, hts⟩ hE hA hP hD hS (c_X3_holds l D cy m0 m1 m2 m3 m4 m5 m6 m7 m8 m9 m10 m11 m12 m13 m14 m15 m16 m17 th td sed mi fr to lim f1 f2 dis pin g_ en cm mc su isu fir lgt ofs rn wsn (ix (isu k)) day wo (by first | assumption | omega) (by first | assumption | omega) (by first | assumption | omega) o2) (fun _ => Eq.trans (b := [m0, m1, m2, m3, m4, m5, m6, m7, m8, m9, m10, m11, m12, m13, m14, m15, m16, m17]) rfl rfl) (q0 := 0) (ci := 3) rfl rfl gX3_names_X3_holds rfl rfl rfl ⟨rfl, by decide, by decide, by decide +kernel⟩ ⟨Nat.le_of_ble_eq_true rfl, Nat.le_of_ble_eq_true rfl⟩ rfl hl.1 rfl (Nat.le_of_ble_eq_true rfl) dX3_names_44 ⟨Nat.zero_le _, Nat.zero_le _⟩ (fun r_5 u H locs e_6 hP hD hS => ?_)
          obtain ⟨ag_7, rfl⟩ : ∃ z, z = u := ⟨_, rfl⟩
          have hP : va_P D vwCl (wM cy m0 m1 m2 m3 m4 m5 m6 m7 m8 m9 m10 m11 m12 m13 m14 m15 m16 m17 th td sed mi fr to lim f1 f2 dis pin ag_7 en cm mc su isu fir lgt ofs rn wsn) H := hP
          have hD : va_D A (wM cy m0 m1 m2 m3 m4 m5 m6 m7 m8 m9 m10 m11 m12 m13 m14 m15 m16 m17 th td sed mi fr to lim f1 f2 dis pin ag_7 en cm mc su isu fir lgt ofs rn wsn) := hD
          have e_6 : r_5 = bI (gd f1 f2 fr to dis day wo (ix (isu k)) = true) := e_6
          subst e_6
          refine k_ifeq (tgt := 54) hx hb dX3_names_47 (by decide) (fun c_47 => ?_) (fun c_47 => ?_)
          · refine lv_iconst (v := 0) hx hb dX3_names_54 (by decide) ?_
            refine lv_istore (lv' := [(5, .int 0), (4, .int (nI k)), (3, .int g), (0, .ref m0), (1, .int day), (2, .int wo)]) hx hb dX3_names_55 hl (by decide) rfl (fun ls hl => ?_)
            refine lv_iconst (v := 0) hx hb dX3_names_57 (by decide) ?_
            refine lv_istore (lv' := [(6, .int 0), (5, .int 0), (4, .int (nI k)), (3, .int g), (0, .ref m0), (1, .int day), (2, .int wo)]) hx hb dX3_names_58 hl (by decide) rfl (fun ls hl => ?_)
            refine lv_iload hx hb dX3_names_60 (lv_at hl 0 rfl) ?_
            refine lv_bipush (v := 16) hx hb dX3_names_62 (by decide) ?_
            refine lv_icmp_ge (tgt := 104) hx hb dX3_names_64 (by decide) (fun c_64 => absurd c_64 (by decide)) (fun c_64 => ?_)
            refine lv_iload hx hb dX3_names_67 (lv_at hl 1 rfl) ?_
            refine lv_if_eq (tgt := 104) hx hb dX3_names_69 (by decide) (fun _ => ?_) (fun c_69 => absurd c_69 (by decide))
            refine lv_iinc (v := (nI (k + 1))) (lv' := [(4, .int (nI (k + 1))), (6, .int 0), (5, .int 0), (3, .int g), (0, .ref m0), (1, .int day), (2, .int wo)]) hx hb dX3_names_104 hl (k := 2) rfl (k_inc _) (by decide) rfl (fun ls hl => ?_)
            refine lv_goto (tgt := 5) hx hb dX3_names_107 (by decide) ?_
            exact ih_5 (k + 1) g ag_7 _ _ ls (by omega) (by omega) (by rw [nmN, ← eg]; exact (if_neg (fun h => c_47 h.2)).symm) hP hD hS (lv_sub hl [0, 3, 4, 5, 6] rfl)
          · refine lv_iconst (v := 1) hx hb dX3_names_50 (by decide) ?_
            refine lv_goto (tgt := 55) hx hb dX3_names_51 (by decide) ?_
            refine lv_istore (lv' := [(5, .int 1), (4, .int (nI k)), (3, .int g), (0, .ref m0), (1, .int day), (2, .int wo)]) hx hb dX3_names_55 hl (by decide) rfl (fun ls hl => ?_)
            refine lv_iconst (v := 0) hx hb dX3_names_57 (by decide) ?_
            refine lv_istore (lv' := [(6, .int 0), (5, .int 1), (4, .int (nI k)), (3, .int g), (0, .ref m0), (1, .int day), (2, .int wo)]) hx hb dX3_names_58 hl (by decide) rfl (fun ls hl => ?_)
            have L_60 : ∀ (f : Nat) (m_ : Nat) (g2 : Int32) (H : Heap) (locs : List Loc) (ls : Array Slot), ((16 - m_) < f) → (m_ ≤ 16) → (g2 = orN (su k) g m_) → va_P D vwCl (wM cy m0 m1 m2 m3 m4 m5 m6 m7 m8 m9 m10 m11 m12 m13 m14 m15 m16 m17 th td sed mi fr to lim f1 f2 dis pin ag_7 en cm mc su isu fir lgt ofs rn wsn) H → va_D A (wM cy m0 m1 m2 m3 m4 m5 m6 m7 m8 m9 m10 m11 m12 m13 m14 m15 m16 m17 th td sed mi fr to lim f1 f2 dis pin ag_7 en cm mc su isu fir lgt ofs rn wsn) → va_S A s.heap H locs → lv_has ls 7 [(6, .int (nI m_)), (5, .int 1), (4, .int (nI k)), (3, .int g2), (0, .ref m0), (1, .int day), (2, .int wo)] → W p l e (krm 2 49) s m args below meth c H locs 0 0 Q (F0 m 60 ls []) := by
              intro f
              induction f with
              | zero => intro m_ g2 H locs ls hf; exact absurd hf (Nat.not_lt_zero _)
              | succ f ih_60 =>
                intro m_ g2 H locs ls hf hm16 eg2 hP hD hS hl
                refine lv_iload hx hb dX3_names_60 (lv_at hl 0 rfl) ?_
                refine lv_bipush (v := 16) hx hb dX3_names_62 (by decide) ?_
                refine lv_icmp_ge (tgt := 104) hx hb dX3_names_64 (by decide) (fun c_64 => ?_) (fun c_64 => ?_)
                · have c_64n : 16 ≤ m_ := k_leN (a := 16) (b := m_) (by omega) (by omega) c_64
                  refine lv_iinc (v := (nI (k + 1))) (lv' := [(4, .int (nI (k + 1))), (6, .int (nI m_)), (5, .int 1), (3, .int g2), (0, .ref m0), (1, .int day), (2, .int wo)]) hx hb dX3_names_104 hl (k := 2) rfl (k_inc _) (by decide) rfl (fun ls hl => ?_)
                  refine lv_goto (tgt := 5) hx hb dX3_names_107 (by decide) ?_
                  exact ih_5 (k + 1) g2 ag_7 _ _ ls (by omega) (by omega) (by have e9 : m_ = 16 := (by omega); subst e9; rw [nmN, ← eg, eg2]; exact (if_pos ⟨c_31, c_47⟩).symm) hP hD hS (lv_sub hl [0, 3, 4, 5, 6] rfl)
                · have c_64n : ¬ 16 ≤ m_ := k_nleN (a := 16) (b := m_) (by omega) (by omega) c_64
                  refine lv_iload hx hb dX3_names_67 (lv_at hl 1 rfl) ?_
                  refine lv_if_eq (tgt := 104) hx hb dX3_names_69 (by decide) (fun c_69 => absurd c_69 (by decide)) (fun _ => ?_)
                  refine lv_iload_n hx hb dX3_names_72 rfl (lv_at hl 3 rfl) ?_
                  refine lv_aload_n hx hb dX3_names_73 rfl (lv_at hl 4 rfl) ?_
                  refine va_get (D := D) (ci := 3) (v := .ref m11) (C := RX3) (T := TX3) (N := 22) hx hb hts g_X3 hown hE.1 hP 0 rfl rfl 15 (by decide) f_45 (fun _ h9 => h9) rfl dX3_names_74 ?_
                  refine lv_iload hx hb dX3_names_77 (lv_at hl 2 rfl) ?_
                  refine k_ild hx hb hE.1 hP 11 0 rfl rfl (j := k) (by omega) (by decide) dX3_names_79 ?_
                  refine lv_iload hx hb dX3_names_80 (lv_at hl 0 rfl) ?_
                  refine kcS_i (n := 2) (X := []) (wc := []) (Y := wM cy m0 m1 m2 m3 m4 m5 m6 m7 m8 m9 m10 m11 m12 m13 m14 m15 m16 m17 th td sed mi fr to lim f1 f2 dis pin ag_7 en cm mc su isu fir lgt ofs rn wsn) (As := [.int (su k), .int (nI m_)]) (rest := [.int g2]) ⟨hx, hb, hml, hown, hts⟩ hE hA hP hD hS (c_X3_covers l D cy (su k) m_) (fun _ => rfl) gX3_names_X3_covers rfl rfl rfl ⟨by decide, by decide, by decide +kernel⟩ ⟨Nat.le_of_ble_eq_true rfl, Nat.le_of_ble_eq_true rfl⟩ rfl hl.1 rfl (Nat.le_of_ble_eq_true rfl) dX3_names_82 ⟨Nat.zero_le _, Nat.zero_le _⟩ (fun r_8 u H locs e_9 hP hD hS => ?_)
                  have hP : va_P D vwCl (wM cy m0 m1 m2 m3 m4 m5 m6 m7 m8 m9 m10 m11 m12 m13 m14 m15 m16 m17 th td sed mi fr to lim f1 f2 dis pin ag_7 en cm mc su isu fir lgt ofs rn wsn) H := hP
                  have hD : va_D A (wM cy m0 m1 m2 m3 m4 m5 m6 m7 m8 m9 m10 m11 m12 m13 m14 m15 m16 m17 th td sed mi fr to lim f1 f2 dis pin ag_7 en cm mc su isu fir lgt ofs rn wsn) := hD
                  have e_9 : r_8 = bI (cvP (su k) m_) := e_9
                  subst e_9
                  refine k_ifeq (tgt := 95) hx hb dX3_names_85 (by decide) (fun c_85 => ?_) (fun c_85 => ?_)
                  · refine lv_iconst (v := 0) hx hb dX3_names_95 (by decide) ?_
                    refine lv_ior hx hb dX3_names_96 ?_
                    refine lv_istore_n (lv' := [(3, .int (g2 ||| 0)), (6, .int (nI m_)), (5, .int 1), (4, .int (nI k)), (0, .ref m0), (1, .int day), (2, .int wo)]) hx hb dX3_names_97 rfl hl (by decide) rfl (fun ls hl => ?_)
                    refine lv_iinc (v := (nI (m_ + 1))) (lv' := [(6, .int (nI (m_ + 1))), (3, .int (g2 ||| 0)), (5, .int 1), (4, .int (nI k)), (0, .ref m0), (1, .int day), (2, .int wo)]) hx hb dX3_names_98 hl (k := 1) rfl (k_inc _) (by decide) rfl (fun ls hl => ?_)
                    refine lv_goto (tgt := 60) hx hb dX3_names_101 (by decide) ?_
                    exact ih_60 (m_ + 1) (g2 ||| 0) _ _ ls (by omega) (by omega) (by rw [orN, ← eg2, if_neg c_85]) hP hD hS (lv_sub hl [0, 2, 3, 1, 4, 5, 6] rfl)
                  · refine lv_iconst (v := 1) hx hb dX3_names_88 (by decide) ?_
                    refine lv_iload hx hb dX3_names_89 (lv_at hl 0 rfl) ?_
                    refine lv_ishl hx hb dX3_names_91 ?_
                    refine lv_goto (tgt := 96) hx hb dX3_names_92 (by decide) ?_
                    refine lv_ior hx hb dX3_names_96 ?_
                    refine lv_istore_n (lv' := [(3, .int (g2 ||| (1 <<< ((nI m_) &&& 31)))), (6, .int (nI m_)), (5, .int 1), (4, .int (nI k)), (0, .ref m0), (1, .int day), (2, .int wo)]) hx hb dX3_names_97 rfl hl (by decide) rfl (fun ls hl => ?_)
                    refine lv_iinc (v := (nI (m_ + 1))) (lv' := [(6, .int (nI (m_ + 1))), (3, .int (g2 ||| (1 <<< ((nI m_) &&& 31)))), (5, .int 1), (4, .int (nI k)), (0, .ref m0), (1, .int day), (2, .int wo)]) hx hb dX3_names_98 hl (k := 1) rfl (k_inc _) (by decide) rfl (fun ls hl => ?_)
                    refine lv_goto (tgt := 60) hx hb dX3_names_101 (by decide) ?_
                    exact ih_60 (m_ + 1) (g2 ||| (1 <<< ((nI m_) &&& 31))) _ _ ls (by omega) (by omega) (by rw [orN, ← eg2, if_pos c_85]) hP hD hS (lv_sub hl [0, 2, 3, 1, 4, 5, 6] rfl)
            exact L_60 ((16 - 0) + 1) 0 g _ _ ls (Nat.lt_succ_self _) (by omega) rfl hP hD hS (lv_sub hl [0, 1, 2, 3, 4, 5, 6] rfl)
  exact L_5 ((mc - 0) + 1) 0 0 ag _ _ ls (Nat.lt_succ_self _) (by omega) rfl hP hD hS (lv_sub hl [0, 1, 2, 3, 4] rfl)
