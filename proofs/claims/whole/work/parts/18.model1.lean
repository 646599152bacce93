set_option maxHeartbeats 4000000 in
set_option maxRecDepth 100000 in
theorem c_X3_thrown (l : Launch) (D : va_G) (cy : ClassId × ClassId × ClassId) (m0 m1 m2 m3 m4 m5 m6 m7 m8 m9 m10 m11 m12 m13 m14 m15 m16 m17 : Nat) (th td sed : Int32) (mi : Nat) (fr to lim f1 f2 dis pin ag en cm : Nat → Int32) (mc : Nat) (su isu fir lgt ofs rn wsn : Nat → Int32) : kI l D cy yX3_thrown wsX3_thrown (krm 0 0) [.ref m0] (wM cy m0 m1 m2 m3 m4 m5 m6 m7 m8 m9 m10 m11 m12 m13 m14 m15 m16 m17 th td sed mi fr to lim f1 f2 dis pin ag en cm mc su isu fir lgt ofs rn wsn) (fun (r : Int32) (u : Unit) => r = th) (fun _ : Unit => wM cy m0 m1 m2 m3 m4 m5 m6 m7 m8 m9 m10 m11 m12 m13 m14 m15 m16 m17 th td sed mi fr to lim f1 f2 dis pin ag en cm mc su isu fir lgt ofs rn wsn) := by
  refine kI.of (cc := cX3_thrown) (maxL := 1) (rt := .int) (Or.inl rfl) (by decide) rfl (Nat.le_of_ble_eq_true rfl) ?_
  intro p e s m args below meth c Q A ls hx hb hml hown hts hE hA hP hD hl hret
  have hS : va_S A s.heap s.heap [] := va_S.rf
  have hl : lv_has ls 1 [(0, .ref m0)] := hl
  have g_X3 : ∀ w ∈ wsX30, w ∈ wsX3_thrown := by decide +kernel
  have f_66 := hts (.fieldLink RX3 66 "CertHerdModel" "thrown" "I") (by decide +kernel)
  refine lv_aload_n hx hb dX3_thrown_0 rfl (lv_at hl 0 rfl) ?_
  refine va_get (D := D) (ci := 3) (v := .int th) (C := RX3) (T := TX3) (N := 22) hx hb hts g_X3 hown hE.1 hP 0 rfl rfl 0 (by decide) f_66 (fun _ h9 => h9) rfl dX3_thrown_1 ?_
  exact hret _ _ _ _ th () dX3_thrown_4 (Or.inl rfl) rfl hP hS

set_option maxHeartbeats 4000000 in
set_option maxRecDepth 100000 in
theorem c_X3_fails (l : Launch) (D : va_G) (cy : ClassId × ClassId × ClassId) (m0 m1 m2 m3 m4 m5 m6 m7 m8 m9 m10 m11 m12 m13 m14 m15 m16 m17 : Nat) (th td sed : Int32) (mi : Nat) (fr to lim f1 f2 dis pin ag en cm : Nat → Int32) (mc : Nat) (su isu fir lgt ofs rn wsn : Nat → Int32) (c_ : Int32) : kI l D cy yX3_fails wsX3_fails (krm 0 0) [.ref m0, .int c_] (wM cy m0 m1 m2 m3 m4 m5 m6 m7 m8 m9 m10 m11 m12 m13 m14 m15 m16 m17 th td sed mi fr to lim f1 f2 dis pin ag en cm mc su isu fir lgt ofs rn wsn) (fun (r : Int32) (u : Unit) => r = 0) (fun _ : Unit => wM cy m0 m1 m2 m3 m4 m5 m6 m7 m8 m9 m10 m11 m12 m13 m14 m15 m16 m17 c_ td sed mi fr to lim f1 f2 dis pin ag en cm mc su isu fir lgt ofs rn wsn) := by
  refine kI.of (cc := cX3_fails) (maxL := 2) (rt := .int) (Or.inl rfl) (by decide) rfl (Nat.le_of_ble_eq_true rfl) ?_
  intro p e s m args below meth c Q A ls hx hb hml hown hts hE hA hP hD hl hret
  have hS : va_S A s.heap s.heap [] := va_S.rf
  have hl : lv_has ls 2 [(0, .ref m0), (1, .int c_)] := hl
  have g_X3 : ∀ w ∈ wsX30, w ∈ wsX3_fails := by decide +kernel
  have f_66 := hts (.fieldLink RX3 66 "CertHerdModel" "thrown" "I") (by decide +kernel)
  refine lv_aload_n hx hb dX3_fails_0 rfl (lv_at hl 0 rfl) ?_
  refine lv_iload_n hx hb dX3_fails_1 rfl (lv_at hl 1 rfl) ?_
  refine va_put (D := D) (ci := 3) (v := .int c_) (ty := .int) (C := RX3) (T := TX3) (N := 22) hx hb hts g_X3 tyX3 tyX3_ok nmX3 hown hE.1 hP hD hS 0 rfl rfl 0 (by decide) f_66 (fun _ h9 => h9) rfl (by decide +kernel) rfl rfl (Nat.le_of_ble_eq_true rfl) dX3_fails_2 (fun H locs hP hD hS => ?_)
  have hP : va_P D vwCl (wM cy m0 m1 m2 m3 m4 m5 m6 m7 m8 m9 m10 m11 m12 m13 m14 m15 m16 m17 c_ td sed mi fr to lim f1 f2 dis pin ag en cm mc su isu fir lgt ofs rn wsn) H := hP
  have hD : va_D A (wM cy m0 m1 m2 m3 m4 m5 m6 m7 m8 m9 m10 m11 m12 m13 m14 m15 m16 m17 c_ td sed mi fr to lim f1 f2 dis pin ag en cm mc su isu fir lgt ofs rn wsn) := hD
  refine lv_iconst (v := 0) hx hb dX3_fails_5 (by decide) ?_
  exact hret _ _ _ _ 0 () dX3_fails_6 (Or.inl rfl) rfl hP hS

set_option maxHeartbeats 4000000 in
set_option maxRecDepth 100000 in
theorem c_X3_in (l : Launch) (D : va_G) (cy : ClassId × ClassId × ClassId) (v_ : Int32) (lo_ : Int32) (hi_ : Int32) : kI l D cy yX3_in wsX3_in (krm 0 0) [.int v_, .int lo_, .int hi_] (([] : va_W)) (fun (r : Int32) (u : Unit) => r = bI (inB v_ lo_ hi_ = true)) (fun _ : Unit => ([] : va_W)) := by
  refine kI.of (cc := cX3_in) (maxL := 3) (rt := .boolean) (Or.inr rfl) (by decide) rfl (Nat.le_of_ble_eq_true rfl) ?_
  intro p e s m args below meth c Q A ls hx hb hml hown hts hE hA hP hD hl hret
  have hS : va_S A s.heap s.heap [] := va_S.rf
  have hl : lv_has ls 3 [(0, .int v_), (1, .int lo_), (2, .int hi_)] := hl
  refine lv_iload_n hx hb dX3_in_0 rfl (lv_at hl 0 rfl) ?_
  refine lv_iload_n hx hb dX3_in_1 rfl (lv_at hl 1 rfl) ?_
  refine lv_icmp_lt (tgt := 14) hx hb dX3_in_2 (by decide) (fun c_2 => ?_) (fun c_2 => ?_)
  · refine lv_iconst (v := 0) hx hb dX3_in_14 (by decide) ?_
    exact hret _ _ _ _ 0 () dX3_in_15 (Or.inr (Or.inl rfl)) (bI_f (by simp [c_2, inB])).symm hP hS
  · refine lv_iload_n hx hb dX3_in_5 rfl (lv_at hl 0 rfl) ?_
    refine lv_iload_n hx hb dX3_in_6 rfl (lv_at hl 2 rfl) ?_
    refine lv_icmp_gt (tgt := 14) hx hb dX3_in_7 (by decide) (fun c_7 => ?_) (fun c_7 => ?_)
    · refine lv_iconst (v := 0) hx hb dX3_in_14 (by decide) ?_
      exact hret _ _ _ _ 0 () dX3_in_15 (Or.inr (Or.inl rfl)) (bI_f (by simp [c_2, c_7, inB])).symm hP hS
    · refine lv_iconst (v := 1) hx hb dX3_in_10 (by decide) ?_
      refine lv_goto (tgt := 15) hx hb dX3_in_11 (by decide) ?_
      exact hret _ _ _ _ 1 () dX3_in_15 (Or.inr (Or.inr rfl)) (bI_t (by simp [c_2, c_7, inB])).symm hP hS

set_option maxHeartbeats 4000000 in
set_option maxRecDepth 100000 in
theorem c_X3_isIssuer (l : Launch) (D : va_G) (cy : ClassId × ClassId × ClassId) (m0 m1 m2 m3 m4 m5 m6 m7 m8 m9 m10 m11 m12 m13 m14 m15 m16 m17 : Nat) (th td sed : Int32) (mi : Nat) (fr to lim f1 f2 dis pin ag en cm : Nat → Int32) (mc : Nat) (su isu fir lgt ofs rn wsn : Nat → Int32) (i_ : Int32) (hm : mi ≤ 8) : kI l D cy yX3_isIssuer wsX3_isIssuer (krm 1 22) [.ref m0, .int i_] (wM cy m0 m1 m2 m3 m4 m5 m6 m7 m8 m9 m10 m11 m12 m13 m14 m15 m16 m17 th td sed mi fr to lim f1 f2 dis pin ag en cm mc su isu fir lgt ofs rn wsn) (fun (r : Int32) (u : Unit) => r = bI (badI mi i_ = false)) (fun _ : Unit => wM cy m0 m1 m2 m3 m4 m5 m6 m7 m8 m9 m10 m11 m12 m13 m14 m15 m16 m17 th td sed mi fr to lim f1 f2 dis pin ag en cm mc su isu fir lgt ofs rn wsn) := by
  refine kI.of (cc := cX3_isIssuer) (maxL := 2) (rt := .boolean) (Or.inr rfl) (by decide) rfl (Nat.le_of_ble_eq_true rfl) ?_
  intro p e s m args below meth c Q A ls hx hb hml hown hts hE hA hP hD hl hret
  have hS : va_S A s.heap s.heap [] := va_S.rf
  have hl : lv_has ls 2 [(0, .ref m0), (1, .int i_)] := hl
  have g_X3 : ∀ w ∈ wsX30, w ∈ wsX3_isIssuer := by decide +kernel
  have f_69 := hts (.fieldLink RX3 69 "CertHerdModel" "issuerMany" "I") (by decide +kernel)
  refine lv_iload_n hx hb dX3_isIssuer_0 rfl (lv_at hl 1 rfl) ?_
  refine lv_iconst (v := 0) hx hb dX3_isIssuer_1 (by decide) ?_
  refine lv_aload_n hx hb dX3_isIssuer_2 rfl (lv_at hl 0 rfl) ?_
  refine va_get (D := D) (ci := 3) (v := .int (nI mi)) (C := RX3) (T := TX3) (N := 22) hx hb hts g_X3 hown hE.1 hP 0 rfl rfl 3 (by decide) f_69 (fun _ h9 => h9) rfl dX3_isIssuer_3 ?_
  refine lv_iconst (v := 1) hx hb dX3_isIssuer_6 (by decide) ?_
  refine lv_isub hx hb dX3_isIssuer_7 ?_
  refine kcS_i (n := 3) (X := []) (wc := []) (Y := wM cy m0 m1 m2 m3 m4 m5 m6 m7 m8 m9 m10 m11 m12 m13 m14 m15 m16 m17 th td sed mi fr to lim f1 f2 dis pin ag en cm mc su isu fir lgt ofs rn wsn) (As := [.int i_, .int 0, .int ((nI mi) - 1)]) (rest := []) ⟨hx, hb, hml, hown, hts⟩ hE hA hP hD hS (c_X3_in l D cy i_ 0 ((nI mi) - 1)) (fun _ => rfl) gX3_isIssuer_X3_in rfl rfl rfl ⟨by decide, by decide, by decide +kernel⟩ ⟨Nat.le_of_ble_eq_true rfl, Nat.le_of_ble_eq_true rfl⟩ rfl hl.1 rfl (Nat.le_of_ble_eq_true rfl) dX3_isIssuer_8 ⟨Nat.zero_le _, Nat.zero_le _⟩ (fun r_1 u H locs e_2 hP hD hS => ?_)
  have hP : va_P D vwCl (wM cy m0 m1 m2 m3 m4 m5 m6 m7 m8 m9 m10 m11 m12 m13 m14 m15 m16 m17 th td sed mi fr to lim f1 f2 dis pin ag en cm mc su isu fir lgt ofs rn wsn) H := hP
  have hD : va_D A (wM cy m0 m1 m2 m3 m4 m5 m6 m7 m8 m9 m10 m11 m12 m13 m14 m15 m16 m17 th td sed mi fr to lim f1 f2 dis pin ag en cm mc su isu fir lgt ofs rn wsn) := hD
  have e_2 : r_1 = bI (inB i_ 0 ((nI mi) - 1) = true) := e_2
  subst e_2
  exact hret _ _ _ _ (bI (inB i_ 0 ((nI mi) - 1) = true)) () dX3_isIssuer_11 (Or.inr (bI_01 _)) (bI_cong (inB_n (by omega))) hP hS

set_option maxHeartbeats 4000000 in
set_option maxRecDepth 100000 in
theorem c_X3_isCert (l : Launch) (D : va_G) (cy : ClassId × ClassId × ClassId) (m0 m1 m2 m3 m4 m5 m6 m7 m8 m9 m10 m11 m12 m13 m14 m15 m16 m17 : Nat) (th td sed : Int32) (mi : Nat) (fr to lim f1 f2 dis pin ag en cm : Nat → Int32) (mc : Nat) (su isu fir lgt ofs rn wsn : Nat → Int32) (i_ : Int32) (hc : mc ≤ 60) : kI l D cy yX3_isCert wsX3_isCert (krm 1 22) [.ref m0, .int i_] (wM cy m0 m1 m2 m3 m4 m5 m6 m7 m8 m9 m10 m11 m12 m13 m14 m15 m16 m17 th td sed mi fr to lim f1 f2 dis pin ag en cm mc su isu fir lgt ofs rn wsn) (fun (r : Int32) (u : Unit) => r = bI (badI mc i_ = false)) (fun _ : Unit => wM cy m0 m1 m2 m3 m4 m5 m6 m7 m8 m9 m10 m11 m12 m13 m14 m15 m16 m17 th td sed mi fr to lim f1 f2 dis pin ag en cm mc su isu fir lgt ofs rn wsn) := by
  refine kI.of (cc := cX3_isCert) (maxL := 2) (rt := .boolean) (Or.inr rfl) (by decide) rfl (Nat.le_of_ble_eq_true rfl) ?_
  intro p e s m args below meth c Q A ls hx hb hml hown hts hE hA hP hD hl hret
  have hS : va_S A s.heap s.heap [] := va_S.rf
  have hl : lv_has ls 2 [(0, .ref m0), (1, .int i_)] := hl
  have g_X3 : ∀ w ∈ wsX30, w ∈ wsX3_isCert := by decide +kernel
  have f_76 := hts (.fieldLink RX3 76 "CertHerdModel" "certMany" "I") (by decide +kernel)
  refine lv_iload_n hx hb dX3_isCert_0 rfl (lv_at hl 1 rfl) ?_
  refine lv_iconst (v := 0) hx hb dX3_isCert_1 (by decide) ?_
  refine lv_aload_n hx hb dX3_isCert_2 rfl (lv_at hl 0 rfl) ?_
  refine va_get (D := D) (ci := 3) (v := .int (nI mc)) (C := RX3) (T := TX3) (N := 22) hx hb hts g_X3 hown hE.1 hP 0 rfl rfl 14 (by decide) f_76 (fun _ h9 => h9) rfl dX3_isCert_3 ?_
  refine lv_iconst (v := 1) hx hb dX3_isCert_6 (by decide) ?_
  refine lv_isub hx hb dX3_isCert_7 ?_
  refine kcS_i (n := 3) (X := []) (wc := []) (Y := wM cy m0 m1 m2 m3 m4 m5 m6 m7 m8 m9 m10 m11 m12 m13 m14 m15 m16 m17 th td sed mi fr to lim f1 f2 dis pin ag en cm mc su isu fir lgt ofs rn wsn) (As := [.int i_, .int 0, .int ((nI mc) - 1)]) (rest := []) ⟨hx, hb, hml, hown, hts⟩ hE hA hP hD hS (c_X3_in l D cy i_ 0 ((nI mc) - 1)) (fun _ => rfl) gX3_isCert_X3_in rfl rfl rfl ⟨by decide, by decide, by decide +kernel⟩ ⟨Nat.le_of_ble_eq_true rfl, Nat.le_of_ble_eq_true rfl⟩ rfl hl.1 rfl (Nat.le_of_ble_eq_true rfl) dX3_isCert_8 ⟨Nat.zero_le _, Nat.zero_le _⟩ (fun r_1 u H locs e_2 hP hD hS => ?_)
  have hP : va_P D vwCl (wM cy m0 m1 m2 m3 m4 m5 m6 m7 m8 m9 m10 m11 m12 m13 m14 m15 m16 m17 th td sed mi fr to lim f1 f2 dis pin ag en cm mc su isu fir lgt ofs rn wsn) H := hP
  have hD : va_D A (wM cy m0 m1 m2 m3 m4 m5 m6 m7 m8 m9 m10 m11 m12 m13 m14 m15 m16 m17 th td sed mi fr to lim f1 f2 dis pin ag en cm mc su isu fir lgt ofs rn wsn) := hD
  have e_2 : r_1 = bI (inB i_ 0 ((nI mc) - 1) = true) := e_2
  subst e_2
  exact hret _ _ _ _ (bI (inB i_ 0 ((nI mc) - 1) = true)) () dX3_isCert_11 (Or.inr (bI_01 _)) (bI_cong (inB_n (by omega))) hP hS

set_option maxHeartbeats 4000000 in
set_option maxRecDepth 100000 in
theorem c_X3_isName (l : Launch) (D : va_G) (cy : ClassId × ClassId × ClassId) (x_ : Int32) : kI l D cy yX3_isName wsX3_isName (krm 1 22) [.int x_] (([] : va_W)) (fun (r : Int32) (u : Unit) => r = bI (badN x_ = false)) (fun _ : Unit => ([] : va_W)) := by
  refine kI.of (cc := cX3_isName) (maxL := 1) (rt := .boolean) (Or.inr rfl) (by decide) rfl (Nat.le_of_ble_eq_true rfl) ?_
  intro p e s m args below meth c Q A ls hx hb hml hown hts hE hA hP hD hl hret
  have hS : va_S A s.heap s.heap [] := va_S.rf
  have hl : lv_has ls 1 [(0, .int x_)] := hl
  refine lv_iload_n hx hb dX3_isName_0 rfl (lv_at hl 0 rfl) ?_
  refine lv_iconst (v := 0) hx hb dX3_isName_1 (by decide) ?_
  refine lv_bipush (v := 15) hx hb dX3_isName_2 (by decide) ?_
  refine kcS_i (n := 3) (X := []) (wc := []) (Y := []) (As := [.int x_, .int 0, .int 15]) (rest := []) ⟨hx, hb, hml, hown, hts⟩ hE hA hP hD hS (c_X3_in l D cy x_ 0 15) (fun _ => rfl) gX3_isName_X3_in rfl rfl rfl ⟨by decide, by decide, by decide +kernel⟩ ⟨Nat.le_of_ble_eq_true rfl, Nat.le_of_ble_eq_true rfl⟩ rfl hl.1 rfl (Nat.le_of_ble_eq_true rfl) dX3_isName_4 ⟨Nat.zero_le _, Nat.zero_le _⟩ (fun r_1 u H locs e_2 hP hD hS => ?_)
  have hP : va_P D vwCl ([]) H := hP
  have hD : va_D A ([]) := hD
  have e_2 : r_1 = bI (inB x_ 0 15 = true) := e_2
  subst e_2
  exact hret _ _ _ _ (bI (inB x_ 0 15 = true)) () dX3_isName_7 (Or.inr (bI_01 _)) (bI_cong inB_name) hP hS

set_option maxHeartbeats 4000000 in
set_option maxRecDepth 100000 in
theorem c_X3_isDay (l : Launch) (D : va_G) (cy : ClassId × ClassId × ClassId) (d_ : Int32) : kI l D cy yX3_isDay wsX3_isDay (krm 1 22) [.int d_] (([] : va_W)) (fun (r : Int32) (u : Unit) => r = bI (badD d_ = false)) (fun _ : Unit => ([] : va_W)) := by
  refine kI.of (cc := cX3_isDay) (maxL := 1) (rt := .boolean) (Or.inr rfl) (by decide) rfl (Nat.le_of_ble_eq_true rfl) ?_
  intro p e s m args below meth c Q A ls hx hb hml hown hts hE hA hP hD hl hret
  have hS : va_S A s.heap s.heap [] := va_S.rf
  have hl : lv_has ls 1 [(0, .int d_)] := hl
  refine lv_iload_n hx hb dX3_isDay_0 rfl (lv_at hl 0 rfl) ?_
  refine lv_iconst (v := 0) hx hb dX3_isDay_1 (by decide) ?_
  refine lv_sipush (v := 5000) hx hb dX3_isDay_2 (by decide) ?_
  refine kcS_i (n := 3) (X := []) (wc := []) (Y := []) (As := [.int d_, .int 0, .int 5000]) (rest := []) ⟨hx, hb, hml, hown, hts⟩ hE hA hP hD hS (c_X3_in l D cy d_ 0 5000) (fun _ => rfl) gX3_isDay_X3_in rfl rfl rfl ⟨by decide, by decide, by decide +kernel⟩ ⟨Nat.le_of_ble_eq_true rfl, Nat.le_of_ble_eq_true rfl⟩ rfl hl.1 rfl (Nat.le_of_ble_eq_true rfl) dX3_isDay_5 ⟨Nat.zero_le _, Nat.zero_le _⟩ (fun r_1 u H locs e_2 hP hD hS => ?_)
  have hP : va_P D vwCl ([]) H := hP
  have hD : va_D A ([]) := hD
  have e_2 : r_1 = bI (inB d_ 0 5000 = true) := e_2
  subst e_2
  exact hret _ _ _ _ (bI (inB d_ 0 5000 = true)) () dX3_isDay_8 (Or.inr (bI_01 _)) (bI_cong inB_day) hP hS

set_option maxHeartbeats 4000000 in
set_option maxRecDepth 100000 in
theorem c_X3_setSeed (l : Launch) (D : va_G) (cy : ClassId × ClassId × ClassId) (m0 m1 m2 m3 m4 m5 m6 m7 m8 m9 m10 m11 m12 m13 m14 m15 m16 m17 : Nat) (th td sed : Int32) (mi : Nat) (fr to lim f1 f2 dis pin ag en cm : Nat → Int32) (mc : Nat) (su isu fir lgt ofs rn wsn : Nat → Int32) (s_ : Int32) : kV l D cy yX3_setSeed wsX3_setSeed (krm 0 0) [.ref m0, .int s_] (wM cy m0 m1 m2 m3 m4 m5 m6 m7 m8 m9 m10 m11 m12 m13 m14 m15 m16 m17 th td sed mi fr to lim f1 f2 dis pin ag en cm mc su isu fir lgt ofs rn wsn) (fun (u : Unit) => True) (fun _ : Unit => wM cy m0 m1 m2 m3 m4 m5 m6 m7 m8 m9 m10 m11 m12 m13 m14 m15 m16 m17 0 td s_ mi fr to lim f1 f2 dis pin ag en cm mc su isu fir lgt ofs rn wsn) := by
  refine kV.of (cc := cX3_setSeed) (maxL := 2) (by decide) rfl (Nat.le_of_ble_eq_true rfl) ?_
  intro p e s m args below meth c Q A ls hx hb hml hown hts hE hA hP hD hl hret
  have hS : va_S A s.heap s.heap [] := va_S.rf
  have hl : lv_has ls 2 [(0, .ref m0), (1, .int s_)] := hl
  have g_X3 : ∀ w ∈ wsX30, w ∈ wsX3_setSeed := by decide +kernel
  have f_66 := hts (.fieldLink RX3 66 "CertHerdModel" "thrown" "I") (by decide +kernel)
  have f_7 := hts (.fieldLink RX3 7 "CertHerdModel" "seed" "I") (by decide +kernel)
  refine lv_aload_n hx hb dX3_setSeed_0 rfl (lv_at hl 0 rfl) ?_
  refine lv_iconst (v := 0) hx hb dX3_setSeed_1 (by decide) ?_
  refine va_put (D := D) (ci := 3) (v := .int 0) (ty := .int) (C := RX3) (T := TX3) (N := 22) hx hb hts g_X3 tyX3 tyX3_ok nmX3 hown hE.1 hP hD hS 0 rfl rfl 0 (by decide) f_66 (fun _ h9 => h9) rfl (by decide +kernel) rfl rfl (Nat.le_of_ble_eq_true rfl) dX3_setSeed_2 (fun H locs hP hD hS => ?_)
  have hP : va_P D vwCl (wM cy m0 m1 m2 m3 m4 m5 m6 m7 m8 m9 m10 m11 m12 m13 m14 m15 m16 m17 0 td sed mi fr to lim f1 f2 dis pin ag en cm mc su isu fir lgt ofs rn wsn) H := hP
  have hD : va_D A (wM cy m0 m1 m2 m3 m4 m5 m6 m7 m8 m9 m10 m11 m12 m13 m14 m15 m16 m17 0 td sed mi fr to lim f1 f2 dis pin ag en cm mc su isu fir lgt ofs rn wsn) := hD
  refine lv_aload_n hx hb dX3_setSeed_5 rfl (lv_at hl 0 rfl) ?_
  refine lv_iload_n hx hb dX3_setSeed_6 rfl (lv_at hl 1 rfl) ?_
  refine va_put (D := D) (ci := 3) (v := .int s_) (ty := .int) (C := RX3) (T := TX3) (N := 22) hx hb hts g_X3 tyX3 tyX3_ok nmX3 hown hE.1 hP hD hS 0 rfl rfl 2 (by decide) f_7 (fun _ h9 => h9) rfl (by decide +kernel) rfl rfl (Nat.le_of_ble_eq_true rfl) dX3_setSeed_7 (fun H locs hP hD hS => ?_)
  have hP : va_P D vwCl (wM cy m0 m1 m2 m3 m4 m5 m6 m7 m8 m9 m10 m11 m12 m13 m14 m15 m16 m17 0 td s_ mi fr to lim f1 f2 dis pin ag en cm mc su isu fir lgt ofs rn wsn) H := hP
  have hD : va_D A (wM cy m0 m1 m2 m3 m4 m5 m6 m7 m8 m9 m10 m11 m12 m13 m14 m15 m16 m17 0 td s_ mi fr to lim f1 f2 dis pin ag en cm mc su isu fir lgt ofs rn wsn) := hD
  exact hret _ _ _ _ () dX3_setSeed_10 trivial hP hS

set_option maxHeartbeats 4000000 in
set_option maxRecDepth 100000 in
theorem c_X3_holds (l : Launch) (D : va_G) (cy : ClassId × ClassId × ClassId) (m0 m1 m2 m3 m4 m5 m6 m7 m8 m9 m10 m11 m12 m13 m14 m15 m16 m17 : Nat) (th td sed : Int32) (mi : Nat) (fr to lim f1 f2 dis pin ag en cm : Nat → Int32) (mc : Nat) (su isu fir lgt ofs rn wsn : Nat → Int32) (j : Nat) (day : Int32) (wo : Int32) (hm : mi ≤ 8) (h1 : ∀ i, i < mi → sgP f1 i) (h2 : ∀ i, i < mi → sgP f2 i) (hj : j < mi) : kI l D cy yX3_holds wsX3_holds (krm 1 22) [.ref m0, .int (nI j), .int day, .int wo] (wM cy m0 m1 m2 m3 m4 m5 m6 m7 m8 m9 m10 m11 m12 m13 m14 m15 m16 m17 th td sed mi fr to lim f1 f2 dis pin ag en cm mc su isu fir lgt ofs rn wsn) (fun (r : Int32) (u : (Nat → Int32)) => r = bI (gd f1 f2 fr to dis day wo j = true)) (fun u : (Nat → Int32) => wM cy m0 m1 m2 m3 m4 m5 m6 m7 m8 m9 m10 m11 m12 m13 m14 m15 m16 m17 th td sed mi fr to lim f1 f2 dis pin u en cm mc su isu fir lgt ofs rn wsn) := by
  refine kI.of (cc := cX3_holds) (maxL := 8) (rt := .boolean) (Or.inr rfl) (by decide) rfl (Nat.le_of_ble_eq_true rfl) ?_
  intro p e s m args below meth c Q A ls hx hb hml hown hts hE hA hP hD hl hret
  have hS : va_S A s.heap s.heap [] := va_S.rf
  have hl : lv_has ls 8 [(0, .ref m0), (1, .int (nI j)), (2, .int day), (3, .int wo)] := hl
  have g_X3 : ∀ w ∈ wsX30, w ∈ wsX3_holds := by decide +kernel
  have f_13 := hts (.fieldLink RX3 13 "CertHerdModel" "froms" "[I") (by decide +kernel)
  have f_17 := hts (.fieldLink RX3 17 "CertHerdModel" "tos" "[I") (by decide +kernel)
  have f_29 := hts (.fieldLink RX3 29 "CertHerdModel" "distrusted" "[I") (by decide +kernel)
  have f_23 := hts (.fieldLink RX3 23 "CertHerdModel" "firstSigners" "[I") (by decide +kernel)
  have f_26 := hts (.fieldLink RX3 26 "CertHerdModel" "secondSigners" "[I") (by decide +kernel)
  have f_35 := hts (.fieldLink RX3 35 "CertHerdModel" "areGood" "[Z") (by decide +kernel)
  refine lv_iconst (v := 0) hx hb dX3_holds_0 (by decide) ?_
  refine lv_istore (lv' := [(4, .int 0), (0, .ref m0), (1, .int (nI j)), (2, .int day), (3, .int wo)]) hx hb dX3_holds_1 hl (by decide) rfl (fun ls hl => ?_)
  have L_3 : ∀ (f : Nat) (k : Nat) (g_ : Nat → Int32) (H : Heap) (locs : List Loc) (ls : Array Slot), ((j + 1 - k) < f) → (k ≤ j + 1) → (∀ i, i < k → g_ i = (fun i => bI (gd f1 f2 fr to dis day wo i = true)) i) → va_P D vwCl (wM cy m0 m1 m2 m3 m4 m5 m6 m7 m8 m9 m10 m11 m12 m13 m14 m15 m16 m17 th td sed mi fr to lim f1 f2 dis pin g_ en cm mc su isu fir lgt ofs rn wsn) H → va_D A (wM cy m0 m1 m2 m3 m4 m5 m6 m7 m8 m9 m10 m11 m12 m13 m14 m15 m16 m17 th td sed mi fr to lim f1 f2 dis pin g_ en cm mc su isu fir lgt ofs rn wsn) → va_S A s.heap H locs → lv_has ls 8 [(4, .int (nI k)), (0, .ref m0), (1, .int (nI j)), (2, .int day), (3, .int wo)] → W p l e (krm 1 22) s m args below meth c H locs 0 0 Q (F0 m 3 ls []) := by
    intro f
    induction f with
    | zero => intro k g_ H locs ls hf; exact absurd hf (Nat.not_lt_zero _)
    | succ f ih_3 =>
      intro k g_ H locs ls hf hk hg hP hD hS hl
      refine lv_iload hx hb dX3_holds_3 (lv_at hl 0 rfl) ?_
      refine lv_iload_n hx hb dX3_holds_5 rfl (lv_at hl 2 rfl) ?_
      refine lv_icmp_gt (tgt := 138) hx hb dX3_holds_6 (by decide) (fun c_6 => ?_) (fun c_6 => ?_)
      · have c_6n : j < k := k_ltN (a := j) (b := k) (by omega) (by omega) c_6
        refine lv_aload_n hx hb dX3_holds_138 rfl (lv_at hl 1 rfl) ?_
        refine va_get (D := D) (ci := 3) (v := .ref m8) (C := RX3) (T := TX3) (N := 22) hx hb hts g_X3 hown hE.1 hP 0 rfl rfl 11 (by decide) f_35 (fun _ h9 => h9) rfl dX3_holds_139 ?_
        refine lv_iload_n hx hb dX3_holds_142 rfl (lv_at hl 2 rfl) ?_
        refine k_zld hx hb hE.1 hP 8 1 rfl rfl (j := j) (by omega) (by decide) dX3_holds_143 ?_
        refine k_top (z := bI (gd f1 f2 fr to dis day wo j = true)) (hg j (by omega)) ?_
        exact hret _ _ _ _ (bI (gd f1 f2 fr to dis day wo j = true)) g_ dX3_holds_144 (Or.inr (bI_01 _)) rfl hP hS
      · have c_6n : ¬ j < k := k_nltN (a := j) (b := k) (by omega) (by omega) c_6
        have hk8 : k < mi := by omega
        have s1 := h1 k hk8
        have s2 := h2 k hk8
        refine lv_iload hx hb dX3_holds_9 (lv_at hl 0 rfl) ?_
        refine lv_iload_n hx hb dX3_holds_11 rfl (lv_at hl 4 rfl) ?_
        refine lv_icmp_eq (tgt := 62) hx hb dX3_holds_12 (by decide) (fun c_12 => ?_) (fun c_12 => ?_)
        · refine lv_iconst (v := 0) hx hb dX3_holds_62 (by decide) ?_
          refine lv_istore (lv' := [(5, .int 0), (4, .int (nI k)), (0, .ref m0), (1, .int (nI j)), (2, .int day), (3, .int wo)]) hx hb dX3_holds_63 hl (by decide) rfl (fun ls hl => ?_)
          refine lv_aload_n hx hb dX3_holds_65 rfl (lv_at hl 2 rfl) ?_
          refine va_get (D := D) (ci := 3) (v := .ref m4) (C := RX3) (T := TX3) (N := 22) hx hb hts g_X3 hown hE.1 hP 0 rfl rfl 7 (by decide) f_23 (fun _ h9 => h9) rfl dX3_holds_66 ?_
          refine lv_iload hx hb dX3_holds_69 (lv_at hl 1 rfl) ?_
          refine k_ild hx hb hE.1 hP 4 0 rfl rfl (j := k) (by omega) (by decide) dX3_holds_71 ?_
          refine lv_istore (lv' := [(6, .int (f1 k)), (5, .int 0), (4, .int (nI k)), (0, .ref m0), (1, .int (nI j)), (2, .int day), (3, .int wo)]) hx hb dX3_holds_72 hl (by decide) rfl (fun ls hl => ?_)
          refine lv_aload_n hx hb dX3_holds_74 rfl (lv_at hl 3 rfl) ?_
          refine va_get (D := D) (ci := 3) (v := .ref m5) (C := RX3) (T := TX3) (N := 22) hx hb hts g_X3 hown hE.1 hP 0 rfl rfl 8 (by decide) f_26 (fun _ h9 => h9) rfl dX3_holds_75 ?_
          refine lv_iload hx hb dX3_holds_78 (lv_at hl 2 rfl) ?_
          refine k_ild hx hb hE.1 hP 5 0 rfl rfl (j := k) (by omega) (by decide) dX3_holds_80 ?_
          refine lv_istore (lv' := [(7, .int (f2 k)), (6, .int (f1 k)), (5, .int 0), (4, .int (nI k)), (0, .ref m0), (1, .int (nI j)), (2, .int day), (3, .int wo)]) hx hb dX3_holds_81 hl (by decide) rfl (fun ls hl => ?_)
          refine lv_aload_n hx hb dX3_holds_83 rfl (lv_at hl 4 rfl) ?_
          refine va_get (D := D) (ci := 3) (v := .ref m8) (C := RX3) (T := TX3) (N := 22) hx hb hts g_X3 hown hE.1 hP 0 rfl rfl 11 (by decide) f_35 (fun _ h9 => h9) rfl dX3_holds_84 ?_
          refine lv_iload hx hb dX3_holds_87 (lv_at hl 3 rfl) ?_
          refine lv_iload hx hb dX3_holds_89 (lv_at hl 2 rfl) ?_
          refine lv_if_eq (tgt := 130) hx hb dX3_holds_91 (by decide) (fun _ => ?_) (fun c_91 => absurd c_91 (by decide))
          refine lv_iconst (v := 0) hx hb dX3_holds_130 (by decide) ?_
          refine k_zst hx hb hE.1 hP hD hS 8 1 rfl rfl (j := k) (Or.inl rfl) (by omega) (by decide) dX3_holds_131 (fun H locs hP hD hS => ?_)
          have hP : va_P D vwCl (wM cy m0 m1 m2 m3 m4 m5 m6 m7 m8 m9 m10 m11 m12 m13 m14 m15 m16 m17 th td sed mi fr to lim f1 f2 dis pin (upd g_ k 0) en cm mc su isu fir lgt ofs rn wsn) H := hP
          have hD : va_D A (wM cy m0 m1 m2 m3 m4 m5 m6 m7 m8 m9 m10 m11 m12 m13 m14 m15 m16 m17 th td sed mi fr to lim f1 f2 dis pin (upd g_ k 0) en cm mc su isu fir lgt ofs rn wsn) := hD
          refine lv_iinc (v := (nI (k + 1))) (lv' := [(4, .int (nI (k + 1))), (7, .int (f2 k)), (6, .int (f1 k)), (5, .int 0), (0, .ref m0), (1, .int (nI j)), (2, .int day), (3, .int wo)]) hx hb dX3_holds_132 hl (k := 3) rfl (k_inc _) (by decide) rfl (fun ls hl => ?_)
          refine lv_goto (tgt := 3) hx hb dX3_holds_135 (by decide) ?_
          exact ih_3 (k + 1) (upd g_ k 0) _ _ ls (by omega) (by omega) (tb_succ hg (by show _ = bI (gd f1 f2 fr to dis day wo k = true); exact (bI_f (by rw [gd_eq s1 s2]; simp [c_6, c_12])).symm)) hP hD hS (lv_sub hl [0, 4, 5, 6, 7] rfl)
        · refine lv_iload_n hx hb dX3_holds_15 rfl (lv_at hl 3 rfl) ?_
          refine lv_aload_n hx hb dX3_holds_16 rfl (lv_at hl 1 rfl) ?_
          refine va_get (D := D) (ci := 3) (v := .ref m1) (C := RX3) (T := TX3) (N := 22) hx hb hts g_X3 hown hE.1 hP 0 rfl rfl 4 (by decide) f_13 (fun _ h9 => h9) rfl dX3_holds_17 ?_
          refine lv_iload hx hb dX3_holds_20 (lv_at hl 0 rfl) ?_
          refine k_ild hx hb hE.1 hP 1 0 rfl rfl (j := k) (by omega) (by decide) dX3_holds_22 ?_
          refine lv_aload_n hx hb dX3_holds_23 rfl (lv_at hl 1 rfl) ?_
          refine va_get (D := D) (ci := 3) (v := .ref m2) (C := RX3) (T := TX3) (N := 22) hx hb hts g_X3 hown hE.1 hP 0 rfl rfl 5 (by decide) f_17 (fun _ h9 => h9) rfl dX3_holds_24 ?_
          refine lv_iload hx hb dX3_holds_27 (lv_at hl 0 rfl) ?_
          refine k_ild hx hb hE.1 hP 2 0 rfl rfl (j := k) (by omega) (by decide) dX3_holds_29 ?_
          refine kcS_i (n := 3) (X := []) (wc := []) (Y := wM cy m0 m1 m2 m3 m4 m5 m6 m7 m8 m9 m10 m11 m12 m13 m14 m15 m16 m17 th td sed mi fr to lim f1 f2 dis pin g_ en cm mc su isu fir lgt ofs rn wsn) (As := [.int day, .int (fr k), .int (to k)]) (rest := []) ⟨hx, hb, hml, hown, hts⟩ hE hA hP hD hS (c_X3_in l D cy day (fr k) (to k)) (fun _ => rfl) gX3_holds_X3_in rfl rfl rfl ⟨by decide, by decide, by decide +kernel⟩ ⟨Nat.le_of_ble_eq_true rfl, Nat.le_of_ble_eq_true rfl⟩ rfl hl.1 rfl (Nat.le_of_ble_eq_true rfl) dX3_holds_30 ⟨Nat.zero_le _, Nat.zero_le _⟩ (fun r_1 u H locs e_2 hP hD hS => ?_)
          have hP : va_P D vwCl (wM cy m0 m1 m2 m3 m4 m5 m6 m7 m8 m9 m10 m11 m12 m13 m14 m15 m16 m17 th td sed mi fr to lim f1 f2 dis pin g_ en cm mc su isu fir lgt ofs rn wsn) H := hP
          have hD : va_D A (wM cy m0 m1 m2 m3 m4 m5 m6 m7 m8 m9 m10 m11 m12 m13 m14 m15 m16 m17 th td sed mi fr to lim f1 f2 dis pin g_ en cm mc su isu fir lgt ofs rn wsn) := hD
          have e_2 : r_1 = bI (inB day (fr k) (to k) = true) := e_2
          subst e_2
          refine k_ifeq (tgt := 62) hx hb dX3_holds_33 (by decide) (fun c_33 => ?_) (fun c_33 => ?_)
          · refine lv_iconst (v := 0) hx hb dX3_holds_62 (by decide) ?_
            refine lv_istore (lv' := [(5, .int 0), (4, .int (nI k)), (0, .ref m0), (1, .int (nI j)), (2, .int day), (3, .int wo)]) hx hb dX3_holds_63 hl (by decide) rfl (fun ls hl => ?_)
            refine lv_aload_n hx hb dX3_holds_65 rfl (lv_at hl 2 rfl) ?_
            refine va_get (D := D) (ci := 3) (v := .ref m4) (C := RX3) (T := TX3) (N := 22) hx hb hts g_X3 hown hE.1 hP 0 rfl rfl 7 (by decide) f_23 (fun _ h9 => h9) rfl dX3_holds_66 ?_
            refine lv_iload hx hb dX3_holds_69 (lv_at hl 1 rfl) ?_
            refine k_ild hx hb hE.1 hP 4 0 rfl rfl (j := k) (by omega) (by decide) dX3_holds_71 ?_
            refine lv_istore (lv' := [(6, .int (f1 k)), (5, .int 0), (4, .int (nI k)), (0, .ref m0), (1, .int (nI j)), (2, .int day), (3, .int wo)]) hx hb dX3_holds_72 hl (by decide) rfl (fun ls hl => ?_)
            refine lv_aload_n hx hb dX3_holds_74 rfl (lv_at hl 3 rfl) ?_
            refine va_get (D := D) (ci := 3) (v := .ref m5) (C := RX3) (T := TX3) (N := 22) hx hb hts g_X3 hown hE.1 hP 0 rfl rfl 8 (by decide) f_26 (fun _ h9 => h9) rfl dX3_holds_75 ?_
            refine lv_iload hx hb dX3_holds_78 (lv_at hl 2 rfl) ?_
            refine k_ild hx hb hE.1 hP 5 0 rfl rfl (j := k) (by omega) (by decide) dX3_holds_80 ?_
            refine lv_istore (lv' := [(7, .int (f2 k)), (6, .int (f1 k)), (5, .int 0), (4, .int (nI k)), (0, .ref m0), (1, .int (nI j)), (2, .int day), (3, .int wo)]) hx hb dX3_holds_81 hl (by decide) rfl (fun ls hl => ?_)
            refine lv_aload_n hx hb dX3_holds_83 rfl (lv_at hl 4 rfl) ?_
            refine va_get (D := D) (ci := 3) (v := .ref m8) (C := RX3) (T := TX3) (N := 22) hx hb hts g_X3 hown hE.1 hP 0 rfl rfl 11 (by decide) f_35 (fun _ h9 => h9) rfl dX3_holds_84 ?_
            refine lv_iload hx hb dX3_holds_87 (lv_at hl 3 rfl) ?_
            refine lv_iload hx hb dX3_holds_89 (lv_at hl 2 rfl) ?_
            refine lv_if_eq (tgt := 130) hx hb dX3_holds_91 (by decide) (fun _ => ?_) (fun c_91 => absurd c_91 (by decide))
            refine lv_iconst (v := 0) hx hb dX3_holds_130 (by decide) ?_
            refine k_zst hx hb hE.1 hP hD hS 8 1 rfl rfl (j := k) (Or.inl rfl) (by omega) (by decide) dX3_holds_131 (fun H locs hP hD hS => ?_)
            have hP : va_P D vwCl (wM cy m0 m1 m2 m3 m4 m5 m6 m7 m8 m9 m10 m11 m12 m13 m14 m15 m16 m17 th td sed mi fr to lim f1 f2 dis pin (upd g_ k 0) en cm mc su isu fir lgt ofs rn wsn) H := hP
            have hD : va_D A (wM cy m0 m1 m2 m3 m4 m5 m6 m7 m8 m9 m10 m11 m12 m13 m14 m15 m16 m17 th td sed mi fr to lim f1 f2 dis pin (upd g_ k 0) en cm mc su isu fir lgt ofs rn wsn) := hD
            refine lv_iinc (v := (nI (k + 1))) (lv' := [(4, .int (nI (k + 1))), (7, .int (f2 k)), (6, .int (f1 k)), (5, .int 0), (0, .ref m0), (1, .int (nI j)), (2, .int day), (3, .int wo)]) hx hb dX3_holds_132 hl (k := 3) rfl (k_inc _) (by decide) rfl (fun ls hl => ?_)
            refine lv_goto (tgt := 3) hx hb dX3_holds_135 (by decide) ?_
            exact ih_3 (k + 1) (upd g_ k 0) _ _ ls (by omega) (by omega) (tb_succ hg (by show _ = bI (gd f1 f2 fr to dis day wo k = true); exact (bI_f (by rw [gd_eq s1 s2]; simp [c_6, c_12, c_33])).symm)) hP hD hS (lv_sub hl [0, 4, 5, 6, 7] rfl)
          · refine lv_aload_n hx hb dX3_holds_36 rfl (lv_at hl 1 rfl) ?_
            refine va_get (D := D) (ci := 3) (v := .ref m6) (C := RX3) (T := TX3) (N := 22) hx hb hts g_X3 hown hE.1 hP 0 rfl rfl 9 (by decide) f_29 (fun _ h9 => h9) rfl dX3_holds_37 ?_
            refine lv_iload hx hb dX3_holds_40 (lv_at hl 0 rfl) ?_
            refine k_ild hx hb hE.1 hP 6 0 rfl rfl (j := k) (by omega) (by decide) dX3_holds_42 ?_
            refine lv_iconst (v := (-1)) hx hb dX3_holds_43 (by decide) ?_
            refine lv_icmp_eq (tgt := 58) hx hb dX3_holds_44 (by decide) (fun c_44 => ?_) (fun c_44 => ?_)
            · refine lv_iconst (v := 1) hx hb dX3_holds_58 (by decide) ?_
              refine lv_goto (tgt := 63) hx hb dX3_holds_59 (by decide) ?_
              refine lv_istore (lv' := [(5, .int 1), (4, .int (nI k)), (0, .ref m0), (1, .int (nI j)), (2, .int day), (3, .int wo)]) hx hb dX3_holds_63 hl (by decide) rfl (fun ls hl => ?_)
              refine lv_aload_n hx hb dX3_holds_65 rfl (lv_at hl 2 rfl) ?_
              refine va_get (D := D) (ci := 3) (v := .ref m4) (C := RX3) (T := TX3) (N := 22) hx hb hts g_X3 hown hE.1 hP 0 rfl rfl 7 (by decide) f_23 (fun _ h9 => h9) rfl dX3_holds_66 ?_
              refine lv_iload hx hb dX3_holds_69 (lv_at hl 1 rfl) ?_
              refine k_ild hx hb hE.1 hP 4 0 rfl rfl (j := k) (by omega) (by decide) dX3_holds_71 ?_
              refine lv_istore (lv' := [(6, .int (f1 k)), (5, .int 1), (4, .int (nI k)), (0, .ref m0), (1, .int (nI j)), (2, .int day), (3, .int wo)]) hx hb dX3_holds_72 hl (by decide) rfl (fun ls hl => ?_)
              refine lv_aload_n hx hb dX3_holds_74 rfl (lv_at hl 3 rfl) ?_
              refine va_get (D := D) (ci := 3) (v := .ref m5) (C := RX3) (T := TX3) (N := 22) hx hb hts g_X3 hown hE.1 hP 0 rfl rfl 8 (by decide) f_26 (fun _ h9 => h9) rfl dX3_holds_75 ?_
              refine lv_iload hx hb dX3_holds_78 (lv_at hl 2 rfl) ?_
              refine k_ild hx hb hE.1 hP 5 0 rfl rfl (j := k) (by omega) (by decide) dX3_holds_80 ?_
              refine lv_istore (lv' := [(7, .int (f2 k)), (6, .int (f1 k)), (5, .int 1), (4, .int (nI k)), (0, .ref m0), (1, .int (nI j)), (2, .int day), (3, .int wo)]) hx hb dX3_holds_81 hl (by decide) rfl (fun ls hl => ?_)
              refine lv_aload_n hx hb dX3_holds_83 rfl (lv_at hl 4 rfl) ?_
              refine va_get (D := D) (ci := 3) (v := .ref m8) (C := RX3) (T := TX3) (N := 22) hx hb hts g_X3 hown hE.1 hP 0 rfl rfl 11 (by decide) f_35 (fun _ h9 => h9) rfl dX3_holds_84 ?_
              refine lv_iload hx hb dX3_holds_87 (lv_at hl 3 rfl) ?_
              refine lv_iload hx hb dX3_holds_89 (lv_at hl 2 rfl) ?_
              refine lv_if_eq (tgt := 130) hx hb dX3_holds_91 (by decide) (fun c_91 => absurd c_91 (by decide)) (fun _ => ?_)
              refine lv_iload hx hb dX3_holds_94 (lv_at hl 1 rfl) ?_
              refine lv_iconst (v := (-1)) hx hb dX3_holds_96 (by decide) ?_
              refine lv_icmp_eq (tgt := 126) hx hb dX3_holds_97 (by decide) (fun c_97 => ?_) (fun c_97 => ?_)
              · refine lv_iconst (v := 1) hx hb dX3_holds_126 (by decide) ?_
                refine lv_goto (tgt := 131) hx hb dX3_holds_127 (by decide) ?_
                refine k_zst hx hb hE.1 hP hD hS 8 1 rfl rfl (j := k) (Or.inr rfl) (by omega) (by decide) dX3_holds_131 (fun H locs hP hD hS => ?_)
                have hP : va_P D vwCl (wM cy m0 m1 m2 m3 m4 m5 m6 m7 m8 m9 m10 m11 m12 m13 m14 m15 m16 m17 th td sed mi fr to lim f1 f2 dis pin (upd g_ k 1) en cm mc su isu fir lgt ofs rn wsn) H := hP
                have hD : va_D A (wM cy m0 m1 m2 m3 m4 m5 m6 m7 m8 m9 m10 m11 m12 m13 m14 m15 m16 m17 th td sed mi fr to lim f1 f2 dis pin (upd g_ k 1) en cm mc su isu fir lgt ofs rn wsn) := hD
                refine lv_iinc (v := (nI (k + 1))) (lv' := [(4, .int (nI (k + 1))), (7, .int (f2 k)), (6, .int (f1 k)), (5, .int 1), (0, .ref m0), (1, .int (nI j)), (2, .int day), (3, .int wo)]) hx hb dX3_holds_132 hl (k := 3) rfl (k_inc _) (by decide) rfl (fun ls hl => ?_)
                refine lv_goto (tgt := 3) hx hb dX3_holds_135 (by decide) ?_
                exact ih_3 (k + 1) (upd g_ k 1) _ _ ls (by omega) (by omega) (tb_succ hg (by show _ = bI (gd f1 f2 fr to dis day wo k = true); exact (bI_t (by rw [gd_eq s1 s2]; simp [c_6, c_12, c_33, c_44, c_97])).symm)) hP hD hS (lv_sub hl [0, 4, 5, 6, 7] rfl)
              · obtain ⟨q1, q2⟩ := s1.resolve_left c_97
                refine lv_aload_n hx hb dX3_holds_100 rfl (lv_at hl 4 rfl) ?_
                refine va_get (D := D) (ci := 3) (v := .ref m8) (C := RX3) (T := TX3) (N := 22) hx hb hts g_X3 hown hE.1 hP 0 rfl rfl 11 (by decide) f_35 (fun _ h9 => h9) rfl dX3_holds_101 ?_
                refine lv_iload hx hb dX3_holds_104 (lv_at hl 1 rfl) ?_
                refine k_top (z := nI (ix (f1 k))) q1 ?_
                refine k_zld hx hb hE.1 hP 8 1 rfl rfl (j := (ix (f1 k))) (by omega) (by decide) dX3_holds_106 ?_
                refine k_top (z := bI (gd f1 f2 fr to dis day wo (ix (f1 k)) = true)) (hg _ q2) ?_
                refine k_ifne (tgt := 126) hx hb dX3_holds_107 (by decide) (fun c_107 => ?_) (fun c_107 => ?_)
                · refine lv_iconst (v := 1) hx hb dX3_holds_126 (by decide) ?_
                  refine lv_goto (tgt := 131) hx hb dX3_holds_127 (by decide) ?_
                  refine k_zst hx hb hE.1 hP hD hS 8 1 rfl rfl (j := k) (Or.inr rfl) (by omega) (by decide) dX3_holds_131 (fun H locs hP hD hS => ?_)
                  have hP : va_P D vwCl (wM cy m0 m1 m2 m3 m4 m5 m6 m7 m8 m9 m10 m11 m12 m13 m14 m15 m16 m17 th td sed mi fr to lim f1 f2 dis pin (upd g_ k 1) en cm mc su isu fir lgt ofs rn wsn) H := hP
                  have hD : va_D A (wM cy m0 m1 m2 m3 m4 m5 m6 m7 m8 m9 m10 m11 m12 m13 m14 m15 m16 m17 th td sed mi fr to lim f1 f2 dis pin (upd g_ k 1) en cm mc su isu fir lgt ofs rn wsn) := hD
                  refine lv_iinc (v := (nI (k + 1))) (lv' := [(4, .int (nI (k + 1))), (7, .int (f2 k)), (6, .int (f1 k)), (5, .int 1), (0, .ref m0), (1, .int (nI j)), (2, .int day), (3, .int wo)]) hx hb dX3_holds_132 hl (k := 3) rfl (k_inc _) (by decide) rfl (fun ls hl => ?_)
                  refine lv_goto (tgt := 3) hx hb dX3_holds_135 (by decide) ?_
                  exact ih_3 (k + 1) (upd g_ k 1) _ _ ls (by omega) (by omega) (tb_succ hg (by show _ = bI (gd f1 f2 fr to dis day wo k = true); exact (bI_t (by rw [gd_eq s1 s2]; simp [c_6, c_12, c_33, c_44, c_97, c_107])).symm)) hP hD hS (lv_sub hl [0, 4, 5, 6, 7] rfl)
                · refine lv_iload hx hb dX3_holds_110 (lv_at hl 0 rfl) ?_
                  refine lv_iconst (v := (-1)) hx hb dX3_holds_112 (by decide) ?_
                  refine lv_icmp_eq (tgt := 130) hx hb dX3_holds_113 (by decide) (fun c_113 => ?_) (fun c_113 => ?_)
                  · refine lv_iconst (v := 0) hx hb dX3_holds_130 (by decide) ?_
                    refine k_zst hx hb hE.1 hP hD hS 8 1 rfl rfl (j := k) (Or.inl rfl) (by omega) (by decide) dX3_holds_131 (fun H locs hP hD hS => ?_)
                    have hP : va_P D vwCl (wM cy m0 m1 m2 m3 m4 m5 m6 m7 m8 m9 m10 m11 m12 m13 m14 m15 m16 m17 th td sed mi fr to lim f1 f2 dis pin (upd g_ k 0) en cm mc su isu fir lgt ofs rn wsn) H := hP
                    have hD : va_D A (wM cy m0 m1 m2 m3 m4 m5 m6 m7 m8 m9 m10 m11 m12 m13 m14 m15 m16 m17 th td sed mi fr to lim f1 f2 dis pin (upd g_ k 0) en cm mc su isu fir lgt ofs rn wsn) := hD
                    refine lv_iinc (v := (nI (k + 1))) (lv' := [(4, .int (nI (k + 1))), (7, .int (f2 k)), (6, .int (f1 k)), (5, .int 1), (0, .ref m0), (1, .int (nI j)), (2, .int day), (3, .int wo)]) hx hb dX3_holds_132 hl (k := 3) rfl (k_inc _) (by decide) rfl (fun ls hl => ?_)
                    refine lv_goto (tgt := 3) hx hb dX3_holds_135 (by decide) ?_
                    exact ih_3 (k + 1) (upd g_ k 0) _ _ ls (by omega) (by omega) (tb_succ hg (by show _ = bI (gd f1 f2 fr to dis day wo k = true); exact (bI_f (by rw [gd_eq s1 s2]; simp [c_6, c_12, c_33, c_44, c_97, c_107, c_113])).symm)) hP hD hS (lv_sub hl [0, 4, 5, 6, 7] rfl)
                  · obtain ⟨q3, q4⟩ := s2.resolve_left c_113
                    refine lv_aload_n hx hb dX3_holds_116 rfl (lv_at hl 4 rfl) ?_
                    refine va_get (D := D) (ci := 3) (v := .ref m8) (C := RX3) (T := TX3) (N := 22) hx hb hts g_X3 hown hE.1 hP 0 rfl rfl 11 (by decide) f_35 (fun _ h9 => h9) rfl dX3_holds_117 ?_
                    refine lv_iload hx hb dX3_holds_120 (lv_at hl 0 rfl) ?_
                    refine k_top (z := nI (ix (f2 k))) q3 ?_
                    refine k_zld hx hb hE.1 hP 8 1 rfl rfl (j := (ix (f2 k))) (by omega) (by decide) dX3_holds_122 ?_
                    refine k_top (z := bI (gd f1 f2 fr to dis day wo (ix (f2 k)) = true)) (hg _ q4) ?_
                    refine k_ifeq (tgt := 130) hx hb dX3_holds_123 (by decide) (fun c_123 => ?_) (fun c_123 => ?_)
                    · refine lv_iconst (v := 0) hx hb dX3_holds_130 (by decide) ?_
                      refine k_zst hx hb hE.1 hP hD hS 8 1 rfl rfl (j := k) (Or.inl rfl) (by omega) (by decide) dX3_holds_131 (fun H locs hP hD hS => ?_)
                      have hP : va_P D vwCl (wM cy m0 m1 m2 m3 m4 m5 m6 m7 m8 m9 m10 m11 m12 m13 m14 m15 m16 m17 th td sed mi fr to lim f1 f2 dis pin (upd g_ k 0) en cm mc su isu fir lgt ofs rn wsn) H := hP
                      have hD : va_D A (wM cy m0 m1 m2 m3 m4 m5 m6 m7 m8 m9 m10 m11 m12 m13 m14 m15 m16 m17 th td sed mi fr to lim f1 f2 dis pin (upd g_ k 0) en cm mc su isu fir lgt ofs rn wsn) := hD
                      refine lv_iinc (v := (nI (k + 1))) (lv' := [(4, .int (nI (k + 1))), (7, .int (f2 k)), (6, .int (f1 k)), (5, .int 1), (0, .ref m0), (1, .int (nI j)), (2, .int day), (3, .int wo)]) hx hb dX3_holds_132 hl (k := 3) rfl (k_inc _) (by decide) rfl (fun ls hl => ?_)
                      refine lv_goto (tgt := 3) hx hb dX3_holds_135 (by decide) ?_
                      exact ih_3 (k + 1) (upd g_ k 0) _ _ ls (by omega) (by omega) (tb_succ hg (by show _ = bI (gd f1 f2 fr to dis day wo k = true); exact (bI_f (by rw [gd_eq s1 s2]; simp [c_6, c_12, c_33, c_44, c_97, c_107, c_113, c_123])).symm)) hP hD hS (lv_sub hl [0, 4, 5, 6, 7] rfl)
                    · refine lv_iconst (v := 1) hx hb dX3_holds_126 (by decide) ?_
                      refine lv_goto (tgt := 131) hx hb dX3_holds_127 (by decide) ?_
                      refine k_zst hx hb hE.1 hP hD hS 8 1 rfl rfl (j := k) (Or.inr rfl) (by omega) (by decide) dX3_holds_131 (fun H locs hP hD hS => ?_)
                      have hP : va_P D vwCl (wM cy m0 m1 m2 m3 m4 m5 m6 m7 m8 m9 m10 m11 m12 m13 m14 m15 m16 m17 th td sed mi fr to lim f1 f2 dis pin (upd g_ k 1) en cm mc su isu fir lgt ofs rn wsn) H := hP
                      have hD : va_D A (wM cy m0 m1 m2 m3 m4 m5 m6 m7 m8 m9 m10 m11 m12 m13 m14 m15 m16 m17 th td sed mi fr to lim f1 f2 dis pin (upd g_ k 1) en cm mc su isu fir lgt ofs rn wsn) := hD
                      refine lv_iinc (v := (nI (k + 1))) (lv' := [(4, .int (nI (k + 1))), (7, .int (f2 k)), (6, .int (f1 k)), (5, .int 1), (0, .ref m0), (1, .int (nI j)), (2, .int day), (3, .int wo)]) hx hb dX3_holds_132 hl (k := 3) rfl (k_inc _) (by decide) rfl (fun ls hl => ?_)
                      refine lv_goto (tgt := 3) hx hb dX3_holds_135 (by decide) ?_
                      exact ih_3 (k + 1) (upd g_ k 1) _ _ ls (by omega) (by omega) (tb_succ hg (by show _ = bI (gd f1 f2 fr to dis day wo k = true); exact (bI_t (by rw [gd_eq s1 s2]; simp [c_6, c_12, c_33, c_44, c_97, c_107, c_113, c_123])).symm)) hP hD hS (lv_sub hl [0, 4, 5, 6, 7] rfl)
            · refine lv_iload_n hx hb dX3_holds_47 rfl (lv_at hl 3 rfl) ?_
              refine lv_aload_n hx hb dX3_holds_48 rfl (lv_at hl 1 rfl) ?_
              refine va_get (D := D) (ci := 3) (v := .ref m6) (C := RX3) (T := TX3) (N := 22) hx hb hts g_X3 hown hE.1 hP 0 rfl rfl 9 (by decide) f_29 (fun _ h9 => h9) rfl dX3_holds_49 ?_
              refine lv_iload hx hb dX3_holds_52 (lv_at hl 0 rfl) ?_
              refine k_ild hx hb hE.1 hP 6 0 rfl rfl (j := k) (by omega) (by decide) dX3_holds_54 ?_
              refine lv_icmp_ge (tgt := 62) hx hb dX3_holds_55 (by decide) (fun c_55 => ?_) (fun c_55 => ?_)
              · refine lv_iconst (v := 0) hx hb dX3_holds_62 (by decide) ?_
                refine lv_istore (lv' := [(5, .int 0), (4, .int (nI k)), (0, .ref m0), (1, .int (nI j)), (2, .int day), (3, .int wo)]) hx hb dX3_holds_63 hl (by decide) rfl (fun ls hl => ?_)
                refine lv_aload_n hx hb dX3_holds_65 rfl (lv_at hl 2 rfl) ?_
                refine va_get (D := D) (ci := 3) (v := .ref m4) (C := RX3) (T := TX3) (N := 22) hx hb hts g_X3 hown hE.1 hP 0 rfl rfl 7 (by decide) f_23 (fun _ h9 => h9) rfl dX3_holds_66 ?_
                refine lv_iload hx hb dX3_holds_69 (lv_at hl 1 rfl) ?_
                refine k_ild hx hb hE.1 hP 4 0 rfl rfl (j := k) (by omega) (by decide) dX3_holds_71 ?_
                refine lv_istore (lv' := [(6, .int (f1 k)), (5, .int 0), (4, .int (nI k)), (0, .ref m0), (1, .int (nI j)), (2, .int day), (3, .int wo)]) hx hb dX3_holds_72 hl (by decide) rfl (fun ls hl => ?_)
                refine lv_aload_n hx hb dX3_holds_74 rfl (lv_at hl 3 rfl) ?_
                refine va_get (D := D) (ci := 3) (v := .ref m5) (C := RX3) (T := TX3) (N := 22) hx hb hts g_X3 hown hE.1 hP 0 rfl rfl 8 (by decide) f_26 (fun _ h9 => h9) rfl dX3_holds_75 ?_
                refine lv_iload hx hb dX3_holds_78 (lv_at hl 2 rfl) ?_
                refine k_ild hx hb hE.1 hP 5 0 rfl rfl (j := k) (by omega) (by decide) dX3_holds_80 ?_
                refine lv_istore (lv' := [(7, .int (f2 k)), (6, .int (f1 k)), (5, .int 0), (4, .int (nI k)), (0, .ref m0), (1, .int (nI j)), (2, .int day), (3, .int wo)]) hx hb dX3_holds_81 hl (by decide) rfl (fun ls hl => ?_)
                refine lv_aload_n hx hb dX3_holds_83 rfl (lv_at hl 4 rfl) ?_
                refine va_get (D := D) (ci := 3) (v := .ref m8) (C := RX3) (T := TX3) (N := 22) hx hb hts g_X3 hown hE.1 hP 0 rfl rfl 11 (by decide) f_35 (fun _ h9 => h9) rfl dX3_holds_84 ?_
                refine lv_iload hx hb dX3_holds_87 (lv_at hl 3 rfl) ?_
                refine lv_iload hx hb dX3_holds_89 (lv_at hl 2 rfl) ?_
                refine lv_if_eq (tgt := 130) hx hb dX3_holds_91 (by decide) (fun _ => ?_) (fun c_91 => absurd c_91 (by decide))
                refine lv_iconst (v := 0) hx hb dX3_holds_130 (by decide) ?_
                refine k_zst hx hb hE.1 hP hD hS 8 1 rfl rfl (j := k) (Or.inl rfl) (by omega) (by decide) dX3_holds_131 (fun H locs hP hD hS => ?_)
                have hP : va_P D vwCl (wM cy m0 m1 m2 m3 m4 m5 m6 m7 m8 m9 m10 m11 m12 m13 m14 m15 m16 m17 th td sed mi fr to lim f1 f2 dis pin (upd g_ k 0) en cm mc su isu fir lgt ofs rn wsn) H := hP
                have hD : va_D A (wM cy m0 m1 m2 m3 m4 m5 m6 m7 m8 m9 m10 m11 m12 m13 m14 m15 m16 m17 th td sed mi fr to lim f1 f2 dis pin (upd g_ k 0) en cm mc su isu fir lgt ofs rn wsn) := hD
                refine lv_iinc (v := (nI (k + 1))) (lv' := [(4, .int (nI (k + 1))), (7, .int (f2 k)), (6, .int (f1 k)), (5, .int 0), (0, .ref m0), (1, .int (nI j)), (2, .int day), (3, .int wo)]) hx hb dX3_holds_132 hl (k := 3) rfl (k_inc _) (by decide) rfl (fun ls hl => ?_)
                refine lv_goto (tgt := 3) hx hb dX3_holds_135 (by decide) ?_
                exact ih_3 (k + 1) (upd g_ k 0) _ _ ls (by omega) (by omega) (tb_succ hg (by show _ = bI (gd f1 f2 fr to dis day wo k = true); exact (bI_f (by rw [gd_eq s1 s2]; simp [c_6, c_12, c_33, c_44, c_55])).symm)) hP hD hS (lv_sub hl [0, 4, 5, 6, 7] rfl)
              · refine lv_iconst (v := 1) hx hb dX3_holds_58 (by decide) ?_
                refine lv_goto (tgt := 63) hx hb dX3_holds_59 (by decide) ?_
                refine lv_istore (lv' := [(5, .int 1), (4, .int (nI k)), (0, .ref m0), (1, .int (nI j)), (2, .int day), (3, .int wo)]) hx hb dX3_holds_63 hl (by decide) rfl (fun ls hl => ?_)
                refine lv_aload_n hx hb dX3_holds_65 rfl (lv_at hl 2 rfl) ?_
                refine va_get (D := D) (ci := 3) (v := .ref m4) (C := RX3) (T := TX3) (N := 22) hx hb hts g_X3 hown hE.1 hP 0 rfl rfl 7 (by decide) f_23 (fun _ h9 => h9) rfl dX3_holds_66 ?_
                refine lv_iload hx hb dX3_holds_69 (lv_at hl 1 rfl) ?_
                refine k_ild hx hb hE.1 hP 4 0 rfl rfl (j := k) (by omega) (by decide) dX3_holds_71 ?_
                refine lv_istore (lv' := [(6, .int (f1 k)), (5, .int 1), (4, .int (nI k)), (0, .ref m0), (1, .int (nI j)), (2, .int day), (3, .int wo)]) hx hb dX3_holds_72 hl (by decide) rfl (fun ls hl => ?_)
                refine lv_aload_n hx hb dX3_holds_74 rfl (lv_at hl 3 rfl) ?_
                refine va_get (D := D) (ci := 3) (v := .ref m5) (C := RX3) (T := TX3) (N := 22) hx hb hts g_X3 hown hE.1 hP 0 rfl rfl 8 (by decide) f_26 (fun _ h9 => h9) rfl dX3_holds_75 ?_
                refine lv_iload hx hb dX3_holds_78 (lv_at hl 2 rfl) ?_
                refine k_ild hx hb hE.1 hP 5 0 rfl rfl (j := k) (by omega) (by decide) dX3_holds_80 ?_
                refine lv_istore (lv' := [(7, .int (f2 k)), (6, .int (f1 k)), (5, .int 1), (4, .int (nI k)), (0, .ref m0), (1, .int (nI j)), (2, .int day), (3, .int wo)]) hx hb dX3_holds_81 hl (by decide) rfl (fun ls hl => ?_)
                refine lv_aload_n hx hb dX3_holds_83 rfl (lv_at hl 4 rfl) ?_
                refine va_get (D := D) (ci := 3) (v := .ref m8) (C := RX3) (T := TX3) (N := 22) hx hb hts g_X3 hown hE.1 hP 0 rfl rfl 11 (by decide) f_35 (fun _ h9 => h9) rfl dX3_holds_84 ?_
                refine lv_iload hx hb dX3_holds_87 (lv_at hl 3 rfl) ?_
                refine lv_iload hx hb dX3_holds_89 (lv_at hl 2 rfl) ?_
                refine lv_if_eq (tgt := 130) hx hb dX3_holds_91 (by decide) (fun c_91 => absurd c_91 (by decide)) (fun _ => ?_)
                refine lv_iload hx hb dX3_holds_94 (lv_at hl 1 rfl) ?_
                refine lv_iconst (v := (-1)) hx hb dX3_holds_96 (by decide) ?_
                refine lv_icmp_eq (tgt := 126) hx hb dX3_holds_97 (by decide) (fun c_97 => ?_) (fun c_97 => ?_)
                · refine lv_iconst (v := 1) hx hb dX3_holds_126 (by decide) ?_
                  refine lv_goto (tgt := 131) hx hb dX3_holds_127 (by decide) ?_
                  refine k_zst hx hb hE.1 hP hD hS 8 1 rfl rfl (j := k) (Or.inr rfl) (by omega) (by decide) dX3_holds_131 (fun H locs hP hD hS => ?_)
                  have hP : va_P D vwCl (wM cy m0 m1 m2 m3 m4 m5 m6 m7 m8 m9 m10 m11 m12 m13 m14 m15 m16 m17 th td sed mi fr to lim f1 f2 dis pin (upd g_ k 1) en cm mc su isu fir lgt ofs rn wsn) H := hP
                  have hD : va_D A (wM cy m0 m1 m2 m3 m4 m5 m6 m7 m8 m9 m10 m11 m12 m13 m14 m15 m16 m17 th td sed mi fr to lim f1 f2 dis pin (upd g_ k 1) en cm mc su isu fir lgt ofs rn wsn) := hD
                  refine lv_iinc (v := (nI (k + 1))) (lv' := [(4, .int (nI (k + 1))), (7, .int (f2 k)), (6, .int (f1 k)), (5, .int 1), (0, .ref m0), (1, .int (nI j)), (2, .int day), (3, .int wo)]) hx hb dX3_holds_132 hl (k := 3) rfl (k_inc _) (by decide) rfl (fun ls hl => ?_)
                  refine lv_goto (tgt := 3) hx hb dX3_holds_135 (by decide) ?_
                  exact ih_3 (k + 1) (upd g_ k 1) _ _ ls (by omega) (by omega) (tb_succ hg (by show _ = bI (gd f1 f2 fr to dis day wo k = true); exact (bI_t (by rw [gd_eq s1 s2]; simp [c_6, c_12, c_33, c_44, c_55, c_97])).symm)) hP hD hS (lv_sub hl [0, 4, 5, 6, 7] rfl)
                · obtain ⟨q1, q2⟩ := s1.resolve_left c_97
                  refine lv_aload_n hx hb dX3_holds_100 rfl (lv_at hl 4 rfl) ?_
                  refine va_get (D := D) (ci := 3) (v := .ref m8) (C := RX3) (T := TX3) (N := 22) hx hb hts g_X3 hown hE.1 hP 0 rfl rfl 11 (by decide) f_35 (fun _ h9 => h9) rfl dX3_holds_101 ?_
                  refine lv_iload hx hb dX3_holds_104 (lv_at hl 1 rfl) ?_
                  refine k_top (z := nI (ix (f1 k))) q1 ?_
                  refine k_zld hx hb hE.1 hP 8 1 rfl rfl (j := (ix (f1 k))) (by omega) (by decide) dX3_holds_106 ?_
                  refine k_top (z := bI (gd f1 f2 fr to dis day wo (ix (f1 k)) = true)) (hg _ q2) ?_
                  refine k_ifne (tgt := 126) hx hb dX3_holds_107 (by decide) (fun c_107 => ?_) (fun c_107 => ?_)
                  · refine lv_iconst (v := 1) hx hb dX3_holds_126 (by decide) ?_
                    refine lv_goto (tgt := 131) hx hb dX3_holds_127 (by decide) ?_
                    refine k_zst hx hb hE.1 hP hD hS 8 1 rfl rfl (j := k) (Or.inr rfl) (by omega) (by decide) dX3_holds_131 (fun H locs hP hD hS => ?_)
                    have hP : va_P D vwCl (wM cy m0 m1 m2 m3 m4 m5 m6 m7 m8 m9 m10 m11 m12 m13 m14 m15 m16 m17 th td sed mi fr to lim f1 f2 dis pin (upd g_ k 1) en cm mc su isu fir lgt ofs rn wsn) H := hP
                    have hD : va_D A (wM cy m0 m1 m2 m3 m4 m5 m6 m7 m8 m9 m10 m11 m12 m13 m14 m15 m16 m17 th td sed mi fr to lim f1 f2 dis pin (upd g_ k 1) en cm mc su isu fir lgt ofs rn wsn) := hD
                    refine lv_iinc (v := (nI (k + 1))) (lv' := [(4, .int (nI (k + 1))), (7, .int (f2 k)), (6, .int (f1 k)), (5, .int 1), (0, .ref m0), (1, .int (nI j)), (2, .int day), (3, .int wo)]) hx hb dX3_holds_132 hl (k := 3) rfl (k_inc _) (by decide) rfl (fun ls hl => ?_)
                    refine lv_goto (tgt := 3) hx hb dX3_holds_135 (by decide) ?_
                    exact ih_3 (k + 1) (upd g_ k 1) _ _ ls (by omega) (by omega) (tb_succ hg (by show _ = bI (gd f1 f2 fr to dis day wo k = true); exact (bI_t (by rw [gd_eq s1 s2]; simp [c_6, c_12, c_33, c_44, c_55, c_97, c_107])).symm)) hP hD hS (lv_sub hl [0, 4, 5, 6, 7] rfl)
                  · refine lv_iload hx hb dX3_holds_110 (lv_at hl 0 rfl) ?_
                    refine lv_iconst (v := (-1)) hx hb dX3_holds_112 (by decide) ?_
                    refine lv_icmp_eq (tgt := 130) hx hb dX3_holds_113 (by decide) (fun c_113 => ?_) (fun c_113 => ?_)
                    · refine lv_iconst (v := 0) hx hb dX3_holds_130 (by decide) ?_
                      refine k_zst hx hb hE.1 hP hD hS 8 1 rfl rfl (j := k) (Or.inl rfl) (by omega) (by decide) dX3_holds_131 (fun H locs hP hD hS => ?_)
                      have hP : va_P D vwCl (wM cy m0 m1 m2 m3 m4 m5 m6 m7 m8 m9 m10 m11 m12 m13 m14 m15 m16 m17 th td sed mi fr to lim f1 f2 dis pin (upd g_ k 0) en cm mc su isu fir lgt ofs rn wsn) H := hP
                      have hD : va_D A (wM cy m0 m1 m2 m3 m4 m5 m6 m7 m8 m9 m10 m11 m12 m13 m14 m15 m16 m17 th td sed mi fr to lim f1 f2 dis pin (upd g_ k 0) en cm mc su isu fir lgt ofs rn wsn) := hD
                      refine lv_iinc (v := (nI (k + 1))) (lv' := [(4, .int (nI (k + 1))), (7, .int (f2 k)), (6, .int (f1 k)), (5, .int 1), (0, .ref m0), (1, .int (nI j)), (2, .int day), (3, .int wo)]) hx hb dX3_holds_132 hl (k := 3) rfl (k_inc _) (by decide) rfl (fun ls hl => ?_)
                      refine lv_goto (tgt := 3) hx hb dX3_holds_135 (by decide) ?_
                      exact ih_3 (k + 1) (upd g_ k 0) _ _ ls (by omega) (by omega) (tb_succ hg (by show _ = bI (gd f1 f2 fr to dis day wo k = true); exact (bI_f (by rw [gd_eq s1 s2]; simp [c_6, c_12, c_33, c_44, c_55, c_97, c_107, c_113])).symm)) hP hD hS (lv_sub hl [0, 4, 5, 6, 7] rfl)
                    · obtain ⟨q3, q4⟩ := s2.resolve_left c_113
                      refine lv_aload_n hx hb dX3_holds_116 rfl (lv_at hl 4 rfl) ?_
                      refine va_get (D := D) (ci := 3) (v := .ref m8) (C := RX3) (T := TX3) (N := 22) hx hb hts g_X3 hown hE.1 hP 0 rfl rfl 11 (by decide) f_35 (fun _ h9 => h9) rfl dX3_holds_117 ?_
                      refine lv_iload hx hb dX3_holds_120 (lv_at hl 0 rfl) ?_
                      refine k_top (z := nI (ix (f2 k))) q3 ?_
                      refine k_zld hx hb hE.1 hP 8 1 rfl rfl (j := (ix (f2 k))) (by omega) (by decide) dX3_holds_122 ?_
                      refine k_top (z := bI (gd f1 f2 fr to dis day wo (ix (f2 k)) = true)) (hg _ q4) ?_
                      refine k_ifeq (tgt := 130) hx hb dX3_holds_123 (by decide) (fun c_123 => ?_) (fun c_123 => ?_)
                      · refine lv_iconst (v := 0) hx hb dX3_holds_130 (by decide) ?_
                        refine k_zst hx hb hE.1 hP hD hS 8 1 rfl rfl (j := k) (Or.inl rfl) (by omega) (by decide) dX3_holds_131 (fun H locs hP hD hS => ?_)
                        have hP : va_P D vwCl (wM cy m0 m1 m2 m3 m4 m5 m6 m7 m8 m9 m10 m11 m12 m13 m14 m15 m16 m17 th td sed mi fr to lim f1 f2 dis pin (upd g_ k 0) en cm mc su isu fir lgt ofs rn wsn) H := hP
                        have hD : va_D A (wM cy m0 m1 m2 m3 m4 m5 m6 m7 m8 m9 m10 m11 m12 m13 m14 m15 m16 m17 th td sed mi fr to lim f1 f2 dis pin (upd g_ k 0) en cm mc su isu fir lgt ofs rn wsn) := hD
                        refine lv_iinc (v := (nI (k + 1))) (lv' := [(4, .int (nI (k + 1))), (7, .int (f2 k)), (6, .int (f1 k)), (5, .int 1), (0, .ref m0), (1, .int (nI j)), (2, .int day), (3, .int wo)]) hx hb dX3_holds_132 hl (k := 3) rfl (k_inc _) (by decide) rfl (fun ls hl => ?_)
                        refine lv_goto (tgt := 3) hx hb dX3_holds_135 (by decide) ?_
                        exact ih_3 (k + 1) (upd g_ k 0) _ _ ls (by omega) (by omega) (tb_succ hg (by show _ = bI (gd f1 f2 fr to dis day wo k = true); exact (bI_f (by rw [gd_eq s1 s2]; simp [c_6, c_12, c_33, c_44, c_55, c_97, c_107, c_113, c_123])).symm)) hP hD hS (lv_sub hl [0, 4, 5, 6, 7] rfl)
                      · refine lv_iconst (v := 1) hx hb dX3_holds_126 (by decide) ?_
                        refine lv_goto (tgt := 131) hx hb dX3_holds_127 (by decide) ?_
                        refine k_zst hx hb hE.1 hP hD hS 8 1 rfl rfl (j := k) (Or.inr rfl) (by omega) (by decide) dX3_holds_131 (fun H locs hP hD hS => ?_)
                        have hP : va_P D vwCl (wM cy m0 m1 m2 m3 m4 m5 m6 m7 m8 m9 m10 m11 m12 m13 m14 m15 m16 m17 th td sed mi fr to lim f1 f2 dis pin (upd g_ k 1) en cm mc su isu fir lgt ofs rn wsn) H := hP
                        have hD : va_D A (wM cy m0 m1 m2 m3 m4 m5 m6 m7 m8 m9 m10 m11 m12 m13 m14 m15 m16 m17 th td sed mi fr to lim f1 f2 dis pin (upd g_ k 1) en cm mc su isu fir lgt ofs rn wsn) := hD
                        refine lv_iinc (v := (nI (k + 1))) (lv' := [(4, .int (nI (k + 1))), (7, .int (f2 k)), (6, .int (f1 k)), (5, .int 1), (0, .ref m0), (1, .int (nI j)), (2, .int day), (3, .int wo)]) hx hb dX3_holds_132 hl (k := 3) rfl (k_inc _) (by decide) rfl (fun ls hl => ?_)
                        refine lv_goto (tgt := 3) hx hb dX3_holds_135 (by decide) ?_
                        exact ih_3 (k + 1) (upd g_ k 1) _ _ ls (by omega) (by omega) (tb_succ hg (by show _ = bI (gd f1 f2 fr to dis day wo k = true); exact (bI_t (by rw [gd_eq s1 s2]; simp [c_6, c_12, c_33, c_44, c_55, c_97, c_107, c_113, c_123])).symm)) hP hD hS (lv_sub hl [0, 4, 5, 6, 7] rfl)
  exact L_3 ((j + 1 - 0) + 1) 0 ag _ _ ls (Nat.lt_succ_self _) (by omega) (fun i hi => absurd hi (Nat.not_lt_zero _)) hP hD hS (lv_sub hl [0, 1, 2, 3, 4] rfl)

set_option maxHeartbeats 4000000 in
set_option maxRecDepth 100000 in
theorem c_X3_ends (l : Launch) (D : va_G) (cy : ClassId × ClassId × ClassId) (m0 m1 m2 m3 m4 m5 m6 m7 m8 m9 m10 m11 m12 m13 m14 m15 m16 m17 : Nat) (th td sed : Int32) (mi : Nat) (fr to lim f1 f2 dis pin ag en cm : Nat → Int32) (mc : Nat) (su isu fir lgt ofs rn wsn : Nat → Int32) (j : Nat) (hm : mi ≤ 8) (h1 : ∀ i, i < mi → sgP f1 i) (h2 : ∀ i, i < mi → sgP f2 i) (hj : j < mi) : kI l D cy yX3_ends wsX3_ends (krm 0 0) [.ref m0, .int (nI j)] (wM cy m0 m1 m2 m3 m4 m5 m6 m7 m8 m9 m10 m11 m12 m13 m14 m15 m16 m17 th td sed mi fr to lim f1 f2 dis pin ag en cm mc su isu fir lgt ofs rn wsn) (fun (r : Int32) (u : (Nat → Int32)) => r = edV f1 f2 to j) (fun u : (Nat → Int32) => wM cy m0 m1 m2 m3 m4 m5 m6 m7 m8 m9 m10 m11 m12 m13 m14 m15 m16 m17 th td sed mi fr to lim f1 f2 dis pin ag u cm mc su isu fir lgt ofs rn wsn) := by
  refine kI.of (cc := cX3_ends) (maxL := 6) (rt := .int) (Or.inl rfl) (by decide) rfl (Nat.le_of_ble_eq_true rfl) ?_
  intro p e s m args below meth c Q A ls hx hb hml hown hts hE hA hP hD hl hret
  have hS : va_S A s.heap s.heap [] := va_S.rf
  have hl : lv_has ls 6 [(0, .ref m0), (1, .int (nI j))] := hl
  have g_X3 : ∀ w ∈ wsX30, w ∈ wsX3_ends := by decide +kernel
  have f_23 := hts (.fieldLink RX3 23 "CertHerdModel" "firstSigners" "[I") (by decide +kernel)
  have f_26 := hts (.fieldLink RX3 26 "CertHerdModel" "secondSigners" "[I") (by decide +kernel)
  have f_39 := hts (.fieldLink RX3 39 "CertHerdModel" "endDays" "[I") (by decide +kernel)
  have f_17 := hts (.fieldLink RX3 17 "CertHerdModel" "tos" "[I") (by decide +kernel)
  refine lv_iconst (v := 0) hx hb dX3_ends_0 (by decide) ?_
  refine lv_istore_n (lv' := [(2, .int 0), (0, .ref m0), (1, .int (nI j))]) hx hb dX3_ends_1 rfl hl (by decide) rfl (fun ls hl => ?_)
  have L_2 : ∀ (f : Nat) (k : Nat) (g_ : Nat → Int32) (H : Heap) (locs : List Loc) (ls : Array Slot), ((j + 1 - k) < f) → (k ≤ j + 1) → (∀ i, i < k → g_ i = edV f1 f2 to i) → va_P D vwCl (wM cy m0 m1 m2 m3 m4 m5 m6 m7 m8 m9 m10 m11 m12 m13 m14 m15 m16 m17 th td sed mi fr to lim f1 f2 dis pin ag g_ cm mc su isu fir lgt ofs rn wsn) H → va_D A (wM cy m0 m1 m2 m3 m4 m5 m6 m7 m8 m9 m10 m11 m12 m13 m14 m15 m16 m17 th td sed mi fr to lim f1 f2 dis pin ag g_ cm mc su isu fir lgt ofs rn wsn) → va_S A s.heap H locs → lv_has ls 6 [(2, .int (nI k)), (0, .ref m0), (1, .int (nI j))] → W p l e (krm 0 0) s m args below meth c H locs 0 0 Q (F0 m 2 ls []) := by
    intro f
    induction f with
    | zero => intro k g_ H locs ls hf; exact absurd hf (Nat.not_lt_zero _)
    | succ f ih_2 =>
      intro k g_ H locs ls hf hk hg hP hD hS hl
      refine lv_iload_n hx hb dX3_ends_2 rfl (lv_at hl 0 rfl) ?_
      refine lv_iload_n hx hb dX3_ends_3 rfl (lv_at hl 2 rfl) ?_
      refine lv_icmp_gt (tgt := 107) hx hb dX3_ends_4 (by decide) (fun c_4 => ?_) (fun c_4 => ?_)
      · have c_4n : j < k := k_ltN (a := j) (b := k) (by omega) (by omega) c_4
        refine lv_aload_n hx hb dX3_ends_107 rfl (lv_at hl 1 rfl) ?_
        refine va_get (D := D) (ci := 3) (v := .ref m9) (C := RX3) (T := TX3) (N := 22) hx hb hts g_X3 hown hE.1 hP 0 rfl rfl 12 (by decide) f_39 (fun _ h9 => h9) rfl dX3_ends_108 ?_
        refine lv_iload_n hx hb dX3_ends_111 rfl (lv_at hl 2 rfl) ?_
        refine k_ild hx hb hE.1 hP 9 0 rfl rfl (j := j) (by omega) (by decide) dX3_ends_112 ?_
        refine k_top (z := edV f1 f2 to j) (hg j (by omega)) ?_
        exact hret _ _ _ _ (edV f1 f2 to j) g_ dX3_ends_113 (Or.inl rfl) rfl hP hS
      · have c_4n : ¬ j < k := k_nltN (a := j) (b := k) (by omega) (by omega) c_4
        have hk8 : k < mi := by omega
        have s1 := h1 k hk8
        have s2 := h2 k hk8
        refine lv_aload_n hx hb dX3_ends_7 rfl (lv_at hl 1 rfl) ?_
        refine va_get (D := D) (ci := 3) (v := .ref m4) (C := RX3) (T := TX3) (N := 22) hx hb hts g_X3 hown hE.1 hP 0 rfl rfl 7 (by decide) f_23 (fun _ h9 => h9) rfl dX3_ends_8 ?_
        refine lv_iload_n hx hb dX3_ends_11 rfl (lv_at hl 0 rfl) ?_
        refine k_ild hx hb hE.1 hP 4 0 rfl rfl (j := k) (by omega) (by decide) dX3_ends_12 ?_
        refine lv_istore_n (lv' := [(3, .int (f1 k)), (2, .int (nI k)), (0, .ref m0), (1, .int (nI j))]) hx hb dX3_ends_13 rfl hl (by decide) rfl (fun ls hl => ?_)
        refine lv_aload_n hx hb dX3_ends_14 rfl (lv_at hl 2 rfl) ?_
        refine va_get (D := D) (ci := 3) (v := .ref m5) (C := RX3) (T := TX3) (N := 22) hx hb hts g_X3 hown hE.1 hP 0 rfl rfl 8 (by decide) f_26 (fun _ h9 => h9) rfl dX3_ends_15 ?_
        refine lv_iload_n hx hb dX3_ends_18 rfl (lv_at hl 1 rfl) ?_
        refine k_ild hx hb hE.1 hP 5 0 rfl rfl (j := k) (by omega) (by decide) dX3_ends_19 ?_
        refine lv_istore (lv' := [(4, .int (f2 k)), (3, .int (f1 k)), (2, .int (nI k)), (0, .ref m0), (1, .int (nI j))]) hx hb dX3_ends_20 hl (by decide) rfl (fun ls hl => ?_)
        refine lv_iload_n hx hb dX3_ends_22 rfl (lv_at hl 1 rfl) ?_
        refine lv_iconst (v := (-1)) hx hb dX3_ends_23 (by decide) ?_
        refine lv_icmp_ne (tgt := 33) hx hb dX3_ends_24 (by decide) (fun c_24 => ?_) (fun c_24 => ?_)
        · obtain ⟨q1, q2⟩ := s1.resolve_left c_24
          refine lv_iload hx hb dX3_ends_33 (lv_at hl 0 rfl) ?_
          refine lv_iconst (v := (-1)) hx hb dX3_ends_35 (by decide) ?_
          refine lv_icmp_eq (tgt := 65) hx hb dX3_ends_36 (by decide) (fun c_36 => ?_) (fun c_36 => ?_)
          · refine lv_aload_n hx hb dX3_ends_65 rfl (lv_at hl 3 rfl) ?_
            refine va_get (D := D) (ci := 3) (v := .ref m9) (C := RX3) (T := TX3) (N := 22) hx hb hts g_X3 hown hE.1 hP 0 rfl rfl 12 (by decide) f_39 (fun _ h9 => h9) rfl dX3_ends_66 ?_
            refine lv_iload_n hx hb dX3_ends_69 rfl (lv_at hl 1 rfl) ?_
            refine k_top (z := nI (ix (f1 k))) q1 ?_
            refine k_ild hx hb hE.1 hP 9 0 rfl rfl (j := (ix (f1 k))) (by omega) (by decide) dX3_ends_70 ?_
            refine k_top (z := edV f1 f2 to (ix (f1 k))) (hg _ q2) ?_
            refine lv_istore (lv' := [(5, .int (edV f1 f2 to (ix (f1 k)))), (4, .int (f2 k)), (3, .int (f1 k)), (2, .int (nI k)), (0, .ref m0), (1, .int (nI j))]) hx hb dX3_ends_71 hl (by decide) rfl (fun ls hl => ?_)
            refine lv_aload_n hx hb dX3_ends_73 rfl (lv_at hl 4 rfl) ?_
            refine va_get (D := D) (ci := 3) (v := .ref m9) (C := RX3) (T := TX3) (N := 22) hx hb hts g_X3 hown hE.1 hP 0 rfl rfl 12 (by decide) f_39 (fun _ h9 => h9) rfl dX3_ends_74 ?_
            refine lv_iload_n hx hb dX3_ends_77 rfl (lv_at hl 3 rfl) ?_
            refine lv_iload hx hb dX3_ends_78 (lv_at hl 0 rfl) ?_
            refine lv_aload_n hx hb dX3_ends_80 rfl (lv_at hl 4 rfl) ?_
            refine va_get (D := D) (ci := 3) (v := .ref m2) (C := RX3) (T := TX3) (N := 22) hx hb hts g_X3 hown hE.1 hP 0 rfl rfl 5 (by decide) f_17 (fun _ h9 => h9) rfl dX3_ends_81 ?_
            refine lv_iload_n hx hb dX3_ends_84 rfl (lv_at hl 3 rfl) ?_
            refine k_ild hx hb hE.1 hP 2 0 rfl rfl (j := k) (by omega) (by decide) dX3_ends_85 ?_
            refine lv_icmp_ge (tgt := 94) hx hb dX3_ends_86 (by decide) (fun c_86 => ?_) (fun c_86 => ?_)
            · refine lv_aload_n hx hb dX3_ends_94 rfl (lv_at hl 4 rfl) ?_
              refine va_get (D := D) (ci := 3) (v := .ref m2) (C := RX3) (T := TX3) (N := 22) hx hb hts g_X3 hown hE.1 hP 0 rfl rfl 5 (by decide) f_17 (fun _ h9 => h9) rfl dX3_ends_95 ?_
              refine lv_iload_n hx hb dX3_ends_98 rfl (lv_at hl 3 rfl) ?_
              refine k_ild hx hb hE.1 hP 2 0 rfl rfl (j := k) (by omega) (by decide) dX3_ends_99 ?_
              refine k_ist hx hb hE.1 hP hD hS 9 0 rfl rfl (j := k) (by omega) (by decide) dX3_ends_100 (fun H locs hP hD hS => ?_)
              have hP : va_P D vwCl (wM cy m0 m1 m2 m3 m4 m5 m6 m7 m8 m9 m10 m11 m12 m13 m14 m15 m16 m17 th td sed mi fr to lim f1 f2 dis pin ag (upd g_ k (to k)) cm mc su isu fir lgt ofs rn wsn) H := hP
              have hD : va_D A (wM cy m0 m1 m2 m3 m4 m5 m6 m7 m8 m9 m10 m11 m12 m13 m14 m15 m16 m17 th td sed mi fr to lim f1 f2 dis pin ag (upd g_ k (to k)) cm mc su isu fir lgt ofs rn wsn) := hD
              refine lv_iinc (v := (nI (k + 1))) (lv' := [(2, .int (nI (k + 1))), (5, .int (edV f1 f2 to (ix (f1 k)))), (4, .int (f2 k)), (3, .int (f1 k)), (0, .ref m0), (1, .int (nI j))]) hx hb dX3_ends_101 hl (k := 3) rfl (k_inc _) (by decide) rfl (fun ls hl => ?_)
              refine lv_goto (tgt := 2) hx hb dX3_ends_104 (by decide) ?_
              exact ih_2 (k + 1) (upd g_ k (to k)) _ _ ls (by omega) (by omega) (tb_succ hg (by rw [edV_eq s1 s2]; simp [edM, c_4, c_24, c_36, c_86])) hP hD hS (lv_sub hl [0, 4, 5] rfl)
            · refine lv_iload hx hb dX3_ends_89 (lv_at hl 0 rfl) ?_
              refine lv_goto (tgt := 100) hx hb dX3_ends_91 (by decide) ?_
              refine k_ist hx hb hE.1 hP hD hS 9 0 rfl rfl (j := k) (by omega) (by decide) dX3_ends_100 (fun H locs hP hD hS => ?_)
              have hP : va_P D vwCl (wM cy m0 m1 m2 m3 m4 m5 m6 m7 m8 m9 m10 m11 m12 m13 m14 m15 m16 m17 th td sed mi fr to lim f1 f2 dis pin ag (upd g_ k (edV f1 f2 to (ix (f1 k)))) cm mc su isu fir lgt ofs rn wsn) H := hP
              have hD : va_D A (wM cy m0 m1 m2 m3 m4 m5 m6 m7 m8 m9 m10 m11 m12 m13 m14 m15 m16 m17 th td sed mi fr to lim f1 f2 dis pin ag (upd g_ k (edV f1 f2 to (ix (f1 k)))) cm mc su isu fir lgt ofs rn wsn) := hD
              refine lv_iinc (v := (nI (k + 1))) (lv' := [(2, .int (nI (k + 1))), (5, .int (edV f1 f2 to (ix (f1 k)))), (4, .int (f2 k)), (3, .int (f1 k)), (0, .ref m0), (1, .int (nI j))]) hx hb dX3_ends_101 hl (k := 3) rfl (k_inc _) (by decide) rfl (fun ls hl => ?_)
              refine lv_goto (tgt := 2) hx hb dX3_ends_104 (by decide) ?_
              exact ih_2 (k + 1) (upd g_ k (edV f1 f2 to (ix (f1 k)))) _ _ ls (by omega) (by omega) (tb_succ hg (by rw [edV_eq s1 s2]; simp [edM, c_4, c_24, c_36, c_86])) hP hD hS (lv_sub hl [0, 4, 5] rfl)
          · obtain ⟨q3, q4⟩ := s2.resolve_left c_36
            refine lv_aload_n hx hb dX3_ends_39 rfl (lv_at hl 3 rfl) ?_
            refine va_get (D := D) (ci := 3) (v := .ref m9) (C := RX3) (T := TX3) (N := 22) hx hb hts g_X3 hown hE.1 hP 0 rfl rfl 12 (by decide) f_39 (fun _ h9 => h9) rfl dX3_ends_40 ?_
            refine lv_iload hx hb dX3_ends_43 (lv_at hl 0 rfl) ?_
            refine k_top (z := nI (ix (f2 k))) q3 ?_
            refine k_ild hx hb hE.1 hP 9 0 rfl rfl (j := (ix (f2 k))) (by omega) (by decide) dX3_ends_45 ?_
            refine k_top (z := edV f1 f2 to (ix (f2 k))) (hg _ q4) ?_
            refine lv_aload_n hx hb dX3_ends_46 rfl (lv_at hl 3 rfl) ?_
            refine va_get (D := D) (ci := 3) (v := .ref m9) (C := RX3) (T := TX3) (N := 22) hx hb hts g_X3 hown hE.1 hP 0 rfl rfl 12 (by decide) f_39 (fun _ h9 => h9) rfl dX3_ends_47 ?_
            refine lv_iload_n hx hb dX3_ends_50 rfl (lv_at hl 1 rfl) ?_
            refine k_top (z := nI (ix (f1 k))) q1 ?_
            refine k_ild hx hb hE.1 hP 9 0 rfl rfl (j := (ix (f1 k))) (by omega) (by decide) dX3_ends_51 ?_
            refine k_top (z := edV f1 f2 to (ix (f1 k))) (hg _ q2) ?_
            refine lv_icmp_le (tgt := 65) hx hb dX3_ends_52 (by decide) (fun c_52 => ?_) (fun c_52 => ?_)
            · refine lv_aload_n hx hb dX3_ends_65 rfl (lv_at hl 3 rfl) ?_
              refine va_get (D := D) (ci := 3) (v := .ref m9) (C := RX3) (T := TX3) (N := 22) hx hb hts g_X3 hown hE.1 hP 0 rfl rfl 12 (by decide) f_39 (fun _ h9 => h9) rfl dX3_ends_66 ?_
              refine lv_iload_n hx hb dX3_ends_69 rfl (lv_at hl 1 rfl) ?_
              refine k_top (z := nI (ix (f1 k))) q1 ?_
              refine k_ild hx hb hE.1 hP 9 0 rfl rfl (j := (ix (f1 k))) (by omega) (by decide) dX3_ends_70 ?_
              refine k_top (z := edV f1 f2 to (ix (f1 k))) (hg _ q2) ?_
              refine lv_istore (lv' := [(5, .int (edV f1 f2 to (ix (f1 k)))), (4, .int (f2 k)), (3, .int (f1 k)), (2, .int (nI k)), (0, .ref m0), (1, .int (nI j))]) hx hb dX3_ends_71 hl (by decide) rfl (fun ls hl => ?_)
              refine lv_aload_n hx hb dX3_ends_73 rfl (lv_at hl 4 rfl) ?_
              refine va_get (D := D) (ci := 3) (v := .ref m9) (C := RX3) (T := TX3) (N := 22) hx hb hts g_X3 hown hE.1 hP 0 rfl rfl 12 (by decide) f_39 (fun _ h9 => h9) rfl dX3_ends_74 ?_
              refine lv_iload_n hx hb dX3_ends_77 rfl (lv_at hl 3 rfl) ?_
              refine lv_iload hx hb dX3_ends_78 (lv_at hl 0 rfl) ?_
              refine lv_aload_n hx hb dX3_ends_80 rfl (lv_at hl 4 rfl) ?_
              refine va_get (D := D) (ci := 3) (v := .ref m2) (C := RX3) (T := TX3) (N := 22) hx hb hts g_X3 hown hE.1 hP 0 rfl rfl 5 (by decide) f_17 (fun _ h9 => h9) rfl dX3_ends_81 ?_
              refine lv_iload_n hx hb dX3_ends_84 rfl (lv_at hl 3 rfl) ?_
              refine k_ild hx hb hE.1 hP 2 0 rfl rfl (j := k) (by omega) (by decide) dX3_ends_85 ?_
              refine lv_icmp_ge (tgt := 94) hx hb dX3_ends_86 (by decide) (fun c_86 => ?_) (fun c_86 => ?_)
              · refine lv_aload_n hx hb dX3_ends_94 rfl (lv_at hl 4 rfl) ?_
                refine va_get (D := D) (ci := 3) (v := .ref m2) (C := RX3) (T := TX3) (N := 22) hx hb hts g_X3 hown hE.1 hP 0 rfl rfl 5 (by decide) f_17 (fun _ h9 => h9) rfl dX3_ends_95 ?_
                refine lv_iload_n hx hb dX3_ends_98 rfl (lv_at hl 3 rfl) ?_
                refine k_ild hx hb hE.1 hP 2 0 rfl rfl (j := k) (by omega) (by decide) dX3_ends_99 ?_
                refine k_ist hx hb hE.1 hP hD hS 9 0 rfl rfl (j := k) (by omega) (by decide) dX3_ends_100 (fun H locs hP hD hS => ?_)
                have hP : va_P D vwCl (wM cy m0 m1 m2 m3 m4 m5 m6 m7 m8 m9 m10 m11 m12 m13 m14 m15 m16 m17 th td sed mi fr to lim f1 f2 dis pin ag (upd g_ k (to k)) cm mc su isu fir lgt ofs rn wsn) H := hP
                have hD : va_D A (wM cy m0 m1 m2 m3 m4 m5 m6 m7 m8 m9 m10 m11 m12 m13 m14 m15 m16 m17 th td sed mi fr to lim f1 f2 dis pin ag (upd g_ k (to k)) cm mc su isu fir lgt ofs rn wsn) := hD
                refine lv_iinc (v := (nI (k + 1))) (lv' := [(2, .int (nI (k + 1))), (5, .int (edV f1 f2 to (ix (f1 k)))), (4, .int (f2 k)), (3, .int (f1 k)), (0, .ref m0), (1, .int (nI j))]) hx hb dX3_ends_101 hl (k := 3) rfl (k_inc _) (by decide) rfl (fun ls hl => ?_)
                refine lv_goto (tgt := 2) hx hb dX3_ends_104 (by decide) ?_
                exact ih_2 (k + 1) (upd g_ k (to k)) _ _ ls (by omega) (by omega) (tb_succ hg (by rw [edV_eq s1 s2]; simp [edM, c_4, c_24, c_36, c_52, c_86])) hP hD hS (lv_sub hl [0, 4, 5] rfl)
              · refine lv_iload hx hb dX3_ends_89 (lv_at hl 0 rfl) ?_
                refine lv_goto (tgt := 100) hx hb dX3_ends_91 (by decide) ?_
                refine k_ist hx hb hE.1 hP hD hS 9 0 rfl rfl (j := k) (by omega) (by decide) dX3_ends_100 (fun H locs hP hD hS => ?_)
                have hP : va_P D vwCl (wM cy m0 m1 m2 m3 m4 m5 m6 m7 m8 m9 m10 m11 m12 m13 m14 m15 m16 m17 th td sed mi fr to lim f1 f2 dis pin ag (upd g_ k (edV f1 f2 to (ix (f1 k)))) cm mc su isu fir lgt ofs rn wsn) H := hP
                have hD : va_D A (wM cy m0 m1 m2 m3 m4 m5 m6 m7 m8 m9 m10 m11 m12 m13 m14 m15 m16 m17 th td sed mi fr to lim f1 f2 dis pin ag (upd g_ k (edV f1 f2 to (ix (f1 k)))) cm mc su isu fir lgt ofs rn wsn) := hD
                refine lv_iinc (v := (nI (k + 1))) (lv' := [(2, .int (nI (k + 1))), (5, .int (edV f1 f2 to (ix (f1 k)))), (4, .int (f2 k)), (3, .int (f1 k)), (0, .ref m0), (1, .int (nI j))]) hx hb dX3_ends_101 hl (k := 3) rfl (k_inc _) (by decide) rfl (fun ls hl => ?_)
                refine lv_goto (tgt := 2) hx hb dX3_ends_104 (by decide) ?_
                exact ih_2 (k + 1) (upd g_ k (edV f1 f2 to (ix (f1 k)))) _ _ ls (by omega) (by omega) (tb_succ hg (by rw [edV_eq s1 s2]; simp [edM, c_4, c_24, c_36, c_52, c_86])) hP hD hS (lv_sub hl [0, 4, 5] rfl)
            · refine lv_aload_n hx hb dX3_ends_55 rfl (lv_at hl 3 rfl) ?_
              refine va_get (D := D) (ci := 3) (v := .ref m9) (C := RX3) (T := TX3) (N := 22) hx hb hts g_X3 hown hE.1 hP 0 rfl rfl 12 (by decide) f_39 (fun _ h9 => h9) rfl dX3_ends_56 ?_
              refine lv_iload hx hb dX3_ends_59 (lv_at hl 0 rfl) ?_
              refine k_top (z := nI (ix (f2 k))) q3 ?_
              refine k_ild hx hb hE.1 hP 9 0 rfl rfl (j := (ix (f2 k))) (by omega) (by decide) dX3_ends_61 ?_
              refine k_top (z := edV f1 f2 to (ix (f2 k))) (hg _ q4) ?_
              refine lv_goto (tgt := 71) hx hb dX3_ends_62 (by decide) ?_
              refine lv_istore (lv' := [(5, .int (edV f1 f2 to (ix (f2 k)))), (4, .int (f2 k)), (3, .int (f1 k)), (2, .int (nI k)), (0, .ref m0), (1, .int (nI j))]) hx hb dX3_ends_71 hl (by decide) rfl (fun ls hl => ?_)
              refine lv_aload_n hx hb dX3_ends_73 rfl (lv_at hl 4 rfl) ?_
              refine va_get (D := D) (ci := 3) (v := .ref m9) (C := RX3) (T := TX3) (N := 22) hx hb hts g_X3 hown hE.1 hP 0 rfl rfl 12 (by decide) f_39 (fun _ h9 => h9) rfl dX3_ends_74 ?_
              refine lv_iload_n hx hb dX3_ends_77 rfl (lv_at hl 3 rfl) ?_
              refine lv_iload hx hb dX3_ends_78 (lv_at hl 0 rfl) ?_
              refine lv_aload_n hx hb dX3_ends_80 rfl (lv_at hl 4 rfl) ?_
              refine va_get (D := D) (ci := 3) (v := .ref m2) (C := RX3) (T := TX3) (N := 22) hx hb hts g_X3 hown hE.1 hP 0 rfl rfl 5 (by decide) f_17 (fun _ h9 => h9) rfl dX3_ends_81 ?_
              refine lv_iload_n hx hb dX3_ends_84 rfl (lv_at hl 3 rfl) ?_
              refine k_ild hx hb hE.1 hP 2 0 rfl rfl (j := k) (by omega) (by decide) dX3_ends_85 ?_
              refine lv_icmp_ge (tgt := 94) hx hb dX3_ends_86 (by decide) (fun c_86 => ?_) (fun c_86 => ?_)
              · refine lv_aload_n hx hb dX3_ends_94 rfl (lv_at hl 4 rfl) ?_
                refine va_get (D := D) (ci := 3) (v := .ref m2) (C := RX3) (T := TX3) (N := 22) hx hb hts g_X3 hown hE.1 hP 0 rfl rfl 5 (by decide) f_17 (fun _ h9 => h9) rfl dX3_ends_95 ?_
                refine lv_iload_n hx hb dX3_ends_98 rfl (lv_at hl 3 rfl) ?_
                refine k_ild hx hb hE.1 hP 2 0 rfl rfl (j := k) (by omega) (by decide) dX3_ends_99 ?_
                refine k_ist hx hb hE.1 hP hD hS 9 0 rfl rfl (j := k) (by omega) (by decide) dX3_ends_100 (fun H locs hP hD hS => ?_)
                have hP : va_P D vwCl (wM cy m0 m1 m2 m3 m4 m5 m6 m7 m8 m9 m10 m11 m12 m13 m14 m15 m16 m17 th td sed mi fr to lim f1 f2 dis pin ag (upd g_ k (to k)) cm mc su isu fir lgt ofs rn wsn) H := hP
                have hD : va_D A (wM cy m0 m1 m2 m3 m4 m5 m6 m7 m8 m9 m10 m11 m12 m13 m14 m15 m16 m17 th td sed mi fr to lim f1 f2 dis pin ag (upd g_ k (to k)) cm mc su isu fir lgt ofs rn wsn) := hD
                refine lv_iinc (v := (nI (k + 1))) (lv' := [(2, .int (nI (k + 1))), (5, .int (edV f1 f2 to (ix (f2 k)))), (4, .int (f2 k)), (3, .int (f1 k)), (0, .ref m0), (1, .int (nI j))]) hx hb dX3_ends_101 hl (k := 3) rfl (k_inc _) (by decide) rfl (fun ls hl => ?_)
                refine lv_goto (tgt := 2) hx hb dX3_ends_104 (by decide) ?_
                exact ih_2 (k + 1) (upd g_ k (to k)) _ _ ls (by omega) (by omega) (tb_succ hg (by rw [edV_eq s1 s2]; simp [edM, c_4, c_24, c_36, c_52, c_86])) hP hD hS (lv_sub hl [0, 4, 5] rfl)
              · refine lv_iload hx hb dX3_ends_89 (lv_at hl 0 rfl) ?_
                refine lv_goto (tgt := 100) hx hb dX3_ends_91 (by decide) ?_
                refine k_ist hx hb hE.1 hP hD hS 9 0 rfl rfl (j := k) (by omega) (by decide) dX3_ends_100 (fun H locs hP hD hS => ?_)
                have hP : va_P D vwCl (wM cy m0 m1 m2 m3 m4 m5 m6 m7 m8 m9 m10 m11 m12 m13 m14 m15 m16 m17 th td sed mi fr to lim f1 f2 dis pin ag (upd g_ k (edV f1 f2 to (ix (f2 k)))) cm mc su isu fir lgt ofs rn wsn) H := hP
                have hD : va_D A (wM cy m0 m1 m2 m3 m4 m5 m6 m7 m8 m9 m10 m11 m12 m13 m14 m15 m16 m17 th td sed mi fr to lim f1 f2 dis pin ag (upd g_ k (edV f1 f2 to (ix (f2 k)))) cm mc su isu fir lgt ofs rn wsn) := hD
                refine lv_iinc (v := (nI (k + 1))) (lv' := [(2, .int (nI (k + 1))), (5, .int (edV f1 f2 to (ix (f2 k)))), (4, .int (f2 k)), (3, .int (f1 k)), (0, .ref m0), (1, .int (nI j))]) hx hb dX3_ends_101 hl (k := 3) rfl (k_inc _) (by decide) rfl (fun ls hl => ?_)
                refine lv_goto (tgt := 2) hx hb dX3_ends_104 (by decide) ?_
                exact ih_2 (k + 1) (upd g_ k (edV f1 f2 to (ix (f2 k)))) _ _ ls (by omega) (by omega) (tb_succ hg (by rw [edV_eq s1 s2]; simp [edM, c_4, c_24, c_36, c_52, c_86])) hP hD hS (lv_sub hl [0, 4, 5] rfl)
        · refine lv_sipush (v := 5000) hx hb dX3_ends_27 (by decide) ?_
          refine lv_goto (tgt := 71) hx hb dX3_ends_30 (by decide) ?_
          refine lv_istore (lv' := [(5, .int 5000), (4, .int (f2 k)), (3, .int (f1 k)), (2, .int (nI k)), (0, .ref m0), (1, .int (nI j))]) hx hb dX3_ends_71 hl (by decide) rfl (fun ls hl => ?_)
          refine lv_aload_n hx hb dX3_ends_73 rfl (lv_at hl 4 rfl) ?_
          refine va_get (D := D) (ci := 3) (v := .ref m9) (C := RX3) (T := TX3) (N := 22) hx hb hts g_X3 hown hE.1 hP 0 rfl rfl 12 (by decide) f_39 (fun _ h9 => h9) rfl dX3_ends_74 ?_
          refine lv_iload_n hx hb dX3_ends_77 rfl (lv_at hl 3 rfl) ?_
          refine lv_iload hx hb dX3_ends_78 (lv_at hl 0 rfl) ?_
          refine lv_aload_n hx hb dX3_ends_80 rfl (lv_at hl 4 rfl) ?_
          refine va_get (D := D) (ci := 3) (v := .ref m2) (C := RX3) (T := TX3) (N := 22) hx hb hts g_X3 hown hE.1 hP 0 rfl rfl 5 (by decide) f_17 (fun _ h9 => h9) rfl dX3_ends_81 ?_
          refine lv_iload_n hx hb dX3_ends_84 rfl (lv_at hl 3 rfl) ?_
          refine k_ild hx hb hE.1 hP 2 0 rfl rfl (j := k) (by omega) (by decide) dX3_ends_85 ?_
          refine lv_icmp_ge (tgt := 94) hx hb dX3_ends_86 (by decide) (fun c_86 => ?_) (fun c_86 => ?_)
          · refine lv_aload_n hx hb dX3_ends_94 rfl (lv_at hl 4 rfl) ?_
            refine va_get (D := D) (ci := 3) (v := .ref m2) (C := RX3) (T := TX3) (N := 22) hx hb hts g_X3 hown hE.1 hP 0 rfl rfl 5 (by decide) f_17 (fun _ h9 => h9) rfl dX3_ends_95 ?_
            refine lv_iload_n hx hb dX3_ends_98 rfl (lv_at hl 3 rfl) ?_
            refine k_ild hx hb hE.1 hP 2 0 rfl rfl (j := k) (by omega) (by decide) dX3_ends_99 ?_
            refine k_ist hx hb hE.1 hP hD hS 9 0 rfl rfl (j := k) (by omega) (by decide) dX3_ends_100 (fun H locs hP hD hS => ?_)
            have hP : va_P D vwCl (wM cy m0 m1 m2 m3 m4 m5 m6 m7 m8 m9 m10 m11 m12 m13 m14 m15 m16 m17 th td sed mi fr to lim f1 f2 dis pin ag (upd g_ k (to k)) cm mc su isu fir lgt ofs rn wsn) H := hP
            have hD : va_D A (wM cy m0 m1 m2 m3 m4 m5 m6 m7 m8 m9 m10 m11 m12 m13 m14 m15 m16 m17 th td sed mi fr to lim f1 f2 dis pin ag (upd g_ k (to k)) cm mc su isu fir lgt ofs rn wsn) := hD
            refine lv_iinc (v := (nI (k + 1))) (lv' := [(2, .int (nI (k + 1))), (5, .int 5000), (4, .int (f2 k)), (3, .int (f1 k)), (0, .ref m0), (1, .int (nI j))]) hx hb dX3_ends_101 hl (k := 3) rfl (k_inc _) (by decide) rfl (fun ls hl => ?_)
            refine lv_goto (tgt := 2) hx hb dX3_ends_104 (by decide) ?_
            exact ih_2 (k + 1) (upd g_ k (to k)) _ _ ls (by omega) (by omega) (tb_succ hg (by rw [edV_eq s1 s2]; simp [edM, c_4, c_24, c_86])) hP hD hS (lv_sub hl [0, 4, 5] rfl)
          · refine lv_iload hx hb dX3_ends_89 (lv_at hl 0 rfl) ?_
            refine lv_goto (tgt := 100) hx hb dX3_ends_91 (by decide) ?_
            refine k_ist hx hb hE.1 hP hD hS 9 0 rfl rfl (j := k) (by omega) (by decide) dX3_ends_100 (fun H locs hP hD hS => ?_)
            have hP : va_P D vwCl (wM cy m0 m1 m2 m3 m4 m5 m6 m7 m8 m9 m10 m11 m12 m13 m14 m15 m16 m17 th td sed mi fr to lim f1 f2 dis pin ag (upd g_ k 5000) cm mc su isu fir lgt ofs rn wsn) H := hP
            have hD : va_D A (wM cy m0 m1 m2 m3 m4 m5 m6 m7 m8 m9 m10 m11 m12 m13 m14 m15 m16 m17 th td sed mi fr to lim f1 f2 dis pin ag (upd g_ k 5000) cm mc su isu fir lgt ofs rn wsn) := hD
            refine lv_iinc (v := (nI (k + 1))) (lv' := [(2, .int (nI (k + 1))), (5, .int 5000), (4, .int (f2 k)), (3, .int (f1 k)), (0, .ref m0), (1, .int (nI j))]) hx hb dX3_ends_101 hl (k := 3) rfl (k_inc _) (by decide) rfl (fun ls hl => ?_)
            refine lv_goto (tgt := 2) hx hb dX3_ends_104 (by decide) ?_
            exact ih_2 (k + 1) (upd g_ k 5000) _ _ ls (by omega) (by omega) (tb_succ hg (by rw [edV_eq s1 s2]; simp [edM, c_4, c_24, c_86])) hP hD hS (lv_sub hl [0, 4, 5] rfl)
  exact L_2 ((j + 1 - 0) + 1) 0 en _ _ ls (Nat.lt_succ_self _) (by omega) (fun i hi => absurd hi (Nat.not_lt_zero _)) hP hD hS (lv_sub hl [0, 1, 2] rfl)

set_option maxHeartbeats 4000000 in
set_option maxRecDepth 100000 in
theorem c_X3_ways (l : Launch) (D : va_G) (cy : ClassId × ClassId × ClassId) (m0 m1 m2 m3 m4 m5 m6 m7 m8 m9 m10 m11 m12 m13 m14 m15 m16 m17 : Nat) (th td sed : Int32) (mi : Nat) (fr to lim f1 f2 dis pin ag en cm : Nat → Int32) (mc : Nat) (su isu fir lgt ofs rn wsn : Nat → Int32) (j : Nat) (hm : mi ≤ 8) (h1 : ∀ i, i < mi → sgP f1 i) (h2 : ∀ i, i < mi → sgP f2 i) (hj : j < mi) : kI l D cy yX3_ways wsX3_ways (krm 0 0) [.ref m0, .int (nI j)] (wM cy m0 m1 m2 m3 m4 m5 m6 m7 m8 m9 m10 m11 m12 m13 m14 m15 m16 m17 th td sed mi fr to lim f1 f2 dis pin ag en cm mc su isu fir lgt ofs rn wsn) (fun (r : Int32) (u : (Nat → Int32)) => r = cnV f1 f2 j) (fun u : (Nat → Int32) => wM cy m0 m1 m2 m3 m4 m5 m6 m7 m8 m9 m10 m11 m12 m13 m14 m15 m16 m17 th td sed mi fr to lim f1 f2 dis pin ag en u mc su isu fir lgt ofs rn wsn) := by
  refine kI.of (cc := cX3_ways) (maxL := 5) (rt := .int) (Or.inl rfl) (by decide) rfl (Nat.le_of_ble_eq_true rfl) ?_
  intro p e s m args below meth c Q A ls hx hb hml hown hts hE hA hP hD hl hret
  have hS : va_S A s.heap s.heap [] := va_S.rf
  have hl : lv_has ls 5 [(0, .ref m0), (1, .int (nI j))] := hl
  have g_X3 : ∀ w ∈ wsX30, w ∈ wsX3_ways := by decide +kernel
  have f_23 := hts (.fieldLink RX3 23 "CertHerdModel" "firstSigners" "[I") (by decide +kernel)
  have f_26 := hts (.fieldLink RX3 26 "CertHerdModel" "secondSigners" "[I") (by decide +kernel)
  have f_42 := hts (.fieldLink RX3 42 "CertHerdModel" "chainMany" "[I") (by decide +kernel)
  refine lv_iconst (v := 0) hx hb dX3_ways_0 (by decide) ?_
  refine lv_istore_n (lv' := [(2, .int 0), (0, .ref m0), (1, .int (nI j))]) hx hb dX3_ways_1 rfl hl (by decide) rfl (fun ls hl => ?_)
  have L_2 : ∀ (f : Nat) (k : Nat) (g_ : Nat → Int32) (H : Heap) (locs : List Loc) (ls : Array Slot), ((j + 1 - k) < f) → (k ≤ j + 1) → (∀ i, i < k → g_ i = cnV f1 f2 i) → va_P D vwCl (wM cy m0 m1 m2 m3 m4 m5 m6 m7 m8 m9 m10 m11 m12 m13 m14 m15 m16 m17 th td sed mi fr to lim f1 f2 dis pin ag en g_ mc su isu fir lgt ofs rn wsn) H → va_D A (wM cy m0 m1 m2 m3 m4 m5 m6 m7 m8 m9 m10 m11 m12 m13 m14 m15 m16 m17 th td sed mi fr to lim f1 f2 dis pin ag en g_ mc su isu fir lgt ofs rn wsn) → va_S A s.heap H locs → lv_has ls 5 [(2, .int (nI k)), (0, .ref m0), (1, .int (nI j))] → W p l e (krm 0 0) s m args below meth c H locs 0 0 Q (F0 m 2 ls []) := by
    intro f
    induction f with
    | zero => intro k g_ H locs ls hf; exact absurd hf (Nat.not_lt_zero _)
    | succ f ih_2 =>
      intro k g_ H locs ls hf hk hg hP hD hS hl
      refine lv_iload_n hx hb dX3_ways_2 rfl (lv_at hl 0 rfl) ?_
      refine lv_iload_n hx hb dX3_ways_3 rfl (lv_at hl 2 rfl) ?_
      refine lv_icmp_gt (tgt := 67) hx hb dX3_ways_4 (by decide) (fun c_4 => ?_) (fun c_4 => ?_)
      · have c_4n : j < k := k_ltN (a := j) (b := k) (by omega) (by omega) c_4
        refine lv_aload_n hx hb dX3_ways_67 rfl (lv_at hl 1 rfl) ?_
        refine va_get (D := D) (ci := 3) (v := .ref m10) (C := RX3) (T := TX3) (N := 22) hx hb hts g_X3 hown hE.1 hP 0 rfl rfl 13 (by decide) f_42 (fun _ h9 => h9) rfl dX3_ways_68 ?_
        refine lv_iload_n hx hb dX3_ways_71 rfl (lv_at hl 2 rfl) ?_
        refine k_ild hx hb hE.1 hP 10 0 rfl rfl (j := j) (by omega) (by decide) dX3_ways_72 ?_
        refine k_top (z := cnV f1 f2 j) (hg j (by omega)) ?_
        exact hret _ _ _ _ (cnV f1 f2 j) g_ dX3_ways_73 (Or.inl rfl) rfl hP hS
      · have c_4n : ¬ j < k := k_nltN (a := j) (b := k) (by omega) (by omega) c_4
        have hk8 : k < mi := by omega
        have s1 := h1 k hk8
        have s2 := h2 k hk8
        refine lv_aload_n hx hb dX3_ways_7 rfl (lv_at hl 1 rfl) ?_
        refine va_get (D := D) (ci := 3) (v := .ref m4) (C := RX3) (T := TX3) (N := 22) hx hb hts g_X3 hown hE.1 hP 0 rfl rfl 7 (by decide) f_23 (fun _ h9 => h9) rfl dX3_ways_8 ?_
        refine lv_iload_n hx hb dX3_ways_11 rfl (lv_at hl 0 rfl) ?_
        refine k_ild hx hb hE.1 hP 4 0 rfl rfl (j := k) (by omega) (by decide) dX3_ways_12 ?_
        refine lv_istore_n (lv' := [(3, .int (f1 k)), (2, .int (nI k)), (0, .ref m0), (1, .int (nI j))]) hx hb dX3_ways_13 rfl hl (by decide) rfl (fun ls hl => ?_)
        refine lv_aload_n hx hb dX3_ways_14 rfl (lv_at hl 2 rfl) ?_
        refine va_get (D := D) (ci := 3) (v := .ref m5) (C := RX3) (T := TX3) (N := 22) hx hb hts g_X3 hown hE.1 hP 0 rfl rfl 8 (by decide) f_26 (fun _ h9 => h9) rfl dX3_ways_15 ?_
        refine lv_iload_n hx hb dX3_ways_18 rfl (lv_at hl 1 rfl) ?_
        refine k_ild hx hb hE.1 hP 5 0 rfl rfl (j := k) (by omega) (by decide) dX3_ways_19 ?_
        refine lv_istore (lv' := [(4, .int (f2 k)), (3, .int (f1 k)), (2, .int (nI k)), (0, .ref m0), (1, .int (nI j))]) hx hb dX3_ways_20 hl (by decide) rfl (fun ls hl => ?_)
        refine lv_aload_n hx hb dX3_ways_22 rfl (lv_at hl 3 rfl) ?_
        refine va_get (D := D) (ci := 3) (v := .ref m10) (C := RX3) (T := TX3) (N := 22) hx hb hts g_X3 hown hE.1 hP 0 rfl rfl 13 (by decide) f_42 (fun _ h9 => h9) rfl dX3_ways_23 ?_
        refine lv_iload_n hx hb dX3_ways_26 rfl (lv_at hl 2 rfl) ?_
        refine lv_iload_n hx hb dX3_ways_27 rfl (lv_at hl 1 rfl) ?_
        refine lv_iconst (v := (-1)) hx hb dX3_ways_28 (by decide) ?_
        refine lv_icmp_ne (tgt := 36) hx hb dX3_ways_29 (by decide) (fun c_29 => ?_) (fun c_29 => ?_)
        · obtain ⟨q1, q2⟩ := s1.resolve_left c_29
          refine lv_aload_n hx hb dX3_ways_36 rfl (lv_at hl 3 rfl) ?_
          refine va_get (D := D) (ci := 3) (v := .ref m10) (C := RX3) (T := TX3) (N := 22) hx hb hts g_X3 hown hE.1 hP 0 rfl rfl 13 (by decide) f_42 (fun _ h9 => h9) rfl dX3_ways_37 ?_
          refine lv_iload_n hx hb dX3_ways_40 rfl (lv_at hl 1 rfl) ?_
          refine k_top (z := nI (ix (f1 k))) q1 ?_
          refine k_ild hx hb hE.1 hP 10 0 rfl rfl (j := (ix (f1 k))) (by omega) (by decide) dX3_ways_41 ?_
          refine k_top (z := cnV f1 f2 (ix (f1 k))) (hg _ q2) ?_
          refine lv_iload hx hb dX3_ways_42 (lv_at hl 0 rfl) ?_
          refine lv_iconst (v := (-1)) hx hb dX3_ways_44 (by decide) ?_
          refine lv_icmp_ne (tgt := 52) hx hb dX3_ways_45 (by decide) (fun c_45 => ?_) (fun c_45 => ?_)
          · obtain ⟨q3, q4⟩ := s2.resolve_left c_45
            refine lv_aload_n hx hb dX3_ways_52 rfl (lv_at hl 3 rfl) ?_
            refine va_get (D := D) (ci := 3) (v := .ref m10) (C := RX3) (T := TX3) (N := 22) hx hb hts g_X3 hown hE.1 hP 0 rfl rfl 13 (by decide) f_42 (fun _ h9 => h9) rfl dX3_ways_53 ?_
            refine lv_iload hx hb dX3_ways_56 (lv_at hl 0 rfl) ?_
            refine k_top (z := nI (ix (f2 k))) q3 ?_
            refine k_ild hx hb hE.1 hP 10 0 rfl rfl (j := (ix (f2 k))) (by omega) (by decide) dX3_ways_58 ?_
            refine k_top (z := cnV f1 f2 (ix (f2 k))) (hg _ q4) ?_
            refine lv_iadd hx hb dX3_ways_59 ?_
            refine k_ist hx hb hE.1 hP hD hS 10 0 rfl rfl (j := k) (by omega) (by decide) dX3_ways_60 (fun H locs hP hD hS => ?_)
            have hP : va_P D vwCl (wM cy m0 m1 m2 m3 m4 m5 m6 m7 m8 m9 m10 m11 m12 m13 m14 m15 m16 m17 th td sed mi fr to lim f1 f2 dis pin ag en (upd g_ k ((cnV f1 f2 (ix (f1 k))) + (cnV f1 f2 (ix (f2 k))))) mc su isu fir lgt ofs rn wsn) H := hP
            have hD : va_D A (wM cy m0 m1 m2 m3 m4 m5 m6 m7 m8 m9 m10 m11 m12 m13 m14 m15 m16 m17 th td sed mi fr to lim f1 f2 dis pin ag en (upd g_ k ((cnV f1 f2 (ix (f1 k))) + (cnV f1 f2 (ix (f2 k))))) mc su isu fir lgt ofs rn wsn) := hD
            refine lv_iinc (v := (nI (k + 1))) (lv' := [(2, .int (nI (k + 1))), (4, .int (f2 k)), (3, .int (f1 k)), (0, .ref m0), (1, .int (nI j))]) hx hb dX3_ways_61 hl (k := 2) rfl (k_inc _) (by decide) rfl (fun ls hl => ?_)
            refine lv_goto (tgt := 2) hx hb dX3_ways_64 (by decide) ?_
            exact ih_2 (k + 1) (upd g_ k ((cnV f1 f2 (ix (f1 k))) + (cnV f1 f2 (ix (f2 k))))) _ _ ls (by omega) (by omega) (tb_succ hg (by rw [cnV_eq s1 s2]; simp [c_4, c_29, c_45])) hP hD hS (lv_sub hl [0, 3, 4] rfl)
          · refine lv_iconst (v := 0) hx hb dX3_ways_48 (by decide) ?_
            refine lv_goto (tgt := 59) hx hb dX3_ways_49 (by decide) ?_
            refine lv_iadd hx hb dX3_ways_59 ?_
            refine k_ist hx hb hE.1 hP hD hS 10 0 rfl rfl (j := k) (by omega) (by decide) dX3_ways_60 (fun H locs hP hD hS => ?_)
            have hP : va_P D vwCl (wM cy m0 m1 m2 m3 m4 m5 m6 m7 m8 m9 m10 m11 m12 m13 m14 m15 m16 m17 th td sed mi fr to lim f1 f2 dis pin ag en (upd g_ k ((cnV f1 f2 (ix (f1 k))) + 0)) mc su isu fir lgt ofs rn wsn) H := hP
            have hD : va_D A (wM cy m0 m1 m2 m3 m4 m5 m6 m7 m8 m9 m10 m11 m12 m13 m14 m15 m16 m17 th td sed mi fr to lim f1 f2 dis pin ag en (upd g_ k ((cnV f1 f2 (ix (f1 k))) + 0)) mc su isu fir lgt ofs rn wsn) := hD
            refine lv_iinc (v := (nI (k + 1))) (lv' := [(2, .int (nI (k + 1))), (4, .int (f2 k)), (3, .int (f1 k)), (0, .ref m0), (1, .int (nI j))]) hx hb dX3_ways_61 hl (k := 2) rfl (k_inc _) (by decide) rfl (fun ls hl => ?_)
            refine lv_goto (tgt := 2) hx hb dX3_ways_64 (by decide) ?_
            exact ih_2 (k + 1) (upd g_ k ((cnV f1 f2 (ix (f1 k))) + 0)) _ _ ls (by omega) (by omega) (tb_succ hg (by rw [cnV_eq s1 s2]; simp [c_4, c_29, c_45])) hP hD hS (lv_sub hl [0, 3, 4] rfl)
        · refine lv_iconst (v := 1) hx hb dX3_ways_32 (by decide) ?_
          refine lv_goto (tgt := 60) hx hb dX3_ways_33 (by decide) ?_
          refine k_ist hx hb hE.1 hP hD hS 10 0 rfl rfl (j := k) (by omega) (by decide) dX3_ways_60 (fun H locs hP hD hS => ?_)
          have hP : va_P D vwCl (wM cy m0 m1 m2 m3 m4 m5 m6 m7 m8 m9 m10 m11 m12 m13 m14 m15 m16 m17 th td sed mi fr to lim f1 f2 dis pin ag en (upd g_ k 1) mc su isu fir lgt ofs rn wsn) H := hP
          have hD : va_D A (wM cy m0 m1 m2 m3 m4 m5 m6 m7 m8 m9 m10 m11 m12 m13 m14 m15 m16 m17 th td sed mi fr to lim f1 f2 dis pin ag en (upd g_ k 1) mc su isu fir lgt ofs rn wsn) := hD
          refine lv_iinc (v := (nI (k + 1))) (lv' := [(2, .int (nI (k + 1))), (4, .int (f2 k)), (3, .int (f1 k)), (0, .ref m0), (1, .int (nI j))]) hx hb dX3_ways_61 hl (k := 2) rfl (k_inc _) (by decide) rfl (fun ls hl => ?_)
          refine lv_goto (tgt := 2) hx hb dX3_ways_64 (by decide) ?_
          exact ih_2 (k + 1) (upd g_ k 1) _ _ ls (by omega) (by omega) (tb_succ hg (by rw [cnV_eq s1 s2]; simp [c_4, c_29])) hP hD hS (lv_sub hl [0, 3, 4] rfl)
  exact L_2 ((j + 1 - 0) + 1) 0 cm _ _ ls (Nat.lt_succ_self _) (by omega) (fun i hi => absurd hi (Nat.not_lt_zero _)) hP hD hS (lv_sub hl [0, 1, 2] rfl)

set_option maxHeartbeats 4000000 in
set_option maxRecDepth 100000 in
theorem c_X3_covers (l : Launch) (D : va_G) (cy : ClassId × ClassId × ClassId) (s_ : Int32) (k : Nat) : kI l D cy yX3_covers wsX3_covers (krm 0 0) [.int s_, .int (nI k)] (([] : va_W)) (fun (r : Int32) (u : Unit) => r = bI (cvP s_ k)) (fun _ : Unit => ([] : va_W)) := by
  refine kI.of (cc := cX3_covers) (maxL := 2) (rt := .boolean) (Or.inr rfl) (by decide) rfl (Nat.le_of_ble_eq_true rfl) ?_
  intro p e s m args below meth c Q A ls hx hb hml hown hts hE hA hP hD hl hret
  have hS : va_S A s.heap s.heap [] := va_S.rf
  have hl : lv_has ls 2 [(0, .int s_), (1, .int (nI k))] := hl
  refine lv_iload_n hx hb dX3_covers_0 rfl (lv_at hl 0 rfl) ?_
  refine lv_iload_n hx hb dX3_covers_1 rfl (lv_at hl 1 rfl) ?_
  refine lv_icmp_eq (tgt := 15) hx hb dX3_covers_2 (by decide) (fun c_2 => ?_) (fun c_2 => ?_)
  · refine lv_iconst (v := 1) hx hb dX3_covers_15 (by decide) ?_
    refine lv_goto (tgt := 20) hx hb dX3_covers_16 (by decide) ?_
    exact hret _ _ _ _ 1 () dX3_covers_20 (Or.inr (Or.inr rfl)) (bI_t (by simp [c_2, cvP])).symm hP hS
  · refine lv_iload_n hx hb dX3_covers_5 rfl (lv_at hl 0 rfl) ?_
    refine lv_bipush (v := 16) hx hb dX3_covers_6 (by decide) ?_
    refine lv_iload_n hx hb dX3_covers_8 rfl (lv_at hl 1 rfl) ?_
    refine lv_iconst (v := 4) hx hb dX3_covers_9 (by decide) ?_
    refine lv_idiv hx hb dX3_covers_10 (by decide) ?_
    refine lv_iadd hx hb dX3_covers_11 ?_
    refine lv_icmp_ne (tgt := 19) hx hb dX3_covers_12 (by decide) (fun c_12 => ?_) (fun c_12 => ?_)
    · refine lv_iconst (v := 0) hx hb dX3_covers_19 (by decide) ?_
      exact hret _ _ _ _ 0 () dX3_covers_20 (Or.inr (Or.inl rfl)) (bI_f (by simp [c_2, c_12, cvP])).symm hP hS
    · refine lv_iconst (v := 1) hx hb dX3_covers_15 (by decide) ?_
      refine lv_goto (tgt := 20) hx hb dX3_covers_16 (by decide) ?_
      exact hret _ _ _ _ 1 () dX3_covers_20 (Or.inr (Or.inr rfl)) (bI_t (by simp [c_2, c_12, cvP])).symm hP hS

set_option maxHeartbeats 4000000 in
set_option maxRecDepth 100000 in
theorem c_X3_issued (l : Launch) (D : va_G) (cy : ClassId × ClassId × ClassId) (m0 m1 m2 m3 m4 m5 m6 m7 m8 m9 m10 m11 m12 m13 m14 m15 m16 m17 : Nat) (th td sed : Int32) (mi : Nat) (fr to lim f1 f2 dis pin ag en cm : Nat → Int32) (mc : Nat) (su isu fir lgt ofs rn wsn : Nat → Int32) (iu : Int32) (hc : mc ≤ 60) : kI l D cy yX3_issued wsX3_issued (krm 0 0) [.ref m0, .int iu] (wM cy m0 m1 m2 m3 m4 m5 m6 m7 m8 m9 m10 m11 m12 m13 m14 m15 m16 m17 th td sed mi fr to lim f1 f2 dis pin ag en cm mc su isu fir lgt ofs rn wsn) (fun (r : Int32) (u : Unit) => r = iwN isu fir iu (td / 7) mc) (fun _ : Unit => wM cy m0 m1 m2 m3 m4 m5 m6 m7 m8 m9 m10 m11 m12 m13 m14 m15 m16 m17 th td sed mi fr to lim f1 f2 dis pin ag en cm mc su isu fir lgt ofs rn wsn) := by
  refine kI.of (cc := cX3_issued) (maxL := 4) (rt := .int) (Or.inl rfl) (by decide) rfl (Nat.le_of_ble_eq_true rfl) ?_
  intro p e s m args below meth c Q A ls hx hb hml hown hts hE hA hP hD hl hret
  have hS : va_S A s.heap s.heap [] := va_S.rf
  have hl : lv_has ls 4 [(0, .ref m0), (1, .int iu)] := hl
  have g_X3 : ∀ w ∈ wsX30, w ∈ wsX3_issued := by decide +kernel
  have f_76 := hts (.fieldLink RX3 76 "CertHerdModel" "certMany" "I") (by decide +kernel)
  have f_48 := hts (.fieldLink RX3 48 "CertHerdModel" "issuers" "[I") (by decide +kernel)
  have f_51 := hts (.fieldLink RX3 51 "CertHerdModel" "firsts" "[I") (by decide +kernel)
  have f_96 := hts (.fieldLink RX3 96 "CertHerdModel" "today" "I") (by decide +kernel)
  refine lv_iconst (v := 0) hx hb dX3_issued_0 (by decide) ?_
  refine lv_istore_n (lv' := [(2, .int 0), (0, .ref m0), (1, .int iu)]) hx hb dX3_issued_1 rfl hl (by decide) rfl (fun ls hl => ?_)
  refine lv_iconst (v := 0) hx hb dX3_issued_2 (by decide) ?_
  refine lv_istore_n (lv' := [(3, .int 0), (2, .int 0), (0, .ref m0), (1, .int iu)]) hx hb dX3_issued_3 rfl hl (by decide) rfl (fun ls hl => ?_)
  have L_4 : ∀ (f : Nat) (k : Nat) (g : Int32) (H : Heap) (locs : List Loc) (ls : Array Slot), ((mc - k) < f) → (k ≤ mc) → (g = iwN isu fir iu (td / 7) k) → va_P D vwCl (wM cy m0 m1 m2 m3 m4 m5 m6 m7 m8 m9 m10 m11 m12 m13 m14 m15 m16 m17 th td sed mi fr to lim f1 f2 dis pin ag en cm mc su isu fir lgt ofs rn wsn) H → va_D A (wM cy m0 m1 m2 m3 m4 m5 m6 m7 m8 m9 m10 m11 m12 m13 m14 m15 m16 m17 th td sed mi fr to lim f1 f2 dis pin ag en cm mc su isu fir lgt ofs rn wsn) → va_S A s.heap H locs → lv_has ls 4 [(3, .int (nI k)), (2, .int g), (0, .ref m0), (1, .int iu)] → W p l e (krm 0 0) s m args below meth c H locs 0 0 Q (F0 m 4 ls []) := by
    intro f
    induction f with
    | zero => intro k g H locs ls hf; exact absurd hf (Nat.not_lt_zero _)
    | succ f ih_4 =>
      intro k g H locs ls hf hk eg hP hD hS hl
      refine lv_iload_n hx hb dX3_issued_4 rfl (lv_at hl 0 rfl) ?_
      refine lv_aload_n hx hb dX3_issued_5 rfl (lv_at hl 2 rfl) ?_
      refine va_get (D := D) (ci := 3) (v := .int (nI mc)) (C := RX3) (T := TX3) (N := 22) hx hb hts g_X3 hown hE.1 hP 0 rfl rfl 14 (by decide) f_76 (fun _ h9 => h9) rfl dX3_issued_6 ?_
      refine lv_icmp_ge (tgt := 55) hx hb dX3_issued_9 (by decide) (fun c_9 => ?_) (fun c_9 => ?_)
      · have c_9n : mc ≤ k := k_leN (a := mc) (b := k) (by omega) (by omega) c_9
        refine lv_iload_n hx hb dX3_issued_55 rfl (lv_at hl 1 rfl) ?_
        exact hret _ _ _ _ g () dX3_issued_56 (Or.inl rfl) (by have e9 : k = mc := (by omega); subst e9; exact eg) hP hS
      · have c_9n : ¬ mc ≤ k := k_nleN (a := mc) (b := k) (by omega) (by omega) c_9
        have hk8 : k < 60 := by omega
        refine lv_iload_n hx hb dX3_issued_12 rfl (lv_at hl 1 rfl) ?_
        refine lv_aload_n hx hb dX3_issued_13 rfl (lv_at hl 2 rfl) ?_
        refine va_get (D := D) (ci := 3) (v := .ref m12) (C := RX3) (T := TX3) (N := 22) hx hb hts g_X3 hown hE.1 hP 0 rfl rfl 16 (by decide) f_48 (fun _ h9 => h9) rfl dX3_issued_14 ?_
        refine lv_iload_n hx hb dX3_issued_17 rfl (lv_at hl 0 rfl) ?_
        refine k_ild hx hb hE.1 hP 12 0 rfl rfl (j := k) (by omega) (by decide) dX3_issued_18 ?_
        refine lv_iload_n hx hb dX3_issued_19 rfl (lv_at hl 3 rfl) ?_
        refine lv_icmp_ne (tgt := 46) hx hb dX3_issued_20 (by decide) (fun c_20 => ?_) (fun c_20 => ?_)
        · refine lv_iconst (v := 0) hx hb dX3_issued_46 (by decide) ?_
          refine lv_iadd hx hb dX3_issued_47 ?_
          refine lv_istore_n (lv' := [(2, .int (g + 0)), (3, .int (nI k)), (0, .ref m0), (1, .int iu)]) hx hb dX3_issued_48 rfl hl (by decide) rfl (fun ls hl => ?_)
          refine lv_iinc (v := (nI (k + 1))) (lv' := [(3, .int (nI (k + 1))), (2, .int (g + 0)), (0, .ref m0), (1, .int iu)]) hx hb dX3_issued_49 hl (k := 1) rfl (k_inc _) (by decide) rfl (fun ls hl => ?_)
          refine lv_goto (tgt := 4) hx hb dX3_issued_52 (by decide) ?_
          exact ih_4 (k + 1) (g + 0) _ _ ls (by omega) (by omega) (by subst eg; rw [iwN]; simp [c_9, c_20]) hP hD hS (lv_sub hl [0, 1, 2, 3] rfl)
        · refine lv_aload_n hx hb dX3_issued_23 rfl (lv_at hl 2 rfl) ?_
          refine va_get (D := D) (ci := 3) (v := .ref m13) (C := RX3) (T := TX3) (N := 22) hx hb hts g_X3 hown hE.1 hP 0 rfl rfl 17 (by decide) f_51 (fun _ h9 => h9) rfl dX3_issued_24 ?_
          refine lv_iload_n hx hb dX3_issued_27 rfl (lv_at hl 0 rfl) ?_
          refine k_ild hx hb hE.1 hP 13 0 rfl rfl (j := k) (by omega) (by decide) dX3_issued_28 ?_
          refine lv_bipush (v := 7) hx hb dX3_issued_29 (by decide) ?_
          refine lv_idiv hx hb dX3_issued_31 (by decide) ?_
          refine lv_aload_n hx hb dX3_issued_32 rfl (lv_at hl 2 rfl) ?_
          refine va_get (D := D) (ci := 3) (v := .int td) (C := RX3) (T := TX3) (N := 22) hx hb hts g_X3 hown hE.1 hP 0 rfl rfl 1 (by decide) f_96 (fun _ h9 => h9) rfl dX3_issued_33 ?_
          refine lv_bipush (v := 7) hx hb dX3_issued_36 (by decide) ?_
          refine lv_idiv hx hb dX3_issued_38 (by decide) ?_
          refine lv_icmp_ne (tgt := 46) hx hb dX3_issued_39 (by decide) (fun c_39 => ?_) (fun c_39 => ?_)
          · refine lv_iconst (v := 0) hx hb dX3_issued_46 (by decide) ?_
            refine lv_iadd hx hb dX3_issued_47 ?_
            refine lv_istore_n (lv' := [(2, .int (g + 0)), (3, .int (nI k)), (0, .ref m0), (1, .int iu)]) hx hb dX3_issued_48 rfl hl (by decide) rfl (fun ls hl => ?_)
            refine lv_iinc (v := (nI (k + 1))) (lv' := [(3, .int (nI (k + 1))), (2, .int (g + 0)), (0, .ref m0), (1, .int iu)]) hx hb dX3_issued_49 hl (k := 1) rfl (k_inc _) (by decide) rfl (fun ls hl => ?_)
            refine lv_goto (tgt := 4) hx hb dX3_issued_52 (by decide) ?_
            exact ih_4 (k + 1) (g + 0) _ _ ls (by omega) (by omega) (by subst eg; rw [iwN]; simp [c_9, c_20, c_39]) hP hD hS (lv_sub hl [0, 1, 2, 3] rfl)
          · refine lv_iconst (v := 1) hx hb dX3_issued_42 (by decide) ?_
            refine lv_goto (tgt := 47) hx hb dX3_issued_43 (by decide) ?_
            refine lv_iadd hx hb dX3_issued_47 ?_
            refine lv_istore_n (lv' := [(2, .int (g + 1)), (3, .int (nI k)), (0, .ref m0), (1, .int iu)]) hx hb dX3_issued_48 rfl hl (by decide) rfl (fun ls hl => ?_)
            refine lv_iinc (v := (nI (k + 1))) (lv' := [(3, .int (nI (k + 1))), (2, .int (g + 1)), (0, .ref m0), (1, .int iu)]) hx hb dX3_issued_49 hl (k := 1) rfl (k_inc _) (by decide) rfl (fun ls hl => ?_)
            refine lv_goto (tgt := 4) hx hb dX3_issued_52 (by decide) ?_
            exact ih_4 (k + 1) (g + 1) _ _ ls (by omega) (by omega) (by subst eg; rw [iwN]; simp [c_9, c_20, c_39]) hP hD hS (lv_sub hl [0, 1, 2, 3] rfl)
  exact L_4 ((mc - 0) + 1) 0 0 _ _ ls (Nat.lt_succ_self _) (by omega) rfl hP hD hS (lv_sub hl [0, 1, 2, 3] rfl)

set_option maxHeartbeats 4000000 in
set_option maxRecDepth 100000 in
theorem c_X3_canIssue (l : Launch) (D : va_G) (cy : ClassId × ClassId × ClassId) (m0 m1 m2 m3 m4 m5 m6 m7 m8 m9 m10 m11 m12 m13 m14 m15 m16 m17 : Nat) (th td sed : Int32) (mi : Nat) (fr to lim f1 f2 dis pin ag en cm : Nat → Int32) (mc : Nat) (su isu fir lgt ofs rn wsn : Nat → Int32) (j : Nat) (su_ : Int32) (hm : mi ≤ 8) (hc : mc ≤ 60) (h1 : ∀ i, i < mi → sgP f1 i) (h2 : ∀ i, i < mi → sgP f2 i) (hj : j < mi) : kI l D cy yX3_canIssue wsX3_canIssue (krm 2 49) [.ref m0, .int (nI j), .int su_] (wM cy m0 m1 m2 m3 m4 m5 m6 m7 m8 m9 m10 m11 m12 m13 m14 m15 m16 m17 th td sed mi fr to lim f1 f2 dis pin ag en cm mc su isu fir lgt ofs rn wsn) (fun (r : Int32) (u : (Nat → Int32)) => r = bI (canM f1 f2 fr to lim dis isu fir mc pin td j su_ 16)) (fun u : (Nat → Int32) => wM cy m0 m1 m2 m3 m4 m5 m6 m7 m8 m9 m10 m11 m12 m13 m14 m15 m16 m17 th td sed mi fr to lim f1 f2 dis pin u en cm mc su isu fir lgt ofs rn wsn) := by
  refine kI.of (cc := cX3_canIssue) (maxL := 5) (rt := .boolean) (Or.inr rfl) (by decide) rfl (Nat.le_of_ble_eq_true rfl) ?_
  intro p e s m args below meth c Q A ls hx hb hml hown hts hE hA hP hD hl hret
  have hS : va_S A s.heap s.heap [] := va_S.rf
  have hl : lv_has ls 5 [(0, .ref m0), (1, .int (nI j)), (2, .int su_)] := hl
  have g_X3 : ∀ w ∈ wsX30, w ∈ wsX3_canIssue := by decide +kernel
  have f_96 := hts (.fieldLink RX3 96 "CertHerdModel" "today" "I") (by decide +kernel)
  have f_20 := hts (.fieldLink RX3 20 "CertHerdModel" "limits" "[I") (by decide +kernel)
  have f_76 := hts (.fieldLink RX3 76 "CertHerdModel" "certMany" "I") (by decide +kernel)
  have f_32 := hts (.fieldLink RX3 32 "CertHerdModel" "pins" "[I") (by decide +kernel)
  refine lv_aload_n hx hb dX3_canIssue_0 rfl (lv_at hl 0 rfl) ?_
  refine lv_iload_n hx hb dX3_canIssue_1 rfl (lv_at hl 1 rfl) ?_
  refine lv_aload_n hx hb dX3_canIssue_2 rfl (lv_at hl 0 rfl) ?_
  refine va_get (D := D) (ci := 3) (v := .int td) (C := RX3) (T := TX3) (N := 22) hx hb hts g_X3 hown hE.1 hP 0 rfl rfl 1 (by decide) f_96 (fun _ h9 => h9) rfl dX3_canIssue_3 ?_
  refine lv_iconst (v := (-1)) hx hb dX3_canIssue_6 (by decide) ?_
  refine kcW_i (n := 3) (wc := wM cy m0 m1 m2 m3 m4 m5 m6 m7 m8 m9 m10 m11 m12 m13 m14 m15 m16 m17 th td sed mi fr to lim f1 f2 dis pin ag en cm mc su isu fir lgt ofs rn wsn) (As := [.int (nI j), .int td, .int (-1)]) (rest := []) ⟨hx, hb, hml, hown, hts⟩ hE hA hP hD hS (c_X3_holds l D cy m0 m1 m2 m3 m4 m5 m6 m7 m8 m9 m10 m11 m12 m13 m14 m15 m16 m17 th td sed mi fr to lim f1 f2 dis pin ag en cm mc su isu fir lgt ofs rn wsn j td (-1) (by first | assumption | omega) (by first | assumption | omega) (by first | assumption | omega) (by first | assumption | omega)) (fun _ => Eq.trans (b := [m0, m1, m2, m3, m4, m5, m6, m7, m8, m9, m10, m11, m12, m13, m14, m15, m16, m17]) rfl rfl) (q0 := 0) (ci := 3) rfl rfl gX3_canIssue_X3_holds rfl rfl rfl ⟨rfl, by decide, by decide, by decide +kernel⟩ ⟨Nat.le_of_ble_eq_true rfl, Nat.le_of_ble_eq_true rfl⟩ rfl hl.1 rfl (Nat.le_of_ble_eq_true rfl) dX3_canIssue_7 ⟨Nat.zero_le _, Nat.zero_le _⟩ (fun r_1 u H locs e_2 hP hD hS => ?_)
  obtain ⟨ag_3, rfl⟩ : ∃ z, z = u := ⟨_, rfl⟩
  have hP : va_P D vwCl (wM cy m0 m1 m2 m3 m4 m5 m6 m7 m8 m9 m10 m11 m12 m13 m14 m15 m16 m17 th td sed mi fr to lim f1 f2 dis pin ag_3 en cm mc su isu fir lgt ofs rn wsn) H := hP
  have hD : va_D A (wM cy m0 m1 m2 m3 m4 m5 m6 m7 m8 m9 m10 m11 m12 m13 m14 m15 m16 m17 th td sed mi fr to lim f1 f2 dis pin ag_3 en cm mc su isu fir lgt ofs rn wsn) := hD
  have e_2 : r_1 = bI (gd f1 f2 fr to dis td (-1) j = true) := e_2
  subst e_2
  refine k_ifeq (tgt := 40) hx hb dX3_canIssue_10 (by decide) (fun c_10 => ?_) (fun c_10 => ?_)
  · refine lv_iconst (v := 0) hx hb dX3_canIssue_40 (by decide) ?_
    refine lv_istore_n (lv' := [(3, .int 0), (0, .ref m0), (1, .int (nI j)), (2, .int su_)]) hx hb dX3_canIssue_41 rfl hl (by decide) rfl (fun ls hl => ?_)
    refine lv_iconst (v := 0) hx hb dX3_canIssue_42 (by decide) ?_
    refine lv_istore (lv' := [(4, .int 0), (3, .int 0), (0, .ref m0), (1, .int (nI j)), (2, .int su_)]) hx hb dX3_canIssue_43 hl (by decide) rfl (fun ls hl => ?_)
    have L_45 : ∀ (f : Nat) (k : Nat) (g : Int32) (H : Heap) (locs : List Loc) (ls : Array Slot), ((16 - k) < f) → (k ≤ 16) → (g = bI (canM f1 f2 fr to lim dis isu fir mc pin td j su_ k)) → va_P D vwCl (wM cy m0 m1 m2 m3 m4 m5 m6 m7 m8 m9 m10 m11 m12 m13 m14 m15 m16 m17 th td sed mi fr to lim f1 f2 dis pin ag_3 en cm mc su isu fir lgt ofs rn wsn) H → va_D A (wM cy m0 m1 m2 m3 m4 m5 m6 m7 m8 m9 m10 m11 m12 m13 m14 m15 m16 m17 th td sed mi fr to lim f1 f2 dis pin ag_3 en cm mc su isu fir lgt ofs rn wsn) → va_S A s.heap H locs → lv_has ls 5 [(4, .int (nI k)), (3, .int g), (0, .ref m0), (1, .int (nI j)), (2, .int su_)] → W p l e (krm 2 49) s m args below meth c H locs 0 0 Q (F0 m 45 ls []) := by
      intro f
      induction f with
      | zero => intro k g H locs ls hf; exact absurd hf (Nat.not_lt_zero _)
      | succ f ih_45 =>
        intro k g H locs ls hf hk eg hP hD hS hl
        subst eg
        refine lv_iload hx hb dX3_canIssue_45 (lv_at hl 0 rfl) ?_
        refine lv_bipush (v := 16) hx hb dX3_canIssue_47 (by decide) ?_
        refine lv_icmp_ge (tgt := 102) hx hb dX3_canIssue_49 (by decide) (fun c_49 => ?_) (fun c_49 => ?_)
        · have c_49n : 16 ≤ k := k_leN (a := 16) (b := k) (by omega) (by omega) c_49
          refine lv_iload_n hx hb dX3_canIssue_102 rfl (lv_at hl 1 rfl) ?_
          exact hret _ _ _ _ (bI (canM f1 f2 fr to lim dis isu fir mc pin td j su_ k)) ag_3 dX3_canIssue_103 (Or.inr (bI_01 _)) (by have e9 : k = 16 := (by omega); subst e9; rfl) hP hS
        · have c_49n : ¬ 16 ≤ k := k_nleN (a := 16) (b := k) (by omega) (by omega) c_49
          refine lv_iload_n hx hb dX3_canIssue_52 rfl (lv_at hl 1 rfl) ?_
          refine k_ifeq (tgt := 94) hx hb dX3_canIssue_53 (by decide) (fun c_53 => ?_) (fun c_53 => ?_)
          · refine lv_iconst (v := 0) hx hb dX3_canIssue_94 (by decide) ?_
            refine lv_istore_n (lv' := [(3, .int 0), (4, .int (nI k)), (0, .ref m0), (1, .int (nI j)), (2, .int su_)]) hx hb dX3_canIssue_95 rfl hl (by decide) rfl (fun ls hl => ?_)
            refine lv_iinc (v := (nI (k + 1))) (lv' := [(4, .int (nI (k + 1))), (3, .int 0), (0, .ref m0), (1, .int (nI j)), (2, .int su_)]) hx hb dX3_canIssue_96 hl (k := 1) rfl (k_inc _) (by decide) rfl (fun ls hl => ?_)
            refine lv_goto (tgt := 45) hx hb dX3_canIssue_99 (by decide) ?_
            exact ih_45 (k + 1) 0 _ _ ls (by omega) (by omega) (bI_f (fun h => c_53 (canM_s.mp h).1)).symm hP hD hS (lv_sub hl [0, 1, 2, 3, 4] rfl)
          · refine lv_iload_n hx hb dX3_canIssue_56 rfl (lv_at hl 4 rfl) ?_
            refine lv_iload hx hb dX3_canIssue_57 (lv_at hl 0 rfl) ?_
            refine kcS_i (n := 2) (X := []) (wc := []) (Y := wM cy m0 m1 m2 m3 m4 m5 m6 m7 m8 m9 m10 m11 m12 m13 m14 m15 m16 m17 th td sed mi fr to lim f1 f2 dis pin ag_3 en cm mc su isu fir lgt ofs rn wsn) (As := [.int su_, .int (nI k)]) (rest := []) ⟨hx, hb, hml, hown, hts⟩ hE hA hP hD hS (c_X3_covers l D cy su_ k) (fun _ => rfl) gX3_canIssue_X3_covers rfl rfl rfl ⟨by decide, by decide, by decide +kernel⟩ ⟨Nat.le_of_ble_eq_true rfl, Nat.le_of_ble_eq_true rfl⟩ rfl hl.1 rfl (Nat.le_of_ble_eq_true rfl) dX3_canIssue_59 ⟨Nat.zero_le _, Nat.zero_le _⟩ (fun r_4 u H locs e_5 hP hD hS => ?_)
            have hP : va_P D vwCl (wM cy m0 m1 m2 m3 m4 m5 m6 m7 m8 m9 m10 m11 m12 m13 m14 m15 m16 m17 th td sed mi fr to lim f1 f2 dis pin ag_3 en cm mc su isu fir lgt ofs rn wsn) H := hP
            have hD : va_D A (wM cy m0 m1 m2 m3 m4 m5 m6 m7 m8 m9 m10 m11 m12 m13 m14 m15 m16 m17 th td sed mi fr to lim f1 f2 dis pin ag_3 en cm mc su isu fir lgt ofs rn wsn) := hD
            have e_5 : r_4 = bI (cvP su_ k) := e_5
            subst e_5
            refine k_ifeq (tgt := 90) hx hb dX3_canIssue_62 (by decide) (fun c_62 => ?_) (fun c_62 => ?_)
            · refine lv_iconst (v := 1) hx hb dX3_canIssue_90 (by decide) ?_
              refine lv_goto (tgt := 95) hx hb dX3_canIssue_91 (by decide) ?_
              refine lv_istore_n (lv' := [(3, .int 1), (4, .int (nI k)), (0, .ref m0), (1, .int (nI j)), (2, .int su_)]) hx hb dX3_canIssue_95 rfl hl (by decide) rfl (fun ls hl => ?_)
              refine lv_iinc (v := (nI (k + 1))) (lv' := [(4, .int (nI (k + 1))), (3, .int 1), (0, .ref m0), (1, .int (nI j)), (2, .int su_)]) hx hb dX3_canIssue_96 hl (k := 1) rfl (k_inc _) (by decide) rfl (fun ls hl => ?_)
              refine lv_goto (tgt := 45) hx hb dX3_canIssue_99 (by decide) ?_
              exact ih_45 (k + 1) 1 _ _ ls (by omega) (by omega) (bI_t (canM_s.mpr ⟨c_53, Or.inl c_62⟩)).symm hP hD hS (lv_sub hl [0, 1, 2, 3, 4] rfl)
            · refine lv_aload_n hx hb dX3_canIssue_65 rfl (lv_at hl 2 rfl) ?_
              refine va_get (D := D) (ci := 3) (v := .ref m7) (C := RX3) (T := TX3) (N := 22) hx hb hts g_X3 hown hE.1 hP 0 rfl rfl 10 (by decide) f_32 (fun _ h9 => h9) rfl dX3_canIssue_66 ?_
              refine lv_iload hx hb dX3_canIssue_69 (lv_at hl 0 rfl) ?_
              refine k_ild hx hb hE.1 hP 7 0 rfl rfl (j := k) (by omega) (by decide) dX3_canIssue_71 ?_
              refine lv_if_eq (tgt := 90) hx hb dX3_canIssue_72 (by decide) (fun c_72 => ?_) (fun c_72 => ?_)
              · refine lv_iconst (v := 1) hx hb dX3_canIssue_90 (by decide) ?_
                refine lv_goto (tgt := 95) hx hb dX3_canIssue_91 (by decide) ?_
                refine lv_istore_n (lv' := [(3, .int 1), (4, .int (nI k)), (0, .ref m0), (1, .int (nI j)), (2, .int su_)]) hx hb dX3_canIssue_95 rfl hl (by decide) rfl (fun ls hl => ?_)
                refine lv_iinc (v := (nI (k + 1))) (lv' := [(4, .int (nI (k + 1))), (3, .int 1), (0, .ref m0), (1, .int (nI j)), (2, .int su_)]) hx hb dX3_canIssue_96 hl (k := 1) rfl (k_inc _) (by decide) rfl (fun ls hl => ?_)
                refine lv_goto (tgt := 45) hx hb dX3_canIssue_99 (by decide) ?_
                exact ih_45 (k + 1) 1 _ _ ls (by omega) (by omega) (bI_t (canM_s.mpr ⟨c_53, Or.inr (Or.inl c_72)⟩)).symm hP hD hS (lv_sub hl [0, 1, 2, 3, 4] rfl)
              · refine lv_aload_n hx hb dX3_canIssue_75 rfl (lv_at hl 2 rfl) ?_
                refine va_get (D := D) (ci := 3) (v := .ref m7) (C := RX3) (T := TX3) (N := 22) hx hb hts g_X3 hown hE.1 hP 0 rfl rfl 10 (by decide) f_32 (fun _ h9 => h9) rfl dX3_canIssue_76 ?_
                refine lv_iload hx hb dX3_canIssue_79 (lv_at hl 0 rfl) ?_
                refine k_ild hx hb hE.1 hP 7 0 rfl rfl (j := k) (by omega) (by decide) dX3_canIssue_81 ?_
                refine lv_iload_n hx hb dX3_canIssue_82 rfl (lv_at hl 3 rfl) ?_
                refine lv_ishr hx hb dX3_canIssue_83 ?_
                refine lv_iconst (v := 1) hx hb dX3_canIssue_84 (by decide) ?_
                refine lv_iand hx hb dX3_canIssue_85 ?_
                refine lv_iconst (v := 1) hx hb dX3_canIssue_86 (by decide) ?_
                refine lv_icmp_ne (tgt := 94) hx hb dX3_canIssue_87 (by decide) (fun c_87 => ?_) (fun c_87 => ?_)
                · refine lv_iconst (v := 0) hx hb dX3_canIssue_94 (by decide) ?_
                  refine lv_istore_n (lv' := [(3, .int 0), (4, .int (nI k)), (0, .ref m0), (1, .int (nI j)), (2, .int su_)]) hx hb dX3_canIssue_95 rfl hl (by decide) rfl (fun ls hl => ?_)
                  refine lv_iinc (v := (nI (k + 1))) (lv' := [(4, .int (nI (k + 1))), (3, .int 0), (0, .ref m0), (1, .int (nI j)), (2, .int su_)]) hx hb dX3_canIssue_96 hl (k := 1) rfl (k_inc _) (by decide) rfl (fun ls hl => ?_)
                  refine lv_goto (tgt := 45) hx hb dX3_canIssue_99 (by decide) ?_
                  exact ih_45 (k + 1) 0 _ _ ls (by omega) (by omega) (bI_f (fun h => (canM_s.mp h).2.elim (fun q => q c_62) (fun q => q.elim c_72 c_87))).symm hP hD hS (lv_sub hl [0, 1, 2, 3, 4] rfl)
                · refine lv_iconst (v := 1) hx hb dX3_canIssue_90 (by decide) ?_
                  refine lv_goto (tgt := 95) hx hb dX3_canIssue_91 (by decide) ?_
                  refine lv_istore_n (lv' := [(3, .int 1), (4, .int (nI k)), (0, .ref m0), (1, .int (nI j)), (2, .int su_)]) hx hb dX3_canIssue_95 rfl hl (by decide) rfl (fun ls hl => ?_)
                  refine lv_iinc (v := (nI (k + 1))) (lv' := [(4, .int (nI (k + 1))), (3, .int 1), (0, .ref m0), (1, .int (nI j)), (2, .int su_)]) hx hb dX3_canIssue_96 hl (k := 1) rfl (k_inc _) (by decide) rfl (fun ls hl => ?_)
                  refine lv_goto (tgt := 45) hx hb dX3_canIssue_99 (by decide) ?_
                  exact ih_45 (k + 1) 1 _ _ ls (by omega) (by omega) (bI_t (canM_s.mpr ⟨c_53, Or.inr (Or.inr c_87)⟩)).symm hP hD hS (lv_sub hl [0, 1, 2, 3, 4] rfl)
    exact L_45 ((16 - 0) + 1) 0 0 _ _ ls (Nat.lt_succ_self _) (by omega) (bI_f (fun h => c_10 (canM_0.mp h).1)).symm hP hD hS (lv_sub hl [0, 1, 2, 3, 4] rfl)
  · refine lv_aload_n hx hb dX3_canIssue_13 rfl (lv_at hl 0 rfl) ?_
    refine lv_iload_n hx hb dX3_canIssue_14 rfl (lv_at hl 1 rfl) ?_
    refine kcW_i (n := 1) (wc := wM cy m0 m1 m2 m3 m4 m5 m6 m7 m8 m9 m10 m11 m12 m13 m14 m15 m16 m17 th td sed mi fr to lim f1 f2 dis pin ag_3 en cm mc su isu fir lgt ofs rn wsn) (As := [.int (nI j)]) (rest := []) ⟨hx, hb, hml, hown, hts⟩ hE hA hP hD hS (c_X3_issued l D cy m0 m1 m2 m3 m4 m5 m6 m7 m8 m9 m10 m11 m12 m13 m14 m15 m16 m17 th td sed mi fr to lim f1 f2 dis pin ag_3 en cm mc su isu fir lgt ofs rn wsn (nI j) (by first | assumption | omega)) (fun _ => rfl) (q0 := 0) (ci := 3) rfl rfl gX3_canIssue_X3_issued rfl rfl rfl ⟨rfl, by decide, by decide, by decide +kernel⟩ ⟨Nat.le_of_ble_eq_true rfl, Nat.le_of_ble_eq_true rfl⟩ rfl hl.1 rfl (Nat.le_of_ble_eq_true rfl) dX3_canIssue_15 ⟨Nat.zero_le _, Nat.zero_le _⟩ (fun r_6 u H locs e_7 hP hD hS => ?_)
    have hP : va_P D vwCl (wM cy m0 m1 m2 m3 m4 m5 m6 m7 m8 m9 m10 m11 m12 m13 m14 m15 m16 m17 th td sed mi fr to lim f1 f2 dis pin ag_3 en cm mc su isu fir lgt ofs rn wsn) H := hP
    have hD : va_D A (wM cy m0 m1 m2 m3 m4 m5 m6 m7 m8 m9 m10 m11 m12 m13 m14 m15 m16 m17 th td sed mi fr to lim f1 f2 dis pin ag_3 en cm mc su isu fir lgt ofs rn wsn) := hD
    have e_7 : r_6 = iwN isu fir (nI j) (td / 7) mc := e_7
    subst e_7
    refine lv_aload_n hx hb dX3_canIssue_18 rfl (lv_at hl 0 rfl) ?_
    refine va_get (D := D) (ci := 3) (v := .ref m3) (C := RX3) (T := TX3) (N := 22) hx hb hts g_X3 hown hE.1 hP 0 rfl rfl 6 (by decide) f_20 (fun _ h9 => h9) rfl dX3_canIssue_19 ?_
    refine lv_iload_n hx hb dX3_canIssue_22 rfl (lv_at hl 1 rfl) ?_
    refine k_ild hx hb hE.1 hP 3 0 rfl rfl (j := j) (by omega) (by decide) dX3_canIssue_23 ?_
    refine lv_icmp_ge (tgt := 40) hx hb dX3_canIssue_24 (by decide) (fun c_24 => ?_) (fun c_24 => ?_)
    · refine lv_iconst (v := 0) hx hb dX3_canIssue_40 (by decide) ?_
      refine lv_istore_n (lv' := [(3, .int 0), (0, .ref m0), (1, .int (nI j)), (2, .int su_)]) hx hb dX3_canIssue_41 rfl hl (by decide) rfl (fun ls hl => ?_)
      refine lv_iconst (v := 0) hx hb dX3_canIssue_42 (by decide) ?_
      refine lv_istore (lv' := [(4, .int 0), (3, .int 0), (0, .ref m0), (1, .int (nI j)), (2, .int su_)]) hx hb dX3_canIssue_43 hl (by decide) rfl (fun ls hl => ?_)
      have L_45 : ∀ (f : Nat) (k : Nat) (g : Int32) (H : Heap) (locs : List Loc) (ls : Array Slot), ((16 - k) < f) → (k ≤ 16) → (g = bI (canM f1 f2 fr to lim dis isu fir mc pin td j su_ k)) → va_P D vwCl (wM cy m0 m1 m2 m3 m4 m5 m6 m7 m8 m9 m10 m11 m12 m13 m14 m15 m16 m17 th td sed mi fr to lim f1 f2 dis pin ag_3 en cm mc su isu fir lgt ofs rn wsn) H → va_D A (wM cy m0 m1 m2 m3 m4 m5 m6 m7 m8 m9 m10 m11 m12 m13 m14 m15 m16 m17 th td sed mi fr to lim f1 f2 dis pin ag_3 en cm mc su isu fir lgt ofs rn wsn) → va_S A s.heap H locs → lv_has ls 5 [(4, .int (nI k)), (3, .int g), (0, .ref m0), (1, .int (nI j)), (2, .int su_)] → W p l e (krm 2 49) s m args below meth c H locs 0 0 Q (F0 m 45 ls []) := by
        intro f
        induction f with
        | zero => intro k g H locs ls hf; exact absurd hf (Nat.not_lt_zero _)
        | succ f ih_45 =>
          intro k g H locs ls hf hk eg hP hD hS hl
          subst eg
          refine lv_iload hx hb dX3_canIssue_45 (lv_at hl 0 rfl) ?_
          refine lv_bipush (v := 16) hx hb dX3_canIssue_47 (by decide) ?_
          refine lv_icmp_ge (tgt := 102) hx hb dX3_canIssue_49 (by decide) (fun c_49 => ?_) (fun c_49 => ?_)
          · have c_49n : 16 ≤ k := k_leN (a := 16) (b := k) (by omega) (by omega) c_49
            refine lv_iload_n hx hb dX3_canIssue_102 rfl (lv_at hl 1 rfl) ?_
            exact hret _ _ _ _ (bI (canM f1 f2 fr to lim dis isu fir mc pin td j su_ k)) ag_3 dX3_canIssue_103 (Or.inr (bI_01 _)) (by have e9 : k = 16 := (by omega); subst e9; rfl) hP hS
          · have c_49n : ¬ 16 ≤ k := k_nleN (a := 16) (b := k) (by omega) (by omega) c_49
            refine lv_iload_n hx hb dX3_canIssue_52 rfl (lv_at hl 1 rfl) ?_
            refine k_ifeq (tgt := 94) hx hb dX3_canIssue_53 (by decide) (fun c_53 => ?_) (fun c_53 => ?_)
            · refine lv_iconst (v := 0) hx hb dX3_canIssue_94 (by decide) ?_
              refine lv_istore_n (lv' := [(3, .int 0), (4, .int (nI k)), (0, .ref m0), (1, .int (nI j)), (2, .int su_)]) hx hb dX3_canIssue_95 rfl hl (by decide) rfl (fun ls hl => ?_)
              refine lv_iinc (v := (nI (k + 1))) (lv' := [(4, .int (nI (k + 1))), (3, .int 0), (0, .ref m0), (1, .int (nI j)), (2, .int su_)]) hx hb dX3_canIssue_96 hl (k := 1) rfl (k_inc _) (by decide) rfl (fun ls hl => ?_)
              refine lv_goto (tgt := 45) hx hb dX3_canIssue_99 (by decide) ?_
              exact ih_45 (k + 1) 0 _ _ ls (by omega) (by omega) (bI_f (fun h => c_53 (canM_s.mp h).1)).symm hP hD hS (lv_sub hl [0, 1, 2, 3, 4] rfl)
            · refine lv_iload_n hx hb dX3_canIssue_56 rfl (lv_at hl 4 rfl) ?_
              refine lv_iload hx hb dX3_canIssue_57 (lv_at hl 0 rfl) ?_
              refine kcS_i (n := 2) (X := []) (wc := []) (Y := wM cy m0 m1 m2 m3 m4 m5 m6 m7 m8 m9 m10 m11 m12 m13 m14 m15 m16 m17 th td sed mi fr to lim f1 f2 dis pin ag_3 en cm mc su isu fir lgt ofs rn wsn) (As := [.int su_, .int (nI k)]) (rest := []) ⟨hx, hb, hml, hown, hts⟩ hE hA hP hD hS (c_X3_covers l D cy su_ k) (fun _ => rfl) gX3_canIssue_X3_covers rfl rfl rfl ⟨by decide, by decide, by decide +kernel⟩ ⟨Nat.le_of_ble_eq_true rfl, Nat.le_of_ble_eq_true rfl⟩ rfl hl.1 rfl (Nat.le_of_ble_eq_true rfl) dX3_canIssue_59 ⟨Nat.zero_le _, Nat.zero_le _⟩ (fun r_8 u H locs e_9 hP hD hS => ?_)
              have hP : va_P D vwCl (wM cy m0 m1 m2 m3 m4 m5 m6 m7 m8 m9 m10 m11 m12 m13 m14 m15 m16 m17 th td sed mi fr to lim f1 f2 dis pin ag_3 en cm mc su isu fir lgt ofs rn wsn) H := hP
              have hD : va_D A (wM cy m0 m1 m2 m3 m4 m5 m6 m7 m8 m9 m10 m11 m12 m13 m14 m15 m16 m17 th td sed mi fr to lim f1 f2 dis pin ag_3 en cm mc su isu fir lgt ofs rn wsn) := hD
              have e_9 : r_8 = bI (cvP su_ k) := e_9
              subst e_9
              refine k_ifeq (tgt := 90) hx hb dX3_canIssue_62 (by decide) (fun c_62 => ?_) (fun c_62 => ?_)
              · refine lv_iconst (v := 1) hx hb dX3_canIssue_90 (by decide) ?_
                refine lv_goto (tgt := 95) hx hb dX3_canIssue_91 (by decide) ?_
                refine lv_istore_n (lv' := [(3, .int 1), (4, .int (nI k)), (0, .ref m0), (1, .int (nI j)), (2, .int su_)]) hx hb dX3_canIssue_95 rfl hl (by decide) rfl (fun ls hl => ?_)
                refine lv_iinc (v := (nI (k + 1))) (lv' := [(4, .int (nI (k + 1))), (3, .int 1), (0, .ref m0), (1, .int (nI j)), (2, .int su_)]) hx hb dX3_canIssue_96 hl (k := 1) rfl (k_inc _) (by decide) rfl (fun ls hl => ?_)
                refine lv_goto (tgt := 45) hx hb dX3_canIssue_99 (by decide) ?_
                exact ih_45 (k + 1) 1 _ _ ls (by omega) (by omega) (bI_t (canM_s.mpr ⟨c_53, Or.inl c_62⟩)).symm hP hD hS (lv_sub hl [0, 1, 2, 3, 4] rfl)
              · refine lv_aload_n hx hb dX3_canIssue_65 rfl (lv_at hl 2 rfl) ?_
                refine va_get (D := D) (ci := 3) (v := .ref m7) (C := RX3) (T := TX3) (N := 22) hx hb hts g_X3 hown hE.1 hP 0 rfl rfl 10 (by decide) f_32 (fun _ h9 => h9) rfl dX3_canIssue_66 ?_
                refine lv_iload hx hb dX3_canIssue_69 (lv_at hl 0 rfl) ?_
                refine k_ild hx hb hE.1 hP 7 0 rfl rfl (j := k) (by omega) (by decide) dX3_canIssue_71 ?_
                refine lv_if_eq (tgt := 90) hx hb dX3_canIssue_72 (by decide) (fun c_72 => ?_) (fun c_72 => ?_)
                · refine lv_iconst (v := 1) hx hb dX3_canIssue_90 (by decide) ?_
                  refine lv_goto (tgt := 95) hx hb dX3_canIssue_91 (by decide) ?_
                  refine lv_istore_n (lv' := [(3, .int 1), (4, .int (nI k)), (0, .ref m0), (1, .int (nI j)), (2, .int su_)]) hx hb dX3_canIssue_95 rfl hl (by decide) rfl (fun ls hl => ?_)
                  refine lv_iinc (v := (nI (k + 1))) (lv' := [(4, .int (nI (k + 1))), (3, .int 1), (0, .ref m0), (1, .int (nI j)), (2, .int su_)]) hx hb dX3_canIssue_96 hl (k := 1) rfl (k_inc _) (by decide) rfl (fun ls hl => ?_)
                  refine lv_goto (tgt := 45) hx hb dX3_canIssue_99 (by decide) ?_
                  exact ih_45 (k + 1) 1 _ _ ls (by omega) (by omega) (bI_t (canM_s.mpr ⟨c_53, Or.inr (Or.inl c_72)⟩)).symm hP hD hS (lv_sub hl [0, 1, 2, 3, 4] rfl)
                · refine lv_aload_n hx hb dX3_canIssue_75 rfl (lv_at hl 2 rfl) ?_
                  refine va_get (D := D) (ci := 3) (v := .ref m7) (C := RX3) (T := TX3) (N := 22) hx hb hts g_X3 hown hE.1 hP 0 rfl rfl 10 (by decide) f_32 (fun _ h9 => h9) rfl dX3_canIssue_76 ?_
                  refine lv_iload hx hb dX3_canIssue_79 (lv_at hl 0 rfl) ?_
                  refine k_ild hx hb hE.1 hP 7 0 rfl rfl (j := k) (by omega) (by decide) dX3_canIssue_81 ?_
                  refine lv_iload_n hx hb dX3_canIssue_82 rfl (lv_at hl 3 rfl) ?_
                  refine lv_ishr hx hb dX3_canIssue_83 ?_
                  refine lv_iconst (v := 1) hx hb dX3_canIssue_84 (by decide) ?_
                  refine lv_iand hx hb dX3_canIssue_85 ?_
                  refine lv_iconst (v := 1) hx hb dX3_canIssue_86 (by decide) ?_
                  refine lv_icmp_ne (tgt := 94) hx hb dX3_canIssue_87 (by decide) (fun c_87 => ?_) (fun c_87 => ?_)
                  · refine lv_iconst (v := 0) hx hb dX3_canIssue_94 (by decide) ?_
                    refine lv_istore_n (lv' := [(3, .int 0), (4, .int (nI k)), (0, .ref m0), (1, .int (nI j)), (2, .int su_)]) hx hb dX3_canIssue_95 rfl hl (by decide) rfl (fun ls hl => ?_)
                    refine lv_iinc (v := (nI (k + 1))) (lv' := [(4, .int (nI (k + 1))), (3, .int 0), (0, .ref m0), (1, .int (nI j)), (2, .int su_)]) hx hb dX3_canIssue_96 hl (k := 1) rfl (k_inc _) (by decide) rfl (fun ls hl => ?_)
                    refine lv_goto (tgt := 45) hx hb dX3_canIssue_99 (by decide) ?_
                    exact ih_45 (k + 1) 0 _ _ ls (by omega) (by omega) (bI_f (fun h => (canM_s.mp h).2.elim (fun q => q c_62) (fun q => q.elim c_72 c_87))).symm hP hD hS (lv_sub hl [0, 1, 2, 3, 4] rfl)
                  · refine lv_iconst (v := 1) hx hb dX3_canIssue_90 (by decide) ?_
                    refine lv_goto (tgt := 95) hx hb dX3_canIssue_91 (by decide) ?_
                    refine lv_istore_n (lv' := [(3, .int 1), (4, .int (nI k)), (0, .ref m0), (1, .int (nI j)), (2, .int su_)]) hx hb dX3_canIssue_95 rfl hl (by decide) rfl (fun ls hl => ?_)
                    refine lv_iinc (v := (nI (k + 1))) (lv' := [(4, .int (nI (k + 1))), (3, .int 1), (0, .ref m0), (1, .int (nI j)), (2, .int su_)]) hx hb dX3_canIssue_96 hl (k := 1) rfl (k_inc _) (by decide) rfl (fun ls hl => ?_)
                    refine lv_goto (tgt := 45) hx hb dX3_canIssue_99 (by decide) ?_
                    exact ih_45 (k + 1) 1 _ _ ls (by omega) (by omega) (bI_t (canM_s.mpr ⟨c_53, Or.inr (Or.inr c_87)⟩)).symm hP hD hS (lv_sub hl [0, 1, 2, 3, 4] rfl)
      exact L_45 ((16 - 0) + 1) 0 0 _ _ ls (Nat.lt_succ_self _) (by omega) (bI_f (fun h => (canM_0.mp h).2.1 c_24)).symm hP hD hS (lv_sub hl [0, 1, 2, 3, 4] rfl)
    · refine lv_aload_n hx hb dX3_canIssue_27 rfl (lv_at hl 0 rfl) ?_
      refine va_get (D := D) (ci := 3) (v := .int (nI mc)) (C := RX3) (T := TX3) (N := 22) hx hb hts g_X3 hown hE.1 hP 0 rfl rfl 14 (by decide) f_76 (fun _ h9 => h9) rfl dX3_canIssue_28 ?_
      refine lv_bipush (v := 60) hx hb dX3_canIssue_31 (by decide) ?_
      refine lv_icmp_ge (tgt := 40) hx hb dX3_canIssue_33 (by decide) (fun c_33 => ?_) (fun c_33 => ?_)
      · have c_33n : 60 ≤ mc := k_leN (a := 60) (b := mc) (by omega) (by omega) c_33
        refine lv_iconst (v := 0) hx hb dX3_canIssue_40 (by decide) ?_
        refine lv_istore_n (lv' := [(3, .int 0), (0, .ref m0), (1, .int (nI j)), (2, .int su_)]) hx hb dX3_canIssue_41 rfl hl (by decide) rfl (fun ls hl => ?_)
        refine lv_iconst (v := 0) hx hb dX3_canIssue_42 (by decide) ?_
        refine lv_istore (lv' := [(4, .int 0), (3, .int 0), (0, .ref m0), (1, .int (nI j)), (2, .int su_)]) hx hb dX3_canIssue_43 hl (by decide) rfl (fun ls hl => ?_)
        have L_45 : ∀ (f : Nat) (k : Nat) (g : Int32) (H : Heap) (locs : List Loc) (ls : Array Slot), ((16 - k) < f) → (k ≤ 16) → (g = bI (canM f1 f2 fr to lim dis isu fir mc pin td j su_ k)) → va_P D vwCl (wM cy m0 m1 m2 m3 m4 m5 m6 m7 m8 m9 m10 m11 m12 m13 m14 m15 m16 m17 th td sed mi fr to lim f1 f2 dis pin ag_3 en cm mc su isu fir lgt ofs rn wsn) H → va_D A (wM cy m0 m1 m2 m3 m4 m5 m6 m7 m8 m9 m10 m11 m12 m13 m14 m15 m16 m17 th td sed mi fr to lim f1 f2 dis pin ag_3 en cm mc su isu fir lgt ofs rn wsn) → va_S A s.heap H locs → lv_has ls 5 [(4, .int (nI k)), (3, .int g), (0, .ref m0), (1, .int (nI j)), (2, .int su_)] → W p l e (krm 2 49) s m args below meth c H locs 0 0 Q (F0 m 45 ls []) := by
          intro f
          induction f with
          | zero => intro k g H locs ls hf; exact absurd hf (Nat.not_lt_zero _)
          | succ f ih_45 =>
            intro k g H locs ls hf hk eg hP hD hS hl
            subst eg
            refine lv_iload hx hb dX3_canIssue_45 (lv_at hl 0 rfl) ?_
            refine lv_bipush (v := 16) hx hb dX3_canIssue_47 (by decide) ?_
            refine lv_icmp_ge (tgt := 102) hx hb dX3_canIssue_49 (by decide) (fun c_49 => ?_) (fun c_49 => ?_)
            · have c_49n : 16 ≤ k := k_leN (a := 16) (b := k) (by omega) (by omega) c_49
              refine lv_iload_n hx hb dX3_canIssue_102 rfl (lv_at hl 1 rfl) ?_
              exact hret _ _ _ _ (bI (canM f1 f2 fr to lim dis isu fir mc pin td j su_ k)) ag_3 dX3_canIssue_103 (Or.inr (bI_01 _)) (by have e9 : k = 16 := (by omega); subst e9; rfl) hP hS
            · have c_49n : ¬ 16 ≤ k := k_nleN (a := 16) (b := k) (by omega) (by omega) c_49
              refine lv_iload_n hx hb dX3_canIssue_52 rfl (lv_at hl 1 rfl) ?_
              refine k_ifeq (tgt := 94) hx hb dX3_canIssue_53 (by decide) (fun c_53 => ?_) (fun c_53 => ?_)
              · refine lv_iconst (v := 0) hx hb dX3_canIssue_94 (by decide) ?_
                refine lv_istore_n (lv' := [(3, .int 0), (4, .int (nI k)), (0, .ref m0), (1, .int (nI j)), (2, .int su_)]) hx hb dX3_canIssue_95 rfl hl (by decide) rfl (fun ls hl => ?_)
                refine lv_iinc (v := (nI (k + 1))) (lv' := [(4, .int (nI (k + 1))), (3, .int 0), (0, .ref m0), (1, .int (nI j)), (2, .int su_)]) hx hb dX3_canIssue_96 hl (k := 1) rfl (k_inc _) (by decide) rfl (fun ls hl => ?_)
                refine lv_goto (tgt := 45) hx hb dX3_canIssue_99 (by decide) ?_
                exact ih_45 (k + 1) 0 _ _ ls (by omega) (by omega) (bI_f (fun h => c_53 (canM_s.mp h).1)).symm hP hD hS (lv_sub hl [0, 1, 2, 3, 4] rfl)
              · refine lv_iload_n hx hb dX3_canIssue_56 rfl (lv_at hl 4 rfl) ?_
                refine lv_iload hx hb dX3_canIssue_57 (lv_at hl 0 rfl) ?_
                refine kcS_i (n := 2) (X := []) (wc := []) (Y := wM cy m0 m1 m2 m3 m4 m5 m6 m7 m8 m9 m10 m11 m12 m13 m14 m15 m16 m17 th td sed mi fr to lim f1 f2 dis pin ag_3 en cm mc su isu fir lgt ofs rn wsn) (As := [.int su_, .int (nI k)]) (rest := []) ⟨hx, hb, hml, hown, hts⟩ hE hA hP hD hS (c_X3_covers l D cy su_ k) (fun _ => rfl) gX3_canIssue_X3_covers rfl rfl rfl ⟨by decide, by decide, by decide +kernel⟩ ⟨Nat.le_of_ble_eq_true rfl, Nat.le_of_ble_eq_true rfl⟩ rfl hl.1 rfl (Nat.le_of_ble_eq_true rfl) dX3_canIssue_59 ⟨Nat.zero_le _, Nat.zero_le _⟩ (fun r_10 u H locs e_11 hP hD hS => ?_)
                have hP : va_P D vwCl (wM cy m0 m1 m2 m3 m4 m5 m6 m7 m8 m9 m10 m11 m12 m13 m14 m15 m16 m17 th td sed mi fr to lim f1 f2 dis pin ag_3 en cm mc su isu fir lgt ofs rn wsn) H := hP
                have hD : va_D A (wM cy m0 m1 m2 m3 m4 m5 m6 m7 m8 m9 m10 m11 m12 m13 m14 m15 m16 m17 th td sed mi fr to lim f1 f2 dis pin ag_3 en cm mc su isu fir lgt ofs rn wsn) := hD
                have e_11 : r_10 = bI (cvP su_ k) := e_11
                subst e_11
                refine k_ifeq (tgt := 90) hx hb dX3_canIssue_62 (by decide) (fun c_62 => ?_) (fun c_62 => ?_)
                · refine lv_iconst (v := 1) hx hb dX3_canIssue_90 (by decide) ?_
                  refine lv_goto (tgt := 95) hx hb dX3_canIssue_91 (by decide) ?_
                  refine lv_istore_n (lv' := [(3, .int 1), (4, .int (nI k)), (0, .ref m0), (1, .int (nI j)), (2, .int su_)]) hx hb dX3_canIssue_95 rfl hl (by decide) rfl (fun ls hl => ?_)
                  refine lv_iinc (v := (nI (k + 1))) (lv' := [(4, .int (nI (k + 1))), (3, .int 1), (0, .ref m0), (1, .int (nI j)), (2, .int su_)]) hx hb dX3_canIssue_96 hl (k := 1) rfl (k_inc _) (by decide) rfl (fun ls hl => ?_)
                  refine lv_goto (tgt := 45) hx hb dX3_canIssue_99 (by decide) ?_
                  exact ih_45 (k + 1) 1 _ _ ls (by omega) (by omega) (bI_t (canM_s.mpr ⟨c_53, Or.inl c_62⟩)).symm hP hD hS (lv_sub hl [0, 1, 2, 3, 4] rfl)
                · refine lv_aload_n hx hb dX3_canIssue_65 rfl (lv_at hl 2 rfl) ?_
                  refine va_get (D := D) (ci := 3) (v := .ref m7) (C := RX3) (T := TX3) (N := 22) hx hb hts g_X3 hown hE.1 hP 0 rfl rfl 10 (by decide) f_32 (fun _ h9 => h9) rfl dX3_canIssue_66 ?_
                  refine lv_iload hx hb dX3_canIssue_69 (lv_at hl 0 rfl) ?_
                  refine k_ild hx hb hE.1 hP 7 0 rfl rfl (j := k) (by omega) (by decide) dX3_canIssue_71 ?_
                  refine lv_if_eq (tgt := 90) hx hb dX3_canIssue_72 (by decide) (fun c_72 => ?_) (fun c_72 => ?_)
                  · refine lv_iconst (v := 1) hx hb dX3_canIssue_90 (by decide) ?_
                    refine lv_goto (tgt := 95) hx hb dX3_canIssue_91 (by decide) ?_
                    refine lv_istore_n (lv' := [(3, .int 1), (4, .int (nI k)), (0, .ref m0), (1, .int (nI j)), (2, .int su_)]) hx hb dX3_canIssue_95 rfl hl (by decide) rfl (fun ls hl => ?_)
                    refine lv_iinc (v := (nI (k + 1))) (lv' := [(4, .int (nI (k + 1))), (3, .int 1), (0, .ref m0), (1, .int (nI j)), (2, .int su_)]) hx hb dX3_canIssue_96 hl (k := 1) rfl (k_inc _) (by decide) rfl (fun ls hl => ?_)
                    refine lv_goto (tgt := 45) hx hb dX3_canIssue_99 (by decide) ?_
                    exact ih_45 (k + 1) 1 _ _ ls (by omega) (by omega) (bI_t (canM_s.mpr ⟨c_53, Or.inr (Or.inl c_72)⟩)).symm hP hD hS (lv_sub hl [0, 1, 2, 3, 4] rfl)
                  · refine lv_aload_n hx hb dX3_canIssue_75 rfl (lv_at hl 2 rfl) ?_
                    refine va_get (D := D) (ci := 3) (v := .ref m7) (C := RX3) (T := TX3) (N := 22) hx hb hts g_X3 hown hE.1 hP 0 rfl rfl 10 (by decide) f_32 (fun _ h9 => h9) rfl dX3_canIssue_76 ?_
                    refine lv_iload hx hb dX3_canIssue_79 (lv_at hl 0 rfl) ?_
                    refine k_ild hx hb hE.1 hP 7 0 rfl rfl (j := k) (by omega) (by decide) dX3_canIssue_81 ?_
                    refine lv_iload_n hx hb dX3_canIssue_82 rfl (lv_at hl 3 rfl) ?_
                    refine lv_ishr hx hb dX3_canIssue_83 ?_
                    refine lv_iconst (v := 1) hx hb dX3_canIssue_84 (by decide) ?_
                    refine lv_iand hx hb dX3_canIssue_85 ?_
                    refine lv_iconst (v := 1) hx hb dX3_canIssue_86 (by decide) ?_
                    refine lv_icmp_ne (tgt := 94) hx hb dX3_canIssue_87 (by decide) (fun c_87 => ?_) (fun c_87 => ?_)
                    · refine lv_iconst (v := 0) hx hb dX3_canIssue_94 (by decide) ?_
                      refine lv_istore_n (lv' := [(3, .int 0), (4, .int (nI k)), (0, .ref m0), (1, .int (nI j)), (2, .int su_)]) hx hb dX3_canIssue_95 rfl hl (by decide) rfl (fun ls hl => ?_)
                      refine lv_iinc (v := (nI (k + 1))) (lv' := [(4, .int (nI (k + 1))), (3, .int 0), (0, .ref m0), (1, .int (nI j)), (2, .int su_)]) hx hb dX3_canIssue_96 hl (k := 1) rfl (k_inc _) (by decide) rfl (fun ls hl => ?_)
                      refine lv_goto (tgt := 45) hx hb dX3_canIssue_99 (by decide) ?_
                      exact ih_45 (k + 1) 0 _ _ ls (by omega) (by omega) (bI_f (fun h => (canM_s.mp h).2.elim (fun q => q c_62) (fun q => q.elim c_72 c_87))).symm hP hD hS (lv_sub hl [0, 1, 2, 3, 4] rfl)
                    · refine lv_iconst (v := 1) hx hb dX3_canIssue_90 (by decide) ?_
                      refine lv_goto (tgt := 95) hx hb dX3_canIssue_91 (by decide) ?_
                      refine lv_istore_n (lv' := [(3, .int 1), (4, .int (nI k)), (0, .ref m0), (1, .int (nI j)), (2, .int su_)]) hx hb dX3_canIssue_95 rfl hl (by decide) rfl (fun ls hl => ?_)
                      refine lv_iinc (v := (nI (k + 1))) (lv' := [(4, .int (nI (k + 1))), (3, .int 1), (0, .ref m0), (1, .int (nI j)), (2, .int su_)]) hx hb dX3_canIssue_96 hl (k := 1) rfl (k_inc _) (by decide) rfl (fun ls hl => ?_)
                      refine lv_goto (tgt := 45) hx hb dX3_canIssue_99 (by decide) ?_
                      exact ih_45 (k + 1) 1 _ _ ls (by omega) (by omega) (bI_t (canM_s.mpr ⟨c_53, Or.inr (Or.inr c_87)⟩)).symm hP hD hS (lv_sub hl [0, 1, 2, 3, 4] rfl)
        exact L_45 ((16 - 0) + 1) 0 0 _ _ ls (Nat.lt_succ_self _) (by omega) (bI_f (fun h => (canM_0.mp h).2.2 c_33n)).symm hP hD hS (lv_sub hl [0, 1, 2, 3, 4] rfl)
      · have c_33n : ¬ 60 ≤ mc := k_nleN (a := 60) (b := mc) (by omega) (by omega) c_33
        refine lv_iconst (v := 1) hx hb dX3_canIssue_36 (by decide) ?_
        refine lv_goto (tgt := 41) hx hb dX3_canIssue_37 (by decide) ?_
        refine lv_istore_n (lv' := [(3, .int 1), (0, .ref m0), (1, .int (nI j)), (2, .int su_)]) hx hb dX3_canIssue_41 rfl hl (by decide) rfl (fun ls hl => ?_)
        refine lv_iconst (v := 0) hx hb dX3_canIssue_42 (by decide) ?_
        refine lv_istore (lv' := [(4, .int 0), (3, .int 1), (0, .ref m0), (1, .int (nI j)), (2, .int su_)]) hx hb dX3_canIssue_43 hl (by decide) rfl (fun ls hl => ?_)
        have L_45 : ∀ (f : Nat) (k : Nat) (g : Int32) (H : Heap) (locs : List Loc) (ls : Array Slot), ((16 - k) < f) → (k ≤ 16) → (g = bI (canM f1 f2 fr to lim dis isu fir mc pin td j su_ k)) → va_P D vwCl (wM cy m0 m1 m2 m3 m4 m5 m6 m7 m8 m9 m10 m11 m12 m13 m14 m15 m16 m17 th td sed mi fr to lim f1 f2 dis pin ag_3 en cm mc su isu fir lgt ofs rn wsn) H → va_D A (wM cy m0 m1 m2 m3 m4 m5 m6 m7 m8 m9 m10 m11 m12 m13 m14 m15 m16 m17 th td sed mi fr to lim f1 f2 dis pin ag_3 en cm mc su isu fir lgt ofs rn wsn) → va_S A s.heap H locs → lv_has ls 5 [(4, .int (nI k)), (3, .int g), (0, .ref m0), (1, .int (nI j)), (2, .int su_)] → W p l e (krm 2 49) s m args below meth c H locs 0 0 Q (F0 m 45 ls []) := by
          intro f
          induction f with
          | zero => intro k g H locs ls hf; exact absurd hf (Nat.not_lt_zero _)
          | succ f ih_45 =>
            intro k g H locs ls hf hk eg hP hD hS hl
            subst eg
            refine lv_iload hx hb dX3_canIssue_45 (lv_at hl 0 rfl) ?_
            refine lv_bipush (v := 16) hx hb dX3_canIssue_47 (by decide) ?_
            refine lv_icmp_ge (tgt := 102) hx hb dX3_canIssue_49 (by decide) (fun c_49 => ?_) (fun c_49 => ?_)
            · have c_49n : 16 ≤ k := k_leN (a := 16) (b := k) (by omega) (by omega) c_49
              refine lv_iload_n hx hb dX3_canIssue_102 rfl (lv_at hl 1 rfl) ?_
              exact hret _ _ _ _ (bI (canM f1 f2 fr to lim dis isu fir mc pin td j su_ k)) ag_3 dX3_canIssue_103 (Or.inr (bI_01 _)) (by have e9 : k = 16 := (by omega); subst e9; rfl) hP hS
            · have c_49n : ¬ 16 ≤ k := k_nleN (a := 16) (b := k) (by omega) (by omega) c_49
              refine lv_iload_n hx hb dX3_canIssue_52 rfl (lv_at hl 1 rfl) ?_
              refine k_ifeq (tgt := 94) hx hb dX3_canIssue_53 (by decide) (fun c_53 => ?_) (fun c_53 => ?_)
              · refine lv_iconst (v := 0) hx hb dX3_canIssue_94 (by decide) ?_
                refine lv_istore_n (lv' := [(3, .int 0), (4, .int (nI k)), (0, .ref m0), (1, .int (nI j)), (2, .int su_)]) hx hb dX3_canIssue_95 rfl hl (by decide) rfl (fun ls hl => ?_)
                refine lv_iinc (v := (nI (k + 1))) (lv' := [(4, .int (nI (k + 1))), (3, .int 0), (0, .ref m0), (1, .int (nI j)), (2, .int su_)]) hx hb dX3_canIssue_96 hl (k := 1) rfl (k_inc _) (by decide) rfl (fun ls hl => ?_)
                refine lv_goto (tgt := 45) hx hb dX3_canIssue_99 (by decide) ?_
                exact ih_45 (k + 1) 0 _ _ ls (by omega) (by omega) (bI_f (fun h => c_53 (canM_s.mp h).1)).symm hP hD hS (lv_sub hl [0, 1, 2, 3, 4] rfl)
              · refine lv_iload_n hx hb dX3_canIssue_56 rfl (lv_at hl 4 rfl) ?_
                refine lv_iload hx hb dX3_canIssue_57 (lv_at hl 0 rfl) ?_
                refine kcS_i (n := 2) (X := []) (wc := []) (Y := wM cy m0 m1 m2 m3 m4 m5 m6 m7 m8 m9 m10 m11 m12 m13 m14 m15 m16 m17 th td sed mi fr to lim f1 f2 dis pin ag_3 en cm mc su isu fir lgt ofs rn wsn) (As := [.int su_, .int (nI k)]) (rest := []) ⟨hx, hb, hml, hown, hts⟩ hE hA hP hD hS (c_X3_covers l D cy su_ k) (fun _ => rfl) gX3_canIssue_X3_covers rfl rfl rfl ⟨by decide, by decide, by decide +kernel⟩ ⟨Nat.le_of_ble_eq_true rfl, Nat.le_of_ble_eq_true rfl⟩ rfl hl.1 rfl (Nat.le_of_ble_eq_true rfl) dX3_canIssue_59 ⟨Nat.zero_le _, Nat.zero_le _⟩ (fun r_12 u H locs e_13 hP hD hS => ?_)
                have hP : va_P D vwCl (wM cy m0 m1 m2 m3 m4 m5 m6 m7 m8 m9 m10 m11 m12 m13 m14 m15 m16 m17 th td sed mi fr to lim f1 f2 dis pin ag_3 en cm mc su isu fir lgt ofs rn wsn) H := hP
                have hD : va_D A (wM cy m0 m1 m2 m3 m4 m5 m6 m7 m8 m9 m10 m11 m12 m13 m14 m15 m16 m17 th td sed mi fr to lim f1 f2 dis pin ag_3 en cm mc su isu fir lgt ofs rn wsn) := hD
                have e_13 : r_12 = bI (cvP su_ k) := e_13
                subst e_13
                refine k_ifeq (tgt := 90) hx hb dX3_canIssue_62 (by decide) (fun c_62 => ?_) (fun c_62 => ?_)
                · refine lv_iconst (v := 1) hx hb dX3_canIssue_90 (by decide) ?_
                  refine lv_goto (tgt := 95) hx hb dX3_canIssue_91 (by decide) ?_
                  refine lv_istore_n (lv' := [(3, .int 1), (4, .int (nI k)), (0, .ref m0), (1, .int (nI j)), (2, .int su_)]) hx hb dX3_canIssue_95 rfl hl (by decide) rfl (fun ls hl => ?_)
                  refine lv_iinc (v := (nI (k + 1))) (lv' := [(4, .int (nI (k + 1))), (3, .int 1), (0, .ref m0), (1, .int (nI j)), (2, .int su_)]) hx hb dX3_canIssue_96 hl (k := 1) rfl (k_inc _) (by decide) rfl (fun ls hl => ?_)
                  refine lv_goto (tgt := 45) hx hb dX3_canIssue_99 (by decide) ?_
                  exact ih_45 (k + 1) 1 _ _ ls (by omega) (by omega) (bI_t (canM_s.mpr ⟨c_53, Or.inl c_62⟩)).symm hP hD hS (lv_sub hl [0, 1, 2, 3, 4] rfl)
                · refine lv_aload_n hx hb dX3_canIssue_65 rfl (lv_at hl 2 rfl) ?_
                  refine va_get (D := D) (ci := 3) (v := .ref m7) (C := RX3) (T := TX3) (N := 22) hx hb hts g_X3 hown hE.1 hP 0 rfl rfl 10 (by decide) f_32 (fun _ h9 => h9) rfl dX3_canIssue_66 ?_
                  refine lv_iload hx hb dX3_canIssue_69 (lv_at hl 0 rfl) ?_
                  refine k_ild hx hb hE.1 hP 7 0 rfl rfl (j := k) (by omega) (by decide) dX3_canIssue_71 ?_
                  refine lv_if_eq (tgt := 90) hx hb dX3_canIssue_72 (by decide) (fun c_72 => ?_) (fun c_72 => ?_)
                  · refine lv_iconst (v := 1) hx hb dX3_canIssue_90 (by decide) ?_
                    refine lv_goto (tgt := 95) hx hb dX3_canIssue_91 (by decide) ?_
                    refine lv_istore_n (lv' := [(3, .int 1), (4, .int (nI k)), (0, .ref m0), (1, .int (nI j)), (2, .int su_)]) hx hb dX3_canIssue_95 rfl hl (by decide) rfl (fun ls hl => ?_)
                    refine lv_iinc (v := (nI (k + 1))) (lv' := [(4, .int (nI (k + 1))), (3, .int 1), (0, .ref m0), (1, .int (nI j)), (2, .int su_)]) hx hb dX3_canIssue_96 hl (k := 1) rfl (k_inc _) (by decide) rfl (fun ls hl => ?_)
                    refine lv_goto (tgt := 45) hx hb dX3_canIssue_99 (by decide) ?_
                    exact ih_45 (k + 1) 1 _ _ ls (by omega) (by omega) (bI_t (canM_s.mpr ⟨c_53, Or.inr (Or.inl c_72)⟩)).symm hP hD hS (lv_sub hl [0, 1, 2, 3, 4] rfl)
                  · refine lv_aload_n hx hb dX3_canIssue_75 rfl (lv_at hl 2 rfl) ?_
                    refine va_get (D := D) (ci := 3) (v := .ref m7) (C := RX3) (T := TX3) (N := 22) hx hb hts g_X3 hown hE.1 hP 0 rfl rfl 10 (by decide) f_32 (fun _ h9 => h9) rfl dX3_canIssue_76 ?_
                    refine lv_iload hx hb dX3_canIssue_79 (lv_at hl 0 rfl) ?_
                    refine k_ild hx hb hE.1 hP 7 0 rfl rfl (j := k) (by omega) (by decide) dX3_canIssue_81 ?_
                    refine lv_iload_n hx hb dX3_canIssue_82 rfl (lv_at hl 3 rfl) ?_
                    refine lv_ishr hx hb dX3_canIssue_83 ?_
                    refine lv_iconst (v := 1) hx hb dX3_canIssue_84 (by decide) ?_
                    refine lv_iand hx hb dX3_canIssue_85 ?_
                    refine lv_iconst (v := 1) hx hb dX3_canIssue_86 (by decide) ?_
                    refine lv_icmp_ne (tgt := 94) hx hb dX3_canIssue_87 (by decide) (fun c_87 => ?_) (fun c_87 => ?_)
                    · refine lv_iconst (v := 0) hx hb dX3_canIssue_94 (by decide) ?_
                      refine lv_istore_n (lv' := [(3, .int 0), (4, .int (nI k)), (0, .ref m0), (1, .int (nI j)), (2, .int su_)]) hx hb dX3_canIssue_95 rfl hl (by decide) rfl (fun ls hl => ?_)
                      refine lv_iinc (v := (nI (k + 1))) (lv' := [(4, .int (nI (k + 1))), (3, .int 0), (0, .ref m0), (1, .int (nI j)), (2, .int su_)]) hx hb dX3_canIssue_96 hl (k := 1) rfl (k_inc _) (by decide) rfl (fun ls hl => ?_)
                      refine lv_goto (tgt := 45) hx hb dX3_canIssue_99 (by decide) ?_
                      exact ih_45 (k + 1) 0 _ _ ls (by omega) (by omega) (bI_f (fun h => (canM_s.mp h).2.elim (fun q => q c_62) (fun q => q.elim c_72 c_87))).symm hP hD hS (lv_sub hl [0, 1, 2, 3, 4] rfl)
                    · refine lv_iconst (v := 1) hx hb dX3_canIssue_90 (by decide) ?_
                      refine lv_goto (tgt := 95) hx hb dX3_canIssue_91 (by decide) ?_
                      refine lv_istore_n (lv' := [(3, .int 1), (4, .int (nI k)), (0, .ref m0), (1, .int (nI j)), (2, .int su_)]) hx hb dX3_canIssue_95 rfl hl (by decide) rfl (fun ls hl => ?_)
                      refine lv_iinc (v := (nI (k + 1))) (lv' := [(4, .int (nI (k + 1))), (3, .int 1), (0, .ref m0), (1, .int (nI j)), (2, .int su_)]) hx hb dX3_canIssue_96 hl (k := 1) rfl (k_inc _) (by decide) rfl (fun ls hl => ?_)
                      refine lv_goto (tgt := 45) hx hb dX3_canIssue_99 (by decide) ?_
                      exact ih_45 (k + 1) 1 _ _ ls (by omega) (by omega) (bI_t (canM_s.mpr ⟨c_53, Or.inr (Or.inr c_87)⟩)).symm hP hD hS (lv_sub hl [0, 1, 2, 3, 4] rfl)
        exact L_45 ((16 - 0) + 1) 0 1 _ _ ls (Nat.lt_succ_self _) (by omega) (bI_t (canM_0.mpr ⟨c_10, c_24, c_33n⟩)).symm hP hD hS (lv_sub hl [0, 1, 2, 3, 4] rfl)
