set_option maxHeartbeats 4000000 in
set_option maxRecDepth 100000 in
theorem c_X2_issuerOf (l : Launch) (D : va_G) (cy : ClassId × ClassId × ClassId) (hfl : l.stackTraces = false) (h pn a0 a1 a2 a3 a4 a5 a6 a7 a8 b0 b1 b2 b3 b4 b5 b6 b7 : Nat) (fs ss fd ed lm dd ce cw : Nat → Int32) (n : Nat) (iss sb fst len off ren que : Nat → Int32) (kc : Nat) (pins : Nat → Int32) (sd dy : Int32) (i_ : Int32) (hc : kc ≤ 60) : kXI l D cy yX2_issuerOf wsX2_issuerOf (krx 7 103) [.ref h, .int i_] (wH cy h pn a0 a1 a2 a3 a4 a5 a6 a7 a8 b0 b1 b2 b3 b4 b5 b6 b7 fs ss fd ed lm dd ce cw n iss sb fst len off ren que kc pins sd dy) (fun (r : Int32) (u : Unit) => r = iss (ix i_) ∧ cdOne kc i_ = 0) (fun _ : Unit => wH cy h pn a0 a1 a2 a3 a4 a5 a6 a7 a8 b0 b1 b2 b3 b4 b5 b6 b7 fs ss fd ed lm dd ce cw n iss sb fst len off ren que kc pins sd dy) (fun E => xkA E (cdOne kc i_)) (wH cy h pn a0 a1 a2 a3 a4 a5 a6 a7 a8 b0 b1 b2 b3 b4 b5 b6 b7 fs ss fd ed lm dd ce cw n iss sb fst len off ren que kc pins sd dy) := by
  refine kXI.of (cc := cX2_issuerOf) (maxL := 2) (rt := .int) (Or.inl rfl) hfl (by decide) rfl rfl (Nat.le_of_ble_eq_true rfl) (Nat.le_of_ble_eq_true rfl) (Nat.le_of_ble_eq_true rfl) ?_
  intro p e s m args below meth c Q A ls hx hb hml hown hts hE hA hP hD hl hZ hret hthrow hout
  have hS : va_S A s.heap s.heap [] := va_S.rf
  have hl : lv_has ls 2 [(0, .ref h), (1, .int i_)] := hl
  have g_X2 : ∀ w ∈ wsX20, w ∈ wsX2_issuerOf := by decide +kernel
  have f_19 := hts (.fieldLink RX2 19 "CertHerd" "certificateTable" "LCertHerd$CertificateTable;") (by decide +kernel)
  have g_X0 : ∀ w ∈ wsX00, w ∈ wsX2_issuerOf := by decide +kernel
  have f_114 := hts (.fieldLink RX2 114 "CertHerd$CertificateTable" "issuerNumbers" "[I") (by decide +kernel)
  refine lv_aload_n hx hb dX2_issuerOf_0 rfl (lv_at hl 0 rfl) ?_
  refine lv_iload_n hx hb dX2_issuerOf_1 rfl (lv_at hl 1 rfl) ?_
  refine kxW_v (n := 1) (wc := wH cy h pn a0 a1 a2 a3 a4 a5 a6 a7 a8 b0 b1 b2 b3 b4 b5 b6 b7 fs ss fd ed lm dd ce cw n iss sb fst len off ren que kc pins sd dy) (As := [.int i_]) (rest := []) ⟨hx, hb, hml, hown, hts⟩ hE hA hZ hP hD hS (c_X2_checkCertificate l D cy hfl h pn a0 a1 a2 a3 a4 a5 a6 a7 a8 b0 b1 b2 b3 b4 b5 b6 b7 fs ss fd ed lm dd ce cw n iss sb fst len off ren que kc pins sd dy i_) (fun _ => rfl) (q0 := 0) (ci := 2) rfl rfl gX2_issuerOf_X2_checkCertificate rfl rfl rfl ⟨rfl, by decide, by decide, by decide +kernel⟩ ⟨Nat.le_of_ble_eq_true rfl, Nat.le_of_ble_eq_true rfl⟩ rfl hl.1 rfl (Nat.le_of_ble_eq_true rfl) dX2_issuerOf_2 ⟨Nat.le_of_ble_eq_true rfl, Nat.le_of_ble_eq_true rfl⟩ (fun E ce q9 H locs hpx hP hS h1 h2 h3 => by obtain ⟨rfl, hb9⟩ := hpx; exact hout _ _ _ _ _ _ ce q9 hS h1 h2 h3 (Or.inl ⟨rfl, by simp [cdOne, hb9]⟩) hP) (fun u H locs e_2 hP hD hS => ?_)
  have hP : va_P D vwCl (wH cy h pn a0 a1 a2 a3 a4 a5 a6 a7 a8 b0 b1 b2 b3 b4 b5 b6 b7 fs ss fd ed lm dd ce cw n iss sb fst len off ren que kc pins sd dy) H := hP
  have hD : va_D A (wH cy h pn a0 a1 a2 a3 a4 a5 a6 a7 a8 b0 b1 b2 b3 b4 b5 b6 b7 fs ss fd ed lm dd ce cw n iss sb fst len off ren que kc pins sd dy) := hD
  have e_2 : badI kc i_ = false := e_2
  have hix_i_ := (badI_ok (i := i_) (by assumption) (by omega)).2
  refine lv_aload_n hx hb dX2_issuerOf_5 rfl (lv_at hl 0 rfl) ?_
  refine va_get (D := D) (ci := 2) (v := .ref b0) (C := RX2) (T := TX2) (N := 5) hx hb hts g_X2 hown hE.1 hP 0 rfl rfl 1 (by decide) f_19 (fun _ h9 => h9) rfl dX2_issuerOf_6 ?_
  refine va_get (D := D) (ci := 0) (v := .ref b1) (C := RX0) (T := TX0) (N := 8) hx hb hts g_X0 hown hE.1 hP 10 rfl rfl 0 (by decide) f_114 (fun _ h9 => h9) rfl dX2_issuerOf_9 ?_
  refine lv_iload_n hx hb dX2_issuerOf_12 rfl (lv_at hl 1 rfl) ?_
  refine k_top (z := nI (ix i_)) (badI_ok (i := i_) (by assumption) (by omega)).1 ?_
  refine k_ild hx hb hE.1 hP 11 0 rfl rfl (j := (ix i_)) (by omega) (by decide) dX2_issuerOf_13 ?_
  exact hret _ _ _ _ (iss (ix i_)) () dX2_issuerOf_14 (Or.inl rfl) (⟨rfl, by simp [cdOne, e_2]⟩) hP hS

set_option maxHeartbeats 4000000 in
set_option maxRecDepth 100000 in
theorem c_X2_renewal (l : Launch) (D : va_G) (cy : ClassId × ClassId × ClassId) (hfl : l.stackTraces = false) (h pn a0 a1 a2 a3 a4 a5 a6 a7 a8 b0 b1 b2 b3 b4 b5 b6 b7 : Nat) (fs ss fd ed lm dd ce cw : Nat → Int32) (n : Nat) (iss sb fst len off ren que : Nat → Int32) (kc : Nat) (pins : Nat → Int32) (sd dy : Int32) (i_ : Int32) (hc : kc ≤ 60) : kXI l D cy yX2_renewal wsX2_renewal (krx 7 103) [.ref h, .int i_] (wH cy h pn a0 a1 a2 a3 a4 a5 a6 a7 a8 b0 b1 b2 b3 b4 b5 b6 b7 fs ss fd ed lm dd ce cw n iss sb fst len off ren que kc pins sd dy) (fun (r : Int32) (u : Unit) => r = ren (ix i_) ∧ cdOne kc i_ = 0) (fun _ : Unit => wH cy h pn a0 a1 a2 a3 a4 a5 a6 a7 a8 b0 b1 b2 b3 b4 b5 b6 b7 fs ss fd ed lm dd ce cw n iss sb fst len off ren que kc pins sd dy) (fun E => xkA E (cdOne kc i_)) (wH cy h pn a0 a1 a2 a3 a4 a5 a6 a7 a8 b0 b1 b2 b3 b4 b5 b6 b7 fs ss fd ed lm dd ce cw n iss sb fst len off ren que kc pins sd dy) := by
  refine kXI.of (cc := cX2_renewal) (maxL := 2) (rt := .int) (Or.inl rfl) hfl (by decide) rfl rfl (Nat.le_of_ble_eq_true rfl) (Nat.le_of_ble_eq_true rfl) (Nat.le_of_ble_eq_true rfl) ?_
  intro p e s m args below meth c Q A ls hx hb hml hown hts hE hA hP hD hl hZ hret hthrow hout
  have hS : va_S A s.heap s.heap [] := va_S.rf
  have hl : lv_has ls 2 [(0, .ref h), (1, .int i_)] := hl
  have g_X2 : ∀ w ∈ wsX20, w ∈ wsX2_renewal := by decide +kernel
  have f_19 := hts (.fieldLink RX2 19 "CertHerd" "certificateTable" "LCertHerd$CertificateTable;") (by decide +kernel)
  have g_X0 : ∀ w ∈ wsX00, w ∈ wsX2_renewal := by decide +kernel
  have f_124 := hts (.fieldLink RX2 124 "CertHerd$CertificateTable" "renewals" "[I") (by decide +kernel)
  refine lv_aload_n hx hb dX2_renewal_0 rfl (lv_at hl 0 rfl) ?_
  refine lv_iload_n hx hb dX2_renewal_1 rfl (lv_at hl 1 rfl) ?_
  refine kxW_v (n := 1) (wc := wH cy h pn a0 a1 a2 a3 a4 a5 a6 a7 a8 b0 b1 b2 b3 b4 b5 b6 b7 fs ss fd ed lm dd ce cw n iss sb fst len off ren que kc pins sd dy) (As := [.int i_]) (rest := []) ⟨hx, hb, hml, hown, hts⟩ hE hA hZ hP hD hS (c_X2_checkCertificate l D cy hfl h pn a0 a1 a2 a3 a4 a5 a6 a7 a8 b0 b1 b2 b3 b4 b5 b6 b7 fs ss fd ed lm dd ce cw n iss sb fst len off ren que kc pins sd dy i_) (fun _ => rfl) (q0 := 0) (ci := 2) rfl rfl gX2_renewal_X2_checkCertificate rfl rfl rfl ⟨rfl, by decide, by decide, by decide +kernel⟩ ⟨Nat.le_of_ble_eq_true rfl, Nat.le_of_ble_eq_true rfl⟩ rfl hl.1 rfl (Nat.le_of_ble_eq_true rfl) dX2_renewal_2 ⟨Nat.le_of_ble_eq_true rfl, Nat.le_of_ble_eq_true rfl⟩ (fun E ce q9 H locs hpx hP hS h1 h2 h3 => by obtain ⟨rfl, hb9⟩ := hpx; exact hout _ _ _ _ _ _ ce q9 hS h1 h2 h3 (Or.inl ⟨rfl, by simp [cdOne, hb9]⟩) hP) (fun u H locs e_2 hP hD hS => ?_)
  have hP : va_P D vwCl (wH cy h pn a0 a1 a2 a3 a4 a5 a6 a7 a8 b0 b1 b2 b3 b4 b5 b6 b7 fs ss fd ed lm dd ce cw n iss sb fst len off ren que kc pins sd dy) H := hP
  have hD : va_D A (wH cy h pn a0 a1 a2 a3 a4 a5 a6 a7 a8 b0 b1 b2 b3 b4 b5 b6 b7 fs ss fd ed lm dd ce cw n iss sb fst len off ren que kc pins sd dy) := hD
  have e_2 : badI kc i_ = false := e_2
  have hix_i_ := (badI_ok (i := i_) (by assumption) (by omega)).2
  refine lv_aload_n hx hb dX2_renewal_5 rfl (lv_at hl 0 rfl) ?_
  refine va_get (D := D) (ci := 2) (v := .ref b0) (C := RX2) (T := TX2) (N := 5) hx hb hts g_X2 hown hE.1 hP 0 rfl rfl 1 (by decide) f_19 (fun _ h9 => h9) rfl dX2_renewal_6 ?_
  refine va_get (D := D) (ci := 0) (v := .ref b6) (C := RX0) (T := TX0) (N := 8) hx hb hts g_X0 hown hE.1 hP 10 rfl rfl 5 (by decide) f_124 (fun _ h9 => h9) rfl dX2_renewal_9 ?_
  refine lv_iload_n hx hb dX2_renewal_12 rfl (lv_at hl 1 rfl) ?_
  refine k_top (z := nI (ix i_)) (badI_ok (i := i_) (by assumption) (by omega)).1 ?_
  refine k_ild hx hb hE.1 hP 16 0 rfl rfl (j := (ix i_)) (by omega) (by decide) dX2_renewal_13 ?_
  exact hret _ _ _ _ (ren (ix i_)) () dX2_renewal_14 (Or.inl rfl) (⟨rfl, by simp [cdOne, e_2]⟩) hP hS

set_option maxHeartbeats 4000000 in
set_option maxRecDepth 100000 in
theorem c_X2_lastDay (l : Launch) (D : va_G) (cy : ClassId × ClassId × ClassId) (hfl : l.stackTraces = false) (h pn a0 a1 a2 a3 a4 a5 a6 a7 a8 b0 b1 b2 b3 b4 b5 b6 b7 : Nat) (fs ss fd ed lm dd ce cw : Nat → Int32) (n : Nat) (iss sb fst len off ren que : Nat → Int32) (kc : Nat) (pins : Nat → Int32) (sd dy : Int32) (i_ : Int32) (hc : kc ≤ 60) : kXI l D cy yX2_lastDay wsX2_lastDay (krx 7 103) [.ref h, .int i_] (wH cy h pn a0 a1 a2 a3 a4 a5 a6 a7 a8 b0 b1 b2 b3 b4 b5 b6 b7 fs ss fd ed lm dd ce cw n iss sb fst len off ren que kc pins sd dy) (fun (r : Int32) (u : Unit) => r = ctEnd fst len (ix i_) ∧ cdOne kc i_ = 0) (fun _ : Unit => wH cy h pn a0 a1 a2 a3 a4 a5 a6 a7 a8 b0 b1 b2 b3 b4 b5 b6 b7 fs ss fd ed lm dd ce cw n iss sb fst len off ren que kc pins sd dy) (fun E => xkA E (cdOne kc i_)) (wH cy h pn a0 a1 a2 a3 a4 a5 a6 a7 a8 b0 b1 b2 b3 b4 b5 b6 b7 fs ss fd ed lm dd ce cw n iss sb fst len off ren que kc pins sd dy) := by
  refine kXI.of (cc := cX2_lastDay) (maxL := 2) (rt := .int) (Or.inl rfl) hfl (by decide) rfl rfl (Nat.le_of_ble_eq_true rfl) (Nat.le_of_ble_eq_true rfl) (Nat.le_of_ble_eq_true rfl) ?_
  intro p e s m args below meth c Q A ls hx hb hml hown hts hE hA hP hD hl hZ hret hthrow hout
  have hS : va_S A s.heap s.heap [] := va_S.rf
  have hl : lv_has ls 2 [(0, .ref h), (1, .int i_)] := hl
  have g_X2 : ∀ w ∈ wsX20, w ∈ wsX2_lastDay := by decide +kernel
  have f_19 := hts (.fieldLink RX2 19 "CertHerd" "certificateTable" "LCertHerd$CertificateTable;") (by decide +kernel)
  refine lv_aload_n hx hb dX2_lastDay_0 rfl (lv_at hl 0 rfl) ?_
  refine lv_iload_n hx hb dX2_lastDay_1 rfl (lv_at hl 1 rfl) ?_
  refine kxW_v (n := 1) (wc := wH cy h pn a0 a1 a2 a3 a4 a5 a6 a7 a8 b0 b1 b2 b3 b4 b5 b6 b7 fs ss fd ed lm dd ce cw n iss sb fst len off ren que kc pins sd dy) (As := [.int i_]) (rest := []) ⟨hx, hb, hml, hown, hts⟩ hE hA hZ hP hD hS (c_X2_checkCertificate l D cy hfl h pn a0 a1 a2 a3 a4 a5 a6 a7 a8 b0 b1 b2 b3 b4 b5 b6 b7 fs ss fd ed lm dd ce cw n iss sb fst len off ren que kc pins sd dy i_) (fun _ => rfl) (q0 := 0) (ci := 2) rfl rfl gX2_lastDay_X2_checkCertificate rfl rfl rfl ⟨rfl, by decide, by decide, by decide +kernel⟩ ⟨Nat.le_of_ble_eq_true rfl, Nat.le_of_ble_eq_true rfl⟩ rfl hl.1 rfl (Nat.le_of_ble_eq_true rfl) dX2_lastDay_2 ⟨Nat.le_of_ble_eq_true rfl, Nat.le_of_ble_eq_true rfl⟩ (fun E ce q9 H locs hpx hP hS h1 h2 h3 => by obtain ⟨rfl, hb9⟩ := hpx; exact hout _ _ _ _ _ _ ce q9 hS h1 h2 h3 (Or.inl ⟨rfl, by simp [cdOne, hb9]⟩) hP) (fun u H locs e_2 hP hD hS => ?_)
  have hP : va_P D vwCl (wH cy h pn a0 a1 a2 a3 a4 a5 a6 a7 a8 b0 b1 b2 b3 b4 b5 b6 b7 fs ss fd ed lm dd ce cw n iss sb fst len off ren que kc pins sd dy) H := hP
  have hD : va_D A (wH cy h pn a0 a1 a2 a3 a4 a5 a6 a7 a8 b0 b1 b2 b3 b4 b5 b6 b7 fs ss fd ed lm dd ce cw n iss sb fst len off ren que kc pins sd dy) := hD
  have e_2 : badI kc i_ = false := e_2
  have hix_i_ := (badI_ok (i := i_) (by assumption) (by omega)).2
  refine lv_aload_n hx hb dX2_lastDay_5 rfl (lv_at hl 0 rfl) ?_
  refine va_get (D := D) (ci := 2) (v := .ref b0) (C := RX2) (T := TX2) (N := 5) hx hb hts g_X2 hown hE.1 hP 0 rfl rfl 1 (by decide) f_19 (fun _ h9 => h9) rfl dX2_lastDay_6 ?_
  refine lv_iload_n hx hb dX2_lastDay_9 rfl (lv_at hl 1 rfl) ?_
  refine k_top (z := nI (ix i_)) (badI_ok (i := i_) (by assumption) (by omega)).1 ?_
  refine kcV_i (n := 1) (X := (h, .inr (2, [.ref a0, .ref b0, .ref pn, .int sd, .int dy])) :: wT cy a0 a1 a2 a3 a4 a5 a6 a7 a8 fs ss fd ed lm dd ce cw n) (wc := wC cy b0 b1 b2 b3 b4 b5 b6 b7 iss sb fst len off ren que kc) (Y := [(pn, .inl (cy.1, 16, .inl pins))]) (As := [.int (nI (ix i_))]) (rest := []) ⟨hx, hb, hml, hown, hts⟩ hE hA hP hD hS (c_X0_endOf l D cy b0 b1 b2 b3 b4 b5 b6 b7 iss sb fst len off ren que kc (ix i_) (by first | assumption | omega)) (fun _ => rfl) (q0 := 0) (ci := 0) rfl rfl gX2_lastDay_X0_endOf rfl rfl rfl ⟨rfl, by decide, by decide, by decide +kernel⟩ ⟨Nat.le_of_ble_eq_true rfl, Nat.le_of_ble_eq_true rfl⟩ rfl hl.1 rfl (Nat.le_of_ble_eq_true rfl) dX2_lastDay_10 ⟨Nat.zero_le _, Nat.zero_le _⟩ (fun r_3 u H locs e_4 hP hD hS => ?_)
  have hP : va_P D vwCl (wH cy h pn a0 a1 a2 a3 a4 a5 a6 a7 a8 b0 b1 b2 b3 b4 b5 b6 b7 fs ss fd ed lm dd ce cw n iss sb fst len off ren que kc pins sd dy) H := hP
  have hD : va_D A (wH cy h pn a0 a1 a2 a3 a4 a5 a6 a7 a8 b0 b1 b2 b3 b4 b5 b6 b7 fs ss fd ed lm dd ce cw n iss sb fst len off ren que kc pins sd dy) := hD
  have e_4 : r_3 = ctEnd fst len (ix i_) := e_4
  subst e_4
  exact hret _ _ _ _ (ctEnd fst len (ix i_)) () dX2_lastDay_13 (Or.inl rfl) (⟨rfl, by simp [cdOne, e_2]⟩) hP hS

set_option maxHeartbeats 4000000 in
set_option maxRecDepth 100000 in
theorem c_X2_dueOn (l : Launch) (D : va_G) (cy : ClassId × ClassId × ClassId) (hfl : l.stackTraces = false) (h pn a0 a1 a2 a3 a4 a5 a6 a7 a8 b0 b1 b2 b3 b4 b5 b6 b7 : Nat) (fs ss fd ed lm dd ce cw : Nat → Int32) (n : Nat) (iss sb fst len off ren que : Nat → Int32) (kc : Nat) (pins : Nat → Int32) (sd dy : Int32) (i_ : Int32) (hc : kc ≤ 60) : kXI l D cy yX2_dueOn wsX2_dueOn (krx 7 103) [.ref h, .int i_] (wH cy h pn a0 a1 a2 a3 a4 a5 a6 a7 a8 b0 b1 b2 b3 b4 b5 b6 b7 fs ss fd ed lm dd ce cw n iss sb fst len off ren que kc pins sd dy) (fun (r : Int32) (u : Unit) => r = ctDue fst len off (ix i_) ∧ cdOne kc i_ = 0) (fun _ : Unit => wH cy h pn a0 a1 a2 a3 a4 a5 a6 a7 a8 b0 b1 b2 b3 b4 b5 b6 b7 fs ss fd ed lm dd ce cw n iss sb fst len off ren que kc pins sd dy) (fun E => xkA E (cdOne kc i_)) (wH cy h pn a0 a1 a2 a3 a4 a5 a6 a7 a8 b0 b1 b2 b3 b4 b5 b6 b7 fs ss fd ed lm dd ce cw n iss sb fst len off ren que kc pins sd dy) := by
  refine kXI.of (cc := cX2_dueOn) (maxL := 2) (rt := .int) (Or.inl rfl) hfl (by decide) rfl rfl (Nat.le_of_ble_eq_true rfl) (Nat.le_of_ble_eq_true rfl) (Nat.le_of_ble_eq_true rfl) ?_
  intro p e s m args below meth c Q A ls hx hb hml hown hts hE hA hP hD hl hZ hret hthrow hout
  have hS : va_S A s.heap s.heap [] := va_S.rf
  have hl : lv_has ls 2 [(0, .ref h), (1, .int i_)] := hl
  have g_X2 : ∀ w ∈ wsX20, w ∈ wsX2_dueOn := by decide +kernel
  have f_19 := hts (.fieldLink RX2 19 "CertHerd" "certificateTable" "LCertHerd$CertificateTable;") (by decide +kernel)
  refine lv_aload_n hx hb dX2_dueOn_0 rfl (lv_at hl 0 rfl) ?_
  refine lv_iload_n hx hb dX2_dueOn_1 rfl (lv_at hl 1 rfl) ?_
  refine kxW_v (n := 1) (wc := wH cy h pn a0 a1 a2 a3 a4 a5 a6 a7 a8 b0 b1 b2 b3 b4 b5 b6 b7 fs ss fd ed lm dd ce cw n iss sb fst len off ren que kc pins sd dy) (As := [.int i_]) (rest := []) ⟨hx, hb, hml, hown, hts⟩ hE hA hZ hP hD hS (c_X2_checkCertificate l D cy hfl h pn a0 a1 a2 a3 a4 a5 a6 a7 a8 b0 b1 b2 b3 b4 b5 b6 b7 fs ss fd ed lm dd ce cw n iss sb fst len off ren que kc pins sd dy i_) (fun _ => rfl) (q0 := 0) (ci := 2) rfl rfl gX2_dueOn_X2_checkCertificate rfl rfl rfl ⟨rfl, by decide, by decide, by decide +kernel⟩ ⟨Nat.le_of_ble_eq_true rfl, Nat.le_of_ble_eq_true rfl⟩ rfl hl.1 rfl (Nat.le_of_ble_eq_true rfl) dX2_dueOn_2 ⟨Nat.le_of_ble_eq_true rfl, Nat.le_of_ble_eq_true rfl⟩ (fun E ce q9 H locs hpx hP hS h1 h2 h3 => by obtain ⟨rfl, hb9⟩ := hpx; exact hout _ _ _ _ _ _ ce q9 hS h1 h2 h3 (Or.inl ⟨rfl, by simp [cdOne, hb9]⟩) hP) (fun u H locs e_2 hP hD hS => ?_)
  have hP : va_P D vwCl (wH cy h pn a0 a1 a2 a3 a4 a5 a6 a7 a8 b0 b1 b2 b3 b4 b5 b6 b7 fs ss fd ed lm dd ce cw n iss sb fst len off ren que kc pins sd dy) H := hP
  have hD : va_D A (wH cy h pn a0 a1 a2 a3 a4 a5 a6 a7 a8 b0 b1 b2 b3 b4 b5 b6 b7 fs ss fd ed lm dd ce cw n iss sb fst len off ren que kc pins sd dy) := hD
  have e_2 : badI kc i_ = false := e_2
  have hix_i_ := (badI_ok (i := i_) (by assumption) (by omega)).2
  refine lv_aload_n hx hb dX2_dueOn_5 rfl (lv_at hl 0 rfl) ?_
  refine va_get (D := D) (ci := 2) (v := .ref b0) (C := RX2) (T := TX2) (N := 5) hx hb hts g_X2 hown hE.1 hP 0 rfl rfl 1 (by decide) f_19 (fun _ h9 => h9) rfl dX2_dueOn_6 ?_
  refine lv_iload_n hx hb dX2_dueOn_9 rfl (lv_at hl 1 rfl) ?_
  refine k_top (z := nI (ix i_)) (badI_ok (i := i_) (by assumption) (by omega)).1 ?_
  refine kcV_i (n := 1) (X := (h, .inr (2, [.ref a0, .ref b0, .ref pn, .int sd, .int dy])) :: wT cy a0 a1 a2 a3 a4 a5 a6 a7 a8 fs ss fd ed lm dd ce cw n) (wc := wC cy b0 b1 b2 b3 b4 b5 b6 b7 iss sb fst len off ren que kc) (Y := [(pn, .inl (cy.1, 16, .inl pins))]) (As := [.int (nI (ix i_))]) (rest := []) ⟨hx, hb, hml, hown, hts⟩ hE hA hP hD hS (c_X0_dueDayOf l D cy b0 b1 b2 b3 b4 b5 b6 b7 iss sb fst len off ren que kc (ix i_) (by first | assumption | omega)) (fun _ => rfl) (q0 := 0) (ci := 0) rfl rfl gX2_dueOn_X0_dueDayOf rfl rfl rfl ⟨rfl, by decide, by decide, by decide +kernel⟩ ⟨Nat.le_of_ble_eq_true rfl, Nat.le_of_ble_eq_true rfl⟩ rfl hl.1 rfl (Nat.le_of_ble_eq_true rfl) dX2_dueOn_10 ⟨Nat.zero_le _, Nat.zero_le _⟩ (fun r_3 u H locs e_4 hP hD hS => ?_)
  have hP : va_P D vwCl (wH cy h pn a0 a1 a2 a3 a4 a5 a6 a7 a8 b0 b1 b2 b3 b4 b5 b6 b7 fs ss fd ed lm dd ce cw n iss sb fst len off ren que kc pins sd dy) H := hP
  have hD : va_D A (wH cy h pn a0 a1 a2 a3 a4 a5 a6 a7 a8 b0 b1 b2 b3 b4 b5 b6 b7 fs ss fd ed lm dd ce cw n iss sb fst len off ren que kc pins sd dy) := hD
  have e_4 : r_3 = ctDue fst len off (ix i_) := e_4
  subst e_4
  exact hret _ _ _ _ (ctDue fst len off (ix i_)) () dX2_dueOn_13 (Or.inl rfl) (⟨rfl, by simp [cdOne, e_2]⟩) hP hS

set_option maxHeartbeats 4000000 in
set_option maxRecDepth 100000 in
theorem c_X2_waiting (l : Launch) (D : va_G) (cy : ClassId × ClassId × ClassId) (h pn a0 a1 a2 a3 a4 a5 a6 a7 a8 b0 b1 b2 b3 b4 b5 b6 b7 : Nat) (fs ss fd ed lm dd ce cw : Nat → Int32) (n : Nat) (iss sb fst len off ren que : Nat → Int32) (kc : Nat) (pins : Nat → Int32) (sd dy : Int32) (hc : kc ≤ 60) : kI l D cy yX2_waiting wsX2_waiting (krm 3 67) [.ref h] (wH cy h pn a0 a1 a2 a3 a4 a5 a6 a7 a8 b0 b1 b2 b3 b4 b5 b6 b7 fs ss fd ed lm dd ce cw n iss sb fst len off ren que kc pins sd dy) (fun (r : Int32) (u : Unit) => r = nI (fqS fst len off ren dy que kc)) (fun _ : Unit => wH cy h pn a0 a1 a2 a3 a4 a5 a6 a7 a8 b0 b1 b2 b3 b4 b5 b6 b7 fs ss fd ed lm dd ce cw n iss sb fst len off ren (fqQ fst len off ren dy que kc) kc pins sd dy) := by
  refine kI.of (cc := cX2_waiting) (maxL := 1) (rt := .int) (Or.inl rfl) (by decide) rfl (Nat.le_of_ble_eq_true rfl) ?_
  intro p e s m args below meth c Q A ls hx hb hml hown hts hE hA hP hD hl hret
  have hS : va_S A s.heap s.heap [] := va_S.rf
  have hl : lv_has ls 1 [(0, .ref h)] := hl
  have g_X2 : ∀ w ∈ wsX20, w ∈ wsX2_waiting := by decide +kernel
  have f_19 := hts (.fieldLink RX2 19 "CertHerd" "certificateTable" "LCertHerd$CertificateTable;") (by decide +kernel)
  have f_31 := hts (.fieldLink RX2 31 "CertHerd" "dayNow" "I") (by decide +kernel)
  refine lv_aload_n hx hb dX2_waiting_0 rfl (lv_at hl 0 rfl) ?_
  refine va_get (D := D) (ci := 2) (v := .ref b0) (C := RX2) (T := TX2) (N := 5) hx hb hts g_X2 hown hE.1 hP 0 rfl rfl 1 (by decide) f_19 (fun _ h9 => h9) rfl dX2_waiting_1 ?_
  refine lv_aload_n hx hb dX2_waiting_4 rfl (lv_at hl 0 rfl) ?_
  refine va_get (D := D) (ci := 2) (v := .int dy) (C := RX2) (T := TX2) (N := 5) hx hb hts g_X2 hown hE.1 hP 0 rfl rfl 4 (by decide) f_31 (fun _ h9 => h9) rfl dX2_waiting_5 ?_
  refine kcV_i (n := 1) (X := (h, .inr (2, [.ref a0, .ref b0, .ref pn, .int sd, .int dy])) :: wT cy a0 a1 a2 a3 a4 a5 a6 a7 a8 fs ss fd ed lm dd ce cw n) (wc := wC cy b0 b1 b2 b3 b4 b5 b6 b7 iss sb fst len off ren que kc) (Y := [(pn, .inl (cy.1, 16, .inl pins))]) (As := [.int dy]) (rest := []) ⟨hx, hb, hml, hown, hts⟩ hE hA hP hD hS (c_X0_fillQueue l D cy b0 b1 b2 b3 b4 b5 b6 b7 iss sb fst len off ren que kc dy (by first | assumption | omega)) (fun _ => Eq.trans (b := [b0, b1, b2, b3, b4, b5, b6, b7]) rfl rfl) (q0 := 0) (ci := 0) rfl rfl gX2_waiting_X0_fillQueue rfl rfl rfl ⟨rfl, by decide, by decide, by decide +kernel⟩ ⟨Nat.le_of_ble_eq_true rfl, Nat.le_of_ble_eq_true rfl⟩ rfl hl.1 rfl (Nat.le_of_ble_eq_true rfl) dX2_waiting_8 ⟨Nat.zero_le _, Nat.zero_le _⟩ (fun r_1 u H locs e_2 hP hD hS => ?_)
  have hP : va_P D vwCl (wH cy h pn a0 a1 a2 a3 a4 a5 a6 a7 a8 b0 b1 b2 b3 b4 b5 b6 b7 fs ss fd ed lm dd ce cw n iss sb fst len off ren (fqQ fst len off ren dy que kc) kc pins sd dy) H := hP
  have hD : va_D A (wH cy h pn a0 a1 a2 a3 a4 a5 a6 a7 a8 b0 b1 b2 b3 b4 b5 b6 b7 fs ss fd ed lm dd ce cw n iss sb fst len off ren (fqQ fst len off ren dy que kc) kc pins sd dy) := hD
  have e_2 : r_1 = nI (fqS fst len off ren dy que kc) := e_2
  subst e_2
  exact hret _ _ _ _ (nI (fqS fst len off ren dy que kc)) () dX2_waiting_11 (Or.inl rfl) rfl hP hS

set_option maxHeartbeats 4000000 in
set_option maxRecDepth 100000 in
theorem c_X2_waitingAt (l : Launch) (D : va_G) (cy : ClassId × ClassId × ClassId) (hfl : l.stackTraces = false) (h pn a0 a1 a2 a3 a4 a5 a6 a7 a8 b0 b1 b2 b3 b4 b5 b6 b7 : Nat) (fs ss fd ed lm dd ce cw : Nat → Int32) (n : Nat) (iss sb fst len off ren que : Nat → Int32) (kc : Nat) (pins : Nat → Int32) (sd dy : Int32) (p_ : Int32) (hc : kc ≤ 60) : kXI l D cy yX2_waitingAt wsX2_waitingAt (krx 6 82) [.ref h, .int p_] (wH cy h pn a0 a1 a2 a3 a4 a5 a6 a7 a8 b0 b1 b2 b3 b4 b5 b6 b7 fs ss fd ed lm dd ce cw n iss sb fst len off ren que kc pins sd dy) (fun (r : Int32) (u : Unit) => r = fqQ fst len off ren dy que kc (ix p_) ∧ cdOne (fqS fst len off ren dy que kc) p_ = 0) (fun _ : Unit => wH cy h pn a0 a1 a2 a3 a4 a5 a6 a7 a8 b0 b1 b2 b3 b4 b5 b6 b7 fs ss fd ed lm dd ce cw n iss sb fst len off ren (fqQ fst len off ren dy que kc) kc pins sd dy) (fun E => xkA E (cdOne (fqS fst len off ren dy que kc) p_)) (wH cy h pn a0 a1 a2 a3 a4 a5 a6 a7 a8 b0 b1 b2 b3 b4 b5 b6 b7 fs ss fd ed lm dd ce cw n iss sb fst len off ren (fqQ fst len off ren dy que kc) kc pins sd dy) := by
  refine kXI.of (cc := cX2_waitingAt) (maxL := 3) (rt := .int) (Or.inl rfl) hfl (by decide) rfl rfl (Nat.le_of_ble_eq_true rfl) (Nat.le_of_ble_eq_true rfl) (Nat.le_of_ble_eq_true rfl) ?_
  intro p e s m args below meth c Q A ls hx hb hml hown hts hE hA hP hD hl hZ hret hthrow hout
  have hS : va_S A s.heap s.heap [] := va_S.rf
  have hl : lv_has ls 3 [(0, .ref h), (1, .int p_)] := hl
  have g_X2 : ∀ w ∈ wsX20, w ∈ wsX2_waitingAt := by decide +kernel
  have f_19 := hts (.fieldLink RX2 19 "CertHerd" "certificateTable" "LCertHerd$CertificateTable;") (by decide +kernel)
  have f_31 := hts (.fieldLink RX2 31 "CertHerd" "dayNow" "I") (by decide +kernel)
  have g_X0 : ∀ w ∈ wsX00, w ∈ wsX2_waitingAt := by decide +kernel
  have f_135 := hts (.fieldLink RX2 135 "CertHerd$CertificateTable" "queue" "[I") (by decide +kernel)
  have hw_134 : ∀ w ∈ Cond.classLink RX2 130 xIX :: Cond.initialized xIX :: (vx_atS RX2 134 xIX kNms).filter goodWord, w ∈ wsX2_waitingAt := by decide +kernel
  refine lv_aload_n hx hb dX2_waitingAt_0 rfl (lv_at hl 0 rfl) ?_
  refine va_get (D := D) (ci := 2) (v := .ref b0) (C := RX2) (T := TX2) (N := 5) hx hb hts g_X2 hown hE.1 hP 0 rfl rfl 1 (by decide) f_19 (fun _ h9 => h9) rfl dX2_waitingAt_1 ?_
  refine lv_aload_n hx hb dX2_waitingAt_4 rfl (lv_at hl 0 rfl) ?_
  refine va_get (D := D) (ci := 2) (v := .int dy) (C := RX2) (T := TX2) (N := 5) hx hb hts g_X2 hown hE.1 hP 0 rfl rfl 4 (by decide) f_31 (fun _ h9 => h9) rfl dX2_waitingAt_5 ?_
  refine kcV_i (n := 1) (X := (h, .inr (2, [.ref a0, .ref b0, .ref pn, .int sd, .int dy])) :: wT cy a0 a1 a2 a3 a4 a5 a6 a7 a8 fs ss fd ed lm dd ce cw n) (wc := wC cy b0 b1 b2 b3 b4 b5 b6 b7 iss sb fst len off ren que kc) (Y := [(pn, .inl (cy.1, 16, .inl pins))]) (As := [.int dy]) (rest := []) ⟨hx, hb, hml, hown, hts⟩ hE hA hP hD hS (c_X0_fillQueue l D cy b0 b1 b2 b3 b4 b5 b6 b7 iss sb fst len off ren que kc dy (by first | assumption | omega)) (fun _ => Eq.trans (b := [b0, b1, b2, b3, b4, b5, b6, b7]) rfl rfl) (q0 := 0) (ci := 0) rfl rfl gX2_waitingAt_X0_fillQueue rfl rfl rfl ⟨rfl, by decide, by decide, by decide +kernel⟩ ⟨Nat.le_of_ble_eq_true rfl, Nat.le_of_ble_eq_true rfl⟩ rfl hl.1 rfl (Nat.le_of_ble_eq_true rfl) dX2_waitingAt_8 ⟨Nat.zero_le _, Nat.zero_le _⟩ (fun r_1 u H locs e_2 hP hD hS => ?_)
  have hP : va_P D vwCl (wH cy h pn a0 a1 a2 a3 a4 a5 a6 a7 a8 b0 b1 b2 b3 b4 b5 b6 b7 fs ss fd ed lm dd ce cw n iss sb fst len off ren (fqQ fst len off ren dy que kc) kc pins sd dy) H := hP
  have hD : va_D A (wH cy h pn a0 a1 a2 a3 a4 a5 a6 a7 a8 b0 b1 b2 b3 b4 b5 b6 b7 fs ss fd ed lm dd ce cw n iss sb fst len off ren (fqQ fst len off ren dy que kc) kc pins sd dy) := hD
  have e_2 : r_1 = nI (fqS fst len off ren dy que kc) := e_2
  subst e_2
  refine lv_istore_n (lv' := [(2, .int (nI (fqS fst len off ren dy que kc))), (0, .ref h), (1, .int p_)]) hx hb dX2_waitingAt_11 rfl hl (by decide) rfl (fun ls hl => ?_)
  refine lv_iload_n hx hb dX2_waitingAt_12 rfl (lv_at hl 2 rfl) ?_
  refine lv_if_lt (tgt := 21) hx hb dX2_waitingAt_13 (by decide) (fun c_13 => ?_) (fun c_13 => ?_)
  · exact hthrow _ _ _ ls [] xIX "no such place" 130 132 134 hS (by rw [hml]; exact hl.1) (by decide) (by decide) hw_134 dX2_waitingAt_21 dX2_waitingAt_24 dX2_waitingAt_25 dX2_waitingAt_27 dX2_waitingAt_30 (by decide) (Nat.le_of_ble_eq_true rfl) (Or.inl ⟨rfl, by simp [cdOne, c_13, badI]⟩) hP
  · refine lv_iload_n hx hb dX2_waitingAt_16 rfl (lv_at hl 2 rfl) ?_
    refine lv_iload_n hx hb dX2_waitingAt_17 rfl (lv_at hl 0 rfl) ?_
    refine lv_icmp_lt (tgt := 31) hx hb dX2_waitingAt_18 (by decide) (fun c_18 => ?_) (fun c_18 => ?_)
    · have hbd : badI (fqS fst len off ren dy que kc) p_ = false := by simp [badI, c_13, c_18]
      have hfq := (fq_ok fst len off ren dy que kc (by omega)).1
      have hix_p_ := (badI_ok hbd (by omega)).2
      refine lv_aload_n hx hb dX2_waitingAt_31 rfl (lv_at hl 1 rfl) ?_
      refine va_get (D := D) (ci := 2) (v := .ref b0) (C := RX2) (T := TX2) (N := 5) hx hb hts g_X2 hown hE.1 hP 0 rfl rfl 1 (by decide) f_19 (fun _ h9 => h9) rfl dX2_waitingAt_32 ?_
      refine va_get (D := D) (ci := 0) (v := .ref b7) (C := RX0) (T := TX0) (N := 8) hx hb hts g_X0 hown hE.1 hP 10 rfl rfl 6 (by decide) f_135 (fun _ h9 => h9) rfl dX2_waitingAt_35 ?_
      refine lv_iload_n hx hb dX2_waitingAt_38 rfl (lv_at hl 2 rfl) ?_
      refine k_top (z := nI (ix p_)) (badI_ok hbd (by omega)).1 ?_
      refine k_ild hx hb hE.1 hP 17 0 rfl rfl (j := (ix p_)) (by omega) (by decide) dX2_waitingAt_39 ?_
      exact hret _ _ _ _ ((fqQ fst len off ren dy que kc) (ix p_)) () dX2_waitingAt_40 (Or.inl rfl) (⟨rfl, by simp [cdOne, c_13, c_18, badI]⟩) hP hS
    · exact hthrow _ _ _ ls [] xIX "no such place" 130 132 134 hS (by rw [hml]; exact hl.1) (by decide) (by decide) hw_134 dX2_waitingAt_21 dX2_waitingAt_24 dX2_waitingAt_25 dX2_waitingAt_27 dX2_waitingAt_30 (by decide) (Nat.le_of_ble_eq_true rfl) (Or.inl ⟨rfl, by simp [cdOne, c_13, c_18, badI]⟩) hP

set_option maxHeartbeats 4000000 in
set_option maxRecDepth 100000 in
theorem c_X2_room (l : Launch) (D : va_G) (cy : ClassId × ClassId × ClassId) (hfl : l.stackTraces = false) (h pn a0 a1 a2 a3 a4 a5 a6 a7 a8 b0 b1 b2 b3 b4 b5 b6 b7 : Nat) (fs ss fd ed lm dd ce cw : Nat → Int32) (n : Nat) (iss sb fst len off ren que : Nat → Int32) (kc : Nat) (pins : Nat → Int32) (sd dy : Int32) (i_ : Int32) (hn : n ≤ 8) (hc : kc ≤ 60) : kXI l D cy yX2_room wsX2_room (krx 7 103) [.ref h, .int i_] (wH cy h pn a0 a1 a2 a3 a4 a5 a6 a7 a8 b0 b1 b2 b3 b4 b5 b6 b7 fs ss fd ed lm dd ce cw n iss sb fst len off ren que kc pins sd dy) (fun (r : Int32) (u : Unit) => r = lm (ix i_) - iwN iss fst (nI (ix i_)) (dy / 7) kc ∧ cdOne n i_ = 0) (fun _ : Unit => wH cy h pn a0 a1 a2 a3 a4 a5 a6 a7 a8 b0 b1 b2 b3 b4 b5 b6 b7 fs ss fd ed lm dd ce cw n iss sb fst len off ren que kc pins sd dy) (fun E => xkA E (cdOne n i_)) (wH cy h pn a0 a1 a2 a3 a4 a5 a6 a7 a8 b0 b1 b2 b3 b4 b5 b6 b7 fs ss fd ed lm dd ce cw n iss sb fst len off ren que kc pins sd dy) := by
  refine kXI.of (cc := cX2_room) (maxL := 2) (rt := .int) (Or.inl rfl) hfl (by decide) rfl rfl (Nat.le_of_ble_eq_true rfl) (Nat.le_of_ble_eq_true rfl) (Nat.le_of_ble_eq_true rfl) ?_
  intro p e s m args below meth c Q A ls hx hb hml hown hts hE hA hP hD hl hZ hret hthrow hout
  have hS : va_S A s.heap s.heap [] := va_S.rf
  have hl : lv_has ls 2 [(0, .ref h), (1, .int i_)] := hl
  refine lv_aload_n hx hb dX2_room_0 rfl (lv_at hl 0 rfl) ?_
  refine lv_iload_n hx hb dX2_room_1 rfl (lv_at hl 1 rfl) ?_
  refine kxW_v (n := 1) (wc := wH cy h pn a0 a1 a2 a3 a4 a5 a6 a7 a8 b0 b1 b2 b3 b4 b5 b6 b7 fs ss fd ed lm dd ce cw n iss sb fst len off ren que kc pins sd dy) (As := [.int i_]) (rest := []) ⟨hx, hb, hml, hown, hts⟩ hE hA hZ hP hD hS (c_X2_checkIssuer l D cy hfl h pn a0 a1 a2 a3 a4 a5 a6 a7 a8 b0 b1 b2 b3 b4 b5 b6 b7 fs ss fd ed lm dd ce cw n iss sb fst len off ren que kc pins sd dy i_) (fun _ => rfl) (q0 := 0) (ci := 2) rfl rfl gX2_room_X2_checkIssuer rfl rfl rfl ⟨rfl, by decide, by decide, by decide +kernel⟩ ⟨Nat.le_of_ble_eq_true rfl, Nat.le_of_ble_eq_true rfl⟩ rfl hl.1 rfl (Nat.le_of_ble_eq_true rfl) dX2_room_2 ⟨Nat.le_of_ble_eq_true rfl, Nat.le_of_ble_eq_true rfl⟩ (fun E ce q9 H locs hpx hP hS h1 h2 h3 => by obtain ⟨rfl, hb9⟩ := hpx; exact hout _ _ _ _ _ _ ce q9 hS h1 h2 h3 (Or.inl ⟨rfl, by simp [cdOne, hb9]⟩) hP) (fun u H locs e_2 hP hD hS => ?_)
  have hP : va_P D vwCl (wH cy h pn a0 a1 a2 a3 a4 a5 a6 a7 a8 b0 b1 b2 b3 b4 b5 b6 b7 fs ss fd ed lm dd ce cw n iss sb fst len off ren que kc pins sd dy) H := hP
  have hD : va_D A (wH cy h pn a0 a1 a2 a3 a4 a5 a6 a7 a8 b0 b1 b2 b3 b4 b5 b6 b7 fs ss fd ed lm dd ce cw n iss sb fst len off ren que kc pins sd dy) := hD
  have e_2 : badI n i_ = false := e_2
  have hix_i_ := (badI_ok (i := i_) (by assumption) (by omega)).2
  refine lv_aload_n hx hb dX2_room_5 rfl (lv_at hl 0 rfl) ?_
  refine lv_iload_n hx hb dX2_room_6 rfl (lv_at hl 1 rfl) ?_
  refine k_top (z := nI (ix i_)) (badI_ok (i := i_) (by assumption) (by omega)).1 ?_
  refine kcW_i (n := 1) (wc := wH cy h pn a0 a1 a2 a3 a4 a5 a6 a7 a8 b0 b1 b2 b3 b4 b5 b6 b7 fs ss fd ed lm dd ce cw n iss sb fst len off ren que kc pins sd dy) (As := [.int (nI (ix i_))]) (rest := []) ⟨hx, hb, hml, hown, hts⟩ hE hA hP hD hS (c_X2_roomThisWeek l D cy h pn a0 a1 a2 a3 a4 a5 a6 a7 a8 b0 b1 b2 b3 b4 b5 b6 b7 fs ss fd ed lm dd ce cw n iss sb fst len off ren que kc pins sd dy (ix i_) (by first | assumption | omega) (by first | assumption | omega)) (fun _ => rfl) (q0 := 0) (ci := 2) rfl rfl gX2_room_X2_roomThisWeek rfl rfl rfl ⟨rfl, by decide, by decide, by decide +kernel⟩ ⟨Nat.le_of_ble_eq_true rfl, Nat.le_of_ble_eq_true rfl⟩ rfl hl.1 rfl (Nat.le_of_ble_eq_true rfl) dX2_room_7 ⟨Nat.zero_le _, Nat.zero_le _⟩ (fun r_3 u H locs e_4 hP hD hS => ?_)
  have hP : va_P D vwCl (wH cy h pn a0 a1 a2 a3 a4 a5 a6 a7 a8 b0 b1 b2 b3 b4 b5 b6 b7 fs ss fd ed lm dd ce cw n iss sb fst len off ren que kc pins sd dy) H := hP
  have hD : va_D A (wH cy h pn a0 a1 a2 a3 a4 a5 a6 a7 a8 b0 b1 b2 b3 b4 b5 b6 b7 fs ss fd ed lm dd ce cw n iss sb fst len off ren que kc pins sd dy) := hD
  have e_4 : r_3 = lm (ix i_) - iwN iss fst (nI (ix i_)) (dy / 7) kc := e_4
  subst e_4
  exact hret _ _ _ _ (lm (ix i_) - iwN iss fst (nI (ix i_)) (dy / 7) kc) () dX2_room_10 (Or.inl rfl) (⟨rfl, by simp [cdOne, e_2]⟩) hP hS

set_option maxHeartbeats 4000000 in
set_option maxRecDepth 100000 in
theorem c_X2_isGood (l : Launch) (D : va_G) (cy : ClassId × ClassId × ClassId) (hfl : l.stackTraces = false) (h pn a0 a1 a2 a3 a4 a5 a6 a7 a8 b0 b1 b2 b3 b4 b5 b6 b7 : Nat) (fs ss fd ed lm dd ce cw : Nat → Int32) (n : Nat) (iss sb fst len off ren que : Nat → Int32) (kc : Nat) (pins : Nat → Int32) (sd dy : Int32) (i_ : Int32) (d_ : Int32) (hn : n ≤ 8) : kXI l D cy yX2_isGood wsX2_isGood (krx 7 103) [.ref h, .int i_, .int d_] (wH cy h pn a0 a1 a2 a3 a4 a5 a6 a7 a8 b0 b1 b2 b3 b4 b5 b6 b7 fs ss fd ed lm dd ce cw n iss sb fst len off ren que kc pins sd dy) (fun (r : Int32) (u : Unit) => r = bI (hasB (goodM fs ss fd ed dd d_ (-1) n) i_) ∧ cdID n i_ d_ = 0) (fun _ : Unit => wH cy h pn a0 a1 a2 a3 a4 a5 a6 a7 a8 b0 b1 b2 b3 b4 b5 b6 b7 fs ss fd ed lm dd ce cw n iss sb fst len off ren que kc pins sd dy) (fun E => xkA E (cdID n i_ d_)) (wH cy h pn a0 a1 a2 a3 a4 a5 a6 a7 a8 b0 b1 b2 b3 b4 b5 b6 b7 fs ss fd ed lm dd ce cw n iss sb fst len off ren que kc pins sd dy) := by
  refine kXI.of (cc := cX2_isGood) (maxL := 3) (rt := .boolean) (Or.inr rfl) hfl (by decide) rfl rfl (Nat.le_of_ble_eq_true rfl) (Nat.le_of_ble_eq_true rfl) (Nat.le_of_ble_eq_true rfl) ?_
  intro p e s m args below meth c Q A ls hx hb hml hown hts hE hA hP hD hl hZ hret hthrow hout
  have hS : va_S A s.heap s.heap [] := va_S.rf
  have hl : lv_has ls 3 [(0, .ref h), (1, .int i_), (2, .int d_)] := hl
  have g_X2 : ∀ w ∈ wsX20, w ∈ wsX2_isGood := by decide +kernel
  have f_10 := hts (.fieldLink RX2 10 "CertHerd" "issuerTable" "LCertHerd$IssuerTable;") (by decide +kernel)
  refine lv_aload_n hx hb dX2_isGood_0 rfl (lv_at hl 0 rfl) ?_
  refine lv_iload_n hx hb dX2_isGood_1 rfl (lv_at hl 1 rfl) ?_
  refine kxW_v (n := 1) (wc := wH cy h pn a0 a1 a2 a3 a4 a5 a6 a7 a8 b0 b1 b2 b3 b4 b5 b6 b7 fs ss fd ed lm dd ce cw n iss sb fst len off ren que kc pins sd dy) (As := [.int i_]) (rest := []) ⟨hx, hb, hml, hown, hts⟩ hE hA hZ hP hD hS (c_X2_checkIssuer l D cy hfl h pn a0 a1 a2 a3 a4 a5 a6 a7 a8 b0 b1 b2 b3 b4 b5 b6 b7 fs ss fd ed lm dd ce cw n iss sb fst len off ren que kc pins sd dy i_) (fun _ => rfl) (q0 := 0) (ci := 2) rfl rfl gX2_isGood_X2_checkIssuer rfl rfl rfl ⟨rfl, by decide, by decide, by decide +kernel⟩ ⟨Nat.le_of_ble_eq_true rfl, Nat.le_of_ble_eq_true rfl⟩ rfl hl.1 rfl (Nat.le_of_ble_eq_true rfl) dX2_isGood_2 ⟨Nat.le_of_ble_eq_true rfl, Nat.le_of_ble_eq_true rfl⟩ (fun E ce q9 H locs hpx hP hS h1 h2 h3 => by obtain ⟨rfl, hb9⟩ := hpx; exact hout _ _ _ _ _ _ ce q9 hS h1 h2 h3 (Or.inl ⟨rfl, by simp [cdID, hb9]⟩) hP) (fun u H locs e_2 hP hD hS => ?_)
  have hP : va_P D vwCl (wH cy h pn a0 a1 a2 a3 a4 a5 a6 a7 a8 b0 b1 b2 b3 b4 b5 b6 b7 fs ss fd ed lm dd ce cw n iss sb fst len off ren que kc pins sd dy) H := hP
  have hD : va_D A (wH cy h pn a0 a1 a2 a3 a4 a5 a6 a7 a8 b0 b1 b2 b3 b4 b5 b6 b7 fs ss fd ed lm dd ce cw n iss sb fst len off ren que kc pins sd dy) := hD
  have e_2 : badI n i_ = false := e_2
  refine lv_iload_n hx hb dX2_isGood_5 rfl (lv_at hl 2 rfl) ?_
  refine kxS_v (n := 1) (X := []) (wc := []) (Y := wH cy h pn a0 a1 a2 a3 a4 a5 a6 a7 a8 b0 b1 b2 b3 b4 b5 b6 b7 fs ss fd ed lm dd ce cw n iss sb fst len off ren que kc pins sd dy) (As := [.int d_]) (rest := []) ⟨hx, hb, hml, hown, hts⟩ hE hA hZ hP hD hS (c_X2_checkDay l D cy hfl d_) (fun _ => rfl) gX2_isGood_X2_checkDay rfl rfl rfl ⟨by decide, by decide, by decide +kernel⟩ ⟨Nat.le_of_ble_eq_true rfl, Nat.le_of_ble_eq_true rfl⟩ rfl hl.1 rfl (Nat.le_of_ble_eq_true rfl) dX2_isGood_6 ⟨Nat.le_of_ble_eq_true rfl, Nat.le_of_ble_eq_true rfl⟩ (fun E ce q9 H locs hpx hP hS h1 h2 h3 => by obtain ⟨rfl, hb9⟩ := hpx; exact hout _ _ _ _ _ _ ce q9 hS h1 h2 h3 (Or.inr (Or.inl ⟨rfl, by simp [cdID, e_2, hb9]⟩)) hP) (fun u H locs e_4 hP hD hS => ?_)
  have hP : va_P D vwCl (wH cy h pn a0 a1 a2 a3 a4 a5 a6 a7 a8 b0 b1 b2 b3 b4 b5 b6 b7 fs ss fd ed lm dd ce cw n iss sb fst len off ren que kc pins sd dy) H := hP
  have hD : va_D A (wH cy h pn a0 a1 a2 a3 a4 a5 a6 a7 a8 b0 b1 b2 b3 b4 b5 b6 b7 fs ss fd ed lm dd ce cw n iss sb fst len off ren que kc pins sd dy) := hD
  have e_4 : badD d_ = false := e_4
  refine lv_aload_n hx hb dX2_isGood_9 rfl (lv_at hl 0 rfl) ?_
  refine va_get (D := D) (ci := 2) (v := .ref a0) (C := RX2) (T := TX2) (N := 5) hx hb hts g_X2 hown hE.1 hP 0 rfl rfl 0 (by decide) f_10 (fun _ h9 => h9) rfl dX2_isGood_10 ?_
  refine lv_iload_n hx hb dX2_isGood_13 rfl (lv_at hl 2 rfl) ?_
  refine lv_iconst (v := (-1)) hx hb dX2_isGood_14 (by decide) ?_
  refine kcV_i (n := 2) (X := [(h, .inr (2, [.ref a0, .ref b0, .ref pn, .int sd, .int dy]))]) (wc := wT cy a0 a1 a2 a3 a4 a5 a6 a7 a8 fs ss fd ed lm dd ce cw n) (Y := wC cy b0 b1 b2 b3 b4 b5 b6 b7 iss sb fst len off ren que kc ++ [(pn, .inl (cy.1, 16, .inl pins))]) (As := [.int d_, .int (-1)]) (rest := []) ⟨hx, hb, hml, hown, hts⟩ hE hA hP hD hS (c_X1_goodOn l D cy a0 a1 a2 a3 a4 a5 a6 a7 a8 fs ss fd ed lm dd ce cw n d_ (-1) (by first | assumption | omega)) (fun _ => rfl) (q0 := 0) (ci := 1) rfl rfl gX2_isGood_X1_goodOn rfl rfl rfl ⟨rfl, by decide, by decide, by decide +kernel⟩ ⟨Nat.le_of_ble_eq_true rfl, Nat.le_of_ble_eq_true rfl⟩ rfl hl.1 rfl (Nat.le_of_ble_eq_true rfl) dX2_isGood_15 ⟨Nat.zero_le _, Nat.zero_le _⟩ (fun r_5 u H locs e_6 hP hD hS => ?_)
  have hP : va_P D vwCl (wH cy h pn a0 a1 a2 a3 a4 a5 a6 a7 a8 b0 b1 b2 b3 b4 b5 b6 b7 fs ss fd ed lm dd ce cw n iss sb fst len off ren que kc pins sd dy) H := hP
  have hD : va_D A (wH cy h pn a0 a1 a2 a3 a4 a5 a6 a7 a8 b0 b1 b2 b3 b4 b5 b6 b7 fs ss fd ed lm dd ce cw n iss sb fst len off ren que kc pins sd dy) := hD
  have e_6 : r_5 = goodM fs ss fd ed dd d_ (-1) n := e_6
  subst e_6
  refine lv_iload_n hx hb dX2_isGood_18 rfl (lv_at hl 1 rfl) ?_
  refine kcS_i (n := 2) (X := []) (wc := []) (Y := wH cy h pn a0 a1 a2 a3 a4 a5 a6 a7 a8 b0 b1 b2 b3 b4 b5 b6 b7 fs ss fd ed lm dd ce cw n iss sb fst len off ren que kc pins sd dy) (As := [.int (goodM fs ss fd ed dd d_ (-1) n), .int i_]) (rest := []) ⟨hx, hb, hml, hown, hts⟩ hE hA hP hD hS (c_X2_contains l D cy (goodM fs ss fd ed dd d_ (-1) n) i_) (fun _ => rfl) gX2_isGood_X2_contains rfl rfl rfl ⟨by decide, by decide, by decide +kernel⟩ ⟨Nat.le_of_ble_eq_true rfl, Nat.le_of_ble_eq_true rfl⟩ rfl hl.1 rfl (Nat.le_of_ble_eq_true rfl) dX2_isGood_19 ⟨Nat.zero_le _, Nat.zero_le _⟩ (fun r_7 u H locs e_8 hP hD hS => ?_)
  have hP : va_P D vwCl (wH cy h pn a0 a1 a2 a3 a4 a5 a6 a7 a8 b0 b1 b2 b3 b4 b5 b6 b7 fs ss fd ed lm dd ce cw n iss sb fst len off ren que kc pins sd dy) H := hP
  have hD : va_D A (wH cy h pn a0 a1 a2 a3 a4 a5 a6 a7 a8 b0 b1 b2 b3 b4 b5 b6 b7 fs ss fd ed lm dd ce cw n iss sb fst len off ren que kc pins sd dy) := hD
  have e_8 : r_7 = bI (hasB (goodM fs ss fd ed dd d_ (-1) n) i_) := e_8
  subst e_8
  exact hret _ _ _ _ (bI (hasB (goodM fs ss fd ed dd d_ (-1) n) i_)) () dX2_isGood_22 (Or.inr (bI_01 _)) (⟨rfl, by simp [cdID, e_2, e_4]⟩) hP hS

set_option maxHeartbeats 4000000 in
set_option maxRecDepth 100000 in
theorem c_X2_chainEnd (l : Launch) (D : va_G) (cy : ClassId × ClassId × ClassId) (hfl : l.stackTraces = false) (h pn a0 a1 a2 a3 a4 a5 a6 a7 a8 b0 b1 b2 b3 b4 b5 b6 b7 : Nat) (fs ss fd ed lm dd ce cw : Nat → Int32) (n : Nat) (iss sb fst len off ren que : Nat → Int32) (kc : Nat) (pins : Nat → Int32) (sd dy : Int32) (i_ : Int32) (hn : n ≤ 8) : kXI l D cy yX2_chainEnd wsX2_chainEnd (krx 7 103) [.ref h, .int i_] (wH cy h pn a0 a1 a2 a3 a4 a5 a6 a7 a8 b0 b1 b2 b3 b4 b5 b6 b7 fs ss fd ed lm dd ce cw n iss sb fst len off ren que kc pins sd dy) (fun (r : Int32) (u : Unit) => r = ce (ix i_) ∧ cdOne n i_ = 0) (fun _ : Unit => wH cy h pn a0 a1 a2 a3 a4 a5 a6 a7 a8 b0 b1 b2 b3 b4 b5 b6 b7 fs ss fd ed lm dd ce cw n iss sb fst len off ren que kc pins sd dy) (fun E => xkA E (cdOne n i_)) (wH cy h pn a0 a1 a2 a3 a4 a5 a6 a7 a8 b0 b1 b2 b3 b4 b5 b6 b7 fs ss fd ed lm dd ce cw n iss sb fst len off ren que kc pins sd dy) := by
  refine kXI.of (cc := cX2_chainEnd) (maxL := 2) (rt := .int) (Or.inl rfl) hfl (by decide) rfl rfl (Nat.le_of_ble_eq_true rfl) (Nat.le_of_ble_eq_true rfl) (Nat.le_of_ble_eq_true rfl) ?_
  intro p e s m args below meth c Q A ls hx hb hml hown hts hE hA hP hD hl hZ hret hthrow hout
  have hS : va_S A s.heap s.heap [] := va_S.rf
  have hl : lv_has ls 2 [(0, .ref h), (1, .int i_)] := hl
  have g_X2 : ∀ w ∈ wsX20, w ∈ wsX2_chainEnd := by decide +kernel
  have f_10 := hts (.fieldLink RX2 10 "CertHerd" "issuerTable" "LCertHerd$IssuerTable;") (by decide +kernel)
  have g_X1 : ∀ w ∈ wsX10, w ∈ wsX2_chainEnd := by decide +kernel
  have f_75 := hts (.fieldLink RX2 75 "CertHerd$IssuerTable" "chainEnds" "[I") (by decide +kernel)
  refine lv_aload_n hx hb dX2_chainEnd_0 rfl (lv_at hl 0 rfl) ?_
  refine lv_iload_n hx hb dX2_chainEnd_1 rfl (lv_at hl 1 rfl) ?_
  refine kxW_v (n := 1) (wc := wH cy h pn a0 a1 a2 a3 a4 a5 a6 a7 a8 b0 b1 b2 b3 b4 b5 b6 b7 fs ss fd ed lm dd ce cw n iss sb fst len off ren que kc pins sd dy) (As := [.int i_]) (rest := []) ⟨hx, hb, hml, hown, hts⟩ hE hA hZ hP hD hS (c_X2_checkIssuer l D cy hfl h pn a0 a1 a2 a3 a4 a5 a6 a7 a8 b0 b1 b2 b3 b4 b5 b6 b7 fs ss fd ed lm dd ce cw n iss sb fst len off ren que kc pins sd dy i_) (fun _ => rfl) (q0 := 0) (ci := 2) rfl rfl gX2_chainEnd_X2_checkIssuer rfl rfl rfl ⟨rfl, by decide, by decide, by decide +kernel⟩ ⟨Nat.le_of_ble_eq_true rfl, Nat.le_of_ble_eq_true rfl⟩ rfl hl.1 rfl (Nat.le_of_ble_eq_true rfl) dX2_chainEnd_2 ⟨Nat.le_of_ble_eq_true rfl, Nat.le_of_ble_eq_true rfl⟩ (fun E ce q9 H locs hpx hP hS h1 h2 h3 => by obtain ⟨rfl, hb9⟩ := hpx; exact hout _ _ _ _ _ _ ce q9 hS h1 h2 h3 (Or.inl ⟨rfl, by simp [cdOne, hb9]⟩) hP) (fun u H locs e_2 hP hD hS => ?_)
  have hP : va_P D vwCl (wH cy h pn a0 a1 a2 a3 a4 a5 a6 a7 a8 b0 b1 b2 b3 b4 b5 b6 b7 fs ss fd ed lm dd ce cw n iss sb fst len off ren que kc pins sd dy) H := hP
  have hD : va_D A (wH cy h pn a0 a1 a2 a3 a4 a5 a6 a7 a8 b0 b1 b2 b3 b4 b5 b6 b7 fs ss fd ed lm dd ce cw n iss sb fst len off ren que kc pins sd dy) := hD
  have e_2 : badI n i_ = false := e_2
  have hix_i_ := (badI_ok (i := i_) (by assumption) (by omega)).2
  refine lv_aload_n hx hb dX2_chainEnd_5 rfl (lv_at hl 0 rfl) ?_
  refine va_get (D := D) (ci := 2) (v := .ref a0) (C := RX2) (T := TX2) (N := 5) hx hb hts g_X2 hown hE.1 hP 0 rfl rfl 0 (by decide) f_10 (fun _ h9 => h9) rfl dX2_chainEnd_6 ?_
  refine va_get (D := D) (ci := 1) (v := .ref a7) (C := RX1) (T := TX1) (N := 9) hx hb hts g_X1 hown hE.1 hP 1 rfl rfl 6 (by decide) f_75 (fun _ h9 => h9) rfl dX2_chainEnd_9 ?_
  refine lv_iload_n hx hb dX2_chainEnd_12 rfl (lv_at hl 1 rfl) ?_
  refine k_top (z := nI (ix i_)) (badI_ok (i := i_) (by assumption) (by omega)).1 ?_
  refine k_ild hx hb hE.1 hP 8 0 rfl rfl (j := (ix i_)) (by omega) (by decide) dX2_chainEnd_13 ?_
  exact hret _ _ _ _ (ce (ix i_)) () dX2_chainEnd_14 (Or.inl rfl) (⟨rfl, by simp [cdOne, e_2]⟩) hP hS

set_option maxHeartbeats 4000000 in
set_option maxRecDepth 100000 in
theorem c_X2_chains (l : Launch) (D : va_G) (cy : ClassId × ClassId × ClassId) (hfl : l.stackTraces = false) (h pn a0 a1 a2 a3 a4 a5 a6 a7 a8 b0 b1 b2 b3 b4 b5 b6 b7 : Nat) (fs ss fd ed lm dd ce cw : Nat → Int32) (n : Nat) (iss sb fst len off ren que : Nat → Int32) (kc : Nat) (pins : Nat → Int32) (sd dy : Int32) (i_ : Int32) (hn : n ≤ 8) : kXI l D cy yX2_chains wsX2_chains (krx 7 103) [.ref h, .int i_] (wH cy h pn a0 a1 a2 a3 a4 a5 a6 a7 a8 b0 b1 b2 b3 b4 b5 b6 b7 fs ss fd ed lm dd ce cw n iss sb fst len off ren que kc pins sd dy) (fun (r : Int32) (u : Unit) => r = cw (ix i_) ∧ cdOne n i_ = 0) (fun _ : Unit => wH cy h pn a0 a1 a2 a3 a4 a5 a6 a7 a8 b0 b1 b2 b3 b4 b5 b6 b7 fs ss fd ed lm dd ce cw n iss sb fst len off ren que kc pins sd dy) (fun E => xkA E (cdOne n i_)) (wH cy h pn a0 a1 a2 a3 a4 a5 a6 a7 a8 b0 b1 b2 b3 b4 b5 b6 b7 fs ss fd ed lm dd ce cw n iss sb fst len off ren que kc pins sd dy) := by
  refine kXI.of (cc := cX2_chains) (maxL := 2) (rt := .int) (Or.inl rfl) hfl (by decide) rfl rfl (Nat.le_of_ble_eq_true rfl) (Nat.le_of_ble_eq_true rfl) (Nat.le_of_ble_eq_true rfl) ?_
  intro p e s m args below meth c Q A ls hx hb hml hown hts hE hA hP hD hl hZ hret hthrow hout
  have hS : va_S A s.heap s.heap [] := va_S.rf
  have hl : lv_has ls 2 [(0, .ref h), (1, .int i_)] := hl
  have g_X2 : ∀ w ∈ wsX20, w ∈ wsX2_chains := by decide +kernel
  have f_10 := hts (.fieldLink RX2 10 "CertHerd" "issuerTable" "LCertHerd$IssuerTable;") (by decide +kernel)
  have g_X1 : ∀ w ∈ wsX10, w ∈ wsX2_chains := by decide +kernel
  have f_148 := hts (.fieldLink RX2 148 "CertHerd$IssuerTable" "chainCounts" "[I") (by decide +kernel)
  refine lv_aload_n hx hb dX2_chains_0 rfl (lv_at hl 0 rfl) ?_
  refine lv_iload_n hx hb dX2_chains_1 rfl (lv_at hl 1 rfl) ?_
  refine kxW_v (n := 1) (wc := wH cy h pn a0 a1 a2 a3 a4 a5 a6 a7 a8 b0 b1 b2 b3 b4 b5 b6 b7 fs ss fd ed lm dd ce cw n iss sb fst len off ren que kc pins sd dy) (As := [.int i_]) (rest := []) ⟨hx, hb, hml, hown, hts⟩ hE hA hZ hP hD hS (c_X2_checkIssuer l D cy hfl h pn a0 a1 a2 a3 a4 a5 a6 a7 a8 b0 b1 b2 b3 b4 b5 b6 b7 fs ss fd ed lm dd ce cw n iss sb fst len off ren que kc pins sd dy i_) (fun _ => rfl) (q0 := 0) (ci := 2) rfl rfl gX2_chains_X2_checkIssuer rfl rfl rfl ⟨rfl, by decide, by decide, by decide +kernel⟩ ⟨Nat.le_of_ble_eq_true rfl, Nat.le_of_ble_eq_true rfl⟩ rfl hl.1 rfl (Nat.le_of_ble_eq_true rfl) dX2_chains_2 ⟨Nat.le_of_ble_eq_true rfl, Nat.le_of_ble_eq_true rfl⟩ (fun E ce q9 H locs hpx hP hS h1 h2 h3 => by obtain ⟨rfl, hb9⟩ := hpx; exact hout _ _ _ _ _ _ ce q9 hS h1 h2 h3 (Or.inl ⟨rfl, by simp [cdOne, hb9]⟩) hP) (fun u H locs e_2 hP hD hS => ?_)
  have hP : va_P D vwCl (wH cy h pn a0 a1 a2 a3 a4 a5 a6 a7 a8 b0 b1 b2 b3 b4 b5 b6 b7 fs ss fd ed lm dd ce cw n iss sb fst len off ren que kc pins sd dy) H := hP
  have hD : va_D A (wH cy h pn a0 a1 a2 a3 a4 a5 a6 a7 a8 b0 b1 b2 b3 b4 b5 b6 b7 fs ss fd ed lm dd ce cw n iss sb fst len off ren que kc pins sd dy) := hD
  have e_2 : badI n i_ = false := e_2
  have hix_i_ := (badI_ok (i := i_) (by assumption) (by omega)).2
  refine lv_aload_n hx hb dX2_chains_5 rfl (lv_at hl 0 rfl) ?_
  refine va_get (D := D) (ci := 2) (v := .ref a0) (C := RX2) (T := TX2) (N := 5) hx hb hts g_X2 hown hE.1 hP 0 rfl rfl 0 (by decide) f_10 (fun _ h9 => h9) rfl dX2_chains_6 ?_
  refine va_get (D := D) (ci := 1) (v := .ref a8) (C := RX1) (T := TX1) (N := 9) hx hb hts g_X1 hown hE.1 hP 1 rfl rfl 7 (by decide) f_148 (fun _ h9 => h9) rfl dX2_chains_9 ?_
  refine lv_iload_n hx hb dX2_chains_12 rfl (lv_at hl 1 rfl) ?_
  refine k_top (z := nI (ix i_)) (badI_ok (i := i_) (by assumption) (by omega)).1 ?_
  refine k_ild hx hb hE.1 hP 9 0 rfl rfl (j := (ix i_)) (by omega) (by decide) dX2_chains_13 ?_
  exact hret _ _ _ _ (cw (ix i_)) () dX2_chains_14 (Or.inl rfl) (⟨rfl, by simp [cdOne, e_2]⟩) hP hS

set_option maxHeartbeats 4000000 in
set_option maxRecDepth 100000 in
theorem c_X2_isCovered (l : Launch) (D : va_G) (cy : ClassId × ClassId × ClassId) (hfl : l.stackTraces = false) (h pn a0 a1 a2 a3 a4 a5 a6 a7 a8 b0 b1 b2 b3 b4 b5 b6 b7 : Nat) (fs ss fd ed lm dd ce cw : Nat → Int32) (n : Nat) (iss sb fst len off ren que : Nat → Int32) (kc : Nat) (pins : Nat → Int32) (sd dy : Int32) (x_ : Int32) (d_ : Int32) (hn : n ≤ 8) (hc : kc ≤ 60) : kXI l D cy yX2_isCovered wsX2_isCovered (krx 7 102) [.ref h, .int x_, .int d_] (wH cy h pn a0 a1 a2 a3 a4 a5 a6 a7 a8 b0 b1 b2 b3 b4 b5 b6 b7 fs ss fd ed lm dd ce cw n iss sb fst len off ren que kc pins sd dy) (fun (r : Int32) (u : Unit) => r = bI (hasB (nhN iss sb fst len d_ (goodM fs ss fd ed dd d_ (-1) n) kc) x_) ∧ cdND x_ d_ = 0) (fun _ : Unit => wH cy h pn a0 a1 a2 a3 a4 a5 a6 a7 a8 b0 b1 b2 b3 b4 b5 b6 b7 fs ss fd ed lm dd ce cw n iss sb fst len off ren que kc pins sd dy) (fun E => xkA E (cdND x_ d_)) (wH cy h pn a0 a1 a2 a3 a4 a5 a6 a7 a8 b0 b1 b2 b3 b4 b5 b6 b7 fs ss fd ed lm dd ce cw n iss sb fst len off ren que kc pins sd dy) := by
  refine kXI.of (cc := cX2_isCovered) (maxL := 3) (rt := .boolean) (Or.inr rfl) hfl (by decide) rfl rfl (Nat.le_of_ble_eq_true rfl) (Nat.le_of_ble_eq_true rfl) (Nat.le_of_ble_eq_true rfl) ?_
  intro p e s m args below meth c Q A ls hx hb hml hown hts hE hA hP hD hl hZ hret hthrow hout
  have hS : va_S A s.heap s.heap [] := va_S.rf
  have hl : lv_has ls 3 [(0, .ref h), (1, .int x_), (2, .int d_)] := hl
  refine lv_iload_n hx hb dX2_isCovered_0 rfl (lv_at hl 1 rfl) ?_
  refine kxS_v (n := 1) (X := []) (wc := []) (Y := wH cy h pn a0 a1 a2 a3 a4 a5 a6 a7 a8 b0 b1 b2 b3 b4 b5 b6 b7 fs ss fd ed lm dd ce cw n iss sb fst len off ren que kc pins sd dy) (As := [.int x_]) (rest := []) ⟨hx, hb, hml, hown, hts⟩ hE hA hZ hP hD hS (c_X2_checkName l D cy hfl x_) (fun _ => rfl) gX2_isCovered_X2_checkName rfl rfl rfl ⟨by decide, by decide, by decide +kernel⟩ ⟨Nat.le_of_ble_eq_true rfl, Nat.le_of_ble_eq_true rfl⟩ rfl hl.1 rfl (Nat.le_of_ble_eq_true rfl) dX2_isCovered_1 ⟨Nat.le_of_ble_eq_true rfl, Nat.le_of_ble_eq_true rfl⟩ (fun E ce q9 H locs hpx hP hS h1 h2 h3 => by obtain ⟨rfl, hb9⟩ := hpx; exact hout _ _ _ _ _ _ ce q9 hS h1 h2 h3 (Or.inl ⟨rfl, by simp [cdND, hb9]⟩) hP) (fun u H locs e_2 hP hD hS => ?_)
  have hP : va_P D vwCl (wH cy h pn a0 a1 a2 a3 a4 a5 a6 a7 a8 b0 b1 b2 b3 b4 b5 b6 b7 fs ss fd ed lm dd ce cw n iss sb fst len off ren que kc pins sd dy) H := hP
  have hD : va_D A (wH cy h pn a0 a1 a2 a3 a4 a5 a6 a7 a8 b0 b1 b2 b3 b4 b5 b6 b7 fs ss fd ed lm dd ce cw n iss sb fst len off ren que kc pins sd dy) := hD
  have e_2 : badN x_ = false := e_2
  refine lv_iload_n hx hb dX2_isCovered_4 rfl (lv_at hl 2 rfl) ?_
  refine kxS_v (n := 1) (X := []) (wc := []) (Y := wH cy h pn a0 a1 a2 a3 a4 a5 a6 a7 a8 b0 b1 b2 b3 b4 b5 b6 b7 fs ss fd ed lm dd ce cw n iss sb fst len off ren que kc pins sd dy) (As := [.int d_]) (rest := []) ⟨hx, hb, hml, hown, hts⟩ hE hA hZ hP hD hS (c_X2_checkDay l D cy hfl d_) (fun _ => rfl) gX2_isCovered_X2_checkDay rfl rfl rfl ⟨by decide, by decide, by decide +kernel⟩ ⟨Nat.le_of_ble_eq_true rfl, Nat.le_of_ble_eq_true rfl⟩ rfl hl.1 rfl (Nat.le_of_ble_eq_true rfl) dX2_isCovered_5 ⟨Nat.le_of_ble_eq_true rfl, Nat.le_of_ble_eq_true rfl⟩ (fun E ce q9 H locs hpx hP hS h1 h2 h3 => by obtain ⟨rfl, hb9⟩ := hpx; exact hout _ _ _ _ _ _ ce q9 hS h1 h2 h3 (Or.inr (Or.inl ⟨rfl, by simp [cdND, e_2, hb9]⟩)) hP) (fun u H locs e_4 hP hD hS => ?_)
  have hP : va_P D vwCl (wH cy h pn a0 a1 a2 a3 a4 a5 a6 a7 a8 b0 b1 b2 b3 b4 b5 b6 b7 fs ss fd ed lm dd ce cw n iss sb fst len off ren que kc pins sd dy) H := hP
  have hD : va_D A (wH cy h pn a0 a1 a2 a3 a4 a5 a6 a7 a8 b0 b1 b2 b3 b4 b5 b6 b7 fs ss fd ed lm dd ce cw n iss sb fst len off ren que kc pins sd dy) := hD
  have e_4 : badD d_ = false := e_4
  refine lv_aload_n hx hb dX2_isCovered_8 rfl (lv_at hl 0 rfl) ?_
  refine lv_iload_n hx hb dX2_isCovered_9 rfl (lv_at hl 2 rfl) ?_
  refine lv_iconst (v := (-1)) hx hb dX2_isCovered_10 (by decide) ?_
  refine kcW_i (n := 2) (wc := wH cy h pn a0 a1 a2 a3 a4 a5 a6 a7 a8 b0 b1 b2 b3 b4 b5 b6 b7 fs ss fd ed lm dd ce cw n iss sb fst len off ren que kc pins sd dy) (As := [.int d_, .int (-1)]) (rest := []) ⟨hx, hb, hml, hown, hts⟩ hE hA hP hD hS (c_X2_namesCovered l D cy h pn a0 a1 a2 a3 a4 a5 a6 a7 a8 b0 b1 b2 b3 b4 b5 b6 b7 fs ss fd ed lm dd ce cw n iss sb fst len off ren que kc pins sd dy d_ (-1) (by first | assumption | omega) (by first | assumption | omega)) (fun _ => rfl) (q0 := 0) (ci := 2) rfl rfl gX2_isCovered_X2_namesCovered rfl rfl rfl ⟨rfl, by decide, by decide, by decide +kernel⟩ ⟨Nat.le_of_ble_eq_true rfl, Nat.le_of_ble_eq_true rfl⟩ rfl hl.1 rfl (Nat.le_of_ble_eq_true rfl) dX2_isCovered_11 ⟨Nat.zero_le _, Nat.zero_le _⟩ (fun r_5 u H locs e_6 hP hD hS => ?_)
  have hP : va_P D vwCl (wH cy h pn a0 a1 a2 a3 a4 a5 a6 a7 a8 b0 b1 b2 b3 b4 b5 b6 b7 fs ss fd ed lm dd ce cw n iss sb fst len off ren que kc pins sd dy) H := hP
  have hD : va_D A (wH cy h pn a0 a1 a2 a3 a4 a5 a6 a7 a8 b0 b1 b2 b3 b4 b5 b6 b7 fs ss fd ed lm dd ce cw n iss sb fst len off ren que kc pins sd dy) := hD
  have e_6 : r_5 = nhN iss sb fst len d_ (goodM fs ss fd ed dd d_ (-1) n) kc := e_6
  subst e_6
  refine lv_iload_n hx hb dX2_isCovered_14 rfl (lv_at hl 1 rfl) ?_
  refine kcS_i (n := 2) (X := []) (wc := []) (Y := wH cy h pn a0 a1 a2 a3 a4 a5 a6 a7 a8 b0 b1 b2 b3 b4 b5 b6 b7 fs ss fd ed lm dd ce cw n iss sb fst len off ren que kc pins sd dy) (As := [.int (nhN iss sb fst len d_ (goodM fs ss fd ed dd d_ (-1) n) kc), .int x_]) (rest := []) ⟨hx, hb, hml, hown, hts⟩ hE hA hP hD hS (c_X2_contains l D cy (nhN iss sb fst len d_ (goodM fs ss fd ed dd d_ (-1) n) kc) x_) (fun _ => rfl) gX2_isCovered_X2_contains rfl rfl rfl ⟨by decide, by decide, by decide +kernel⟩ ⟨Nat.le_of_ble_eq_true rfl, Nat.le_of_ble_eq_true rfl⟩ rfl hl.1 rfl (Nat.le_of_ble_eq_true rfl) dX2_isCovered_15 ⟨Nat.zero_le _, Nat.zero_le _⟩ (fun r_7 u H locs e_8 hP hD hS => ?_)
  have hP : va_P D vwCl (wH cy h pn a0 a1 a2 a3 a4 a5 a6 a7 a8 b0 b1 b2 b3 b4 b5 b6 b7 fs ss fd ed lm dd ce cw n iss sb fst len off ren que kc pins sd dy) H := hP
  have hD : va_D A (wH cy h pn a0 a1 a2 a3 a4 a5 a6 a7 a8 b0 b1 b2 b3 b4 b5 b6 b7 fs ss fd ed lm dd ce cw n iss sb fst len off ren que kc pins sd dy) := hD
  have e_8 : r_7 = bI (hasB (nhN iss sb fst len d_ (goodM fs ss fd ed dd d_ (-1) n) kc) x_) := e_8
  subst e_8
  exact hret _ _ _ _ (bI (hasB (nhN iss sb fst len d_ (goodM fs ss fd ed dd d_ (-1) n) kc) x_)) () dX2_isCovered_18 (Or.inr (bI_01 _)) (⟨rfl, by simp [cdND, e_2, e_4]⟩) hP hS

set_option maxHeartbeats 4000000 in
set_option maxRecDepth 100000 in
theorem c_X2_nextGap (l : Launch) (D : va_G) (cy : ClassId × ClassId × ClassId) (hfl : l.stackTraces = false) (h pn a0 a1 a2 a3 a4 a5 a6 a7 a8 b0 b1 b2 b3 b4 b5 b6 b7 : Nat) (fs ss fd ed lm dd ce cw : Nat → Int32) (n : Nat) (iss sb fst len off ren que : Nat → Int32) (kc : Nat) (pins : Nat → Int32) (sd dy : Int32) (x_ : Int32) (d_ : Int32) (hn : n ≤ 8) (hc : kc ≤ 60) : kXI l D cy yX2_nextGap wsX2_nextGap (krx 7 102) [.ref h, .int x_, .int d_] (wH cy h pn a0 a1 a2 a3 a4 a5 a6 a7 a8 b0 b1 b2 b3 b4 b5 b6 b7 fs ss fd ed lm dd ce cw n iss sb fst len off ren que kc pins sd dy) (fun (r : Int32) (u : Unit) => r = ngC fs ss fd ed dd n iss sb fst len kc x_ (5001 - ix d_) (ix d_) ∧ cdND x_ d_ = 0) (fun _ : Unit => wH cy h pn a0 a1 a2 a3 a4 a5 a6 a7 a8 b0 b1 b2 b3 b4 b5 b6 b7 fs ss fd ed lm dd ce cw n iss sb fst len off ren que kc pins sd dy) (fun E => xkA E (cdND x_ d_)) (wH cy h pn a0 a1 a2 a3 a4 a5 a6 a7 a8 b0 b1 b2 b3 b4 b5 b6 b7 fs ss fd ed lm dd ce cw n iss sb fst len off ren que kc pins sd dy) := by
  refine kXI.of (cc := cX2_nextGap) (maxL := 4) (rt := .int) (Or.inl rfl) hfl (by decide) rfl rfl (Nat.le_of_ble_eq_true rfl) (Nat.le_of_ble_eq_true rfl) (Nat.le_of_ble_eq_true rfl) ?_
  intro p e s m args below meth c Q A ls hx hb hml hown hts hE hA hP hD hl hZ hret hthrow hout
  have hS : va_S A s.heap s.heap [] := va_S.rf
  have hl : lv_has ls 4 [(0, .ref h), (1, .int x_), (2, .int d_)] := hl
  refine lv_iload_n hx hb dX2_nextGap_0 rfl (lv_at hl 1 rfl) ?_
  refine kxS_v (n := 1) (X := []) (wc := []) (Y := wH cy h pn a0 a1 a2 a3 a4 a5 a6 a7 a8 b0 b1 b2 b3 b4 b5 b6 b7 fs ss fd ed lm dd ce cw n iss sb fst len off ren que kc pins sd dy) (As := [.int x_]) (rest := []) ⟨hx, hb, hml, hown, hts⟩ hE hA hZ hP hD hS (c_X2_checkName l D cy hfl x_) (fun _ => rfl) gX2_nextGap_X2_checkName rfl rfl rfl ⟨by decide, by decide, by decide +kernel⟩ ⟨Nat.le_of_ble_eq_true rfl, Nat.le_of_ble_eq_true rfl⟩ rfl hl.1 rfl (Nat.le_of_ble_eq_true rfl) dX2_nextGap_1 ⟨Nat.le_of_ble_eq_true rfl, Nat.le_of_ble_eq_true rfl⟩ (fun E ce q9 H locs hpx hP hS h1 h2 h3 => by obtain ⟨rfl, hb9⟩ := hpx; exact hout _ _ _ _ _ _ ce q9 hS h1 h2 h3 (Or.inl ⟨rfl, by simp [cdND, hb9]⟩) hP) (fun u H locs e_2 hP hD hS => ?_)
  have hP : va_P D vwCl (wH cy h pn a0 a1 a2 a3 a4 a5 a6 a7 a8 b0 b1 b2 b3 b4 b5 b6 b7 fs ss fd ed lm dd ce cw n iss sb fst len off ren que kc pins sd dy) H := hP
  have hD : va_D A (wH cy h pn a0 a1 a2 a3 a4 a5 a6 a7 a8 b0 b1 b2 b3 b4 b5 b6 b7 fs ss fd ed lm dd ce cw n iss sb fst len off ren que kc pins sd dy) := hD
  have e_2 : badN x_ = false := e_2
  refine lv_iload_n hx hb dX2_nextGap_4 rfl (lv_at hl 2 rfl) ?_
  refine kxS_v (n := 1) (X := []) (wc := []) (Y := wH cy h pn a0 a1 a2 a3 a4 a5 a6 a7 a8 b0 b1 b2 b3 b4 b5 b6 b7 fs ss fd ed lm dd ce cw n iss sb fst len off ren que kc pins sd dy) (As := [.int d_]) (rest := []) ⟨hx, hb, hml, hown, hts⟩ hE hA hZ hP hD hS (c_X2_checkDay l D cy hfl d_) (fun _ => rfl) gX2_nextGap_X2_checkDay rfl rfl rfl ⟨by decide, by decide, by decide +kernel⟩ ⟨Nat.le_of_ble_eq_true rfl, Nat.le_of_ble_eq_true rfl⟩ rfl hl.1 rfl (Nat.le_of_ble_eq_true rfl) dX2_nextGap_5 ⟨Nat.le_of_ble_eq_true rfl, Nat.le_of_ble_eq_true rfl⟩ (fun E ce q9 H locs hpx hP hS h1 h2 h3 => by obtain ⟨rfl, hb9⟩ := hpx; exact hout _ _ _ _ _ _ ce q9 hS h1 h2 h3 (Or.inr (Or.inl ⟨rfl, by simp [cdND, e_2, hb9]⟩)) hP) (fun u H locs e_4 hP hD hS => ?_)
  have hP : va_P D vwCl (wH cy h pn a0 a1 a2 a3 a4 a5 a6 a7 a8 b0 b1 b2 b3 b4 b5 b6 b7 fs ss fd ed lm dd ce cw n iss sb fst len off ren que kc pins sd dy) H := hP
  have hD : va_D A (wH cy h pn a0 a1 a2 a3 a4 a5 a6 a7 a8 b0 b1 b2 b3 b4 b5 b6 b7 fs ss fd ed lm dd ce cw n iss sb fst len off ren que kc pins sd dy) := hD
  have e_4 : badD d_ = false := e_4
  have hix_d_ := (badD_ok (i := d_) (by assumption)).2
  refine lv_iload_n hx hb dX2_nextGap_8 rfl (lv_at hl 2 rfl) ?_
  refine k_top (z := nI (ix d_)) (badD_ok (i := d_) (by assumption)).1 ?_
  refine lv_istore_n (lv' := [(3, .int (nI (ix d_))), (0, .ref h), (1, .int x_), (2, .int d_)]) hx hb dX2_nextGap_9 rfl hl (by decide) rfl (fun ls hl => ?_)
  have L_10 : ∀ (f : Nat) (y_ : Nat) (H : Heap) (locs : List Loc) (ls : Array Slot), ((5001 - y_) < f) → (y_ ≤ 5001) → (ngC fs ss fd ed dd n iss sb fst len kc x_ (5001 - y_) y_ = ngC fs ss fd ed dd n iss sb fst len kc x_ (5001 - ix d_) (ix d_)) → va_P D vwCl (wH cy h pn a0 a1 a2 a3 a4 a5 a6 a7 a8 b0 b1 b2 b3 b4 b5 b6 b7 fs ss fd ed lm dd ce cw n iss sb fst len off ren que kc pins sd dy) H → va_D A (wH cy h pn a0 a1 a2 a3 a4 a5 a6 a7 a8 b0 b1 b2 b3 b4 b5 b6 b7 fs ss fd ed lm dd ce cw n iss sb fst len off ren que kc pins sd dy) → va_S A s.heap H locs → lv_has ls 4 [(3, .int (nI y_)), (0, .ref h), (1, .int x_), (2, .int d_)] → W p l e (krx 7 102) s m args below meth c H locs 0 0 Q (F0 m 10 ls []) := by
    intro f
    induction f with
    | zero => intro y_ H locs ls hf; exact absurd hf (Nat.not_lt_zero _)
    | succ f ih_10 =>
      intro y_ H locs ls hf hy eg hP hD hS hl
      refine lv_iload_n hx hb dX2_nextGap_10 rfl (lv_at hl 0 rfl) ?_
      refine lv_sipush (v := 5000) hx hb dX2_nextGap_11 (by decide) ?_
      refine lv_icmp_gt (tgt := 38) hx hb dX2_nextGap_14 (by decide) (fun c_14 => ?_) (fun c_14 => ?_)
      · have c_14n : 5000 < y_ := k_ltN (a := 5000) (b := y_) (by omega) (by omega) c_14
        refine lv_iconst (v := (-1)) hx hb dX2_nextGap_38 (by decide) ?_
        exact hret _ _ _ _ (-1) () dX2_nextGap_39 (Or.inl rfl) (⟨by rw [← eg, show 5001 - y_ = 0 by omega, ngC], by simp [cdND, e_2, e_4, c_14]⟩) hP hS
      · have c_14n : ¬ 5000 < y_ := k_nltN (a := 5000) (b := y_) (by omega) (by omega) c_14
        refine lv_aload_n hx hb dX2_nextGap_17 rfl (lv_at hl 1 rfl) ?_
        refine lv_iload_n hx hb dX2_nextGap_18 rfl (lv_at hl 0 rfl) ?_
        refine lv_iconst (v := (-1)) hx hb dX2_nextGap_19 (by decide) ?_
        refine kcW_i (n := 2) (wc := wH cy h pn a0 a1 a2 a3 a4 a5 a6 a7 a8 b0 b1 b2 b3 b4 b5 b6 b7 fs ss fd ed lm dd ce cw n iss sb fst len off ren que kc pins sd dy) (As := [.int (nI y_), .int (-1)]) (rest := []) ⟨hx, hb, hml, hown, hts⟩ hE hA hP hD hS (c_X2_namesCovered l D cy h pn a0 a1 a2 a3 a4 a5 a6 a7 a8 b0 b1 b2 b3 b4 b5 b6 b7 fs ss fd ed lm dd ce cw n iss sb fst len off ren que kc pins sd dy (nI y_) (-1) (by first | assumption | omega) (by first | assumption | omega)) (fun _ => rfl) (q0 := 0) (ci := 2) rfl rfl gX2_nextGap_X2_namesCovered rfl rfl rfl ⟨rfl, by decide, by decide, by decide +kernel⟩ ⟨Nat.le_of_ble_eq_true rfl, Nat.le_of_ble_eq_true rfl⟩ rfl hl.1 rfl (Nat.le_of_ble_eq_true rfl) dX2_nextGap_20 ⟨Nat.zero_le _, Nat.zero_le _⟩ (fun r_5 u H locs e_6 hP hD hS => ?_)
        have hP : va_P D vwCl (wH cy h pn a0 a1 a2 a3 a4 a5 a6 a7 a8 b0 b1 b2 b3 b4 b5 b6 b7 fs ss fd ed lm dd ce cw n iss sb fst len off ren que kc pins sd dy) H := hP
        have hD : va_D A (wH cy h pn a0 a1 a2 a3 a4 a5 a6 a7 a8 b0 b1 b2 b3 b4 b5 b6 b7 fs ss fd ed lm dd ce cw n iss sb fst len off ren que kc pins sd dy) := hD
        have e_6 : r_5 = nhN iss sb fst len (nI y_) (goodM fs ss fd ed dd (nI y_) (-1) n) kc := e_6
        subst e_6
        refine lv_iload_n hx hb dX2_nextGap_23 rfl (lv_at hl 2 rfl) ?_
        refine kcS_i (n := 2) (X := []) (wc := []) (Y := wH cy h pn a0 a1 a2 a3 a4 a5 a6 a7 a8 b0 b1 b2 b3 b4 b5 b6 b7 fs ss fd ed lm dd ce cw n iss sb fst len off ren que kc pins sd dy) (As := [.int (nhN iss sb fst len (nI y_) (goodM fs ss fd ed dd (nI y_) (-1) n) kc), .int x_]) (rest := []) ⟨hx, hb, hml, hown, hts⟩ hE hA hP hD hS (c_X2_contains l D cy (nhN iss sb fst len (nI y_) (goodM fs ss fd ed dd (nI y_) (-1) n) kc) x_) (fun _ => rfl) gX2_nextGap_X2_contains rfl rfl rfl ⟨by decide, by decide, by decide +kernel⟩ ⟨Nat.le_of_ble_eq_true rfl, Nat.le_of_ble_eq_true rfl⟩ rfl hl.1 rfl (Nat.le_of_ble_eq_true rfl) dX2_nextGap_24 ⟨Nat.zero_le _, Nat.zero_le _⟩ (fun r_7 u H locs e_8 hP hD hS => ?_)
        have hP : va_P D vwCl (wH cy h pn a0 a1 a2 a3 a4 a5 a6 a7 a8 b0 b1 b2 b3 b4 b5 b6 b7 fs ss fd ed lm dd ce cw n iss sb fst len off ren que kc pins sd dy) H := hP
        have hD : va_D A (wH cy h pn a0 a1 a2 a3 a4 a5 a6 a7 a8 b0 b1 b2 b3 b4 b5 b6 b7 fs ss fd ed lm dd ce cw n iss sb fst len off ren que kc pins sd dy) := hD
        have e_8 : r_7 = bI (hasB (nhN iss sb fst len (nI y_) (goodM fs ss fd ed dd (nI y_) (-1) n) kc) x_) := e_8
        subst e_8
        refine k_ifne (tgt := 32) hx hb dX2_nextGap_27 (by decide) (fun c_27 => ?_) (fun c_27 => ?_)
        · refine lv_iinc (v := (nI (y_ + 1))) (lv' := [(3, .int (nI (y_ + 1))), (0, .ref h), (1, .int x_), (2, .int d_)]) hx hb dX2_nextGap_32 hl (k := 0) rfl (k_inc _) (by decide) rfl (fun ls hl => ?_)
          refine lv_goto (tgt := 10) hx hb dX2_nextGap_35 (by decide) ?_
          exact ih_10 (y_ + 1) _ _ ls (by omega) (by omega) (by rw [← eg, show 5001 - y_ = (5001 - (y_ + 1)) + 1 by omega, ngC, if_pos c_27]) hP hD hS (lv_sub hl [0, 1, 2, 3] rfl)
        · refine lv_iload_n hx hb dX2_nextGap_30 rfl (lv_at hl 0 rfl) ?_
          exact hret _ _ _ _ (nI y_) () dX2_nextGap_31 (Or.inl rfl) (⟨by rw [← eg, show 5001 - y_ = (5001 - (y_ + 1)) + 1 by omega, ngC, if_neg c_27], by simp [cdND, e_2, e_4, c_14, c_27]⟩) hP hS
  exact L_10 ((5001 - (ix d_)) + 1) (ix d_) _ _ ls (Nat.lt_succ_self _) (by omega) rfl hP hD hS (lv_sub hl [0, 1, 2, 3] rfl)

set_option maxHeartbeats 4000000 in
set_option maxRecDepth 100000 in
theorem c_X2_covered (l : Launch) (D : va_G) (cy : ClassId × ClassId × ClassId) (hfl : l.stackTraces = false) (h pn a0 a1 a2 a3 a4 a5 a6 a7 a8 b0 b1 b2 b3 b4 b5 b6 b7 : Nat) (fs ss fd ed lm dd ce cw : Nat → Int32) (n : Nat) (iss sb fst len off ren que : Nat → Int32) (kc : Nat) (pins : Nat → Int32) (sd dy : Int32) (d_ : Int32) (hn : n ≤ 8) (hc : kc ≤ 60) : kXI l D cy yX2_covered wsX2_covered (krx 7 102) [.ref h, .int d_] (wH cy h pn a0 a1 a2 a3 a4 a5 a6 a7 a8 b0 b1 b2 b3 b4 b5 b6 b7 fs ss fd ed lm dd ce cw n iss sb fst len off ren que kc pins sd dy) (fun (r : Int32) (u : Unit) => r = nhN iss sb fst len d_ (goodM fs ss fd ed dd d_ (-1) n) kc ∧ cdD d_ = 0) (fun _ : Unit => wH cy h pn a0 a1 a2 a3 a4 a5 a6 a7 a8 b0 b1 b2 b3 b4 b5 b6 b7 fs ss fd ed lm dd ce cw n iss sb fst len off ren que kc pins sd dy) (fun E => xkB E (cdD d_)) (wH cy h pn a0 a1 a2 a3 a4 a5 a6 a7 a8 b0 b1 b2 b3 b4 b5 b6 b7 fs ss fd ed lm dd ce cw n iss sb fst len off ren que kc pins sd dy) := by
  refine kXI.of (cc := cX2_covered) (maxL := 2) (rt := .int) (Or.inl rfl) hfl (by decide) rfl rfl (Nat.le_of_ble_eq_true rfl) (Nat.le_of_ble_eq_true rfl) (Nat.le_of_ble_eq_true rfl) ?_
  intro p e s m args below meth c Q A ls hx hb hml hown hts hE hA hP hD hl hZ hret hthrow hout
  have hS : va_S A s.heap s.heap [] := va_S.rf
  have hl : lv_has ls 2 [(0, .ref h), (1, .int d_)] := hl
  refine lv_iload_n hx hb dX2_covered_0 rfl (lv_at hl 1 rfl) ?_
  refine kxS_v (n := 1) (X := []) (wc := []) (Y := wH cy h pn a0 a1 a2 a3 a4 a5 a6 a7 a8 b0 b1 b2 b3 b4 b5 b6 b7 fs ss fd ed lm dd ce cw n iss sb fst len off ren que kc pins sd dy) (As := [.int d_]) (rest := []) ⟨hx, hb, hml, hown, hts⟩ hE hA hZ hP hD hS (c_X2_checkDay l D cy hfl d_) (fun _ => rfl) gX2_covered_X2_checkDay rfl rfl rfl ⟨by decide, by decide, by decide +kernel⟩ ⟨Nat.le_of_ble_eq_true rfl, Nat.le_of_ble_eq_true rfl⟩ rfl hl.1 rfl (Nat.le_of_ble_eq_true rfl) dX2_covered_1 ⟨Nat.le_of_ble_eq_true rfl, Nat.le_of_ble_eq_true rfl⟩ (fun E ce q9 H locs hpx hP hS h1 h2 h3 => by obtain ⟨rfl, hb9⟩ := hpx; exact hout _ _ _ _ _ _ ce q9 hS h1 h2 h3 (Or.inl ⟨rfl, by simp [cdD, hb9]⟩) hP) (fun u H locs e_2 hP hD hS => ?_)
  have hP : va_P D vwCl (wH cy h pn a0 a1 a2 a3 a4 a5 a6 a7 a8 b0 b1 b2 b3 b4 b5 b6 b7 fs ss fd ed lm dd ce cw n iss sb fst len off ren que kc pins sd dy) H := hP
  have hD : va_D A (wH cy h pn a0 a1 a2 a3 a4 a5 a6 a7 a8 b0 b1 b2 b3 b4 b5 b6 b7 fs ss fd ed lm dd ce cw n iss sb fst len off ren que kc pins sd dy) := hD
  have e_2 : badD d_ = false := e_2
  refine lv_aload_n hx hb dX2_covered_4 rfl (lv_at hl 0 rfl) ?_
  refine lv_iload_n hx hb dX2_covered_5 rfl (lv_at hl 1 rfl) ?_
  refine lv_iconst (v := (-1)) hx hb dX2_covered_6 (by decide) ?_
  refine kcW_i (n := 2) (wc := wH cy h pn a0 a1 a2 a3 a4 a5 a6 a7 a8 b0 b1 b2 b3 b4 b5 b6 b7 fs ss fd ed lm dd ce cw n iss sb fst len off ren que kc pins sd dy) (As := [.int d_, .int (-1)]) (rest := []) ⟨hx, hb, hml, hown, hts⟩ hE hA hP hD hS (c_X2_namesCovered l D cy h pn a0 a1 a2 a3 a4 a5 a6 a7 a8 b0 b1 b2 b3 b4 b5 b6 b7 fs ss fd ed lm dd ce cw n iss sb fst len off ren que kc pins sd dy d_ (-1) (by first | assumption | omega) (by first | assumption | omega)) (fun _ => rfl) (q0 := 0) (ci := 2) rfl rfl gX2_covered_X2_namesCovered rfl rfl rfl ⟨rfl, by decide, by decide, by decide +kernel⟩ ⟨Nat.le_of_ble_eq_true rfl, Nat.le_of_ble_eq_true rfl⟩ rfl hl.1 rfl (Nat.le_of_ble_eq_true rfl) dX2_covered_7 ⟨Nat.zero_le _, Nat.zero_le _⟩ (fun r_3 u H locs e_4 hP hD hS => ?_)
  have hP : va_P D vwCl (wH cy h pn a0 a1 a2 a3 a4 a5 a6 a7 a8 b0 b1 b2 b3 b4 b5 b6 b7 fs ss fd ed lm dd ce cw n iss sb fst len off ren que kc pins sd dy) H := hP
  have hD : va_D A (wH cy h pn a0 a1 a2 a3 a4 a5 a6 a7 a8 b0 b1 b2 b3 b4 b5 b6 b7 fs ss fd ed lm dd ce cw n iss sb fst len off ren que kc pins sd dy) := hD
  have e_4 : r_3 = nhN iss sb fst len d_ (goodM fs ss fd ed dd d_ (-1) n) kc := e_4
  subst e_4
  exact hret _ _ _ _ (nhN iss sb fst len d_ (goodM fs ss fd ed dd d_ (-1) n) kc) () dX2_covered_10 (Or.inl rfl) (⟨rfl, by simp [cdD, e_2]⟩) hP hS

set_option maxHeartbeats 4000000 in
set_option maxRecDepth 100000 in
theorem c_X2_breaks (l : Launch) (D : va_G) (cy : ClassId × ClassId × ClassId) (hfl : l.stackTraces = false) (h pn a0 a1 a2 a3 a4 a5 a6 a7 a8 b0 b1 b2 b3 b4 b5 b6 b7 : Nat) (fs ss fd ed lm dd ce cw : Nat → Int32) (n : Nat) (iss sb fst len off ren que : Nat → Int32) (kc : Nat) (pins : Nat → Int32) (sd dy : Int32) (i_ : Int32) (d_ : Int32) (hn : n ≤ 8) (hc : kc ≤ 60) : kXI l D cy yX2_breaks wsX2_breaks (krx 7 111) [.ref h, .int i_, .int d_] (wH cy h pn a0 a1 a2 a3 a4 a5 a6 a7 a8 b0 b1 b2 b3 b4 b5 b6 b7 fs ss fd ed lm dd ce cw n iss sb fst len off ren que kc pins sd dy) (fun (r : Int32) (u : Unit) => r = lostC fs ss fd ed dd n iss sb fst len kc d_ i_ ∧ cdID n i_ d_ = 0) (fun _ : Unit => wH cy h pn a0 a1 a2 a3 a4 a5 a6 a7 a8 b0 b1 b2 b3 b4 b5 b6 b7 fs ss fd ed lm dd ce cw n iss sb fst len off ren que kc pins sd dy) (fun E => xkA E (cdID n i_ d_)) (wH cy h pn a0 a1 a2 a3 a4 a5 a6 a7 a8 b0 b1 b2 b3 b4 b5 b6 b7 fs ss fd ed lm dd ce cw n iss sb fst len off ren que kc pins sd dy) := by
  refine kXI.of (cc := cX2_breaks) (maxL := 3) (rt := .int) (Or.inl rfl) hfl (by decide) rfl rfl (Nat.le_of_ble_eq_true rfl) (Nat.le_of_ble_eq_true rfl) (Nat.le_of_ble_eq_true rfl) ?_
  intro p e s m args below meth c Q A ls hx hb hml hown hts hE hA hP hD hl hZ hret hthrow hout
  have hS : va_S A s.heap s.heap [] := va_S.rf
  have hl : lv_has ls 3 [(0, .ref h), (1, .int i_), (2, .int d_)] := hl
  refine lv_aload_n hx hb dX2_breaks_0 rfl (lv_at hl 0 rfl) ?_
  refine lv_iload_n hx hb dX2_breaks_1 rfl (lv_at hl 1 rfl) ?_
  refine kxW_v (n := 1) (wc := wH cy h pn a0 a1 a2 a3 a4 a5 a6 a7 a8 b0 b1 b2 b3 b4 b5 b6 b7 fs ss fd ed lm dd ce cw n iss sb fst len off ren que kc pins sd dy) (As := [.int i_]) (rest := []) ⟨hx, hb, hml, hown, hts⟩ hE hA hZ hP hD hS (c_X2_checkIssuer l D cy hfl h pn a0 a1 a2 a3 a4 a5 a6 a7 a8 b0 b1 b2 b3 b4 b5 b6 b7 fs ss fd ed lm dd ce cw n iss sb fst len off ren que kc pins sd dy i_) (fun _ => rfl) (q0 := 0) (ci := 2) rfl rfl gX2_breaks_X2_checkIssuer rfl rfl rfl ⟨rfl, by decide, by decide, by decide +kernel⟩ ⟨Nat.le_of_ble_eq_true rfl, Nat.le_of_ble_eq_true rfl⟩ rfl hl.1 rfl (Nat.le_of_ble_eq_true rfl) dX2_breaks_2 ⟨Nat.le_of_ble_eq_true rfl, Nat.le_of_ble_eq_true rfl⟩ (fun E ce q9 H locs hpx hP hS h1 h2 h3 => by obtain ⟨rfl, hb9⟩ := hpx; exact hout _ _ _ _ _ _ ce q9 hS h1 h2 h3 (Or.inl ⟨rfl, by simp [cdID, hb9]⟩) hP) (fun u H locs e_2 hP hD hS => ?_)
  have hP : va_P D vwCl (wH cy h pn a0 a1 a2 a3 a4 a5 a6 a7 a8 b0 b1 b2 b3 b4 b5 b6 b7 fs ss fd ed lm dd ce cw n iss sb fst len off ren que kc pins sd dy) H := hP
  have hD : va_D A (wH cy h pn a0 a1 a2 a3 a4 a5 a6 a7 a8 b0 b1 b2 b3 b4 b5 b6 b7 fs ss fd ed lm dd ce cw n iss sb fst len off ren que kc pins sd dy) := hD
  have e_2 : badI n i_ = false := e_2
  refine lv_iload_n hx hb dX2_breaks_5 rfl (lv_at hl 2 rfl) ?_
  refine kxS_v (n := 1) (X := []) (wc := []) (Y := wH cy h pn a0 a1 a2 a3 a4 a5 a6 a7 a8 b0 b1 b2 b3 b4 b5 b6 b7 fs ss fd ed lm dd ce cw n iss sb fst len off ren que kc pins sd dy) (As := [.int d_]) (rest := []) ⟨hx, hb, hml, hown, hts⟩ hE hA hZ hP hD hS (c_X2_checkDay l D cy hfl d_) (fun _ => rfl) gX2_breaks_X2_checkDay rfl rfl rfl ⟨by decide, by decide, by decide +kernel⟩ ⟨Nat.le_of_ble_eq_true rfl, Nat.le_of_ble_eq_true rfl⟩ rfl hl.1 rfl (Nat.le_of_ble_eq_true rfl) dX2_breaks_6 ⟨Nat.le_of_ble_eq_true rfl, Nat.le_of_ble_eq_true rfl⟩ (fun E ce q9 H locs hpx hP hS h1 h2 h3 => by obtain ⟨rfl, hb9⟩ := hpx; exact hout _ _ _ _ _ _ ce q9 hS h1 h2 h3 (Or.inr (Or.inl ⟨rfl, by simp [cdID, e_2, hb9]⟩)) hP) (fun u H locs e_4 hP hD hS => ?_)
  have hP : va_P D vwCl (wH cy h pn a0 a1 a2 a3 a4 a5 a6 a7 a8 b0 b1 b2 b3 b4 b5 b6 b7 fs ss fd ed lm dd ce cw n iss sb fst len off ren que kc pins sd dy) H := hP
  have hD : va_D A (wH cy h pn a0 a1 a2 a3 a4 a5 a6 a7 a8 b0 b1 b2 b3 b4 b5 b6 b7 fs ss fd ed lm dd ce cw n iss sb fst len off ren que kc pins sd dy) := hD
  have e_4 : badD d_ = false := e_4
  refine lv_aload_n hx hb dX2_breaks_9 rfl (lv_at hl 0 rfl) ?_
  refine lv_iload_n hx hb dX2_breaks_10 rfl (lv_at hl 1 rfl) ?_
  refine lv_iload_n hx hb dX2_breaks_11 rfl (lv_at hl 2 rfl) ?_
  refine kcW_i (n := 2) (wc := wH cy h pn a0 a1 a2 a3 a4 a5 a6 a7 a8 b0 b1 b2 b3 b4 b5 b6 b7 fs ss fd ed lm dd ce cw n iss sb fst len off ren que kc pins sd dy) (As := [.int i_, .int d_]) (rest := []) ⟨hx, hb, hml, hown, hts⟩ hE hA hP hD hS (c_X2_namesLostWithout l D cy h pn a0 a1 a2 a3 a4 a5 a6 a7 a8 b0 b1 b2 b3 b4 b5 b6 b7 fs ss fd ed lm dd ce cw n iss sb fst len off ren que kc pins sd dy i_ d_ (by first | assumption | omega) (by first | assumption | omega)) (fun _ => rfl) (q0 := 0) (ci := 2) rfl rfl gX2_breaks_X2_namesLostWithout rfl rfl rfl ⟨rfl, by decide, by decide, by decide +kernel⟩ ⟨Nat.le_of_ble_eq_true rfl, Nat.le_of_ble_eq_true rfl⟩ rfl hl.1 rfl (Nat.le_of_ble_eq_true rfl) dX2_breaks_12 ⟨Nat.zero_le _, Nat.zero_le _⟩ (fun r_5 u H locs e_6 hP hD hS => ?_)
  have hP : va_P D vwCl (wH cy h pn a0 a1 a2 a3 a4 a5 a6 a7 a8 b0 b1 b2 b3 b4 b5 b6 b7 fs ss fd ed lm dd ce cw n iss sb fst len off ren que kc pins sd dy) H := hP
  have hD : va_D A (wH cy h pn a0 a1 a2 a3 a4 a5 a6 a7 a8 b0 b1 b2 b3 b4 b5 b6 b7 fs ss fd ed lm dd ce cw n iss sb fst len off ren que kc pins sd dy) := hD
  have e_6 : r_5 = lostC fs ss fd ed dd n iss sb fst len kc d_ i_ := e_6
  subst e_6
  exact hret _ _ _ _ (lostC fs ss fd ed dd n iss sb fst len kc d_ i_) () dX2_breaks_15 (Or.inl rfl) (⟨rfl, by simp [cdID, e_2, e_4]⟩) hP hS

set_option maxHeartbeats 4000000 in
set_option maxRecDepth 100000 in
theorem c_J6_bitCount_0f7a4 (l : Launch) (D : va_G) (cy : ClassId × ClassId × ClassId) (x_ : Int32) : kI l D cy yJ6_bitCount_0f7a4 wsJ6_bitCount_0f7a4 (krm 0 0) [.int x_] (([] : va_W)) (fun (r : Int32) (u : Unit) => r = bcN x_) (fun _ : Unit => ([] : va_W)) := by
  refine kI.of (cc := cJ6_bitCount_0f7a4) (maxL := 1) (rt := .int) (Or.inl rfl) (by decide) rfl (Nat.le_of_ble_eq_true rfl) ?_
  intro p e s m args below meth c Q A ls hx hb hml hown hts hE hA hP hD hl hret
  have hS : va_S A s.heap s.heap [] := va_S.rf
  have hl : lv_has ls 1 [(0, .int x_)] := hl
  refine lv_iload_n hx hb dJ6_bitCount_0f7a4_0 rfl (lv_at hl 0 rfl) ?_
  refine lv_iload_n hx hb dJ6_bitCount_0f7a4_1 rfl (lv_at hl 0 rfl) ?_
  refine lv_iconst (v := 1) hx hb dJ6_bitCount_0f7a4_2 (by decide) ?_
  refine lv_iushr hx hb dJ6_bitCount_0f7a4_3 rfl ?_
  refine lv_ldcw (v := 1431655765) hx hb hown (hts (.constant RJ6 265 (1431655765)) (by decide +kernel)) dJ6_bitCount_0f7a4_4 ?_
  refine lv_iand hx hb dJ6_bitCount_0f7a4_7 ?_
  refine lv_isub hx hb dJ6_bitCount_0f7a4_8 ?_
  refine lv_istore_n (lv' := [(0, .int (x_ - (((x_.toUInt32 >>> ((1 : Int32).toUInt32 &&& Int32.toUInt32 31)).toInt32) &&& 1431655765)))]) hx hb dJ6_bitCount_0f7a4_9 rfl hl (by decide) rfl (fun ls hl => ?_)
  refine lv_iload_n hx hb dJ6_bitCount_0f7a4_10 rfl (lv_at hl 0 rfl) ?_
  refine lv_ldcw (v := 858993459) hx hb hown (hts (.constant RJ6 266 (858993459)) (by decide +kernel)) dJ6_bitCount_0f7a4_11 ?_
  refine lv_iand hx hb dJ6_bitCount_0f7a4_14 ?_
  refine lv_iload_n hx hb dJ6_bitCount_0f7a4_15 rfl (lv_at hl 0 rfl) ?_
  refine lv_iconst (v := 2) hx hb dJ6_bitCount_0f7a4_16 (by decide) ?_
  refine lv_iushr hx hb dJ6_bitCount_0f7a4_17 rfl ?_
  refine lv_ldcw (v := 858993459) hx hb hown (hts (.constant RJ6 266 (858993459)) (by decide +kernel)) dJ6_bitCount_0f7a4_18 ?_
  refine lv_iand hx hb dJ6_bitCount_0f7a4_21 ?_
  refine lv_iadd hx hb dJ6_bitCount_0f7a4_22 ?_
  refine lv_istore_n (lv' := [(0, .int (((x_ - (((x_.toUInt32 >>> ((1 : Int32).toUInt32 &&& Int32.toUInt32 31)).toInt32) &&& 1431655765)) &&& 858993459) + ((((x_ - (((x_.toUInt32 >>> ((1 : Int32).toUInt32 &&& Int32.toUInt32 31)).toInt32) &&& 1431655765)).toUInt32 >>> ((2 : Int32).toUInt32 &&& Int32.toUInt32 31)).toInt32) &&& 858993459)))]) hx hb dJ6_bitCount_0f7a4_23 rfl hl (by decide) rfl (fun ls hl => ?_)
  refine lv_iload_n hx hb dJ6_bitCount_0f7a4_24 rfl (lv_at hl 0 rfl) ?_
  refine lv_iload_n hx hb dJ6_bitCount_0f7a4_25 rfl (lv_at hl 0 rfl) ?_
  refine lv_iconst (v := 4) hx hb dJ6_bitCount_0f7a4_26 (by decide) ?_
  refine lv_iushr hx hb dJ6_bitCount_0f7a4_27 rfl ?_
  refine lv_iadd hx hb dJ6_bitCount_0f7a4_28 ?_
  refine lv_ldcw (v := 252645135) hx hb hown (hts (.constant RJ6 267 (252645135)) (by decide +kernel)) dJ6_bitCount_0f7a4_29 ?_
  refine lv_iand hx hb dJ6_bitCount_0f7a4_32 ?_
  refine lv_istore_n (lv' := [(0, .int (((((x_ - (((x_.toUInt32 >>> ((1 : Int32).toUInt32 &&& Int32.toUInt32 31)).toInt32) &&& 1431655765)) &&& 858993459) + ((((x_ - (((x_.toUInt32 >>> ((1 : Int32).toUInt32 &&& Int32.toUInt32 31)).toInt32) &&& 1431655765)).toUInt32 >>> ((2 : Int32).toUInt32 &&& Int32.toUInt32 31)).toInt32) &&& 858993459)) + (((((x_ - (((x_.toUInt32 >>> ((1 : Int32).toUInt32 &&& Int32.toUInt32 31)).toInt32) &&& 1431655765)) &&& 858993459) + ((((x_ - (((x_.toUInt32 >>> ((1 : Int32).toUInt32 &&& Int32.toUInt32 31)).toInt32) &&& 1431655765)).toUInt32 >>> ((2 : Int32).toUInt32 &&& Int32.toUInt32 31)).toInt32) &&& 858993459)).toUInt32 >>> ((4 : Int32).toUInt32 &&& Int32.toUInt32 31)).toInt32)) &&& 252645135))]) hx hb dJ6_bitCount_0f7a4_33 rfl hl (by decide) rfl (fun ls hl => ?_)
  refine lv_iload_n hx hb dJ6_bitCount_0f7a4_34 rfl (lv_at hl 0 rfl) ?_
  refine lv_iload_n hx hb dJ6_bitCount_0f7a4_35 rfl (lv_at hl 0 rfl) ?_
  refine lv_bipush (v := 8) hx hb dJ6_bitCount_0f7a4_36 (by decide) ?_
  refine lv_iushr hx hb dJ6_bitCount_0f7a4_38 rfl ?_
  refine lv_iadd hx hb dJ6_bitCount_0f7a4_39 ?_
  refine lv_istore_n (lv' := [(0, .int ((((((x_ - (((x_.toUInt32 >>> ((1 : Int32).toUInt32 &&& Int32.toUInt32 31)).toInt32) &&& 1431655765)) &&& 858993459) + ((((x_ - (((x_.toUInt32 >>> ((1 : Int32).toUInt32 &&& Int32.toUInt32 31)).toInt32) &&& 1431655765)).toUInt32 >>> ((2 : Int32).toUInt32 &&& Int32.toUInt32 31)).toInt32) &&& 858993459)) + (((((x_ - (((x_.toUInt32 >>> ((1 : Int32).toUInt32 &&& Int32.toUInt32 31)).toInt32) &&& 1431655765)) &&& 858993459) + ((((x_ - (((x_.toUInt32 >>> ((1 : Int32).toUInt32 &&& Int32.toUInt32 31)).toInt32) &&& 1431655765)).toUInt32 >>> ((2 : Int32).toUInt32 &&& Int32.toUInt32 31)).toInt32) &&& 858993459)).toUInt32 >>> ((4 : Int32).toUInt32 &&& Int32.toUInt32 31)).toInt32)) &&& 252645135) + (((((((x_ - (((x_.toUInt32 >>> ((1 : Int32).toUInt32 &&& Int32.toUInt32 31)).toInt32) &&& 1431655765)) &&& 858993459) + ((((x_ - (((x_.toUInt32 >>> ((1 : Int32).toUInt32 &&& Int32.toUInt32 31)).toInt32) &&& 1431655765)).toUInt32 >>> ((2 : Int32).toUInt32 &&& Int32.toUInt32 31)).toInt32) &&& 858993459)) + (((((x_ - (((x_.toUInt32 >>> ((1 : Int32).toUInt32 &&& Int32.toUInt32 31)).toInt32) &&& 1431655765)) &&& 858993459) + ((((x_ - (((x_.toUInt32 >>> ((1 : Int32).toUInt32 &&& Int32.toUInt32 31)).toInt32) &&& 1431655765)).toUInt32 >>> ((2 : Int32).toUInt32 &&& Int32.toUInt32 31)).toInt32) &&& 858993459)).toUInt32 >>> ((4 : Int32).toUInt32 &&& Int32.toUInt32 31)).toInt32)) &&& 252645135).toUInt32 >>> ((8 : Int32).toUInt32 &&& Int32.toUInt32 31)).toInt32)))]) hx hb dJ6_bitCount_0f7a4_40 rfl hl (by decide) rfl (fun ls hl => ?_)
  refine lv_iload_n hx hb dJ6_bitCount_0f7a4_41 rfl (lv_at hl 0 rfl) ?_
  refine lv_iload_n hx hb dJ6_bitCount_0f7a4_42 rfl (lv_at hl 0 rfl) ?_
  refine lv_bipush (v := 16) hx hb dJ6_bitCount_0f7a4_43 (by decide) ?_
  refine lv_iushr hx hb dJ6_bitCount_0f7a4_45 rfl ?_
  refine lv_iadd hx hb dJ6_bitCount_0f7a4_46 ?_
  refine lv_istore_n (lv' := [(0, .int (((((((x_ - (((x_.toUInt32 >>> ((1 : Int32).toUInt32 &&& Int32.toUInt32 31)).toInt32) &&& 1431655765)) &&& 858993459) + ((((x_ - (((x_.toUInt32 >>> ((1 : Int32).toUInt32 &&& Int32.toUInt32 31)).toInt32) &&& 1431655765)).toUInt32 >>> ((2 : Int32).toUInt32 &&& Int32.toUInt32 31)).toInt32) &&& 858993459)) + (((((x_ - (((x_.toUInt32 >>> ((1 : Int32).toUInt32 &&& Int32.toUInt32 31)).toInt32) &&& 1431655765)) &&& 858993459) + ((((x_ - (((x_.toUInt32 >>> ((1 : Int32).toUInt32 &&& Int32.toUInt32 31)).toInt32) &&& 1431655765)).toUInt32 >>> ((2 : Int32).toUInt32 &&& Int32.toUInt32 31)).toInt32) &&& 858993459)).toUInt32 >>> ((4 : Int32).toUInt32 &&& Int32.toUInt32 31)).toInt32)) &&& 252645135) + (((((((x_ - (((x_.toUInt32 >>> ((1 : Int32).toUInt32 &&& Int32.toUInt32 31)).toInt32) &&& 1431655765)) &&& 858993459) + ((((x_ - (((x_.toUInt32 >>> ((1 : Int32).toUInt32 &&& Int32.toUInt32 31)).toInt32) &&& 1431655765)).toUInt32 >>> ((2 : Int32).toUInt32 &&& Int32.toUInt32 31)).toInt32) &&& 858993459)) + (((((x_ - (((x_.toUInt32 >>> ((1 : Int32).toUInt32 &&& Int32.toUInt32 31)).toInt32) &&& 1431655765)) &&& 858993459) + ((((x_ - (((x_.toUInt32 >>> ((1 : Int32).toUInt32 &&& Int32.toUInt32 31)).toInt32) &&& 1431655765)).toUInt32 >>> ((2 : Int32).toUInt32 &&& Int32.toUInt32 31)).toInt32) &&& 858993459)).toUInt32 >>> ((4 : Int32).toUInt32 &&& Int32.toUInt32 31)).toInt32)) &&& 252645135).toUInt32 >>> ((8 : Int32).toUInt32 &&& Int32.toUInt32 31)).toInt32)) + ((((((((x_ - (((x_.toUInt32 >>> ((1 : Int32).toUInt32 &&& Int32.toUInt32 31)).toInt32) &&& 1431655765)) &&& 858993459) + ((((x_ - (((x_.toUInt32 >>> ((1 : Int32).toUInt32 &&& Int32.toUInt32 31)).toInt32) &&& 1431655765)).toUInt32 >>> ((2 : Int32).toUInt32 &&& Int32.toUInt32 31)).toInt32) &&& 858993459)) + (((((x_ - (((x_.toUInt32 >>> ((1 : Int32).toUInt32 &&& Int32.toUInt32 31)).toInt32) &&& 1431655765)) &&& 858993459) + ((((x_ - (((x_.toUInt32 >>> ((1 : Int32).toUInt32 &&& Int32.toUInt32 31)).toInt32) &&& 1431655765)).toUInt32 >>> ((2 : Int32).toUInt32 &&& Int32.toUInt32 31)).toInt32) &&& 858993459)).toUInt32 >>> ((4 : Int32).toUInt32 &&& Int32.toUInt32 31)).toInt32)) &&& 252645135) + (((((((x_ - (((x_.toUInt32 >>> ((1 : Int32).toUInt32 &&& Int32.toUInt32 31)).toInt32) &&& 1431655765)) &&& 858993459) + ((((x_ - (((x_.toUInt32 >>> ((1 : Int32).toUInt32 &&& Int32.toUInt32 31)).toInt32) &&& 1431655765)).toUInt32 >>> ((2 : Int32).toUInt32 &&& Int32.toUInt32 31)).toInt32) &&& 858993459)) + (((((x_ - (((x_.toUInt32 >>> ((1 : Int32).toUInt32 &&& Int32.toUInt32 31)).toInt32) &&& 1431655765)) &&& 858993459) + ((((x_ - (((x_.toUInt32 >>> ((1 : Int32).toUInt32 &&& Int32.toUInt32 31)).toInt32) &&& 1431655765)).toUInt32 >>> ((2 : Int32).toUInt32 &&& Int32.toUInt32 31)).toInt32) &&& 858993459)).toUInt32 >>> ((4 : Int32).toUInt32 &&& Int32.toUInt32 31)).toInt32)) &&& 252645135).toUInt32 >>> ((8 : Int32).toUInt32 &&& Int32.toUInt32 31)).toInt32)).toUInt32 >>> ((16 : Int32).toUInt32 &&& Int32.toUInt32 31)).toInt32)))]) hx hb dJ6_bitCount_0f7a4_47 rfl hl (by decide) rfl (fun ls hl => ?_)
  refine lv_iload_n hx hb dJ6_bitCount_0f7a4_48 rfl (lv_at hl 0 rfl) ?_
  refine lv_bipush (v := 63) hx hb dJ6_bitCount_0f7a4_49 (by decide) ?_
  refine lv_iand hx hb dJ6_bitCount_0f7a4_51 ?_
  exact hret _ _ _ _ ((((((((x_ - (((x_.toUInt32 >>> ((1 : Int32).toUInt32 &&& Int32.toUInt32 31)).toInt32) &&& 1431655765)) &&& 858993459) + ((((x_ - (((x_.toUInt32 >>> ((1 : Int32).toUInt32 &&& Int32.toUInt32 31)).toInt32) &&& 1431655765)).toUInt32 >>> ((2 : Int32).toUInt32 &&& Int32.toUInt32 31)).toInt32) &&& 858993459)) + (((((x_ - (((x_.toUInt32 >>> ((1 : Int32).toUInt32 &&& Int32.toUInt32 31)).toInt32) &&& 1431655765)) &&& 858993459) + ((((x_ - (((x_.toUInt32 >>> ((1 : Int32).toUInt32 &&& Int32.toUInt32 31)).toInt32) &&& 1431655765)).toUInt32 >>> ((2 : Int32).toUInt32 &&& Int32.toUInt32 31)).toInt32) &&& 858993459)).toUInt32 >>> ((4 : Int32).toUInt32 &&& Int32.toUInt32 31)).toInt32)) &&& 252645135) + (((((((x_ - (((x_.toUInt32 >>> ((1 : Int32).toUInt32 &&& Int32.toUInt32 31)).toInt32) &&& 1431655765)) &&& 858993459) + ((((x_ - (((x_.toUInt32 >>> ((1 : Int32).toUInt32 &&& Int32.toUInt32 31)).toInt32) &&& 1431655765)).toUInt32 >>> ((2 : Int32).toUInt32 &&& Int32.toUInt32 31)).toInt32) &&& 858993459)) + (((((x_ - (((x_.toUInt32 >>> ((1 : Int32).toUInt32 &&& Int32.toUInt32 31)).toInt32) &&& 1431655765)) &&& 858993459) + ((((x_ - (((x_.toUInt32 >>> ((1 : Int32).toUInt32 &&& Int32.toUInt32 31)).toInt32) &&& 1431655765)).toUInt32 >>> ((2 : Int32).toUInt32 &&& Int32.toUInt32 31)).toInt32) &&& 858993459)).toUInt32 >>> ((4 : Int32).toUInt32 &&& Int32.toUInt32 31)).toInt32)) &&& 252645135).toUInt32 >>> ((8 : Int32).toUInt32 &&& Int32.toUInt32 31)).toInt32)) + ((((((((x_ - (((x_.toUInt32 >>> ((1 : Int32).toUInt32 &&& Int32.toUInt32 31)).toInt32) &&& 1431655765)) &&& 858993459) + ((((x_ - (((x_.toUInt32 >>> ((1 : Int32).toUInt32 &&& Int32.toUInt32 31)).toInt32) &&& 1431655765)).toUInt32 >>> ((2 : Int32).toUInt32 &&& Int32.toUInt32 31)).toInt32) &&& 858993459)) + (((((x_ - (((x_.toUInt32 >>> ((1 : Int32).toUInt32 &&& Int32.toUInt32 31)).toInt32) &&& 1431655765)) &&& 858993459) + ((((x_ - (((x_.toUInt32 >>> ((1 : Int32).toUInt32 &&& Int32.toUInt32 31)).toInt32) &&& 1431655765)).toUInt32 >>> ((2 : Int32).toUInt32 &&& Int32.toUInt32 31)).toInt32) &&& 858993459)).toUInt32 >>> ((4 : Int32).toUInt32 &&& Int32.toUInt32 31)).toInt32)) &&& 252645135) + (((((((x_ - (((x_.toUInt32 >>> ((1 : Int32).toUInt32 &&& Int32.toUInt32 31)).toInt32) &&& 1431655765)) &&& 858993459) + ((((x_ - (((x_.toUInt32 >>> ((1 : Int32).toUInt32 &&& Int32.toUInt32 31)).toInt32) &&& 1431655765)).toUInt32 >>> ((2 : Int32).toUInt32 &&& Int32.toUInt32 31)).toInt32) &&& 858993459)) + (((((x_ - (((x_.toUInt32 >>> ((1 : Int32).toUInt32 &&& Int32.toUInt32 31)).toInt32) &&& 1431655765)) &&& 858993459) + ((((x_ - (((x_.toUInt32 >>> ((1 : Int32).toUInt32 &&& Int32.toUInt32 31)).toInt32) &&& 1431655765)).toUInt32 >>> ((2 : Int32).toUInt32 &&& Int32.toUInt32 31)).toInt32) &&& 858993459)).toUInt32 >>> ((4 : Int32).toUInt32 &&& Int32.toUInt32 31)).toInt32)) &&& 252645135).toUInt32 >>> ((8 : Int32).toUInt32 &&& Int32.toUInt32 31)).toInt32)).toUInt32 >>> ((16 : Int32).toUInt32 &&& Int32.toUInt32 31)).toInt32)) &&& 63) () dJ6_bitCount_0f7a4_52 (Or.inl rfl) rfl hP hS

set_option maxHeartbeats 4000000 in
set_option maxRecDepth 100000 in
theorem c_X2_weakest (l : Launch) (D : va_G) (cy : ClassId × ClassId × ClassId) (hfl : l.stackTraces = false) (h pn a0 a1 a2 a3 a4 a5 a6 a7 a8 b0 b1 b2 b3 b4 b5 b6 b7 : Nat) (fs ss fd ed lm dd ce cw : Nat → Int32) (n : Nat) (iss sb fst len off ren que : Nat → Int32) (kc : Nat) (pins : Nat → Int32) (sd dy : Int32) (d_ : Int32) (hn : n ≤ 8) (hc : kc ≤ 60) : kXI l D cy yX2_weakest wsX2_weakest (krx 7 111) [.ref h, .int d_] (wH cy h pn a0 a1 a2 a3 a4 a5 a6 a7 a8 b0 b1 b2 b3 b4 b5 b6 b7 fs ss fd ed lm dd ce cw n iss sb fst len off ren que kc pins sd dy) (fun (r : Int32) (u : Unit) => r = (wkN bcN (fun k => lostC fs ss fd ed dd n iss sb fst len kc d_ (nI k)) n).1 ∧ cdD d_ = 0) (fun _ : Unit => wH cy h pn a0 a1 a2 a3 a4 a5 a6 a7 a8 b0 b1 b2 b3 b4 b5 b6 b7 fs ss fd ed lm dd ce cw n iss sb fst len off ren que kc pins sd dy) (fun E => xkB E (cdD d_)) (wH cy h pn a0 a1 a2 a3 a4 a5 a6 a7 a8 b0 b1 b2 b3 b4 b5 b6 b7 fs ss fd ed lm dd ce cw n iss sb fst len off ren que kc pins sd dy) := by
  refine kXI.of (cc := cX2_weakest) (maxL := 6) (rt := .int) (Or.inl rfl) hfl (by decide) rfl rfl (Nat.le_of_ble_eq_true rfl) (Nat.le_of_ble_eq_true rfl) (Nat.le_of_ble_eq_true rfl) ?_
  intro p e s m args below meth c Q A ls hx hb hml hown hts hE hA hP hD hl hZ hret hthrow hout
  have hS : va_S A s.heap s.heap [] := va_S.rf
  have hl : lv_has ls 6 [(0, .ref h), (1, .int d_)] := hl
  have g_X2 : ∀ w ∈ wsX20, w ∈ wsX2_weakest := by decide +kernel
  have f_10 := hts (.fieldLink RX2 10 "CertHerd" "issuerTable" "LCertHerd$IssuerTable;") (by decide +kernel)
  have g_X1 : ∀ w ∈ wsX10, w ∈ wsX2_weakest := by decide +kernel
  have f_107 := hts (.fieldLink RX2 107 "CertHerd$IssuerTable" "count" "I") (by decide +kernel)
  refine lv_iload_n hx hb dX2_weakest_0 rfl (lv_at hl 1 rfl) ?_
  refine kxS_v (n := 1) (X := []) (wc := []) (Y := wH cy h pn a0 a1 a2 a3 a4 a5 a6 a7 a8 b0 b1 b2 b3 b4 b5 b6 b7 fs ss fd ed lm dd ce cw n iss sb fst len off ren que kc pins sd dy) (As := [.int d_]) (rest := []) ⟨hx, hb, hml, hown, hts⟩ hE hA hZ hP hD hS (c_X2_checkDay l D cy hfl d_) (fun _ => rfl) gX2_weakest_X2_checkDay rfl rfl rfl ⟨by decide, by decide, by decide +kernel⟩ ⟨Nat.le_of_ble_eq_true rfl, Nat.le_of_ble_eq_true rfl⟩ rfl hl.1 rfl (Nat.le_of_ble_eq_true rfl) dX2_weakest_1 ⟨Nat.le_of_ble_eq_true rfl, Nat.le_of_ble_eq_true rfl⟩ (fun E ce q9 H locs hpx hP hS h1 h2 h3 => by obtain ⟨rfl, hb9⟩ := hpx; exact hout _ _ _ _ _ _ ce q9 hS h1 h2 h3 (Or.inl ⟨rfl, by simp [cdD, hb9]⟩) hP) (fun u H locs e_2 hP hD hS => ?_)
  have hP : va_P D vwCl (wH cy h pn a0 a1 a2 a3 a4 a5 a6 a7 a8 b0 b1 b2 b3 b4 b5 b6 b7 fs ss fd ed lm dd ce cw n iss sb fst len off ren que kc pins sd dy) H := hP
  have hD : va_D A (wH cy h pn a0 a1 a2 a3 a4 a5 a6 a7 a8 b0 b1 b2 b3 b4 b5 b6 b7 fs ss fd ed lm dd ce cw n iss sb fst len off ren que kc pins sd dy) := hD
  have e_2 : badD d_ = false := e_2
  refine lv_iconst (v := (-1)) hx hb dX2_weakest_4 (by decide) ?_
  refine lv_istore_n (lv' := [(2, .int (-1)), (0, .ref h), (1, .int d_)]) hx hb dX2_weakest_5 rfl hl (by decide) rfl (fun ls hl => ?_)
  refine lv_iconst (v := 0) hx hb dX2_weakest_6 (by decide) ?_
  refine lv_istore_n (lv' := [(3, .int 0), (2, .int (-1)), (0, .ref h), (1, .int d_)]) hx hb dX2_weakest_7 rfl hl (by decide) rfl (fun ls hl => ?_)
  refine lv_iconst (v := 0) hx hb dX2_weakest_8 (by decide) ?_
  refine lv_istore (lv' := [(4, .int 0), (3, .int 0), (2, .int (-1)), (0, .ref h), (1, .int d_)]) hx hb dX2_weakest_9 hl (by decide) rfl (fun ls hl => ?_)
  have L_11 : ∀ (f : Nat) (k : Nat) (g1 g2 : Int32) (H : Heap) (locs : List Loc) (ls : Array Slot), ((n - k) < f) → (k ≤ n) → ((g1, g2) = wkN bcN (fun k => lostC fs ss fd ed dd n iss sb fst len kc d_ (nI k)) k) → va_P D vwCl (wH cy h pn a0 a1 a2 a3 a4 a5 a6 a7 a8 b0 b1 b2 b3 b4 b5 b6 b7 fs ss fd ed lm dd ce cw n iss sb fst len off ren que kc pins sd dy) H → va_D A (wH cy h pn a0 a1 a2 a3 a4 a5 a6 a7 a8 b0 b1 b2 b3 b4 b5 b6 b7 fs ss fd ed lm dd ce cw n iss sb fst len off ren que kc pins sd dy) → va_S A s.heap H locs → lv_has ls 6 [(4, .int (nI k)), (3, .int g2), (2, .int g1), (0, .ref h), (1, .int d_)] → W p l e (krx 7 111) s m args below meth c H locs 0 0 Q (F0 m 11 ls []) := by
    intro f
    induction f with
    | zero => intro k g1 g2 H locs ls hf; exact absurd hf (Nat.not_lt_zero _)
    | succ f ih_11 =>
      intro k g1 g2 H locs ls hf hk eg hP hD hS hl
      refine lv_iload hx hb dX2_weakest_11 (lv_at hl 0 rfl) ?_
      refine lv_aload_n hx hb dX2_weakest_13 rfl (lv_at hl 3 rfl) ?_
      refine va_get (D := D) (ci := 2) (v := .ref a0) (C := RX2) (T := TX2) (N := 5) hx hb hts g_X2 hown hE.1 hP 0 rfl rfl 0 (by decide) f_10 (fun _ h9 => h9) rfl dX2_weakest_14 ?_
      refine va_get (D := D) (ci := 1) (v := .int (nI n)) (C := RX1) (T := TX1) (N := 9) hx hb hts g_X1 hown hE.1 hP 1 rfl rfl 8 (by decide) f_107 (fun _ h9 => h9) rfl dX2_weakest_17 ?_
      refine lv_icmp_ge (tgt := 53) hx hb dX2_weakest_20 (by decide) (fun c_20 => ?_) (fun c_20 => ?_)
      · have c_20n : n ≤ k := k_leN (a := n) (b := k) (by omega) (by omega) c_20
        refine lv_iload_n hx hb dX2_weakest_53 rfl (lv_at hl 2 rfl) ?_
        exact hret _ _ _ _ g1 () dX2_weakest_54 (Or.inl rfl) (⟨by have e9 : k = n := (by omega); subst e9; rw [← eg], by simp [cdD, e_2, c_20]⟩) hP hS
      · have c_20n : ¬ n ≤ k := k_nleN (a := n) (b := k) (by omega) (by omega) c_20
        refine lv_aload_n hx hb dX2_weakest_23 rfl (lv_at hl 3 rfl) ?_
        refine lv_iload hx hb dX2_weakest_24 (lv_at hl 0 rfl) ?_
        refine lv_iload_n hx hb dX2_weakest_26 rfl (lv_at hl 4 rfl) ?_
        refine kcW_i (n := 2) (wc := wH cy h pn a0 a1 a2 a3 a4 a5 a6 a7 a8 b0 b1 b2 b3 b4 b5 b6 b7 fs ss fd ed lm dd ce cw n iss sb fst len off ren que kc pins sd dy) (As := [.int (nI k), .int d_]) (rest := []) ⟨hx, hb, hml, hown, hts⟩ hE hA hP hD hS (c_X2_namesLostWithout l D cy h pn a0 a1 a2 a3 a4 a5 a6 a7 a8 b0 b1 b2 b3 b4 b5 b6 b7 fs ss fd ed lm dd ce cw n iss sb fst len off ren que kc pins sd dy (nI k) d_ (by first | assumption | omega) (by first | assumption | omega)) (fun _ => rfl) (q0 := 0) (ci := 2) rfl rfl gX2_weakest_X2_namesLostWithout rfl rfl rfl ⟨rfl, by decide, by decide, by decide +kernel⟩ ⟨Nat.le_of_ble_eq_true rfl, Nat.le_of_ble_eq_true rfl⟩ rfl hl.1 rfl (Nat.le_of_ble_eq_true rfl) dX2_weakest_27 ⟨Nat.zero_le _, Nat.zero_le _⟩ (fun r_3 u H locs e_4 hP hD hS => ?_)
        have hP : va_P D vwCl (wH cy h pn a0 a1 a2 a3 a4 a5 a6 a7 a8 b0 b1 b2 b3 b4 b5 b6 b7 fs ss fd ed lm dd ce cw n iss sb fst len off ren que kc pins sd dy) H := hP
        have hD : va_D A (wH cy h pn a0 a1 a2 a3 a4 a5 a6 a7 a8 b0 b1 b2 b3 b4 b5 b6 b7 fs ss fd ed lm dd ce cw n iss sb fst len off ren que kc pins sd dy) := hD
        have e_4 : r_3 = lostC fs ss fd ed dd n iss sb fst len kc d_ (nI k) := e_4
        subst e_4
        refine kcS_i (n := 1) (X := []) (wc := []) (Y := wH cy h pn a0 a1 a2 a3 a4 a5 a6 a7 a8 b0 b1 b2 b3 b4 b5 b6 b7 fs ss fd ed lm dd ce cw n iss sb fst len off ren que kc pins sd dy) (As := [.int (lostC fs ss fd ed dd n iss sb fst len kc d_ (nI k))]) (rest := []) ⟨hx, hb, hml, hown, hts⟩ hE hA hP hD hS (c_J6_bitCount_0f7a4 l D cy (lostC fs ss fd ed dd n iss sb fst len kc d_ (nI k))) (fun _ => rfl) gX2_weakest_J6_bitCount_0f7a4 rfl rfl rfl ⟨by decide, by decide, by decide +kernel⟩ ⟨Nat.le_of_ble_eq_true rfl, Nat.le_of_ble_eq_true rfl⟩ rfl hl.1 rfl (Nat.le_of_ble_eq_true rfl) dX2_weakest_30 ⟨Nat.zero_le _, Nat.zero_le _⟩ (fun r_5 u H locs e_6 hP hD hS => ?_)
        have hP : va_P D vwCl (wH cy h pn a0 a1 a2 a3 a4 a5 a6 a7 a8 b0 b1 b2 b3 b4 b5 b6 b7 fs ss fd ed lm dd ce cw n iss sb fst len off ren que kc pins sd dy) H := hP
        have hD : va_D A (wH cy h pn a0 a1 a2 a3 a4 a5 a6 a7 a8 b0 b1 b2 b3 b4 b5 b6 b7 fs ss fd ed lm dd ce cw n iss sb fst len off ren que kc pins sd dy) := hD
        have e_6 : r_5 = bcN (lostC fs ss fd ed dd n iss sb fst len kc d_ (nI k)) := e_6
        subst e_6
        refine lv_istore (lv' := [(5, .int (bcN (lostC fs ss fd ed dd n iss sb fst len kc d_ (nI k)))), (4, .int (nI k)), (3, .int g2), (2, .int g1), (0, .ref h), (1, .int d_)]) hx hb dX2_weakest_33 hl (by decide) rfl (fun ls hl => ?_)
        refine lv_iload hx hb dX2_weakest_35 (lv_at hl 0 rfl) ?_
        refine lv_iload_n hx hb dX2_weakest_37 rfl (lv_at hl 2 rfl) ?_
        refine lv_icmp_le (tgt := 47) hx hb dX2_weakest_38 (by decide) (fun c_38 => ?_) (fun c_38 => ?_)
        · refine lv_iinc (v := (nI (k + 1))) (lv' := [(4, .int (nI (k + 1))), (5, .int (bcN (lostC fs ss fd ed dd n iss sb fst len kc d_ (nI k)))), (3, .int g2), (2, .int g1), (0, .ref h), (1, .int d_)]) hx hb dX2_weakest_47 hl (k := 1) rfl (k_inc _) (by decide) rfl (fun ls hl => ?_)
          refine lv_goto (tgt := 11) hx hb dX2_weakest_50 (by decide) ?_
          exact ih_11 (k + 1) g1 g2 _ _ ls (by omega) (by omega) (by rw [wkN, ← eg]; exact (if_pos c_38).symm) hP hD hS (lv_sub hl [0, 2, 3, 4, 5] rfl)
        · refine lv_iload hx hb dX2_weakest_41 (lv_at hl 0 rfl) ?_
          refine lv_istore_n (lv' := [(3, .int (bcN (lostC fs ss fd ed dd n iss sb fst len kc d_ (nI k)))), (5, .int (bcN (lostC fs ss fd ed dd n iss sb fst len kc d_ (nI k)))), (4, .int (nI k)), (2, .int g1), (0, .ref h), (1, .int d_)]) hx hb dX2_weakest_43 rfl hl (by decide) rfl (fun ls hl => ?_)
          refine lv_iload hx hb dX2_weakest_44 (lv_at hl 2 rfl) ?_
          refine lv_istore_n (lv' := [(2, .int (nI k)), (3, .int (bcN (lostC fs ss fd ed dd n iss sb fst len kc d_ (nI k)))), (5, .int (bcN (lostC fs ss fd ed dd n iss sb fst len kc d_ (nI k)))), (4, .int (nI k)), (0, .ref h), (1, .int d_)]) hx hb dX2_weakest_46 rfl hl (by decide) rfl (fun ls hl => ?_)
          refine lv_iinc (v := (nI (k + 1))) (lv' := [(4, .int (nI (k + 1))), (2, .int (nI k)), (3, .int (bcN (lostC fs ss fd ed dd n iss sb fst len kc d_ (nI k)))), (5, .int (bcN (lostC fs ss fd ed dd n iss sb fst len kc d_ (nI k)))), (0, .ref h), (1, .int d_)]) hx hb dX2_weakest_47 hl (k := 3) rfl (k_inc _) (by decide) rfl (fun ls hl => ?_)
          refine lv_goto (tgt := 11) hx hb dX2_weakest_50 (by decide) ?_
          exact ih_11 (k + 1) (nI k) (bcN (lostC fs ss fd ed dd n iss sb fst len kc d_ (nI k))) _ _ ls (by omega) (by omega) (by rw [wkN, ← eg]; exact (if_neg c_38).symm) hP hD hS (lv_sub hl [0, 2, 1, 4, 5] rfl)
  exact L_11 ((n - 0) + 1) 0 (-1) 0 _ _ ls (Nat.lt_succ_self _) (by omega) rfl hP hD hS (lv_sub hl [0, 1, 2, 3, 4] rfl)
