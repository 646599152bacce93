abbrev pinBad (pins : Nat → Int32) (nm iu : Int32) (k : Nat) : Prop := hasB nm (nI k) ∧ ¬ pins k = 0 ∧ ¬ hasB (pins k) iu
abbrev mayP (pins : Nat → Int32) (nm iu : Int32) (K : Nat) : Prop := ∀ k, k < K → ¬ pinBad pins nm iu k
theorem mayP_succ {pins : Nat → Int32} {nm iu : Int32} {k : Nat} (h : mayP pins nm iu k) (h2 : ¬ pinBad pins nm iu k) : mayP pins nm iu (k + 1) := by
  intro i hi
  by_cases e : i = k
  · rw [e]; exact h2
  · exact h i (by omega)
abbrev canC (fs ss fd ed lm dd : Nat → Int32) (n : Nat) (iss fst : Nat → Int32) (kc : Nat) (pins : Nat → Int32) (dy : Int32) (j : Nat) (su : Int32) : Prop :=
  ¬ 60 ≤ kc ∧ ¬ lm j - iwN iss fst (nI j) (dy / 7) kc ≤ 0 ∧ mayP pins (nmOf su) (nI j) 16 ∧ hasB (goodM fs ss fd ed dd dy (-1) n) (nI j)
abbrev seedN (sd : Int32) : Int32 := sd * 1103515245 + 12345
abbrev offD (sd ln : Int32) : Int32 := ((sd.toUInt32 >>> ((16 : Int32).toUInt32 &&& Int32.toUInt32 31)).toInt32) - ((sd.toUInt32 >>> ((16 : Int32).toUInt32 &&& Int32.toUInt32 31)).toInt32) / (ln / 6 + 1) * (ln / 6 + 1)
abbrev lostC (fs ss fd ed dd : Nat → Int32) (n : Nat) (iss sb fst len : Nat → Int32) (kc : Nat) (day wo : Int32) : Int32 :=
  nhN iss sb fst len day (goodM fs ss fd ed dd day (-1) n) kc &&& (nhN iss sb fst len day (goodM fs ss fd ed dd day wo n) kc ^^^ (-1))
set_option maxHeartbeats 4000000 in
set_option maxRecDepth 100000 in
theorem c_X2_roomThisWeek (l : Launch) (D : va_G) (cy : ClassId × ClassId × ClassId) (h pn a0 a1 a2 a3 a4 a5 a6 a7 a8 b0 b1 b2 b3 b4 b5 b6 b7 : Nat) (fs ss fd ed lm dd ce cw : Nat → Int32) (n : Nat) (iss sb fst len off ren que : Nat → Int32) (kc : Nat) (pins : Nat → Int32) (sd dy : Int32) (j : Nat) (hj : j < 8) (hc : kc ≤ 60) : kI l D cy yX2_roomThisWeek wsX2_roomThisWeek (krm 2 44) [.ref h, .int (nI j)] (wH cy h pn a0 a1 a2 a3 a4 a5 a6 a7 a8 b0 b1 b2 b3 b4 b5 b6 b7 fs ss fd ed lm dd ce cw n iss sb fst len off ren que kc pins sd dy) (fun (r : Int32) (u : Unit) => r = lm j - iwN iss fst (nI j) (dy / 7) kc) (fun _ : Unit => wH cy h pn a0 a1 a2 a3 a4 a5 a6 a7 a8 b0 b1 b2 b3 b4 b5 b6 b7 fs ss fd ed lm dd ce cw n iss sb fst len off ren que kc pins sd dy) := by
  refine kI.of (cc := cX2_roomThisWeek) (maxL := 2) (rt := .int) (Or.inl rfl) (by decide) rfl (Nat.le_of_ble_eq_true rfl) ?_
  intro p e s m args below meth c Q A ls hx hb hml hown hts hE hA hP hD hl hret
  have hS : va_S A s.heap s.heap [] := va_S.rf
  have hl : lv_has ls 2 [(0, .ref h), (1, .int (nI j))] := hl
  have g_X2 : ∀ w ∈ wsX20, w ∈ wsX2_roomThisWeek := by decide +kernel
  have f_10 := hts (.fieldLink RX2 10 "CertHerd" "issuerTable" "LCertHerd$IssuerTable;") (by decide +kernel)
  have g_X1 : ∀ w ∈ wsX10, w ∈ wsX2_roomThisWeek := by decide +kernel
  have f_177 := hts (.fieldLink RX2 177 "CertHerd$IssuerTable" "limits" "[I") (by decide +kernel)
  have f_19 := hts (.fieldLink RX2 19 "CertHerd" "certificateTable" "LCertHerd$CertificateTable;") (by decide +kernel)
  have f_31 := hts (.fieldLink RX2 31 "CertHerd" "dayNow" "I") (by decide +kernel)
  refine lv_aload_n hx hb dX2_roomThisWeek_0 rfl (lv_at hl 0 rfl) ?_
  refine va_get (D := D) (ci := 2) (v := .ref a0) (C := RX2) (T := TX2) (N := 5) hx hb hts g_X2 hown hE.1 hP 0 rfl rfl 0 (by decide) f_10 (fun _ h9 => h9) rfl dX2_roomThisWeek_1 ?_
  refine va_get (D := D) (ci := 1) (v := .ref a5) (C := RX1) (T := TX1) (N := 9) hx hb hts g_X1 hown hE.1 hP 1 rfl rfl 4 (by decide) f_177 (fun _ h9 => h9) rfl dX2_roomThisWeek_4 ?_
  refine lv_iload_n hx hb dX2_roomThisWeek_7 rfl (lv_at hl 1 rfl) ?_
  refine k_ild hx hb hE.1 hP 6 0 rfl rfl (j := j) (by omega) (by decide) dX2_roomThisWeek_8 ?_
  refine lv_aload_n hx hb dX2_roomThisWeek_9 rfl (lv_at hl 0 rfl) ?_
  refine va_get (D := D) (ci := 2) (v := .ref b0) (C := RX2) (T := TX2) (N := 5) hx hb hts g_X2 hown hE.1 hP 0 rfl rfl 1 (by decide) f_19 (fun _ h9 => h9) rfl dX2_roomThisWeek_10 ?_
  refine lv_iload_n hx hb dX2_roomThisWeek_13 rfl (lv_at hl 1 rfl) ?_
  refine lv_aload_n hx hb dX2_roomThisWeek_14 rfl (lv_at hl 0 rfl) ?_
  refine va_get (D := D) (ci := 2) (v := .int dy) (C := RX2) (T := TX2) (N := 5) hx hb hts g_X2 hown hE.1 hP 0 rfl rfl 4 (by decide) f_31 (fun _ h9 => h9) rfl dX2_roomThisWeek_15 ?_
  refine kcS_i (n := 1) (X := []) (wc := []) (Y := wH cy h pn a0 a1 a2 a3 a4 a5 a6 a7 a8 b0 b1 b2 b3 b4 b5 b6 b7 fs ss fd ed lm dd ce cw n iss sb fst len off ren que kc pins sd dy) (As := [.int dy]) (rest := [.int (nI j), .ref b0, .int (lm j)]) ⟨hx, hb, hml, hown, hts⟩ hE hA hP hD hS (c_X2_weekOf l D cy dy) (fun _ => rfl) gX2_roomThisWeek_X2_weekOf rfl rfl rfl ⟨by decide, by decide, by decide +kernel⟩ ⟨Nat.le_of_ble_eq_true rfl, Nat.le_of_ble_eq_true rfl⟩ rfl hl.1 rfl (Nat.le_of_ble_eq_true rfl) dX2_roomThisWeek_18 ⟨Nat.zero_le _, Nat.zero_le _⟩ (fun r_1 u H locs e_2 hP hD hS => ?_)
  have hP : va_P D vwCl (wH cy h pn a0 a1 a2 a3 a4 a5 a6 a7 a8 b0 b1 b2 b3 b4 b5 b6 b7 fs ss fd ed lm dd ce cw n iss sb fst len off ren que kc pins sd dy) H := hP
  have hD : va_D A (wH cy h pn a0 a1 a2 a3 a4 a5 a6 a7 a8 b0 b1 b2 b3 b4 b5 b6 b7 fs ss fd ed lm dd ce cw n iss sb fst len off ren que kc pins sd dy) := hD
  have e_2 : r_1 = dy / 7 := e_2
  subst e_2
  refine kcV_i (n := 2) (X := (h, .inr (2, [.ref a0, .ref b0, .ref pn, .int sd, .int dy])) :: wT cy a0 a1 a2 a3 a4 a5 a6 a7 a8 fs ss fd ed lm dd ce cw n) (wc := wC cy b0 b1 b2 b3 b4 b5 b6 b7 iss sb fst len off ren que kc) (Y := [(pn, .inl (cy.1, 16, .inl pins))]) (As := [.int (nI j), .int (dy / 7)]) (rest := [.int (lm j)]) ⟨hx, hb, hml, hown, hts⟩ hE hA hP hD hS (c_X0_issuedInWeek l D cy b0 b1 b2 b3 b4 b5 b6 b7 iss sb fst len off ren que kc (nI j) (dy / 7) (by first | assumption | omega)) (fun _ => rfl) (q0 := 0) (ci := 0) rfl rfl gX2_roomThisWeek_X0_issuedInWeek rfl rfl rfl ⟨rfl, by decide, by decide, by decide +kernel⟩ ⟨Nat.le_of_ble_eq_true rfl, Nat.le_of_ble_eq_true rfl⟩ rfl hl.1 rfl (Nat.le_of_ble_eq_true rfl) dX2_roomThisWeek_21 ⟨Nat.zero_le _, Nat.zero_le _⟩ (fun r_3 u H locs e_4 hP hD hS => ?_)
  have hP : va_P D vwCl (wH cy h pn a0 a1 a2 a3 a4 a5 a6 a7 a8 b0 b1 b2 b3 b4 b5 b6 b7 fs ss fd ed lm dd ce cw n iss sb fst len off ren que kc pins sd dy) H := hP
  have hD : va_D A (wH cy h pn a0 a1 a2 a3 a4 a5 a6 a7 a8 b0 b1 b2 b3 b4 b5 b6 b7 fs ss fd ed lm dd ce cw n iss sb fst len off ren que kc pins sd dy) := hD
  have e_4 : r_3 = iwN iss fst (nI j) (dy / 7) kc := e_4
  subst e_4
  refine lv_isub hx hb dX2_roomThisWeek_24 ?_
  exact hret _ _ _ _ ((lm j) - (iwN iss fst (nI j) (dy / 7) kc)) () dX2_roomThisWeek_25 (Or.inl rfl) rfl hP hS

set_option maxHeartbeats 4000000 in
set_option maxRecDepth 100000 in
theorem c_X2_mayIssueFor (l : Launch) (D : va_G) (cy : ClassId × ClassId × ClassId) (h pn a0 a1 a2 a3 a4 a5 a6 a7 a8 b0 b1 b2 b3 b4 b5 b6 b7 : Nat) (fs ss fd ed lm dd ce cw : Nat → Int32) (n : Nat) (iss sb fst len off ren que : Nat → Int32) (kc : Nat) (pins : Nat → Int32) (sd dy : Int32) (iu : Int32) (su_ : Int32) : kI l D cy yX2_mayIssueFor wsX2_mayIssueFor (krm 1 21) [.ref h, .int iu, .int su_] (wH cy h pn a0 a1 a2 a3 a4 a5 a6 a7 a8 b0 b1 b2 b3 b4 b5 b6 b7 fs ss fd ed lm dd ce cw n iss sb fst len off ren que kc pins sd dy) (fun (r : Int32) (u : Unit) => r = bI (mayP pins (nmOf su_) iu 16)) (fun _ : Unit => wH cy h pn a0 a1 a2 a3 a4 a5 a6 a7 a8 b0 b1 b2 b3 b4 b5 b6 b7 fs ss fd ed lm dd ce cw n iss sb fst len off ren que kc pins sd dy) := by
  refine kI.of (cc := cX2_mayIssueFor) (maxL := 6) (rt := .boolean) (Or.inr rfl) (by decide) rfl (Nat.le_of_ble_eq_true rfl) ?_
  intro p e s m args below meth c Q A ls hx hb hml hown hts hE hA hP hD hl hret
  have hS : va_S A s.heap s.heap [] := va_S.rf
  have hl : lv_has ls 6 [(0, .ref h), (1, .int iu), (2, .int su_)] := hl
  have g_X2 : ∀ w ∈ wsX20, w ∈ wsX2_mayIssueFor := by decide +kernel
  have f_23 := hts (.fieldLink RX2 23 "CertHerd" "pinsOfName" "[I") (by decide +kernel)
  refine lv_iload_n hx hb dX2_mayIssueFor_0 rfl (lv_at hl 2 rfl) ?_
  refine kcS_i (n := 1) (X := []) (wc := []) (Y := wH cy h pn a0 a1 a2 a3 a4 a5 a6 a7 a8 b0 b1 b2 b3 b4 b5 b6 b7 fs ss fd ed lm dd ce cw n iss sb fst len off ren que kc pins sd dy) (As := [.int su_]) (rest := []) ⟨hx, hb, hml, hown, hts⟩ hE hA hP hD hS (c_X2_namesOf l D cy su_) (fun _ => rfl) gX2_mayIssueFor_X2_namesOf rfl rfl rfl ⟨by decide, by decide, by decide +kernel⟩ ⟨Nat.le_of_ble_eq_true rfl, Nat.le_of_ble_eq_true rfl⟩ rfl hl.1 rfl (Nat.le_of_ble_eq_true rfl) dX2_mayIssueFor_1 ⟨Nat.zero_le _, Nat.zero_le _⟩ (fun r_1 u H locs e_2 hP hD hS => ?_)
  have hP : va_P D vwCl (wH cy h pn a0 a1 a2 a3 a4 a5 a6 a7 a8 b0 b1 b2 b3 b4 b5 b6 b7 fs ss fd ed lm dd ce cw n iss sb fst len off ren que kc pins sd dy) H := hP
  have hD : va_D A (wH cy h pn a0 a1 a2 a3 a4 a5 a6 a7 a8 b0 b1 b2 b3 b4 b5 b6 b7 fs ss fd ed lm dd ce cw n iss sb fst len off ren que kc pins sd dy) := hD
  have e_2 : r_1 = nmOf su_ := e_2
  subst e_2
  refine lv_istore_n (lv' := [(3, .int (nmOf su_)), (0, .ref h), (1, .int iu), (2, .int su_)]) hx hb dX2_mayIssueFor_4 rfl hl (by decide) rfl (fun ls hl => ?_)
  refine lv_iconst (v := 0) hx hb dX2_mayIssueFor_5 (by decide) ?_
  refine lv_istore (lv' := [(4, .int 0), (3, .int (nmOf su_)), (0, .ref h), (1, .int iu), (2, .int su_)]) hx hb dX2_mayIssueFor_6 hl (by decide) rfl (fun ls hl => ?_)
  have L_8 : ∀ (f : Nat) (k : Nat) (H : Heap) (locs : List Loc) (ls : Array Slot), ((16 - k) < f) → (k ≤ 16) → (mayP pins (nmOf su_) iu k) → va_P D vwCl (wH cy h pn a0 a1 a2 a3 a4 a5 a6 a7 a8 b0 b1 b2 b3 b4 b5 b6 b7 fs ss fd ed lm dd ce cw n iss sb fst len off ren que kc pins sd dy) H → va_D A (wH cy h pn a0 a1 a2 a3 a4 a5 a6 a7 a8 b0 b1 b2 b3 b4 b5 b6 b7 fs ss fd ed lm dd ce cw n iss sb fst len off ren que kc pins sd dy) → va_S A s.heap H locs → lv_has ls 6 [(4, .int (nI k)), (3, .int (nmOf su_)), (0, .ref h), (1, .int iu), (2, .int su_)] → W p l e (krm 1 21) s m args below meth c H locs 0 0 Q (F0 m 8 ls []) := by
    intro f
    induction f with
    | zero => intro k H locs ls hf; exact absurd hf (Nat.not_lt_zero _)
    | succ f ih_8 =>
      intro k H locs ls hf hk hm hP hD hS hl
      refine lv_iload hx hb dX2_mayIssueFor_8 (lv_at hl 0 rfl) ?_
      refine lv_bipush (v := 16) hx hb dX2_mayIssueFor_10 (by decide) ?_
      refine lv_icmp_ge (tgt := 55) hx hb dX2_mayIssueFor_12 (by decide) (fun c_12 => ?_) (fun c_12 => ?_)
      · have c_12n : 16 ≤ k := k_leN (a := 16) (b := k) (by omega) (by omega) c_12
        refine lv_iconst (v := 1) hx hb dX2_mayIssueFor_55 (by decide) ?_
        exact hret _ _ _ _ 1 () dX2_mayIssueFor_56 (Or.inr (Or.inr rfl)) (bI_t (by have e9 : k = 16 := (by omega); subst e9; exact hm)).symm hP hS
      · have c_12n : ¬ 16 ≤ k := k_nleN (a := 16) (b := k) (by omega) (by omega) c_12
        have hk16 : k < 16 := by omega
        refine lv_aload_n hx hb dX2_mayIssueFor_15 rfl (lv_at hl 2 rfl) ?_
        refine va_get (D := D) (ci := 2) (v := .ref pn) (C := RX2) (T := TX2) (N := 5) hx hb hts g_X2 hown hE.1 hP 0 rfl rfl 2 (by decide) f_23 (fun _ h9 => h9) rfl dX2_mayIssueFor_16 ?_
        refine lv_iload hx hb dX2_mayIssueFor_19 (lv_at hl 0 rfl) ?_
        refine k_ild hx hb hE.1 hP 18 0 rfl rfl (j := k) (by omega) (by decide) dX2_mayIssueFor_21 ?_
        refine lv_istore (lv' := [(5, .int (pins k)), (4, .int (nI k)), (3, .int (nmOf su_)), (0, .ref h), (1, .int iu), (2, .int su_)]) hx hb dX2_mayIssueFor_22 hl (by decide) rfl (fun ls hl => ?_)
        refine lv_iload_n hx hb dX2_mayIssueFor_24 rfl (lv_at hl 2 rfl) ?_
        refine lv_iload hx hb dX2_mayIssueFor_25 (lv_at hl 1 rfl) ?_
        refine kcS_i (n := 2) (X := []) (wc := []) (Y := wH cy h pn a0 a1 a2 a3 a4 a5 a6 a7 a8 b0 b1 b2 b3 b4 b5 b6 b7 fs ss fd ed lm dd ce cw n iss sb fst len off ren que kc pins sd dy) (As := [.int (nmOf su_), .int (nI k)]) (rest := []) ⟨hx, hb, hml, hown, hts⟩ hE hA hP hD hS (c_X2_contains l D cy (nmOf su_) (nI k)) (fun _ => rfl) gX2_mayIssueFor_X2_contains rfl rfl rfl ⟨by decide, by decide, by decide +kernel⟩ ⟨Nat.le_of_ble_eq_true rfl, Nat.le_of_ble_eq_true rfl⟩ rfl hl.1 rfl (Nat.le_of_ble_eq_true rfl) dX2_mayIssueFor_27 ⟨Nat.zero_le _, Nat.zero_le _⟩ (fun r_3 u H locs e_4 hP hD hS => ?_)
        have hP : va_P D vwCl (wH cy h pn a0 a1 a2 a3 a4 a5 a6 a7 a8 b0 b1 b2 b3 b4 b5 b6 b7 fs ss fd ed lm dd ce cw n iss sb fst len off ren que kc pins sd dy) H := hP
        have hD : va_D A (wH cy h pn a0 a1 a2 a3 a4 a5 a6 a7 a8 b0 b1 b2 b3 b4 b5 b6 b7 fs ss fd ed lm dd ce cw n iss sb fst len off ren que kc pins sd dy) := hD
        have e_4 : r_3 = bI (hasB (nmOf su_) (nI k)) := e_4
        subst e_4
        refine k_ifeq (tgt := 49) hx hb dX2_mayIssueFor_30 (by decide) (fun c_30 => ?_) (fun c_30 => ?_)
        · refine lv_iinc (v := (nI (k + 1))) (lv' := [(4, .int (nI (k + 1))), (5, .int (pins k)), (3, .int (nmOf su_)), (0, .ref h), (1, .int iu), (2, .int su_)]) hx hb dX2_mayIssueFor_49 hl (k := 1) rfl (k_inc _) (by decide) rfl (fun ls hl => ?_)
          refine lv_goto (tgt := 8) hx hb dX2_mayIssueFor_52 (by decide) ?_
          exact ih_8 (k + 1) _ _ ls (by omega) (by omega) (mayP_succ hm (fun h => c_30 h.1)) hP hD hS (lv_sub hl [0, 2, 3, 4, 5] rfl)
        · refine lv_iload hx hb dX2_mayIssueFor_33 (lv_at hl 0 rfl) ?_
          refine lv_if_eq (tgt := 49) hx hb dX2_mayIssueFor_35 (by decide) (fun c_35 => ?_) (fun c_35 => ?_)
          · refine lv_iinc (v := (nI (k + 1))) (lv' := [(4, .int (nI (k + 1))), (5, .int (pins k)), (3, .int (nmOf su_)), (0, .ref h), (1, .int iu), (2, .int su_)]) hx hb dX2_mayIssueFor_49 hl (k := 1) rfl (k_inc _) (by decide) rfl (fun ls hl => ?_)
            refine lv_goto (tgt := 8) hx hb dX2_mayIssueFor_52 (by decide) ?_
            exact ih_8 (k + 1) _ _ ls (by omega) (by omega) (mayP_succ hm (fun h => h.2.1 c_35)) hP hD hS (lv_sub hl [0, 2, 3, 4, 5] rfl)
          · refine lv_iload hx hb dX2_mayIssueFor_38 (lv_at hl 0 rfl) ?_
            refine lv_iload_n hx hb dX2_mayIssueFor_40 rfl (lv_at hl 4 rfl) ?_
            refine kcS_i (n := 2) (X := []) (wc := []) (Y := wH cy h pn a0 a1 a2 a3 a4 a5 a6 a7 a8 b0 b1 b2 b3 b4 b5 b6 b7 fs ss fd ed lm dd ce cw n iss sb fst len off ren que kc pins sd dy) (As := [.int (pins k), .int iu]) (rest := []) ⟨hx, hb, hml, hown, hts⟩ hE hA hP hD hS (c_X2_contains l D cy (pins k) iu) (fun _ => rfl) gX2_mayIssueFor_X2_contains rfl rfl rfl ⟨by decide, by decide, by decide +kernel⟩ ⟨Nat.le_of_ble_eq_true rfl, Nat.le_of_ble_eq_true rfl⟩ rfl hl.1 rfl (Nat.le_of_ble_eq_true rfl) dX2_mayIssueFor_41 ⟨Nat.zero_le _, Nat.zero_le _⟩ (fun r_5 u H locs e_6 hP hD hS => ?_)
            have hP : va_P D vwCl (wH cy h pn a0 a1 a2 a3 a4 a5 a6 a7 a8 b0 b1 b2 b3 b4 b5 b6 b7 fs ss fd ed lm dd ce cw n iss sb fst len off ren que kc pins sd dy) H := hP
            have hD : va_D A (wH cy h pn a0 a1 a2 a3 a4 a5 a6 a7 a8 b0 b1 b2 b3 b4 b5 b6 b7 fs ss fd ed lm dd ce cw n iss sb fst len off ren que kc pins sd dy) := hD
            have e_6 : r_5 = bI (hasB (pins k) iu) := e_6
            subst e_6
            refine k_ifne (tgt := 49) hx hb dX2_mayIssueFor_44 (by decide) (fun c_44 => ?_) (fun c_44 => ?_)
            · refine lv_iinc (v := (nI (k + 1))) (lv' := [(4, .int (nI (k + 1))), (5, .int (pins k)), (3, .int (nmOf su_)), (0, .ref h), (1, .int iu), (2, .int su_)]) hx hb dX2_mayIssueFor_49 hl (k := 1) rfl (k_inc _) (by decide) rfl (fun ls hl => ?_)
              refine lv_goto (tgt := 8) hx hb dX2_mayIssueFor_52 (by decide) ?_
              exact ih_8 (k + 1) _ _ ls (by omega) (by omega) (mayP_succ hm (fun h => h.2.2 c_44)) hP hD hS (lv_sub hl [0, 2, 3, 4, 5] rfl)
            · refine lv_iconst (v := 0) hx hb dX2_mayIssueFor_47 (by decide) ?_
              exact hret _ _ _ _ 0 () dX2_mayIssueFor_48 (Or.inr (Or.inl rfl)) (bI_f (fun h => h k hk16 ⟨c_30, c_35, c_44⟩)).symm hP hS
  exact L_8 ((16 - 0) + 1) 0 _ _ ls (Nat.lt_succ_self _) (by omega) (fun i h => absurd h (Nat.not_lt_zero _)) hP hD hS (lv_sub hl [0, 1, 2, 3, 4] rfl)

set_option maxHeartbeats 4000000 in
set_option maxRecDepth 100000 in
theorem c_X2_canIssue (l : Launch) (D : va_G) (cy : ClassId × ClassId × ClassId) (h pn a0 a1 a2 a3 a4 a5 a6 a7 a8 b0 b1 b2 b3 b4 b5 b6 b7 : Nat) (fs ss fd ed lm dd ce cw : Nat → Int32) (n : Nat) (iss sb fst len off ren que : Nat → Int32) (kc : Nat) (pins : Nat → Int32) (sd dy : Int32) (j : Nat) (su_ : Int32) (hj : j < 8) (hc : kc ≤ 60) (hn : n ≤ 8) : kI l D cy yX2_canIssue wsX2_canIssue (krm 3 67) [.ref h, .int (nI j), .int su_] (wH cy h pn a0 a1 a2 a3 a4 a5 a6 a7 a8 b0 b1 b2 b3 b4 b5 b6 b7 fs ss fd ed lm dd ce cw n iss sb fst len off ren que kc pins sd dy) (fun (r : Int32) (u : Unit) => r = bI (canC fs ss fd ed lm dd n iss fst kc pins dy j su_)) (fun _ : Unit => wH cy h pn a0 a1 a2 a3 a4 a5 a6 a7 a8 b0 b1 b2 b3 b4 b5 b6 b7 fs ss fd ed lm dd ce cw n iss sb fst len off ren que kc pins sd dy) := by
  refine kI.of (cc := cX2_canIssue) (maxL := 3) (rt := .boolean) (Or.inr rfl) (by decide) rfl (Nat.le_of_ble_eq_true rfl) ?_
  intro p e s m args below meth c Q A ls hx hb hml hown hts hE hA hP hD hl hret
  have hS : va_S A s.heap s.heap [] := va_S.rf
  have hl : lv_has ls 3 [(0, .ref h), (1, .int (nI j)), (2, .int su_)] := hl
  have g_X2 : ∀ w ∈ wsX20, w ∈ wsX2_canIssue := by decide +kernel
  have f_19 := hts (.fieldLink RX2 19 "CertHerd" "certificateTable" "LCertHerd$CertificateTable;") (by decide +kernel)
  have f_10 := hts (.fieldLink RX2 10 "CertHerd" "issuerTable" "LCertHerd$IssuerTable;") (by decide +kernel)
  have f_31 := hts (.fieldLink RX2 31 "CertHerd" "dayNow" "I") (by decide +kernel)
  refine lv_aload_n hx hb dX2_canIssue_0 rfl (lv_at hl 0 rfl) ?_
  refine va_get (D := D) (ci := 2) (v := .ref b0) (C := RX2) (T := TX2) (N := 5) hx hb hts g_X2 hown hE.1 hP 0 rfl rfl 1 (by decide) f_19 (fun _ h9 => h9) rfl dX2_canIssue_1 ?_
  refine kcV_i (n := 0) (X := (h, .inr (2, [.ref a0, .ref b0, .ref pn, .int sd, .int dy])) :: wT cy a0 a1 a2 a3 a4 a5 a6 a7 a8 fs ss fd ed lm dd ce cw n) (wc := wC cy b0 b1 b2 b3 b4 b5 b6 b7 iss sb fst len off ren que kc) (Y := [(pn, .inl (cy.1, 16, .inl pins))]) (As := []) (rest := []) ⟨hx, hb, hml, hown, hts⟩ hE hA hP hD hS (c_X0_isFull l D cy b0 b1 b2 b3 b4 b5 b6 b7 iss sb fst len off ren que kc (by first | assumption | omega)) (fun _ => rfl) (q0 := 0) (ci := 0) rfl rfl gX2_canIssue_X0_isFull rfl rfl rfl ⟨rfl, by decide, by decide, by decide +kernel⟩ ⟨Nat.le_of_ble_eq_true rfl, Nat.le_of_ble_eq_true rfl⟩ rfl hl.1 rfl (Nat.le_of_ble_eq_true rfl) dX2_canIssue_4 ⟨Nat.zero_le _, Nat.zero_le _⟩ (fun r_1 u H locs e_2 hP hD hS => ?_)
  have hP : va_P D vwCl (wH cy h pn a0 a1 a2 a3 a4 a5 a6 a7 a8 b0 b1 b2 b3 b4 b5 b6 b7 fs ss fd ed lm dd ce cw n iss sb fst len off ren que kc pins sd dy) H := hP
  have hD : va_D A (wH cy h pn a0 a1 a2 a3 a4 a5 a6 a7 a8 b0 b1 b2 b3 b4 b5 b6 b7 fs ss fd ed lm dd ce cw n iss sb fst len off ren que kc pins sd dy) := hD
  have e_2 : r_1 = bI (60 ≤ kc) := e_2
  subst e_2
  refine k_ifne (tgt := 50) hx hb dX2_canIssue_7 (by decide) (fun c_7 => ?_) (fun c_7 => ?_)
  · refine lv_iconst (v := 0) hx hb dX2_canIssue_50 (by decide) ?_
    exact hret _ _ _ _ 0 () dX2_canIssue_51 (Or.inr (Or.inl rfl)) (bI_f (fun h => h.1 c_7)).symm hP hS
  · refine lv_aload_n hx hb dX2_canIssue_10 rfl (lv_at hl 0 rfl) ?_
    refine lv_iload_n hx hb dX2_canIssue_11 rfl (lv_at hl 1 rfl) ?_
    refine kcW_i (n := 1) (wc := wH cy h pn a0 a1 a2 a3 a4 a5 a6 a7 a8 b0 b1 b2 b3 b4 b5 b6 b7 fs ss fd ed lm dd ce cw n iss sb fst len off ren que kc pins sd dy) (As := [.int (nI j)]) (rest := []) ⟨hx, hb, hml, hown, hts⟩ hE hA hP hD hS (c_X2_roomThisWeek l D cy h pn a0 a1 a2 a3 a4 a5 a6 a7 a8 b0 b1 b2 b3 b4 b5 b6 b7 fs ss fd ed lm dd ce cw n iss sb fst len off ren que kc pins sd dy j (by first | assumption | omega) (by first | assumption | omega)) (fun _ => rfl) (q0 := 0) (ci := 2) rfl rfl gX2_canIssue_X2_roomThisWeek rfl rfl rfl ⟨rfl, by decide, by decide, by decide +kernel⟩ ⟨Nat.le_of_ble_eq_true rfl, Nat.le_of_ble_eq_true rfl⟩ rfl hl.1 rfl (Nat.le_of_ble_eq_true rfl) dX2_canIssue_12 ⟨Nat.zero_le _, Nat.zero_le _⟩ (fun r_3 u H locs e_4 hP hD hS => ?_)
    have hP : va_P D vwCl (wH cy h pn a0 a1 a2 a3 a4 a5 a6 a7 a8 b0 b1 b2 b3 b4 b5 b6 b7 fs ss fd ed lm dd ce cw n iss sb fst len off ren que kc pins sd dy) H := hP
    have hD : va_D A (wH cy h pn a0 a1 a2 a3 a4 a5 a6 a7 a8 b0 b1 b2 b3 b4 b5 b6 b7 fs ss fd ed lm dd ce cw n iss sb fst len off ren que kc pins sd dy) := hD
    have e_4 : r_3 = lm j - iwN iss fst (nI j) (dy / 7) kc := e_4
    subst e_4
    refine lv_if_le (tgt := 50) hx hb dX2_canIssue_15 (by decide) (fun c_15 => ?_) (fun c_15 => ?_)
    · refine lv_iconst (v := 0) hx hb dX2_canIssue_50 (by decide) ?_
      exact hret _ _ _ _ 0 () dX2_canIssue_51 (Or.inr (Or.inl rfl)) (bI_f (fun h => h.2.1 c_15)).symm hP hS
    · refine lv_aload_n hx hb dX2_canIssue_18 rfl (lv_at hl 0 rfl) ?_
      refine lv_iload_n hx hb dX2_canIssue_19 rfl (lv_at hl 1 rfl) ?_
      refine lv_iload_n hx hb dX2_canIssue_20 rfl (lv_at hl 2 rfl) ?_
      refine kcW_i (n := 2) (wc := wH cy h pn a0 a1 a2 a3 a4 a5 a6 a7 a8 b0 b1 b2 b3 b4 b5 b6 b7 fs ss fd ed lm dd ce cw n iss sb fst len off ren que kc pins sd dy) (As := [.int (nI j), .int su_]) (rest := []) ⟨hx, hb, hml, hown, hts⟩ hE hA hP hD hS (c_X2_mayIssueFor l D cy h pn a0 a1 a2 a3 a4 a5 a6 a7 a8 b0 b1 b2 b3 b4 b5 b6 b7 fs ss fd ed lm dd ce cw n iss sb fst len off ren que kc pins sd dy (nI j) su_) (fun _ => rfl) (q0 := 0) (ci := 2) rfl rfl gX2_canIssue_X2_mayIssueFor rfl rfl rfl ⟨rfl, by decide, by decide, by decide +kernel⟩ ⟨Nat.le_of_ble_eq_true rfl, Nat.le_of_ble_eq_true rfl⟩ rfl hl.1 rfl (Nat.le_of_ble_eq_true rfl) dX2_canIssue_21 ⟨Nat.zero_le _, Nat.zero_le _⟩ (fun r_5 u H locs e_6 hP hD hS => ?_)
      have hP : va_P D vwCl (wH cy h pn a0 a1 a2 a3 a4 a5 a6 a7 a8 b0 b1 b2 b3 b4 b5 b6 b7 fs ss fd ed lm dd ce cw n iss sb fst len off ren que kc pins sd dy) H := hP
      have hD : va_D A (wH cy h pn a0 a1 a2 a3 a4 a5 a6 a7 a8 b0 b1 b2 b3 b4 b5 b6 b7 fs ss fd ed lm dd ce cw n iss sb fst len off ren que kc pins sd dy) := hD
      have e_6 : r_5 = bI (mayP pins (nmOf su_) (nI j) 16) := e_6
      subst e_6
      refine k_ifeq (tgt := 50) hx hb dX2_canIssue_24 (by decide) (fun c_24 => ?_) (fun c_24 => ?_)
      · refine lv_iconst (v := 0) hx hb dX2_canIssue_50 (by decide) ?_
        exact hret _ _ _ _ 0 () dX2_canIssue_51 (Or.inr (Or.inl rfl)) (bI_f (fun h => c_24 h.2.2.1)).symm hP hS
      · refine lv_aload_n hx hb dX2_canIssue_27 rfl (lv_at hl 0 rfl) ?_
        refine va_get (D := D) (ci := 2) (v := .ref a0) (C := RX2) (T := TX2) (N := 5) hx hb hts g_X2 hown hE.1 hP 0 rfl rfl 0 (by decide) f_10 (fun _ h9 => h9) rfl dX2_canIssue_28 ?_
        refine lv_aload_n hx hb dX2_canIssue_31 rfl (lv_at hl 0 rfl) ?_
        refine va_get (D := D) (ci := 2) (v := .int dy) (C := RX2) (T := TX2) (N := 5) hx hb hts g_X2 hown hE.1 hP 0 rfl rfl 4 (by decide) f_31 (fun _ h9 => h9) rfl dX2_canIssue_32 ?_
        refine lv_iconst (v := (-1)) hx hb dX2_canIssue_35 (by decide) ?_
        refine kcV_i (n := 2) (X := [(h, .inr (2, [.ref a0, .ref b0, .ref pn, .int sd, .int dy]))]) (wc := wT cy a0 a1 a2 a3 a4 a5 a6 a7 a8 fs ss fd ed lm dd ce cw n) (Y := wC cy b0 b1 b2 b3 b4 b5 b6 b7 iss sb fst len off ren que kc ++ [(pn, .inl (cy.1, 16, .inl pins))]) (As := [.int dy, .int (-1)]) (rest := []) ⟨hx, hb, hml, hown, hts⟩ hE hA hP hD hS (c_X1_goodOn l D cy a0 a1 a2 a3 a4 a5 a6 a7 a8 fs ss fd ed lm dd ce cw n dy (-1) (by first | assumption | omega)) (fun _ => rfl) (q0 := 0) (ci := 1) rfl rfl gX2_canIssue_X1_goodOn rfl rfl rfl ⟨rfl, by decide, by decide, by decide +kernel⟩ ⟨Nat.le_of_ble_eq_true rfl, Nat.le_of_ble_eq_true rfl⟩ rfl hl.1 rfl (Nat.le_of_ble_eq_true rfl) dX2_canIssue_36 ⟨Nat.zero_le _, Nat.zero_le _⟩ (fun r_7 u H locs e_8 hP hD hS => ?_)
        have hP : va_P D vwCl (wH cy h pn a0 a1 a2 a3 a4 a5 a6 a7 a8 b0 b1 b2 b3 b4 b5 b6 b7 fs ss fd ed lm dd ce cw n iss sb fst len off ren que kc pins sd dy) H := hP
        have hD : va_D A (wH cy h pn a0 a1 a2 a3 a4 a5 a6 a7 a8 b0 b1 b2 b3 b4 b5 b6 b7 fs ss fd ed lm dd ce cw n iss sb fst len off ren que kc pins sd dy) := hD
        have e_8 : r_7 = goodM fs ss fd ed dd dy (-1) n := e_8
        subst e_8
        refine lv_iload_n hx hb dX2_canIssue_39 rfl (lv_at hl 1 rfl) ?_
        refine kcS_i (n := 2) (X := []) (wc := []) (Y := wH cy h pn a0 a1 a2 a3 a4 a5 a6 a7 a8 b0 b1 b2 b3 b4 b5 b6 b7 fs ss fd ed lm dd ce cw n iss sb fst len off ren que kc pins sd dy) (As := [.int (goodM fs ss fd ed dd dy (-1) n), .int (nI j)]) (rest := []) ⟨hx, hb, hml, hown, hts⟩ hE hA hP hD hS (c_X2_contains l D cy (goodM fs ss fd ed dd dy (-1) n) (nI j)) (fun _ => rfl) gX2_canIssue_X2_contains rfl rfl rfl ⟨by decide, by decide, by decide +kernel⟩ ⟨Nat.le_of_ble_eq_true rfl, Nat.le_of_ble_eq_true rfl⟩ rfl hl.1 rfl (Nat.le_of_ble_eq_true rfl) dX2_canIssue_40 ⟨Nat.zero_le _, Nat.zero_le _⟩ (fun r_9 u H locs e_10 hP hD hS => ?_)
        have hP : va_P D vwCl (wH cy h pn a0 a1 a2 a3 a4 a5 a6 a7 a8 b0 b1 b2 b3 b4 b5 b6 b7 fs ss fd ed lm dd ce cw n iss sb fst len off ren que kc pins sd dy) H := hP
        have hD : va_D A (wH cy h pn a0 a1 a2 a3 a4 a5 a6 a7 a8 b0 b1 b2 b3 b4 b5 b6 b7 fs ss fd ed lm dd ce cw n iss sb fst len off ren que kc pins sd dy) := hD
        have e_10 : r_9 = bI (hasB (goodM fs ss fd ed dd dy (-1) n) (nI j)) := e_10
        subst e_10
        refine k_ifeq (tgt := 50) hx hb dX2_canIssue_43 (by decide) (fun c_43 => ?_) (fun c_43 => ?_)
        · refine lv_iconst (v := 0) hx hb dX2_canIssue_50 (by decide) ?_
          exact hret _ _ _ _ 0 () dX2_canIssue_51 (Or.inr (Or.inl rfl)) (bI_f (fun h => c_43 h.2.2.2)).symm hP hS
        · refine lv_iconst (v := 1) hx hb dX2_canIssue_46 (by decide) ?_
          refine lv_goto (tgt := 51) hx hb dX2_canIssue_47 (by decide) ?_
          exact hret _ _ _ _ 1 () dX2_canIssue_51 (Or.inr (Or.inr rfl)) (bI_t ⟨c_7, c_15, c_24, c_43⟩).symm hP hS

set_option maxHeartbeats 4000000 in
set_option maxRecDepth 100000 in
theorem c_X2_drawOffset (l : Launch) (D : va_G) (cy : ClassId × ClassId × ClassId) (h pn a0 a1 a2 a3 a4 a5 a6 a7 a8 b0 b1 b2 b3 b4 b5 b6 b7 : Nat) (fs ss fd ed lm dd ce cw : Nat → Int32) (n : Nat) (iss sb fst len off ren que : Nat → Int32) (kc : Nat) (pins : Nat → Int32) (sd dy : Int32) (ln : Int32) (hl0 : ¬ ln / 6 + 1 = 0) : kI l D cy yX2_drawOffset wsX2_drawOffset (krm 0 0) [.ref h, .int ln] (wH cy h pn a0 a1 a2 a3 a4 a5 a6 a7 a8 b0 b1 b2 b3 b4 b5 b6 b7 fs ss fd ed lm dd ce cw n iss sb fst len off ren que kc pins sd dy) (fun (r : Int32) (u : Unit) => r = offD (seedN sd) ln) (fun _ : Unit => wH cy h pn a0 a1 a2 a3 a4 a5 a6 a7 a8 b0 b1 b2 b3 b4 b5 b6 b7 fs ss fd ed lm dd ce cw n iss sb fst len off ren que kc pins (seedN sd) dy) := by
  refine kI.of (cc := cX2_drawOffset) (maxL := 2) (rt := .int) (Or.inl rfl) (by decide) rfl (Nat.le_of_ble_eq_true rfl) ?_
  intro p e s m args below meth c Q A ls hx hb hml hown hts hE hA hP hD hl hret
  have hS : va_S A s.heap s.heap [] := va_S.rf
  have hl : lv_has ls 2 [(0, .ref h), (1, .int ln)] := hl
  have g_X2 : ∀ w ∈ wsX20, w ∈ wsX2_drawOffset := by decide +kernel
  have f_27 := hts (.fieldLink RX2 27 "CertHerd" "seedNow" "I") (by decide +kernel)
  refine lv_aload_n hx hb dX2_drawOffset_0 rfl (lv_at hl 0 rfl) ?_
  refine lv_aload_n hx hb dX2_drawOffset_1 rfl (lv_at hl 0 rfl) ?_
  refine va_get (D := D) (ci := 2) (v := .int sd) (C := RX2) (T := TX2) (N := 5) hx hb hts g_X2 hown hE.1 hP 0 rfl rfl 3 (by decide) f_27 (fun _ h9 => h9) rfl dX2_drawOffset_2 ?_
  refine lv_ldc (v := 1103515245) hx hb hown (hts (.constant RX2 192 (1103515245)) (by decide +kernel)) dX2_drawOffset_5 ?_
  refine lv_imul hx hb dX2_drawOffset_7 ?_
  refine lv_sipush (v := 12345) hx hb dX2_drawOffset_8 (by decide) ?_
  refine lv_iadd hx hb dX2_drawOffset_11 ?_
  refine va_put (D := D) (ci := 2) (v := .int ((sd * 1103515245) + 12345)) (ty := .int) (C := RX2) (T := TX2) (N := 5) hx hb hts g_X2 tyX2 tyX2_ok nmX2 hown hE.1 hP hD hS 0 rfl rfl 3 (by decide) f_27 (fun _ h9 => h9) rfl (by decide +kernel) rfl rfl (Nat.le_of_ble_eq_true rfl) dX2_drawOffset_12 (fun H locs hP hD hS => ?_)
  have hP : va_P D vwCl (wH cy h pn a0 a1 a2 a3 a4 a5 a6 a7 a8 b0 b1 b2 b3 b4 b5 b6 b7 fs ss fd ed lm dd ce cw n iss sb fst len off ren que kc pins ((sd * 1103515245) + 12345) dy) H := hP
  have hD : va_D A (wH cy h pn a0 a1 a2 a3 a4 a5 a6 a7 a8 b0 b1 b2 b3 b4 b5 b6 b7 fs ss fd ed lm dd ce cw n iss sb fst len off ren que kc pins ((sd * 1103515245) + 12345) dy) := hD
  refine lv_aload_n hx hb dX2_drawOffset_15 rfl (lv_at hl 0 rfl) ?_
  refine va_get (D := D) (ci := 2) (v := .int ((sd * 1103515245) + 12345)) (C := RX2) (T := TX2) (N := 5) hx hb hts g_X2 hown hE.1 hP 0 rfl rfl 3 (by decide) f_27 (fun _ h9 => h9) rfl dX2_drawOffset_16 ?_
  refine lv_bipush (v := 16) hx hb dX2_drawOffset_19 (by decide) ?_
  refine lv_iushr hx hb dX2_drawOffset_21 rfl ?_
  refine lv_iload_n hx hb dX2_drawOffset_22 rfl (lv_at hl 1 rfl) ?_
  refine lv_bipush (v := 6) hx hb dX2_drawOffset_23 (by decide) ?_
  refine lv_idiv hx hb dX2_drawOffset_25 (by decide) ?_
  refine lv_iconst (v := 1) hx hb dX2_drawOffset_26 (by decide) ?_
  refine lv_iadd hx hb dX2_drawOffset_27 ?_
  refine lv_irem hx hb dX2_drawOffset_28 hl0 ?_
  exact hret _ _ _ _ (((((sd * 1103515245) + 12345).toUInt32 >>> ((16 : Int32).toUInt32 &&& Int32.toUInt32 31)).toInt32) - ((((sd * 1103515245) + 12345).toUInt32 >>> ((16 : Int32).toUInt32 &&& Int32.toUInt32 31)).toInt32) / ((ln / 6) + 1) * ((ln / 6) + 1)) () dX2_drawOffset_29 (Or.inl rfl) rfl hP hS

set_option maxHeartbeats 4000000 in
set_option maxRecDepth 100000 in
theorem c_X2_makeCertificate (l : Launch) (D : va_G) (cy : ClassId × ClassId × ClassId) (h pn a0 a1 a2 a3 a4 a5 a6 a7 a8 b0 b1 b2 b3 b4 b5 b6 b7 : Nat) (fs ss fd ed lm dd ce cw : Nat → Int32) (n : Nat) (iss sb fst len off ren que : Nat → Int32) (kc : Nat) (pins : Nat → Int32) (sd dy : Int32) (iu : Int32) (su_ : Int32) (ln : Int32) (hc : kc < 60) (hl0 : ¬ ln / 6 + 1 = 0) : kI l D cy yX2_makeCertificate wsX2_makeCertificate (krm 1 26) [.ref h, .int iu, .int su_, .int ln] (wH cy h pn a0 a1 a2 a3 a4 a5 a6 a7 a8 b0 b1 b2 b3 b4 b5 b6 b7 fs ss fd ed lm dd ce cw n iss sb fst len off ren que kc pins sd dy) (fun (r : Int32) (u : Unit) => r = nI kc) (fun _ : Unit => wH cy h pn a0 a1 a2 a3 a4 a5 a6 a7 a8 b0 b1 b2 b3 b4 b5 b6 b7 fs ss fd ed lm dd ce cw n (upd iss kc iu) (upd sb kc su_) (upd fst kc dy) (upd len kc ln) (upd off kc (offD (seedN sd) ln)) (upd ren kc (-1)) que (kc + 1) pins (seedN sd) dy) := by
  refine kI.of (cc := cX2_makeCertificate) (maxL := 4) (rt := .int) (Or.inl rfl) (by decide) rfl (Nat.le_of_ble_eq_true rfl) ?_
  intro p e s m args below meth c Q A ls hx hb hml hown hts hE hA hP hD hl hret
  have hS : va_S A s.heap s.heap [] := va_S.rf
  have hl : lv_has ls 4 [(0, .ref h), (1, .int iu), (2, .int su_), (3, .int ln)] := hl
  have g_X2 : ∀ w ∈ wsX20, w ∈ wsX2_makeCertificate := by decide +kernel
  have f_19 := hts (.fieldLink RX2 19 "CertHerd" "certificateTable" "LCertHerd$CertificateTable;") (by decide +kernel)
  have f_31 := hts (.fieldLink RX2 31 "CertHerd" "dayNow" "I") (by decide +kernel)
  refine lv_aload_n hx hb dX2_makeCertificate_0 rfl (lv_at hl 0 rfl) ?_
  refine va_get (D := D) (ci := 2) (v := .ref b0) (C := RX2) (T := TX2) (N := 5) hx hb hts g_X2 hown hE.1 hP 0 rfl rfl 1 (by decide) f_19 (fun _ h9 => h9) rfl dX2_makeCertificate_1 ?_
  refine lv_iload_n hx hb dX2_makeCertificate_4 rfl (lv_at hl 1 rfl) ?_
  refine lv_iload_n hx hb dX2_makeCertificate_5 rfl (lv_at hl 2 rfl) ?_
  refine lv_aload_n hx hb dX2_makeCertificate_6 rfl (lv_at hl 0 rfl) ?_
  refine va_get (D := D) (ci := 2) (v := .int dy) (C := RX2) (T := TX2) (N := 5) hx hb hts g_X2 hown hE.1 hP 0 rfl rfl 4 (by decide) f_31 (fun _ h9 => h9) rfl dX2_makeCertificate_7 ?_
  refine lv_iload_n hx hb dX2_makeCertificate_10 rfl (lv_at hl 3 rfl) ?_
  refine lv_aload_n hx hb dX2_makeCertificate_11 rfl (lv_at hl 0 rfl) ?_
  refine lv_iload_n hx hb dX2_makeCertificate_12 rfl (lv_at hl 3 rfl) ?_
  refine kcW_i (n := 1) (wc := wH cy h pn a0 a1 a2 a3 a4 a5 a6 a7 a8 b0 b1 b2 b3 b4 b5 b6 b7 fs ss fd ed lm dd ce cw n iss sb fst len off ren que kc pins sd dy) (As := [.int ln]) (rest := [.int ln, .int dy, .int su_, .int iu, .ref b0]) ⟨hx, hb, hml, hown, hts⟩ hE hA hP hD hS (c_X2_drawOffset l D cy h pn a0 a1 a2 a3 a4 a5 a6 a7 a8 b0 b1 b2 b3 b4 b5 b6 b7 fs ss fd ed lm dd ce cw n iss sb fst len off ren que kc pins sd dy ln (by first | assumption | omega)) (fun _ => Eq.trans (b := [h, a0, a1, a2, a3, a4, a5, a6, a7, a8, b0, b1, b2, b3, b4, b5, b6, b7, pn]) rfl rfl) (q0 := 0) (ci := 2) rfl rfl gX2_makeCertificate_X2_drawOffset rfl rfl rfl ⟨rfl, by decide, by decide, by decide +kernel⟩ ⟨Nat.le_of_ble_eq_true rfl, Nat.le_of_ble_eq_true rfl⟩ rfl hl.1 rfl (Nat.le_of_ble_eq_true rfl) dX2_makeCertificate_13 ⟨Nat.zero_le _, Nat.zero_le _⟩ (fun r_1 u H locs e_2 hP hD hS => ?_)
  have hP : va_P D vwCl (wH cy h pn a0 a1 a2 a3 a4 a5 a6 a7 a8 b0 b1 b2 b3 b4 b5 b6 b7 fs ss fd ed lm dd ce cw n iss sb fst len off ren que kc pins (seedN sd) dy) H := hP
  have hD : va_D A (wH cy h pn a0 a1 a2 a3 a4 a5 a6 a7 a8 b0 b1 b2 b3 b4 b5 b6 b7 fs ss fd ed lm dd ce cw n iss sb fst len off ren que kc pins (seedN sd) dy) := hD
  have e_2 : r_1 = offD (seedN sd) ln := e_2
  subst e_2
  refine kcV_i (n := 5) (X := (h, .inr (2, [.ref a0, .ref b0, .ref pn, .int (seedN sd), .int dy])) :: wT cy a0 a1 a2 a3 a4 a5 a6 a7 a8 fs ss fd ed lm dd ce cw n) (wc := wC cy b0 b1 b2 b3 b4 b5 b6 b7 iss sb fst len off ren que kc) (Y := [(pn, .inl (cy.1, 16, .inl pins))]) (As := [.int iu, .int su_, .int dy, .int ln, .int (offD (seedN sd) ln)]) (rest := []) ⟨hx, hb, hml, hown, hts⟩ hE hA hP hD hS (c_X0_append l D cy b0 b1 b2 b3 b4 b5 b6 b7 iss sb fst len off ren que kc iu su_ dy ln (offD (seedN sd) ln) (by first | assumption | omega)) (fun _ => Eq.trans (b := [b0, b1, b2, b3, b4, b5, b6, b7]) rfl rfl) (q0 := 0) (ci := 0) rfl rfl gX2_makeCertificate_X0_append rfl rfl rfl ⟨rfl, by decide, by decide, by decide +kernel⟩ ⟨Nat.le_of_ble_eq_true rfl, Nat.le_of_ble_eq_true rfl⟩ rfl hl.1 rfl (Nat.le_of_ble_eq_true rfl) dX2_makeCertificate_16 ⟨Nat.zero_le _, Nat.zero_le _⟩ (fun r_3 u H locs e_4 hP hD hS => ?_)
  have hP : va_P D vwCl (wH cy h pn a0 a1 a2 a3 a4 a5 a6 a7 a8 b0 b1 b2 b3 b4 b5 b6 b7 fs ss fd ed lm dd ce cw n (upd iss kc iu) (upd sb kc su_) (upd fst kc dy) (upd len kc ln) (upd off kc (offD (seedN sd) ln)) (upd ren kc (-1)) que (kc + 1) pins (seedN sd) dy) H := hP
  have hD : va_D A (wH cy h pn a0 a1 a2 a3 a4 a5 a6 a7 a8 b0 b1 b2 b3 b4 b5 b6 b7 fs ss fd ed lm dd ce cw n (upd iss kc iu) (upd sb kc su_) (upd fst kc dy) (upd len kc ln) (upd off kc (offD (seedN sd) ln)) (upd ren kc (-1)) que (kc + 1) pins (seedN sd) dy) := hD
  have e_4 : r_3 = nI kc := e_4
  subst e_4
  exact hret _ _ _ _ (nI kc) () dX2_makeCertificate_19 (Or.inl rfl) rfl hP hS

set_option maxHeartbeats 4000000 in
set_option maxRecDepth 100000 in
theorem c_X2_namesCovered (l : Launch) (D : va_G) (cy : ClassId × ClassId × ClassId) (h pn a0 a1 a2 a3 a4 a5 a6 a7 a8 b0 b1 b2 b3 b4 b5 b6 b7 : Nat) (fs ss fd ed lm dd ce cw : Nat → Int32) (n : Nat) (iss sb fst len off ren que : Nat → Int32) (kc : Nat) (pins : Nat → Int32) (sd dy : Int32) (day : Int32) (wo : Int32) (hn : n ≤ 8) (hc : kc ≤ 60) : kI l D cy yX2_namesCovered wsX2_namesCovered (krm 3 67) [.ref h, .int day, .int wo] (wH cy h pn a0 a1 a2 a3 a4 a5 a6 a7 a8 b0 b1 b2 b3 b4 b5 b6 b7 fs ss fd ed lm dd ce cw n iss sb fst len off ren que kc pins sd dy) (fun (r : Int32) (u : Unit) => r = nhN iss sb fst len day (goodM fs ss fd ed dd day wo n) kc) (fun _ : Unit => wH cy h pn a0 a1 a2 a3 a4 a5 a6 a7 a8 b0 b1 b2 b3 b4 b5 b6 b7 fs ss fd ed lm dd ce cw n iss sb fst len off ren que kc pins sd dy) := by
  refine kI.of (cc := cX2_namesCovered) (maxL := 3) (rt := .int) (Or.inl rfl) (by decide) rfl (Nat.le_of_ble_eq_true rfl) ?_
  intro p e s m args below meth c Q A ls hx hb hml hown hts hE hA hP hD hl hret
  have hS : va_S A s.heap s.heap [] := va_S.rf
  have hl : lv_has ls 3 [(0, .ref h), (1, .int day), (2, .int wo)] := hl
  have g_X2 : ∀ w ∈ wsX20, w ∈ wsX2_namesCovered := by decide +kernel
  have f_19 := hts (.fieldLink RX2 19 "CertHerd" "certificateTable" "LCertHerd$CertificateTable;") (by decide +kernel)
  have f_10 := hts (.fieldLink RX2 10 "CertHerd" "issuerTable" "LCertHerd$IssuerTable;") (by decide +kernel)
  refine lv_aload_n hx hb dX2_namesCovered_0 rfl (lv_at hl 0 rfl) ?_
  refine va_get (D := D) (ci := 2) (v := .ref b0) (C := RX2) (T := TX2) (N := 5) hx hb hts g_X2 hown hE.1 hP 0 rfl rfl 1 (by decide) f_19 (fun _ h9 => h9) rfl dX2_namesCovered_1 ?_
  refine lv_iload_n hx hb dX2_namesCovered_4 rfl (lv_at hl 1 rfl) ?_
  refine lv_aload_n hx hb dX2_namesCovered_5 rfl (lv_at hl 0 rfl) ?_
  refine va_get (D := D) (ci := 2) (v := .ref a0) (C := RX2) (T := TX2) (N := 5) hx hb hts g_X2 hown hE.1 hP 0 rfl rfl 0 (by decide) f_10 (fun _ h9 => h9) rfl dX2_namesCovered_6 ?_
  refine lv_iload_n hx hb dX2_namesCovered_9 rfl (lv_at hl 1 rfl) ?_
  refine lv_iload_n hx hb dX2_namesCovered_10 rfl (lv_at hl 2 rfl) ?_
  refine kcV_i (n := 2) (X := [(h, .inr (2, [.ref a0, .ref b0, .ref pn, .int sd, .int dy]))]) (wc := wT cy a0 a1 a2 a3 a4 a5 a6 a7 a8 fs ss fd ed lm dd ce cw n) (Y := wC cy b0 b1 b2 b3 b4 b5 b6 b7 iss sb fst len off ren que kc ++ [(pn, .inl (cy.1, 16, .inl pins))]) (As := [.int day, .int wo]) (rest := [.int day, .ref b0]) ⟨hx, hb, hml, hown, hts⟩ hE hA hP hD hS (c_X1_goodOn l D cy a0 a1 a2 a3 a4 a5 a6 a7 a8 fs ss fd ed lm dd ce cw n day wo (by first | assumption | omega)) (fun _ => rfl) (q0 := 0) (ci := 1) rfl rfl gX2_namesCovered_X1_goodOn rfl rfl rfl ⟨rfl, by decide, by decide, by decide +kernel⟩ ⟨Nat.le_of_ble_eq_true rfl, Nat.le_of_ble_eq_true rfl⟩ rfl hl.1 rfl (Nat.le_of_ble_eq_true rfl) dX2_namesCovered_11 ⟨Nat.zero_le _, Nat.zero_le _⟩ (fun r_1 u H locs e_2 hP hD hS => ?_)
  have hP : va_P D vwCl (wH cy h pn a0 a1 a2 a3 a4 a5 a6 a7 a8 b0 b1 b2 b3 b4 b5 b6 b7 fs ss fd ed lm dd ce cw n iss sb fst len off ren que kc pins sd dy) H := hP
  have hD : va_D A (wH cy h pn a0 a1 a2 a3 a4 a5 a6 a7 a8 b0 b1 b2 b3 b4 b5 b6 b7 fs ss fd ed lm dd ce cw n iss sb fst len off ren que kc pins sd dy) := hD
  have e_2 : r_1 = goodM fs ss fd ed dd day wo n := e_2
  subst e_2
  refine kcV_i (n := 2) (X := (h, .inr (2, [.ref a0, .ref b0, .ref pn, .int sd, .int dy])) :: wT cy a0 a1 a2 a3 a4 a5 a6 a7 a8 fs ss fd ed lm dd ce cw n) (wc := wC cy b0 b1 b2 b3 b4 b5 b6 b7 iss sb fst len off ren que kc) (Y := [(pn, .inl (cy.1, 16, .inl pins))]) (As := [.int day, .int (goodM fs ss fd ed dd day wo n)]) (rest := []) ⟨hx, hb, hml, hown, hts⟩ hE hA hP hD hS (c_X0_namesHeld l D cy b0 b1 b2 b3 b4 b5 b6 b7 iss sb fst len off ren que kc day (goodM fs ss fd ed dd day wo n) (by first | assumption | omega)) (fun _ => rfl) (q0 := 0) (ci := 0) rfl rfl gX2_namesCovered_X0_namesHeld rfl rfl rfl ⟨rfl, by decide, by decide, by decide +kernel⟩ ⟨Nat.le_of_ble_eq_true rfl, Nat.le_of_ble_eq_true rfl⟩ rfl hl.1 rfl (Nat.le_of_ble_eq_true rfl) dX2_namesCovered_14 ⟨Nat.zero_le _, Nat.zero_le _⟩ (fun r_3 u H locs e_4 hP hD hS => ?_)
  have hP : va_P D vwCl (wH cy h pn a0 a1 a2 a3 a4 a5 a6 a7 a8 b0 b1 b2 b3 b4 b5 b6 b7 fs ss fd ed lm dd ce cw n iss sb fst len off ren que kc pins sd dy) H := hP
  have hD : va_D A (wH cy h pn a0 a1 a2 a3 a4 a5 a6 a7 a8 b0 b1 b2 b3 b4 b5 b6 b7 fs ss fd ed lm dd ce cw n iss sb fst len off ren que kc pins sd dy) := hD
  have e_4 : r_3 = nhN iss sb fst len day (goodM fs ss fd ed dd day wo n) kc := e_4
  subst e_4
  exact hret _ _ _ _ (nhN iss sb fst len day (goodM fs ss fd ed dd day wo n) kc) () dX2_namesCovered_17 (Or.inl rfl) rfl hP hS

set_option maxHeartbeats 4000000 in
set_option maxRecDepth 100000 in
theorem c_X2_namesLostWithout (l : Launch) (D : va_G) (cy : ClassId × ClassId × ClassId) (h pn a0 a1 a2 a3 a4 a5 a6 a7 a8 b0 b1 b2 b3 b4 b5 b6 b7 : Nat) (fs ss fd ed lm dd ce cw : Nat → Int32) (n : Nat) (iss sb fst len off ren que : Nat → Int32) (kc : Nat) (pins : Nat → Int32) (sd dy : Int32) (wo : Int32) (day : Int32) (hn : n ≤ 8) (hc : kc ≤ 60) : kI l D cy yX2_namesLostWithout wsX2_namesLostWithout (krm 4 89) [.ref h, .int wo, .int day] (wH cy h pn a0 a1 a2 a3 a4 a5 a6 a7 a8 b0 b1 b2 b3 b4 b5 b6 b7 fs ss fd ed lm dd ce cw n iss sb fst len off ren que kc pins sd dy) (fun (r : Int32) (u : Unit) => r = lostC fs ss fd ed dd n iss sb fst len kc day wo) (fun _ : Unit => wH cy h pn a0 a1 a2 a3 a4 a5 a6 a7 a8 b0 b1 b2 b3 b4 b5 b6 b7 fs ss fd ed lm dd ce cw n iss sb fst len off ren que kc pins sd dy) := by
  refine kI.of (cc := cX2_namesLostWithout) (maxL := 3) (rt := .int) (Or.inl rfl) (by decide) rfl (Nat.le_of_ble_eq_true rfl) ?_
  intro p e s m args below meth c Q A ls hx hb hml hown hts hE hA hP hD hl hret
  have hS : va_S A s.heap s.heap [] := va_S.rf
  have hl : lv_has ls 3 [(0, .ref h), (1, .int wo), (2, .int day)] := hl
  refine lv_aload_n hx hb dX2_namesLostWithout_0 rfl (lv_at hl 0 rfl) ?_
  refine lv_iload_n hx hb dX2_namesLostWithout_1 rfl (lv_at hl 2 rfl) ?_
  refine lv_iconst (v := (-1)) hx hb dX2_namesLostWithout_2 (by decide) ?_
  refine kcW_i (n := 2) (wc := wH cy h pn a0 a1 a2 a3 a4 a5 a6 a7 a8 b0 b1 b2 b3 b4 b5 b6 b7 fs ss fd ed lm dd ce cw n iss sb fst len off ren que kc pins sd dy) (As := [.int day, .int (-1)]) (rest := []) ⟨hx, hb, hml, hown, hts⟩ hE hA hP hD hS (c_X2_namesCovered l D cy h pn a0 a1 a2 a3 a4 a5 a6 a7 a8 b0 b1 b2 b3 b4 b5 b6 b7 fs ss fd ed lm dd ce cw n iss sb fst len off ren que kc pins sd dy day (-1) (by first | assumption | omega) (by first | assumption | omega)) (fun _ => rfl) (q0 := 0) (ci := 2) rfl rfl gX2_namesLostWithout_X2_namesCovered rfl rfl rfl ⟨rfl, by decide, by decide, by decide +kernel⟩ ⟨Nat.le_of_ble_eq_true rfl, Nat.le_of_ble_eq_true rfl⟩ rfl hl.1 rfl (Nat.le_of_ble_eq_true rfl) dX2_namesLostWithout_3 ⟨Nat.zero_le _, Nat.zero_le _⟩ (fun r_1 u H locs e_2 hP hD hS => ?_)
  have hP : va_P D vwCl (wH cy h pn a0 a1 a2 a3 a4 a5 a6 a7 a8 b0 b1 b2 b3 b4 b5 b6 b7 fs ss fd ed lm dd ce cw n iss sb fst len off ren que kc pins sd dy) H := hP
  have hD : va_D A (wH cy h pn a0 a1 a2 a3 a4 a5 a6 a7 a8 b0 b1 b2 b3 b4 b5 b6 b7 fs ss fd ed lm dd ce cw n iss sb fst len off ren que kc pins sd dy) := hD
  have e_2 : r_1 = nhN iss sb fst len day (goodM fs ss fd ed dd day (-1) n) kc := e_2
  subst e_2
  refine lv_aload_n hx hb dX2_namesLostWithout_6 rfl (lv_at hl 0 rfl) ?_
  refine lv_iload_n hx hb dX2_namesLostWithout_7 rfl (lv_at hl 2 rfl) ?_
  refine lv_iload_n hx hb dX2_namesLostWithout_8 rfl (lv_at hl 1 rfl) ?_
  refine kcW_i (n := 2) (wc := wH cy h pn a0 a1 a2 a3 a4 a5 a6 a7 a8 b0 b1 b2 b3 b4 b5 b6 b7 fs ss fd ed lm dd ce cw n iss sb fst len off ren que kc pins sd dy) (As := [.int day, .int wo]) (rest := [.int (nhN iss sb fst len day (goodM fs ss fd ed dd day (-1) n) kc)]) ⟨hx, hb, hml, hown, hts⟩ hE hA hP hD hS (c_X2_namesCovered l D cy h pn a0 a1 a2 a3 a4 a5 a6 a7 a8 b0 b1 b2 b3 b4 b5 b6 b7 fs ss fd ed lm dd ce cw n iss sb fst len off ren que kc pins sd dy day wo (by first | assumption | omega) (by first | assumption | omega)) (fun _ => rfl) (q0 := 0) (ci := 2) rfl rfl gX2_namesLostWithout_X2_namesCovered rfl rfl rfl ⟨rfl, by decide, by decide, by decide +kernel⟩ ⟨Nat.le_of_ble_eq_true rfl, Nat.le_of_ble_eq_true rfl⟩ rfl hl.1 rfl (Nat.le_of_ble_eq_true rfl) dX2_namesLostWithout_9 ⟨Nat.zero_le _, Nat.zero_le _⟩ (fun r_3 u H locs e_4 hP hD hS => ?_)
  have hP : va_P D vwCl (wH cy h pn a0 a1 a2 a3 a4 a5 a6 a7 a8 b0 b1 b2 b3 b4 b5 b6 b7 fs ss fd ed lm dd ce cw n iss sb fst len off ren que kc pins sd dy) H := hP
  have hD : va_D A (wH cy h pn a0 a1 a2 a3 a4 a5 a6 a7 a8 b0 b1 b2 b3 b4 b5 b6 b7 fs ss fd ed lm dd ce cw n iss sb fst len off ren que kc pins sd dy) := hD
  have e_4 : r_3 = nhN iss sb fst len day (goodM fs ss fd ed dd day wo n) kc := e_4
  subst e_4
  refine lv_iconst (v := (-1)) hx hb dX2_namesLostWithout_12 (by decide) ?_
  refine lv_ixor hx hb dX2_namesLostWithout_13 ?_
  refine lv_iand hx hb dX2_namesLostWithout_14 ?_
  exact hret _ _ _ _ ((nhN iss sb fst len day (goodM fs ss fd ed dd day (-1) n) kc) &&& ((nhN iss sb fst len day (goodM fs ss fd ed dd day wo n) kc) ^^^ (-1))) () dX2_namesLostWithout_15 (Or.inl rfl) rfl hP hS
