/-! The law's helpers, walked. -/
set_option maxHeartbeats 4000000 in
set_option maxRecDepth 100000 in
theorem c_L_low (l : Launch) (D : va_G) (cy : ClassId × ClassId × ClassId) (v_ : Int32) (k_ : Nat) (hk0 : 0 < k_) (hk : k_ < 2147483648) : kI l D cy yL_low wsL_low (krm 0 0) [.int v_, .int (nI k_)] (([] : va_W)) (fun (r : Int32) (u : Unit) => r = nI (lowN v_ k_)) (fun _ : Unit => ([] : va_W)) := by
  refine kI.of (cc := cL_low) (maxL := 2) (rt := .int) (Or.inl rfl) (by decide) rfl (Nat.le_of_ble_eq_true rfl) ?_
  intro p e s m args below meth c Q A ls hx hb hml hown hts hE hA hP hD hl hret
  have hS : va_S A s.heap s.heap [] := va_S.rf
  have hl : lv_has ls 2 [(0, .int v_), (1, .int (nI k_))] := hl
  refine lv_iload_n hx hb dL_low_0 rfl (lv_at hl 0 rfl) ?_
  refine lv_ldc (v := 2147483647) hx hb hown (hts (.constant RL 7 (2147483647)) (by decide +kernel)) dL_low_1 ?_
  refine lv_iand hx hb dL_low_3 ?_
  refine lv_iload_n hx hb dL_low_4 rfl (lv_at hl 1 rfl) ?_
  refine lv_irem hx hb dL_low_5 (nI_ne0 hk0 hk) ?_
  refine k_top (z := nI (lowN v_ k_)) (low_eq hk0 hk) ?_
  exact hret _ _ _ _ (nI (lowN v_ k_)) () dL_low_6 (Or.inl rfl) rfl hP hS

set_option maxHeartbeats 4000000 in
set_option maxRecDepth 100000 in
theorem c_L_bits (l : Launch) (D : va_G) (cy : ClassId × ClassId × ClassId) (x_ : Int32) : kI l D cy yL_bits wsL_bits (krm 0 0) [.int x_] (([] : va_W)) (fun (r : Int32) (u : Unit) => r = bsN x_ 16) (fun _ : Unit => ([] : va_W)) := by
  refine kI.of (cc := cL_bits) (maxL := 3) (rt := .int) (Or.inl rfl) (by decide) rfl (Nat.le_of_ble_eq_true rfl) ?_
  intro p e s m args below meth c Q A ls hx hb hml hown hts hE hA hP hD hl hret
  have hS : va_S A s.heap s.heap [] := va_S.rf
  have hl : lv_has ls 3 [(0, .int x_)] := hl
  refine lv_iconst (v := 0) hx hb dL_bits_0 (by decide) ?_
  refine lv_istore_n (lv' := [(1, .int 0), (0, .int x_)]) hx hb dL_bits_1 rfl hl (by decide) rfl (fun ls hl => ?_)
  refine lv_iconst (v := 0) hx hb dL_bits_2 (by decide) ?_
  refine lv_istore_n (lv' := [(2, .int 0), (1, .int 0), (0, .int x_)]) hx hb dL_bits_3 rfl hl (by decide) rfl (fun ls hl => ?_)
  have L_4 : ∀ (f : Nat) (k : Nat) (g : Int32) (H : Heap) (locs : List Loc) (ls : Array Slot), ((16 - k) < f) → (k ≤ 16) → (g = bsN x_ k) → va_P D vwCl ([]) H → va_D A ([]) → va_S A s.heap H locs → lv_has ls 3 [(2, .int (nI k)), (1, .int g), (0, .int x_)] → W p l e (krm 0 0) s m args below meth c H locs 0 0 Q (F0 m 4 ls []) := by
    intro f
    induction f with
    | zero => intro k g H locs ls hf; exact absurd hf (Nat.not_lt_zero _)
    | succ f ih_4 =>
      intro k g H locs ls hf hk eg hP hD hS hl
      refine lv_iload_n hx hb dL_bits_4 rfl (lv_at hl 0 rfl) ?_
      refine lv_bipush (v := 16) hx hb dL_bits_5 (by decide) ?_
      refine lv_icmp_ge (tgt := 24) hx hb dL_bits_7 (by decide) (fun c_7 => ?_) (fun c_7 => ?_)
      · have c_7n : 16 ≤ k := k_leN (a := 16) (b := k) (by omega) (by omega) c_7
        refine lv_iload_n hx hb dL_bits_24 rfl (lv_at hl 1 rfl) ?_
        exact hret _ _ _ _ g () dL_bits_25 (Or.inl rfl) (by have e9 : k = 16 := (by omega); subst e9; exact eg) hP hS
      · have c_7n : ¬ 16 ≤ k := k_nleN (a := 16) (b := k) (by omega) (by omega) c_7
        refine lv_iload_n hx hb dL_bits_10 rfl (lv_at hl 1 rfl) ?_
        refine lv_iload_n hx hb dL_bits_11 rfl (lv_at hl 2 rfl) ?_
        refine lv_iload_n hx hb dL_bits_12 rfl (lv_at hl 0 rfl) ?_
        refine lv_ishr hx hb dL_bits_13 ?_
        refine lv_iconst (v := 1) hx hb dL_bits_14 (by decide) ?_
        refine lv_iand hx hb dL_bits_15 ?_
        refine lv_iadd hx hb dL_bits_16 ?_
        refine lv_istore_n (lv' := [(1, .int (g + ((x_ >>> ((nI k) &&& 31)) &&& 1))), (2, .int (nI k)), (0, .int x_)]) hx hb dL_bits_17 rfl hl (by decide) rfl (fun ls hl => ?_)
        refine lv_iinc (v := (nI (k + 1))) (lv' := [(2, .int (nI (k + 1))), (1, .int (g + ((x_ >>> ((nI k) &&& 31)) &&& 1))), (0, .int x_)]) hx hb dL_bits_18 hl (k := 1) rfl (k_inc _) (by decide) rfl (fun ls hl => ?_)
        refine lv_goto (tgt := 4) hx hb dL_bits_21 (by decide) ?_
        exact ih_4 (k + 1) (g + ((x_ >>> ((nI k) &&& 31)) &&& 1)) _ _ ls (by omega) (by omega) (by rw [bsN, ← eg]) hP hD hS (lv_sub hl [0, 1, 2] rfl)
  exact L_4 ((16 - 0) + 1) 0 0 _ _ ls (Nat.lt_succ_self _) (by omega) rfl hP hD hS (lv_sub hl [0, 1, 2] rfl)

set_option maxHeartbeats 4000000 in
set_option maxRecDepth 100000 in
theorem c_L_isDay (l : Launch) (D : va_G) (cy : ClassId × ClassId × ClassId) (hfl : l.stackTraces = false) (h pn a0 a1 a2 a3 a4 a5 a6 a7 a8 b0 b1 b2 b3 b4 b5 b6 b7 : Nat) (fs ss fd ed lm dd ce cw : Nat → Int32) (n : Nat) (iss sb fst len off ren que : Nat → Int32) (kc : Nat) (pins : Nat → Int32) (sd dy : Int32) (y_ : Nat) (hn : n ≤ 8) (hc : kc ≤ 60) (hy : y_ ≤ 5000) (hs : subOK sb kc) : kXI l D cy yL_isDay wsL_isDay (krx 8 136) [.ref h, .int (nI y_), .int (nI n)] (wH cy h pn a0 a1 a2 a3 a4 a5 a6 a7 a8 b0 b1 b2 b3 b4 b5 b6 b7 fs ss fd ed lm dd ce cw n iss sb fst len off ren que kc pins sd dy) (fun (r : Int32) (u : Unit) => r = 1) (fun _ : Unit => wH cy h pn a0 a1 a2 a3 a4 a5 a6 a7 a8 b0 b1 b2 b3 b4 b5 b6 b7 fs ss fd ed lm dd ce cw n iss sb fst len off ren que kc pins sd dy) (fun _ => False) (wH cy h pn a0 a1 a2 a3 a4 a5 a6 a7 a8 b0 b1 b2 b3 b4 b5 b6 b7 fs ss fd ed lm dd ce cw n iss sb fst len off ren que kc pins sd dy) := by
  refine kXL.of (cc := cL_isDay) (maxL := 10) (rt := .boolean) (Or.inr rfl) (by decide) rfl (Nat.le_of_ble_eq_true rfl) ?_
  intro p e s m args below meth c Q A ls hx hb hml hown hts hE hA hP hD hl hZ hret
  have hS : va_S A s.heap s.heap [] := va_S.rf
  have hl : lv_has ls 10 [(0, .ref h), (1, .int (nI y_)), (2, .int (nI n))] := hl
  refine lv_aload_n hx hb dL_isDay_0 rfl (lv_at hl 0 rfl) ?_
  refine lv_iload_n hx hb dL_isDay_1 rfl (lv_at hl 1 rfl) ?_
  have hcd_2 : cdD (nI y_) = 0 := (cdD_nI hy)
  refine kxO_i (n := 1) (wc := wH cy h pn a0 a1 a2 a3 a4 a5 a6 a7 a8 b0 b1 b2 b3 b4 b5 b6 b7 fs ss fd ed lm dd ce cw n iss sb fst len off ren que kc pins sd dy) (As := [.int (nI y_)]) (rest := []) ⟨hx, hb, hml, hown, hts⟩ hE hA hZ hP hD hS (c_X2_covered l D cy hfl h pn a0 a1 a2 a3 a4 a5 a6 a7 a8 b0 b1 b2 b3 b4 b5 b6 b7 fs ss fd ed lm dd ce cw n iss sb fst len off ren que kc pins sd dy (nI y_) (by first | assumption | omega) (by first | assumption | omega)) (fun E h => absurd (show xkB E 0 from hcd_2 ▸ h) xkB_0) (fun _ => rfl) (q0 := 0) (ci := 2) rfl rfl gL_isDay_X2_covered rfl rfl rfl ⟨rfl, by decide, by decide, by decide +kernel⟩ ⟨Nat.le_of_ble_eq_true rfl, Nat.le_of_ble_eq_true rfl⟩ rfl hl.1 rfl (Nat.le_of_ble_eq_true rfl) dL_isDay_2 ⟨Nat.le_of_ble_eq_true rfl, Nat.le_of_ble_eq_true rfl⟩ (fun r_1 u H locs e_2 hP hD hS => ?_)
  have hP : va_P D vwCl (wH cy h pn a0 a1 a2 a3 a4 a5 a6 a7 a8 b0 b1 b2 b3 b4 b5 b6 b7 fs ss fd ed lm dd ce cw n iss sb fst len off ren que kc pins sd dy) H := hP
  have hD : va_D A (wH cy h pn a0 a1 a2 a3 a4 a5 a6 a7 a8 b0 b1 b2 b3 b4 b5 b6 b7 fs ss fd ed lm dd ce cw n iss sb fst len off ren que kc pins sd dy) := hD
  replace e_2 := e_2.1
  have e_2 : r_1 = nhN iss sb fst len (nI y_) (goodM fs ss fd ed dd (nI y_) (-1) n) kc := e_2
  subst e_2
  refine lv_istore_n (lv' := [(3, .int (nhN iss sb fst len (nI y_) (goodM fs ss fd ed dd (nI y_) (-1) n) kc)), (0, .ref h), (1, .int (nI y_)), (2, .int (nI n))]) hx hb dL_isDay_5 rfl hl (by decide) rfl (fun ls hl => ?_)
  refine lv_aload_n hx hb dL_isDay_6 rfl (lv_at hl 1 rfl) ?_
  refine lv_iload_n hx hb dL_isDay_7 rfl (lv_at hl 2 rfl) ?_
  have hcd_8 : cdD (nI y_) = 0 := (cdD_nI hy)
  refine kxO_i (n := 1) (wc := wH cy h pn a0 a1 a2 a3 a4 a5 a6 a7 a8 b0 b1 b2 b3 b4 b5 b6 b7 fs ss fd ed lm dd ce cw n iss sb fst len off ren que kc pins sd dy) (As := [.int (nI y_)]) (rest := []) ⟨hx, hb, hml, hown, hts⟩ hE hA hZ hP hD hS (c_X2_weakest l D cy hfl h pn a0 a1 a2 a3 a4 a5 a6 a7 a8 b0 b1 b2 b3 b4 b5 b6 b7 fs ss fd ed lm dd ce cw n iss sb fst len off ren que kc pins sd dy (nI y_) (by first | assumption | omega) (by first | assumption | omega)) (fun E h => absurd (show xkB E 0 from hcd_8 ▸ h) xkB_0) (fun _ => rfl) (q0 := 0) (ci := 2) rfl rfl gL_isDay_X2_weakest rfl rfl rfl ⟨rfl, by decide, by decide, by decide +kernel⟩ ⟨Nat.le_of_ble_eq_true rfl, Nat.le_of_ble_eq_true rfl⟩ rfl hl.1 rfl (Nat.le_of_ble_eq_true rfl) dL_isDay_8 ⟨Nat.le_of_ble_eq_true rfl, Nat.le_of_ble_eq_true rfl⟩ (fun r_3 u H locs e_4 hP hD hS => ?_)
  have hP : va_P D vwCl (wH cy h pn a0 a1 a2 a3 a4 a5 a6 a7 a8 b0 b1 b2 b3 b4 b5 b6 b7 fs ss fd ed lm dd ce cw n iss sb fst len off ren que kc pins sd dy) H := hP
  have hD : va_D A (wH cy h pn a0 a1 a2 a3 a4 a5 a6 a7 a8 b0 b1 b2 b3 b4 b5 b6 b7 fs ss fd ed lm dd ce cw n iss sb fst len off ren que kc pins sd dy) := hD
  replace e_4 := e_4.1
  have e_4 : r_3 = (wkN bcN (fun k => lostC fs ss fd ed dd n iss sb fst len kc (nI y_) (nI k)) n).1 := e_4
  subst e_4
  refine lv_istore (lv' := [(4, .int ((wkN bcN (fun k => lostC fs ss fd ed dd n iss sb fst len kc (nI y_) (nI k)) n).1)), (3, .int (nhN iss sb fst len (nI y_) (goodM fs ss fd ed dd (nI y_) (-1) n) kc)), (0, .ref h), (1, .int (nI y_)), (2, .int (nI n))]) hx hb dL_isDay_11 hl (by decide) rfl (fun ls hl => ?_)
  refine lv_iconst (v := 0) hx hb dL_isDay_13 (by decide) ?_
  refine lv_istore (lv' := [(5, .int 0), (4, .int ((wkN bcN (fun k => lostC fs ss fd ed dd n iss sb fst len kc (nI y_) (nI k)) n).1)), (3, .int (nhN iss sb fst len (nI y_) (goodM fs ss fd ed dd (nI y_) (-1) n) kc)), (0, .ref h), (1, .int (nI y_)), (2, .int (nI n))]) hx hb dL_isDay_14 hl (by decide) rfl (fun ls hl => ?_)
  refine lv_iconst (v := (-1)) hx hb dL_isDay_16 (by decide) ?_
  refine lv_istore (lv' := [(6, .int (-1)), (5, .int 0), (4, .int ((wkN bcN (fun k => lostC fs ss fd ed dd n iss sb fst len kc (nI y_) (nI k)) n).1)), (3, .int (nhN iss sb fst len (nI y_) (goodM fs ss fd ed dd (nI y_) (-1) n) kc)), (0, .ref h), (1, .int (nI y_)), (2, .int (nI n))]) hx hb dL_isDay_17 hl (by decide) rfl (fun ls hl => ?_)
  refine lv_iconst (v := 1) hx hb dL_isDay_19 (by decide) ?_
  refine lv_istore (lv' := [(7, .int 1), (6, .int (-1)), (5, .int 0), (4, .int ((wkN bcN (fun k => lostC fs ss fd ed dd n iss sb fst len kc (nI y_) (nI k)) n).1)), (3, .int (nhN iss sb fst len (nI y_) (goodM fs ss fd ed dd (nI y_) (-1) n) kc)), (0, .ref h), (1, .int (nI y_)), (2, .int (nI n))]) hx hb dL_isDay_20 hl (by decide) rfl (fun ls hl => ?_)
  refine lv_iconst (v := 0) hx hb dL_isDay_22 (by decide) ?_
  refine lv_istore (lv' := [(8, .int 0), (7, .int 1), (6, .int (-1)), (5, .int 0), (4, .int ((wkN bcN (fun k => lostC fs ss fd ed dd n iss sb fst len kc (nI y_) (nI k)) n).1)), (3, .int (nhN iss sb fst len (nI y_) (goodM fs ss fd ed dd (nI y_) (-1) n) kc)), (0, .ref h), (1, .int (nI y_)), (2, .int (nI n))]) hx hb dL_isDay_23 hl (by decide) rfl (fun ls hl => ?_)
  have L_25 : ∀ (f : Nat) (k : Nat) (g2 g1 : Int32) (H : Heap) (locs : List Loc) (ls : Array Slot), ((n - k) < f) → (k ≤ n) → ((g1, g2) = wkN (fun x => bsN x 16) (fun k => lostC fs ss fd ed dd n iss sb fst len kc (nI y_) (nI k)) k) → va_P D vwCl (wH cy h pn a0 a1 a2 a3 a4 a5 a6 a7 a8 b0 b1 b2 b3 b4 b5 b6 b7 fs ss fd ed lm dd ce cw n iss sb fst len off ren que kc pins sd dy) H → va_D A (wH cy h pn a0 a1 a2 a3 a4 a5 a6 a7 a8 b0 b1 b2 b3 b4 b5 b6 b7 fs ss fd ed lm dd ce cw n iss sb fst len off ren que kc pins sd dy) → va_S A s.heap H locs → lv_has ls 10 [(8, .int (nI k)), (7, .int 1), (6, .int g1), (5, .int g2), (4, .int ((wkN bcN (fun k => lostC fs ss fd ed dd n iss sb fst len kc (nI y_) (nI k)) n).1)), (3, .int (nhN iss sb fst len (nI y_) (goodM fs ss fd ed dd (nI y_) (-1) n) kc)), (0, .ref h), (1, .int (nI y_)), (2, .int (nI n))] → W p l e (krx 8 136) s m args below meth c H locs 0 0 Q (F0 m 25 ls []) := by
    intro f
    induction f with
    | zero => intro k g2 g1 H locs ls hf; exact absurd hf (Nat.not_lt_zero _)
    | succ f ih_25 =>
      intro k g2 g1 H locs ls hf hk eg hP hD hS hl
      refine lv_iload hx hb dL_isDay_25 (lv_at hl 0 rfl) ?_
      refine lv_iload_n hx hb dL_isDay_27 rfl (lv_at hl 8 rfl) ?_
      refine lv_icmp_ge (tgt := 123) hx hb dL_isDay_28 (by decide) (fun c_28 => ?_) (fun c_28 => ?_)
      · have c_28n : n ≤ k := k_leN (a := n) (b := k) (by omega) (by omega) c_28
        have e9 : k = n := by omega
        have hwk : (wkN bcN (fun k => lostC fs ss fd ed dd n iss sb fst len kc (nI y_) (nI k)) n).1 = g1 := by
          rw [wk_bits hs]
          rw [e9] at eg
          rw [← eg]
        have hz16 : y_ % 16 < 16 := Nat.mod_lt _ (by decide)
        refine lv_iload_n hx hb dL_isDay_123 rfl (lv_at hl 7 rfl) ?_
        refine lv_bipush (v := 16) hx hb dL_isDay_124 (by decide) ?_
        refine lv_irem hx hb dL_isDay_126 (by decide) ?_
        refine k_top (z := nI (y_ % 16)) (pk_rem (d := 16) (by omega) (by omega) (by omega)) ?_
        refine lv_istore (lv' := [(8, .int (nI (y_ % 16))), (7, .int 1), (6, .int g1), (5, .int g2), (4, .int ((wkN bcN (fun k => lostC fs ss fd ed dd n iss sb fst len kc (nI y_) (nI k)) n).1)), (3, .int (nhN iss sb fst len (nI y_) (goodM fs ss fd ed dd (nI y_) (-1) n) kc)), (0, .ref h), (1, .int (nI y_)), (2, .int (nI n))]) hx hb dL_isDay_127 hl (by decide) rfl (fun ls hl => ?_)
        refine lv_iload_n hx hb dL_isDay_129 rfl (lv_at hl 5 rfl) ?_
        refine lv_iload hx hb dL_isDay_130 (lv_at hl 0 rfl) ?_
        refine lv_ishr hx hb dL_isDay_132 ?_
        refine lv_iconst (v := 1) hx hb dL_isDay_133 (by decide) ?_
        refine lv_iand hx hb dL_isDay_134 ?_
        refine lv_iconst (v := 1) hx hb dL_isDay_135 (by decide) ?_
        refine lv_icmp_ne (tgt := 143) hx hb dL_isDay_136 (by decide) (fun c_136 => ?_) (fun c_136 => ?_)
        · refine lv_iconst (v := 0) hx hb dL_isDay_143 (by decide) ?_
          refine lv_istore (lv' := [(9, .int 0), (8, .int (nI (y_ % 16))), (7, .int 1), (6, .int g1), (5, .int g2), (4, .int ((wkN bcN (fun k => lostC fs ss fd ed dd n iss sb fst len kc (nI y_) (nI k)) n).1)), (3, .int (nhN iss sb fst len (nI y_) (goodM fs ss fd ed dd (nI y_) (-1) n) kc)), (0, .ref h), (1, .int (nI y_)), (2, .int (nI n))]) hx hb dL_isDay_144 hl (by decide) rfl (fun ls hl => ?_)
          refine lv_iload hx hb dL_isDay_146 (lv_at hl 2 rfl) ?_
          refine lv_if_eq (tgt := 203) hx hb dL_isDay_148 (by decide) (fun c_148 => absurd c_148 (by decide)) (fun _ => ?_)
          refine lv_iload hx hb dL_isDay_151 (lv_at hl 5 rfl) ?_
          refine lv_iload hx hb dL_isDay_153 (lv_at hl 3 rfl) ?_
          refine lv_icmp_ne (tgt := 203) hx hb dL_isDay_155 (by decide) (fun c_155 => False.elim (c_155 hwk)) (fun c_155 => ?_)
          refine lv_aload_n hx hb dL_isDay_158 rfl (lv_at hl 7 rfl) ?_
          refine lv_iload hx hb dL_isDay_159 (lv_at hl 1 rfl) ?_
          refine lv_iload_n hx hb dL_isDay_161 rfl (lv_at hl 8 rfl) ?_
          have hcd_162 : cdND (nI (y_ % 16)) (nI y_) = 0 := (cdND_nI (by omega) hy)
          refine kxO_i (n := 2) (wc := wH cy h pn a0 a1 a2 a3 a4 a5 a6 a7 a8 b0 b1 b2 b3 b4 b5 b6 b7 fs ss fd ed lm dd ce cw n iss sb fst len off ren que kc pins sd dy) (As := [.int (nI (y_ % 16)), .int (nI y_)]) (rest := []) ⟨hx, hb, hml, hown, hts⟩ hE hA hZ hP hD hS (c_X2_isCovered l D cy hfl h pn a0 a1 a2 a3 a4 a5 a6 a7 a8 b0 b1 b2 b3 b4 b5 b6 b7 fs ss fd ed lm dd ce cw n iss sb fst len off ren que kc pins sd dy (nI (y_ % 16)) (nI y_) (by first | assumption | omega) (by first | assumption | omega)) (fun E h => absurd (show xkA E 0 from hcd_162 ▸ h) xkA_0) (fun _ => rfl) (q0 := 0) (ci := 2) rfl rfl gL_isDay_X2_isCovered rfl rfl rfl ⟨rfl, by decide, by decide, by decide +kernel⟩ ⟨Nat.le_of_ble_eq_true rfl, Nat.le_of_ble_eq_true rfl⟩ rfl hl.1 rfl (Nat.le_of_ble_eq_true rfl) dL_isDay_162 ⟨Nat.le_of_ble_eq_true rfl, Nat.le_of_ble_eq_true rfl⟩ (fun r_5 u H locs e_6 hP hD hS => ?_)
          have hP : va_P D vwCl (wH cy h pn a0 a1 a2 a3 a4 a5 a6 a7 a8 b0 b1 b2 b3 b4 b5 b6 b7 fs ss fd ed lm dd ce cw n iss sb fst len off ren que kc pins sd dy) H := hP
          have hD : va_D A (wH cy h pn a0 a1 a2 a3 a4 a5 a6 a7 a8 b0 b1 b2 b3 b4 b5 b6 b7 fs ss fd ed lm dd ce cw n iss sb fst len off ren que kc pins sd dy) := hD
          replace e_6 := e_6.1
          have e_6 : r_5 = bI (hasB (nhN iss sb fst len (nI y_) (goodM fs ss fd ed dd (nI y_) (-1) n) kc) (nI (y_ % 16))) := e_6
          subst e_6
          refine lv_iload hx hb dL_isDay_165 (lv_at hl 0 rfl) ?_
          refine lv_icmp_ne (tgt := 203) hx hb dL_isDay_167 (by decide) (fun c_167 => False.elim (c_167 (bI_f (has_0 c_136)))) (fun c_167 => ?_)
          refine lv_aload_n hx hb dL_isDay_170 rfl (lv_at hl 7 rfl) ?_
          refine lv_iload hx hb dL_isDay_171 (lv_at hl 1 rfl) ?_
          refine lv_iload_n hx hb dL_isDay_173 rfl (lv_at hl 8 rfl) ?_
          have hcd_174 : cdND (nI (y_ % 16)) (nI y_) = 0 := (cdND_nI (by omega) hy)
          refine kxO_i (n := 2) (wc := wH cy h pn a0 a1 a2 a3 a4 a5 a6 a7 a8 b0 b1 b2 b3 b4 b5 b6 b7 fs ss fd ed lm dd ce cw n iss sb fst len off ren que kc pins sd dy) (As := [.int (nI (y_ % 16)), .int (nI y_)]) (rest := []) ⟨hx, hb, hml, hown, hts⟩ hE hA hZ hP hD hS (c_X2_nextGap l D cy hfl h pn a0 a1 a2 a3 a4 a5 a6 a7 a8 b0 b1 b2 b3 b4 b5 b6 b7 fs ss fd ed lm dd ce cw n iss sb fst len off ren que kc pins sd dy (nI (y_ % 16)) (nI y_) (by first | assumption | omega) (by first | assumption | omega)) (fun E h => absurd (show xkA E 0 from hcd_174 ▸ h) xkA_0) (fun _ => rfl) (q0 := 0) (ci := 2) rfl rfl gL_isDay_X2_nextGap rfl rfl rfl ⟨rfl, by decide, by decide, by decide +kernel⟩ ⟨Nat.le_of_ble_eq_true rfl, Nat.le_of_ble_eq_true rfl⟩ rfl hl.1 rfl (Nat.le_of_ble_eq_true rfl) dL_isDay_174 ⟨Nat.le_of_ble_eq_true rfl, Nat.le_of_ble_eq_true rfl⟩ (fun r_7 u H locs e_8 hP hD hS => ?_)
          have hP : va_P D vwCl (wH cy h pn a0 a1 a2 a3 a4 a5 a6 a7 a8 b0 b1 b2 b3 b4 b5 b6 b7 fs ss fd ed lm dd ce cw n iss sb fst len off ren que kc pins sd dy) H := hP
          have hD : va_D A (wH cy h pn a0 a1 a2 a3 a4 a5 a6 a7 a8 b0 b1 b2 b3 b4 b5 b6 b7 fs ss fd ed lm dd ce cw n iss sb fst len off ren que kc pins sd dy) := hD
          replace e_8 := e_8.1
          have e_8 : r_7 = ngC fs ss fd ed dd n iss sb fst len kc (nI (y_ % 16)) (5001 - ix (nI y_)) (ix (nI y_)) := e_8
          subst e_8
          refine lv_iload_n hx hb dL_isDay_177 rfl (lv_at hl 8 rfl) ?_
          refine lv_icmp_ne (tgt := 185) hx hb dL_isDay_178 (by decide) (fun c_178 => False.elim (c_178 (ng_f hy (has_0 c_136)))) (fun c_178 => ?_)
          refine lv_iconst (v := 1) hx hb dL_isDay_181 (by decide) ?_
          refine lv_goto (tgt := 186) hx hb dL_isDay_182 (by decide) ?_
          refine lv_iload hx hb dL_isDay_186 (lv_at hl 0 rfl) ?_
          refine lv_if_ne (tgt := 195) hx hb dL_isDay_188 (by decide) (fun c_188 => absurd c_188 (by decide)) (fun _ => ?_)
          refine lv_iconst (v := 1) hx hb dL_isDay_191 (by decide) ?_
          refine lv_goto (tgt := 196) hx hb dL_isDay_192 (by decide) ?_
          refine lv_icmp_ne (tgt := 203) hx hb dL_isDay_196 (by decide) (fun c_196 => absurd c_196 (by decide)) (fun c_196 => ?_)
          refine lv_iconst (v := 1) hx hb dL_isDay_199 (by decide) ?_
          refine lv_goto (tgt := 204) hx hb dL_isDay_200 (by decide) ?_
          exact hret _ _ _ _ 1 () dL_isDay_204 (Or.inr (Or.inr rfl)) rfl hP hS
        · refine lv_iconst (v := 1) hx hb dL_isDay_139 (by decide) ?_
          refine lv_goto (tgt := 144) hx hb dL_isDay_140 (by decide) ?_
          refine lv_istore (lv' := [(9, .int 1), (8, .int (nI (y_ % 16))), (7, .int 1), (6, .int g1), (5, .int g2), (4, .int ((wkN bcN (fun k => lostC fs ss fd ed dd n iss sb fst len kc (nI y_) (nI k)) n).1)), (3, .int (nhN iss sb fst len (nI y_) (goodM fs ss fd ed dd (nI y_) (-1) n) kc)), (0, .ref h), (1, .int (nI y_)), (2, .int (nI n))]) hx hb dL_isDay_144 hl (by decide) rfl (fun ls hl => ?_)
          refine lv_iload hx hb dL_isDay_146 (lv_at hl 2 rfl) ?_
          refine lv_if_eq (tgt := 203) hx hb dL_isDay_148 (by decide) (fun c_148 => absurd c_148 (by decide)) (fun _ => ?_)
          refine lv_iload hx hb dL_isDay_151 (lv_at hl 5 rfl) ?_
          refine lv_iload hx hb dL_isDay_153 (lv_at hl 3 rfl) ?_
          refine lv_icmp_ne (tgt := 203) hx hb dL_isDay_155 (by decide) (fun c_155 => False.elim (c_155 hwk)) (fun c_155 => ?_)
          refine lv_aload_n hx hb dL_isDay_158 rfl (lv_at hl 7 rfl) ?_
          refine lv_iload hx hb dL_isDay_159 (lv_at hl 1 rfl) ?_
          refine lv_iload_n hx hb dL_isDay_161 rfl (lv_at hl 8 rfl) ?_
          have hcd_162 : cdND (nI (y_ % 16)) (nI y_) = 0 := (cdND_nI (by omega) hy)
          refine kxO_i (n := 2) (wc := wH cy h pn a0 a1 a2 a3 a4 a5 a6 a7 a8 b0 b1 b2 b3 b4 b5 b6 b7 fs ss fd ed lm dd ce cw n iss sb fst len off ren que kc pins sd dy) (As := [.int (nI (y_ % 16)), .int (nI y_)]) (rest := []) ⟨hx, hb, hml, hown, hts⟩ hE hA hZ hP hD hS (c_X2_isCovered l D cy hfl h pn a0 a1 a2 a3 a4 a5 a6 a7 a8 b0 b1 b2 b3 b4 b5 b6 b7 fs ss fd ed lm dd ce cw n iss sb fst len off ren que kc pins sd dy (nI (y_ % 16)) (nI y_) (by first | assumption | omega) (by first | assumption | omega)) (fun E h => absurd (show xkA E 0 from hcd_162 ▸ h) xkA_0) (fun _ => rfl) (q0 := 0) (ci := 2) rfl rfl gL_isDay_X2_isCovered rfl rfl rfl ⟨rfl, by decide, by decide, by decide +kernel⟩ ⟨Nat.le_of_ble_eq_true rfl, Nat.le_of_ble_eq_true rfl⟩ rfl hl.1 rfl (Nat.le_of_ble_eq_true rfl) dL_isDay_162 ⟨Nat.le_of_ble_eq_true rfl, Nat.le_of_ble_eq_true rfl⟩ (fun r_9 u H locs e_10 hP hD hS => ?_)
          have hP : va_P D vwCl (wH cy h pn a0 a1 a2 a3 a4 a5 a6 a7 a8 b0 b1 b2 b3 b4 b5 b6 b7 fs ss fd ed lm dd ce cw n iss sb fst len off ren que kc pins sd dy) H := hP
          have hD : va_D A (wH cy h pn a0 a1 a2 a3 a4 a5 a6 a7 a8 b0 b1 b2 b3 b4 b5 b6 b7 fs ss fd ed lm dd ce cw n iss sb fst len off ren que kc pins sd dy) := hD
          replace e_10 := e_10.1
          have e_10 : r_9 = bI (hasB (nhN iss sb fst len (nI y_) (goodM fs ss fd ed dd (nI y_) (-1) n) kc) (nI (y_ % 16))) := e_10
          subst e_10
          refine lv_iload hx hb dL_isDay_165 (lv_at hl 0 rfl) ?_
          refine lv_icmp_ne (tgt := 203) hx hb dL_isDay_167 (by decide) (fun c_167 => False.elim (c_167 (bI_t (has_1 c_136)))) (fun c_167 => ?_)
          refine lv_aload_n hx hb dL_isDay_170 rfl (lv_at hl 7 rfl) ?_
          refine lv_iload hx hb dL_isDay_171 (lv_at hl 1 rfl) ?_
          refine lv_iload_n hx hb dL_isDay_173 rfl (lv_at hl 8 rfl) ?_
          have hcd_174 : cdND (nI (y_ % 16)) (nI y_) = 0 := (cdND_nI (by omega) hy)
          refine kxO_i (n := 2) (wc := wH cy h pn a0 a1 a2 a3 a4 a5 a6 a7 a8 b0 b1 b2 b3 b4 b5 b6 b7 fs ss fd ed lm dd ce cw n iss sb fst len off ren que kc pins sd dy) (As := [.int (nI (y_ % 16)), .int (nI y_)]) (rest := []) ⟨hx, hb, hml, hown, hts⟩ hE hA hZ hP hD hS (c_X2_nextGap l D cy hfl h pn a0 a1 a2 a3 a4 a5 a6 a7 a8 b0 b1 b2 b3 b4 b5 b6 b7 fs ss fd ed lm dd ce cw n iss sb fst len off ren que kc pins sd dy (nI (y_ % 16)) (nI y_) (by first | assumption | omega) (by first | assumption | omega)) (fun E h => absurd (show xkA E 0 from hcd_174 ▸ h) xkA_0) (fun _ => rfl) (q0 := 0) (ci := 2) rfl rfl gL_isDay_X2_nextGap rfl rfl rfl ⟨rfl, by decide, by decide, by decide +kernel⟩ ⟨Nat.le_of_ble_eq_true rfl, Nat.le_of_ble_eq_true rfl⟩ rfl hl.1 rfl (Nat.le_of_ble_eq_true rfl) dL_isDay_174 ⟨Nat.le_of_ble_eq_true rfl, Nat.le_of_ble_eq_true rfl⟩ (fun r_11 u H locs e_12 hP hD hS => ?_)
          have hP : va_P D vwCl (wH cy h pn a0 a1 a2 a3 a4 a5 a6 a7 a8 b0 b1 b2 b3 b4 b5 b6 b7 fs ss fd ed lm dd ce cw n iss sb fst len off ren que kc pins sd dy) H := hP
          have hD : va_D A (wH cy h pn a0 a1 a2 a3 a4 a5 a6 a7 a8 b0 b1 b2 b3 b4 b5 b6 b7 fs ss fd ed lm dd ce cw n iss sb fst len off ren que kc pins sd dy) := hD
          replace e_12 := e_12.1
          have e_12 : r_11 = ngC fs ss fd ed dd n iss sb fst len kc (nI (y_ % 16)) (5001 - ix (nI y_)) (ix (nI y_)) := e_12
          subst e_12
          refine lv_iload_n hx hb dL_isDay_177 rfl (lv_at hl 8 rfl) ?_
          refine lv_icmp_ne (tgt := 185) hx hb dL_isDay_178 (by decide) (fun c_178 => ?_) (fun c_178 => absurd c_178 (ng_t hy (has_1 c_136)))
          refine lv_iconst (v := 0) hx hb dL_isDay_185 (by decide) ?_
          refine lv_iload hx hb dL_isDay_186 (lv_at hl 0 rfl) ?_
          refine lv_if_ne (tgt := 195) hx hb dL_isDay_188 (by decide) (fun _ => ?_) (fun c_188 => absurd c_188 (by decide))
          refine lv_iconst (v := 0) hx hb dL_isDay_195 (by decide) ?_
          refine lv_icmp_ne (tgt := 203) hx hb dL_isDay_196 (by decide) (fun c_196 => absurd c_196 (by decide)) (fun c_196 => ?_)
          refine lv_iconst (v := 1) hx hb dL_isDay_199 (by decide) ?_
          refine lv_goto (tgt := 204) hx hb dL_isDay_200 (by decide) ?_
          exact hret _ _ _ _ 1 () dL_isDay_204 (Or.inr (Or.inr rfl)) rfl hP hS
      · have c_28n : ¬ n ≤ k := k_nleN (a := n) (b := k) (by omega) (by omega) c_28
        refine lv_iload hx hb dL_isDay_31 (lv_at hl 1 rfl) ?_
        refine lv_if_eq (tgt := 123) hx hb dL_isDay_33 (by decide) (fun c_33 => absurd c_33 (by decide)) (fun _ => ?_)
        refine lv_aload_n hx hb dL_isDay_36 rfl (lv_at hl 6 rfl) ?_
        refine lv_iload hx hb dL_isDay_37 (lv_at hl 0 rfl) ?_
        refine lv_iload_n hx hb dL_isDay_39 rfl (lv_at hl 7 rfl) ?_
        have hcd_40 : cdID n (nI k) (nI y_) = 0 := (cdID_nI (by omega) (by omega) hy)
        refine kxO_i (n := 2) (wc := wH cy h pn a0 a1 a2 a3 a4 a5 a6 a7 a8 b0 b1 b2 b3 b4 b5 b6 b7 fs ss fd ed lm dd ce cw n iss sb fst len off ren que kc pins sd dy) (As := [.int (nI k), .int (nI y_)]) (rest := []) ⟨hx, hb, hml, hown, hts⟩ hE hA hZ hP hD hS (c_X2_breaks l D cy hfl h pn a0 a1 a2 a3 a4 a5 a6 a7 a8 b0 b1 b2 b3 b4 b5 b6 b7 fs ss fd ed lm dd ce cw n iss sb fst len off ren que kc pins sd dy (nI k) (nI y_) (by first | assumption | omega) (by first | assumption | omega)) (fun E h => absurd (show xkA E 0 from hcd_40 ▸ h) xkA_0) (fun _ => rfl) (q0 := 0) (ci := 2) rfl rfl gL_isDay_X2_breaks rfl rfl rfl ⟨rfl, by decide, by decide, by decide +kernel⟩ ⟨Nat.le_of_ble_eq_true rfl, Nat.le_of_ble_eq_true rfl⟩ rfl hl.1 rfl (Nat.le_of_ble_eq_true rfl) dL_isDay_40 ⟨Nat.le_of_ble_eq_true rfl, Nat.le_of_ble_eq_true rfl⟩ (fun r_13 u H locs e_14 hP hD hS => ?_)
        have hP : va_P D vwCl (wH cy h pn a0 a1 a2 a3 a4 a5 a6 a7 a8 b0 b1 b2 b3 b4 b5 b6 b7 fs ss fd ed lm dd ce cw n iss sb fst len off ren que kc pins sd dy) H := hP
        have hD : va_D A (wH cy h pn a0 a1 a2 a3 a4 a5 a6 a7 a8 b0 b1 b2 b3 b4 b5 b6 b7 fs ss fd ed lm dd ce cw n iss sb fst len off ren que kc pins sd dy) := hD
        replace e_14 := e_14.1
        have e_14 : r_13 = lostC fs ss fd ed dd n iss sb fst len kc (nI y_) (nI k) := e_14
        subst e_14
        refine lv_istore (lv' := [(9, .int (lostC fs ss fd ed dd n iss sb fst len kc (nI y_) (nI k))), (8, .int (nI k)), (7, .int 1), (6, .int g1), (5, .int g2), (4, .int ((wkN bcN (fun k => lostC fs ss fd ed dd n iss sb fst len kc (nI y_) (nI k)) n).1)), (3, .int (nhN iss sb fst len (nI y_) (goodM fs ss fd ed dd (nI y_) (-1) n) kc)), (0, .ref h), (1, .int (nI y_)), (2, .int (nI n))]) hx hb dL_isDay_43 hl (by decide) rfl (fun ls hl => ?_)
        refine lv_iload hx hb dL_isDay_45 (lv_at hl 0 rfl) ?_
        refine lv_iload_n hx hb dL_isDay_47 rfl (lv_at hl 6 rfl) ?_
        refine lv_iconst (v := (-1)) hx hb dL_isDay_48 (by decide) ?_
        refine lv_ixor hx hb dL_isDay_49 ?_
        refine lv_iand hx hb dL_isDay_50 ?_
        refine lv_if_ne (tgt := 73) hx hb dL_isDay_51 (by decide) (fun c_51 => False.elim (c_51 (brk_cov _ _))) (fun c_51 => ?_)
        refine lv_aload_n hx hb dL_isDay_54 rfl (lv_at hl 7 rfl) ?_
        refine lv_iload hx hb dL_isDay_55 (lv_at hl 1 rfl) ?_
        refine lv_iload_n hx hb dL_isDay_57 rfl (lv_at hl 8 rfl) ?_
        have hcd_58 : cdID n (nI k) (nI y_) = 0 := (cdID_nI (by omega) (by omega) hy)
        refine kxO_i (n := 2) (wc := wH cy h pn a0 a1 a2 a3 a4 a5 a6 a7 a8 b0 b1 b2 b3 b4 b5 b6 b7 fs ss fd ed lm dd ce cw n iss sb fst len off ren que kc pins sd dy) (As := [.int (nI k), .int (nI y_)]) (rest := []) ⟨hx, hb, hml, hown, hts⟩ hE hA hZ hP hD hS (c_X2_isGood l D cy hfl h pn a0 a1 a2 a3 a4 a5 a6 a7 a8 b0 b1 b2 b3 b4 b5 b6 b7 fs ss fd ed lm dd ce cw n iss sb fst len off ren que kc pins sd dy (nI k) (nI y_) (by first | assumption | omega)) (fun E h => absurd (show xkA E 0 from hcd_58 ▸ h) xkA_0) (fun _ => rfl) (q0 := 0) (ci := 2) rfl rfl gL_isDay_X2_isGood rfl rfl rfl ⟨rfl, by decide, by decide, by decide +kernel⟩ ⟨Nat.le_of_ble_eq_true rfl, Nat.le_of_ble_eq_true rfl⟩ rfl hl.1 rfl (Nat.le_of_ble_eq_true rfl) dL_isDay_58 ⟨Nat.le_of_ble_eq_true rfl, Nat.le_of_ble_eq_true rfl⟩ (fun r_15 u H locs e_16 hP hD hS => ?_)
        have hP : va_P D vwCl (wH cy h pn a0 a1 a2 a3 a4 a5 a6 a7 a8 b0 b1 b2 b3 b4 b5 b6 b7 fs ss fd ed lm dd ce cw n iss sb fst len off ren que kc pins sd dy) H := hP
        have hD : va_D A (wH cy h pn a0 a1 a2 a3 a4 a5 a6 a7 a8 b0 b1 b2 b3 b4 b5 b6 b7 fs ss fd ed lm dd ce cw n iss sb fst len off ren que kc pins sd dy) := hD
        replace e_16 := e_16.1
        have e_16 : r_15 = bI (hasB (goodM fs ss fd ed dd (nI y_) (-1) n) (nI k)) := e_16
        subst e_16
        refine k_ifne (tgt := 69) hx hb dL_isDay_61 (by decide) (fun c_61 => ?_) (fun c_61 => ?_)
        · refine lv_iconst (v := 1) hx hb dL_isDay_69 (by decide) ?_
          refine lv_goto (tgt := 74) hx hb dL_isDay_70 (by decide) ?_
          refine lv_istore (lv' := [(7, .int 1), (9, .int (lostC fs ss fd ed dd n iss sb fst len kc (nI y_) (nI k))), (8, .int (nI k)), (6, .int g1), (5, .int g2), (4, .int ((wkN bcN (fun k => lostC fs ss fd ed dd n iss sb fst len kc (nI y_) (nI k)) n).1)), (3, .int (nhN iss sb fst len (nI y_) (goodM fs ss fd ed dd (nI y_) (-1) n) kc)), (0, .ref h), (1, .int (nI y_)), (2, .int (nI n))]) hx hb dL_isDay_74 hl (by decide) rfl (fun ls hl => ?_)
          refine lv_iload hx hb dL_isDay_76 (lv_at hl 1 rfl) ?_
          refine kcS_i (n := 1) (X := []) (wc := []) (Y := wH cy h pn a0 a1 a2 a3 a4 a5 a6 a7 a8 b0 b1 b2 b3 b4 b5 b6 b7 fs ss fd ed lm dd ce cw n iss sb fst len off ren que kc pins sd dy) (As := [.int (lostC fs ss fd ed dd n iss sb fst len kc (nI y_) (nI k))]) (rest := []) ⟨hx, hb, hml, hown, hts⟩ hE hA hP hD hS (c_L_bits l D cy (lostC fs ss fd ed dd n iss sb fst len kc (nI y_) (nI k))) (fun _ => rfl) gL_isDay_L_bits rfl rfl rfl ⟨by decide, by decide, by decide +kernel⟩ ⟨Nat.le_of_ble_eq_true rfl, Nat.le_of_ble_eq_true rfl⟩ rfl hl.1 rfl (Nat.le_of_ble_eq_true rfl) dL_isDay_78 ⟨Nat.le_of_ble_eq_true rfl, Nat.le_of_ble_eq_true rfl⟩ (fun r_17 u H locs e_18 hP hD hS => ?_)
          have hP : va_P D vwCl (wH cy h pn a0 a1 a2 a3 a4 a5 a6 a7 a8 b0 b1 b2 b3 b4 b5 b6 b7 fs ss fd ed lm dd ce cw n iss sb fst len off ren que kc pins sd dy) H := hP
          have hD : va_D A (wH cy h pn a0 a1 a2 a3 a4 a5 a6 a7 a8 b0 b1 b2 b3 b4 b5 b6 b7 fs ss fd ed lm dd ce cw n iss sb fst len off ren que kc pins sd dy) := hD
          have e_18 : r_17 = bsN (lostC fs ss fd ed dd n iss sb fst len kc (nI y_) (nI k)) 16 := e_18
          subst e_18
          refine lv_iload hx hb dL_isDay_81 (lv_at hl 4 rfl) ?_
          refine lv_icmp_le (tgt := 91) hx hb dL_isDay_83 (by decide) (fun c_83 => ?_) (fun c_83 => ?_)
          · refine lv_iload hx hb dL_isDay_91 (lv_at hl 3 rfl) ?_
            refine lv_istore (lv' := [(6, .int g1), (7, .int 1), (9, .int (lostC fs ss fd ed dd n iss sb fst len kc (nI y_) (nI k))), (8, .int (nI k)), (5, .int g2), (4, .int ((wkN bcN (fun k => lostC fs ss fd ed dd n iss sb fst len kc (nI y_) (nI k)) n).1)), (3, .int (nhN iss sb fst len (nI y_) (goodM fs ss fd ed dd (nI y_) (-1) n) kc)), (0, .ref h), (1, .int (nI y_)), (2, .int (nI n))]) hx hb dL_isDay_93 hl (by decide) rfl (fun ls hl => ?_)
            refine lv_iload hx hb dL_isDay_95 (lv_at hl 2 rfl) ?_
            refine kcS_i (n := 1) (X := []) (wc := []) (Y := wH cy h pn a0 a1 a2 a3 a4 a5 a6 a7 a8 b0 b1 b2 b3 b4 b5 b6 b7 fs ss fd ed lm dd ce cw n iss sb fst len off ren que kc pins sd dy) (As := [.int (lostC fs ss fd ed dd n iss sb fst len kc (nI y_) (nI k))]) (rest := []) ⟨hx, hb, hml, hown, hts⟩ hE hA hP hD hS (c_L_bits l D cy (lostC fs ss fd ed dd n iss sb fst len kc (nI y_) (nI k))) (fun _ => rfl) gL_isDay_L_bits rfl rfl rfl ⟨by decide, by decide, by decide +kernel⟩ ⟨Nat.le_of_ble_eq_true rfl, Nat.le_of_ble_eq_true rfl⟩ rfl hl.1 rfl (Nat.le_of_ble_eq_true rfl) dL_isDay_97 ⟨Nat.le_of_ble_eq_true rfl, Nat.le_of_ble_eq_true rfl⟩ (fun r_19 u H locs e_20 hP hD hS => ?_)
            have hP : va_P D vwCl (wH cy h pn a0 a1 a2 a3 a4 a5 a6 a7 a8 b0 b1 b2 b3 b4 b5 b6 b7 fs ss fd ed lm dd ce cw n iss sb fst len off ren que kc pins sd dy) H := hP
            have hD : va_D A (wH cy h pn a0 a1 a2 a3 a4 a5 a6 a7 a8 b0 b1 b2 b3 b4 b5 b6 b7 fs ss fd ed lm dd ce cw n iss sb fst len off ren que kc pins sd dy) := hD
            have e_20 : r_19 = bsN (lostC fs ss fd ed dd n iss sb fst len kc (nI y_) (nI k)) 16 := e_20
            subst e_20
            refine lv_iload hx hb dL_isDay_100 (lv_at hl 4 rfl) ?_
            refine lv_icmp_le (tgt := 113) hx hb dL_isDay_102 (by decide) (fun c_102 => ?_) (fun c_102 => absurd c_83 c_102)
            refine lv_iload hx hb dL_isDay_113 (lv_at hl 4 rfl) ?_
            refine lv_istore (lv' := [(5, .int g2), (6, .int g1), (7, .int 1), (9, .int (lostC fs ss fd ed dd n iss sb fst len kc (nI y_) (nI k))), (8, .int (nI k)), (4, .int ((wkN bcN (fun k => lostC fs ss fd ed dd n iss sb fst len kc (nI y_) (nI k)) n).1)), (3, .int (nhN iss sb fst len (nI y_) (goodM fs ss fd ed dd (nI y_) (-1) n) kc)), (0, .ref h), (1, .int (nI y_)), (2, .int (nI n))]) hx hb dL_isDay_115 hl (by decide) rfl (fun ls hl => ?_)
            refine lv_iinc (v := (nI (k + 1))) (lv' := [(8, .int (nI (k + 1))), (5, .int g2), (6, .int g1), (7, .int 1), (9, .int (lostC fs ss fd ed dd n iss sb fst len kc (nI y_) (nI k))), (4, .int ((wkN bcN (fun k => lostC fs ss fd ed dd n iss sb fst len kc (nI y_) (nI k)) n).1)), (3, .int (nhN iss sb fst len (nI y_) (goodM fs ss fd ed dd (nI y_) (-1) n) kc)), (0, .ref h), (1, .int (nI y_)), (2, .int (nI n))]) hx hb dL_isDay_117 hl (k := 4) rfl (k_inc _) (by decide) rfl (fun ls hl => ?_)
            refine lv_goto (tgt := 25) hx hb dL_isDay_120 (by decide) ?_
            exact ih_25 (k + 1) g2 g1 _ _ ls (by omega) (by omega) (by rw [wkN, ← eg]; exact (if_pos c_83).symm) hP hD hS (lv_sub hl [0, 3, 2, 1, 5, 6, 7, 8, 9] rfl)
          · refine lv_iload hx hb dL_isDay_86 (lv_at hl 2 rfl) ?_
            refine lv_goto (tgt := 93) hx hb dL_isDay_88 (by decide) ?_
            refine lv_istore (lv' := [(6, .int (nI k)), (7, .int 1), (9, .int (lostC fs ss fd ed dd n iss sb fst len kc (nI y_) (nI k))), (8, .int (nI k)), (5, .int g2), (4, .int ((wkN bcN (fun k => lostC fs ss fd ed dd n iss sb fst len kc (nI y_) (nI k)) n).1)), (3, .int (nhN iss sb fst len (nI y_) (goodM fs ss fd ed dd (nI y_) (-1) n) kc)), (0, .ref h), (1, .int (nI y_)), (2, .int (nI n))]) hx hb dL_isDay_93 hl (by decide) rfl (fun ls hl => ?_)
            refine lv_iload hx hb dL_isDay_95 (lv_at hl 2 rfl) ?_
            refine kcS_i (n := 1) (X := []) (wc := []) (Y := wH cy h pn a0 a1 a2 a3 a4 a5 a6 a7 a8 b0 b1 b2 b3 b4 b5 b6 b7 fs ss fd ed lm dd ce cw n iss sb fst len off ren que kc pins sd dy) (As := [.int (lostC fs ss fd ed dd n iss sb fst len kc (nI y_) (nI k))]) (rest := []) ⟨hx, hb, hml, hown, hts⟩ hE hA hP hD hS (c_L_bits l D cy (lostC fs ss fd ed dd n iss sb fst len kc (nI y_) (nI k))) (fun _ => rfl) gL_isDay_L_bits rfl rfl rfl ⟨by decide, by decide, by decide +kernel⟩ ⟨Nat.le_of_ble_eq_true rfl, Nat.le_of_ble_eq_true rfl⟩ rfl hl.1 rfl (Nat.le_of_ble_eq_true rfl) dL_isDay_97 ⟨Nat.le_of_ble_eq_true rfl, Nat.le_of_ble_eq_true rfl⟩ (fun r_21 u H locs e_22 hP hD hS => ?_)
            have hP : va_P D vwCl (wH cy h pn a0 a1 a2 a3 a4 a5 a6 a7 a8 b0 b1 b2 b3 b4 b5 b6 b7 fs ss fd ed lm dd ce cw n iss sb fst len off ren que kc pins sd dy) H := hP
            have hD : va_D A (wH cy h pn a0 a1 a2 a3 a4 a5 a6 a7 a8 b0 b1 b2 b3 b4 b5 b6 b7 fs ss fd ed lm dd ce cw n iss sb fst len off ren que kc pins sd dy) := hD
            have e_22 : r_21 = bsN (lostC fs ss fd ed dd n iss sb fst len kc (nI y_) (nI k)) 16 := e_22
            subst e_22
            refine lv_iload hx hb dL_isDay_100 (lv_at hl 4 rfl) ?_
            refine lv_icmp_le (tgt := 113) hx hb dL_isDay_102 (by decide) (fun c_102 => absurd c_102 c_83) (fun c_102 => ?_)
            refine lv_iload hx hb dL_isDay_105 (lv_at hl 2 rfl) ?_
            refine kcS_i (n := 1) (X := []) (wc := []) (Y := wH cy h pn a0 a1 a2 a3 a4 a5 a6 a7 a8 b0 b1 b2 b3 b4 b5 b6 b7 fs ss fd ed lm dd ce cw n iss sb fst len off ren que kc pins sd dy) (As := [.int (lostC fs ss fd ed dd n iss sb fst len kc (nI y_) (nI k))]) (rest := []) ⟨hx, hb, hml, hown, hts⟩ hE hA hP hD hS (c_L_bits l D cy (lostC fs ss fd ed dd n iss sb fst len kc (nI y_) (nI k))) (fun _ => rfl) gL_isDay_L_bits rfl rfl rfl ⟨by decide, by decide, by decide +kernel⟩ ⟨Nat.le_of_ble_eq_true rfl, Nat.le_of_ble_eq_true rfl⟩ rfl hl.1 rfl (Nat.le_of_ble_eq_true rfl) dL_isDay_107 ⟨Nat.le_of_ble_eq_true rfl, Nat.le_of_ble_eq_true rfl⟩ (fun r_23 u H locs e_24 hP hD hS => ?_)
            have hP : va_P D vwCl (wH cy h pn a0 a1 a2 a3 a4 a5 a6 a7 a8 b0 b1 b2 b3 b4 b5 b6 b7 fs ss fd ed lm dd ce cw n iss sb fst len off ren que kc pins sd dy) H := hP
            have hD : va_D A (wH cy h pn a0 a1 a2 a3 a4 a5 a6 a7 a8 b0 b1 b2 b3 b4 b5 b6 b7 fs ss fd ed lm dd ce cw n iss sb fst len off ren que kc pins sd dy) := hD
            have e_24 : r_23 = bsN (lostC fs ss fd ed dd n iss sb fst len kc (nI y_) (nI k)) 16 := e_24
            subst e_24
            refine lv_goto (tgt := 115) hx hb dL_isDay_110 (by decide) ?_
            refine lv_istore (lv' := [(5, .int (bsN (lostC fs ss fd ed dd n iss sb fst len kc (nI y_) (nI k)) 16)), (6, .int (nI k)), (7, .int 1), (9, .int (lostC fs ss fd ed dd n iss sb fst len kc (nI y_) (nI k))), (8, .int (nI k)), (4, .int ((wkN bcN (fun k => lostC fs ss fd ed dd n iss sb fst len kc (nI y_) (nI k)) n).1)), (3, .int (nhN iss sb fst len (nI y_) (goodM fs ss fd ed dd (nI y_) (-1) n) kc)), (0, .ref h), (1, .int (nI y_)), (2, .int (nI n))]) hx hb dL_isDay_115 hl (by decide) rfl (fun ls hl => ?_)
            refine lv_iinc (v := (nI (k + 1))) (lv' := [(8, .int (nI (k + 1))), (5, .int (bsN (lostC fs ss fd ed dd n iss sb fst len kc (nI y_) (nI k)) 16)), (6, .int (nI k)), (7, .int 1), (9, .int (lostC fs ss fd ed dd n iss sb fst len kc (nI y_) (nI k))), (4, .int ((wkN bcN (fun k => lostC fs ss fd ed dd n iss sb fst len kc (nI y_) (nI k)) n).1)), (3, .int (nhN iss sb fst len (nI y_) (goodM fs ss fd ed dd (nI y_) (-1) n) kc)), (0, .ref h), (1, .int (nI y_)), (2, .int (nI n))]) hx hb dL_isDay_117 hl (k := 4) rfl (k_inc _) (by decide) rfl (fun ls hl => ?_)
            refine lv_goto (tgt := 25) hx hb dL_isDay_120 (by decide) ?_
            exact ih_25 (k + 1) (bsN (lostC fs ss fd ed dd n iss sb fst len kc (nI y_) (nI k)) 16) (nI k) _ _ ls (by omega) (by omega) (by rw [wkN, ← eg]; exact (if_neg c_83).symm) hP hD hS (lv_sub hl [0, 3, 2, 1, 5, 6, 7, 8, 9] rfl)
        · refine lv_iload hx hb dL_isDay_64 (lv_at hl 0 rfl) ?_
          refine lv_if_ne (tgt := 73) hx hb dL_isDay_66 (by decide) (fun c_66 => False.elim (c_66 (brk_0 hn (by omega) c_61))) (fun c_66 => ?_)
          refine lv_iconst (v := 1) hx hb dL_isDay_69 (by decide) ?_
          refine lv_goto (tgt := 74) hx hb dL_isDay_70 (by decide) ?_
          refine lv_istore (lv' := [(7, .int 1), (9, .int (lostC fs ss fd ed dd n iss sb fst len kc (nI y_) (nI k))), (8, .int (nI k)), (6, .int g1), (5, .int g2), (4, .int ((wkN bcN (fun k => lostC fs ss fd ed dd n iss sb fst len kc (nI y_) (nI k)) n).1)), (3, .int (nhN iss sb fst len (nI y_) (goodM fs ss fd ed dd (nI y_) (-1) n) kc)), (0, .ref h), (1, .int (nI y_)), (2, .int (nI n))]) hx hb dL_isDay_74 hl (by decide) rfl (fun ls hl => ?_)
          refine lv_iload hx hb dL_isDay_76 (lv_at hl 1 rfl) ?_
          refine kcS_i (n := 1) (X := []) (wc := []) (Y := wH cy h pn a0 a1 a2 a3 a4 a5 a6 a7 a8 b0 b1 b2 b3 b4 b5 b6 b7 fs ss fd ed lm dd ce cw n iss sb fst len off ren que kc pins sd dy) (As := [.int (lostC fs ss fd ed dd n iss sb fst len kc (nI y_) (nI k))]) (rest := []) ⟨hx, hb, hml, hown, hts⟩ hE hA hP hD hS (c_L_bits l D cy (lostC fs ss fd ed dd n iss sb fst len kc (nI y_) (nI k))) (fun _ => rfl) gL_isDay_L_bits rfl rfl rfl ⟨by decide, by decide, by decide +kernel⟩ ⟨Nat.le_of_ble_eq_true rfl, Nat.le_of_ble_eq_true rfl⟩ rfl hl.1 rfl (Nat.le_of_ble_eq_true rfl) dL_isDay_78 ⟨Nat.le_of_ble_eq_true rfl, Nat.le_of_ble_eq_true rfl⟩ (fun r_25 u H locs e_26 hP hD hS => ?_)
          have hP : va_P D vwCl (wH cy h pn a0 a1 a2 a3 a4 a5 a6 a7 a8 b0 b1 b2 b3 b4 b5 b6 b7 fs ss fd ed lm dd ce cw n iss sb fst len off ren que kc pins sd dy) H := hP
          have hD : va_D A (wH cy h pn a0 a1 a2 a3 a4 a5 a6 a7 a8 b0 b1 b2 b3 b4 b5 b6 b7 fs ss fd ed lm dd ce cw n iss sb fst len off ren que kc pins sd dy) := hD
          have e_26 : r_25 = bsN (lostC fs ss fd ed dd n iss sb fst len kc (nI y_) (nI k)) 16 := e_26
          subst e_26
          refine lv_iload hx hb dL_isDay_81 (lv_at hl 4 rfl) ?_
          refine lv_icmp_le (tgt := 91) hx hb dL_isDay_83 (by decide) (fun c_83 => ?_) (fun c_83 => ?_)
          · refine lv_iload hx hb dL_isDay_91 (lv_at hl 3 rfl) ?_
            refine lv_istore (lv' := [(6, .int g1), (7, .int 1), (9, .int (lostC fs ss fd ed dd n iss sb fst len kc (nI y_) (nI k))), (8, .int (nI k)), (5, .int g2), (4, .int ((wkN bcN (fun k => lostC fs ss fd ed dd n iss sb fst len kc (nI y_) (nI k)) n).1)), (3, .int (nhN iss sb fst len (nI y_) (goodM fs ss fd ed dd (nI y_) (-1) n) kc)), (0, .ref h), (1, .int (nI y_)), (2, .int (nI n))]) hx hb dL_isDay_93 hl (by decide) rfl (fun ls hl => ?_)
            refine lv_iload hx hb dL_isDay_95 (lv_at hl 2 rfl) ?_
            refine kcS_i (n := 1) (X := []) (wc := []) (Y := wH cy h pn a0 a1 a2 a3 a4 a5 a6 a7 a8 b0 b1 b2 b3 b4 b5 b6 b7 fs ss fd ed lm dd ce cw n iss sb fst len off ren que kc pins sd dy) (As := [.int (lostC fs ss fd ed dd n iss sb fst len kc (nI y_) (nI k))]) (rest := []) ⟨hx, hb, hml, hown, hts⟩ hE hA hP hD hS (c_L_bits l D cy (lostC fs ss fd ed dd n iss sb fst len kc (nI y_) (nI k))) (fun _ => rfl) gL_isDay_L_bits rfl rfl rfl ⟨by decide, by decide, by decide +kernel⟩ ⟨Nat.le_of_ble_eq_true rfl, Nat.le_of_ble_eq_true rfl⟩ rfl hl.1 rfl (Nat.le_of_ble_eq_true rfl) dL_isDay_97 ⟨Nat.le_of_ble_eq_true rfl, Nat.le_of_ble_eq_true rfl⟩ (fun r_27 u H locs e_28 hP hD hS => ?_)
            have hP : va_P D vwCl (wH cy h pn a0 a1 a2 a3 a4 a5 a6 a7 a8 b0 b1 b2 b3 b4 b5 b6 b7 fs ss fd ed lm dd ce cw n iss sb fst len off ren que kc pins sd dy) H := hP
            have hD : va_D A (wH cy h pn a0 a1 a2 a3 a4 a5 a6 a7 a8 b0 b1 b2 b3 b4 b5 b6 b7 fs ss fd ed lm dd ce cw n iss sb fst len off ren que kc pins sd dy) := hD
            have e_28 : r_27 = bsN (lostC fs ss fd ed dd n iss sb fst len kc (nI y_) (nI k)) 16 := e_28
            subst e_28
            refine lv_iload hx hb dL_isDay_100 (lv_at hl 4 rfl) ?_
            refine lv_icmp_le (tgt := 113) hx hb dL_isDay_102 (by decide) (fun c_102 => ?_) (fun c_102 => absurd c_83 c_102)
            refine lv_iload hx hb dL_isDay_113 (lv_at hl 4 rfl) ?_
            refine lv_istore (lv' := [(5, .int g2), (6, .int g1), (7, .int 1), (9, .int (lostC fs ss fd ed dd n iss sb fst len kc (nI y_) (nI k))), (8, .int (nI k)), (4, .int ((wkN bcN (fun k => lostC fs ss fd ed dd n iss sb fst len kc (nI y_) (nI k)) n).1)), (3, .int (nhN iss sb fst len (nI y_) (goodM fs ss fd ed dd (nI y_) (-1) n) kc)), (0, .ref h), (1, .int (nI y_)), (2, .int (nI n))]) hx hb dL_isDay_115 hl (by decide) rfl (fun ls hl => ?_)
            refine lv_iinc (v := (nI (k + 1))) (lv' := [(8, .int (nI (k + 1))), (5, .int g2), (6, .int g1), (7, .int 1), (9, .int (lostC fs ss fd ed dd n iss sb fst len kc (nI y_) (nI k))), (4, .int ((wkN bcN (fun k => lostC fs ss fd ed dd n iss sb fst len kc (nI y_) (nI k)) n).1)), (3, .int (nhN iss sb fst len (nI y_) (goodM fs ss fd ed dd (nI y_) (-1) n) kc)), (0, .ref h), (1, .int (nI y_)), (2, .int (nI n))]) hx hb dL_isDay_117 hl (k := 4) rfl (k_inc _) (by decide) rfl (fun ls hl => ?_)
            refine lv_goto (tgt := 25) hx hb dL_isDay_120 (by decide) ?_
            exact ih_25 (k + 1) g2 g1 _ _ ls (by omega) (by omega) (by rw [wkN, ← eg]; exact (if_pos c_83).symm) hP hD hS (lv_sub hl [0, 3, 2, 1, 5, 6, 7, 8, 9] rfl)
          · refine lv_iload hx hb dL_isDay_86 (lv_at hl 2 rfl) ?_
            refine lv_goto (tgt := 93) hx hb dL_isDay_88 (by decide) ?_
            refine lv_istore (lv' := [(6, .int (nI k)), (7, .int 1), (9, .int (lostC fs ss fd ed dd n iss sb fst len kc (nI y_) (nI k))), (8, .int (nI k)), (5, .int g2), (4, .int ((wkN bcN (fun k => lostC fs ss fd ed dd n iss sb fst len kc (nI y_) (nI k)) n).1)), (3, .int (nhN iss sb fst len (nI y_) (goodM fs ss fd ed dd (nI y_) (-1) n) kc)), (0, .ref h), (1, .int (nI y_)), (2, .int (nI n))]) hx hb dL_isDay_93 hl (by decide) rfl (fun ls hl => ?_)
            refine lv_iload hx hb dL_isDay_95 (lv_at hl 2 rfl) ?_
            refine kcS_i (n := 1) (X := []) (wc := []) (Y := wH cy h pn a0 a1 a2 a3 a4 a5 a6 a7 a8 b0 b1 b2 b3 b4 b5 b6 b7 fs ss fd ed lm dd ce cw n iss sb fst len off ren que kc pins sd dy) (As := [.int (lostC fs ss fd ed dd n iss sb fst len kc (nI y_) (nI k))]) (rest := []) ⟨hx, hb, hml, hown, hts⟩ hE hA hP hD hS (c_L_bits l D cy (lostC fs ss fd ed dd n iss sb fst len kc (nI y_) (nI k))) (fun _ => rfl) gL_isDay_L_bits rfl rfl rfl ⟨by decide, by decide, by decide +kernel⟩ ⟨Nat.le_of_ble_eq_true rfl, Nat.le_of_ble_eq_true rfl⟩ rfl hl.1 rfl (Nat.le_of_ble_eq_true rfl) dL_isDay_97 ⟨Nat.le_of_ble_eq_true rfl, Nat.le_of_ble_eq_true rfl⟩ (fun r_29 u H locs e_30 hP hD hS => ?_)
            have hP : va_P D vwCl (wH cy h pn a0 a1 a2 a3 a4 a5 a6 a7 a8 b0 b1 b2 b3 b4 b5 b6 b7 fs ss fd ed lm dd ce cw n iss sb fst len off ren que kc pins sd dy) H := hP
            have hD : va_D A (wH cy h pn a0 a1 a2 a3 a4 a5 a6 a7 a8 b0 b1 b2 b3 b4 b5 b6 b7 fs ss fd ed lm dd ce cw n iss sb fst len off ren que kc pins sd dy) := hD
            have e_30 : r_29 = bsN (lostC fs ss fd ed dd n iss sb fst len kc (nI y_) (nI k)) 16 := e_30
            subst e_30
            refine lv_iload hx hb dL_isDay_100 (lv_at hl 4 rfl) ?_
            refine lv_icmp_le (tgt := 113) hx hb dL_isDay_102 (by decide) (fun c_102 => absurd c_102 c_83) (fun c_102 => ?_)
            refine lv_iload hx hb dL_isDay_105 (lv_at hl 2 rfl) ?_
            refine kcS_i (n := 1) (X := []) (wc := []) (Y := wH cy h pn a0 a1 a2 a3 a4 a5 a6 a7 a8 b0 b1 b2 b3 b4 b5 b6 b7 fs ss fd ed lm dd ce cw n iss sb fst len off ren que kc pins sd dy) (As := [.int (lostC fs ss fd ed dd n iss sb fst len kc (nI y_) (nI k))]) (rest := []) ⟨hx, hb, hml, hown, hts⟩ hE hA hP hD hS (c_L_bits l D cy (lostC fs ss fd ed dd n iss sb fst len kc (nI y_) (nI k))) (fun _ => rfl) gL_isDay_L_bits rfl rfl rfl ⟨by decide, by decide, by decide +kernel⟩ ⟨Nat.le_of_ble_eq_true rfl, Nat.le_of_ble_eq_true rfl⟩ rfl hl.1 rfl (Nat.le_of_ble_eq_true rfl) dL_isDay_107 ⟨Nat.le_of_ble_eq_true rfl, Nat.le_of_ble_eq_true rfl⟩ (fun r_31 u H locs e_32 hP hD hS => ?_)
            have hP : va_P D vwCl (wH cy h pn a0 a1 a2 a3 a4 a5 a6 a7 a8 b0 b1 b2 b3 b4 b5 b6 b7 fs ss fd ed lm dd ce cw n iss sb fst len off ren que kc pins sd dy) H := hP
            have hD : va_D A (wH cy h pn a0 a1 a2 a3 a4 a5 a6 a7 a8 b0 b1 b2 b3 b4 b5 b6 b7 fs ss fd ed lm dd ce cw n iss sb fst len off ren que kc pins sd dy) := hD
            have e_32 : r_31 = bsN (lostC fs ss fd ed dd n iss sb fst len kc (nI y_) (nI k)) 16 := e_32
            subst e_32
            refine lv_goto (tgt := 115) hx hb dL_isDay_110 (by decide) ?_
            refine lv_istore (lv' := [(5, .int (bsN (lostC fs ss fd ed dd n iss sb fst len kc (nI y_) (nI k)) 16)), (6, .int (nI k)), (7, .int 1), (9, .int (lostC fs ss fd ed dd n iss sb fst len kc (nI y_) (nI k))), (8, .int (nI k)), (4, .int ((wkN bcN (fun k => lostC fs ss fd ed dd n iss sb fst len kc (nI y_) (nI k)) n).1)), (3, .int (nhN iss sb fst len (nI y_) (goodM fs ss fd ed dd (nI y_) (-1) n) kc)), (0, .ref h), (1, .int (nI y_)), (2, .int (nI n))]) hx hb dL_isDay_115 hl (by decide) rfl (fun ls hl => ?_)
            refine lv_iinc (v := (nI (k + 1))) (lv' := [(8, .int (nI (k + 1))), (5, .int (bsN (lostC fs ss fd ed dd n iss sb fst len kc (nI y_) (nI k)) 16)), (6, .int (nI k)), (7, .int 1), (9, .int (lostC fs ss fd ed dd n iss sb fst len kc (nI y_) (nI k))), (4, .int ((wkN bcN (fun k => lostC fs ss fd ed dd n iss sb fst len kc (nI y_) (nI k)) n).1)), (3, .int (nhN iss sb fst len (nI y_) (goodM fs ss fd ed dd (nI y_) (-1) n) kc)), (0, .ref h), (1, .int (nI y_)), (2, .int (nI n))]) hx hb dL_isDay_117 hl (k := 4) rfl (k_inc _) (by decide) rfl (fun ls hl => ?_)
            refine lv_goto (tgt := 25) hx hb dL_isDay_120 (by decide) ?_
            exact ih_25 (k + 1) (bsN (lostC fs ss fd ed dd n iss sb fst len kc (nI y_) (nI k)) 16) (nI k) _ _ ls (by omega) (by omega) (by rw [wkN, ← eg]; exact (if_neg c_83).symm) hP hD hS (lv_sub hl [0, 3, 2, 1, 5, 6, 7, 8, 9] rfl)
  exact L_25 ((n - 0) + 1) 0 0 (-1) _ _ ls (Nat.lt_succ_self _) (by omega) rfl hP hD hS (lv_sub hl [0, 1, 2, 3, 4, 5, 6, 7, 8] rfl)

set_option maxHeartbeats 4000000 in
set_option maxRecDepth 100000 in
theorem c_L_areCertificates (l : Launch) (D : va_G) (cy : ClassId × ClassId × ClassId) (hfl : l.stackTraces = false) (h pn a0 a1 a2 a3 a4 a5 a6 a7 a8 b0 b1 b2 b3 b4 b5 b6 b7 : Nat) (fs ss fd ed lm dd ce cw : Nat → Int32) (n : Nat) (iss sb fst len off ren que : Nat → Int32) (kc : Nat) (pins : Nat → Int32) (sd dy : Int32) (td : Nat) (hI : PInv n kc td fs ss lm ce cw iss sb fst len ren) (hdy : dy = nI td) (htd : td ≤ 3000) : kXI l D cy yL_areCertificates wsL_areCertificates (krx 8 124) [.ref h, .int (nI n)] (wH cy h pn a0 a1 a2 a3 a4 a5 a6 a7 a8 b0 b1 b2 b3 b4 b5 b6 b7 fs ss fd ed lm dd ce cw n iss sb fst len off ren que kc pins sd dy) (fun (r : Int32) (u : (Nat → Int32)) => r = 1) (fun u : (Nat → Int32) => wH cy h pn a0 a1 a2 a3 a4 a5 a6 a7 a8 b0 b1 b2 b3 b4 b5 b6 b7 fs ss fd ed lm dd ce cw n iss sb fst len off ren u kc pins sd dy) (fun _ => False) (wH cy h pn a0 a1 a2 a3 a4 a5 a6 a7 a8 b0 b1 b2 b3 b4 b5 b6 b7 fs ss fd ed lm dd ce cw n iss sb fst len off ren que kc pins sd dy) := by
  refine kXL.of (cc := cL_areCertificates) (maxL := 8) (rt := .boolean) (Or.inr rfl) (by decide) rfl (Nat.le_of_ble_eq_true rfl) ?_
  intro p e s m args below meth c Q A ls hx hb hml hown hts hE hA hP hD hl hZ hret
  have hS : va_S A s.heap s.heap [] := va_S.rf
  have hl : lv_has ls 8 [(0, .ref h), (1, .int (nI n))] := hl
  have hC := hI.2.2.2.2.2
  have hn := hI.1
  have hc := hC.1
  refine lv_aload_n hx hb dL_areCertificates_0 rfl (lv_at hl 0 rfl) ?_
  refine kcW_i (n := 0) (wc := wH cy h pn a0 a1 a2 a3 a4 a5 a6 a7 a8 b0 b1 b2 b3 b4 b5 b6 b7 fs ss fd ed lm dd ce cw n iss sb fst len off ren que kc pins sd dy) (As := []) (rest := []) ⟨hx, hb, hml, hown, hts⟩ hE hA hP hD hS (c_X2_waiting l D cy h pn a0 a1 a2 a3 a4 a5 a6 a7 a8 b0 b1 b2 b3 b4 b5 b6 b7 fs ss fd ed lm dd ce cw n iss sb fst len off ren que kc pins sd dy (by first | assumption | omega)) (fun _ => Eq.trans (b := [h, a0, a1, a2, a3, a4, a5, a6, a7, a8, b0, b1, b2, b3, b4, b5, b6, b7, pn]) rfl rfl) (q0 := 0) (ci := 2) rfl rfl gL_areCertificates_X2_waiting rfl rfl rfl ⟨rfl, by decide, by decide, by decide +kernel⟩ ⟨Nat.le_of_ble_eq_true rfl, Nat.le_of_ble_eq_true rfl⟩ rfl hl.1 rfl (Nat.le_of_ble_eq_true rfl) dL_areCertificates_1 ⟨Nat.le_of_ble_eq_true rfl, Nat.le_of_ble_eq_true rfl⟩ (fun r_1 u H locs e_2 hP hD hS => ?_)
  have hP : va_P D vwCl (wH cy h pn a0 a1 a2 a3 a4 a5 a6 a7 a8 b0 b1 b2 b3 b4 b5 b6 b7 fs ss fd ed lm dd ce cw n iss sb fst len off ren (fqQ fst len off ren dy que kc) kc pins sd dy) H := hP
  have hD : va_D A (wH cy h pn a0 a1 a2 a3 a4 a5 a6 a7 a8 b0 b1 b2 b3 b4 b5 b6 b7 fs ss fd ed lm dd ce cw n iss sb fst len off ren (fqQ fst len off ren dy que kc) kc pins sd dy) := hD
  have e_2 : r_1 = nI (fqS fst len off ren dy que kc) := e_2
  subst e_2
  obtain ⟨q0_, eq_q0_⟩ : ∃ q_, q_ = fqQ fst len off ren dy que kc := ⟨_, rfl⟩
  rw [← eq_q0_] at hP hD
  have hP : va_P D vwCl (wH cy h pn a0 a1 a2 a3 a4 a5 a6 a7 a8 b0 b1 b2 b3 b4 b5 b6 b7 fs ss fd ed lm dd ce cw n iss sb fst len off ren q0_ kc pins sd dy) H := hP
  have hD : va_D A (wH cy h pn a0 a1 a2 a3 a4 a5 a6 a7 a8 b0 b1 b2 b3 b4 b5 b6 b7 fs ss fd ed lm dd ce cw n iss sb fst len off ren q0_ kc pins sd dy) := hD
  obtain ⟨z, ez⟩ : ∃ z, z = fqZ fst len off ren dy kc := ⟨_, rfl⟩
  have hzk : z ≤ kc := by rw [ez]; exact fq_Zle hc
  refine k_top (z := nI z) (by rw [ez, ← fq_Z fst len off ren dy que kc]) ?_
  refine lv_istore_n (lv' := [(2, .int (nI z)), (0, .ref h), (1, .int (nI n))]) hx hb dL_areCertificates_4 rfl hl (by decide) rfl (fun ls hl => ?_)
  refine lv_iconst (v := 1) hx hb dL_areCertificates_5 (by decide) ?_
  refine lv_istore_n (lv' := [(3, .int 1), (2, .int (nI z)), (0, .ref h), (1, .int (nI n))]) hx hb dL_areCertificates_6 rfl hl (by decide) rfl (fun ls hl => ?_)
  refine lv_iconst (v := (-1)) hx hb dL_areCertificates_7 (by decide) ?_
  refine lv_istore (lv' := [(4, .int (-1)), (3, .int 1), (2, .int (nI z)), (0, .ref h), (1, .int (nI n))]) hx hb dL_areCertificates_8 hl (by decide) rfl (fun ls hl => ?_)
  refine lv_iconst (v := (-1)) hx hb dL_areCertificates_10 (by decide) ?_
  refine lv_istore (lv' := [(5, .int (-1)), (4, .int (-1)), (3, .int 1), (2, .int (nI z)), (0, .ref h), (1, .int (nI n))]) hx hb dL_areCertificates_11 hl (by decide) rfl (fun ls hl => ?_)
  refine lv_iconst (v := 0) hx hb dL_areCertificates_13 (by decide) ?_
  refine lv_istore (lv' := [(6, .int 0), (5, .int (-1)), (4, .int (-1)), (3, .int 1), (2, .int (nI z)), (0, .ref h), (1, .int (nI n))]) hx hb dL_areCertificates_14 hl (by decide) rfl (fun ls hl => ?_)
  have L_16 : ∀ (f : Nat) (k : Nat) (g4 g5 : Int32) (r_ : Nat → Int32) (H : Heap) (locs : List Loc) (ls : Array Slot), ((z - k) < f) → (k ≤ z) → (lastP fst len off ren dy kc k g4 g5) → va_P D vwCl (wH cy h pn a0 a1 a2 a3 a4 a5 a6 a7 a8 b0 b1 b2 b3 b4 b5 b6 b7 fs ss fd ed lm dd ce cw n iss sb fst len off ren r_ kc pins sd dy) H → va_D A (wH cy h pn a0 a1 a2 a3 a4 a5 a6 a7 a8 b0 b1 b2 b3 b4 b5 b6 b7 fs ss fd ed lm dd ce cw n iss sb fst len off ren r_ kc pins sd dy) → va_S A s.heap H locs → lv_has ls 8 [(6, .int (nI k)), (5, .int g5), (4, .int g4), (3, .int 1), (2, .int (nI z)), (0, .ref h), (1, .int (nI n))] → W p l e (krx 8 124) s m args below meth c H locs 0 0 Q (F0 m 16 ls []) := by
    intro f
    induction f with
    | zero => intro k g4 g5 r_ H locs ls hf; exact absurd hf (Nat.not_lt_zero _)
    | succ f ih_16 =>
      intro k g4 g5 r_ H locs ls hf hk hg hP hD hS hl
      refine lv_iload hx hb dL_areCertificates_16 (lv_at hl 0 rfl) ?_
      refine lv_iload_n hx hb dL_areCertificates_18 rfl (lv_at hl 4 rfl) ?_
      refine lv_icmp_ge (tgt := 123) hx hb dL_areCertificates_19 (by decide) (fun c_19 => ?_) (fun c_19 => ?_)
      · have c_19n : z ≤ k := k_leN (a := z) (b := k) (by omega) (by omega) c_19
        refine lv_iconst (v := 0) hx hb dL_areCertificates_123 (by decide) ?_
        refine lv_istore (lv' := [(6, .int 0), (5, .int g5), (4, .int g4), (3, .int 1), (2, .int (nI z)), (0, .ref h), (1, .int (nI n))]) hx hb dL_areCertificates_124 hl (by decide) rfl (fun ls hl => ?_)
        have L_126 : ∀ (f : Nat) (k2 : Nat) (H : Heap) (locs : List Loc) (ls : Array Slot), ((kc - k2) < f) → (k2 ≤ kc) → va_P D vwCl (wH cy h pn a0 a1 a2 a3 a4 a5 a6 a7 a8 b0 b1 b2 b3 b4 b5 b6 b7 fs ss fd ed lm dd ce cw n iss sb fst len off ren r_ kc pins sd dy) H → va_D A (wH cy h pn a0 a1 a2 a3 a4 a5 a6 a7 a8 b0 b1 b2 b3 b4 b5 b6 b7 fs ss fd ed lm dd ce cw n iss sb fst len off ren r_ kc pins sd dy) → va_S A s.heap H locs → lv_has ls 8 [(6, .int (nI k2)), (5, .int g5), (4, .int g4), (3, .int 1), (2, .int (nI z)), (0, .ref h), (1, .int (nI n))] → W p l e (krx 8 124) s m args below meth c H locs 0 0 Q (F0 m 126 ls []) := by
          intro f
          induction f with
          | zero => intro k2 H locs ls hf; exact absurd hf (Nat.not_lt_zero _)
          | succ f ih_126 =>
            intro k2 H locs ls hf hk2 hP hD hS hl
            refine lv_iload hx hb dL_areCertificates_126 (lv_at hl 0 rfl) ?_
            refine lv_aload_n hx hb dL_areCertificates_128 rfl (lv_at hl 5 rfl) ?_
            refine kcW_i (n := 0) (wc := wH cy h pn a0 a1 a2 a3 a4 a5 a6 a7 a8 b0 b1 b2 b3 b4 b5 b6 b7 fs ss fd ed lm dd ce cw n iss sb fst len off ren r_ kc pins sd dy) (As := []) (rest := [.int (nI k2)]) ⟨hx, hb, hml, hown, hts⟩ hE hA hP hD hS (c_X2_certificates l D cy h pn a0 a1 a2 a3 a4 a5 a6 a7 a8 b0 b1 b2 b3 b4 b5 b6 b7 fs ss fd ed lm dd ce cw n iss sb fst len off ren r_ kc pins sd dy) (fun _ => rfl) (q0 := 0) (ci := 2) rfl rfl gL_areCertificates_X2_certificates rfl rfl rfl ⟨rfl, by decide, by decide, by decide +kernel⟩ ⟨Nat.le_of_ble_eq_true rfl, Nat.le_of_ble_eq_true rfl⟩ rfl hl.1 rfl (Nat.le_of_ble_eq_true rfl) dL_areCertificates_129 ⟨Nat.le_of_ble_eq_true rfl, Nat.le_of_ble_eq_true rfl⟩ (fun r_3 u H locs e_4 hP hD hS => ?_)
            have hP : va_P D vwCl (wH cy h pn a0 a1 a2 a3 a4 a5 a6 a7 a8 b0 b1 b2 b3 b4 b5 b6 b7 fs ss fd ed lm dd ce cw n iss sb fst len off ren r_ kc pins sd dy) H := hP
            have hD : va_D A (wH cy h pn a0 a1 a2 a3 a4 a5 a6 a7 a8 b0 b1 b2 b3 b4 b5 b6 b7 fs ss fd ed lm dd ce cw n iss sb fst len off ren r_ kc pins sd dy) := hD
            have e_4 : r_3 = nI kc := e_4
            subst e_4
            refine lv_icmp_ge (tgt := 216) hx hb dL_areCertificates_132 (by decide) (fun c_132 => ?_) (fun c_132 => ?_)
            · have c_132n : kc ≤ k2 := k_leN (a := kc) (b := k2) (by omega) (by omega) c_132
              refine lv_iconst (v := 0) hx hb dL_areCertificates_216 (by decide) ?_
              refine lv_istore (lv' := [(6, .int 0), (5, .int g5), (4, .int g4), (3, .int 1), (2, .int (nI z)), (0, .ref h), (1, .int (nI n))]) hx hb dL_areCertificates_217 hl (by decide) rfl (fun ls hl => ?_)
              have L_219 : ∀ (f : Nat) (k3 : Nat) (H : Heap) (locs : List Loc) (ls : Array Slot), ((n - k3) < f) → (k3 ≤ n) → va_P D vwCl (wH cy h pn a0 a1 a2 a3 a4 a5 a6 a7 a8 b0 b1 b2 b3 b4 b5 b6 b7 fs ss fd ed lm dd ce cw n iss sb fst len off ren r_ kc pins sd dy) H → va_D A (wH cy h pn a0 a1 a2 a3 a4 a5 a6 a7 a8 b0 b1 b2 b3 b4 b5 b6 b7 fs ss fd ed lm dd ce cw n iss sb fst len off ren r_ kc pins sd dy) → va_S A s.heap H locs → lv_has ls 8 [(6, .int (nI k3)), (5, .int g5), (4, .int g4), (3, .int 1), (2, .int (nI z)), (0, .ref h), (1, .int (nI n))] → W p l e (krx 8 124) s m args below meth c H locs 0 0 Q (F0 m 219 ls []) := by
                intro f
                induction f with
                | zero => intro k3 H locs ls hf; exact absurd hf (Nat.not_lt_zero _)
                | succ f ih_219 =>
                  intro k3 H locs ls hf hk3 hP hD hS hl
                  refine lv_iload hx hb dL_areCertificates_219 (lv_at hl 0 rfl) ?_
                  refine lv_iload_n hx hb dL_areCertificates_221 rfl (lv_at hl 6 rfl) ?_
                  refine lv_icmp_ge (tgt := 272) hx hb dL_areCertificates_222 (by decide) (fun c_222 => ?_) (fun c_222 => ?_)
                  · have c_222n : n ≤ k3 := k_leN (a := n) (b := k3) (by omega) (by omega) c_222
                    refine lv_iload_n hx hb dL_areCertificates_272 rfl (lv_at hl 3 rfl) ?_
                    exact hret _ _ _ _ 1 r_ dL_areCertificates_273 (Or.inr (Or.inr rfl)) rfl hP hS
                  · have c_222n : ¬ n ≤ k3 := k_nleN (a := n) (b := k3) (by omega) (by omega) c_222
                    refine lv_iload_n hx hb dL_areCertificates_225 rfl (lv_at hl 3 rfl) ?_
                    refine lv_if_eq (tgt := 272) hx hb dL_areCertificates_226 (by decide) (fun c_226 => absurd c_226 (by decide)) (fun _ => ?_)
                    refine lv_aload_n hx hb dL_areCertificates_229 rfl (lv_at hl 5 rfl) ?_
                    refine lv_iload hx hb dL_areCertificates_230 (lv_at hl 0 rfl) ?_
                    have hk3n : k3 < n := by omega
                    have hce3 := hI.2.2.2.1 k3 hk3n
                    have hcw3 := hI.2.2.2.2.1 k3 hk3n
                    have hcd_232 : cdOne n (nI k3) = 0 := (cdOne_nI (by omega) (by omega))
                    refine kxO_i (n := 1) (wc := wH cy h pn a0 a1 a2 a3 a4 a5 a6 a7 a8 b0 b1 b2 b3 b4 b5 b6 b7 fs ss fd ed lm dd ce cw n iss sb fst len off ren r_ kc pins sd dy) (As := [.int (nI k3)]) (rest := []) ⟨hx, hb, hml, hown, hts⟩ hE hA hZ hP hD hS (c_X2_room l D cy hfl h pn a0 a1 a2 a3 a4 a5 a6 a7 a8 b0 b1 b2 b3 b4 b5 b6 b7 fs ss fd ed lm dd ce cw n iss sb fst len off ren r_ kc pins sd dy (nI k3) (by first | assumption | omega) (by first | assumption | omega)) (fun E h => absurd (show xkA E 0 from hcd_232 ▸ h) xkA_0) (fun _ => rfl) (q0 := 0) (ci := 2) rfl rfl gL_areCertificates_X2_room rfl rfl rfl ⟨rfl, by decide, by decide, by decide +kernel⟩ ⟨Nat.le_of_ble_eq_true rfl, Nat.le_of_ble_eq_true rfl⟩ rfl hl.1 rfl (Nat.le_of_ble_eq_true rfl) dL_areCertificates_232 ⟨Nat.le_of_ble_eq_true rfl, Nat.le_of_ble_eq_true rfl⟩ (fun r_5 u H locs e_6 hP hD hS => ?_)
                    have hP : va_P D vwCl (wH cy h pn a0 a1 a2 a3 a4 a5 a6 a7 a8 b0 b1 b2 b3 b4 b5 b6 b7 fs ss fd ed lm dd ce cw n iss sb fst len off ren r_ kc pins sd dy) H := hP
                    have hD : va_D A (wH cy h pn a0 a1 a2 a3 a4 a5 a6 a7 a8 b0 b1 b2 b3 b4 b5 b6 b7 fs ss fd ed lm dd ce cw n iss sb fst len off ren r_ kc pins sd dy) := hD
                    replace e_6 := e_6.1
                    have e_6 : r_5 = lm (ix (nI k3)) - iwN iss fst (nI (ix (nI k3))) (dy / 7) kc := e_6
                    subst e_6
                    refine k_top (z := lm k3 - iwN iss fst (nI k3) (dy / 7) kc) (by rw [ix_nI (by omega)]) ?_
                    refine lv_if_lt (tgt := 264) hx hb dL_areCertificates_235 (by decide) (fun c_235 => absurd c_235 (by rw [hdy]; exact room_nn hC hk3n)) (fun c_235 => ?_)
                    refine lv_aload_n hx hb dL_areCertificates_238 rfl (lv_at hl 5 rfl) ?_
                    refine lv_iload hx hb dL_areCertificates_239 (lv_at hl 0 rfl) ?_
                    have hcd_241 : cdOne n (nI k3) = 0 := (cdOne_nI (by omega) (by omega))
                    refine kxO_i (n := 1) (wc := wH cy h pn a0 a1 a2 a3 a4 a5 a6 a7 a8 b0 b1 b2 b3 b4 b5 b6 b7 fs ss fd ed lm dd ce cw n iss sb fst len off ren r_ kc pins sd dy) (As := [.int (nI k3)]) (rest := []) ⟨hx, hb, hml, hown, hts⟩ hE hA hZ hP hD hS (c_X2_chains l D cy hfl h pn a0 a1 a2 a3 a4 a5 a6 a7 a8 b0 b1 b2 b3 b4 b5 b6 b7 fs ss fd ed lm dd ce cw n iss sb fst len off ren r_ kc pins sd dy (nI k3) (by first | assumption | omega)) (fun E h => absurd (show xkA E 0 from hcd_241 ▸ h) xkA_0) (fun _ => rfl) (q0 := 0) (ci := 2) rfl rfl gL_areCertificates_X2_chains rfl rfl rfl ⟨rfl, by decide, by decide, by decide +kernel⟩ ⟨Nat.le_of_ble_eq_true rfl, Nat.le_of_ble_eq_true rfl⟩ rfl hl.1 rfl (Nat.le_of_ble_eq_true rfl) dL_areCertificates_241 ⟨Nat.le_of_ble_eq_true rfl, Nat.le_of_ble_eq_true rfl⟩ (fun r_7 u H locs e_8 hP hD hS => ?_)
                    have hP : va_P D vwCl (wH cy h pn a0 a1 a2 a3 a4 a5 a6 a7 a8 b0 b1 b2 b3 b4 b5 b6 b7 fs ss fd ed lm dd ce cw n iss sb fst len off ren r_ kc pins sd dy) H := hP
                    have hD : va_D A (wH cy h pn a0 a1 a2 a3 a4 a5 a6 a7 a8 b0 b1 b2 b3 b4 b5 b6 b7 fs ss fd ed lm dd ce cw n iss sb fst len off ren r_ kc pins sd dy) := hD
                    replace e_8 := e_8.1
                    have e_8 : r_7 = cw (ix (nI k3)) := e_8
                    subst e_8
                    refine k_top (z := cw k3) (by rw [ix_nI (by omega)]) ?_
                    refine lv_iconst (v := 1) hx hb dL_areCertificates_244 (by decide) ?_
                    refine lv_icmp_lt (tgt := 264) hx hb dL_areCertificates_245 (by decide) (fun c_245 => absurd c_245 (by rw [hcw3]; decide)) (fun c_245 => ?_)
                    refine lv_aload_n hx hb dL_areCertificates_248 rfl (lv_at hl 5 rfl) ?_
                    refine lv_iload hx hb dL_areCertificates_249 (lv_at hl 0 rfl) ?_
                    have hcd_251 : cdOne n (nI k3) = 0 := (cdOne_nI (by omega) (by omega))
                    refine kxO_i (n := 1) (wc := wH cy h pn a0 a1 a2 a3 a4 a5 a6 a7 a8 b0 b1 b2 b3 b4 b5 b6 b7 fs ss fd ed lm dd ce cw n iss sb fst len off ren r_ kc pins sd dy) (As := [.int (nI k3)]) (rest := []) ⟨hx, hb, hml, hown, hts⟩ hE hA hZ hP hD hS (c_X2_chainEnd l D cy hfl h pn a0 a1 a2 a3 a4 a5 a6 a7 a8 b0 b1 b2 b3 b4 b5 b6 b7 fs ss fd ed lm dd ce cw n iss sb fst len off ren r_ kc pins sd dy (nI k3) (by first | assumption | omega)) (fun E h => absurd (show xkA E 0 from hcd_251 ▸ h) xkA_0) (fun _ => rfl) (q0 := 0) (ci := 2) rfl rfl gL_areCertificates_X2_chainEnd rfl rfl rfl ⟨rfl, by decide, by decide, by decide +kernel⟩ ⟨Nat.le_of_ble_eq_true rfl, Nat.le_of_ble_eq_true rfl⟩ rfl hl.1 rfl (Nat.le_of_ble_eq_true rfl) dL_areCertificates_251 ⟨Nat.le_of_ble_eq_true rfl, Nat.le_of_ble_eq_true rfl⟩ (fun r_9 u H locs e_10 hP hD hS => ?_)
                    have hP : va_P D vwCl (wH cy h pn a0 a1 a2 a3 a4 a5 a6 a7 a8 b0 b1 b2 b3 b4 b5 b6 b7 fs ss fd ed lm dd ce cw n iss sb fst len off ren r_ kc pins sd dy) H := hP
                    have hD : va_D A (wH cy h pn a0 a1 a2 a3 a4 a5 a6 a7 a8 b0 b1 b2 b3 b4 b5 b6 b7 fs ss fd ed lm dd ce cw n iss sb fst len off ren r_ kc pins sd dy) := hD
                    replace e_10 := e_10.1
                    have e_10 : r_9 = ce (ix (nI k3)) := e_10
                    subst e_10
                    refine k_top (z := ce k3) (by rw [ix_nI (by omega)]) ?_
                    refine lv_sipush (v := 5000) hx hb dL_areCertificates_254 (by decide) ?_
                    refine lv_icmp_gt (tgt := 264) hx hb dL_areCertificates_257 (by decide) (fun c_257 => absurd c_257 (Int32.not_lt.mpr hce3)) (fun c_257 => ?_)
                    refine lv_iconst (v := 1) hx hb dL_areCertificates_260 (by decide) ?_
                    refine lv_goto (tgt := 265) hx hb dL_areCertificates_261 (by decide) ?_
                    refine lv_istore_n (lv' := [(3, .int 1), (6, .int (nI k3)), (5, .int g5), (4, .int g4), (2, .int (nI z)), (0, .ref h), (1, .int (nI n))]) hx hb dL_areCertificates_265 rfl hl (by decide) rfl (fun ls hl => ?_)
                    refine lv_iinc (v := (nI (k3 + 1))) (lv' := [(6, .int (nI (k3 + 1))), (3, .int 1), (5, .int g5), (4, .int g4), (2, .int (nI z)), (0, .ref h), (1, .int (nI n))]) hx hb dL_areCertificates_266 hl (k := 1) rfl (k_inc _) (by decide) rfl (fun ls hl => ?_)
                    refine lv_goto (tgt := 219) hx hb dL_areCertificates_269 (by decide) ?_
                    exact ih_219 (k3 + 1) _ _ ls (by omega) (by omega) hP hD hS (lv_sub hl [0, 2, 3, 1, 4, 5, 6] rfl)
              exact L_219 ((n - 0) + 1) 0 _ _ ls (Nat.lt_succ_self _) (by omega) hP hD hS (lv_sub hl [0, 1, 2, 3, 4, 5, 6] rfl)
            · have c_132n : ¬ kc ≤ k2 := k_nleN (a := kc) (b := k2) (by omega) (by omega) c_132
              refine lv_iload_n hx hb dL_areCertificates_135 rfl (lv_at hl 3 rfl) ?_
              refine lv_if_eq (tgt := 216) hx hb dL_areCertificates_136 (by decide) (fun c_136 => absurd c_136 (by decide)) (fun _ => ?_)
              refine lv_aload_n hx hb dL_areCertificates_139 rfl (lv_at hl 5 rfl) ?_
              refine lv_iload hx hb dL_areCertificates_140 (lv_at hl 0 rfl) ?_
              have hk2n : k2 < kc := by omega
              obtain ⟨hi1, hi2, -⟩ := hC.2.2.1 k2 hk2n
              have hcd_142 : cdOne kc (nI k2) = 0 := (cdOne_nI (by omega) (by omega))
              refine kxO_i (n := 1) (wc := wH cy h pn a0 a1 a2 a3 a4 a5 a6 a7 a8 b0 b1 b2 b3 b4 b5 b6 b7 fs ss fd ed lm dd ce cw n iss sb fst len off ren r_ kc pins sd dy) (As := [.int (nI k2)]) (rest := []) ⟨hx, hb, hml, hown, hts⟩ hE hA hZ hP hD hS (c_X2_renewal l D cy hfl h pn a0 a1 a2 a3 a4 a5 a6 a7 a8 b0 b1 b2 b3 b4 b5 b6 b7 fs ss fd ed lm dd ce cw n iss sb fst len off ren r_ kc pins sd dy (nI k2) (by first | assumption | omega)) (fun E h => absurd (show xkA E 0 from hcd_142 ▸ h) xkA_0) (fun _ => rfl) (q0 := 0) (ci := 2) rfl rfl gL_areCertificates_X2_renewal rfl rfl rfl ⟨rfl, by decide, by decide, by decide +kernel⟩ ⟨Nat.le_of_ble_eq_true rfl, Nat.le_of_ble_eq_true rfl⟩ rfl hl.1 rfl (Nat.le_of_ble_eq_true rfl) dL_areCertificates_142 ⟨Nat.le_of_ble_eq_true rfl, Nat.le_of_ble_eq_true rfl⟩ (fun r_11 u H locs e_12 hP hD hS => ?_)
              have hP : va_P D vwCl (wH cy h pn a0 a1 a2 a3 a4 a5 a6 a7 a8 b0 b1 b2 b3 b4 b5 b6 b7 fs ss fd ed lm dd ce cw n iss sb fst len off ren r_ kc pins sd dy) H := hP
              have hD : va_D A (wH cy h pn a0 a1 a2 a3 a4 a5 a6 a7 a8 b0 b1 b2 b3 b4 b5 b6 b7 fs ss fd ed lm dd ce cw n iss sb fst len off ren r_ kc pins sd dy) := hD
              replace e_12 := e_12.1
              have e_12 : r_11 = ren (ix (nI k2)) := e_12
              subst e_12
              refine k_top (z := ren k2) (by rw [ix_nI (by omega)]) ?_
              refine lv_istore (lv' := [(7, .int (ren k2)), (6, .int (nI k2)), (5, .int g5), (4, .int g4), (3, .int 1), (2, .int (nI z)), (0, .ref h), (1, .int (nI n))]) hx hb dL_areCertificates_145 hl (by decide) rfl (fun ls hl => ?_)
              refine lv_aload_n hx hb dL_areCertificates_147 rfl (lv_at hl 6 rfl) ?_
              refine lv_iload hx hb dL_areCertificates_148 (lv_at hl 1 rfl) ?_
              have hcd_150 : cdOne kc (nI k2) = 0 := (cdOne_nI (by omega) (by omega))
              refine kxO_i (n := 1) (wc := wH cy h pn a0 a1 a2 a3 a4 a5 a6 a7 a8 b0 b1 b2 b3 b4 b5 b6 b7 fs ss fd ed lm dd ce cw n iss sb fst len off ren r_ kc pins sd dy) (As := [.int (nI k2)]) (rest := []) ⟨hx, hb, hml, hown, hts⟩ hE hA hZ hP hD hS (c_X2_issuerOf l D cy hfl h pn a0 a1 a2 a3 a4 a5 a6 a7 a8 b0 b1 b2 b3 b4 b5 b6 b7 fs ss fd ed lm dd ce cw n iss sb fst len off ren r_ kc pins sd dy (nI k2) (by first | assumption | omega)) (fun E h => absurd (show xkA E 0 from hcd_150 ▸ h) xkA_0) (fun _ => rfl) (q0 := 0) (ci := 2) rfl rfl gL_areCertificates_X2_issuerOf rfl rfl rfl ⟨rfl, by decide, by decide, by decide +kernel⟩ ⟨Nat.le_of_ble_eq_true rfl, Nat.le_of_ble_eq_true rfl⟩ rfl hl.1 rfl (Nat.le_of_ble_eq_true rfl) dL_areCertificates_150 ⟨Nat.le_of_ble_eq_true rfl, Nat.le_of_ble_eq_true rfl⟩ (fun r_13 u H locs e_14 hP hD hS => ?_)
              have hP : va_P D vwCl (wH cy h pn a0 a1 a2 a3 a4 a5 a6 a7 a8 b0 b1 b2 b3 b4 b5 b6 b7 fs ss fd ed lm dd ce cw n iss sb fst len off ren r_ kc pins sd dy) H := hP
              have hD : va_D A (wH cy h pn a0 a1 a2 a3 a4 a5 a6 a7 a8 b0 b1 b2 b3 b4 b5 b6 b7 fs ss fd ed lm dd ce cw n iss sb fst len off ren r_ kc pins sd dy) := hD
              replace e_14 := e_14.1
              have e_14 : r_13 = iss (ix (nI k2)) := e_14
              subst e_14
              refine k_top (z := iss k2) (by rw [ix_nI (by omega)]) ?_
              refine lv_iload_n hx hb dL_areCertificates_153 rfl (lv_at hl 7 rfl) ?_
              refine lv_icmp_ge (tgt := 208) hx hb dL_areCertificates_154 (by decide) (fun c_154 => absurd c_154 (by rw [hi1]; exact nI_ge hi2 (by omega))) (fun c_154 => ?_)
              refine lv_iload hx hb dL_areCertificates_157 (lv_at hl 0 rfl) ?_
              refine lv_iconst (v := (-1)) hx hb dL_areCertificates_159 (by decide) ?_
              refine lv_icmp_eq (tgt := 204) hx hb dL_areCertificates_160 (by decide) (fun c_160 => ?_) (fun c_160 => ?_)
              · refine lv_iconst (v := 1) hx hb dL_areCertificates_204 (by decide) ?_
                refine lv_goto (tgt := 209) hx hb dL_areCertificates_205 (by decide) ?_
                refine lv_istore_n (lv' := [(3, .int 1), (7, .int (ren k2)), (6, .int (nI k2)), (5, .int g5), (4, .int g4), (2, .int (nI z)), (0, .ref h), (1, .int (nI n))]) hx hb dL_areCertificates_209 rfl hl (by decide) rfl (fun ls hl => ?_)
                refine lv_iinc (v := (nI (k2 + 1))) (lv' := [(6, .int (nI (k2 + 1))), (3, .int 1), (7, .int (ren k2)), (5, .int g5), (4, .int g4), (2, .int (nI z)), (0, .ref h), (1, .int (nI n))]) hx hb dL_areCertificates_210 hl (k := 2) rfl (k_inc _) (by decide) rfl (fun ls hl => ?_)
                refine lv_goto (tgt := 126) hx hb dL_areCertificates_213 (by decide) ?_
                exact ih_126 (k2 + 1) _ _ ls (by omega) (by omega) hP hD hS (lv_sub hl [0, 3, 4, 1, 5, 6, 7] rfl)
              · obtain ⟨hr1, hr2, hr3, hr4, hr5⟩ := ren_end hC htd hk2n c_160
                refine lv_iload hx hb dL_areCertificates_163 (lv_at hl 0 rfl) ?_
                refine lv_iload hx hb dL_areCertificates_165 (lv_at hl 1 rfl) ?_
                refine lv_icmp_le (tgt := 208) hx hb dL_areCertificates_167 (by decide) (fun c_167 => absurd c_167 (by rw [hr1]; exact nI_ge hr2 (by omega))) (fun c_167 => ?_)
                refine lv_aload_n hx hb dL_areCertificates_170 rfl (lv_at hl 6 rfl) ?_
                refine lv_iload hx hb dL_areCertificates_171 (lv_at hl 0 rfl) ?_
                have hcd_173 : cdOne kc (ren k2) = 0 := (by rw [hr1]; exact cdOne_nI hr3 (by omega))
                refine kxO_i (n := 1) (wc := wH cy h pn a0 a1 a2 a3 a4 a5 a6 a7 a8 b0 b1 b2 b3 b4 b5 b6 b7 fs ss fd ed lm dd ce cw n iss sb fst len off ren r_ kc pins sd dy) (As := [.int (ren k2)]) (rest := []) ⟨hx, hb, hml, hown, hts⟩ hE hA hZ hP hD hS (c_X2_issuerOf l D cy hfl h pn a0 a1 a2 a3 a4 a5 a6 a7 a8 b0 b1 b2 b3 b4 b5 b6 b7 fs ss fd ed lm dd ce cw n iss sb fst len off ren r_ kc pins sd dy (ren k2) (by first | assumption | omega)) (fun E h => absurd (show xkA E 0 from hcd_173 ▸ h) xkA_0) (fun _ => rfl) (q0 := 0) (ci := 2) rfl rfl gL_areCertificates_X2_issuerOf rfl rfl rfl ⟨rfl, by decide, by decide, by decide +kernel⟩ ⟨Nat.le_of_ble_eq_true rfl, Nat.le_of_ble_eq_true rfl⟩ rfl hl.1 rfl (Nat.le_of_ble_eq_true rfl) dL_areCertificates_173 ⟨Nat.le_of_ble_eq_true rfl, Nat.le_of_ble_eq_true rfl⟩ (fun r_15 u H locs e_16 hP hD hS => ?_)
                have hP : va_P D vwCl (wH cy h pn a0 a1 a2 a3 a4 a5 a6 a7 a8 b0 b1 b2 b3 b4 b5 b6 b7 fs ss fd ed lm dd ce cw n iss sb fst len off ren r_ kc pins sd dy) H := hP
                have hD : va_D A (wH cy h pn a0 a1 a2 a3 a4 a5 a6 a7 a8 b0 b1 b2 b3 b4 b5 b6 b7 fs ss fd ed lm dd ce cw n iss sb fst len off ren r_ kc pins sd dy) := hD
                replace e_16 := e_16.1
                have e_16 : r_15 = iss (ix (ren k2)) := e_16
                subst e_16
                refine lv_aload_n hx hb dL_areCertificates_176 rfl (lv_at hl 6 rfl) ?_
                refine lv_iload hx hb dL_areCertificates_177 (lv_at hl 1 rfl) ?_
                have hcd_179 : cdOne kc (nI k2) = 0 := (cdOne_nI (by omega) (by omega))
                refine kxO_i (n := 1) (wc := wH cy h pn a0 a1 a2 a3 a4 a5 a6 a7 a8 b0 b1 b2 b3 b4 b5 b6 b7 fs ss fd ed lm dd ce cw n iss sb fst len off ren r_ kc pins sd dy) (As := [.int (nI k2)]) (rest := [.int (iss (ix (ren k2)))]) ⟨hx, hb, hml, hown, hts⟩ hE hA hZ hP hD hS (c_X2_issuerOf l D cy hfl h pn a0 a1 a2 a3 a4 a5 a6 a7 a8 b0 b1 b2 b3 b4 b5 b6 b7 fs ss fd ed lm dd ce cw n iss sb fst len off ren r_ kc pins sd dy (nI k2) (by first | assumption | omega)) (fun E h => absurd (show xkA E 0 from hcd_179 ▸ h) xkA_0) (fun _ => rfl) (q0 := 0) (ci := 2) rfl rfl gL_areCertificates_X2_issuerOf rfl rfl rfl ⟨rfl, by decide, by decide, by decide +kernel⟩ ⟨Nat.le_of_ble_eq_true rfl, Nat.le_of_ble_eq_true rfl⟩ rfl hl.1 rfl (Nat.le_of_ble_eq_true rfl) dL_areCertificates_179 ⟨Nat.le_of_ble_eq_true rfl, Nat.le_of_ble_eq_true rfl⟩ (fun r_17 u H locs e_18 hP hD hS => ?_)
                have hP : va_P D vwCl (wH cy h pn a0 a1 a2 a3 a4 a5 a6 a7 a8 b0 b1 b2 b3 b4 b5 b6 b7 fs ss fd ed lm dd ce cw n iss sb fst len off ren r_ kc pins sd dy) H := hP
                have hD : va_D A (wH cy h pn a0 a1 a2 a3 a4 a5 a6 a7 a8 b0 b1 b2 b3 b4 b5 b6 b7 fs ss fd ed lm dd ce cw n iss sb fst len off ren r_ kc pins sd dy) := hD
                replace e_18 := e_18.1
                have e_18 : r_17 = iss (ix (nI k2)) := e_18
                subst e_18
                refine k_top (z := iss k2) (by rw [ix_nI (by omega)]) ?_
                refine lv_icmp_ne (tgt := 208) hx hb dL_areCertificates_182 (by decide) (fun c_182 => False.elim (c_182 hr4)) (fun c_182 => ?_)
                refine lv_aload_n hx hb dL_areCertificates_185 rfl (lv_at hl 6 rfl) ?_
                refine lv_iload hx hb dL_areCertificates_186 (lv_at hl 0 rfl) ?_
                have hcd_188 : cdOne kc (ren k2) = 0 := (by rw [hr1]; exact cdOne_nI hr3 (by omega))
                refine kxO_i (n := 1) (wc := wH cy h pn a0 a1 a2 a3 a4 a5 a6 a7 a8 b0 b1 b2 b3 b4 b5 b6 b7 fs ss fd ed lm dd ce cw n iss sb fst len off ren r_ kc pins sd dy) (As := [.int (ren k2)]) (rest := []) ⟨hx, hb, hml, hown, hts⟩ hE hA hZ hP hD hS (c_X2_lastDay l D cy hfl h pn a0 a1 a2 a3 a4 a5 a6 a7 a8 b0 b1 b2 b3 b4 b5 b6 b7 fs ss fd ed lm dd ce cw n iss sb fst len off ren r_ kc pins sd dy (ren k2) (by first | assumption | omega)) (fun E h => absurd (show xkA E 0 from hcd_188 ▸ h) xkA_0) (fun _ => rfl) (q0 := 0) (ci := 2) rfl rfl gL_areCertificates_X2_lastDay rfl rfl rfl ⟨rfl, by decide, by decide, by decide +kernel⟩ ⟨Nat.le_of_ble_eq_true rfl, Nat.le_of_ble_eq_true rfl⟩ rfl hl.1 rfl (Nat.le_of_ble_eq_true rfl) dL_areCertificates_188 ⟨Nat.le_of_ble_eq_true rfl, Nat.le_of_ble_eq_true rfl⟩ (fun r_19 u H locs e_20 hP hD hS => ?_)
                have hP : va_P D vwCl (wH cy h pn a0 a1 a2 a3 a4 a5 a6 a7 a8 b0 b1 b2 b3 b4 b5 b6 b7 fs ss fd ed lm dd ce cw n iss sb fst len off ren r_ kc pins sd dy) H := hP
                have hD : va_D A (wH cy h pn a0 a1 a2 a3 a4 a5 a6 a7 a8 b0 b1 b2 b3 b4 b5 b6 b7 fs ss fd ed lm dd ce cw n iss sb fst len off ren r_ kc pins sd dy) := hD
                replace e_20 := e_20.1
                have e_20 : r_19 = ctEnd fst len (ix (ren k2)) := e_20
                subst e_20
                refine lv_aload_n hx hb dL_areCertificates_191 rfl (lv_at hl 6 rfl) ?_
                refine lv_iload hx hb dL_areCertificates_192 (lv_at hl 1 rfl) ?_
                have hcd_194 : cdOne kc (nI k2) = 0 := (cdOne_nI (by omega) (by omega))
                refine kxO_i (n := 1) (wc := wH cy h pn a0 a1 a2 a3 a4 a5 a6 a7 a8 b0 b1 b2 b3 b4 b5 b6 b7 fs ss fd ed lm dd ce cw n iss sb fst len off ren r_ kc pins sd dy) (As := [.int (nI k2)]) (rest := [.int (ctEnd fst len (ix (ren k2)))]) ⟨hx, hb, hml, hown, hts⟩ hE hA hZ hP hD hS (c_X2_lastDay l D cy hfl h pn a0 a1 a2 a3 a4 a5 a6 a7 a8 b0 b1 b2 b3 b4 b5 b6 b7 fs ss fd ed lm dd ce cw n iss sb fst len off ren r_ kc pins sd dy (nI k2) (by first | assumption | omega)) (fun E h => absurd (show xkA E 0 from hcd_194 ▸ h) xkA_0) (fun _ => rfl) (q0 := 0) (ci := 2) rfl rfl gL_areCertificates_X2_lastDay rfl rfl rfl ⟨rfl, by decide, by decide, by decide +kernel⟩ ⟨Nat.le_of_ble_eq_true rfl, Nat.le_of_ble_eq_true rfl⟩ rfl hl.1 rfl (Nat.le_of_ble_eq_true rfl) dL_areCertificates_194 ⟨Nat.le_of_ble_eq_true rfl, Nat.le_of_ble_eq_true rfl⟩ (fun r_21 u H locs e_22 hP hD hS => ?_)
                have hP : va_P D vwCl (wH cy h pn a0 a1 a2 a3 a4 a5 a6 a7 a8 b0 b1 b2 b3 b4 b5 b6 b7 fs ss fd ed lm dd ce cw n iss sb fst len off ren r_ kc pins sd dy) H := hP
                have hD : va_D A (wH cy h pn a0 a1 a2 a3 a4 a5 a6 a7 a8 b0 b1 b2 b3 b4 b5 b6 b7 fs ss fd ed lm dd ce cw n iss sb fst len off ren r_ kc pins sd dy) := hD
                replace e_22 := e_22.1
                have e_22 : r_21 = ctEnd fst len (ix (nI k2)) := e_22
                subst e_22
                refine k_top (z := ctEnd fst len k2) (by rw [ix_nI (by omega)]) ?_
                refine lv_sipush (v := 400) hx hb dL_areCertificates_197 (by decide) ?_
                refine lv_isub hx hb dL_areCertificates_200 ?_
                refine lv_icmp_le (tgt := 208) hx hb dL_areCertificates_201 (by decide) (fun c_201 => False.elim (hr5 c_201)) (fun c_201 => ?_)
                refine lv_iconst (v := 1) hx hb dL_areCertificates_204 (by decide) ?_
                refine lv_goto (tgt := 209) hx hb dL_areCertificates_205 (by decide) ?_
                refine lv_istore_n (lv' := [(3, .int 1), (7, .int (ren k2)), (6, .int (nI k2)), (5, .int g5), (4, .int g4), (2, .int (nI z)), (0, .ref h), (1, .int (nI n))]) hx hb dL_areCertificates_209 rfl hl (by decide) rfl (fun ls hl => ?_)
                refine lv_iinc (v := (nI (k2 + 1))) (lv' := [(6, .int (nI (k2 + 1))), (3, .int 1), (7, .int (ren k2)), (5, .int g5), (4, .int g4), (2, .int (nI z)), (0, .ref h), (1, .int (nI n))]) hx hb dL_areCertificates_210 hl (k := 2) rfl (k_inc _) (by decide) rfl (fun ls hl => ?_)
                refine lv_goto (tgt := 126) hx hb dL_areCertificates_213 (by decide) ?_
                exact ih_126 (k2 + 1) _ _ ls (by omega) (by omega) hP hD hS (lv_sub hl [0, 3, 4, 1, 5, 6, 7] rfl)
        exact L_126 ((kc - 0) + 1) 0 _ _ ls (Nat.lt_succ_self _) (by omega) hP hD hS (lv_sub hl [0, 1, 2, 3, 4, 5, 6] rfl)
      · have c_19n : ¬ z ≤ k := k_nleN (a := z) (b := k) (by omega) (by omega) c_19
        refine lv_iload_n hx hb dL_areCertificates_22 rfl (lv_at hl 3 rfl) ?_
        refine lv_if_eq (tgt := 123) hx hb dL_areCertificates_23 (by decide) (fun c_23 => absurd c_23 (by decide)) (fun _ => ?_)
        refine lv_aload_n hx hb dL_areCertificates_26 rfl (lv_at hl 5 rfl) ?_
        refine lv_iload hx hb dL_areCertificates_27 (lv_at hl 0 rfl) ?_
        have hcd_29 : cdOne (fqS fst len off ren dy r_ kc) (nI k) = 0 := (by rw [fq_Z, ← ez]; exact cdOne_nI (by omega) (by omega))
        refine kxO_i (n := 1) (wc := wH cy h pn a0 a1 a2 a3 a4 a5 a6 a7 a8 b0 b1 b2 b3 b4 b5 b6 b7 fs ss fd ed lm dd ce cw n iss sb fst len off ren r_ kc pins sd dy) (As := [.int (nI k)]) (rest := []) ⟨hx, hb, hml, hown, hts⟩ hE hA hZ hP hD hS (c_X2_waitingAt l D cy hfl h pn a0 a1 a2 a3 a4 a5 a6 a7 a8 b0 b1 b2 b3 b4 b5 b6 b7 fs ss fd ed lm dd ce cw n iss sb fst len off ren r_ kc pins sd dy (nI k) (by first | assumption | omega)) (fun E h => absurd (show xkA E 0 from hcd_29 ▸ h) xkA_0) (fun _ => Eq.trans (b := [h, a0, a1, a2, a3, a4, a5, a6, a7, a8, b0, b1, b2, b3, b4, b5, b6, b7, pn]) rfl rfl) (q0 := 0) (ci := 2) rfl rfl gL_areCertificates_X2_waitingAt rfl rfl rfl ⟨rfl, by decide, by decide, by decide +kernel⟩ ⟨Nat.le_of_ble_eq_true rfl, Nat.le_of_ble_eq_true rfl⟩ rfl hl.1 rfl (Nat.le_of_ble_eq_true rfl) dL_areCertificates_29 ⟨Nat.le_of_ble_eq_true rfl, Nat.le_of_ble_eq_true rfl⟩ (fun r_23 u H locs e_24 hP hD hS => ?_)
        have hP : va_P D vwCl (wH cy h pn a0 a1 a2 a3 a4 a5 a6 a7 a8 b0 b1 b2 b3 b4 b5 b6 b7 fs ss fd ed lm dd ce cw n iss sb fst len off ren (fqQ fst len off ren dy r_ kc) kc pins sd dy) H := hP
        have hD : va_D A (wH cy h pn a0 a1 a2 a3 a4 a5 a6 a7 a8 b0 b1 b2 b3 b4 b5 b6 b7 fs ss fd ed lm dd ce cw n iss sb fst len off ren (fqQ fst len off ren dy r_ kc) kc pins sd dy) := hD
        replace e_24 := e_24.1
        have e_24 : r_23 = fqQ fst len off ren dy r_ kc (ix (nI k)) := e_24
        subst e_24
        obtain ⟨r1_, eq_r1_⟩ : ∃ q_, q_ = fqQ fst len off ren dy r_ kc := ⟨_, rfl⟩
        rw [← eq_r1_] at hP hD
        have hP : va_P D vwCl (wH cy h pn a0 a1 a2 a3 a4 a5 a6 a7 a8 b0 b1 b2 b3 b4 b5 b6 b7 fs ss fd ed lm dd ce cw n iss sb fst len off ren r1_ kc pins sd dy) H := hP
        have hD : va_D A (wH cy h pn a0 a1 a2 a3 a4 a5 a6 a7 a8 b0 b1 b2 b3 b4 b5 b6 b7 fs ss fd ed lm dd ce cw n iss sb fst len off ren r1_ kc pins sd dy) := hD
        obtain ⟨c_, ec⟩ : ∃ c_, c_ = fqV fst len off ren dy kc k := ⟨_, rfl⟩
        have hcw : c_ < kc ∧ waitP fst len off ren dy c_ := by rw [ec]; exact fq_lt hc (by omega)
        have hck := hcw.1
        refine k_top (z := nI c_) (by rw [ec, ix_nI (by omega)]; exact fq_V hc (by omega)) ?_
        refine lv_istore (lv' := [(7, .int (nI c_)), (6, .int (nI k)), (5, .int g5), (4, .int g4), (3, .int 1), (2, .int (nI z)), (0, .ref h), (1, .int (nI n))]) hx hb dL_areCertificates_32 hl (by decide) rfl (fun ls hl => ?_)
        refine lv_aload_n hx hb dL_areCertificates_34 rfl (lv_at hl 6 rfl) ?_
        refine lv_iload hx hb dL_areCertificates_35 (lv_at hl 0 rfl) ?_
        have hcd_37 : cdOne kc (nI c_) = 0 := (cdOne_nI (by omega) (by omega))
        refine kxO_i (n := 1) (wc := wH cy h pn a0 a1 a2 a3 a4 a5 a6 a7 a8 b0 b1 b2 b3 b4 b5 b6 b7 fs ss fd ed lm dd ce cw n iss sb fst len off ren r1_ kc pins sd dy) (As := [.int (nI c_)]) (rest := []) ⟨hx, hb, hml, hown, hts⟩ hE hA hZ hP hD hS (c_X2_renewal l D cy hfl h pn a0 a1 a2 a3 a4 a5 a6 a7 a8 b0 b1 b2 b3 b4 b5 b6 b7 fs ss fd ed lm dd ce cw n iss sb fst len off ren r1_ kc pins sd dy (nI c_) (by first | assumption | omega)) (fun E h => absurd (show xkA E 0 from hcd_37 ▸ h) xkA_0) (fun _ => rfl) (q0 := 0) (ci := 2) rfl rfl gL_areCertificates_X2_renewal rfl rfl rfl ⟨rfl, by decide, by decide, by decide +kernel⟩ ⟨Nat.le_of_ble_eq_true rfl, Nat.le_of_ble_eq_true rfl⟩ rfl hl.1 rfl (Nat.le_of_ble_eq_true rfl) dL_areCertificates_37 ⟨Nat.le_of_ble_eq_true rfl, Nat.le_of_ble_eq_true rfl⟩ (fun r_25 u H locs e_26 hP hD hS => ?_)
        have hP : va_P D vwCl (wH cy h pn a0 a1 a2 a3 a4 a5 a6 a7 a8 b0 b1 b2 b3 b4 b5 b6 b7 fs ss fd ed lm dd ce cw n iss sb fst len off ren r1_ kc pins sd dy) H := hP
        have hD : va_D A (wH cy h pn a0 a1 a2 a3 a4 a5 a6 a7 a8 b0 b1 b2 b3 b4 b5 b6 b7 fs ss fd ed lm dd ce cw n iss sb fst len off ren r1_ kc pins sd dy) := hD
        replace e_26 := e_26.1
        have e_26 : r_25 = ren (ix (nI c_)) := e_26
        subst e_26
        refine k_top (z := ren c_) (by rw [ix_nI (by omega)]) ?_
        refine lv_iconst (v := (-1)) hx hb dL_areCertificates_40 (by decide) ?_
        refine lv_icmp_ne (tgt := 103) hx hb dL_areCertificates_41 (by decide) (fun c_41 => False.elim (c_41 hcw.2.2.1)) (fun c_41 => ?_)
        refine lv_aload_n hx hb dL_areCertificates_44 rfl (lv_at hl 6 rfl) ?_
        refine lv_iload hx hb dL_areCertificates_45 (lv_at hl 0 rfl) ?_
        have hcd_47 : cdOne kc (nI c_) = 0 := (cdOne_nI (by omega) (by omega))
        refine kxO_i (n := 1) (wc := wH cy h pn a0 a1 a2 a3 a4 a5 a6 a7 a8 b0 b1 b2 b3 b4 b5 b6 b7 fs ss fd ed lm dd ce cw n iss sb fst len off ren r1_ kc pins sd dy) (As := [.int (nI c_)]) (rest := []) ⟨hx, hb, hml, hown, hts⟩ hE hA hZ hP hD hS (c_X2_dueOn l D cy hfl h pn a0 a1 a2 a3 a4 a5 a6 a7 a8 b0 b1 b2 b3 b4 b5 b6 b7 fs ss fd ed lm dd ce cw n iss sb fst len off ren r1_ kc pins sd dy (nI c_) (by first | assumption | omega)) (fun E h => absurd (show xkA E 0 from hcd_47 ▸ h) xkA_0) (fun _ => rfl) (q0 := 0) (ci := 2) rfl rfl gL_areCertificates_X2_dueOn rfl rfl rfl ⟨rfl, by decide, by decide, by decide +kernel⟩ ⟨Nat.le_of_ble_eq_true rfl, Nat.le_of_ble_eq_true rfl⟩ rfl hl.1 rfl (Nat.le_of_ble_eq_true rfl) dL_areCertificates_47 ⟨Nat.le_of_ble_eq_true rfl, Nat.le_of_ble_eq_true rfl⟩ (fun r_27 u H locs e_28 hP hD hS => ?_)
        have hP : va_P D vwCl (wH cy h pn a0 a1 a2 a3 a4 a5 a6 a7 a8 b0 b1 b2 b3 b4 b5 b6 b7 fs ss fd ed lm dd ce cw n iss sb fst len off ren r1_ kc pins sd dy) H := hP
        have hD : va_D A (wH cy h pn a0 a1 a2 a3 a4 a5 a6 a7 a8 b0 b1 b2 b3 b4 b5 b6 b7 fs ss fd ed lm dd ce cw n iss sb fst len off ren r1_ kc pins sd dy) := hD
        replace e_28 := e_28.1
        have e_28 : r_27 = ctDue fst len off (ix (nI c_)) := e_28
        subst e_28
        refine k_top (z := ctDue fst len off c_) (by rw [ix_nI (by omega)]) ?_
        refine lv_aload_n hx hb dL_areCertificates_50 rfl (lv_at hl 6 rfl) ?_
        refine kcW_i (n := 0) (wc := wH cy h pn a0 a1 a2 a3 a4 a5 a6 a7 a8 b0 b1 b2 b3 b4 b5 b6 b7 fs ss fd ed lm dd ce cw n iss sb fst len off ren r1_ kc pins sd dy) (As := []) (rest := [.int (ctDue fst len off c_)]) ⟨hx, hb, hml, hown, hts⟩ hE hA hP hD hS (c_X2_today l D cy h pn a0 a1 a2 a3 a4 a5 a6 a7 a8 b0 b1 b2 b3 b4 b5 b6 b7 fs ss fd ed lm dd ce cw n iss sb fst len off ren r1_ kc pins sd dy) (fun _ => rfl) (q0 := 0) (ci := 2) rfl rfl gL_areCertificates_X2_today rfl rfl rfl ⟨rfl, by decide, by decide, by decide +kernel⟩ ⟨Nat.le_of_ble_eq_true rfl, Nat.le_of_ble_eq_true rfl⟩ rfl hl.1 rfl (Nat.le_of_ble_eq_true rfl) dL_areCertificates_51 ⟨Nat.le_of_ble_eq_true rfl, Nat.le_of_ble_eq_true rfl⟩ (fun r_29 u H locs e_30 hP hD hS => ?_)
        have hP : va_P D vwCl (wH cy h pn a0 a1 a2 a3 a4 a5 a6 a7 a8 b0 b1 b2 b3 b4 b5 b6 b7 fs ss fd ed lm dd ce cw n iss sb fst len off ren r1_ kc pins sd dy) H := hP
        have hD : va_D A (wH cy h pn a0 a1 a2 a3 a4 a5 a6 a7 a8 b0 b1 b2 b3 b4 b5 b6 b7 fs ss fd ed lm dd ce cw n iss sb fst len off ren r1_ kc pins sd dy) := hD
        have e_30 : dy = r_29 := e_30.symm
        subst e_30
        refine lv_icmp_gt (tgt := 103) hx hb dL_areCertificates_54 (by decide) (fun c_54 => False.elim (hcw.2.1 c_54)) (fun c_54 => ?_)
        refine lv_aload_n hx hb dL_areCertificates_57 rfl (lv_at hl 6 rfl) ?_
        refine lv_iload hx hb dL_areCertificates_58 (lv_at hl 0 rfl) ?_
        have hcd_60 : cdOne kc (nI c_) = 0 := (cdOne_nI (by omega) (by omega))
        refine kxO_i (n := 1) (wc := wH cy h pn a0 a1 a2 a3 a4 a5 a6 a7 a8 b0 b1 b2 b3 b4 b5 b6 b7 fs ss fd ed lm dd ce cw n iss sb fst len off ren r1_ kc pins sd dy) (As := [.int (nI c_)]) (rest := []) ⟨hx, hb, hml, hown, hts⟩ hE hA hZ hP hD hS (c_X2_lastDay l D cy hfl h pn a0 a1 a2 a3 a4 a5 a6 a7 a8 b0 b1 b2 b3 b4 b5 b6 b7 fs ss fd ed lm dd ce cw n iss sb fst len off ren r1_ kc pins sd dy (nI c_) (by first | assumption | omega)) (fun E h => absurd (show xkA E 0 from hcd_60 ▸ h) xkA_0) (fun _ => rfl) (q0 := 0) (ci := 2) rfl rfl gL_areCertificates_X2_lastDay rfl rfl rfl ⟨rfl, by decide, by decide, by decide +kernel⟩ ⟨Nat.le_of_ble_eq_true rfl, Nat.le_of_ble_eq_true rfl⟩ rfl hl.1 rfl (Nat.le_of_ble_eq_true rfl) dL_areCertificates_60 ⟨Nat.le_of_ble_eq_true rfl, Nat.le_of_ble_eq_true rfl⟩ (fun r_31 u H locs e_32 hP hD hS => ?_)
        have hP : va_P D vwCl (wH cy h pn a0 a1 a2 a3 a4 a5 a6 a7 a8 b0 b1 b2 b3 b4 b5 b6 b7 fs ss fd ed lm dd ce cw n iss sb fst len off ren r1_ kc pins sd dy) H := hP
        have hD : va_D A (wH cy h pn a0 a1 a2 a3 a4 a5 a6 a7 a8 b0 b1 b2 b3 b4 b5 b6 b7 fs ss fd ed lm dd ce cw n iss sb fst len off ren r1_ kc pins sd dy) := hD
        replace e_32 := e_32.1
        have e_32 : r_31 = ctEnd fst len (ix (nI c_)) := e_32
        subst e_32
        refine k_top (z := ctEnd fst len c_) (by rw [ix_nI (by omega)]) ?_
        refine lv_aload_n hx hb dL_areCertificates_63 rfl (lv_at hl 6 rfl) ?_
        refine kcW_i (n := 0) (wc := wH cy h pn a0 a1 a2 a3 a4 a5 a6 a7 a8 b0 b1 b2 b3 b4 b5 b6 b7 fs ss fd ed lm dd ce cw n iss sb fst len off ren r1_ kc pins sd dy) (As := []) (rest := [.int (ctEnd fst len c_)]) ⟨hx, hb, hml, hown, hts⟩ hE hA hP hD hS (c_X2_today l D cy h pn a0 a1 a2 a3 a4 a5 a6 a7 a8 b0 b1 b2 b3 b4 b5 b6 b7 fs ss fd ed lm dd ce cw n iss sb fst len off ren r1_ kc pins sd dy) (fun _ => rfl) (q0 := 0) (ci := 2) rfl rfl gL_areCertificates_X2_today rfl rfl rfl ⟨rfl, by decide, by decide, by decide +kernel⟩ ⟨Nat.le_of_ble_eq_true rfl, Nat.le_of_ble_eq_true rfl⟩ rfl hl.1 rfl (Nat.le_of_ble_eq_true rfl) dL_areCertificates_64 ⟨Nat.le_of_ble_eq_true rfl, Nat.le_of_ble_eq_true rfl⟩ (fun r_33 u H locs e_34 hP hD hS => ?_)
        have hP : va_P D vwCl (wH cy h pn a0 a1 a2 a3 a4 a5 a6 a7 a8 b0 b1 b2 b3 b4 b5 b6 b7 fs ss fd ed lm dd ce cw n iss sb fst len off ren r1_ kc pins sd dy) H := hP
        have hD : va_D A (wH cy h pn a0 a1 a2 a3 a4 a5 a6 a7 a8 b0 b1 b2 b3 b4 b5 b6 b7 fs ss fd ed lm dd ce cw n iss sb fst len off ren r1_ kc pins sd dy) := hD
        have e_34 : dy = r_33 := e_34.symm
        subst e_34
        refine lv_icmp_lt (tgt := 103) hx hb dL_areCertificates_67 (by decide) (fun c_67 => False.elim (hcw.2.2.2 c_67)) (fun c_67 => ?_)
        refine lv_aload_n hx hb dL_areCertificates_70 rfl (lv_at hl 6 rfl) ?_
        refine lv_iload hx hb dL_areCertificates_71 (lv_at hl 0 rfl) ?_
        have hcd_73 : cdOne kc (nI c_) = 0 := (cdOne_nI (by omega) (by omega))
        refine kxO_i (n := 1) (wc := wH cy h pn a0 a1 a2 a3 a4 a5 a6 a7 a8 b0 b1 b2 b3 b4 b5 b6 b7 fs ss fd ed lm dd ce cw n iss sb fst len off ren r1_ kc pins sd dy) (As := [.int (nI c_)]) (rest := []) ⟨hx, hb, hml, hown, hts⟩ hE hA hZ hP hD hS (c_X2_lastDay l D cy hfl h pn a0 a1 a2 a3 a4 a5 a6 a7 a8 b0 b1 b2 b3 b4 b5 b6 b7 fs ss fd ed lm dd ce cw n iss sb fst len off ren r1_ kc pins sd dy (nI c_) (by first | assumption | omega)) (fun E h => absurd (show xkA E 0 from hcd_73 ▸ h) xkA_0) (fun _ => rfl) (q0 := 0) (ci := 2) rfl rfl gL_areCertificates_X2_lastDay rfl rfl rfl ⟨rfl, by decide, by decide, by decide +kernel⟩ ⟨Nat.le_of_ble_eq_true rfl, Nat.le_of_ble_eq_true rfl⟩ rfl hl.1 rfl (Nat.le_of_ble_eq_true rfl) dL_areCertificates_73 ⟨Nat.le_of_ble_eq_true rfl, Nat.le_of_ble_eq_true rfl⟩ (fun r_35 u H locs e_36 hP hD hS => ?_)
        have hP : va_P D vwCl (wH cy h pn a0 a1 a2 a3 a4 a5 a6 a7 a8 b0 b1 b2 b3 b4 b5 b6 b7 fs ss fd ed lm dd ce cw n iss sb fst len off ren r1_ kc pins sd dy) H := hP
        have hD : va_D A (wH cy h pn a0 a1 a2 a3 a4 a5 a6 a7 a8 b0 b1 b2 b3 b4 b5 b6 b7 fs ss fd ed lm dd ce cw n iss sb fst len off ren r1_ kc pins sd dy) := hD
        replace e_36 := e_36.1
        have e_36 : r_35 = ctEnd fst len (ix (nI c_)) := e_36
        subst e_36
        refine k_top (z := ctEnd fst len c_) (by rw [ix_nI (by omega)]) ?_
        refine lv_iload hx hb dL_areCertificates_76 (lv_at hl 3 rfl) ?_
        have hge : ¬ g4 < ctEnd fst len c_ → ctEnd fst len c_ = g4 ∧ ¬ nI c_ ≤ g5 := by
          rw [ec]
          exact wait_ge hc (by rw [hdy]; exact nI_pos (by omega)) (by omega) hg
        refine lv_icmp_gt (tgt := 99) hx hb dL_areCertificates_78 (by decide) (fun c_78 => ?_) (fun c_78 => ?_)
        · refine lv_iconst (v := 1) hx hb dL_areCertificates_99 (by decide) ?_
          refine lv_goto (tgt := 104) hx hb dL_areCertificates_100 (by decide) ?_
          refine lv_istore_n (lv' := [(3, .int 1), (7, .int (nI c_)), (6, .int (nI k)), (5, .int g5), (4, .int g4), (2, .int (nI z)), (0, .ref h), (1, .int (nI n))]) hx hb dL_areCertificates_104 rfl hl (by decide) rfl (fun ls hl => ?_)
          refine lv_aload_n hx hb dL_areCertificates_105 rfl (lv_at hl 6 rfl) ?_
          refine lv_iload hx hb dL_areCertificates_106 (lv_at hl 1 rfl) ?_
          have hcd_108 : cdOne kc (nI c_) = 0 := (cdOne_nI (by omega) (by omega))
          refine kxO_i (n := 1) (wc := wH cy h pn a0 a1 a2 a3 a4 a5 a6 a7 a8 b0 b1 b2 b3 b4 b5 b6 b7 fs ss fd ed lm dd ce cw n iss sb fst len off ren r1_ kc pins sd dy) (As := [.int (nI c_)]) (rest := []) ⟨hx, hb, hml, hown, hts⟩ hE hA hZ hP hD hS (c_X2_lastDay l D cy hfl h pn a0 a1 a2 a3 a4 a5 a6 a7 a8 b0 b1 b2 b3 b4 b5 b6 b7 fs ss fd ed lm dd ce cw n iss sb fst len off ren r1_ kc pins sd dy (nI c_) (by first | assumption | omega)) (fun E h => absurd (show xkA E 0 from hcd_108 ▸ h) xkA_0) (fun _ => rfl) (q0 := 0) (ci := 2) rfl rfl gL_areCertificates_X2_lastDay rfl rfl rfl ⟨rfl, by decide, by decide, by decide +kernel⟩ ⟨Nat.le_of_ble_eq_true rfl, Nat.le_of_ble_eq_true rfl⟩ rfl hl.1 rfl (Nat.le_of_ble_eq_true rfl) dL_areCertificates_108 ⟨Nat.le_of_ble_eq_true rfl, Nat.le_of_ble_eq_true rfl⟩ (fun r_37 u H locs e_38 hP hD hS => ?_)
          have hP : va_P D vwCl (wH cy h pn a0 a1 a2 a3 a4 a5 a6 a7 a8 b0 b1 b2 b3 b4 b5 b6 b7 fs ss fd ed lm dd ce cw n iss sb fst len off ren r1_ kc pins sd dy) H := hP
          have hD : va_D A (wH cy h pn a0 a1 a2 a3 a4 a5 a6 a7 a8 b0 b1 b2 b3 b4 b5 b6 b7 fs ss fd ed lm dd ce cw n iss sb fst len off ren r1_ kc pins sd dy) := hD
          replace e_38 := e_38.1
          have e_38 : r_37 = ctEnd fst len (ix (nI c_)) := e_38
          subst e_38
          refine k_top (z := ctEnd fst len c_) (by rw [ix_nI (by omega)]) ?_
          refine lv_istore (lv' := [(4, .int (ctEnd fst len c_)), (3, .int 1), (7, .int (nI c_)), (6, .int (nI k)), (5, .int g5), (2, .int (nI z)), (0, .ref h), (1, .int (nI n))]) hx hb dL_areCertificates_111 hl (by decide) rfl (fun ls hl => ?_)
          refine lv_iload hx hb dL_areCertificates_113 (lv_at hl 2 rfl) ?_
          refine lv_istore (lv' := [(5, .int (nI c_)), (4, .int (ctEnd fst len c_)), (3, .int 1), (7, .int (nI c_)), (6, .int (nI k)), (2, .int (nI z)), (0, .ref h), (1, .int (nI n))]) hx hb dL_areCertificates_115 hl (by decide) rfl (fun ls hl => ?_)
          refine lv_iinc (v := (nI (k + 1))) (lv' := [(6, .int (nI (k + 1))), (5, .int (nI c_)), (4, .int (ctEnd fst len c_)), (3, .int 1), (7, .int (nI c_)), (2, .int (nI z)), (0, .ref h), (1, .int (nI n))]) hx hb dL_areCertificates_117 hl (k := 4) rfl (k_inc _) (by decide) rfl (fun ls hl => ?_)
          refine lv_goto (tgt := 16) hx hb dL_areCertificates_120 (by decide) ?_
          exact ih_16 (k + 1) (ctEnd fst len c_) (nI c_) r1_ _ _ ls (by omega) (by omega) (Or.inr ⟨Nat.succ_pos _, by rw [Nat.add_sub_cancel, ← ec], by rw [Nat.add_sub_cancel, ← ec]⟩) hP hD hS (lv_sub hl [0, 1, 2, 3, 5, 6, 7] rfl)
        · refine lv_aload_n hx hb dL_areCertificates_81 rfl (lv_at hl 6 rfl) ?_
          refine lv_iload hx hb dL_areCertificates_82 (lv_at hl 0 rfl) ?_
          have hcd_84 : cdOne kc (nI c_) = 0 := (cdOne_nI (by omega) (by omega))
          refine kxO_i (n := 1) (wc := wH cy h pn a0 a1 a2 a3 a4 a5 a6 a7 a8 b0 b1 b2 b3 b4 b5 b6 b7 fs ss fd ed lm dd ce cw n iss sb fst len off ren r1_ kc pins sd dy) (As := [.int (nI c_)]) (rest := []) ⟨hx, hb, hml, hown, hts⟩ hE hA hZ hP hD hS (c_X2_lastDay l D cy hfl h pn a0 a1 a2 a3 a4 a5 a6 a7 a8 b0 b1 b2 b3 b4 b5 b6 b7 fs ss fd ed lm dd ce cw n iss sb fst len off ren r1_ kc pins sd dy (nI c_) (by first | assumption | omega)) (fun E h => absurd (show xkA E 0 from hcd_84 ▸ h) xkA_0) (fun _ => rfl) (q0 := 0) (ci := 2) rfl rfl gL_areCertificates_X2_lastDay rfl rfl rfl ⟨rfl, by decide, by decide, by decide +kernel⟩ ⟨Nat.le_of_ble_eq_true rfl, Nat.le_of_ble_eq_true rfl⟩ rfl hl.1 rfl (Nat.le_of_ble_eq_true rfl) dL_areCertificates_84 ⟨Nat.le_of_ble_eq_true rfl, Nat.le_of_ble_eq_true rfl⟩ (fun r_39 u H locs e_40 hP hD hS => ?_)
          have hP : va_P D vwCl (wH cy h pn a0 a1 a2 a3 a4 a5 a6 a7 a8 b0 b1 b2 b3 b4 b5 b6 b7 fs ss fd ed lm dd ce cw n iss sb fst len off ren r1_ kc pins sd dy) H := hP
          have hD : va_D A (wH cy h pn a0 a1 a2 a3 a4 a5 a6 a7 a8 b0 b1 b2 b3 b4 b5 b6 b7 fs ss fd ed lm dd ce cw n iss sb fst len off ren r1_ kc pins sd dy) := hD
          replace e_40 := e_40.1
          have e_40 : r_39 = ctEnd fst len (ix (nI c_)) := e_40
          subst e_40
          refine k_top (z := ctEnd fst len c_) (by rw [ix_nI (by omega)]) ?_
          refine lv_iload hx hb dL_areCertificates_87 (lv_at hl 3 rfl) ?_
          refine lv_icmp_ne (tgt := 103) hx hb dL_areCertificates_89 (by decide) (fun c_89 => False.elim (c_89 (hge c_78).1)) (fun c_89 => ?_)
          refine lv_iload hx hb dL_areCertificates_92 (lv_at hl 0 rfl) ?_
          refine lv_iload hx hb dL_areCertificates_94 (lv_at hl 2 rfl) ?_
          refine lv_icmp_le (tgt := 103) hx hb dL_areCertificates_96 (by decide) (fun c_96 => False.elim ((hge c_78).2 c_96)) (fun c_96 => ?_)
          refine lv_iconst (v := 1) hx hb dL_areCertificates_99 (by decide) ?_
          refine lv_goto (tgt := 104) hx hb dL_areCertificates_100 (by decide) ?_
          refine lv_istore_n (lv' := [(3, .int 1), (7, .int (nI c_)), (6, .int (nI k)), (5, .int g5), (4, .int g4), (2, .int (nI z)), (0, .ref h), (1, .int (nI n))]) hx hb dL_areCertificates_104 rfl hl (by decide) rfl (fun ls hl => ?_)
          refine lv_aload_n hx hb dL_areCertificates_105 rfl (lv_at hl 6 rfl) ?_
          refine lv_iload hx hb dL_areCertificates_106 (lv_at hl 1 rfl) ?_
          have hcd_108 : cdOne kc (nI c_) = 0 := (cdOne_nI (by omega) (by omega))
          refine kxO_i (n := 1) (wc := wH cy h pn a0 a1 a2 a3 a4 a5 a6 a7 a8 b0 b1 b2 b3 b4 b5 b6 b7 fs ss fd ed lm dd ce cw n iss sb fst len off ren r1_ kc pins sd dy) (As := [.int (nI c_)]) (rest := []) ⟨hx, hb, hml, hown, hts⟩ hE hA hZ hP hD hS (c_X2_lastDay l D cy hfl h pn a0 a1 a2 a3 a4 a5 a6 a7 a8 b0 b1 b2 b3 b4 b5 b6 b7 fs ss fd ed lm dd ce cw n iss sb fst len off ren r1_ kc pins sd dy (nI c_) (by first | assumption | omega)) (fun E h => absurd (show xkA E 0 from hcd_108 ▸ h) xkA_0) (fun _ => rfl) (q0 := 0) (ci := 2) rfl rfl gL_areCertificates_X2_lastDay rfl rfl rfl ⟨rfl, by decide, by decide, by decide +kernel⟩ ⟨Nat.le_of_ble_eq_true rfl, Nat.le_of_ble_eq_true rfl⟩ rfl hl.1 rfl (Nat.le_of_ble_eq_true rfl) dL_areCertificates_108 ⟨Nat.le_of_ble_eq_true rfl, Nat.le_of_ble_eq_true rfl⟩ (fun r_41 u H locs e_42 hP hD hS => ?_)
          have hP : va_P D vwCl (wH cy h pn a0 a1 a2 a3 a4 a5 a6 a7 a8 b0 b1 b2 b3 b4 b5 b6 b7 fs ss fd ed lm dd ce cw n iss sb fst len off ren r1_ kc pins sd dy) H := hP
          have hD : va_D A (wH cy h pn a0 a1 a2 a3 a4 a5 a6 a7 a8 b0 b1 b2 b3 b4 b5 b6 b7 fs ss fd ed lm dd ce cw n iss sb fst len off ren r1_ kc pins sd dy) := hD
          replace e_42 := e_42.1
          have e_42 : r_41 = ctEnd fst len (ix (nI c_)) := e_42
          subst e_42
          refine k_top (z := ctEnd fst len c_) (by rw [ix_nI (by omega)]) ?_
          refine lv_istore (lv' := [(4, .int (ctEnd fst len c_)), (3, .int 1), (7, .int (nI c_)), (6, .int (nI k)), (5, .int g5), (2, .int (nI z)), (0, .ref h), (1, .int (nI n))]) hx hb dL_areCertificates_111 hl (by decide) rfl (fun ls hl => ?_)
          refine lv_iload hx hb dL_areCertificates_113 (lv_at hl 2 rfl) ?_
          refine lv_istore (lv' := [(5, .int (nI c_)), (4, .int (ctEnd fst len c_)), (3, .int 1), (7, .int (nI c_)), (6, .int (nI k)), (2, .int (nI z)), (0, .ref h), (1, .int (nI n))]) hx hb dL_areCertificates_115 hl (by decide) rfl (fun ls hl => ?_)
          refine lv_iinc (v := (nI (k + 1))) (lv' := [(6, .int (nI (k + 1))), (5, .int (nI c_)), (4, .int (ctEnd fst len c_)), (3, .int 1), (7, .int (nI c_)), (2, .int (nI z)), (0, .ref h), (1, .int (nI n))]) hx hb dL_areCertificates_117 hl (k := 4) rfl (k_inc _) (by decide) rfl (fun ls hl => ?_)
          refine lv_goto (tgt := 16) hx hb dL_areCertificates_120 (by decide) ?_
          exact ih_16 (k + 1) (ctEnd fst len c_) (nI c_) r1_ _ _ ls (by omega) (by omega) (Or.inr ⟨Nat.succ_pos _, by rw [Nat.add_sub_cancel, ← ec], by rw [Nat.add_sub_cancel, ← ec]⟩) hP hD hS (lv_sub hl [0, 1, 2, 3, 5, 6, 7] rfl)
  exact L_16 ((z - 0) + 1) 0 (-1) (-1) q0_ _ _ ls (Nat.lt_succ_self _) (by omega) (Or.inl ⟨rfl, rfl⟩) hP hD hS (lv_sub hl [0, 1, 2, 3, 4, 5, 6] rfl)
