/-! The law's own methods, second half. -/
set_option maxHeartbeats 4000000 in
set_option maxRecDepth 100000 in
theorem c_L_waitingAt (l : Launch) (D : va_G) (cy : ClassId × ClassId × ClassId) (hfl : l.stackTraces = false) (h pn a0 a1 a2 a3 a4 a5 a6 a7 a8 b0 b1 b2 b3 b4 b5 b6 b7 : Nat) (fs ss fd ed lm dd ce cw : Nat → Int32) (n : Nat) (iss sb fst len off ren que : Nat → Int32) (kc : Nat) (pins : Nat → Int32) (sd dy : Int32) (p_ : Int32) (hc : kc ≤ 60) (hcd : cdOne (fqS fst len off ren dy que kc) p_ = 0) (o : Nat) (f : Nat → Int64) : kLI l D cy yL_waitingAt wsL_waitingAt (krx 7 104) [.ref h, .int p_, .ref o] (wH cy h pn a0 a1 a2 a3 a4 a5 a6 a7 a8 b0 b1 b2 b3 b4 b5 b6 b7 fs ss fd ed lm dd ce cw n iss sb fst len off ren que kc pins sd dy ++ kout cy o f) (fun r : Int32 => r = 0) (wH cy h pn a0 a1 a2 a3 a4 a5 a6 a7 a8 b0 b1 b2 b3 b4 b5 b6 b7 fs ss fd ed lm dd ce cw n iss sb fst len off ren (fqQ fst len off ren dy que kc) kc pins sd dy ++ kout cy o (vp_updL f 0 (fqQ fst len off ren dy que kc (ix p_)).toInt64)) := by
  refine kLI.of (cc := cL_waitingAt) (maxL := 4) (hh := [(0, 9, 12, 13)]) (by decide) rfl rfl (Nat.le_of_ble_eq_true rfl) ?_
  intro p e s m args below meth c Q A ls hx hb hml hown hts hE hA hP hD hl hZ htab hret
  have hS : va_S A s.heap s.heap [] := va_S.rf
  have hl : lv_has ls 4 [(0, .ref h), (1, .int p_), (2, .ref o)] := hl
  refine lv_aload_n hx hb dL_waitingAt_0 rfl (lv_at hl 2 rfl) ?_
  refine lv_iconst (v := 0) hx hb dL_waitingAt_1 (by decide) ?_
  refine lv_aload_n hx hb dL_waitingAt_2 rfl (lv_at hl 0 rfl) ?_
  refine lv_iload_n hx hb dL_waitingAt_3 rfl (lv_at hl 1 rfl) ?_
  refine kxV_i (n := 1) (X := []) (wc := wH cy h pn a0 a1 a2 a3 a4 a5 a6 a7 a8 b0 b1 b2 b3 b4 b5 b6 b7 fs ss fd ed lm dd ce cw n iss sb fst len off ren que kc pins sd dy) (Y := kout cy o f) (As := [.int p_]) (rest := [.int 0, .ref o]) ⟨hx, hb, hml, hown, hts⟩ hE hA hZ hP hD hS (c_X2_waitingAt l D cy hfl h pn a0 a1 a2 a3 a4 a5 a6 a7 a8 b0 b1 b2 b3 b4 b5 b6 b7 fs ss fd ed lm dd ce cw n iss sb fst len off ren que kc pins sd dy p_ hc) (fun _ => Eq.trans (b := [h, a0, a1, a2, a3, a4, a5, a6, a7, a8, b0, b1, b2, b3, b4, b5, b6, b7, pn]) rfl rfl) (q0 := 0) (ci := 2) rfl rfl gL_waitingAt_X2_waitingAt rfl rfl rfl ⟨rfl, by decide, by decide, by decide +kernel⟩ ⟨Nat.le_of_ble_eq_true rfl, Nat.le_of_ble_eq_true rfl⟩ rfl hl.1 rfl (Nat.le_of_ble_eq_true rfl) dL_waitingAt_4 ⟨Nat.le_of_ble_eq_true rfl, Nat.le_of_ble_eq_true rfl⟩ (fun E ce q9 H locs hpx hP hS h1 h2 h3 => ?_) (fun r u H locs hp hP hD hS => ?_)
  · exact absurd (show xkA E 0 from hcd ▸ hpx) xkA_0
  · obtain ⟨rfl, -⟩ := hp
    refine lv_i2l hx hb dL_waitingAt_7 rfl ?_
    refine va_last (i := 0) (f := f) hx hb hE.1 hP hD hS 19 2 (a := o) rfl rfl k_in0 dL_waitingAt_8 (fun H locs hP hD hS => ?_)
    refine lv_goto (tgt := 15) hx hb dL_waitingAt_9 (by decide) ?_
    refine lv_iconst (v := 0) hx hb dL_waitingAt_15 (by decide) ?_
    exact hret H locs 16 _ 0 _ _ dL_waitingAt_16 (by decide) (by decide) rfl hP hS
set_option maxHeartbeats 4000000 in
set_option maxRecDepth 100000 in
theorem c_L_waitingAt_f (l : Launch) (D : va_G) (cy : ClassId × ClassId × ClassId) (hfl : l.stackTraces = false) (h pn a0 a1 a2 a3 a4 a5 a6 a7 a8 b0 b1 b2 b3 b4 b5 b6 b7 : Nat) (fs ss fd ed lm dd ce cw : Nat → Int32) (n : Nat) (iss sb fst len off ren que : Nat → Int32) (kc : Nat) (pins : Nat → Int32) (sd dy : Int32) (p_ : Int32) (hc : kc ≤ 60) (hcd : ¬ cdOne (fqS fst len off ren dy que kc) p_ = 0) (o : Nat) (f : Nat → Int64) : kLI l D cy yL_waitingAt wsL_waitingAt (krx 7 104) [.ref h, .int p_, .ref o] (wH cy h pn a0 a1 a2 a3 a4 a5 a6 a7 a8 b0 b1 b2 b3 b4 b5 b6 b7 fs ss fd ed lm dd ce cw n iss sb fst len off ren que kc pins sd dy ++ kout cy o f) (fun r : Int32 => r = cdOne (fqS fst len off ren dy que kc) p_) (wH cy h pn a0 a1 a2 a3 a4 a5 a6 a7 a8 b0 b1 b2 b3 b4 b5 b6 b7 fs ss fd ed lm dd ce cw n iss sb fst len off ren (fqQ fst len off ren dy que kc) kc pins sd dy ++ kout cy o f) := by
  refine kLI.of (cc := cL_waitingAt) (maxL := 4) (hh := [(0, 9, 12, 13)]) (by decide) rfl rfl (Nat.le_of_ble_eq_true rfl) ?_
  intro p e s m args below meth c Q A ls hx hb hml hown hts hE hA hP hD hl hZ htab hret
  have hS : va_S A s.heap s.heap [] := va_S.rf
  have hl : lv_has ls 4 [(0, .ref h), (1, .int p_), (2, .ref o)] := hl
  have k_13 : (Cond.classLink RL 13 xIX).before args s = true := hts _ (List.mem_of_getElem? (i := 1) rfl)
  refine lv_aload_n hx hb dL_waitingAt_0 rfl (lv_at hl 2 rfl) ?_
  refine lv_iconst (v := 0) hx hb dL_waitingAt_1 (by decide) ?_
  refine lv_aload_n hx hb dL_waitingAt_2 rfl (lv_at hl 0 rfl) ?_
  refine lv_iload_n hx hb dL_waitingAt_3 rfl (lv_at hl 1 rfl) ?_
  refine kxV_i (n := 1) (X := []) (wc := wH cy h pn a0 a1 a2 a3 a4 a5 a6 a7 a8 b0 b1 b2 b3 b4 b5 b6 b7 fs ss fd ed lm dd ce cw n iss sb fst len off ren que kc pins sd dy) (Y := kout cy o f) (As := [.int p_]) (rest := [.int 0, .ref o]) ⟨hx, hb, hml, hown, hts⟩ hE hA hZ hP hD hS (c_X2_waitingAt l D cy hfl h pn a0 a1 a2 a3 a4 a5 a6 a7 a8 b0 b1 b2 b3 b4 b5 b6 b7 fs ss fd ed lm dd ce cw n iss sb fst len off ren que kc pins sd dy p_ hc) (fun _ => Eq.trans (b := [h, a0, a1, a2, a3, a4, a5, a6, a7, a8, b0, b1, b2, b3, b4, b5, b6, b7, pn]) rfl rfl) (q0 := 0) (ci := 2) rfl rfl gL_waitingAt_X2_waitingAt rfl rfl rfl ⟨rfl, by decide, by decide, by decide +kernel⟩ ⟨Nat.le_of_ble_eq_true rfl, Nat.le_of_ble_eq_true rfl⟩ rfl hl.1 rfl (Nat.le_of_ble_eq_true rfl) dL_waitingAt_4 ⟨Nat.le_of_ble_eq_true rfl, Nat.le_of_ble_eq_true rfl⟩ (fun E ce q9 H locs hpx hP hS h1 h2 h3 => ?_) (fun r u H locs hp hP hD hS => ?_)
  · rcases hpx with ⟨rfl, hk⟩ | ⟨rfl, hk⟩ | ⟨rfl, hk⟩
    · refine vx_catch (name := xIX) hown [] ⟨0, 9, 12, 13⟩ [] htab (fun z hz => absurd hz List.not_mem_nil) (by decide) (by decide) k_13 (kl_cast hE (by decide)) h1 h2 h3 ?_
      refine lv_astore_n (lv' := [(3, .ref q9), (0, .ref h), (1, .int p_), (2, .ref o)]) hx hb dL_waitingAt_12 rfl hl (by decide) rfl (fun ls hl => ?_)
      refine lv_iconst (v := 1) hx hb dL_waitingAt_13 (by decide) ?_
      exact hret H locs 14 _ 1 _ _ dL_waitingAt_14 (by decide) (by decide) hk.symm hP hS
    · exact absurd hk cdOne_12.1
    · exact absurd hk cdOne_12.2
  · exact absurd hp.2 hcd
set_option maxHeartbeats 4000000 in
set_option maxRecDepth 100000 in
theorem c_L_room (l : Launch) (D : va_G) (cy : ClassId × ClassId × ClassId) (hfl : l.stackTraces = false) (h pn a0 a1 a2 a3 a4 a5 a6 a7 a8 b0 b1 b2 b3 b4 b5 b6 b7 : Nat) (fs ss fd ed lm dd ce cw : Nat → Int32) (n : Nat) (iss sb fst len off ren que : Nat → Int32) (kc : Nat) (pins : Nat → Int32) (sd dy : Int32) (i_ : Int32) (hn : n ≤ 8) (hc : kc ≤ 60) (hcd : cdOne n i_ = 0) (o : Nat) (f : Nat → Int64) : kLI l D cy yL_room wsL_room (krx 8 124) [.ref h, .int i_, .ref o] (wH cy h pn a0 a1 a2 a3 a4 a5 a6 a7 a8 b0 b1 b2 b3 b4 b5 b6 b7 fs ss fd ed lm dd ce cw n iss sb fst len off ren que kc pins sd dy ++ kout cy o f) (fun r : Int32 => r = 0) (wH cy h pn a0 a1 a2 a3 a4 a5 a6 a7 a8 b0 b1 b2 b3 b4 b5 b6 b7 fs ss fd ed lm dd ce cw n iss sb fst len off ren que kc pins sd dy ++ kout cy o (vp_updL f 0 (lm (ix i_) - iwN iss fst (nI (ix i_)) (dy / 7) kc).toInt64)) := by
  refine kLI.of (cc := cL_room) (maxL := 4) (hh := [(0, 9, 12, 13)]) (by decide) rfl rfl (Nat.le_of_ble_eq_true rfl) ?_
  intro p e s m args below meth c Q A ls hx hb hml hown hts hE hA hP hD hl hZ htab hret
  have hS : va_S A s.heap s.heap [] := va_S.rf
  have hl : lv_has ls 4 [(0, .ref h), (1, .int i_), (2, .ref o)] := hl
  refine lv_aload_n hx hb dL_room_0 rfl (lv_at hl 2 rfl) ?_
  refine lv_iconst (v := 0) hx hb dL_room_1 (by decide) ?_
  refine lv_aload_n hx hb dL_room_2 rfl (lv_at hl 0 rfl) ?_
  refine lv_iload_n hx hb dL_room_3 rfl (lv_at hl 1 rfl) ?_
  refine kxV_i (n := 1) (X := []) (wc := wH cy h pn a0 a1 a2 a3 a4 a5 a6 a7 a8 b0 b1 b2 b3 b4 b5 b6 b7 fs ss fd ed lm dd ce cw n iss sb fst len off ren que kc pins sd dy) (Y := kout cy o f) (As := [.int i_]) (rest := [.int 0, .ref o]) ⟨hx, hb, hml, hown, hts⟩ hE hA hZ hP hD hS (c_X2_room l D cy hfl h pn a0 a1 a2 a3 a4 a5 a6 a7 a8 b0 b1 b2 b3 b4 b5 b6 b7 fs ss fd ed lm dd ce cw n iss sb fst len off ren que kc pins sd dy i_ hn hc) (fun _ => Eq.trans (b := [h, a0, a1, a2, a3, a4, a5, a6, a7, a8, b0, b1, b2, b3, b4, b5, b6, b7, pn]) rfl rfl) (q0 := 0) (ci := 2) rfl rfl gL_room_X2_room rfl rfl rfl ⟨rfl, by decide, by decide, by decide +kernel⟩ ⟨Nat.le_of_ble_eq_true rfl, Nat.le_of_ble_eq_true rfl⟩ rfl hl.1 rfl (Nat.le_of_ble_eq_true rfl) dL_room_4 ⟨Nat.le_of_ble_eq_true rfl, Nat.le_of_ble_eq_true rfl⟩ (fun E ce q9 H locs hpx hP hS h1 h2 h3 => ?_) (fun r u H locs hp hP hD hS => ?_)
  · exact absurd (show xkA E 0 from hcd ▸ hpx) xkA_0
  · obtain ⟨rfl, -⟩ := hp
    refine lv_i2l hx hb dL_room_7 rfl ?_
    refine va_last (i := 0) (f := f) hx hb hE.1 hP hD hS 19 2 (a := o) rfl rfl k_in0 dL_room_8 (fun H locs hP hD hS => ?_)
    refine lv_goto (tgt := 15) hx hb dL_room_9 (by decide) ?_
    refine lv_iconst (v := 0) hx hb dL_room_15 (by decide) ?_
    exact hret H locs 16 _ 0 _ _ dL_room_16 (by decide) (by decide) rfl hP hS
set_option maxHeartbeats 4000000 in
set_option maxRecDepth 100000 in
theorem c_L_room_f (l : Launch) (D : va_G) (cy : ClassId × ClassId × ClassId) (hfl : l.stackTraces = false) (h pn a0 a1 a2 a3 a4 a5 a6 a7 a8 b0 b1 b2 b3 b4 b5 b6 b7 : Nat) (fs ss fd ed lm dd ce cw : Nat → Int32) (n : Nat) (iss sb fst len off ren que : Nat → Int32) (kc : Nat) (pins : Nat → Int32) (sd dy : Int32) (i_ : Int32) (hn : n ≤ 8) (hc : kc ≤ 60) (hcd : ¬ cdOne n i_ = 0) (o : Nat) (f : Nat → Int64) : kLI l D cy yL_room wsL_room (krx 8 124) [.ref h, .int i_, .ref o] (wH cy h pn a0 a1 a2 a3 a4 a5 a6 a7 a8 b0 b1 b2 b3 b4 b5 b6 b7 fs ss fd ed lm dd ce cw n iss sb fst len off ren que kc pins sd dy ++ kout cy o f) (fun r : Int32 => r = cdOne n i_) (wH cy h pn a0 a1 a2 a3 a4 a5 a6 a7 a8 b0 b1 b2 b3 b4 b5 b6 b7 fs ss fd ed lm dd ce cw n iss sb fst len off ren que kc pins sd dy ++ kout cy o f) := by
  refine kLI.of (cc := cL_room) (maxL := 4) (hh := [(0, 9, 12, 13)]) (by decide) rfl rfl (Nat.le_of_ble_eq_true rfl) ?_
  intro p e s m args below meth c Q A ls hx hb hml hown hts hE hA hP hD hl hZ htab hret
  have hS : va_S A s.heap s.heap [] := va_S.rf
  have hl : lv_has ls 4 [(0, .ref h), (1, .int i_), (2, .ref o)] := hl
  have k_13 : (Cond.classLink RL 13 xIX).before args s = true := hts _ (List.mem_of_getElem? (i := 1) rfl)
  refine lv_aload_n hx hb dL_room_0 rfl (lv_at hl 2 rfl) ?_
  refine lv_iconst (v := 0) hx hb dL_room_1 (by decide) ?_
  refine lv_aload_n hx hb dL_room_2 rfl (lv_at hl 0 rfl) ?_
  refine lv_iload_n hx hb dL_room_3 rfl (lv_at hl 1 rfl) ?_
  refine kxV_i (n := 1) (X := []) (wc := wH cy h pn a0 a1 a2 a3 a4 a5 a6 a7 a8 b0 b1 b2 b3 b4 b5 b6 b7 fs ss fd ed lm dd ce cw n iss sb fst len off ren que kc pins sd dy) (Y := kout cy o f) (As := [.int i_]) (rest := [.int 0, .ref o]) ⟨hx, hb, hml, hown, hts⟩ hE hA hZ hP hD hS (c_X2_room l D cy hfl h pn a0 a1 a2 a3 a4 a5 a6 a7 a8 b0 b1 b2 b3 b4 b5 b6 b7 fs ss fd ed lm dd ce cw n iss sb fst len off ren que kc pins sd dy i_ hn hc) (fun _ => Eq.trans (b := [h, a0, a1, a2, a3, a4, a5, a6, a7, a8, b0, b1, b2, b3, b4, b5, b6, b7, pn]) rfl rfl) (q0 := 0) (ci := 2) rfl rfl gL_room_X2_room rfl rfl rfl ⟨rfl, by decide, by decide, by decide +kernel⟩ ⟨Nat.le_of_ble_eq_true rfl, Nat.le_of_ble_eq_true rfl⟩ rfl hl.1 rfl (Nat.le_of_ble_eq_true rfl) dL_room_4 ⟨Nat.le_of_ble_eq_true rfl, Nat.le_of_ble_eq_true rfl⟩ (fun E ce q9 H locs hpx hP hS h1 h2 h3 => ?_) (fun r u H locs hp hP hD hS => ?_)
  · rcases hpx with ⟨rfl, hk⟩ | ⟨rfl, hk⟩ | ⟨rfl, hk⟩
    · refine vx_catch (name := xIX) hown [] ⟨0, 9, 12, 13⟩ [] htab (fun z hz => absurd hz List.not_mem_nil) (by decide) (by decide) k_13 (kl_cast hE (by decide)) h1 h2 h3 ?_
      refine lv_astore_n (lv' := [(3, .ref q9), (0, .ref h), (1, .int i_), (2, .ref o)]) hx hb dL_room_12 rfl hl (by decide) rfl (fun ls hl => ?_)
      refine lv_iconst (v := 1) hx hb dL_room_13 (by decide) ?_
      exact hret H locs 14 _ 1 _ _ dL_room_14 (by decide) (by decide) hk.symm hP hS
    · exact absurd hk cdOne_12.1
    · exact absurd hk cdOne_12.2
  · exact absurd hp.2 hcd
set_option maxHeartbeats 4000000 in
set_option maxRecDepth 100000 in
theorem c_L_isGood (l : Launch) (D : va_G) (cy : ClassId × ClassId × ClassId) (hfl : l.stackTraces = false) (h pn a0 a1 a2 a3 a4 a5 a6 a7 a8 b0 b1 b2 b3 b4 b5 b6 b7 : Nat) (fs ss fd ed lm dd ce cw : Nat → Int32) (n : Nat) (iss sb fst len off ren que : Nat → Int32) (kc : Nat) (pins : Nat → Int32) (sd dy : Int32) (i_ : Int32) (d_ : Int32) (hn : n ≤ 8) (hcd : cdID n i_ d_ = 0) (o : Nat) (f : Nat → Int64) : kLI l D cy yL_isGood wsL_isGood (krx 8 125) [.ref h, .int i_, .int d_, .ref o] (wH cy h pn a0 a1 a2 a3 a4 a5 a6 a7 a8 b0 b1 b2 b3 b4 b5 b6 b7 fs ss fd ed lm dd ce cw n iss sb fst len off ren que kc pins sd dy ++ kout cy o f) (fun r : Int32 => r = 0) (wH cy h pn a0 a1 a2 a3 a4 a5 a6 a7 a8 b0 b1 b2 b3 b4 b5 b6 b7 fs ss fd ed lm dd ce cw n iss sb fst len off ren que kc pins sd dy ++ kout cy o (vp_updL f 0 (bI (hasB (goodM fs ss fd ed dd d_ (-1) n) i_)).toInt64)) := by
  refine kLI.of (cc := cL_isGood) (maxL := 5) (hh := [(0, 17, 20, 13), (0, 17, 24, 15)]) (by decide) rfl rfl (Nat.le_of_ble_eq_true rfl) ?_
  intro p e s m args below meth c Q A ls hx hb hml hown hts hE hA hP hD hl hZ htab hret
  have hS : va_S A s.heap s.heap [] := va_S.rf
  have hl : lv_has ls 5 [(0, .ref h), (1, .int i_), (2, .int d_), (3, .ref o)] := hl
  refine lv_aload_n hx hb dL_isGood_0 rfl (lv_at hl 3 rfl) ?_
  refine lv_iconst (v := 0) hx hb dL_isGood_1 (by decide) ?_
  refine lv_aload_n hx hb dL_isGood_2 rfl (lv_at hl 0 rfl) ?_
  refine lv_iload_n hx hb dL_isGood_3 rfl (lv_at hl 1 rfl) ?_
  refine lv_iload_n hx hb dL_isGood_4 rfl (lv_at hl 2 rfl) ?_
  refine kxV_i (n := 2) (X := []) (wc := wH cy h pn a0 a1 a2 a3 a4 a5 a6 a7 a8 b0 b1 b2 b3 b4 b5 b6 b7 fs ss fd ed lm dd ce cw n iss sb fst len off ren que kc pins sd dy) (Y := kout cy o f) (As := [.int i_, .int d_]) (rest := [.int 0, .ref o]) ⟨hx, hb, hml, hown, hts⟩ hE hA hZ hP hD hS (c_X2_isGood l D cy hfl h pn a0 a1 a2 a3 a4 a5 a6 a7 a8 b0 b1 b2 b3 b4 b5 b6 b7 fs ss fd ed lm dd ce cw n iss sb fst len off ren que kc pins sd dy i_ d_ hn) (fun _ => Eq.trans (b := [h, a0, a1, a2, a3, a4, a5, a6, a7, a8, b0, b1, b2, b3, b4, b5, b6, b7, pn]) rfl rfl) (q0 := 0) (ci := 2) rfl rfl gL_isGood_X2_isGood rfl rfl rfl ⟨rfl, by decide, by decide, by decide +kernel⟩ ⟨Nat.le_of_ble_eq_true rfl, Nat.le_of_ble_eq_true rfl⟩ rfl hl.1 rfl (Nat.le_of_ble_eq_true rfl) dL_isGood_5 ⟨Nat.le_of_ble_eq_true rfl, Nat.le_of_ble_eq_true rfl⟩ (fun E ce q9 H locs hpx hP hS h1 h2 h3 => ?_) (fun r u H locs hp hP hD hS => ?_)
  · exact absurd (show xkA E 0 from hcd ▸ hpx) xkA_0
  · obtain ⟨rfl, -⟩ := hp
    refine lv_if_eq (tgt := 15) hx hb dL_isGood_8 (by decide) (fun hc => ?_) (fun hc => ?_)
    · refine lv_lconst (v := (bI (hasB (goodM fs ss fd ed dd d_ (-1) n) i_)).toInt64) hx hb dL_isGood_15 (by rw [hc]; rfl) ?_
      refine va_last (i := 0) (f := f) hx hb hE.1 hP hD hS 19 2 (a := o) rfl rfl k_in0 dL_isGood_16 (fun H locs hP hD hS => ?_)
      refine lv_goto (tgt := 28) hx hb dL_isGood_17 (by decide) ?_
      refine lv_iconst (v := 0) hx hb dL_isGood_28 (by decide) ?_
      exact hret H locs 29 _ 0 _ _ dL_isGood_29 (by decide) (by decide) rfl hP hS
    · refine lv_lconst (v := (bI (hasB (goodM fs ss fd ed dd d_ (-1) n) i_)).toInt64) hx hb dL_isGood_11 (by rw [(bI_01 _).resolve_left hc]; rfl) ?_
      refine lv_goto (tgt := 16) hx hb dL_isGood_12 (by decide) ?_
      refine va_last (i := 0) (f := f) hx hb hE.1 hP hD hS 19 2 (a := o) rfl rfl k_in0 dL_isGood_16 (fun H locs hP hD hS => ?_)
      refine lv_goto (tgt := 28) hx hb dL_isGood_17 (by decide) ?_
      refine lv_iconst (v := 0) hx hb dL_isGood_28 (by decide) ?_
      exact hret H locs 29 _ 0 _ _ dL_isGood_29 (by decide) (by decide) rfl hP hS
set_option maxHeartbeats 4000000 in
set_option maxRecDepth 100000 in
theorem c_L_isGood_f (l : Launch) (D : va_G) (cy : ClassId × ClassId × ClassId) (hfl : l.stackTraces = false) (h pn a0 a1 a2 a3 a4 a5 a6 a7 a8 b0 b1 b2 b3 b4 b5 b6 b7 : Nat) (fs ss fd ed lm dd ce cw : Nat → Int32) (n : Nat) (iss sb fst len off ren que : Nat → Int32) (kc : Nat) (pins : Nat → Int32) (sd dy : Int32) (i_ : Int32) (d_ : Int32) (hn : n ≤ 8) (hcd : ¬ cdID n i_ d_ = 0) (o : Nat) (f : Nat → Int64) : kLI l D cy yL_isGood wsL_isGood (krx 8 125) [.ref h, .int i_, .int d_, .ref o] (wH cy h pn a0 a1 a2 a3 a4 a5 a6 a7 a8 b0 b1 b2 b3 b4 b5 b6 b7 fs ss fd ed lm dd ce cw n iss sb fst len off ren que kc pins sd dy ++ kout cy o f) (fun r : Int32 => r = cdID n i_ d_) (wH cy h pn a0 a1 a2 a3 a4 a5 a6 a7 a8 b0 b1 b2 b3 b4 b5 b6 b7 fs ss fd ed lm dd ce cw n iss sb fst len off ren que kc pins sd dy ++ kout cy o f) := by
  refine kLI.of (cc := cL_isGood) (maxL := 5) (hh := [(0, 17, 20, 13), (0, 17, 24, 15)]) (by decide) rfl rfl (Nat.le_of_ble_eq_true rfl) ?_
  intro p e s m args below meth c Q A ls hx hb hml hown hts hE hA hP hD hl hZ htab hret
  have hS : va_S A s.heap s.heap [] := va_S.rf
  have hl : lv_has ls 5 [(0, .ref h), (1, .int i_), (2, .int d_), (3, .ref o)] := hl
  have k_13 : (Cond.classLink RL 13 xIX).before args s = true := hts _ (List.mem_of_getElem? (i := 1) rfl)
  have k_15 : (Cond.classLink RL 15 xIA).before args s = true := hts _ (List.mem_of_getElem? (i := 2) rfl)
  refine lv_aload_n hx hb dL_isGood_0 rfl (lv_at hl 3 rfl) ?_
  refine lv_iconst (v := 0) hx hb dL_isGood_1 (by decide) ?_
  refine lv_aload_n hx hb dL_isGood_2 rfl (lv_at hl 0 rfl) ?_
  refine lv_iload_n hx hb dL_isGood_3 rfl (lv_at hl 1 rfl) ?_
  refine lv_iload_n hx hb dL_isGood_4 rfl (lv_at hl 2 rfl) ?_
  refine kxV_i (n := 2) (X := []) (wc := wH cy h pn a0 a1 a2 a3 a4 a5 a6 a7 a8 b0 b1 b2 b3 b4 b5 b6 b7 fs ss fd ed lm dd ce cw n iss sb fst len off ren que kc pins sd dy) (Y := kout cy o f) (As := [.int i_, .int d_]) (rest := [.int 0, .ref o]) ⟨hx, hb, hml, hown, hts⟩ hE hA hZ hP hD hS (c_X2_isGood l D cy hfl h pn a0 a1 a2 a3 a4 a5 a6 a7 a8 b0 b1 b2 b3 b4 b5 b6 b7 fs ss fd ed lm dd ce cw n iss sb fst len off ren que kc pins sd dy i_ d_ hn) (fun _ => Eq.trans (b := [h, a0, a1, a2, a3, a4, a5, a6, a7, a8, b0, b1, b2, b3, b4, b5, b6, b7, pn]) rfl rfl) (q0 := 0) (ci := 2) rfl rfl gL_isGood_X2_isGood rfl rfl rfl ⟨rfl, by decide, by decide, by decide +kernel⟩ ⟨Nat.le_of_ble_eq_true rfl, Nat.le_of_ble_eq_true rfl⟩ rfl hl.1 rfl (Nat.le_of_ble_eq_true rfl) dL_isGood_5 ⟨Nat.le_of_ble_eq_true rfl, Nat.le_of_ble_eq_true rfl⟩ (fun E ce q9 H locs hpx hP hS h1 h2 h3 => ?_) (fun r u H locs hp hP hD hS => ?_)
  · rcases hpx with ⟨rfl, hk⟩ | ⟨rfl, hk⟩ | ⟨rfl, hk⟩
    · refine vx_catch (name := xIX) hown [] ⟨0, 17, 20, 13⟩ [⟨0, 17, 24, 15⟩] htab (fun z hz => absurd hz List.not_mem_nil) (by decide) (by decide) k_13 (kl_cast hE (by decide)) h1 h2 h3 ?_
      refine lv_astore (lv' := [(4, .ref q9), (0, .ref h), (1, .int i_), (2, .int d_), (3, .ref o)]) hx hb dL_isGood_20 hl (by decide) rfl (fun ls hl => ?_)
      refine lv_iconst (v := 1) hx hb dL_isGood_22 (by decide) ?_
      exact hret H locs 23 _ 1 _ _ dL_isGood_23 (by decide) (by decide) hk.symm hP hS
    · refine vx_catch (name := xIA) hown [⟨0, 17, 20, 13⟩] ⟨0, 17, 24, 15⟩ [] htab (List.forall_mem_cons.mpr ⟨Or.inr ⟨by decide, xIX, k_13, kl_nc1 hE⟩, fun z hz => absurd hz List.not_mem_nil⟩) (by decide) (by decide) k_15 (kl_cast hE (by decide)) h1 h2 h3 ?_
      refine lv_astore (lv' := [(4, .ref q9), (0, .ref h), (1, .int i_), (2, .int d_), (3, .ref o)]) hx hb dL_isGood_24 hl (by decide) rfl (fun ls hl => ?_)
      refine lv_iconst (v := 2) hx hb dL_isGood_26 (by decide) ?_
      exact hret H locs 27 _ 2 _ _ dL_isGood_27 (by decide) (by decide) hk.symm hP hS
    · exact absurd hk cdID_3
  · exact absurd hp.2 hcd
set_option maxHeartbeats 4000000 in
set_option maxRecDepth 100000 in
theorem c_L_chainEnd (l : Launch) (D : va_G) (cy : ClassId × ClassId × ClassId) (hfl : l.stackTraces = false) (h pn a0 a1 a2 a3 a4 a5 a6 a7 a8 b0 b1 b2 b3 b4 b5 b6 b7 : Nat) (fs ss fd ed lm dd ce cw : Nat → Int32) (n : Nat) (iss sb fst len off ren que : Nat → Int32) (kc : Nat) (pins : Nat → Int32) (sd dy : Int32) (i_ : Int32) (hn : n ≤ 8) (hcd : cdOne n i_ = 0) (o : Nat) (f : Nat → Int64) : kLI l D cy yL_chainEnd wsL_chainEnd (krx 8 124) [.ref h, .int i_, .ref o] (wH cy h pn a0 a1 a2 a3 a4 a5 a6 a7 a8 b0 b1 b2 b3 b4 b5 b6 b7 fs ss fd ed lm dd ce cw n iss sb fst len off ren que kc pins sd dy ++ kout cy o f) (fun r : Int32 => r = 0) (wH cy h pn a0 a1 a2 a3 a4 a5 a6 a7 a8 b0 b1 b2 b3 b4 b5 b6 b7 fs ss fd ed lm dd ce cw n iss sb fst len off ren que kc pins sd dy ++ kout cy o (vp_updL f 0 (ce (ix i_)).toInt64)) := by
  refine kLI.of (cc := cL_chainEnd) (maxL := 4) (hh := [(0, 9, 12, 13)]) (by decide) rfl rfl (Nat.le_of_ble_eq_true rfl) ?_
  intro p e s m args below meth c Q A ls hx hb hml hown hts hE hA hP hD hl hZ htab hret
  have hS : va_S A s.heap s.heap [] := va_S.rf
  have hl : lv_has ls 4 [(0, .ref h), (1, .int i_), (2, .ref o)] := hl
  refine lv_aload_n hx hb dL_chainEnd_0 rfl (lv_at hl 2 rfl) ?_
  refine lv_iconst (v := 0) hx hb dL_chainEnd_1 (by decide) ?_
  refine lv_aload_n hx hb dL_chainEnd_2 rfl (lv_at hl 0 rfl) ?_
  refine lv_iload_n hx hb dL_chainEnd_3 rfl (lv_at hl 1 rfl) ?_
  refine kxV_i (n := 1) (X := []) (wc := wH cy h pn a0 a1 a2 a3 a4 a5 a6 a7 a8 b0 b1 b2 b3 b4 b5 b6 b7 fs ss fd ed lm dd ce cw n iss sb fst len off ren que kc pins sd dy) (Y := kout cy o f) (As := [.int i_]) (rest := [.int 0, .ref o]) ⟨hx, hb, hml, hown, hts⟩ hE hA hZ hP hD hS (c_X2_chainEnd l D cy hfl h pn a0 a1 a2 a3 a4 a5 a6 a7 a8 b0 b1 b2 b3 b4 b5 b6 b7 fs ss fd ed lm dd ce cw n iss sb fst len off ren que kc pins sd dy i_ hn) (fun _ => Eq.trans (b := [h, a0, a1, a2, a3, a4, a5, a6, a7, a8, b0, b1, b2, b3, b4, b5, b6, b7, pn]) rfl rfl) (q0 := 0) (ci := 2) rfl rfl gL_chainEnd_X2_chainEnd rfl rfl rfl ⟨rfl, by decide, by decide, by decide +kernel⟩ ⟨Nat.le_of_ble_eq_true rfl, Nat.le_of_ble_eq_true rfl⟩ rfl hl.1 rfl (Nat.le_of_ble_eq_true rfl) dL_chainEnd_4 ⟨Nat.le_of_ble_eq_true rfl, Nat.le_of_ble_eq_true rfl⟩ (fun E ce q9 H locs hpx hP hS h1 h2 h3 => ?_) (fun r u H locs hp hP hD hS => ?_)
  · exact absurd (show xkA E 0 from hcd ▸ hpx) xkA_0
  · obtain ⟨rfl, -⟩ := hp
    refine lv_i2l hx hb dL_chainEnd_7 rfl ?_
    refine va_last (i := 0) (f := f) hx hb hE.1 hP hD hS 19 2 (a := o) rfl rfl k_in0 dL_chainEnd_8 (fun H locs hP hD hS => ?_)
    refine lv_goto (tgt := 15) hx hb dL_chainEnd_9 (by decide) ?_
    refine lv_iconst (v := 0) hx hb dL_chainEnd_15 (by decide) ?_
    exact hret H locs 16 _ 0 _ _ dL_chainEnd_16 (by decide) (by decide) rfl hP hS
set_option maxHeartbeats 4000000 in
set_option maxRecDepth 100000 in
theorem c_L_chainEnd_f (l : Launch) (D : va_G) (cy : ClassId × ClassId × ClassId) (hfl : l.stackTraces = false) (h pn a0 a1 a2 a3 a4 a5 a6 a7 a8 b0 b1 b2 b3 b4 b5 b6 b7 : Nat) (fs ss fd ed lm dd ce cw : Nat → Int32) (n : Nat) (iss sb fst len off ren que : Nat → Int32) (kc : Nat) (pins : Nat → Int32) (sd dy : Int32) (i_ : Int32) (hn : n ≤ 8) (hcd : ¬ cdOne n i_ = 0) (o : Nat) (f : Nat → Int64) : kLI l D cy yL_chainEnd wsL_chainEnd (krx 8 124) [.ref h, .int i_, .ref o] (wH cy h pn a0 a1 a2 a3 a4 a5 a6 a7 a8 b0 b1 b2 b3 b4 b5 b6 b7 fs ss fd ed lm dd ce cw n iss sb fst len off ren que kc pins sd dy ++ kout cy o f) (fun r : Int32 => r = cdOne n i_) (wH cy h pn a0 a1 a2 a3 a4 a5 a6 a7 a8 b0 b1 b2 b3 b4 b5 b6 b7 fs ss fd ed lm dd ce cw n iss sb fst len off ren que kc pins sd dy ++ kout cy o f) := by
  refine kLI.of (cc := cL_chainEnd) (maxL := 4) (hh := [(0, 9, 12, 13)]) (by decide) rfl rfl (Nat.le_of_ble_eq_true rfl) ?_
  intro p e s m args below meth c Q A ls hx hb hml hown hts hE hA hP hD hl hZ htab hret
  have hS : va_S A s.heap s.heap [] := va_S.rf
  have hl : lv_has ls 4 [(0, .ref h), (1, .int i_), (2, .ref o)] := hl
  have k_13 : (Cond.classLink RL 13 xIX).before args s = true := hts _ (List.mem_of_getElem? (i := 1) rfl)
  refine lv_aload_n hx hb dL_chainEnd_0 rfl (lv_at hl 2 rfl) ?_
  refine lv_iconst (v := 0) hx hb dL_chainEnd_1 (by decide) ?_
  refine lv_aload_n hx hb dL_chainEnd_2 rfl (lv_at hl 0 rfl) ?_
  refine lv_iload_n hx hb dL_chainEnd_3 rfl (lv_at hl 1 rfl) ?_
  refine kxV_i (n := 1) (X := []) (wc := wH cy h pn a0 a1 a2 a3 a4 a5 a6 a7 a8 b0 b1 b2 b3 b4 b5 b6 b7 fs ss fd ed lm dd ce cw n iss sb fst len off ren que kc pins sd dy) (Y := kout cy o f) (As := [.int i_]) (rest := [.int 0, .ref o]) ⟨hx, hb, hml, hown, hts⟩ hE hA hZ hP hD hS (c_X2_chainEnd l D cy hfl h pn a0 a1 a2 a3 a4 a5 a6 a7 a8 b0 b1 b2 b3 b4 b5 b6 b7 fs ss fd ed lm dd ce cw n iss sb fst len off ren que kc pins sd dy i_ hn) (fun _ => Eq.trans (b := [h, a0, a1, a2, a3, a4, a5, a6, a7, a8, b0, b1, b2, b3, b4, b5, b6, b7, pn]) rfl rfl) (q0 := 0) (ci := 2) rfl rfl gL_chainEnd_X2_chainEnd rfl rfl rfl ⟨rfl, by decide, by decide, by decide +kernel⟩ ⟨Nat.le_of_ble_eq_true rfl, Nat.le_of_ble_eq_true rfl⟩ rfl hl.1 rfl (Nat.le_of_ble_eq_true rfl) dL_chainEnd_4 ⟨Nat.le_of_ble_eq_true rfl, Nat.le_of_ble_eq_true rfl⟩ (fun E ce q9 H locs hpx hP hS h1 h2 h3 => ?_) (fun r u H locs hp hP hD hS => ?_)
  · rcases hpx with ⟨rfl, hk⟩ | ⟨rfl, hk⟩ | ⟨rfl, hk⟩
    · refine vx_catch (name := xIX) hown [] ⟨0, 9, 12, 13⟩ [] htab (fun z hz => absurd hz List.not_mem_nil) (by decide) (by decide) k_13 (kl_cast hE (by decide)) h1 h2 h3 ?_
      refine lv_astore_n (lv' := [(3, .ref q9), (0, .ref h), (1, .int i_), (2, .ref o)]) hx hb dL_chainEnd_12 rfl hl (by decide) rfl (fun ls hl => ?_)
      refine lv_iconst (v := 1) hx hb dL_chainEnd_13 (by decide) ?_
      exact hret H locs 14 _ 1 _ _ dL_chainEnd_14 (by decide) (by decide) hk.symm hP hS
    · exact absurd hk cdOne_12.1
    · exact absurd hk cdOne_12.2
  · exact absurd hp.2 hcd
set_option maxHeartbeats 4000000 in
set_option maxRecDepth 100000 in
theorem c_L_chains (l : Launch) (D : va_G) (cy : ClassId × ClassId × ClassId) (hfl : l.stackTraces = false) (h pn a0 a1 a2 a3 a4 a5 a6 a7 a8 b0 b1 b2 b3 b4 b5 b6 b7 : Nat) (fs ss fd ed lm dd ce cw : Nat → Int32) (n : Nat) (iss sb fst len off ren que : Nat → Int32) (kc : Nat) (pins : Nat → Int32) (sd dy : Int32) (i_ : Int32) (hn : n ≤ 8) (hcd : cdOne n i_ = 0) (o : Nat) (f : Nat → Int64) : kLI l D cy yL_chains wsL_chains (krx 8 124) [.ref h, .int i_, .ref o] (wH cy h pn a0 a1 a2 a3 a4 a5 a6 a7 a8 b0 b1 b2 b3 b4 b5 b6 b7 fs ss fd ed lm dd ce cw n iss sb fst len off ren que kc pins sd dy ++ kout cy o f) (fun r : Int32 => r = 0) (wH cy h pn a0 a1 a2 a3 a4 a5 a6 a7 a8 b0 b1 b2 b3 b4 b5 b6 b7 fs ss fd ed lm dd ce cw n iss sb fst len off ren que kc pins sd dy ++ kout cy o (vp_updL f 0 (cw (ix i_)).toInt64)) := by
  refine kLI.of (cc := cL_chains) (maxL := 4) (hh := [(0, 9, 12, 13)]) (by decide) rfl rfl (Nat.le_of_ble_eq_true rfl) ?_
  intro p e s m args below meth c Q A ls hx hb hml hown hts hE hA hP hD hl hZ htab hret
  have hS : va_S A s.heap s.heap [] := va_S.rf
  have hl : lv_has ls 4 [(0, .ref h), (1, .int i_), (2, .ref o)] := hl
  refine lv_aload_n hx hb dL_chains_0 rfl (lv_at hl 2 rfl) ?_
  refine lv_iconst (v := 0) hx hb dL_chains_1 (by decide) ?_
  refine lv_aload_n hx hb dL_chains_2 rfl (lv_at hl 0 rfl) ?_
  refine lv_iload_n hx hb dL_chains_3 rfl (lv_at hl 1 rfl) ?_
  refine kxV_i (n := 1) (X := []) (wc := wH cy h pn a0 a1 a2 a3 a4 a5 a6 a7 a8 b0 b1 b2 b3 b4 b5 b6 b7 fs ss fd ed lm dd ce cw n iss sb fst len off ren que kc pins sd dy) (Y := kout cy o f) (As := [.int i_]) (rest := [.int 0, .ref o]) ⟨hx, hb, hml, hown, hts⟩ hE hA hZ hP hD hS (c_X2_chains l D cy hfl h pn a0 a1 a2 a3 a4 a5 a6 a7 a8 b0 b1 b2 b3 b4 b5 b6 b7 fs ss fd ed lm dd ce cw n iss sb fst len off ren que kc pins sd dy i_ hn) (fun _ => Eq.trans (b := [h, a0, a1, a2, a3, a4, a5, a6, a7, a8, b0, b1, b2, b3, b4, b5, b6, b7, pn]) rfl rfl) (q0 := 0) (ci := 2) rfl rfl gL_chains_X2_chains rfl rfl rfl ⟨rfl, by decide, by decide, by decide +kernel⟩ ⟨Nat.le_of_ble_eq_true rfl, Nat.le_of_ble_eq_true rfl⟩ rfl hl.1 rfl (Nat.le_of_ble_eq_true rfl) dL_chains_4 ⟨Nat.le_of_ble_eq_true rfl, Nat.le_of_ble_eq_true rfl⟩ (fun E ce q9 H locs hpx hP hS h1 h2 h3 => ?_) (fun r u H locs hp hP hD hS => ?_)
  · exact absurd (show xkA E 0 from hcd ▸ hpx) xkA_0
  · obtain ⟨rfl, -⟩ := hp
    refine lv_i2l hx hb dL_chains_7 rfl ?_
    refine va_last (i := 0) (f := f) hx hb hE.1 hP hD hS 19 2 (a := o) rfl rfl k_in0 dL_chains_8 (fun H locs hP hD hS => ?_)
    refine lv_goto (tgt := 15) hx hb dL_chains_9 (by decide) ?_
    refine lv_iconst (v := 0) hx hb dL_chains_15 (by decide) ?_
    exact hret H locs 16 _ 0 _ _ dL_chains_16 (by decide) (by decide) rfl hP hS
set_option maxHeartbeats 4000000 in
set_option maxRecDepth 100000 in
theorem c_L_chains_f (l : Launch) (D : va_G) (cy : ClassId × ClassId × ClassId) (hfl : l.stackTraces = false) (h pn a0 a1 a2 a3 a4 a5 a6 a7 a8 b0 b1 b2 b3 b4 b5 b6 b7 : Nat) (fs ss fd ed lm dd ce cw : Nat → Int32) (n : Nat) (iss sb fst len off ren que : Nat → Int32) (kc : Nat) (pins : Nat → Int32) (sd dy : Int32) (i_ : Int32) (hn : n ≤ 8) (hcd : ¬ cdOne n i_ = 0) (o : Nat) (f : Nat → Int64) : kLI l D cy yL_chains wsL_chains (krx 8 124) [.ref h, .int i_, .ref o] (wH cy h pn a0 a1 a2 a3 a4 a5 a6 a7 a8 b0 b1 b2 b3 b4 b5 b6 b7 fs ss fd ed lm dd ce cw n iss sb fst len off ren que kc pins sd dy ++ kout cy o f) (fun r : Int32 => r = cdOne n i_) (wH cy h pn a0 a1 a2 a3 a4 a5 a6 a7 a8 b0 b1 b2 b3 b4 b5 b6 b7 fs ss fd ed lm dd ce cw n iss sb fst len off ren que kc pins sd dy ++ kout cy o f) := by
  refine kLI.of (cc := cL_chains) (maxL := 4) (hh := [(0, 9, 12, 13)]) (by decide) rfl rfl (Nat.le_of_ble_eq_true rfl) ?_
  intro p e s m args below meth c Q A ls hx hb hml hown hts hE hA hP hD hl hZ htab hret
  have hS : va_S A s.heap s.heap [] := va_S.rf
  have hl : lv_has ls 4 [(0, .ref h), (1, .int i_), (2, .ref o)] := hl
  have k_13 : (Cond.classLink RL 13 xIX).before args s = true := hts _ (List.mem_of_getElem? (i := 1) rfl)
  refine lv_aload_n hx hb dL_chains_0 rfl (lv_at hl 2 rfl) ?_
  refine lv_iconst (v := 0) hx hb dL_chains_1 (by decide) ?_
  refine lv_aload_n hx hb dL_chains_2 rfl (lv_at hl 0 rfl) ?_
  refine lv_iload_n hx hb dL_chains_3 rfl (lv_at hl 1 rfl) ?_
  refine kxV_i (n := 1) (X := []) (wc := wH cy h pn a0 a1 a2 a3 a4 a5 a6 a7 a8 b0 b1 b2 b3 b4 b5 b6 b7 fs ss fd ed lm dd ce cw n iss sb fst len off ren que kc pins sd dy) (Y := kout cy o f) (As := [.int i_]) (rest := [.int 0, .ref o]) ⟨hx, hb, hml, hown, hts⟩ hE hA hZ hP hD hS (c_X2_chains l D cy hfl h pn a0 a1 a2 a3 a4 a5 a6 a7 a8 b0 b1 b2 b3 b4 b5 b6 b7 fs ss fd ed lm dd ce cw n iss sb fst len off ren que kc pins sd dy i_ hn) (fun _ => Eq.trans (b := [h, a0, a1, a2, a3, a4, a5, a6, a7, a8, b0, b1, b2, b3, b4, b5, b6, b7, pn]) rfl rfl) (q0 := 0) (ci := 2) rfl rfl gL_chains_X2_chains rfl rfl rfl ⟨rfl, by decide, by decide, by decide +kernel⟩ ⟨Nat.le_of_ble_eq_true rfl, Nat.le_of_ble_eq_true rfl⟩ rfl hl.1 rfl (Nat.le_of_ble_eq_true rfl) dL_chains_4 ⟨Nat.le_of_ble_eq_true rfl, Nat.le_of_ble_eq_true rfl⟩ (fun E ce q9 H locs hpx hP hS h1 h2 h3 => ?_) (fun r u H locs hp hP hD hS => ?_)
  · rcases hpx with ⟨rfl, hk⟩ | ⟨rfl, hk⟩ | ⟨rfl, hk⟩
    · refine vx_catch (name := xIX) hown [] ⟨0, 9, 12, 13⟩ [] htab (fun z hz => absurd hz List.not_mem_nil) (by decide) (by decide) k_13 (kl_cast hE (by decide)) h1 h2 h3 ?_
      refine lv_astore_n (lv' := [(3, .ref q9), (0, .ref h), (1, .int i_), (2, .ref o)]) hx hb dL_chains_12 rfl hl (by decide) rfl (fun ls hl => ?_)
      refine lv_iconst (v := 1) hx hb dL_chains_13 (by decide) ?_
      exact hret H locs 14 _ 1 _ _ dL_chains_14 (by decide) (by decide) hk.symm hP hS
    · exact absurd hk cdOne_12.1
    · exact absurd hk cdOne_12.2
  · exact absurd hp.2 hcd
set_option maxHeartbeats 4000000 in
set_option maxRecDepth 100000 in
theorem c_L_isCovered (l : Launch) (D : va_G) (cy : ClassId × ClassId × ClassId) (hfl : l.stackTraces = false) (h pn a0 a1 a2 a3 a4 a5 a6 a7 a8 b0 b1 b2 b3 b4 b5 b6 b7 : Nat) (fs ss fd ed lm dd ce cw : Nat → Int32) (n : Nat) (iss sb fst len off ren que : Nat → Int32) (kc : Nat) (pins : Nat → Int32) (sd dy : Int32) (x_ : Int32) (d_ : Int32) (hn : n ≤ 8) (hc : kc ≤ 60) (hcd : cdND x_ d_ = 0) (o : Nat) (f : Nat → Int64) : kLI l D cy yL_isCovered wsL_isCovered (krx 8 124) [.ref h, .int x_, .int d_, .ref o] (wH cy h pn a0 a1 a2 a3 a4 a5 a6 a7 a8 b0 b1 b2 b3 b4 b5 b6 b7 fs ss fd ed lm dd ce cw n iss sb fst len off ren que kc pins sd dy ++ kout cy o f) (fun r : Int32 => r = 0) (wH cy h pn a0 a1 a2 a3 a4 a5 a6 a7 a8 b0 b1 b2 b3 b4 b5 b6 b7 fs ss fd ed lm dd ce cw n iss sb fst len off ren que kc pins sd dy ++ kout cy o (vp_updL f 0 (bI (hasB (nhN iss sb fst len d_ (goodM fs ss fd ed dd d_ (-1) n) kc) x_)).toInt64)) := by
  refine kLI.of (cc := cL_isCovered) (maxL := 5) (hh := [(0, 17, 20, 13), (0, 17, 24, 15)]) (by decide) rfl rfl (Nat.le_of_ble_eq_true rfl) ?_
  intro p e s m args below meth c Q A ls hx hb hml hown hts hE hA hP hD hl hZ htab hret
  have hS : va_S A s.heap s.heap [] := va_S.rf
  have hl : lv_has ls 5 [(0, .ref h), (1, .int x_), (2, .int d_), (3, .ref o)] := hl
  refine lv_aload_n hx hb dL_isCovered_0 rfl (lv_at hl 3 rfl) ?_
  refine lv_iconst (v := 0) hx hb dL_isCovered_1 (by decide) ?_
  refine lv_aload_n hx hb dL_isCovered_2 rfl (lv_at hl 0 rfl) ?_
  refine lv_iload_n hx hb dL_isCovered_3 rfl (lv_at hl 1 rfl) ?_
  refine lv_iload_n hx hb dL_isCovered_4 rfl (lv_at hl 2 rfl) ?_
  refine kxV_i (n := 2) (X := []) (wc := wH cy h pn a0 a1 a2 a3 a4 a5 a6 a7 a8 b0 b1 b2 b3 b4 b5 b6 b7 fs ss fd ed lm dd ce cw n iss sb fst len off ren que kc pins sd dy) (Y := kout cy o f) (As := [.int x_, .int d_]) (rest := [.int 0, .ref o]) ⟨hx, hb, hml, hown, hts⟩ hE hA hZ hP hD hS (c_X2_isCovered l D cy hfl h pn a0 a1 a2 a3 a4 a5 a6 a7 a8 b0 b1 b2 b3 b4 b5 b6 b7 fs ss fd ed lm dd ce cw n iss sb fst len off ren que kc pins sd dy x_ d_ hn hc) (fun _ => Eq.trans (b := [h, a0, a1, a2, a3, a4, a5, a6, a7, a8, b0, b1, b2, b3, b4, b5, b6, b7, pn]) rfl rfl) (q0 := 0) (ci := 2) rfl rfl gL_isCovered_X2_isCovered rfl rfl rfl ⟨rfl, by decide, by decide, by decide +kernel⟩ ⟨Nat.le_of_ble_eq_true rfl, Nat.le_of_ble_eq_true rfl⟩ rfl hl.1 rfl (Nat.le_of_ble_eq_true rfl) dL_isCovered_5 ⟨Nat.le_of_ble_eq_true rfl, Nat.le_of_ble_eq_true rfl⟩ (fun E ce q9 H locs hpx hP hS h1 h2 h3 => ?_) (fun r u H locs hp hP hD hS => ?_)
  · exact absurd (show xkA E 0 from hcd ▸ hpx) xkA_0
  · obtain ⟨rfl, -⟩ := hp
    refine lv_if_eq (tgt := 15) hx hb dL_isCovered_8 (by decide) (fun hc => ?_) (fun hc => ?_)
    · refine lv_lconst (v := (bI (hasB (nhN iss sb fst len d_ (goodM fs ss fd ed dd d_ (-1) n) kc) x_)).toInt64) hx hb dL_isCovered_15 (by rw [hc]; rfl) ?_
      refine va_last (i := 0) (f := f) hx hb hE.1 hP hD hS 19 2 (a := o) rfl rfl k_in0 dL_isCovered_16 (fun H locs hP hD hS => ?_)
      refine lv_goto (tgt := 28) hx hb dL_isCovered_17 (by decide) ?_
      refine lv_iconst (v := 0) hx hb dL_isCovered_28 (by decide) ?_
      exact hret H locs 29 _ 0 _ _ dL_isCovered_29 (by decide) (by decide) rfl hP hS
    · refine lv_lconst (v := (bI (hasB (nhN iss sb fst len d_ (goodM fs ss fd ed dd d_ (-1) n) kc) x_)).toInt64) hx hb dL_isCovered_11 (by rw [(bI_01 _).resolve_left hc]; rfl) ?_
      refine lv_goto (tgt := 16) hx hb dL_isCovered_12 (by decide) ?_
      refine va_last (i := 0) (f := f) hx hb hE.1 hP hD hS 19 2 (a := o) rfl rfl k_in0 dL_isCovered_16 (fun H locs hP hD hS => ?_)
      refine lv_goto (tgt := 28) hx hb dL_isCovered_17 (by decide) ?_
      refine lv_iconst (v := 0) hx hb dL_isCovered_28 (by decide) ?_
      exact hret H locs 29 _ 0 _ _ dL_isCovered_29 (by decide) (by decide) rfl hP hS
set_option maxHeartbeats 4000000 in
set_option maxRecDepth 100000 in
theorem c_L_isCovered_f (l : Launch) (D : va_G) (cy : ClassId × ClassId × ClassId) (hfl : l.stackTraces = false) (h pn a0 a1 a2 a3 a4 a5 a6 a7 a8 b0 b1 b2 b3 b4 b5 b6 b7 : Nat) (fs ss fd ed lm dd ce cw : Nat → Int32) (n : Nat) (iss sb fst len off ren que : Nat → Int32) (kc : Nat) (pins : Nat → Int32) (sd dy : Int32) (x_ : Int32) (d_ : Int32) (hn : n ≤ 8) (hc : kc ≤ 60) (hcd : ¬ cdND x_ d_ = 0) (o : Nat) (f : Nat → Int64) : kLI l D cy yL_isCovered wsL_isCovered (krx 8 124) [.ref h, .int x_, .int d_, .ref o] (wH cy h pn a0 a1 a2 a3 a4 a5 a6 a7 a8 b0 b1 b2 b3 b4 b5 b6 b7 fs ss fd ed lm dd ce cw n iss sb fst len off ren que kc pins sd dy ++ kout cy o f) (fun r : Int32 => r = cdND x_ d_) (wH cy h pn a0 a1 a2 a3 a4 a5 a6 a7 a8 b0 b1 b2 b3 b4 b5 b6 b7 fs ss fd ed lm dd ce cw n iss sb fst len off ren que kc pins sd dy ++ kout cy o f) := by
  refine kLI.of (cc := cL_isCovered) (maxL := 5) (hh := [(0, 17, 20, 13), (0, 17, 24, 15)]) (by decide) rfl rfl (Nat.le_of_ble_eq_true rfl) ?_
  intro p e s m args below meth c Q A ls hx hb hml hown hts hE hA hP hD hl hZ htab hret
  have hS : va_S A s.heap s.heap [] := va_S.rf
  have hl : lv_has ls 5 [(0, .ref h), (1, .int x_), (2, .int d_), (3, .ref o)] := hl
  have k_13 : (Cond.classLink RL 13 xIX).before args s = true := hts _ (List.mem_of_getElem? (i := 1) rfl)
  have k_15 : (Cond.classLink RL 15 xIA).before args s = true := hts _ (List.mem_of_getElem? (i := 2) rfl)
  refine lv_aload_n hx hb dL_isCovered_0 rfl (lv_at hl 3 rfl) ?_
  refine lv_iconst (v := 0) hx hb dL_isCovered_1 (by decide) ?_
  refine lv_aload_n hx hb dL_isCovered_2 rfl (lv_at hl 0 rfl) ?_
  refine lv_iload_n hx hb dL_isCovered_3 rfl (lv_at hl 1 rfl) ?_
  refine lv_iload_n hx hb dL_isCovered_4 rfl (lv_at hl 2 rfl) ?_
  refine kxV_i (n := 2) (X := []) (wc := wH cy h pn a0 a1 a2 a3 a4 a5 a6 a7 a8 b0 b1 b2 b3 b4 b5 b6 b7 fs ss fd ed lm dd ce cw n iss sb fst len off ren que kc pins sd dy) (Y := kout cy o f) (As := [.int x_, .int d_]) (rest := [.int 0, .ref o]) ⟨hx, hb, hml, hown, hts⟩ hE hA hZ hP hD hS (c_X2_isCovered l D cy hfl h pn a0 a1 a2 a3 a4 a5 a6 a7 a8 b0 b1 b2 b3 b4 b5 b6 b7 fs ss fd ed lm dd ce cw n iss sb fst len off ren que kc pins sd dy x_ d_ hn hc) (fun _ => Eq.trans (b := [h, a0, a1, a2, a3, a4, a5, a6, a7, a8, b0, b1, b2, b3, b4, b5, b6, b7, pn]) rfl rfl) (q0 := 0) (ci := 2) rfl rfl gL_isCovered_X2_isCovered rfl rfl rfl ⟨rfl, by decide, by decide, by decide +kernel⟩ ⟨Nat.le_of_ble_eq_true rfl, Nat.le_of_ble_eq_true rfl⟩ rfl hl.1 rfl (Nat.le_of_ble_eq_true rfl) dL_isCovered_5 ⟨Nat.le_of_ble_eq_true rfl, Nat.le_of_ble_eq_true rfl⟩ (fun E ce q9 H locs hpx hP hS h1 h2 h3 => ?_) (fun r u H locs hp hP hD hS => ?_)
  · rcases hpx with ⟨rfl, hk⟩ | ⟨rfl, hk⟩ | ⟨rfl, hk⟩
    · refine vx_catch (name := xIX) hown [] ⟨0, 17, 20, 13⟩ [⟨0, 17, 24, 15⟩] htab (fun z hz => absurd hz List.not_mem_nil) (by decide) (by decide) k_13 (kl_cast hE (by decide)) h1 h2 h3 ?_
      refine lv_astore (lv' := [(4, .ref q9), (0, .ref h), (1, .int x_), (2, .int d_), (3, .ref o)]) hx hb dL_isCovered_20 hl (by decide) rfl (fun ls hl => ?_)
      refine lv_iconst (v := 1) hx hb dL_isCovered_22 (by decide) ?_
      exact hret H locs 23 _ 1 _ _ dL_isCovered_23 (by decide) (by decide) hk.symm hP hS
    · refine vx_catch (name := xIA) hown [⟨0, 17, 20, 13⟩] ⟨0, 17, 24, 15⟩ [] htab (List.forall_mem_cons.mpr ⟨Or.inr ⟨by decide, xIX, k_13, kl_nc1 hE⟩, fun z hz => absurd hz List.not_mem_nil⟩) (by decide) (by decide) k_15 (kl_cast hE (by decide)) h1 h2 h3 ?_
      refine lv_astore (lv' := [(4, .ref q9), (0, .ref h), (1, .int x_), (2, .int d_), (3, .ref o)]) hx hb dL_isCovered_24 hl (by decide) rfl (fun ls hl => ?_)
      refine lv_iconst (v := 2) hx hb dL_isCovered_26 (by decide) ?_
      exact hret H locs 27 _ 2 _ _ dL_isCovered_27 (by decide) (by decide) hk.symm hP hS
    · exact absurd hk cdND_3
  · exact absurd hp.2 hcd
set_option maxHeartbeats 4000000 in
set_option maxRecDepth 100000 in
theorem c_L_nextGap (l : Launch) (D : va_G) (cy : ClassId × ClassId × ClassId) (hfl : l.stackTraces = false) (h pn a0 a1 a2 a3 a4 a5 a6 a7 a8 b0 b1 b2 b3 b4 b5 b6 b7 : Nat) (fs ss fd ed lm dd ce cw : Nat → Int32) (n : Nat) (iss sb fst len off ren que : Nat → Int32) (kc : Nat) (pins : Nat → Int32) (sd dy : Int32) (x_ : Int32) (d_ : Int32) (hn : n ≤ 8) (hc : kc ≤ 60) (hcd : cdND x_ d_ = 0) (o : Nat) (f : Nat → Int64) : kLI l D cy yL_nextGap wsL_nextGap (krx 8 125) [.ref h, .int x_, .int d_, .ref o] (wH cy h pn a0 a1 a2 a3 a4 a5 a6 a7 a8 b0 b1 b2 b3 b4 b5 b6 b7 fs ss fd ed lm dd ce cw n iss sb fst len off ren que kc pins sd dy ++ kout cy o f) (fun r : Int32 => r = 0) (wH cy h pn a0 a1 a2 a3 a4 a5 a6 a7 a8 b0 b1 b2 b3 b4 b5 b6 b7 fs ss fd ed lm dd ce cw n iss sb fst len off ren que kc pins sd dy ++ kout cy o (vp_updL f 0 (ngC fs ss fd ed dd n iss sb fst len kc x_ (5001 - ix d_) (ix d_)).toInt64)) := by
  refine kLI.of (cc := cL_nextGap) (maxL := 5) (hh := [(0, 10, 13, 13), (0, 10, 17, 15)]) (by decide) rfl rfl (Nat.le_of_ble_eq_true rfl) ?_
  intro p e s m args below meth c Q A ls hx hb hml hown hts hE hA hP hD hl hZ htab hret
  have hS : va_S A s.heap s.heap [] := va_S.rf
  have hl : lv_has ls 5 [(0, .ref h), (1, .int x_), (2, .int d_), (3, .ref o)] := hl
  refine lv_aload_n hx hb dL_nextGap_0 rfl (lv_at hl 3 rfl) ?_
  refine lv_iconst (v := 0) hx hb dL_nextGap_1 (by decide) ?_
  refine lv_aload_n hx hb dL_nextGap_2 rfl (lv_at hl 0 rfl) ?_
  refine lv_iload_n hx hb dL_nextGap_3 rfl (lv_at hl 1 rfl) ?_
  refine lv_iload_n hx hb dL_nextGap_4 rfl (lv_at hl 2 rfl) ?_
  refine kxV_i (n := 2) (X := []) (wc := wH cy h pn a0 a1 a2 a3 a4 a5 a6 a7 a8 b0 b1 b2 b3 b4 b5 b6 b7 fs ss fd ed lm dd ce cw n iss sb fst len off ren que kc pins sd dy) (Y := kout cy o f) (As := [.int x_, .int d_]) (rest := [.int 0, .ref o]) ⟨hx, hb, hml, hown, hts⟩ hE hA hZ hP hD hS (c_X2_nextGap l D cy hfl h pn a0 a1 a2 a3 a4 a5 a6 a7 a8 b0 b1 b2 b3 b4 b5 b6 b7 fs ss fd ed lm dd ce cw n iss sb fst len off ren que kc pins sd dy x_ d_ hn hc) (fun _ => Eq.trans (b := [h, a0, a1, a2, a3, a4, a5, a6, a7, a8, b0, b1, b2, b3, b4, b5, b6, b7, pn]) rfl rfl) (q0 := 0) (ci := 2) rfl rfl gL_nextGap_X2_nextGap rfl rfl rfl ⟨rfl, by decide, by decide, by decide +kernel⟩ ⟨Nat.le_of_ble_eq_true rfl, Nat.le_of_ble_eq_true rfl⟩ rfl hl.1 rfl (Nat.le_of_ble_eq_true rfl) dL_nextGap_5 ⟨Nat.le_of_ble_eq_true rfl, Nat.le_of_ble_eq_true rfl⟩ (fun E ce q9 H locs hpx hP hS h1 h2 h3 => ?_) (fun r u H locs hp hP hD hS => ?_)
  · exact absurd (show xkA E 0 from hcd ▸ hpx) xkA_0
  · obtain ⟨rfl, -⟩ := hp
    refine lv_i2l hx hb dL_nextGap_8 rfl ?_
    refine va_last (i := 0) (f := f) hx hb hE.1 hP hD hS 19 2 (a := o) rfl rfl k_in0 dL_nextGap_9 (fun H locs hP hD hS => ?_)
    refine lv_goto (tgt := 21) hx hb dL_nextGap_10 (by decide) ?_
    refine lv_iconst (v := 0) hx hb dL_nextGap_21 (by decide) ?_
    exact hret H locs 22 _ 0 _ _ dL_nextGap_22 (by decide) (by decide) rfl hP hS
set_option maxHeartbeats 4000000 in
set_option maxRecDepth 100000 in
theorem c_L_nextGap_f (l : Launch) (D : va_G) (cy : ClassId × ClassId × ClassId) (hfl : l.stackTraces = false) (h pn a0 a1 a2 a3 a4 a5 a6 a7 a8 b0 b1 b2 b3 b4 b5 b6 b7 : Nat) (fs ss fd ed lm dd ce cw : Nat → Int32) (n : Nat) (iss sb fst len off ren que : Nat → Int32) (kc : Nat) (pins : Nat → Int32) (sd dy : Int32) (x_ : Int32) (d_ : Int32) (hn : n ≤ 8) (hc : kc ≤ 60) (hcd : ¬ cdND x_ d_ = 0) (o : Nat) (f : Nat → Int64) : kLI l D cy yL_nextGap wsL_nextGap (krx 8 125) [.ref h, .int x_, .int d_, .ref o] (wH cy h pn a0 a1 a2 a3 a4 a5 a6 a7 a8 b0 b1 b2 b3 b4 b5 b6 b7 fs ss fd ed lm dd ce cw n iss sb fst len off ren que kc pins sd dy ++ kout cy o f) (fun r : Int32 => r = cdND x_ d_) (wH cy h pn a0 a1 a2 a3 a4 a5 a6 a7 a8 b0 b1 b2 b3 b4 b5 b6 b7 fs ss fd ed lm dd ce cw n iss sb fst len off ren que kc pins sd dy ++ kout cy o f) := by
  refine kLI.of (cc := cL_nextGap) (maxL := 5) (hh := [(0, 10, 13, 13), (0, 10, 17, 15)]) (by decide) rfl rfl (Nat.le_of_ble_eq_true rfl) ?_
  intro p e s m args below meth c Q A ls hx hb hml hown hts hE hA hP hD hl hZ htab hret
  have hS : va_S A s.heap s.heap [] := va_S.rf
  have hl : lv_has ls 5 [(0, .ref h), (1, .int x_), (2, .int d_), (3, .ref o)] := hl
  have k_13 : (Cond.classLink RL 13 xIX).before args s = true := hts _ (List.mem_of_getElem? (i := 1) rfl)
  have k_15 : (Cond.classLink RL 15 xIA).before args s = true := hts _ (List.mem_of_getElem? (i := 2) rfl)
  refine lv_aload_n hx hb dL_nextGap_0 rfl (lv_at hl 3 rfl) ?_
  refine lv_iconst (v := 0) hx hb dL_nextGap_1 (by decide) ?_
  refine lv_aload_n hx hb dL_nextGap_2 rfl (lv_at hl 0 rfl) ?_
  refine lv_iload_n hx hb dL_nextGap_3 rfl (lv_at hl 1 rfl) ?_
  refine lv_iload_n hx hb dL_nextGap_4 rfl (lv_at hl 2 rfl) ?_
  refine kxV_i (n := 2) (X := []) (wc := wH cy h pn a0 a1 a2 a3 a4 a5 a6 a7 a8 b0 b1 b2 b3 b4 b5 b6 b7 fs ss fd ed lm dd ce cw n iss sb fst len off ren que kc pins sd dy) (Y := kout cy o f) (As := [.int x_, .int d_]) (rest := [.int 0, .ref o]) ⟨hx, hb, hml, hown, hts⟩ hE hA hZ hP hD hS (c_X2_nextGap l D cy hfl h pn a0 a1 a2 a3 a4 a5 a6 a7 a8 b0 b1 b2 b3 b4 b5 b6 b7 fs ss fd ed lm dd ce cw n iss sb fst len off ren que kc pins sd dy x_ d_ hn hc) (fun _ => Eq.trans (b := [h, a0, a1, a2, a3, a4, a5, a6, a7, a8, b0, b1, b2, b3, b4, b5, b6, b7, pn]) rfl rfl) (q0 := 0) (ci := 2) rfl rfl gL_nextGap_X2_nextGap rfl rfl rfl ⟨rfl, by decide, by decide, by decide +kernel⟩ ⟨Nat.le_of_ble_eq_true rfl, Nat.le_of_ble_eq_true rfl⟩ rfl hl.1 rfl (Nat.le_of_ble_eq_true rfl) dL_nextGap_5 ⟨Nat.le_of_ble_eq_true rfl, Nat.le_of_ble_eq_true rfl⟩ (fun E ce q9 H locs hpx hP hS h1 h2 h3 => ?_) (fun r u H locs hp hP hD hS => ?_)
  · rcases hpx with ⟨rfl, hk⟩ | ⟨rfl, hk⟩ | ⟨rfl, hk⟩
    · refine vx_catch (name := xIX) hown [] ⟨0, 10, 13, 13⟩ [⟨0, 10, 17, 15⟩] htab (fun z hz => absurd hz List.not_mem_nil) (by decide) (by decide) k_13 (kl_cast hE (by decide)) h1 h2 h3 ?_
      refine lv_astore (lv' := [(4, .ref q9), (0, .ref h), (1, .int x_), (2, .int d_), (3, .ref o)]) hx hb dL_nextGap_13 hl (by decide) rfl (fun ls hl => ?_)
      refine lv_iconst (v := 1) hx hb dL_nextGap_15 (by decide) ?_
      exact hret H locs 16 _ 1 _ _ dL_nextGap_16 (by decide) (by decide) hk.symm hP hS
    · refine vx_catch (name := xIA) hown [⟨0, 10, 13, 13⟩] ⟨0, 10, 17, 15⟩ [] htab (List.forall_mem_cons.mpr ⟨Or.inr ⟨by decide, xIX, k_13, kl_nc1 hE⟩, fun z hz => absurd hz List.not_mem_nil⟩) (by decide) (by decide) k_15 (kl_cast hE (by decide)) h1 h2 h3 ?_
      refine lv_astore (lv' := [(4, .ref q9), (0, .ref h), (1, .int x_), (2, .int d_), (3, .ref o)]) hx hb dL_nextGap_17 hl (by decide) rfl (fun ls hl => ?_)
      refine lv_iconst (v := 2) hx hb dL_nextGap_19 (by decide) ?_
      exact hret H locs 20 _ 2 _ _ dL_nextGap_20 (by decide) (by decide) hk.symm hP hS
    · exact absurd hk cdND_3
  · exact absurd hp.2 hcd
set_option maxHeartbeats 4000000 in
set_option maxRecDepth 100000 in
theorem c_L_covered (l : Launch) (D : va_G) (cy : ClassId × ClassId × ClassId) (hfl : l.stackTraces = false) (h pn a0 a1 a2 a3 a4 a5 a6 a7 a8 b0 b1 b2 b3 b4 b5 b6 b7 : Nat) (fs ss fd ed lm dd ce cw : Nat → Int32) (n : Nat) (iss sb fst len off ren que : Nat → Int32) (kc : Nat) (pins : Nat → Int32) (sd dy : Int32) (d_ : Int32) (hn : n ≤ 8) (hc : kc ≤ 60) (hcd : cdD d_ = 0) (o : Nat) (f : Nat → Int64) : kLI l D cy yL_covered wsL_covered (krx 8 123) [.ref h, .int d_, .ref o] (wH cy h pn a0 a1 a2 a3 a4 a5 a6 a7 a8 b0 b1 b2 b3 b4 b5 b6 b7 fs ss fd ed lm dd ce cw n iss sb fst len off ren que kc pins sd dy ++ kout cy o f) (fun r : Int32 => r = 0) (wH cy h pn a0 a1 a2 a3 a4 a5 a6 a7 a8 b0 b1 b2 b3 b4 b5 b6 b7 fs ss fd ed lm dd ce cw n iss sb fst len off ren que kc pins sd dy ++ kout cy o (vp_updL f 0 (nhN iss sb fst len d_ (goodM fs ss fd ed dd d_ (-1) n) kc).toInt64)) := by
  refine kLI.of (cc := cL_covered) (maxL := 4) (hh := [(0, 9, 12, 15)]) (by decide) rfl rfl (Nat.le_of_ble_eq_true rfl) ?_
  intro p e s m args below meth c Q A ls hx hb hml hown hts hE hA hP hD hl hZ htab hret
  have hS : va_S A s.heap s.heap [] := va_S.rf
  have hl : lv_has ls 4 [(0, .ref h), (1, .int d_), (2, .ref o)] := hl
  refine lv_aload_n hx hb dL_covered_0 rfl (lv_at hl 2 rfl) ?_
  refine lv_iconst (v := 0) hx hb dL_covered_1 (by decide) ?_
  refine lv_aload_n hx hb dL_covered_2 rfl (lv_at hl 0 rfl) ?_
  refine lv_iload_n hx hb dL_covered_3 rfl (lv_at hl 1 rfl) ?_
  refine kxV_i (n := 1) (X := []) (wc := wH cy h pn a0 a1 a2 a3 a4 a5 a6 a7 a8 b0 b1 b2 b3 b4 b5 b6 b7 fs ss fd ed lm dd ce cw n iss sb fst len off ren que kc pins sd dy) (Y := kout cy o f) (As := [.int d_]) (rest := [.int 0, .ref o]) ⟨hx, hb, hml, hown, hts⟩ hE hA hZ hP hD hS (c_X2_covered l D cy hfl h pn a0 a1 a2 a3 a4 a5 a6 a7 a8 b0 b1 b2 b3 b4 b5 b6 b7 fs ss fd ed lm dd ce cw n iss sb fst len off ren que kc pins sd dy d_ hn hc) (fun _ => Eq.trans (b := [h, a0, a1, a2, a3, a4, a5, a6, a7, a8, b0, b1, b2, b3, b4, b5, b6, b7, pn]) rfl rfl) (q0 := 0) (ci := 2) rfl rfl gL_covered_X2_covered rfl rfl rfl ⟨rfl, by decide, by decide, by decide +kernel⟩ ⟨Nat.le_of_ble_eq_true rfl, Nat.le_of_ble_eq_true rfl⟩ rfl hl.1 rfl (Nat.le_of_ble_eq_true rfl) dL_covered_4 ⟨Nat.le_of_ble_eq_true rfl, Nat.le_of_ble_eq_true rfl⟩ (fun E ce q9 H locs hpx hP hS h1 h2 h3 => ?_) (fun r u H locs hp hP hD hS => ?_)
  · exact absurd (show xkB E 0 from hcd ▸ hpx) xkB_0
  · obtain ⟨rfl, -⟩ := hp
    refine lv_i2l hx hb dL_covered_7 rfl ?_
    refine va_last (i := 0) (f := f) hx hb hE.1 hP hD hS 19 2 (a := o) rfl rfl k_in0 dL_covered_8 (fun H locs hP hD hS => ?_)
    refine lv_goto (tgt := 15) hx hb dL_covered_9 (by decide) ?_
    refine lv_iconst (v := 0) hx hb dL_covered_15 (by decide) ?_
    exact hret H locs 16 _ 0 _ _ dL_covered_16 (by decide) (by decide) rfl hP hS
set_option maxHeartbeats 4000000 in
set_option maxRecDepth 100000 in
theorem c_L_covered_f (l : Launch) (D : va_G) (cy : ClassId × ClassId × ClassId) (hfl : l.stackTraces = false) (h pn a0 a1 a2 a3 a4 a5 a6 a7 a8 b0 b1 b2 b3 b4 b5 b6 b7 : Nat) (fs ss fd ed lm dd ce cw : Nat → Int32) (n : Nat) (iss sb fst len off ren que : Nat → Int32) (kc : Nat) (pins : Nat → Int32) (sd dy : Int32) (d_ : Int32) (hn : n ≤ 8) (hc : kc ≤ 60) (hcd : ¬ cdD d_ = 0) (o : Nat) (f : Nat → Int64) : kLI l D cy yL_covered wsL_covered (krx 8 123) [.ref h, .int d_, .ref o] (wH cy h pn a0 a1 a2 a3 a4 a5 a6 a7 a8 b0 b1 b2 b3 b4 b5 b6 b7 fs ss fd ed lm dd ce cw n iss sb fst len off ren que kc pins sd dy ++ kout cy o f) (fun r : Int32 => r = cdD d_) (wH cy h pn a0 a1 a2 a3 a4 a5 a6 a7 a8 b0 b1 b2 b3 b4 b5 b6 b7 fs ss fd ed lm dd ce cw n iss sb fst len off ren que kc pins sd dy ++ kout cy o f) := by
  refine kLI.of (cc := cL_covered) (maxL := 4) (hh := [(0, 9, 12, 15)]) (by decide) rfl rfl (Nat.le_of_ble_eq_true rfl) ?_
  intro p e s m args below meth c Q A ls hx hb hml hown hts hE hA hP hD hl hZ htab hret
  have hS : va_S A s.heap s.heap [] := va_S.rf
  have hl : lv_has ls 4 [(0, .ref h), (1, .int d_), (2, .ref o)] := hl
  have k_15 : (Cond.classLink RL 15 xIA).before args s = true := hts _ (List.mem_of_getElem? (i := 1) rfl)
  refine lv_aload_n hx hb dL_covered_0 rfl (lv_at hl 2 rfl) ?_
  refine lv_iconst (v := 0) hx hb dL_covered_1 (by decide) ?_
  refine lv_aload_n hx hb dL_covered_2 rfl (lv_at hl 0 rfl) ?_
  refine lv_iload_n hx hb dL_covered_3 rfl (lv_at hl 1 rfl) ?_
  refine kxV_i (n := 1) (X := []) (wc := wH cy h pn a0 a1 a2 a3 a4 a5 a6 a7 a8 b0 b1 b2 b3 b4 b5 b6 b7 fs ss fd ed lm dd ce cw n iss sb fst len off ren que kc pins sd dy) (Y := kout cy o f) (As := [.int d_]) (rest := [.int 0, .ref o]) ⟨hx, hb, hml, hown, hts⟩ hE hA hZ hP hD hS (c_X2_covered l D cy hfl h pn a0 a1 a2 a3 a4 a5 a6 a7 a8 b0 b1 b2 b3 b4 b5 b6 b7 fs ss fd ed lm dd ce cw n iss sb fst len off ren que kc pins sd dy d_ hn hc) (fun _ => Eq.trans (b := [h, a0, a1, a2, a3, a4, a5, a6, a7, a8, b0, b1, b2, b3, b4, b5, b6, b7, pn]) rfl rfl) (q0 := 0) (ci := 2) rfl rfl gL_covered_X2_covered rfl rfl rfl ⟨rfl, by decide, by decide, by decide +kernel⟩ ⟨Nat.le_of_ble_eq_true rfl, Nat.le_of_ble_eq_true rfl⟩ rfl hl.1 rfl (Nat.le_of_ble_eq_true rfl) dL_covered_4 ⟨Nat.le_of_ble_eq_true rfl, Nat.le_of_ble_eq_true rfl⟩ (fun E ce q9 H locs hpx hP hS h1 h2 h3 => ?_) (fun r u H locs hp hP hD hS => ?_)
  · rcases hpx with ⟨rfl, hk⟩ | ⟨rfl, hk⟩
    · refine vx_catch (name := xIA) hown [] ⟨0, 9, 12, 15⟩ [] htab (fun z hz => absurd hz List.not_mem_nil) (by decide) (by decide) k_15 (kl_cast hE (by decide)) h1 h2 h3 ?_
      refine lv_astore_n (lv' := [(3, .ref q9), (0, .ref h), (1, .int d_), (2, .ref o)]) hx hb dL_covered_12 rfl hl (by decide) rfl (fun ls hl => ?_)
      refine lv_iconst (v := 1) hx hb dL_covered_13 (by decide) ?_
      exact hret H locs 14 _ 1 _ _ dL_covered_14 (by decide) (by decide) hk.symm hP hS
    · exact absurd hk cdD_2
  · exact absurd hp.2 hcd
set_option maxHeartbeats 4000000 in
set_option maxRecDepth 100000 in
theorem c_L_breaks (l : Launch) (D : va_G) (cy : ClassId × ClassId × ClassId) (hfl : l.stackTraces = false) (h pn a0 a1 a2 a3 a4 a5 a6 a7 a8 b0 b1 b2 b3 b4 b5 b6 b7 : Nat) (fs ss fd ed lm dd ce cw : Nat → Int32) (n : Nat) (iss sb fst len off ren que : Nat → Int32) (kc : Nat) (pins : Nat → Int32) (sd dy : Int32) (i_ : Int32) (d_ : Int32) (hn : n ≤ 8) (hc : kc ≤ 60) (hcd : cdID n i_ d_ = 0) (o : Nat) (f : Nat → Int64) : kLI l D cy yL_breaks wsL_breaks (krx 8 133) [.ref h, .int i_, .int d_, .ref o] (wH cy h pn a0 a1 a2 a3 a4 a5 a6 a7 a8 b0 b1 b2 b3 b4 b5 b6 b7 fs ss fd ed lm dd ce cw n iss sb fst len off ren que kc pins sd dy ++ kout cy o f) (fun r : Int32 => r = 0) (wH cy h pn a0 a1 a2 a3 a4 a5 a6 a7 a8 b0 b1 b2 b3 b4 b5 b6 b7 fs ss fd ed lm dd ce cw n iss sb fst len off ren que kc pins sd dy ++ kout cy o (vp_updL f 0 (lostC fs ss fd ed dd n iss sb fst len kc d_ i_).toInt64)) := by
  refine kLI.of (cc := cL_breaks) (maxL := 5) (hh := [(0, 10, 13, 13), (0, 10, 17, 15)]) (by decide) rfl rfl (Nat.le_of_ble_eq_true rfl) ?_
  intro p e s m args below meth c Q A ls hx hb hml hown hts hE hA hP hD hl hZ htab hret
  have hS : va_S A s.heap s.heap [] := va_S.rf
  have hl : lv_has ls 5 [(0, .ref h), (1, .int i_), (2, .int d_), (3, .ref o)] := hl
  refine lv_aload_n hx hb dL_breaks_0 rfl (lv_at hl 3 rfl) ?_
  refine lv_iconst (v := 0) hx hb dL_breaks_1 (by decide) ?_
  refine lv_aload_n hx hb dL_breaks_2 rfl (lv_at hl 0 rfl) ?_
  refine lv_iload_n hx hb dL_breaks_3 rfl (lv_at hl 1 rfl) ?_
  refine lv_iload_n hx hb dL_breaks_4 rfl (lv_at hl 2 rfl) ?_
  refine kxV_i (n := 2) (X := []) (wc := wH cy h pn a0 a1 a2 a3 a4 a5 a6 a7 a8 b0 b1 b2 b3 b4 b5 b6 b7 fs ss fd ed lm dd ce cw n iss sb fst len off ren que kc pins sd dy) (Y := kout cy o f) (As := [.int i_, .int d_]) (rest := [.int 0, .ref o]) ⟨hx, hb, hml, hown, hts⟩ hE hA hZ hP hD hS (c_X2_breaks l D cy hfl h pn a0 a1 a2 a3 a4 a5 a6 a7 a8 b0 b1 b2 b3 b4 b5 b6 b7 fs ss fd ed lm dd ce cw n iss sb fst len off ren que kc pins sd dy i_ d_ hn hc) (fun _ => Eq.trans (b := [h, a0, a1, a2, a3, a4, a5, a6, a7, a8, b0, b1, b2, b3, b4, b5, b6, b7, pn]) rfl rfl) (q0 := 0) (ci := 2) rfl rfl gL_breaks_X2_breaks rfl rfl rfl ⟨rfl, by decide, by decide, by decide +kernel⟩ ⟨Nat.le_of_ble_eq_true rfl, Nat.le_of_ble_eq_true rfl⟩ rfl hl.1 rfl (Nat.le_of_ble_eq_true rfl) dL_breaks_5 ⟨Nat.le_of_ble_eq_true rfl, Nat.le_of_ble_eq_true rfl⟩ (fun E ce q9 H locs hpx hP hS h1 h2 h3 => ?_) (fun r u H locs hp hP hD hS => ?_)
  · exact absurd (show xkA E 0 from hcd ▸ hpx) xkA_0
  · obtain ⟨rfl, -⟩ := hp
    refine lv_i2l hx hb dL_breaks_8 rfl ?_
    refine va_last (i := 0) (f := f) hx hb hE.1 hP hD hS 19 2 (a := o) rfl rfl k_in0 dL_breaks_9 (fun H locs hP hD hS => ?_)
    refine lv_goto (tgt := 21) hx hb dL_breaks_10 (by decide) ?_
    refine lv_iconst (v := 0) hx hb dL_breaks_21 (by decide) ?_
    exact hret H locs 22 _ 0 _ _ dL_breaks_22 (by decide) (by decide) rfl hP hS
set_option maxHeartbeats 4000000 in
set_option maxRecDepth 100000 in
theorem c_L_breaks_f (l : Launch) (D : va_G) (cy : ClassId × ClassId × ClassId) (hfl : l.stackTraces = false) (h pn a0 a1 a2 a3 a4 a5 a6 a7 a8 b0 b1 b2 b3 b4 b5 b6 b7 : Nat) (fs ss fd ed lm dd ce cw : Nat → Int32) (n : Nat) (iss sb fst len off ren que : Nat → Int32) (kc : Nat) (pins : Nat → Int32) (sd dy : Int32) (i_ : Int32) (d_ : Int32) (hn : n ≤ 8) (hc : kc ≤ 60) (hcd : ¬ cdID n i_ d_ = 0) (o : Nat) (f : Nat → Int64) : kLI l D cy yL_breaks wsL_breaks (krx 8 133) [.ref h, .int i_, .int d_, .ref o] (wH cy h pn a0 a1 a2 a3 a4 a5 a6 a7 a8 b0 b1 b2 b3 b4 b5 b6 b7 fs ss fd ed lm dd ce cw n iss sb fst len off ren que kc pins sd dy ++ kout cy o f) (fun r : Int32 => r = cdID n i_ d_) (wH cy h pn a0 a1 a2 a3 a4 a5 a6 a7 a8 b0 b1 b2 b3 b4 b5 b6 b7 fs ss fd ed lm dd ce cw n iss sb fst len off ren que kc pins sd dy ++ kout cy o f) := by
  refine kLI.of (cc := cL_breaks) (maxL := 5) (hh := [(0, 10, 13, 13), (0, 10, 17, 15)]) (by decide) rfl rfl (Nat.le_of_ble_eq_true rfl) ?_
  intro p e s m args below meth c Q A ls hx hb hml hown hts hE hA hP hD hl hZ htab hret
  have hS : va_S A s.heap s.heap [] := va_S.rf
  have hl : lv_has ls 5 [(0, .ref h), (1, .int i_), (2, .int d_), (3, .ref o)] := hl
  have k_13 : (Cond.classLink RL 13 xIX).before args s = true := hts _ (List.mem_of_getElem? (i := 1) rfl)
  have k_15 : (Cond.classLink RL 15 xIA).before args s = true := hts _ (List.mem_of_getElem? (i := 2) rfl)
  refine lv_aload_n hx hb dL_breaks_0 rfl (lv_at hl 3 rfl) ?_
  refine lv_iconst (v := 0) hx hb dL_breaks_1 (by decide) ?_
  refine lv_aload_n hx hb dL_breaks_2 rfl (lv_at hl 0 rfl) ?_
  refine lv_iload_n hx hb dL_breaks_3 rfl (lv_at hl 1 rfl) ?_
  refine lv_iload_n hx hb dL_breaks_4 rfl (lv_at hl 2 rfl) ?_
  refine kxV_i (n := 2) (X := []) (wc := wH cy h pn a0 a1 a2 a3 a4 a5 a6 a7 a8 b0 b1 b2 b3 b4 b5 b6 b7 fs ss fd ed lm dd ce cw n iss sb fst len off ren que kc pins sd dy) (Y := kout cy o f) (As := [.int i_, .int d_]) (rest := [.int 0, .ref o]) ⟨hx, hb, hml, hown, hts⟩ hE hA hZ hP hD hS (c_X2_breaks l D cy hfl h pn a0 a1 a2 a3 a4 a5 a6 a7 a8 b0 b1 b2 b3 b4 b5 b6 b7 fs ss fd ed lm dd ce cw n iss sb fst len off ren que kc pins sd dy i_ d_ hn hc) (fun _ => Eq.trans (b := [h, a0, a1, a2, a3, a4, a5, a6, a7, a8, b0, b1, b2, b3, b4, b5, b6, b7, pn]) rfl rfl) (q0 := 0) (ci := 2) rfl rfl gL_breaks_X2_breaks rfl rfl rfl ⟨rfl, by decide, by decide, by decide +kernel⟩ ⟨Nat.le_of_ble_eq_true rfl, Nat.le_of_ble_eq_true rfl⟩ rfl hl.1 rfl (Nat.le_of_ble_eq_true rfl) dL_breaks_5 ⟨Nat.le_of_ble_eq_true rfl, Nat.le_of_ble_eq_true rfl⟩ (fun E ce q9 H locs hpx hP hS h1 h2 h3 => ?_) (fun r u H locs hp hP hD hS => ?_)
  · rcases hpx with ⟨rfl, hk⟩ | ⟨rfl, hk⟩ | ⟨rfl, hk⟩
    · refine vx_catch (name := xIX) hown [] ⟨0, 10, 13, 13⟩ [⟨0, 10, 17, 15⟩] htab (fun z hz => absurd hz List.not_mem_nil) (by decide) (by decide) k_13 (kl_cast hE (by decide)) h1 h2 h3 ?_
      refine lv_astore (lv' := [(4, .ref q9), (0, .ref h), (1, .int i_), (2, .int d_), (3, .ref o)]) hx hb dL_breaks_13 hl (by decide) rfl (fun ls hl => ?_)
      refine lv_iconst (v := 1) hx hb dL_breaks_15 (by decide) ?_
      exact hret H locs 16 _ 1 _ _ dL_breaks_16 (by decide) (by decide) hk.symm hP hS
    · refine vx_catch (name := xIA) hown [⟨0, 10, 13, 13⟩] ⟨0, 10, 17, 15⟩ [] htab (List.forall_mem_cons.mpr ⟨Or.inr ⟨by decide, xIX, k_13, kl_nc1 hE⟩, fun z hz => absurd hz List.not_mem_nil⟩) (by decide) (by decide) k_15 (kl_cast hE (by decide)) h1 h2 h3 ?_
      refine lv_astore (lv' := [(4, .ref q9), (0, .ref h), (1, .int i_), (2, .int d_), (3, .ref o)]) hx hb dL_breaks_17 hl (by decide) rfl (fun ls hl => ?_)
      refine lv_iconst (v := 2) hx hb dL_breaks_19 (by decide) ?_
      exact hret H locs 20 _ 2 _ _ dL_breaks_20 (by decide) (by decide) hk.symm hP hS
    · exact absurd hk cdID_3
  · exact absurd hp.2 hcd
set_option maxHeartbeats 4000000 in
set_option maxRecDepth 100000 in
theorem c_L_weakest (l : Launch) (D : va_G) (cy : ClassId × ClassId × ClassId) (hfl : l.stackTraces = false) (h pn a0 a1 a2 a3 a4 a5 a6 a7 a8 b0 b1 b2 b3 b4 b5 b6 b7 : Nat) (fs ss fd ed lm dd ce cw : Nat → Int32) (n : Nat) (iss sb fst len off ren que : Nat → Int32) (kc : Nat) (pins : Nat → Int32) (sd dy : Int32) (d_ : Int32) (hn : n ≤ 8) (hc : kc ≤ 60) (hcd : cdD d_ = 0) (o : Nat) (f : Nat → Int64) : kLI l D cy yL_weakest wsL_weakest (krx 8 136) [.ref h, .int d_, .ref o] (wH cy h pn a0 a1 a2 a3 a4 a5 a6 a7 a8 b0 b1 b2 b3 b4 b5 b6 b7 fs ss fd ed lm dd ce cw n iss sb fst len off ren que kc pins sd dy ++ kout cy o f) (fun r : Int32 => r = 0) (wH cy h pn a0 a1 a2 a3 a4 a5 a6 a7 a8 b0 b1 b2 b3 b4 b5 b6 b7 fs ss fd ed lm dd ce cw n iss sb fst len off ren que kc pins sd dy ++ kout cy o (vp_updL f 0 ((wkN bcN (fun k => lostC fs ss fd ed dd n iss sb fst len kc d_ (nI k)) n).1).toInt64)) := by
  refine kLI.of (cc := cL_weakest) (maxL := 4) (hh := [(0, 9, 12, 15)]) (by decide) rfl rfl (Nat.le_of_ble_eq_true rfl) ?_
  intro p e s m args below meth c Q A ls hx hb hml hown hts hE hA hP hD hl hZ htab hret
  have hS : va_S A s.heap s.heap [] := va_S.rf
  have hl : lv_has ls 4 [(0, .ref h), (1, .int d_), (2, .ref o)] := hl
  refine lv_aload_n hx hb dL_weakest_0 rfl (lv_at hl 2 rfl) ?_
  refine lv_iconst (v := 0) hx hb dL_weakest_1 (by decide) ?_
  refine lv_aload_n hx hb dL_weakest_2 rfl (lv_at hl 0 rfl) ?_
  refine lv_iload_n hx hb dL_weakest_3 rfl (lv_at hl 1 rfl) ?_
  refine kxV_i (n := 1) (X := []) (wc := wH cy h pn a0 a1 a2 a3 a4 a5 a6 a7 a8 b0 b1 b2 b3 b4 b5 b6 b7 fs ss fd ed lm dd ce cw n iss sb fst len off ren que kc pins sd dy) (Y := kout cy o f) (As := [.int d_]) (rest := [.int 0, .ref o]) ⟨hx, hb, hml, hown, hts⟩ hE hA hZ hP hD hS (c_X2_weakest l D cy hfl h pn a0 a1 a2 a3 a4 a5 a6 a7 a8 b0 b1 b2 b3 b4 b5 b6 b7 fs ss fd ed lm dd ce cw n iss sb fst len off ren que kc pins sd dy d_ hn hc) (fun _ => Eq.trans (b := [h, a0, a1, a2, a3, a4, a5, a6, a7, a8, b0, b1, b2, b3, b4, b5, b6, b7, pn]) rfl rfl) (q0 := 0) (ci := 2) rfl rfl gL_weakest_X2_weakest rfl rfl rfl ⟨rfl, by decide, by decide, by decide +kernel⟩ ⟨Nat.le_of_ble_eq_true rfl, Nat.le_of_ble_eq_true rfl⟩ rfl hl.1 rfl (Nat.le_of_ble_eq_true rfl) dL_weakest_4 ⟨Nat.le_of_ble_eq_true rfl, Nat.le_of_ble_eq_true rfl⟩ (fun E ce q9 H locs hpx hP hS h1 h2 h3 => ?_) (fun r u H locs hp hP hD hS => ?_)
  · exact absurd (show xkB E 0 from hcd ▸ hpx) xkB_0
  · obtain ⟨rfl, -⟩ := hp
    refine lv_i2l hx hb dL_weakest_7 rfl ?_
    refine va_last (i := 0) (f := f) hx hb hE.1 hP hD hS 19 2 (a := o) rfl rfl k_in0 dL_weakest_8 (fun H locs hP hD hS => ?_)
    refine lv_goto (tgt := 15) hx hb dL_weakest_9 (by decide) ?_
    refine lv_iconst (v := 0) hx hb dL_weakest_15 (by decide) ?_
    exact hret H locs 16 _ 0 _ _ dL_weakest_16 (by decide) (by decide) rfl hP hS
set_option maxHeartbeats 4000000 in
set_option maxRecDepth 100000 in
theorem c_L_weakest_f (l : Launch) (D : va_G) (cy : ClassId × ClassId × ClassId) (hfl : l.stackTraces = false) (h pn a0 a1 a2 a3 a4 a5 a6 a7 a8 b0 b1 b2 b3 b4 b5 b6 b7 : Nat) (fs ss fd ed lm dd ce cw : Nat → Int32) (n : Nat) (iss sb fst len off ren que : Nat → Int32) (kc : Nat) (pins : Nat → Int32) (sd dy : Int32) (d_ : Int32) (hn : n ≤ 8) (hc : kc ≤ 60) (hcd : ¬ cdD d_ = 0) (o : Nat) (f : Nat → Int64) : kLI l D cy yL_weakest wsL_weakest (krx 8 136) [.ref h, .int d_, .ref o] (wH cy h pn a0 a1 a2 a3 a4 a5 a6 a7 a8 b0 b1 b2 b3 b4 b5 b6 b7 fs ss fd ed lm dd ce cw n iss sb fst len off ren que kc pins sd dy ++ kout cy o f) (fun r : Int32 => r = cdD d_) (wH cy h pn a0 a1 a2 a3 a4 a5 a6 a7 a8 b0 b1 b2 b3 b4 b5 b6 b7 fs ss fd ed lm dd ce cw n iss sb fst len off ren que kc pins sd dy ++ kout cy o f) := by
  refine kLI.of (cc := cL_weakest) (maxL := 4) (hh := [(0, 9, 12, 15)]) (by decide) rfl rfl (Nat.le_of_ble_eq_true rfl) ?_
  intro p e s m args below meth c Q A ls hx hb hml hown hts hE hA hP hD hl hZ htab hret
  have hS : va_S A s.heap s.heap [] := va_S.rf
  have hl : lv_has ls 4 [(0, .ref h), (1, .int d_), (2, .ref o)] := hl
  have k_15 : (Cond.classLink RL 15 xIA).before args s = true := hts _ (List.mem_of_getElem? (i := 1) rfl)
  refine lv_aload_n hx hb dL_weakest_0 rfl (lv_at hl 2 rfl) ?_
  refine lv_iconst (v := 0) hx hb dL_weakest_1 (by decide) ?_
  refine lv_aload_n hx hb dL_weakest_2 rfl (lv_at hl 0 rfl) ?_
  refine lv_iload_n hx hb dL_weakest_3 rfl (lv_at hl 1 rfl) ?_
  refine kxV_i (n := 1) (X := []) (wc := wH cy h pn a0 a1 a2 a3 a4 a5 a6 a7 a8 b0 b1 b2 b3 b4 b5 b6 b7 fs ss fd ed lm dd ce cw n iss sb fst len off ren que kc pins sd dy) (Y := kout cy o f) (As := [.int d_]) (rest := [.int 0, .ref o]) ⟨hx, hb, hml, hown, hts⟩ hE hA hZ hP hD hS (c_X2_weakest l D cy hfl h pn a0 a1 a2 a3 a4 a5 a6 a7 a8 b0 b1 b2 b3 b4 b5 b6 b7 fs ss fd ed lm dd ce cw n iss sb fst len off ren que kc pins sd dy d_ hn hc) (fun _ => Eq.trans (b := [h, a0, a1, a2, a3, a4, a5, a6, a7, a8, b0, b1, b2, b3, b4, b5, b6, b7, pn]) rfl rfl) (q0 := 0) (ci := 2) rfl rfl gL_weakest_X2_weakest rfl rfl rfl ⟨rfl, by decide, by decide, by decide +kernel⟩ ⟨Nat.le_of_ble_eq_true rfl, Nat.le_of_ble_eq_true rfl⟩ rfl hl.1 rfl (Nat.le_of_ble_eq_true rfl) dL_weakest_4 ⟨Nat.le_of_ble_eq_true rfl, Nat.le_of_ble_eq_true rfl⟩ (fun E ce q9 H locs hpx hP hS h1 h2 h3 => ?_) (fun r u H locs hp hP hD hS => ?_)
  · rcases hpx with ⟨rfl, hk⟩ | ⟨rfl, hk⟩
    · refine vx_catch (name := xIA) hown [] ⟨0, 9, 12, 15⟩ [] htab (fun z hz => absurd hz List.not_mem_nil) (by decide) (by decide) k_15 (kl_cast hE (by decide)) h1 h2 h3 ?_
      refine lv_astore_n (lv' := [(3, .ref q9), (0, .ref h), (1, .int d_), (2, .ref o)]) hx hb dL_weakest_12 rfl hl (by decide) rfl (fun ls hl => ?_)
      refine lv_iconst (v := 1) hx hb dL_weakest_13 (by decide) ?_
      exact hret H locs 14 _ 1 _ _ dL_weakest_14 (by decide) (by decide) hk.symm hP hS
    · exact absurd hk cdD_2
  · exact absurd hp.2 hcd
