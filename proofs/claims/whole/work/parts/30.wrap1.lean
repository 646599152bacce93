/-! The law's own methods, first half. -/
set_option maxHeartbeats 4000000 in
set_option maxRecDepth 100000 in
theorem c_L_addIssuer (l : Launch) (D : va_G) (cy : ClassId × ClassId × ClassId) (hfl : l.stackTraces = false) (h pn a0 a1 a2 a3 a4 a5 a6 a7 a8 b0 b1 b2 b3 b4 b5 b6 b7 : Nat) (fs ss fd ed lm dd ce cw : Nat → Int32) (n : Nat) (iss sb fst len off ren que : Nat → Int32) (kc : Nat) (pins : Nat → Int32) (sd dy : Int32) (sg : Int32) (fr_ : Int32) (to_ : Int32) (li_ : Int32) (hn : n ≤ 8) (hfs : ∀ i, i < n → sgP fs i) (hss : ∀ i, i < n → sgP ss i) (hcd : cdAdd n sg fr_ to_ li_ = 0) (o : Nat) (f : Nat → Int64) : kLI l D cy yL_addIssuer wsL_addIssuer (krx 8 127) [.ref h, .int sg, .int fr_, .int to_, .int li_, .ref o] (wH cy h pn a0 a1 a2 a3 a4 a5 a6 a7 a8 b0 b1 b2 b3 b4 b5 b6 b7 fs ss fd ed lm dd ce cw n iss sb fst len off ren que kc pins sd dy ++ kout cy o f) (fun r : Int32 => r = 0) (wH cy h pn a0 a1 a2 a3 a4 a5 a6 a7 a8 b0 b1 b2 b3 b4 b5 b6 b7 (upd fs n sg) (upd ss n (-1)) (upd fd n fr_) (upd ed n to_) (upd lm n li_) (upd dd n (-1)) (ucE (upd fs n sg) (upd ss n (-1)) (upd ed n to_) n ce 1) (ucC (upd fs n sg) (upd ss n (-1)) n cw 1) (n + 1) iss sb fst len off ren que kc pins sd dy ++ kout cy o (vp_updL f 0 (nI n).toInt64)) := by
  refine kLI.of (cc := cL_addIssuer) (maxL := 7) (hh := [(0, 14, 17, 13), (0, 14, 21, 15), (0, 14, 25, 17)]) (by decide) rfl rfl (Nat.le_of_ble_eq_true rfl) ?_
  intro p e s m args below meth c Q A ls hx hb hml hown hts hE hA hP hD hl hZ htab hret
  have hS : va_S A s.heap s.heap [] := va_S.rf
  have hl : lv_has ls 7 [(0, .ref h), (1, .int sg), (2, .int fr_), (3, .int to_), (4, .int li_), (5, .ref o)] := hl
  refine lv_aload hx hb dL_addIssuer_0 (lv_at hl 5 rfl) ?_
  refine lv_iconst (v := 0) hx hb dL_addIssuer_2 (by decide) ?_
  refine lv_aload_n hx hb dL_addIssuer_3 rfl (lv_at hl 0 rfl) ?_
  refine lv_iload_n hx hb dL_addIssuer_4 rfl (lv_at hl 1 rfl) ?_
  refine lv_iload_n hx hb dL_addIssuer_5 rfl (lv_at hl 2 rfl) ?_
  refine lv_iload_n hx hb dL_addIssuer_6 rfl (lv_at hl 3 rfl) ?_
  refine lv_iload hx hb dL_addIssuer_7 (lv_at hl 4 rfl) ?_
  refine kxV_i (n := 4) (X := []) (wc := wH cy h pn a0 a1 a2 a3 a4 a5 a6 a7 a8 b0 b1 b2 b3 b4 b5 b6 b7 fs ss fd ed lm dd ce cw n iss sb fst len off ren que kc pins sd dy) (Y := kout cy o f) (As := [.int sg, .int fr_, .int to_, .int li_]) (rest := [.int 0, .ref o]) ⟨hx, hb, hml, hown, hts⟩ hE hA hZ hP hD hS (c_X2_addIssuer l D cy hfl h pn a0 a1 a2 a3 a4 a5 a6 a7 a8 b0 b1 b2 b3 b4 b5 b6 b7 fs ss fd ed lm dd ce cw n iss sb fst len off ren que kc pins sd dy sg fr_ to_ li_ hn hfs hss) (fun _ => Eq.trans (b := [h, a0, a1, a2, a3, a4, a5, a6, a7, a8, b0, b1, b2, b3, b4, b5, b6, b7, pn]) rfl rfl) (q0 := 0) (ci := 2) rfl rfl gL_addIssuer_X2_addIssuer rfl rfl rfl ⟨rfl, by decide, by decide, by decide +kernel⟩ ⟨Nat.le_of_ble_eq_true rfl, Nat.le_of_ble_eq_true rfl⟩ rfl hl.1 rfl (Nat.le_of_ble_eq_true rfl) dL_addIssuer_9 ⟨Nat.le_of_ble_eq_true rfl, Nat.le_of_ble_eq_true rfl⟩ (fun E ce q9 H locs hpx hP hS h1 h2 h3 => ?_) (fun r u H locs hp hP hD hS => ?_)
  · exact absurd (show xkA E 0 from hcd ▸ hpx) xkA_0
  · obtain ⟨rfl, -⟩ := hp
    refine lv_i2l hx hb dL_addIssuer_12 rfl ?_
    refine va_last (i := 0) (f := f) hx hb hE.1 hP hD hS 19 2 (a := o) rfl rfl k_in0 dL_addIssuer_13 (fun H locs hP hD hS => ?_)
    refine lv_goto (tgt := 29) hx hb dL_addIssuer_14 (by decide) ?_
    refine lv_iconst (v := 0) hx hb dL_addIssuer_29 (by decide) ?_
    exact hret H locs 30 _ 0 _ _ dL_addIssuer_30 (by decide) (by decide) rfl hP hS
set_option maxHeartbeats 4000000 in
set_option maxRecDepth 100000 in
theorem c_L_addIssuer_f (l : Launch) (D : va_G) (cy : ClassId × ClassId × ClassId) (hfl : l.stackTraces = false) (h pn a0 a1 a2 a3 a4 a5 a6 a7 a8 b0 b1 b2 b3 b4 b5 b6 b7 : Nat) (fs ss fd ed lm dd ce cw : Nat → Int32) (n : Nat) (iss sb fst len off ren que : Nat → Int32) (kc : Nat) (pins : Nat → Int32) (sd dy : Int32) (sg : Int32) (fr_ : Int32) (to_ : Int32) (li_ : Int32) (hn : n ≤ 8) (hfs : ∀ i, i < n → sgP fs i) (hss : ∀ i, i < n → sgP ss i) (hcd : ¬ cdAdd n sg fr_ to_ li_ = 0) (o : Nat) (f : Nat → Int64) : kLI l D cy yL_addIssuer wsL_addIssuer (krx 8 127) [.ref h, .int sg, .int fr_, .int to_, .int li_, .ref o] (wH cy h pn a0 a1 a2 a3 a4 a5 a6 a7 a8 b0 b1 b2 b3 b4 b5 b6 b7 fs ss fd ed lm dd ce cw n iss sb fst len off ren que kc pins sd dy ++ kout cy o f) (fun r : Int32 => r = cdAdd n sg fr_ to_ li_) (wH cy h pn a0 a1 a2 a3 a4 a5 a6 a7 a8 b0 b1 b2 b3 b4 b5 b6 b7 fs ss fd ed lm dd ce cw n iss sb fst len off ren que kc pins sd dy ++ kout cy o f) := by
  refine kLI.of (cc := cL_addIssuer) (maxL := 7) (hh := [(0, 14, 17, 13), (0, 14, 21, 15), (0, 14, 25, 17)]) (by decide) rfl rfl (Nat.le_of_ble_eq_true rfl) ?_
  intro p e s m args below meth c Q A ls hx hb hml hown hts hE hA hP hD hl hZ htab hret
  have hS : va_S A s.heap s.heap [] := va_S.rf
  have hl : lv_has ls 7 [(0, .ref h), (1, .int sg), (2, .int fr_), (3, .int to_), (4, .int li_), (5, .ref o)] := hl
  have k_13 : (Cond.classLink RL 13 xIX).before args s = true := hts _ (List.mem_of_getElem? (i := 1) rfl)
  have k_15 : (Cond.classLink RL 15 xIA).before args s = true := hts _ (List.mem_of_getElem? (i := 2) rfl)
  have k_17 : (Cond.classLink RL 17 xIS).before args s = true := hts _ (List.mem_of_getElem? (i := 3) rfl)
  refine lv_aload hx hb dL_addIssuer_0 (lv_at hl 5 rfl) ?_
  refine lv_iconst (v := 0) hx hb dL_addIssuer_2 (by decide) ?_
  refine lv_aload_n hx hb dL_addIssuer_3 rfl (lv_at hl 0 rfl) ?_
  refine lv_iload_n hx hb dL_addIssuer_4 rfl (lv_at hl 1 rfl) ?_
  refine lv_iload_n hx hb dL_addIssuer_5 rfl (lv_at hl 2 rfl) ?_
  refine lv_iload_n hx hb dL_addIssuer_6 rfl (lv_at hl 3 rfl) ?_
  refine lv_iload hx hb dL_addIssuer_7 (lv_at hl 4 rfl) ?_
  refine kxV_i (n := 4) (X := []) (wc := wH cy h pn a0 a1 a2 a3 a4 a5 a6 a7 a8 b0 b1 b2 b3 b4 b5 b6 b7 fs ss fd ed lm dd ce cw n iss sb fst len off ren que kc pins sd dy) (Y := kout cy o f) (As := [.int sg, .int fr_, .int to_, .int li_]) (rest := [.int 0, .ref o]) ⟨hx, hb, hml, hown, hts⟩ hE hA hZ hP hD hS (c_X2_addIssuer l D cy hfl h pn a0 a1 a2 a3 a4 a5 a6 a7 a8 b0 b1 b2 b3 b4 b5 b6 b7 fs ss fd ed lm dd ce cw n iss sb fst len off ren que kc pins sd dy sg fr_ to_ li_ hn hfs hss) (fun _ => Eq.trans (b := [h, a0, a1, a2, a3, a4, a5, a6, a7, a8, b0, b1, b2, b3, b4, b5, b6, b7, pn]) rfl rfl) (q0 := 0) (ci := 2) rfl rfl gL_addIssuer_X2_addIssuer rfl rfl rfl ⟨rfl, by decide, by decide, by decide +kernel⟩ ⟨Nat.le_of_ble_eq_true rfl, Nat.le_of_ble_eq_true rfl⟩ rfl hl.1 rfl (Nat.le_of_ble_eq_true rfl) dL_addIssuer_9 ⟨Nat.le_of_ble_eq_true rfl, Nat.le_of_ble_eq_true rfl⟩ (fun E ce q9 H locs hpx hP hS h1 h2 h3 => ?_) (fun r u H locs hp hP hD hS => ?_)
  · rcases hpx with ⟨rfl, hk⟩ | ⟨rfl, hk⟩ | ⟨rfl, hk⟩
    · refine vx_catch (name := xIX) hown [] ⟨0, 14, 17, 13⟩ [⟨0, 14, 21, 15⟩, ⟨0, 14, 25, 17⟩] htab (fun z hz => absurd hz List.not_mem_nil) (by decide) (by decide) k_13 (kl_cast hE (by decide)) h1 h2 h3 ?_
      refine lv_astore (lv' := [(6, .ref q9), (0, .ref h), (1, .int sg), (2, .int fr_), (3, .int to_), (4, .int li_), (5, .ref o)]) hx hb dL_addIssuer_17 hl (by decide) rfl (fun ls hl => ?_)
      refine lv_iconst (v := 1) hx hb dL_addIssuer_19 (by decide) ?_
      exact hret H locs 20 _ 1 _ _ dL_addIssuer_20 (by decide) (by decide) hk.symm hP hS
    · refine vx_catch (name := xIA) hown [⟨0, 14, 17, 13⟩] ⟨0, 14, 21, 15⟩ [⟨0, 14, 25, 17⟩] htab (List.forall_mem_cons.mpr ⟨Or.inr ⟨by decide, xIX, k_13, kl_nc1 hE⟩, fun z hz => absurd hz List.not_mem_nil⟩) (by decide) (by decide) k_15 (kl_cast hE (by decide)) h1 h2 h3 ?_
      refine lv_astore (lv' := [(6, .ref q9), (0, .ref h), (1, .int sg), (2, .int fr_), (3, .int to_), (4, .int li_), (5, .ref o)]) hx hb dL_addIssuer_21 hl (by decide) rfl (fun ls hl => ?_)
      refine lv_iconst (v := 2) hx hb dL_addIssuer_23 (by decide) ?_
      exact hret H locs 24 _ 2 _ _ dL_addIssuer_24 (by decide) (by decide) hk.symm hP hS
    · refine vx_catch (name := xIS) hown [⟨0, 14, 17, 13⟩, ⟨0, 14, 21, 15⟩] ⟨0, 14, 25, 17⟩ [] htab (List.forall_mem_cons.mpr ⟨Or.inr ⟨by decide, xIX, k_13, kl_nc2 hE⟩, List.forall_mem_cons.mpr ⟨Or.inr ⟨by decide, xIA, k_15, kl_nc3 hE⟩, fun z hz => absurd hz List.not_mem_nil⟩⟩) (by decide) (by decide) k_17 (kl_cast hE (by decide)) h1 h2 h3 ?_
      refine lv_astore (lv' := [(6, .ref q9), (0, .ref h), (1, .int sg), (2, .int fr_), (3, .int to_), (4, .int li_), (5, .ref o)]) hx hb dL_addIssuer_25 hl (by decide) rfl (fun ls hl => ?_)
      refine lv_iconst (v := 3) hx hb dL_addIssuer_27 (by decide) ?_
      exact hret H locs 28 _ 3 _ _ dL_addIssuer_28 (by decide) (by decide) hk.symm hP hS
  · exact absurd hp.2 hcd
set_option maxHeartbeats 4000000 in
set_option maxRecDepth 100000 in
theorem c_L_cross (l : Launch) (D : va_G) (cy : ClassId × ClassId × ClassId) (hfl : l.stackTraces = false) (h pn a0 a1 a2 a3 a4 a5 a6 a7 a8 b0 b1 b2 b3 b4 b5 b6 b7 : Nat) (fs ss fd ed lm dd ce cw : Nat → Int32) (n : Nat) (iss sb fst len off ren que : Nat → Int32) (kc : Nat) (pins : Nat → Int32) (sd dy : Int32) (i_ : Int32) (s_ : Int32) (hn : n ≤ 8) (hfs : ∀ i, i < n → sgP fs i) (hss : ∀ i, i < n → sgP ss i) (hcd : cdCross n fs ss i_ s_ = 0) (o : Nat) (f : Nat → Int64) : kLI l D cy yL_cross wsL_cross (krx 8 125) [.ref h, .int i_, .int s_, .ref o] (wH cy h pn a0 a1 a2 a3 a4 a5 a6 a7 a8 b0 b1 b2 b3 b4 b5 b6 b7 fs ss fd ed lm dd ce cw n iss sb fst len off ren que kc pins sd dy ++ kout cy o f) (fun r : Int32 => r = 0) (wH cy h pn a0 a1 a2 a3 a4 a5 a6 a7 a8 b0 b1 b2 b3 b4 b5 b6 b7 fs (upd ss (ix i_) (nI (ix s_))) fd ed lm dd (ucE fs (upd ss (ix i_) (nI (ix s_))) ed (ix i_) ce (n - ix i_)) (ucC fs (upd ss (ix i_) (nI (ix s_))) (ix i_) cw (n - ix i_)) n iss sb fst len off ren que kc pins sd dy ++ kout cy o (vp_updL f 0 (ucE fs (upd ss (ix i_) (nI (ix s_))) ed (ix i_) ce (n - ix i_) (ix i_)).toInt64)) := by
  refine kLI.of (cc := cL_cross) (maxL := 5) (hh := [(0, 10, 13, 13), (0, 10, 17, 15), (0, 10, 21, 17)]) (by decide) rfl rfl (Nat.le_of_ble_eq_true rfl) ?_
  intro p e s m args below meth c Q A ls hx hb hml hown hts hE hA hP hD hl hZ htab hret
  have hS : va_S A s.heap s.heap [] := va_S.rf
  have hl : lv_has ls 5 [(0, .ref h), (1, .int i_), (2, .int s_), (3, .ref o)] := hl
  refine lv_aload_n hx hb dL_cross_0 rfl (lv_at hl 3 rfl) ?_
  refine lv_iconst (v := 0) hx hb dL_cross_1 (by decide) ?_
  refine lv_aload_n hx hb dL_cross_2 rfl (lv_at hl 0 rfl) ?_
  refine lv_iload_n hx hb dL_cross_3 rfl (lv_at hl 1 rfl) ?_
  refine lv_iload_n hx hb dL_cross_4 rfl (lv_at hl 2 rfl) ?_
  refine kxV_i (n := 2) (X := []) (wc := wH cy h pn a0 a1 a2 a3 a4 a5 a6 a7 a8 b0 b1 b2 b3 b4 b5 b6 b7 fs ss fd ed lm dd ce cw n iss sb fst len off ren que kc pins sd dy) (Y := kout cy o f) (As := [.int i_, .int s_]) (rest := [.int 0, .ref o]) ⟨hx, hb, hml, hown, hts⟩ hE hA hZ hP hD hS (c_X2_cross l D cy hfl h pn a0 a1 a2 a3 a4 a5 a6 a7 a8 b0 b1 b2 b3 b4 b5 b6 b7 fs ss fd ed lm dd ce cw n iss sb fst len off ren que kc pins sd dy i_ s_ hn hfs hss) (fun _ => Eq.trans (b := [h, a0, a1, a2, a3, a4, a5, a6, a7, a8, b0, b1, b2, b3, b4, b5, b6, b7, pn]) rfl rfl) (q0 := 0) (ci := 2) rfl rfl gL_cross_X2_cross rfl rfl rfl ⟨rfl, by decide, by decide, by decide +kernel⟩ ⟨Nat.le_of_ble_eq_true rfl, Nat.le_of_ble_eq_true rfl⟩ rfl hl.1 rfl (Nat.le_of_ble_eq_true rfl) dL_cross_5 ⟨Nat.le_of_ble_eq_true rfl, Nat.le_of_ble_eq_true rfl⟩ (fun E ce q9 H locs hpx hP hS h1 h2 h3 => ?_) (fun r u H locs hp hP hD hS => ?_)
  · exact absurd (show xkA E 0 from hcd ▸ hpx) xkA_0
  · obtain ⟨rfl, -⟩ := hp
    refine lv_i2l hx hb dL_cross_8 rfl ?_
    refine va_last (i := 0) (f := f) hx hb hE.1 hP hD hS 19 2 (a := o) rfl rfl k_in0 dL_cross_9 (fun H locs hP hD hS => ?_)
    refine lv_goto (tgt := 25) hx hb dL_cross_10 (by decide) ?_
    refine lv_iconst (v := 0) hx hb dL_cross_25 (by decide) ?_
    exact hret H locs 26 _ 0 _ _ dL_cross_26 (by decide) (by decide) rfl hP hS
set_option maxHeartbeats 4000000 in
set_option maxRecDepth 100000 in
theorem c_L_cross_f (l : Launch) (D : va_G) (cy : ClassId × ClassId × ClassId) (hfl : l.stackTraces = false) (h pn a0 a1 a2 a3 a4 a5 a6 a7 a8 b0 b1 b2 b3 b4 b5 b6 b7 : Nat) (fs ss fd ed lm dd ce cw : Nat → Int32) (n : Nat) (iss sb fst len off ren que : Nat → Int32) (kc : Nat) (pins : Nat → Int32) (sd dy : Int32) (i_ : Int32) (s_ : Int32) (hn : n ≤ 8) (hfs : ∀ i, i < n → sgP fs i) (hss : ∀ i, i < n → sgP ss i) (hcd : ¬ cdCross n fs ss i_ s_ = 0) (o : Nat) (f : Nat → Int64) : kLI l D cy yL_cross wsL_cross (krx 8 125) [.ref h, .int i_, .int s_, .ref o] (wH cy h pn a0 a1 a2 a3 a4 a5 a6 a7 a8 b0 b1 b2 b3 b4 b5 b6 b7 fs ss fd ed lm dd ce cw n iss sb fst len off ren que kc pins sd dy ++ kout cy o f) (fun r : Int32 => r = cdCross n fs ss i_ s_) (wH cy h pn a0 a1 a2 a3 a4 a5 a6 a7 a8 b0 b1 b2 b3 b4 b5 b6 b7 fs ss fd ed lm dd ce cw n iss sb fst len off ren que kc pins sd dy ++ kout cy o f) := by
  refine kLI.of (cc := cL_cross) (maxL := 5) (hh := [(0, 10, 13, 13), (0, 10, 17, 15), (0, 10, 21, 17)]) (by decide) rfl rfl (Nat.le_of_ble_eq_true rfl) ?_
  intro p e s m args below meth c Q A ls hx hb hml hown hts hE hA hP hD hl hZ htab hret
  have hS : va_S A s.heap s.heap [] := va_S.rf
  have hl : lv_has ls 5 [(0, .ref h), (1, .int i_), (2, .int s_), (3, .ref o)] := hl
  have k_13 : (Cond.classLink RL 13 xIX).before args s = true := hts _ (List.mem_of_getElem? (i := 1) rfl)
  have k_15 : (Cond.classLink RL 15 xIA).before args s = true := hts _ (List.mem_of_getElem? (i := 2) rfl)
  have k_17 : (Cond.classLink RL 17 xIS).before args s = true := hts _ (List.mem_of_getElem? (i := 3) rfl)
  refine lv_aload_n hx hb dL_cross_0 rfl (lv_at hl 3 rfl) ?_
  refine lv_iconst (v := 0) hx hb dL_cross_1 (by decide) ?_
  refine lv_aload_n hx hb dL_cross_2 rfl (lv_at hl 0 rfl) ?_
  refine lv_iload_n hx hb dL_cross_3 rfl (lv_at hl 1 rfl) ?_
  refine lv_iload_n hx hb dL_cross_4 rfl (lv_at hl 2 rfl) ?_
  refine kxV_i (n := 2) (X := []) (wc := wH cy h pn a0 a1 a2 a3 a4 a5 a6 a7 a8 b0 b1 b2 b3 b4 b5 b6 b7 fs ss fd ed lm dd ce cw n iss sb fst len off ren que kc pins sd dy) (Y := kout cy o f) (As := [.int i_, .int s_]) (rest := [.int 0, .ref o]) ⟨hx, hb, hml, hown, hts⟩ hE hA hZ hP hD hS (c_X2_cross l D cy hfl h pn a0 a1 a2 a3 a4 a5 a6 a7 a8 b0 b1 b2 b3 b4 b5 b6 b7 fs ss fd ed lm dd ce cw n iss sb fst len off ren que kc pins sd dy i_ s_ hn hfs hss) (fun _ => Eq.trans (b := [h, a0, a1, a2, a3, a4, a5, a6, a7, a8, b0, b1, b2, b3, b4, b5, b6, b7, pn]) rfl rfl) (q0 := 0) (ci := 2) rfl rfl gL_cross_X2_cross rfl rfl rfl ⟨rfl, by decide, by decide, by decide +kernel⟩ ⟨Nat.le_of_ble_eq_true rfl, Nat.le_of_ble_eq_true rfl⟩ rfl hl.1 rfl (Nat.le_of_ble_eq_true rfl) dL_cross_5 ⟨Nat.le_of_ble_eq_true rfl, Nat.le_of_ble_eq_true rfl⟩ (fun E ce q9 H locs hpx hP hS h1 h2 h3 => ?_) (fun r u H locs hp hP hD hS => ?_)
  · rcases hpx with ⟨rfl, hk⟩ | ⟨rfl, hk⟩ | ⟨rfl, hk⟩
    · refine vx_catch (name := xIX) hown [] ⟨0, 10, 13, 13⟩ [⟨0, 10, 17, 15⟩, ⟨0, 10, 21, 17⟩] htab (fun z hz => absurd hz List.not_mem_nil) (by decide) (by decide) k_13 (kl_cast hE (by decide)) h1 h2 h3 ?_
      refine lv_astore (lv' := [(4, .ref q9), (0, .ref h), (1, .int i_), (2, .int s_), (3, .ref o)]) hx hb dL_cross_13 hl (by decide) rfl (fun ls hl => ?_)
      refine lv_iconst (v := 1) hx hb dL_cross_15 (by decide) ?_
      exact hret H locs 16 _ 1 _ _ dL_cross_16 (by decide) (by decide) hk.symm hP hS
    · refine vx_catch (name := xIA) hown [⟨0, 10, 13, 13⟩] ⟨0, 10, 17, 15⟩ [⟨0, 10, 21, 17⟩] htab (List.forall_mem_cons.mpr ⟨Or.inr ⟨by decide, xIX, k_13, kl_nc1 hE⟩, fun z hz => absurd hz List.not_mem_nil⟩) (by decide) (by decide) k_15 (kl_cast hE (by decide)) h1 h2 h3 ?_
      refine lv_astore (lv' := [(4, .ref q9), (0, .ref h), (1, .int i_), (2, .int s_), (3, .ref o)]) hx hb dL_cross_17 hl (by decide) rfl (fun ls hl => ?_)
      refine lv_iconst (v := 2) hx hb dL_cross_19 (by decide) ?_
      exact hret H locs 20 _ 2 _ _ dL_cross_20 (by decide) (by decide) hk.symm hP hS
    · refine vx_catch (name := xIS) hown [⟨0, 10, 13, 13⟩, ⟨0, 10, 17, 15⟩] ⟨0, 10, 21, 17⟩ [] htab (List.forall_mem_cons.mpr ⟨Or.inr ⟨by decide, xIX, k_13, kl_nc2 hE⟩, List.forall_mem_cons.mpr ⟨Or.inr ⟨by decide, xIA, k_15, kl_nc3 hE⟩, fun z hz => absurd hz List.not_mem_nil⟩⟩) (by decide) (by decide) k_17 (kl_cast hE (by decide)) h1 h2 h3 ?_
      refine lv_astore (lv' := [(4, .ref q9), (0, .ref h), (1, .int i_), (2, .int s_), (3, .ref o)]) hx hb dL_cross_21 hl (by decide) rfl (fun ls hl => ?_)
      refine lv_iconst (v := 3) hx hb dL_cross_23 (by decide) ?_
      exact hret H locs 24 _ 3 _ _ dL_cross_24 (by decide) (by decide) hk.symm hP hS
  · exact absurd hp.2 hcd
set_option maxHeartbeats 4000000 in
set_option maxRecDepth 100000 in
theorem c_L_distrust (l : Launch) (D : va_G) (cy : ClassId × ClassId × ClassId) (hfl : l.stackTraces = false) (h pn a0 a1 a2 a3 a4 a5 a6 a7 a8 b0 b1 b2 b3 b4 b5 b6 b7 : Nat) (fs ss fd ed lm dd ce cw : Nat → Int32) (n : Nat) (iss sb fst len off ren que : Nat → Int32) (kc : Nat) (pins : Nat → Int32) (sd dy : Int32) (i_ : Int32) (d_ : Int32) (hn : n ≤ 8) (hcd : cdDis n i_ d_ = 0) (o : Nat) (f : Nat → Int64) : kLI l D cy yL_distrust wsL_distrust (krx 8 126) [.ref h, .int i_, .int d_, .ref o] (wH cy h pn a0 a1 a2 a3 a4 a5 a6 a7 a8 b0 b1 b2 b3 b4 b5 b6 b7 fs ss fd ed lm dd ce cw n iss sb fst len off ren que kc pins sd dy ++ kout cy o f) (fun r : Int32 => r = 0) (wH cy h pn a0 a1 a2 a3 a4 a5 a6 a7 a8 b0 b1 b2 b3 b4 b5 b6 b7 fs ss fd ed lm (upd dd (ix i_) d_) ce cw n iss sb fst len off ren que kc pins sd dy ++ kout cy o (vp_updL f 0 (dd (ix i_)).toInt64)) := by
  refine kLI.of (cc := cL_distrust) (maxL := 5) (hh := [(0, 10, 13, 13), (0, 10, 17, 15)]) (by decide) rfl rfl (Nat.le_of_ble_eq_true rfl) ?_
  intro p e s m args below meth c Q A ls hx hb hml hown hts hE hA hP hD hl hZ htab hret
  have hS : va_S A s.heap s.heap [] := va_S.rf
  have hl : lv_has ls 5 [(0, .ref h), (1, .int i_), (2, .int d_), (3, .ref o)] := hl
  refine lv_aload_n hx hb dL_distrust_0 rfl (lv_at hl 3 rfl) ?_
  refine lv_iconst (v := 0) hx hb dL_distrust_1 (by decide) ?_
  refine lv_aload_n hx hb dL_distrust_2 rfl (lv_at hl 0 rfl) ?_
  refine lv_iload_n hx hb dL_distrust_3 rfl (lv_at hl 1 rfl) ?_
  refine lv_iload_n hx hb dL_distrust_4 rfl (lv_at hl 2 rfl) ?_
  refine kxV_i (n := 2) (X := []) (wc := wH cy h pn a0 a1 a2 a3 a4 a5 a6 a7 a8 b0 b1 b2 b3 b4 b5 b6 b7 fs ss fd ed lm dd ce cw n iss sb fst len off ren que kc pins sd dy) (Y := kout cy o f) (As := [.int i_, .int d_]) (rest := [.int 0, .ref o]) ⟨hx, hb, hml, hown, hts⟩ hE hA hZ hP hD hS (c_X2_distrust l D cy hfl h pn a0 a1 a2 a3 a4 a5 a6 a7 a8 b0 b1 b2 b3 b4 b5 b6 b7 fs ss fd ed lm dd ce cw n iss sb fst len off ren que kc pins sd dy i_ d_ hn) (fun _ => Eq.trans (b := [h, a0, a1, a2, a3, a4, a5, a6, a7, a8, b0, b1, b2, b3, b4, b5, b6, b7, pn]) rfl rfl) (q0 := 0) (ci := 2) rfl rfl gL_distrust_X2_distrust rfl rfl rfl ⟨rfl, by decide, by decide, by decide +kernel⟩ ⟨Nat.le_of_ble_eq_true rfl, Nat.le_of_ble_eq_true rfl⟩ rfl hl.1 rfl (Nat.le_of_ble_eq_true rfl) dL_distrust_5 ⟨Nat.le_of_ble_eq_true rfl, Nat.le_of_ble_eq_true rfl⟩ (fun E ce q9 H locs hpx hP hS h1 h2 h3 => ?_) (fun r u H locs hp hP hD hS => ?_)
  · exact absurd (show xkA E 0 from hcd ▸ hpx) xkA_0
  · obtain ⟨rfl, -⟩ := hp
    refine lv_i2l hx hb dL_distrust_8 rfl ?_
    refine va_last (i := 0) (f := f) hx hb hE.1 hP hD hS 19 2 (a := o) rfl rfl k_in0 dL_distrust_9 (fun H locs hP hD hS => ?_)
    refine lv_goto (tgt := 21) hx hb dL_distrust_10 (by decide) ?_
    refine lv_iconst (v := 0) hx hb dL_distrust_21 (by decide) ?_
    exact hret H locs 22 _ 0 _ _ dL_distrust_22 (by decide) (by decide) rfl hP hS
set_option maxHeartbeats 4000000 in
set_option maxRecDepth 100000 in
theorem c_L_distrust_f (l : Launch) (D : va_G) (cy : ClassId × ClassId × ClassId) (hfl : l.stackTraces = false) (h pn a0 a1 a2 a3 a4 a5 a6 a7 a8 b0 b1 b2 b3 b4 b5 b6 b7 : Nat) (fs ss fd ed lm dd ce cw : Nat → Int32) (n : Nat) (iss sb fst len off ren que : Nat → Int32) (kc : Nat) (pins : Nat → Int32) (sd dy : Int32) (i_ : Int32) (d_ : Int32) (hn : n ≤ 8) (hcd : ¬ cdDis n i_ d_ = 0) (o : Nat) (f : Nat → Int64) : kLI l D cy yL_distrust wsL_distrust (krx 8 126) [.ref h, .int i_, .int d_, .ref o] (wH cy h pn a0 a1 a2 a3 a4 a5 a6 a7 a8 b0 b1 b2 b3 b4 b5 b6 b7 fs ss fd ed lm dd ce cw n iss sb fst len off ren que kc pins sd dy ++ kout cy o f) (fun r : Int32 => r = cdDis n i_ d_) (wH cy h pn a0 a1 a2 a3 a4 a5 a6 a7 a8 b0 b1 b2 b3 b4 b5 b6 b7 fs ss fd ed lm dd ce cw n iss sb fst len off ren que kc pins sd dy ++ kout cy o f) := by
  refine kLI.of (cc := cL_distrust) (maxL := 5) (hh := [(0, 10, 13, 13), (0, 10, 17, 15)]) (by decide) rfl rfl (Nat.le_of_ble_eq_true rfl) ?_
  intro p e s m args below meth c Q A ls hx hb hml hown hts hE hA hP hD hl hZ htab hret
  have hS : va_S A s.heap s.heap [] := va_S.rf
  have hl : lv_has ls 5 [(0, .ref h), (1, .int i_), (2, .int d_), (3, .ref o)] := hl
  have k_13 : (Cond.classLink RL 13 xIX).before args s = true := hts _ (List.mem_of_getElem? (i := 1) rfl)
  have k_15 : (Cond.classLink RL 15 xIA).before args s = true := hts _ (List.mem_of_getElem? (i := 2) rfl)
  refine lv_aload_n hx hb dL_distrust_0 rfl (lv_at hl 3 rfl) ?_
  refine lv_iconst (v := 0) hx hb dL_distrust_1 (by decide) ?_
  refine lv_aload_n hx hb dL_distrust_2 rfl (lv_at hl 0 rfl) ?_
  refine lv_iload_n hx hb dL_distrust_3 rfl (lv_at hl 1 rfl) ?_
  refine lv_iload_n hx hb dL_distrust_4 rfl (lv_at hl 2 rfl) ?_
  refine kxV_i (n := 2) (X := []) (wc := wH cy h pn a0 a1 a2 a3 a4 a5 a6 a7 a8 b0 b1 b2 b3 b4 b5 b6 b7 fs ss fd ed lm dd ce cw n iss sb fst len off ren que kc pins sd dy) (Y := kout cy o f) (As := [.int i_, .int d_]) (rest := [.int 0, .ref o]) ⟨hx, hb, hml, hown, hts⟩ hE hA hZ hP hD hS (c_X2_distrust l D cy hfl h pn a0 a1 a2 a3 a4 a5 a6 a7 a8 b0 b1 b2 b3 b4 b5 b6 b7 fs ss fd ed lm dd ce cw n iss sb fst len off ren que kc pins sd dy i_ d_ hn) (fun _ => Eq.trans (b := [h, a0, a1, a2, a3, a4, a5, a6, a7, a8, b0, b1, b2, b3, b4, b5, b6, b7, pn]) rfl rfl) (q0 := 0) (ci := 2) rfl rfl gL_distrust_X2_distrust rfl rfl rfl ⟨rfl, by decide, by decide, by decide +kernel⟩ ⟨Nat.le_of_ble_eq_true rfl, Nat.le_of_ble_eq_true rfl⟩ rfl hl.1 rfl (Nat.le_of_ble_eq_true rfl) dL_distrust_5 ⟨Nat.le_of_ble_eq_true rfl, Nat.le_of_ble_eq_true rfl⟩ (fun E ce q9 H locs hpx hP hS h1 h2 h3 => ?_) (fun r u H locs hp hP hD hS => ?_)
  · rcases hpx with ⟨rfl, hk⟩ | ⟨rfl, hk⟩ | ⟨rfl, hk⟩
    · refine vx_catch (name := xIX) hown [] ⟨0, 10, 13, 13⟩ [⟨0, 10, 17, 15⟩] htab (fun z hz => absurd hz List.not_mem_nil) (by decide) (by decide) k_13 (kl_cast hE (by decide)) h1 h2 h3 ?_
      refine lv_astore (lv' := [(4, .ref q9), (0, .ref h), (1, .int i_), (2, .int d_), (3, .ref o)]) hx hb dL_distrust_13 hl (by decide) rfl (fun ls hl => ?_)
      refine lv_iconst (v := 1) hx hb dL_distrust_15 (by decide) ?_
      exact hret H locs 16 _ 1 _ _ dL_distrust_16 (by decide) (by decide) hk.symm hP hS
    · refine vx_catch (name := xIA) hown [⟨0, 10, 13, 13⟩] ⟨0, 10, 17, 15⟩ [] htab (List.forall_mem_cons.mpr ⟨Or.inr ⟨by decide, xIX, k_13, kl_nc1 hE⟩, fun z hz => absurd hz List.not_mem_nil⟩) (by decide) (by decide) k_15 (kl_cast hE (by decide)) h1 h2 h3 ?_
      refine lv_astore (lv' := [(4, .ref q9), (0, .ref h), (1, .int i_), (2, .int d_), (3, .ref o)]) hx hb dL_distrust_17 hl (by decide) rfl (fun ls hl => ?_)
      refine lv_iconst (v := 2) hx hb dL_distrust_19 (by decide) ?_
      exact hret H locs 20 _ 2 _ _ dL_distrust_20 (by decide) (by decide) hk.symm hP hS
    · exact absurd hk cdDis_3
  · exact absurd hp.2 hcd
set_option maxHeartbeats 4000000 in
set_option maxRecDepth 100000 in
theorem c_L_pin (l : Launch) (D : va_G) (cy : ClassId × ClassId × ClassId) (hfl : l.stackTraces = false) (h pn a0 a1 a2 a3 a4 a5 a6 a7 a8 b0 b1 b2 b3 b4 b5 b6 b7 : Nat) (fs ss fd ed lm dd ce cw : Nat → Int32) (n : Nat) (iss sb fst len off ren que : Nat → Int32) (kc : Nat) (pins : Nat → Int32) (sd dy : Int32) (x_ : Int32) (v_ : Int32) (hcd : cdPin x_ v_ = 0) (o : Nat) (f : Nat → Int64) : kLI l D cy yL_pin wsL_pin (krx 8 125) [.ref h, .int x_, .int v_, .ref o] (wH cy h pn a0 a1 a2 a3 a4 a5 a6 a7 a8 b0 b1 b2 b3 b4 b5 b6 b7 fs ss fd ed lm dd ce cw n iss sb fst len off ren que kc pins sd dy ++ kout cy o f) (fun r : Int32 => r = 0) (wH cy h pn a0 a1 a2 a3 a4 a5 a6 a7 a8 b0 b1 b2 b3 b4 b5 b6 b7 fs ss fd ed lm dd ce cw n iss sb fst len off ren que kc (upd pins (ix x_) v_) sd dy ++ kout cy o (vp_updL f 0 (pins (ix x_)).toInt64)) := by
  refine kLI.of (cc := cL_pin) (maxL := 5) (hh := [(0, 10, 13, 13), (0, 10, 17, 15)]) (by decide) rfl rfl (Nat.le_of_ble_eq_true rfl) ?_
  intro p e s m args below meth c Q A ls hx hb hml hown hts hE hA hP hD hl hZ htab hret
  have hS : va_S A s.heap s.heap [] := va_S.rf
  have hl : lv_has ls 5 [(0, .ref h), (1, .int x_), (2, .int v_), (3, .ref o)] := hl
  refine lv_aload_n hx hb dL_pin_0 rfl (lv_at hl 3 rfl) ?_
  refine lv_iconst (v := 0) hx hb dL_pin_1 (by decide) ?_
  refine lv_aload_n hx hb dL_pin_2 rfl (lv_at hl 0 rfl) ?_
  refine lv_iload_n hx hb dL_pin_3 rfl (lv_at hl 1 rfl) ?_
  refine lv_iload_n hx hb dL_pin_4 rfl (lv_at hl 2 rfl) ?_
  refine kxV_i (n := 2) (X := []) (wc := wH cy h pn a0 a1 a2 a3 a4 a5 a6 a7 a8 b0 b1 b2 b3 b4 b5 b6 b7 fs ss fd ed lm dd ce cw n iss sb fst len off ren que kc pins sd dy) (Y := kout cy o f) (As := [.int x_, .int v_]) (rest := [.int 0, .ref o]) ⟨hx, hb, hml, hown, hts⟩ hE hA hZ hP hD hS (c_X2_pin l D cy hfl h pn a0 a1 a2 a3 a4 a5 a6 a7 a8 b0 b1 b2 b3 b4 b5 b6 b7 fs ss fd ed lm dd ce cw n iss sb fst len off ren que kc pins sd dy x_ v_ ) (fun _ => Eq.trans (b := [h, a0, a1, a2, a3, a4, a5, a6, a7, a8, b0, b1, b2, b3, b4, b5, b6, b7, pn]) rfl rfl) (q0 := 0) (ci := 2) rfl rfl gL_pin_X2_pin rfl rfl rfl ⟨rfl, by decide, by decide, by decide +kernel⟩ ⟨Nat.le_of_ble_eq_true rfl, Nat.le_of_ble_eq_true rfl⟩ rfl hl.1 rfl (Nat.le_of_ble_eq_true rfl) dL_pin_5 ⟨Nat.le_of_ble_eq_true rfl, Nat.le_of_ble_eq_true rfl⟩ (fun E ce q9 H locs hpx hP hS h1 h2 h3 => ?_) (fun r u H locs hp hP hD hS => ?_)
  · exact absurd (show xkA E 0 from hcd ▸ hpx) xkA_0
  · obtain ⟨rfl, -⟩ := hp
    refine lv_i2l hx hb dL_pin_8 rfl ?_
    refine va_last (i := 0) (f := f) hx hb hE.1 hP hD hS 19 2 (a := o) rfl rfl k_in0 dL_pin_9 (fun H locs hP hD hS => ?_)
    refine lv_goto (tgt := 21) hx hb dL_pin_10 (by decide) ?_
    refine lv_iconst (v := 0) hx hb dL_pin_21 (by decide) ?_
    exact hret H locs 22 _ 0 _ _ dL_pin_22 (by decide) (by decide) rfl hP hS
set_option maxHeartbeats 4000000 in
set_option maxRecDepth 100000 in
theorem c_L_pin_f (l : Launch) (D : va_G) (cy : ClassId × ClassId × ClassId) (hfl : l.stackTraces = false) (h pn a0 a1 a2 a3 a4 a5 a6 a7 a8 b0 b1 b2 b3 b4 b5 b6 b7 : Nat) (fs ss fd ed lm dd ce cw : Nat → Int32) (n : Nat) (iss sb fst len off ren que : Nat → Int32) (kc : Nat) (pins : Nat → Int32) (sd dy : Int32) (x_ : Int32) (v_ : Int32) (hcd : ¬ cdPin x_ v_ = 0) (o : Nat) (f : Nat → Int64) : kLI l D cy yL_pin wsL_pin (krx 8 125) [.ref h, .int x_, .int v_, .ref o] (wH cy h pn a0 a1 a2 a3 a4 a5 a6 a7 a8 b0 b1 b2 b3 b4 b5 b6 b7 fs ss fd ed lm dd ce cw n iss sb fst len off ren que kc pins sd dy ++ kout cy o f) (fun r : Int32 => r = cdPin x_ v_) (wH cy h pn a0 a1 a2 a3 a4 a5 a6 a7 a8 b0 b1 b2 b3 b4 b5 b6 b7 fs ss fd ed lm dd ce cw n iss sb fst len off ren que kc pins sd dy ++ kout cy o f) := by
  refine kLI.of (cc := cL_pin) (maxL := 5) (hh := [(0, 10, 13, 13), (0, 10, 17, 15)]) (by decide) rfl rfl (Nat.le_of_ble_eq_true rfl) ?_
  intro p e s m args below meth c Q A ls hx hb hml hown hts hE hA hP hD hl hZ htab hret
  have hS : va_S A s.heap s.heap [] := va_S.rf
  have hl : lv_has ls 5 [(0, .ref h), (1, .int x_), (2, .int v_), (3, .ref o)] := hl
  have k_13 : (Cond.classLink RL 13 xIX).before args s = true := hts _ (List.mem_of_getElem? (i := 1) rfl)
  have k_15 : (Cond.classLink RL 15 xIA).before args s = true := hts _ (List.mem_of_getElem? (i := 2) rfl)
  refine lv_aload_n hx hb dL_pin_0 rfl (lv_at hl 3 rfl) ?_
  refine lv_iconst (v := 0) hx hb dL_pin_1 (by decide) ?_
  refine lv_aload_n hx hb dL_pin_2 rfl (lv_at hl 0 rfl) ?_
  refine lv_iload_n hx hb dL_pin_3 rfl (lv_at hl 1 rfl) ?_
  refine lv_iload_n hx hb dL_pin_4 rfl (lv_at hl 2 rfl) ?_
  refine kxV_i (n := 2) (X := []) (wc := wH cy h pn a0 a1 a2 a3 a4 a5 a6 a7 a8 b0 b1 b2 b3 b4 b5 b6 b7 fs ss fd ed lm dd ce cw n iss sb fst len off ren que kc pins sd dy) (Y := kout cy o f) (As := [.int x_, .int v_]) (rest := [.int 0, .ref o]) ⟨hx, hb, hml, hown, hts⟩ hE hA hZ hP hD hS (c_X2_pin l D cy hfl h pn a0 a1 a2 a3 a4 a5 a6 a7 a8 b0 b1 b2 b3 b4 b5 b6 b7 fs ss fd ed lm dd ce cw n iss sb fst len off ren que kc pins sd dy x_ v_ ) (fun _ => Eq.trans (b := [h, a0, a1, a2, a3, a4, a5, a6, a7, a8, b0, b1, b2, b3, b4, b5, b6, b7, pn]) rfl rfl) (q0 := 0) (ci := 2) rfl rfl gL_pin_X2_pin rfl rfl rfl ⟨rfl, by decide, by decide, by decide +kernel⟩ ⟨Nat.le_of_ble_eq_true rfl, Nat.le_of_ble_eq_true rfl⟩ rfl hl.1 rfl (Nat.le_of_ble_eq_true rfl) dL_pin_5 ⟨Nat.le_of_ble_eq_true rfl, Nat.le_of_ble_eq_true rfl⟩ (fun E ce q9 H locs hpx hP hS h1 h2 h3 => ?_) (fun r u H locs hp hP hD hS => ?_)
  · rcases hpx with ⟨rfl, hk⟩ | ⟨rfl, hk⟩ | ⟨rfl, hk⟩
    · refine vx_catch (name := xIX) hown [] ⟨0, 10, 13, 13⟩ [⟨0, 10, 17, 15⟩] htab (fun z hz => absurd hz List.not_mem_nil) (by decide) (by decide) k_13 (kl_cast hE (by decide)) h1 h2 h3 ?_
      refine lv_astore (lv' := [(4, .ref q9), (0, .ref h), (1, .int x_), (2, .int v_), (3, .ref o)]) hx hb dL_pin_13 hl (by decide) rfl (fun ls hl => ?_)
      refine lv_iconst (v := 1) hx hb dL_pin_15 (by decide) ?_
      exact hret H locs 16 _ 1 _ _ dL_pin_16 (by decide) (by decide) hk.symm hP hS
    · refine vx_catch (name := xIA) hown [⟨0, 10, 13, 13⟩] ⟨0, 10, 17, 15⟩ [] htab (List.forall_mem_cons.mpr ⟨Or.inr ⟨by decide, xIX, k_13, kl_nc1 hE⟩, fun z hz => absurd hz List.not_mem_nil⟩) (by decide) (by decide) k_15 (kl_cast hE (by decide)) h1 h2 h3 ?_
      refine lv_astore (lv' := [(4, .ref q9), (0, .ref h), (1, .int x_), (2, .int v_), (3, .ref o)]) hx hb dL_pin_17 hl (by decide) rfl (fun ls hl => ?_)
      refine lv_iconst (v := 2) hx hb dL_pin_19 (by decide) ?_
      exact hret H locs 20 _ 2 _ _ dL_pin_20 (by decide) (by decide) hk.symm hP hS
    · exact absurd hk cdPin_3
  · exact absurd hp.2 hcd
set_option maxHeartbeats 4000000 in
set_option maxRecDepth 100000 in
theorem c_L_issue (l : Launch) (D : va_G) (cy : ClassId × ClassId × ClassId) (hfl : l.stackTraces = false) (h pn a0 a1 a2 a3 a4 a5 a6 a7 a8 b0 b1 b2 b3 b4 b5 b6 b7 : Nat) (fs ss fd ed lm dd ce cw : Nat → Int32) (n : Nat) (iss sb fst len off ren que : Nat → Int32) (kc : Nat) (pins : Nat → Int32) (sd dy : Int32) (i_ : Int32) (su_ : Int32) (ln_ : Int32) (hn : n ≤ 8) (hc : kc ≤ 60) (hcd : cdIss (decide (canC fs ss fd ed lm dd n iss fst kc pins dy (ix i_) su_)) n i_ su_ ln_ = 0) (o : Nat) (f : Nat → Int64) : kLI l D cy yL_issue wsL_issue (krx 8 126) [.ref h, .int i_, .int su_, .int ln_, .ref o] (wH cy h pn a0 a1 a2 a3 a4 a5 a6 a7 a8 b0 b1 b2 b3 b4 b5 b6 b7 fs ss fd ed lm dd ce cw n iss sb fst len off ren que kc pins sd dy ++ kout cy o f) (fun r : Int32 => r = 0) (wH cy h pn a0 a1 a2 a3 a4 a5 a6 a7 a8 b0 b1 b2 b3 b4 b5 b6 b7 fs ss fd ed lm dd ce cw n (upd iss kc i_) (upd sb kc su_) (upd fst kc dy) (upd len kc ln_) (upd off kc (offD (seedN sd) ln_)) (upd ren kc (-1)) que (kc + 1) pins (seedN sd) dy ++ kout cy o (vp_updL f 0 (nI kc).toInt64)) := by
  refine kLI.of (cc := cL_issue) (maxL := 6) (hh := [(0, 12, 15, 13), (0, 12, 19, 15), (0, 12, 23, 17)]) (by decide) rfl rfl (Nat.le_of_ble_eq_true rfl) ?_
  intro p e s m args below meth c Q A ls hx hb hml hown hts hE hA hP hD hl hZ htab hret
  have hS : va_S A s.heap s.heap [] := va_S.rf
  have hl : lv_has ls 6 [(0, .ref h), (1, .int i_), (2, .int su_), (3, .int ln_), (4, .ref o)] := hl
  refine lv_aload hx hb dL_issue_0 (lv_at hl 4 rfl) ?_
  refine lv_iconst (v := 0) hx hb dL_issue_2 (by decide) ?_
  refine lv_aload_n hx hb dL_issue_3 rfl (lv_at hl 0 rfl) ?_
  refine lv_iload_n hx hb dL_issue_4 rfl (lv_at hl 1 rfl) ?_
  refine lv_iload_n hx hb dL_issue_5 rfl (lv_at hl 2 rfl) ?_
  refine lv_iload_n hx hb dL_issue_6 rfl (lv_at hl 3 rfl) ?_
  refine kxV_i (n := 3) (X := []) (wc := wH cy h pn a0 a1 a2 a3 a4 a5 a6 a7 a8 b0 b1 b2 b3 b4 b5 b6 b7 fs ss fd ed lm dd ce cw n iss sb fst len off ren que kc pins sd dy) (Y := kout cy o f) (As := [.int i_, .int su_, .int ln_]) (rest := [.int 0, .ref o]) ⟨hx, hb, hml, hown, hts⟩ hE hA hZ hP hD hS (c_X2_issue l D cy hfl h pn a0 a1 a2 a3 a4 a5 a6 a7 a8 b0 b1 b2 b3 b4 b5 b6 b7 fs ss fd ed lm dd ce cw n iss sb fst len off ren que kc pins sd dy i_ su_ ln_ hn hc) (fun _ => Eq.trans (b := [h, a0, a1, a2, a3, a4, a5, a6, a7, a8, b0, b1, b2, b3, b4, b5, b6, b7, pn]) rfl rfl) (q0 := 0) (ci := 2) rfl rfl gL_issue_X2_issue rfl rfl rfl ⟨rfl, by decide, by decide, by decide +kernel⟩ ⟨Nat.le_of_ble_eq_true rfl, Nat.le_of_ble_eq_true rfl⟩ rfl hl.1 rfl (Nat.le_of_ble_eq_true rfl) dL_issue_7 ⟨Nat.le_of_ble_eq_true rfl, Nat.le_of_ble_eq_true rfl⟩ (fun E ce q9 H locs hpx hP hS h1 h2 h3 => ?_) (fun r u H locs hp hP hD hS => ?_)
  · exact absurd (show xkA E 0 from hcd ▸ hpx) xkA_0
  · obtain ⟨rfl, -⟩ := hp
    refine lv_i2l hx hb dL_issue_10 rfl ?_
    refine va_last (i := 0) (f := f) hx hb hE.1 hP hD hS 19 2 (a := o) rfl rfl k_in0 dL_issue_11 (fun H locs hP hD hS => ?_)
    refine lv_goto (tgt := 27) hx hb dL_issue_12 (by decide) ?_
    refine lv_iconst (v := 0) hx hb dL_issue_27 (by decide) ?_
    exact hret H locs 28 _ 0 _ _ dL_issue_28 (by decide) (by decide) rfl hP hS
set_option maxHeartbeats 4000000 in
set_option maxRecDepth 100000 in
theorem c_L_issue_f (l : Launch) (D : va_G) (cy : ClassId × ClassId × ClassId) (hfl : l.stackTraces = false) (h pn a0 a1 a2 a3 a4 a5 a6 a7 a8 b0 b1 b2 b3 b4 b5 b6 b7 : Nat) (fs ss fd ed lm dd ce cw : Nat → Int32) (n : Nat) (iss sb fst len off ren que : Nat → Int32) (kc : Nat) (pins : Nat → Int32) (sd dy : Int32) (i_ : Int32) (su_ : Int32) (ln_ : Int32) (hn : n ≤ 8) (hc : kc ≤ 60) (hcd : ¬ cdIss (decide (canC fs ss fd ed lm dd n iss fst kc pins dy (ix i_) su_)) n i_ su_ ln_ = 0) (o : Nat) (f : Nat → Int64) : kLI l D cy yL_issue wsL_issue (krx 8 126) [.ref h, .int i_, .int su_, .int ln_, .ref o] (wH cy h pn a0 a1 a2 a3 a4 a5 a6 a7 a8 b0 b1 b2 b3 b4 b5 b6 b7 fs ss fd ed lm dd ce cw n iss sb fst len off ren que kc pins sd dy ++ kout cy o f) (fun r : Int32 => r = cdIss (decide (canC fs ss fd ed lm dd n iss fst kc pins dy (ix i_) su_)) n i_ su_ ln_) (wH cy h pn a0 a1 a2 a3 a4 a5 a6 a7 a8 b0 b1 b2 b3 b4 b5 b6 b7 fs ss fd ed lm dd ce cw n iss sb fst len off ren que kc pins sd dy ++ kout cy o f) := by
  refine kLI.of (cc := cL_issue) (maxL := 6) (hh := [(0, 12, 15, 13), (0, 12, 19, 15), (0, 12, 23, 17)]) (by decide) rfl rfl (Nat.le_of_ble_eq_true rfl) ?_
  intro p e s m args below meth c Q A ls hx hb hml hown hts hE hA hP hD hl hZ htab hret
  have hS : va_S A s.heap s.heap [] := va_S.rf
  have hl : lv_has ls 6 [(0, .ref h), (1, .int i_), (2, .int su_), (3, .int ln_), (4, .ref o)] := hl
  have k_13 : (Cond.classLink RL 13 xIX).before args s = true := hts _ (List.mem_of_getElem? (i := 1) rfl)
  have k_15 : (Cond.classLink RL 15 xIA).before args s = true := hts _ (List.mem_of_getElem? (i := 2) rfl)
  have k_17 : (Cond.classLink RL 17 xIS).before args s = true := hts _ (List.mem_of_getElem? (i := 3) rfl)
  refine lv_aload hx hb dL_issue_0 (lv_at hl 4 rfl) ?_
  refine lv_iconst (v := 0) hx hb dL_issue_2 (by decide) ?_
  refine lv_aload_n hx hb dL_issue_3 rfl (lv_at hl 0 rfl) ?_
  refine lv_iload_n hx hb dL_issue_4 rfl (lv_at hl 1 rfl) ?_
  refine lv_iload_n hx hb dL_issue_5 rfl (lv_at hl 2 rfl) ?_
  refine lv_iload_n hx hb dL_issue_6 rfl (lv_at hl 3 rfl) ?_
  refine kxV_i (n := 3) (X := []) (wc := wH cy h pn a0 a1 a2 a3 a4 a5 a6 a7 a8 b0 b1 b2 b3 b4 b5 b6 b7 fs ss fd ed lm dd ce cw n iss sb fst len off ren que kc pins sd dy) (Y := kout cy o f) (As := [.int i_, .int su_, .int ln_]) (rest := [.int 0, .ref o]) ⟨hx, hb, hml, hown, hts⟩ hE hA hZ hP hD hS (c_X2_issue l D cy hfl h pn a0 a1 a2 a3 a4 a5 a6 a7 a8 b0 b1 b2 b3 b4 b5 b6 b7 fs ss fd ed lm dd ce cw n iss sb fst len off ren que kc pins sd dy i_ su_ ln_ hn hc) (fun _ => Eq.trans (b := [h, a0, a1, a2, a3, a4, a5, a6, a7, a8, b0, b1, b2, b3, b4, b5, b6, b7, pn]) rfl rfl) (q0 := 0) (ci := 2) rfl rfl gL_issue_X2_issue rfl rfl rfl ⟨rfl, by decide, by decide, by decide +kernel⟩ ⟨Nat.le_of_ble_eq_true rfl, Nat.le_of_ble_eq_true rfl⟩ rfl hl.1 rfl (Nat.le_of_ble_eq_true rfl) dL_issue_7 ⟨Nat.le_of_ble_eq_true rfl, Nat.le_of_ble_eq_true rfl⟩ (fun E ce q9 H locs hpx hP hS h1 h2 h3 => ?_) (fun r u H locs hp hP hD hS => ?_)
  · rcases hpx with ⟨rfl, hk⟩ | ⟨rfl, hk⟩ | ⟨rfl, hk⟩
    · refine vx_catch (name := xIX) hown [] ⟨0, 12, 15, 13⟩ [⟨0, 12, 19, 15⟩, ⟨0, 12, 23, 17⟩] htab (fun z hz => absurd hz List.not_mem_nil) (by decide) (by decide) k_13 (kl_cast hE (by decide)) h1 h2 h3 ?_
      refine lv_astore (lv' := [(5, .ref q9), (0, .ref h), (1, .int i_), (2, .int su_), (3, .int ln_), (4, .ref o)]) hx hb dL_issue_15 hl (by decide) rfl (fun ls hl => ?_)
      refine lv_iconst (v := 1) hx hb dL_issue_17 (by decide) ?_
      exact hret H locs 18 _ 1 _ _ dL_issue_18 (by decide) (by decide) hk.symm hP hS
    · refine vx_catch (name := xIA) hown [⟨0, 12, 15, 13⟩] ⟨0, 12, 19, 15⟩ [⟨0, 12, 23, 17⟩] htab (List.forall_mem_cons.mpr ⟨Or.inr ⟨by decide, xIX, k_13, kl_nc1 hE⟩, fun z hz => absurd hz List.not_mem_nil⟩) (by decide) (by decide) k_15 (kl_cast hE (by decide)) h1 h2 h3 ?_
      refine lv_astore (lv' := [(5, .ref q9), (0, .ref h), (1, .int i_), (2, .int su_), (3, .int ln_), (4, .ref o)]) hx hb dL_issue_19 hl (by decide) rfl (fun ls hl => ?_)
      refine lv_iconst (v := 2) hx hb dL_issue_21 (by decide) ?_
      exact hret H locs 22 _ 2 _ _ dL_issue_22 (by decide) (by decide) hk.symm hP hS
    · refine vx_catch (name := xIS) hown [⟨0, 12, 15, 13⟩, ⟨0, 12, 19, 15⟩] ⟨0, 12, 23, 17⟩ [] htab (List.forall_mem_cons.mpr ⟨Or.inr ⟨by decide, xIX, k_13, kl_nc2 hE⟩, List.forall_mem_cons.mpr ⟨Or.inr ⟨by decide, xIA, k_15, kl_nc3 hE⟩, fun z hz => absurd hz List.not_mem_nil⟩⟩) (by decide) (by decide) k_17 (kl_cast hE (by decide)) h1 h2 h3 ?_
      refine lv_astore (lv' := [(5, .ref q9), (0, .ref h), (1, .int i_), (2, .int su_), (3, .int ln_), (4, .ref o)]) hx hb dL_issue_23 hl (by decide) rfl (fun ls hl => ?_)
      refine lv_iconst (v := 3) hx hb dL_issue_25 (by decide) ?_
      exact hret H locs 26 _ 3 _ _ dL_issue_26 (by decide) (by decide) hk.symm hP hS
  · exact absurd hp.2 hcd
set_option maxHeartbeats 4000000 in
set_option maxRecDepth 100000 in
theorem c_L_pass (l : Launch) (D : va_G) (cy : ClassId × ClassId × ClassId) (hfl : l.stackTraces = false) (h pn a0 a1 a2 a3 a4 a5 a6 a7 a8 b0 b1 b2 b3 b4 b5 b6 b7 : Nat) (fs ss fd ed lm dd ce cw : Nat → Int32) (n : Nat) (iss sb fst len off ren que : Nat → Int32) (kc : Nat) (pins : Nat → Int32) (sd dy : Int32) (ds_ : Int32) (hn : n ≤ 8) (hc : kc ≤ 60) (hok : certOK n iss len kc) (hcd : cdPass dy ds_ = 0) (o : Nat) (f : Nat → Int64) : kLI l D cy yL_pass wsL_pass (krx 7 138) [.ref h, .int ds_, .ref o] (wH cy h pn a0 a1 a2 a3 a4 a5 a6 a7 a8 b0 b1 b2 b3 b4 b5 b6 b7 fs ss fd ed lm dd ce cw n iss sb fst len off ren que kc pins sd dy ++ kout cy o f) (fun r : Int32 => r = 0) (wH cy h pn a0 a1 a2 a3 a4 a5 a6 a7 a8 b0 b1 b2 b3 b4 b5 b6 b7 fs ss fd ed lm dd ce cw n (cI (psC fs ss fd ed lm dd n pins (iss, sb, fst, len, off, ren, kc, sd) que dy (ix ds_)).1.1) (cS (psC fs ss fd ed lm dd n pins (iss, sb, fst, len, off, ren, kc, sd) que dy (ix ds_)).1.1) (cF (psC fs ss fd ed lm dd n pins (iss, sb, fst, len, off, ren, kc, sd) que dy (ix ds_)).1.1) (cL (psC fs ss fd ed lm dd n pins (iss, sb, fst, len, off, ren, kc, sd) que dy (ix ds_)).1.1) (cO (psC fs ss fd ed lm dd n pins (iss, sb, fst, len, off, ren, kc, sd) que dy (ix ds_)).1.1) (cR (psC fs ss fd ed lm dd n pins (iss, sb, fst, len, off, ren, kc, sd) que dy (ix ds_)).1.1) ((psC fs ss fd ed lm dd n pins (iss, sb, fst, len, off, ren, kc, sd) que dy (ix ds_)).1.2.1) (cK (psC fs ss fd ed lm dd n pins (iss, sb, fst, len, off, ren, kc, sd) que dy (ix ds_)).1.1) pins (cD (psC fs ss fd ed lm dd n pins (iss, sb, fst, len, off, ren, kc, sd) que dy (ix ds_)).1.1) ((psC fs ss fd ed lm dd n pins (iss, sb, fst, len, off, ren, kc, sd) que dy (ix ds_)).1.2.2) ++ kout cy o (vp_updL f 0 ((psC fs ss fd ed lm dd n pins (iss, sb, fst, len, off, ren, kc, sd) que dy (ix ds_)).2).toInt64)) := by
  refine kLI.of (cc := cL_pass) (maxL := 4) (hh := [(0, 9, 12, 15), (0, 9, 15, 17)]) (by decide) rfl rfl (Nat.le_of_ble_eq_true rfl) ?_
  intro p e s m args below meth c Q A ls hx hb hml hown hts hE hA hP hD hl hZ htab hret
  have hS : va_S A s.heap s.heap [] := va_S.rf
  have hl : lv_has ls 4 [(0, .ref h), (1, .int ds_), (2, .ref o)] := hl
  refine lv_aload_n hx hb dL_pass_0 rfl (lv_at hl 2 rfl) ?_
  refine lv_iconst (v := 0) hx hb dL_pass_1 (by decide) ?_
  refine lv_aload_n hx hb dL_pass_2 rfl (lv_at hl 0 rfl) ?_
  refine lv_iload_n hx hb dL_pass_3 rfl (lv_at hl 1 rfl) ?_
  refine kxV_i (n := 1) (X := []) (wc := wH cy h pn a0 a1 a2 a3 a4 a5 a6 a7 a8 b0 b1 b2 b3 b4 b5 b6 b7 fs ss fd ed lm dd ce cw n iss sb fst len off ren que kc pins sd dy) (Y := kout cy o f) (As := [.int ds_]) (rest := [.int 0, .ref o]) ⟨hx, hb, hml, hown, hts⟩ hE hA hZ hP hD hS (c_X2_pass l D cy hfl h pn a0 a1 a2 a3 a4 a5 a6 a7 a8 b0 b1 b2 b3 b4 b5 b6 b7 fs ss fd ed lm dd ce cw n iss sb fst len off ren que kc pins sd dy ds_ hn hc hok) (fun _ => Eq.trans (b := [h, a0, a1, a2, a3, a4, a5, a6, a7, a8, b0, b1, b2, b3, b4, b5, b6, b7, pn]) rfl rfl) (q0 := 0) (ci := 2) rfl rfl gL_pass_X2_pass rfl rfl rfl ⟨rfl, by decide, by decide, by decide +kernel⟩ ⟨Nat.le_of_ble_eq_true rfl, Nat.le_of_ble_eq_true rfl⟩ rfl hl.1 rfl (Nat.le_of_ble_eq_true rfl) dL_pass_4 ⟨Nat.le_of_ble_eq_true rfl, Nat.le_of_ble_eq_true rfl⟩ (fun E ce q9 H locs hpx hP hS h1 h2 h3 => ?_) (fun r u H locs hp hP hD hS => ?_)
  · exact absurd (show xkB E 0 from hcd ▸ hpx) xkB_0
  · obtain ⟨rfl, -⟩ := hp
    refine lv_i2l hx hb dL_pass_7 rfl ?_
    refine va_last (i := 0) (f := f) hx hb hE.1 hP hD hS 19 2 (a := o) rfl rfl k_in0 dL_pass_8 (fun H locs hP hD hS => ?_)
    refine lv_goto (tgt := 18) hx hb dL_pass_9 (by decide) ?_
    refine lv_iconst (v := 0) hx hb dL_pass_18 (by decide) ?_
    exact hret H locs 19 _ 0 _ _ dL_pass_19 (by decide) (by decide) rfl hP hS
set_option maxHeartbeats 4000000 in
set_option maxRecDepth 100000 in
theorem c_L_pass_f (l : Launch) (D : va_G) (cy : ClassId × ClassId × ClassId) (hfl : l.stackTraces = false) (h pn a0 a1 a2 a3 a4 a5 a6 a7 a8 b0 b1 b2 b3 b4 b5 b6 b7 : Nat) (fs ss fd ed lm dd ce cw : Nat → Int32) (n : Nat) (iss sb fst len off ren que : Nat → Int32) (kc : Nat) (pins : Nat → Int32) (sd dy : Int32) (ds_ : Int32) (hn : n ≤ 8) (hc : kc ≤ 60) (hok : certOK n iss len kc) (hcd : ¬ cdPass dy ds_ = 0) (o : Nat) (f : Nat → Int64) : kLI l D cy yL_pass wsL_pass (krx 7 138) [.ref h, .int ds_, .ref o] (wH cy h pn a0 a1 a2 a3 a4 a5 a6 a7 a8 b0 b1 b2 b3 b4 b5 b6 b7 fs ss fd ed lm dd ce cw n iss sb fst len off ren que kc pins sd dy ++ kout cy o f) (fun r : Int32 => r = cdPass dy ds_) (wH cy h pn a0 a1 a2 a3 a4 a5 a6 a7 a8 b0 b1 b2 b3 b4 b5 b6 b7 fs ss fd ed lm dd ce cw n iss sb fst len off ren que kc pins sd dy ++ kout cy o f) := by
  refine kLI.of (cc := cL_pass) (maxL := 4) (hh := [(0, 9, 12, 15), (0, 9, 15, 17)]) (by decide) rfl rfl (Nat.le_of_ble_eq_true rfl) ?_
  intro p e s m args below meth c Q A ls hx hb hml hown hts hE hA hP hD hl hZ htab hret
  have hS : va_S A s.heap s.heap [] := va_S.rf
  have hl : lv_has ls 4 [(0, .ref h), (1, .int ds_), (2, .ref o)] := hl
  have k_15 : (Cond.classLink RL 15 xIA).before args s = true := hts _ (List.mem_of_getElem? (i := 1) rfl)
  have k_17 : (Cond.classLink RL 17 xIS).before args s = true := hts _ (List.mem_of_getElem? (i := 2) rfl)
  refine lv_aload_n hx hb dL_pass_0 rfl (lv_at hl 2 rfl) ?_
  refine lv_iconst (v := 0) hx hb dL_pass_1 (by decide) ?_
  refine lv_aload_n hx hb dL_pass_2 rfl (lv_at hl 0 rfl) ?_
  refine lv_iload_n hx hb dL_pass_3 rfl (lv_at hl 1 rfl) ?_
  refine kxV_i (n := 1) (X := []) (wc := wH cy h pn a0 a1 a2 a3 a4 a5 a6 a7 a8 b0 b1 b2 b3 b4 b5 b6 b7 fs ss fd ed lm dd ce cw n iss sb fst len off ren que kc pins sd dy) (Y := kout cy o f) (As := [.int ds_]) (rest := [.int 0, .ref o]) ⟨hx, hb, hml, hown, hts⟩ hE hA hZ hP hD hS (c_X2_pass l D cy hfl h pn a0 a1 a2 a3 a4 a5 a6 a7 a8 b0 b1 b2 b3 b4 b5 b6 b7 fs ss fd ed lm dd ce cw n iss sb fst len off ren que kc pins sd dy ds_ hn hc hok) (fun _ => Eq.trans (b := [h, a0, a1, a2, a3, a4, a5, a6, a7, a8, b0, b1, b2, b3, b4, b5, b6, b7, pn]) rfl rfl) (q0 := 0) (ci := 2) rfl rfl gL_pass_X2_pass rfl rfl rfl ⟨rfl, by decide, by decide, by decide +kernel⟩ ⟨Nat.le_of_ble_eq_true rfl, Nat.le_of_ble_eq_true rfl⟩ rfl hl.1 rfl (Nat.le_of_ble_eq_true rfl) dL_pass_4 ⟨Nat.le_of_ble_eq_true rfl, Nat.le_of_ble_eq_true rfl⟩ (fun E ce q9 H locs hpx hP hS h1 h2 h3 => ?_) (fun r u H locs hp hP hD hS => ?_)
  · rcases hpx with ⟨rfl, hk⟩ | ⟨rfl, hk⟩
    · refine vx_catch (name := xIA) hown [] ⟨0, 9, 12, 15⟩ [⟨0, 9, 15, 17⟩] htab (fun z hz => absurd hz List.not_mem_nil) (by decide) (by decide) k_15 (kl_cast hE (by decide)) h1 h2 h3 ?_
      refine lv_astore_n (lv' := [(3, .ref q9), (0, .ref h), (1, .int ds_), (2, .ref o)]) hx hb dL_pass_12 rfl hl (by decide) rfl (fun ls hl => ?_)
      refine lv_iconst (v := 1) hx hb dL_pass_13 (by decide) ?_
      exact hret H locs 14 _ 1 _ _ dL_pass_14 (by decide) (by decide) hk.symm hP hS
    · refine vx_catch (name := xIS) hown [⟨0, 9, 12, 15⟩] ⟨0, 9, 15, 17⟩ [] htab (List.forall_mem_cons.mpr ⟨Or.inr ⟨by decide, xIA, k_15, kl_nc3 hE⟩, fun z hz => absurd hz List.not_mem_nil⟩) (by decide) (by decide) k_17 (kl_cast hE (by decide)) h1 h2 h3 ?_
      refine lv_astore_n (lv' := [(3, .ref q9), (0, .ref h), (1, .int ds_), (2, .ref o)]) hx hb dL_pass_15 rfl hl (by decide) rfl (fun ls hl => ?_)
      refine lv_iconst (v := 2) hx hb dL_pass_16 (by decide) ?_
      exact hret H locs 17 _ 2 _ _ dL_pass_17 (by decide) (by decide) hk.symm hP hS
  · exact absurd hp.2 hcd
set_option maxHeartbeats 4000000 in
set_option maxRecDepth 100000 in
theorem c_L_issuerOf (l : Launch) (D : va_G) (cy : ClassId × ClassId × ClassId) (hfl : l.stackTraces = false) (h pn a0 a1 a2 a3 a4 a5 a6 a7 a8 b0 b1 b2 b3 b4 b5 b6 b7 : Nat) (fs ss fd ed lm dd ce cw : Nat → Int32) (n : Nat) (iss sb fst len off ren que : Nat → Int32) (kc : Nat) (pins : Nat → Int32) (sd dy : Int32) (i_ : Int32) (hc : kc ≤ 60) (hcd : cdOne kc i_ = 0) (o : Nat) (f : Nat → Int64) : kLI l D cy yL_issuerOf wsL_issuerOf (krx 8 124) [.ref h, .int i_, .ref o] (wH cy h pn a0 a1 a2 a3 a4 a5 a6 a7 a8 b0 b1 b2 b3 b4 b5 b6 b7 fs ss fd ed lm dd ce cw n iss sb fst len off ren que kc pins sd dy ++ kout cy o f) (fun r : Int32 => r = 0) (wH cy h pn a0 a1 a2 a3 a4 a5 a6 a7 a8 b0 b1 b2 b3 b4 b5 b6 b7 fs ss fd ed lm dd ce cw n iss sb fst len off ren que kc pins sd dy ++ kout cy o (vp_updL f 0 (iss (ix i_)).toInt64)) := by
  refine kLI.of (cc := cL_issuerOf) (maxL := 4) (hh := [(0, 9, 12, 13)]) (by decide) rfl rfl (Nat.le_of_ble_eq_true rfl) ?_
  intro p e s m args below meth c Q A ls hx hb hml hown hts hE hA hP hD hl hZ htab hret
  have hS : va_S A s.heap s.heap [] := va_S.rf
  have hl : lv_has ls 4 [(0, .ref h), (1, .int i_), (2, .ref o)] := hl
  refine lv_aload_n hx hb dL_issuerOf_0 rfl (lv_at hl 2 rfl) ?_
  refine lv_iconst (v := 0) hx hb dL_issuerOf_1 (by decide) ?_
  refine lv_aload_n hx hb dL_issuerOf_2 rfl (lv_at hl 0 rfl) ?_
  refine lv_iload_n hx hb dL_issuerOf_3 rfl (lv_at hl 1 rfl) ?_
  refine kxV_i (n := 1) (X := []) (wc := wH cy h pn a0 a1 a2 a3 a4 a5 a6 a7 a8 b0 b1 b2 b3 b4 b5 b6 b7 fs ss fd ed lm dd ce cw n iss sb fst len off ren que kc pins sd dy) (Y := kout cy o f) (As := [.int i_]) (rest := [.int 0, .ref o]) ⟨hx, hb, hml, hown, hts⟩ hE hA hZ hP hD hS (c_X2_issuerOf l D cy hfl h pn a0 a1 a2 a3 a4 a5 a6 a7 a8 b0 b1 b2 b3 b4 b5 b6 b7 fs ss fd ed lm dd ce cw n iss sb fst len off ren que kc pins sd dy i_ hc) (fun _ => Eq.trans (b := [h, a0, a1, a2, a3, a4, a5, a6, a7, a8, b0, b1, b2, b3, b4, b5, b6, b7, pn]) rfl rfl) (q0 := 0) (ci := 2) rfl rfl gL_issuerOf_X2_issuerOf rfl rfl rfl ⟨rfl, by decide, by decide, by decide +kernel⟩ ⟨Nat.le_of_ble_eq_true rfl, Nat.le_of_ble_eq_true rfl⟩ rfl hl.1 rfl (Nat.le_of_ble_eq_true rfl) dL_issuerOf_4 ⟨Nat.le_of_ble_eq_true rfl, Nat.le_of_ble_eq_true rfl⟩ (fun E ce q9 H locs hpx hP hS h1 h2 h3 => ?_) (fun r u H locs hp hP hD hS => ?_)
  · exact absurd (show xkA E 0 from hcd ▸ hpx) xkA_0
  · obtain ⟨rfl, -⟩ := hp
    refine lv_i2l hx hb dL_issuerOf_7 rfl ?_
    refine va_last (i := 0) (f := f) hx hb hE.1 hP hD hS 19 2 (a := o) rfl rfl k_in0 dL_issuerOf_8 (fun H locs hP hD hS => ?_)
    refine lv_goto (tgt := 15) hx hb dL_issuerOf_9 (by decide) ?_
    refine lv_iconst (v := 0) hx hb dL_issuerOf_15 (by decide) ?_
    exact hret H locs 16 _ 0 _ _ dL_issuerOf_16 (by decide) (by decide) rfl hP hS
set_option maxHeartbeats 4000000 in
set_option maxRecDepth 100000 in
theorem c_L_issuerOf_f (l : Launch) (D : va_G) (cy : ClassId × ClassId × ClassId) (hfl : l.stackTraces = false) (h pn a0 a1 a2 a3 a4 a5 a6 a7 a8 b0 b1 b2 b3 b4 b5 b6 b7 : Nat) (fs ss fd ed lm dd ce cw : Nat → Int32) (n : Nat) (iss sb fst len off ren que : Nat → Int32) (kc : Nat) (pins : Nat → Int32) (sd dy : Int32) (i_ : Int32) (hc : kc ≤ 60) (hcd : ¬ cdOne kc i_ = 0) (o : Nat) (f : Nat → Int64) : kLI l D cy yL_issuerOf wsL_issuerOf (krx 8 124) [.ref h, .int i_, .ref o] (wH cy h pn a0 a1 a2 a3 a4 a5 a6 a7 a8 b0 b1 b2 b3 b4 b5 b6 b7 fs ss fd ed lm dd ce cw n iss sb fst len off ren que kc pins sd dy ++ kout cy o f) (fun r : Int32 => r = cdOne kc i_) (wH cy h pn a0 a1 a2 a3 a4 a5 a6 a7 a8 b0 b1 b2 b3 b4 b5 b6 b7 fs ss fd ed lm dd ce cw n iss sb fst len off ren que kc pins sd dy ++ kout cy o f) := by
  refine kLI.of (cc := cL_issuerOf) (maxL := 4) (hh := [(0, 9, 12, 13)]) (by decide) rfl rfl (Nat.le_of_ble_eq_true rfl) ?_
  intro p e s m args below meth c Q A ls hx hb hml hown hts hE hA hP hD hl hZ htab hret
  have hS : va_S A s.heap s.heap [] := va_S.rf
  have hl : lv_has ls 4 [(0, .ref h), (1, .int i_), (2, .ref o)] := hl
  have k_13 : (Cond.classLink RL 13 xIX).before args s = true := hts _ (List.mem_of_getElem? (i := 1) rfl)
  refine lv_aload_n hx hb dL_issuerOf_0 rfl (lv_at hl 2 rfl) ?_
  refine lv_iconst (v := 0) hx hb dL_issuerOf_1 (by decide) ?_
  refine lv_aload_n hx hb dL_issuerOf_2 rfl (lv_at hl 0 rfl) ?_
  refine lv_iload_n hx hb dL_issuerOf_3 rfl (lv_at hl 1 rfl) ?_
  refine kxV_i (n := 1) (X := []) (wc := wH cy h pn a0 a1 a2 a3 a4 a5 a6 a7 a8 b0 b1 b2 b3 b4 b5 b6 b7 fs ss fd ed lm dd ce cw n iss sb fst len off ren que kc pins sd dy) (Y := kout cy o f) (As := [.int i_]) (rest := [.int 0, .ref o]) ⟨hx, hb, hml, hown, hts⟩ hE hA hZ hP hD hS (c_X2_issuerOf l D cy hfl h pn a0 a1 a2 a3 a4 a5 a6 a7 a8 b0 b1 b2 b3 b4 b5 b6 b7 fs ss fd ed lm dd ce cw n iss sb fst len off ren que kc pins sd dy i_ hc) (fun _ => Eq.trans (b := [h, a0, a1, a2, a3, a4, a5, a6, a7, a8, b0, b1, b2, b3, b4, b5, b6, b7, pn]) rfl rfl) (q0 := 0) (ci := 2) rfl rfl gL_issuerOf_X2_issuerOf rfl rfl rfl ⟨rfl, by decide, by decide, by decide +kernel⟩ ⟨Nat.le_of_ble_eq_true rfl, Nat.le_of_ble_eq_true rfl⟩ rfl hl.1 rfl (Nat.le_of_ble_eq_true rfl) dL_issuerOf_4 ⟨Nat.le_of_ble_eq_true rfl, Nat.le_of_ble_eq_true rfl⟩ (fun E ce q9 H locs hpx hP hS h1 h2 h3 => ?_) (fun r u H locs hp hP hD hS => ?_)
  · rcases hpx with ⟨rfl, hk⟩ | ⟨rfl, hk⟩ | ⟨rfl, hk⟩
    · refine vx_catch (name := xIX) hown [] ⟨0, 9, 12, 13⟩ [] htab (fun z hz => absurd hz List.not_mem_nil) (by decide) (by decide) k_13 (kl_cast hE (by decide)) h1 h2 h3 ?_
      refine lv_astore_n (lv' := [(3, .ref q9), (0, .ref h), (1, .int i_), (2, .ref o)]) hx hb dL_issuerOf_12 rfl hl (by decide) rfl (fun ls hl => ?_)
      refine lv_iconst (v := 1) hx hb dL_issuerOf_13 (by decide) ?_
      exact hret H locs 14 _ 1 _ _ dL_issuerOf_14 (by decide) (by decide) hk.symm hP hS
    · exact absurd hk cdOne_12.1
    · exact absurd hk cdOne_12.2
  · exact absurd hp.2 hcd
set_option maxHeartbeats 4000000 in
set_option maxRecDepth 100000 in
theorem c_L_lastDay (l : Launch) (D : va_G) (cy : ClassId × ClassId × ClassId) (hfl : l.stackTraces = false) (h pn a0 a1 a2 a3 a4 a5 a6 a7 a8 b0 b1 b2 b3 b4 b5 b6 b7 : Nat) (fs ss fd ed lm dd ce cw : Nat → Int32) (n : Nat) (iss sb fst len off ren que : Nat → Int32) (kc : Nat) (pins : Nat → Int32) (sd dy : Int32) (i_ : Int32) (hc : kc ≤ 60) (hcd : cdOne kc i_ = 0) (o : Nat) (f : Nat → Int64) : kLI l D cy yL_lastDay wsL_lastDay (krx 8 124) [.ref h, .int i_, .ref o] (wH cy h pn a0 a1 a2 a3 a4 a5 a6 a7 a8 b0 b1 b2 b3 b4 b5 b6 b7 fs ss fd ed lm dd ce cw n iss sb fst len off ren que kc pins sd dy ++ kout cy o f) (fun r : Int32 => r = 0) (wH cy h pn a0 a1 a2 a3 a4 a5 a6 a7 a8 b0 b1 b2 b3 b4 b5 b6 b7 fs ss fd ed lm dd ce cw n iss sb fst len off ren que kc pins sd dy ++ kout cy o (vp_updL f 0 (ctEnd fst len (ix i_)).toInt64)) := by
  refine kLI.of (cc := cL_lastDay) (maxL := 4) (hh := [(0, 9, 12, 13)]) (by decide) rfl rfl (Nat.le_of_ble_eq_true rfl) ?_
  intro p e s m args below meth c Q A ls hx hb hml hown hts hE hA hP hD hl hZ htab hret
  have hS : va_S A s.heap s.heap [] := va_S.rf
  have hl : lv_has ls 4 [(0, .ref h), (1, .int i_), (2, .ref o)] := hl
  refine lv_aload_n hx hb dL_lastDay_0 rfl (lv_at hl 2 rfl) ?_
  refine lv_iconst (v := 0) hx hb dL_lastDay_1 (by decide) ?_
  refine lv_aload_n hx hb dL_lastDay_2 rfl (lv_at hl 0 rfl) ?_
  refine lv_iload_n hx hb dL_lastDay_3 rfl (lv_at hl 1 rfl) ?_
  refine kxV_i (n := 1) (X := []) (wc := wH cy h pn a0 a1 a2 a3 a4 a5 a6 a7 a8 b0 b1 b2 b3 b4 b5 b6 b7 fs ss fd ed lm dd ce cw n iss sb fst len off ren que kc pins sd dy) (Y := kout cy o f) (As := [.int i_]) (rest := [.int 0, .ref o]) ⟨hx, hb, hml, hown, hts⟩ hE hA hZ hP hD hS (c_X2_lastDay l D cy hfl h pn a0 a1 a2 a3 a4 a5 a6 a7 a8 b0 b1 b2 b3 b4 b5 b6 b7 fs ss fd ed lm dd ce cw n iss sb fst len off ren que kc pins sd dy i_ hc) (fun _ => Eq.trans (b := [h, a0, a1, a2, a3, a4, a5, a6, a7, a8, b0, b1, b2, b3, b4, b5, b6, b7, pn]) rfl rfl) (q0 := 0) (ci := 2) rfl rfl gL_lastDay_X2_lastDay rfl rfl rfl ⟨rfl, by decide, by decide, by decide +kernel⟩ ⟨Nat.le_of_ble_eq_true rfl, Nat.le_of_ble_eq_true rfl⟩ rfl hl.1 rfl (Nat.le_of_ble_eq_true rfl) dL_lastDay_4 ⟨Nat.le_of_ble_eq_true rfl, Nat.le_of_ble_eq_true rfl⟩ (fun E ce q9 H locs hpx hP hS h1 h2 h3 => ?_) (fun r u H locs hp hP hD hS => ?_)
  · exact absurd (show xkA E 0 from hcd ▸ hpx) xkA_0
  · obtain ⟨rfl, -⟩ := hp
    refine lv_i2l hx hb dL_lastDay_7 rfl ?_
    refine va_last (i := 0) (f := f) hx hb hE.1 hP hD hS 19 2 (a := o) rfl rfl k_in0 dL_lastDay_8 (fun H locs hP hD hS => ?_)
    refine lv_goto (tgt := 15) hx hb dL_lastDay_9 (by decide) ?_
    refine lv_iconst (v := 0) hx hb dL_lastDay_15 (by decide) ?_
    exact hret H locs 16 _ 0 _ _ dL_lastDay_16 (by decide) (by decide) rfl hP hS
set_option maxHeartbeats 4000000 in
set_option maxRecDepth 100000 in
theorem c_L_lastDay_f (l : Launch) (D : va_G) (cy : ClassId × ClassId × ClassId) (hfl : l.stackTraces = false) (h pn a0 a1 a2 a3 a4 a5 a6 a7 a8 b0 b1 b2 b3 b4 b5 b6 b7 : Nat) (fs ss fd ed lm dd ce cw : Nat → Int32) (n : Nat) (iss sb fst len off ren que : Nat → Int32) (kc : Nat) (pins : Nat → Int32) (sd dy : Int32) (i_ : Int32) (hc : kc ≤ 60) (hcd : ¬ cdOne kc i_ = 0) (o : Nat) (f : Nat → Int64) : kLI l D cy yL_lastDay wsL_lastDay (krx 8 124) [.ref h, .int i_, .ref o] (wH cy h pn a0 a1 a2 a3 a4 a5 a6 a7 a8 b0 b1 b2 b3 b4 b5 b6 b7 fs ss fd ed lm dd ce cw n iss sb fst len off ren que kc pins sd dy ++ kout cy o f) (fun r : Int32 => r = cdOne kc i_) (wH cy h pn a0 a1 a2 a3 a4 a5 a6 a7 a8 b0 b1 b2 b3 b4 b5 b6 b7 fs ss fd ed lm dd ce cw n iss sb fst len off ren que kc pins sd dy ++ kout cy o f) := by
  refine kLI.of (cc := cL_lastDay) (maxL := 4) (hh := [(0, 9, 12, 13)]) (by decide) rfl rfl (Nat.le_of_ble_eq_true rfl) ?_
  intro p e s m args below meth c Q A ls hx hb hml hown hts hE hA hP hD hl hZ htab hret
  have hS : va_S A s.heap s.heap [] := va_S.rf
  have hl : lv_has ls 4 [(0, .ref h), (1, .int i_), (2, .ref o)] := hl
  have k_13 : (Cond.classLink RL 13 xIX).before args s = true := hts _ (List.mem_of_getElem? (i := 1) rfl)
  refine lv_aload_n hx hb dL_lastDay_0 rfl (lv_at hl 2 rfl) ?_
  refine lv_iconst (v := 0) hx hb dL_lastDay_1 (by decide) ?_
  refine lv_aload_n hx hb dL_lastDay_2 rfl (lv_at hl 0 rfl) ?_
  refine lv_iload_n hx hb dL_lastDay_3 rfl (lv_at hl 1 rfl) ?_
  refine kxV_i (n := 1) (X := []) (wc := wH cy h pn a0 a1 a2 a3 a4 a5 a6 a7 a8 b0 b1 b2 b3 b4 b5 b6 b7 fs ss fd ed lm dd ce cw n iss sb fst len off ren que kc pins sd dy) (Y := kout cy o f) (As := [.int i_]) (rest := [.int 0, .ref o]) ⟨hx, hb, hml, hown, hts⟩ hE hA hZ hP hD hS (c_X2_lastDay l D cy hfl h pn a0 a1 a2 a3 a4 a5 a6 a7 a8 b0 b1 b2 b3 b4 b5 b6 b7 fs ss fd ed lm dd ce cw n iss sb fst len off ren que kc pins sd dy i_ hc) (fun _ => Eq.trans (b := [h, a0, a1, a2, a3, a4, a5, a6, a7, a8, b0, b1, b2, b3, b4, b5, b6, b7, pn]) rfl rfl) (q0 := 0) (ci := 2) rfl rfl gL_lastDay_X2_lastDay rfl rfl rfl ⟨rfl, by decide, by decide, by decide +kernel⟩ ⟨Nat.le_of_ble_eq_true rfl, Nat.le_of_ble_eq_true rfl⟩ rfl hl.1 rfl (Nat.le_of_ble_eq_true rfl) dL_lastDay_4 ⟨Nat.le_of_ble_eq_true rfl, Nat.le_of_ble_eq_true rfl⟩ (fun E ce q9 H locs hpx hP hS h1 h2 h3 => ?_) (fun r u H locs hp hP hD hS => ?_)
  · rcases hpx with ⟨rfl, hk⟩ | ⟨rfl, hk⟩ | ⟨rfl, hk⟩
    · refine vx_catch (name := xIX) hown [] ⟨0, 9, 12, 13⟩ [] htab (fun z hz => absurd hz List.not_mem_nil) (by decide) (by decide) k_13 (kl_cast hE (by decide)) h1 h2 h3 ?_
      refine lv_astore_n (lv' := [(3, .ref q9), (0, .ref h), (1, .int i_), (2, .ref o)]) hx hb dL_lastDay_12 rfl hl (by decide) rfl (fun ls hl => ?_)
      refine lv_iconst (v := 1) hx hb dL_lastDay_13 (by decide) ?_
      exact hret H locs 14 _ 1 _ _ dL_lastDay_14 (by decide) (by decide) hk.symm hP hS
    · exact absurd hk cdOne_12.1
    · exact absurd hk cdOne_12.2
  · exact absurd hp.2 hcd
set_option maxHeartbeats 4000000 in
set_option maxRecDepth 100000 in
theorem c_L_dueOn (l : Launch) (D : va_G) (cy : ClassId × ClassId × ClassId) (hfl : l.stackTraces = false) (h pn a0 a1 a2 a3 a4 a5 a6 a7 a8 b0 b1 b2 b3 b4 b5 b6 b7 : Nat) (fs ss fd ed lm dd ce cw : Nat → Int32) (n : Nat) (iss sb fst len off ren que : Nat → Int32) (kc : Nat) (pins : Nat → Int32) (sd dy : Int32) (i_ : Int32) (hc : kc ≤ 60) (hcd : cdOne kc i_ = 0) (o : Nat) (f : Nat → Int64) : kLI l D cy yL_dueOn wsL_dueOn (krx 8 124) [.ref h, .int i_, .ref o] (wH cy h pn a0 a1 a2 a3 a4 a5 a6 a7 a8 b0 b1 b2 b3 b4 b5 b6 b7 fs ss fd ed lm dd ce cw n iss sb fst len off ren que kc pins sd dy ++ kout cy o f) (fun r : Int32 => r = 0) (wH cy h pn a0 a1 a2 a3 a4 a5 a6 a7 a8 b0 b1 b2 b3 b4 b5 b6 b7 fs ss fd ed lm dd ce cw n iss sb fst len off ren que kc pins sd dy ++ kout cy o (vp_updL f 0 (ctDue fst len off (ix i_)).toInt64)) := by
  refine kLI.of (cc := cL_dueOn) (maxL := 4) (hh := [(0, 9, 12, 13)]) (by decide) rfl rfl (Nat.le_of_ble_eq_true rfl) ?_
  intro p e s m args below meth c Q A ls hx hb hml hown hts hE hA hP hD hl hZ htab hret
  have hS : va_S A s.heap s.heap [] := va_S.rf
  have hl : lv_has ls 4 [(0, .ref h), (1, .int i_), (2, .ref o)] := hl
  refine lv_aload_n hx hb dL_dueOn_0 rfl (lv_at hl 2 rfl) ?_
  refine lv_iconst (v := 0) hx hb dL_dueOn_1 (by decide) ?_
  refine lv_aload_n hx hb dL_dueOn_2 rfl (lv_at hl 0 rfl) ?_
  refine lv_iload_n hx hb dL_dueOn_3 rfl (lv_at hl 1 rfl) ?_
  refine kxV_i (n := 1) (X := []) (wc := wH cy h pn a0 a1 a2 a3 a4 a5 a6 a7 a8 b0 b1 b2 b3 b4 b5 b6 b7 fs ss fd ed lm dd ce cw n iss sb fst len off ren que kc pins sd dy) (Y := kout cy o f) (As := [.int i_]) (rest := [.int 0, .ref o]) ⟨hx, hb, hml, hown, hts⟩ hE hA hZ hP hD hS (c_X2_dueOn l D cy hfl h pn a0 a1 a2 a3 a4 a5 a6 a7 a8 b0 b1 b2 b3 b4 b5 b6 b7 fs ss fd ed lm dd ce cw n iss sb fst len off ren que kc pins sd dy i_ hc) (fun _ => Eq.trans (b := [h, a0, a1, a2, a3, a4, a5, a6, a7, a8, b0, b1, b2, b3, b4, b5, b6, b7, pn]) rfl rfl) (q0 := 0) (ci := 2) rfl rfl gL_dueOn_X2_dueOn rfl rfl rfl ⟨rfl, by decide, by decide, by decide +kernel⟩ ⟨Nat.le_of_ble_eq_true rfl, Nat.le_of_ble_eq_true rfl⟩ rfl hl.1 rfl (Nat.le_of_ble_eq_true rfl) dL_dueOn_4 ⟨Nat.le_of_ble_eq_true rfl, Nat.le_of_ble_eq_true rfl⟩ (fun E ce q9 H locs hpx hP hS h1 h2 h3 => ?_) (fun r u H locs hp hP hD hS => ?_)
  · exact absurd (show xkA E 0 from hcd ▸ hpx) xkA_0
  · obtain ⟨rfl, -⟩ := hp
    refine lv_i2l hx hb dL_dueOn_7 rfl ?_
    refine va_last (i := 0) (f := f) hx hb hE.1 hP hD hS 19 2 (a := o) rfl rfl k_in0 dL_dueOn_8 (fun H locs hP hD hS => ?_)
    refine lv_goto (tgt := 15) hx hb dL_dueOn_9 (by decide) ?_
    refine lv_iconst (v := 0) hx hb dL_dueOn_15 (by decide) ?_
    exact hret H locs 16 _ 0 _ _ dL_dueOn_16 (by decide) (by decide) rfl hP hS
set_option maxHeartbeats 4000000 in
set_option maxRecDepth 100000 in
theorem c_L_dueOn_f (l : Launch) (D : va_G) (cy : ClassId × ClassId × ClassId) (hfl : l.stackTraces = false) (h pn a0 a1 a2 a3 a4 a5 a6 a7 a8 b0 b1 b2 b3 b4 b5 b6 b7 : Nat) (fs ss fd ed lm dd ce cw : Nat → Int32) (n : Nat) (iss sb fst len off ren que : Nat → Int32) (kc : Nat) (pins : Nat → Int32) (sd dy : Int32) (i_ : Int32) (hc : kc ≤ 60) (hcd : ¬ cdOne kc i_ = 0) (o : Nat) (f : Nat → Int64) : kLI l D cy yL_dueOn wsL_dueOn (krx 8 124) [.ref h, .int i_, .ref o] (wH cy h pn a0 a1 a2 a3 a4 a5 a6 a7 a8 b0 b1 b2 b3 b4 b5 b6 b7 fs ss fd ed lm dd ce cw n iss sb fst len off ren que kc pins sd dy ++ kout cy o f) (fun r : Int32 => r = cdOne kc i_) (wH cy h pn a0 a1 a2 a3 a4 a5 a6 a7 a8 b0 b1 b2 b3 b4 b5 b6 b7 fs ss fd ed lm dd ce cw n iss sb fst len off ren que kc pins sd dy ++ kout cy o f) := by
  refine kLI.of (cc := cL_dueOn) (maxL := 4) (hh := [(0, 9, 12, 13)]) (by decide) rfl rfl (Nat.le_of_ble_eq_true rfl) ?_
  intro p e s m args below meth c Q A ls hx hb hml hown hts hE hA hP hD hl hZ htab hret
  have hS : va_S A s.heap s.heap [] := va_S.rf
  have hl : lv_has ls 4 [(0, .ref h), (1, .int i_), (2, .ref o)] := hl
  have k_13 : (Cond.classLink RL 13 xIX).before args s = true := hts _ (List.mem_of_getElem? (i := 1) rfl)
  refine lv_aload_n hx hb dL_dueOn_0 rfl (lv_at hl 2 rfl) ?_
  refine lv_iconst (v := 0) hx hb dL_dueOn_1 (by decide) ?_
  refine lv_aload_n hx hb dL_dueOn_2 rfl (lv_at hl 0 rfl) ?_
  refine lv_iload_n hx hb dL_dueOn_3 rfl (lv_at hl 1 rfl) ?_
  refine kxV_i (n := 1) (X := []) (wc := wH cy h pn a0 a1 a2 a3 a4 a5 a6 a7 a8 b0 b1 b2 b3 b4 b5 b6 b7 fs ss fd ed lm dd ce cw n iss sb fst len off ren que kc pins sd dy) (Y := kout cy o f) (As := [.int i_]) (rest := [.int 0, .ref o]) ⟨hx, hb, hml, hown, hts⟩ hE hA hZ hP hD hS (c_X2_dueOn l D cy hfl h pn a0 a1 a2 a3 a4 a5 a6 a7 a8 b0 b1 b2 b3 b4 b5 b6 b7 fs ss fd ed lm dd ce cw n iss sb fst len off ren que kc pins sd dy i_ hc) (fun _ => Eq.trans (b := [h, a0, a1, a2, a3, a4, a5, a6, a7, a8, b0, b1, b2, b3, b4, b5, b6, b7, pn]) rfl rfl) (q0 := 0) (ci := 2) rfl rfl gL_dueOn_X2_dueOn rfl rfl rfl ⟨rfl, by decide, by decide, by decide +kernel⟩ ⟨Nat.le_of_ble_eq_true rfl, Nat.le_of_ble_eq_true rfl⟩ rfl hl.1 rfl (Nat.le_of_ble_eq_true rfl) dL_dueOn_4 ⟨Nat.le_of_ble_eq_true rfl, Nat.le_of_ble_eq_true rfl⟩ (fun E ce q9 H locs hpx hP hS h1 h2 h3 => ?_) (fun r u H locs hp hP hD hS => ?_)
  · rcases hpx with ⟨rfl, hk⟩ | ⟨rfl, hk⟩ | ⟨rfl, hk⟩
    · refine vx_catch (name := xIX) hown [] ⟨0, 9, 12, 13⟩ [] htab (fun z hz => absurd hz List.not_mem_nil) (by decide) (by decide) k_13 (kl_cast hE (by decide)) h1 h2 h3 ?_
      refine lv_astore_n (lv' := [(3, .ref q9), (0, .ref h), (1, .int i_), (2, .ref o)]) hx hb dL_dueOn_12 rfl hl (by decide) rfl (fun ls hl => ?_)
      refine lv_iconst (v := 1) hx hb dL_dueOn_13 (by decide) ?_
      exact hret H locs 14 _ 1 _ _ dL_dueOn_14 (by decide) (by decide) hk.symm hP hS
    · exact absurd hk cdOne_12.1
    · exact absurd hk cdOne_12.2
  · exact absurd hp.2 hcd
set_option maxHeartbeats 4000000 in
set_option maxRecDepth 100000 in
theorem c_L_renewal (l : Launch) (D : va_G) (cy : ClassId × ClassId × ClassId) (hfl : l.stackTraces = false) (h pn a0 a1 a2 a3 a4 a5 a6 a7 a8 b0 b1 b2 b3 b4 b5 b6 b7 : Nat) (fs ss fd ed lm dd ce cw : Nat → Int32) (n : Nat) (iss sb fst len off ren que : Nat → Int32) (kc : Nat) (pins : Nat → Int32) (sd dy : Int32) (i_ : Int32) (hc : kc ≤ 60) (hcd : cdOne kc i_ = 0) (o : Nat) (f : Nat → Int64) : kLI l D cy yL_renewal wsL_renewal (krx 8 124) [.ref h, .int i_, .ref o] (wH cy h pn a0 a1 a2 a3 a4 a5 a6 a7 a8 b0 b1 b2 b3 b4 b5 b6 b7 fs ss fd ed lm dd ce cw n iss sb fst len off ren que kc pins sd dy ++ kout cy o f) (fun r : Int32 => r = 0) (wH cy h pn a0 a1 a2 a3 a4 a5 a6 a7 a8 b0 b1 b2 b3 b4 b5 b6 b7 fs ss fd ed lm dd ce cw n iss sb fst len off ren que kc pins sd dy ++ kout cy o (vp_updL f 0 (ren (ix i_)).toInt64)) := by
  refine kLI.of (cc := cL_renewal) (maxL := 4) (hh := [(0, 9, 12, 13)]) (by decide) rfl rfl (Nat.le_of_ble_eq_true rfl) ?_
  intro p e s m args below meth c Q A ls hx hb hml hown hts hE hA hP hD hl hZ htab hret
  have hS : va_S A s.heap s.heap [] := va_S.rf
  have hl : lv_has ls 4 [(0, .ref h), (1, .int i_), (2, .ref o)] := hl
  refine lv_aload_n hx hb dL_renewal_0 rfl (lv_at hl 2 rfl) ?_
  refine lv_iconst (v := 0) hx hb dL_renewal_1 (by decide) ?_
  refine lv_aload_n hx hb dL_renewal_2 rfl (lv_at hl 0 rfl) ?_
  refine lv_iload_n hx hb dL_renewal_3 rfl (lv_at hl 1 rfl) ?_
  refine kxV_i (n := 1) (X := []) (wc := wH cy h pn a0 a1 a2 a3 a4 a5 a6 a7 a8 b0 b1 b2 b3 b4 b5 b6 b7 fs ss fd ed lm dd ce cw n iss sb fst len off ren que kc pins sd dy) (Y := kout cy o f) (As := [.int i_]) (rest := [.int 0, .ref o]) ⟨hx, hb, hml, hown, hts⟩ hE hA hZ hP hD hS (c_X2_renewal l D cy hfl h pn a0 a1 a2 a3 a4 a5 a6 a7 a8 b0 b1 b2 b3 b4 b5 b6 b7 fs ss fd ed lm dd ce cw n iss sb fst len off ren que kc pins sd dy i_ hc) (fun _ => Eq.trans (b := [h, a0, a1, a2, a3, a4, a5, a6, a7, a8, b0, b1, b2, b3, b4, b5, b6, b7, pn]) rfl rfl) (q0 := 0) (ci := 2) rfl rfl gL_renewal_X2_renewal rfl rfl rfl ⟨rfl, by decide, by decide, by decide +kernel⟩ ⟨Nat.le_of_ble_eq_true rfl, Nat.le_of_ble_eq_true rfl⟩ rfl hl.1 rfl (Nat.le_of_ble_eq_true rfl) dL_renewal_4 ⟨Nat.le_of_ble_eq_true rfl, Nat.le_of_ble_eq_true rfl⟩ (fun E ce q9 H locs hpx hP hS h1 h2 h3 => ?_) (fun r u H locs hp hP hD hS => ?_)
  · exact absurd (show xkA E 0 from hcd ▸ hpx) xkA_0
  · obtain ⟨rfl, -⟩ := hp
    refine lv_i2l hx hb dL_renewal_7 rfl ?_
    refine va_last (i := 0) (f := f) hx hb hE.1 hP hD hS 19 2 (a := o) rfl rfl k_in0 dL_renewal_8 (fun H locs hP hD hS => ?_)
    refine lv_goto (tgt := 15) hx hb dL_renewal_9 (by decide) ?_
    refine lv_iconst (v := 0) hx hb dL_renewal_15 (by decide) ?_
    exact hret H locs 16 _ 0 _ _ dL_renewal_16 (by decide) (by decide) rfl hP hS
set_option maxHeartbeats 4000000 in
set_option maxRecDepth 100000 in
theorem c_L_renewal_f (l : Launch) (D : va_G) (cy : ClassId × ClassId × ClassId) (hfl : l.stackTraces = false) (h pn a0 a1 a2 a3 a4 a5 a6 a7 a8 b0 b1 b2 b3 b4 b5 b6 b7 : Nat) (fs ss fd ed lm dd ce cw : Nat → Int32) (n : Nat) (iss sb fst len off ren que : Nat → Int32) (kc : Nat) (pins : Nat → Int32) (sd dy : Int32) (i_ : Int32) (hc : kc ≤ 60) (hcd : ¬ cdOne kc i_ = 0) (o : Nat) (f : Nat → Int64) : kLI l D cy yL_renewal wsL_renewal (krx 8 124) [.ref h, .int i_, .ref o] (wH cy h pn a0 a1 a2 a3 a4 a5 a6 a7 a8 b0 b1 b2 b3 b4 b5 b6 b7 fs ss fd ed lm dd ce cw n iss sb fst len off ren que kc pins sd dy ++ kout cy o f) (fun r : Int32 => r = cdOne kc i_) (wH cy h pn a0 a1 a2 a3 a4 a5 a6 a7 a8 b0 b1 b2 b3 b4 b5 b6 b7 fs ss fd ed lm dd ce cw n iss sb fst len off ren que kc pins sd dy ++ kout cy o f) := by
  refine kLI.of (cc := cL_renewal) (maxL := 4) (hh := [(0, 9, 12, 13)]) (by decide) rfl rfl (Nat.le_of_ble_eq_true rfl) ?_
  intro p e s m args below meth c Q A ls hx hb hml hown hts hE hA hP hD hl hZ htab hret
  have hS : va_S A s.heap s.heap [] := va_S.rf
  have hl : lv_has ls 4 [(0, .ref h), (1, .int i_), (2, .ref o)] := hl
  have k_13 : (Cond.classLink RL 13 xIX).before args s = true := hts _ (List.mem_of_getElem? (i := 1) rfl)
  refine lv_aload_n hx hb dL_renewal_0 rfl (lv_at hl 2 rfl) ?_
  refine lv_iconst (v := 0) hx hb dL_renewal_1 (by decide) ?_
  refine lv_aload_n hx hb dL_renewal_2 rfl (lv_at hl 0 rfl) ?_
  refine lv_iload_n hx hb dL_renewal_3 rfl (lv_at hl 1 rfl) ?_
  refine kxV_i (n := 1) (X := []) (wc := wH cy h pn a0 a1 a2 a3 a4 a5 a6 a7 a8 b0 b1 b2 b3 b4 b5 b6 b7 fs ss fd ed lm dd ce cw n iss sb fst len off ren que kc pins sd dy) (Y := kout cy o f) (As := [.int i_]) (rest := [.int 0, .ref o]) ⟨hx, hb, hml, hown, hts⟩ hE hA hZ hP hD hS (c_X2_renewal l D cy hfl h pn a0 a1 a2 a3 a4 a5 a6 a7 a8 b0 b1 b2 b3 b4 b5 b6 b7 fs ss fd ed lm dd ce cw n iss sb fst len off ren que kc pins sd dy i_ hc) (fun _ => Eq.trans (b := [h, a0, a1, a2, a3, a4, a5, a6, a7, a8, b0, b1, b2, b3, b4, b5, b6, b7, pn]) rfl rfl) (q0 := 0) (ci := 2) rfl rfl gL_renewal_X2_renewal rfl rfl rfl ⟨rfl, by decide, by decide, by decide +kernel⟩ ⟨Nat.le_of_ble_eq_true rfl, Nat.le_of_ble_eq_true rfl⟩ rfl hl.1 rfl (Nat.le_of_ble_eq_true rfl) dL_renewal_4 ⟨Nat.le_of_ble_eq_true rfl, Nat.le_of_ble_eq_true rfl⟩ (fun E ce q9 H locs hpx hP hS h1 h2 h3 => ?_) (fun r u H locs hp hP hD hS => ?_)
  · rcases hpx with ⟨rfl, hk⟩ | ⟨rfl, hk⟩ | ⟨rfl, hk⟩
    · refine vx_catch (name := xIX) hown [] ⟨0, 9, 12, 13⟩ [] htab (fun z hz => absurd hz List.not_mem_nil) (by decide) (by decide) k_13 (kl_cast hE (by decide)) h1 h2 h3 ?_
      refine lv_astore_n (lv' := [(3, .ref q9), (0, .ref h), (1, .int i_), (2, .ref o)]) hx hb dL_renewal_12 rfl hl (by decide) rfl (fun ls hl => ?_)
      refine lv_iconst (v := 1) hx hb dL_renewal_13 (by decide) ?_
      exact hret H locs 14 _ 1 _ _ dL_renewal_14 (by decide) (by decide) hk.symm hP hS
    · exact absurd hk cdOne_12.1
    · exact absurd hk cdOne_12.2
  · exact absurd hp.2 hcd
