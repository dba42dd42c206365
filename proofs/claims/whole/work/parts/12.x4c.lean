set_option maxHeartbeats 800000 in
set_option maxRecDepth 100000 in
theorem kX4_leave {zl : Launch} {dC : Nat → ClassId} {dI : Nat → Nat → Nat} {cI cJ cZ cS : ClassId} {sz : Nat} (aX : Nat) (aSh : Nat) (aTe : Nat) (aRe : Nat) (aRF : Nat) (aTa : Nat) (aFD : Nat) (aPe : Nat) (aDr : Nat) (lw : Nat) (hm : Nat) (fo : Int64) (tr : Int32) (fa : Nat) (k : Nat) : Met zl yX4_leave wsX4_leave ({ frames := 0, cells := 0, slots := 0, locals := 0 } : Room) (va_Pc [.ref aX, .int (nI k)] (kPre (dC, dI) (kT cI cJ cZ cS) [(aX, .inr (4, [.ref aSh, .ref aTe, .ref aRe, .ref aRF, .ref aTa, .ref aFD, .ref aPe, .ref aDr, .int (nI lw), .int (nI hm), .long fo, .int tr, .int (nI fa)]))] sz)) (va_Qv (fun (_ : Unit) => True) (fun (_ : Unit) (zU : State) => va_P (dC, dI) vwCl [(aX, .inr (4, [.ref aSh, .ref aTe, .ref aRe, .ref aRF, .ref aTa, .ref aFD, .ref aPe, .ref aDr, .int (nI lw), .int (nI hm), .long fo, .int (ktr tr k), .int (nI fa)]))] zU.heap) (va_A [(aX, .inr (4, [.ref aSh, .ref aTe, .ref aRe, .ref aRF, .ref aTa, .ref aFD, .ref aPe, .ref aDr, .int (nI lw), .int (nI hm), .long fo, .int tr, .int (nI fa)]))] sz)) 0 0 (va_A [(aX, .inr (4, [.ref aSh, .ref aTe, .ref aRe, .ref aRF, .ref aTa, .ref aFD, .ref aPe, .ref aDr, .int (nI lw), .int (nI hm), .long fo, .int tr, .int (nI fa)]))] sz) := by
  refine kstartW_v (cc := cX4_leave) (maxL := 2) rfl rfl (Nat.le_of_ble_eq_true rfl) ?_
  intro zp ze zs zm zb zt zc za zQ zA hx hb hml hts hown hN hK hP hD hS hA hin hret ls hl
  have hl : lv_has ls 2 [(0, .ref aX), (1, .int (nI k))] := hl
  have hinX4 : ∀ w ∈ wsX40, w ∈ wsX4_leave := fun _ h => List.mem_cons_of_mem _ (List.mem_append_right _ h)
  have lk65 := hts (.fieldLink RX4 65 "IronRumours" "traceNow" "I") (List.mem_of_getElem? (i := 1) rfl)
  refine lv_aload_n hx hb dX4_leave_0 rfl (lv_at hl 0 rfl) ?_
  refine lv_bipush (v := nI 31) hx hb dX4_leave_1 (by decide) ?_
  refine lv_aload_n hx hb dX4_leave_3 rfl (lv_at hl 0 rfl) ?_
  refine va_get (D := (dC, dI)) (ci := 4) (v := .int tr) (C := RX4) (T := TX4) (N := 13) hx hb hts hinX4 hown hK hP 0 rfl rfl 11 (by decide) lk65 (fun _ h9 => h9) rfl dX4_leave_4 ?_
  refine lv_imul hx hb dX4_leave_7 ?_
  refine lv_iload_n hx hb dX4_leave_8 rfl (lv_at hl 1 rfl) ?_
  refine lv_iadd hx hb dX4_leave_9 ?_
  refine va_put (D := (dC, dI)) (ci := 4) (v := .int (((nI 31) * tr) + (nI k))) (ty := .int) (C := RX4) (T := TX4) (N := 13) hx hb hts hinX4 tyX4 tyX4_ok nmX4 hown hK hP hD hS 0 rfl rfl 11 (by decide) lk65 (fun _ h9 => h9) rfl (tyX4_ok 11 (by decide)) rfl rfl (Nat.le_of_ble_eq_true rfl) dX4_leave_10 (fun H_1 locs hP hD hS => ?_)
  have hP : va_P (dC, dI) vwCl [(aX, .inr (4, [.ref aSh, .ref aTe, .ref aRe, .ref aRF, .ref aTa, .ref aFD, .ref aPe, .ref aDr, .int (nI lw), .int (nI hm), .long fo, .int (((nI 31) * tr) + (nI k)), .int (nI fa)]))] H_1 := hP
  have hD : va_D zA [(aX, .inr (4, [.ref aSh, .ref aTe, .ref aRe, .ref aRF, .ref aTa, .ref aFD, .ref aPe, .ref aDr, .int (nI lw), .int (nI hm), .long fo, .int (((nI 31) * tr) + (nI k)), .int (nI fa)]))] := hD
  refine hret 13 _ () _ _ dX4_leave_13 hS (fun t ht _ => by rw [ht]; exact hP) ?_
  trivial

set_option maxHeartbeats 800000 in
set_option maxRecDepth 100000 in
theorem kX4_tellersBody {zl : Launch} {dC : Nat → ClassId} {dI : Nat → Nat → Nat} {cI cJ cZ cS : ClassId} {sz : Nat} (aX : Nat) (aSh : Nat) (aTe : Nat) (aRe : Nat) (aRF : Nat) (aTa : Nat) (aFD : Nat) (aPe : Nat) (aDr : Nat) (lw : Nat) (hm : Nat) (fo : Int64) (tr : Int32) (fa : Nat) (q : Nat) : Met zl yX4_tellersBody wsX4_tellersBody ({ frames := 1, cells := 0, slots := 0, locals := 21 } : Room) (va_Pc [.ref aX, .int (nI q)] (kPre (dC, dI) (kT cI cJ cZ cS) [(aX, .inr (4, [.ref aSh, .ref aTe, .ref aRe, .ref aRF, .ref aTa, .ref aFD, .ref aPe, .ref aDr, .int (nI lw), .int (nI hm), .long fo, .int tr, .int (nI fa)]))] sz)) (va_Qi (fun (r : Int32) => fun (_ : Unit) => r = nI q) (fun (_ : Unit) (zU : State) => va_P (dC, dI) vwCl [(aX, .inr (4, [.ref aSh, .ref aTe, .ref aRe, .ref aRF, .ref aTa, .ref aFD, .ref aPe, .ref aDr, .int (nI lw), .int (nI hm), .long fo, .int (ktr tr 1), .int (nI fa)]))] zU.heap) (va_A [(aX, .inr (4, [.ref aSh, .ref aTe, .ref aRe, .ref aRF, .ref aTa, .ref aFD, .ref aPe, .ref aDr, .int (nI lw), .int (nI hm), .long fo, .int tr, .int (nI fa)]))] sz)) 0 0 (va_A [(aX, .inr (4, [.ref aSh, .ref aTe, .ref aRe, .ref aRF, .ref aTa, .ref aFD, .ref aPe, .ref aDr, .int (nI lw), .int (nI hm), .long fo, .int tr, .int (nI fa)]))] sz) := by
  refine kstartW_i (cc := cX4_tellersBody) (maxL := 2) rfl rfl (Nat.le_of_ble_eq_true rfl) ?_
  intro zp ze zs zm zb zt zc za zQ zA hx hb hml hts hown hN hK hP hD hS hA hin hret ls hl
  have hl : lv_has ls 2 [(0, .ref aX), (1, .int (nI q))] := hl
  refine lv_aload_n hx hb dX4_tellersBody_0 rfl (lv_at hl 0 rfl) ?_
  refine lv_iconst (v := nI 1) hx hb dX4_tellersBody_1 (by decide) ?_
  refine kc_v (wr := []) (va_runV (As := [.int (nI 1)]) (rest := []) ⟨hx, hb, hml, hown, hts⟩ (kX4_leave aX aSh aTe aRe aRF aTa aFD aPe aDr lw hm fo tr fa 1 ) (cwV 1 hts gX4_tellersBody_X4_leave rfl rfl rfl hvX4_leave ⟨Nat.le_of_ble_eq_true rfl, Nat.le_of_ble_eq_true rfl⟩) (kpreV hN (q := (RX4, TX4, 13)) (ci := 4) hK (hP.sub [0] rfl) (hD.sub [0] (by decide) rfl) 0 rfl rfl) rfl rfl hl.1 rfl (lv_room (Nat.le_of_ble_eq_true rfl)) dX4_tellersBody_2 ⟨Nat.zero_le _, Nat.zero_le _⟩) (fun _ => by simp only [List.map]) hP hD hS hA [0] [] rfl rfl (by decide) (by decide) (by decide) (fun _ H_2 locs hr_1 hP hD hS => ?_)
  have hP : va_P (dC, dI) vwCl [(aX, .inr (4, [.ref aSh, .ref aTe, .ref aRe, .ref aRF, .ref aTa, .ref aFD, .ref aPe, .ref aDr, .int (nI lw), .int (nI hm), .long fo, .int (ktr tr 1), .int (nI fa)]))] H_2 := hP
  have hD : va_D zA [(aX, .inr (4, [.ref aSh, .ref aTe, .ref aRe, .ref aRF, .ref aTa, .ref aFD, .ref aPe, .ref aDr, .int (nI lw), .int (nI hm), .long fo, .int (ktr tr 1), .int (nI fa)]))] := hD
  refine lv_iload_n hx hb dX4_tellersBody_5 rfl (lv_at hl 1 rfl) ?_
  refine hret 6 _ (nI q) () _ _ dX4_tellersBody_6 hS (fun t ht _ => by rw [ht]; exact hP) ?_
  rfl

set_option maxHeartbeats 800000 in
set_option maxRecDepth 100000 in
theorem kX4_jokersBody {zl : Launch} {dC : Nat → ClassId} {dI : Nat → Nat → Nat} {cI cJ cZ cS : ClassId} {sz : Nat} (aX : Nat) (aSh : Nat) (aTe : Nat) (aRe : Nat) (aRF : Nat) (aTa : Nat) (aFD : Nat) (aPe : Nat) (aDr : Nat) (lw : Nat) (hm : Nat) (fo : Int64) (tr : Int32) (fa : Nat) (q : Nat) : Met zl yX4_jokersBody wsX4_jokersBody ({ frames := 2, cells := 0, slots := 0, locals := 42 } : Room) (va_Pc [.ref aX, .int (nI q)] (kPre (dC, dI) (kT cI cJ cZ cS) [(aX, .inr (4, [.ref aSh, .ref aTe, .ref aRe, .ref aRF, .ref aTa, .ref aFD, .ref aPe, .ref aDr, .int (nI lw), .int (nI hm), .long fo, .int tr, .int (nI fa)]))] sz)) (va_Qi (fun (r : Int32) => fun (_ : Unit) => r = nI (q + 100)) (fun (_ : Unit) (zU : State) => va_P (dC, dI) vwCl [(aX, .inr (4, [.ref aSh, .ref aTe, .ref aRe, .ref aRF, .ref aTa, .ref aFD, .ref aPe, .ref aDr, .int (nI lw), .int (nI hm), .long fo, .int (ktr (ktr tr 2) 1), .int (nI fa)]))] zU.heap) (va_A [(aX, .inr (4, [.ref aSh, .ref aTe, .ref aRe, .ref aRF, .ref aTa, .ref aFD, .ref aPe, .ref aDr, .int (nI lw), .int (nI hm), .long fo, .int tr, .int (nI fa)]))] sz)) 0 0 (va_A [(aX, .inr (4, [.ref aSh, .ref aTe, .ref aRe, .ref aRF, .ref aTa, .ref aFD, .ref aPe, .ref aDr, .int (nI lw), .int (nI hm), .long fo, .int tr, .int (nI fa)]))] sz) := by
  refine kstartW_i (cc := cX4_jokersBody) (maxL := 2) rfl rfl (Nat.le_of_ble_eq_true rfl) ?_
  intro zp ze zs zm zb zt zc za zQ zA hx hb hml hts hown hN hK hP hD hS hA hin hret ls hl
  have hl : lv_has ls 2 [(0, .ref aX), (1, .int (nI q))] := hl
  refine lv_aload_n hx hb dX4_jokersBody_0 rfl (lv_at hl 0 rfl) ?_
  refine lv_iconst (v := nI 2) hx hb dX4_jokersBody_1 (by decide) ?_
  refine kc_v (wr := []) (va_runV (As := [.int (nI 2)]) (rest := []) ⟨hx, hb, hml, hown, hts⟩ (kX4_leave aX aSh aTe aRe aRF aTa aFD aPe aDr lw hm fo tr fa 2 ) (cwV 1 hts gX4_jokersBody_X4_leave rfl rfl rfl hvX4_leave ⟨Nat.le_of_ble_eq_true rfl, Nat.le_of_ble_eq_true rfl⟩) (kpreV hN (q := (RX4, TX4, 13)) (ci := 4) hK (hP.sub [0] rfl) (hD.sub [0] (by decide) rfl) 0 rfl rfl) rfl rfl hl.1 rfl (lv_room (Nat.le_of_ble_eq_true rfl)) dX4_jokersBody_2 ⟨Nat.zero_le _, Nat.zero_le _⟩) (fun _ => by simp only [List.map]) hP hD hS hA [0] [] rfl rfl (by decide) (by decide) (by decide) (fun _ H_2 locs hr_1 hP hD hS => ?_)
  have hP : va_P (dC, dI) vwCl [(aX, .inr (4, [.ref aSh, .ref aTe, .ref aRe, .ref aRF, .ref aTa, .ref aFD, .ref aPe, .ref aDr, .int (nI lw), .int (nI hm), .long fo, .int (ktr tr 2), .int (nI fa)]))] H_2 := hP
  have hD : va_D zA [(aX, .inr (4, [.ref aSh, .ref aTe, .ref aRe, .ref aRF, .ref aTa, .ref aFD, .ref aPe, .ref aDr, .int (nI lw), .int (nI hm), .long fo, .int (ktr tr 2), .int (nI fa)]))] := hD
  refine lv_aload_n hx hb dX4_jokersBody_5 rfl (lv_at hl 0 rfl) ?_
  refine lv_iload_n hx hb dX4_jokersBody_6 rfl (lv_at hl 1 rfl) ?_
  refine kc_i (wr := []) (va_runV (As := [.int (nI q)]) (rest := []) ⟨hx, hb, hml, hown, hts⟩ (kX4_tellersBody aX aSh aTe aRe aRF aTa aFD aPe aDr lw hm fo (ktr tr 2) fa q ) (cwV 1 hts gX4_jokersBody_X4_tellersBody rfl rfl rfl hvX4_tellersBody ⟨Nat.le_of_ble_eq_true rfl, Nat.le_of_ble_eq_true rfl⟩) (kpreV hN (q := (RX4, TX4, 13)) (ci := 4) hK (hP.sub [0] rfl) (hD.sub [0] (by decide) rfl) 0 rfl rfl) rfl rfl hl.1 rfl (lv_room (Nat.le_of_ble_eq_true rfl)) dX4_jokersBody_7 ⟨Nat.zero_le _, Nat.zero_le _⟩) (fun _ => by simp only [List.map]) hP hD hS hA [0] [] rfl rfl (by decide) (by decide) (by decide) (fun r_3 _ H_4 locs hr_3 hP hD hS => ?_)
  have hP : va_P (dC, dI) vwCl [(aX, .inr (4, [.ref aSh, .ref aTe, .ref aRe, .ref aRF, .ref aTa, .ref aFD, .ref aPe, .ref aDr, .int (nI lw), .int (nI hm), .long fo, .int (ktr (ktr tr 2) 1), .int (nI fa)]))] H_4 := hP
  have hD : va_D zA [(aX, .inr (4, [.ref aSh, .ref aTe, .ref aRe, .ref aRF, .ref aTa, .ref aFD, .ref aPe, .ref aDr, .int (nI lw), .int (nI hm), .long fo, .int (ktr (ktr tr 2) 1), .int (nI fa)]))] := hD
  have hr_3 : r_3 = nI q := hr_3
  rw [hr_3]
  refine lv_bipush (v := nI 100) hx hb dX4_jokersBody_10 (by decide) ?_
  refine k_iadd hx hb dX4_jokersBody_12 ?_
  refine hret 13 _ (nI (q + 100)) () _ _ dX4_jokersBody_13 hS (fun t ht _ => by rw [ht]; exact hP) ?_
  rfl

set_option maxHeartbeats 800000 in
set_option maxRecDepth 100000 in
theorem kX4_liarsBody {zl : Launch} {dC : Nat → ClassId} {dI : Nat → Nat → Nat} {cI cJ cZ cS : ClassId} {sz : Nat} (aX : Nat) (aSh : Nat) (aTe : Nat) (aRe : Nat) (aRF : Nat) (aTa : Nat) (aFD : Nat) (aPe : Nat) (aDr : Nat) (lw : Nat) (hm : Nat) (fo : Int64) (tr : Int32) (fa : Nat) (q : Nat) : Met zl yX4_liarsBody wsX4_liarsBody ({ frames := 3, cells := 0, slots := 0, locals := 63 } : Room) (va_Pc [.ref aX, .int (nI q)] (kPre (dC, dI) (kT cI cJ cZ cS) [(aX, .inr (4, [.ref aSh, .ref aTe, .ref aRe, .ref aRF, .ref aTa, .ref aFD, .ref aPe, .ref aDr, .int (nI lw), .int (nI hm), .long fo, .int tr, .int (nI fa)]))] sz)) (va_Qi (fun (r : Int32) => fun (_ : Unit) => r = nI (q + 100 + q)) (fun (_ : Unit) (zU : State) => va_P (dC, dI) vwCl [(aX, .inr (4, [.ref aSh, .ref aTe, .ref aRe, .ref aRF, .ref aTa, .ref aFD, .ref aPe, .ref aDr, .int (nI lw), .int (nI hm), .long fo, .int (ktr (ktr (ktr (ktr tr 3) 2) 1) 1), .int (nI fa)]))] zU.heap) (va_A [(aX, .inr (4, [.ref aSh, .ref aTe, .ref aRe, .ref aRF, .ref aTa, .ref aFD, .ref aPe, .ref aDr, .int (nI lw), .int (nI hm), .long fo, .int tr, .int (nI fa)]))] sz)) 0 0 (va_A [(aX, .inr (4, [.ref aSh, .ref aTe, .ref aRe, .ref aRF, .ref aTa, .ref aFD, .ref aPe, .ref aDr, .int (nI lw), .int (nI hm), .long fo, .int tr, .int (nI fa)]))] sz) := by
  refine kstartW_i (cc := cX4_liarsBody) (maxL := 2) rfl rfl (Nat.le_of_ble_eq_true rfl) ?_
  intro zp ze zs zm zb zt zc za zQ zA hx hb hml hts hown hN hK hP hD hS hA hin hret ls hl
  have hl : lv_has ls 2 [(0, .ref aX), (1, .int (nI q))] := hl
  refine lv_aload_n hx hb dX4_liarsBody_0 rfl (lv_at hl 0 rfl) ?_
  refine lv_iconst (v := nI 3) hx hb dX4_liarsBody_1 (by decide) ?_
  refine kc_v (wr := []) (va_runV (As := [.int (nI 3)]) (rest := []) ⟨hx, hb, hml, hown, hts⟩ (kX4_leave aX aSh aTe aRe aRF aTa aFD aPe aDr lw hm fo tr fa 3 ) (cwV 1 hts gX4_liarsBody_X4_leave rfl rfl rfl hvX4_leave ⟨Nat.le_of_ble_eq_true rfl, Nat.le_of_ble_eq_true rfl⟩) (kpreV hN (q := (RX4, TX4, 13)) (ci := 4) hK (hP.sub [0] rfl) (hD.sub [0] (by decide) rfl) 0 rfl rfl) rfl rfl hl.1 rfl (lv_room (Nat.le_of_ble_eq_true rfl)) dX4_liarsBody_2 ⟨Nat.zero_le _, Nat.zero_le _⟩) (fun _ => by simp only [List.map]) hP hD hS hA [0] [] rfl rfl (by decide) (by decide) (by decide) (fun _ H_2 locs hr_1 hP hD hS => ?_)
  have hP : va_P (dC, dI) vwCl [(aX, .inr (4, [.ref aSh, .ref aTe, .ref aRe, .ref aRF, .ref aTa, .ref aFD, .ref aPe, .ref aDr, .int (nI lw), .int (nI hm), .long fo, .int (ktr tr 3), .int (nI fa)]))] H_2 := hP
  have hD : va_D zA [(aX, .inr (4, [.ref aSh, .ref aTe, .ref aRe, .ref aRF, .ref aTa, .ref aFD, .ref aPe, .ref aDr, .int (nI lw), .int (nI hm), .long fo, .int (ktr tr 3), .int (nI fa)]))] := hD
  refine lv_aload_n hx hb dX4_liarsBody_5 rfl (lv_at hl 0 rfl) ?_
  refine lv_iload_n hx hb dX4_liarsBody_6 rfl (lv_at hl 1 rfl) ?_
  refine kc_i (wr := []) (va_runV (As := [.int (nI q)]) (rest := []) ⟨hx, hb, hml, hown, hts⟩ (kX4_jokersBody aX aSh aTe aRe aRF aTa aFD aPe aDr lw hm fo (ktr tr 3) fa q ) (cwV 1 hts gX4_liarsBody_X4_jokersBody rfl rfl rfl hvX4_jokersBody ⟨Nat.le_of_ble_eq_true rfl, Nat.le_of_ble_eq_true rfl⟩) (kpreV hN (q := (RX4, TX4, 13)) (ci := 4) hK (hP.sub [0] rfl) (hD.sub [0] (by decide) rfl) 0 rfl rfl) rfl rfl hl.1 rfl (lv_room (Nat.le_of_ble_eq_true rfl)) dX4_liarsBody_7 ⟨Nat.zero_le _, Nat.zero_le _⟩) (fun _ => by simp only [List.map]) hP hD hS hA [0] [] rfl rfl (by decide) (by decide) (by decide) (fun r_3 _ H_4 locs hr_3 hP hD hS => ?_)
  have hP : va_P (dC, dI) vwCl [(aX, .inr (4, [.ref aSh, .ref aTe, .ref aRe, .ref aRF, .ref aTa, .ref aFD, .ref aPe, .ref aDr, .int (nI lw), .int (nI hm), .long fo, .int (ktr (ktr (ktr tr 3) 2) 1), .int (nI fa)]))] H_4 := hP
  have hD : va_D zA [(aX, .inr (4, [.ref aSh, .ref aTe, .ref aRe, .ref aRF, .ref aTa, .ref aFD, .ref aPe, .ref aDr, .int (nI lw), .int (nI hm), .long fo, .int (ktr (ktr (ktr tr 3) 2) 1), .int (nI fa)]))] := hD
  have hr_3 : r_3 = nI (q + 100) := hr_3
  rw [hr_3]
  refine lv_aload_n hx hb dX4_liarsBody_10 rfl (lv_at hl 0 rfl) ?_
  refine lv_iload_n hx hb dX4_liarsBody_11 rfl (lv_at hl 1 rfl) ?_
  refine kc_i (wr := []) (va_runV (As := [.int (nI q)]) (rest := [.int (nI (q + 100))]) ⟨hx, hb, hml, hown, hts⟩ (kX4_tellersBody aX aSh aTe aRe aRF aTa aFD aPe aDr lw hm fo (ktr (ktr (ktr tr 3) 2) 1) fa q ) (cwV 1 hts gX4_liarsBody_X4_tellersBody rfl rfl rfl hvX4_tellersBody ⟨Nat.le_of_ble_eq_true rfl, Nat.le_of_ble_eq_true rfl⟩) (kpreV hN (q := (RX4, TX4, 13)) (ci := 4) hK (hP.sub [0] rfl) (hD.sub [0] (by decide) rfl) 0 rfl rfl) rfl rfl hl.1 rfl (lv_room (Nat.le_of_ble_eq_true rfl)) dX4_liarsBody_12 ⟨Nat.zero_le _, Nat.zero_le _⟩) (fun _ => by simp only [List.map]) hP hD hS hA [0] [] rfl rfl (by decide) (by decide) (by decide) (fun r_5 _ H_6 locs hr_5 hP hD hS => ?_)
  have hP : va_P (dC, dI) vwCl [(aX, .inr (4, [.ref aSh, .ref aTe, .ref aRe, .ref aRF, .ref aTa, .ref aFD, .ref aPe, .ref aDr, .int (nI lw), .int (nI hm), .long fo, .int (ktr (ktr (ktr (ktr tr 3) 2) 1) 1), .int (nI fa)]))] H_6 := hP
  have hD : va_D zA [(aX, .inr (4, [.ref aSh, .ref aTe, .ref aRe, .ref aRF, .ref aTa, .ref aFD, .ref aPe, .ref aDr, .int (nI lw), .int (nI hm), .long fo, .int (ktr (ktr (ktr (ktr tr 3) 2) 1) 1), .int (nI fa)]))] := hD
  have hr_5 : r_5 = nI q := hr_5
  rw [hr_5]
  refine k_iadd hx hb dX4_liarsBody_15 ?_
  refine hret 16 _ (nI ((q + 100) + q)) () _ _ dX4_liarsBody_16 hS (fun t ht _ => by rw [ht]; exact hP) ?_
  rfl

set_option maxHeartbeats 800000 in
set_option maxRecDepth 100000 in
theorem kX4_lentGreeting {zl : Launch} {dC : Nat → ClassId} {dI : Nat → Nat → Nat} {cI cJ cZ cS : ClassId} {sz : Nat} (aX : Nat) (aSh : Nat) (aTe : Nat) (aRe : Nat) (aRF : Nat) (aTa : Nat) (aFD : Nat) (aPe : Nat) (aDr : Nat) (lw : Nat) (hm : Nat) (fo : Int64) (tr : Int32) (fa : Nat) (q : Nat) : Met zl yX4_lentGreeting wsX4_lentGreeting ({ frames := 1, cells := 0, slots := 0, locals := 21 } : Room) (va_Pc [.ref aX, .int (nI q)] (kPre (dC, dI) (kT cI cJ cZ cS) [(aX, .inr (4, [.ref aSh, .ref aTe, .ref aRe, .ref aRF, .ref aTa, .ref aFD, .ref aPe, .ref aDr, .int (nI lw), .int (nI hm), .long fo, .int tr, .int (nI fa)]))] sz)) (va_Qi (fun (r : Int32) => fun (_ : Unit) => r = nI q) (fun (_ : Unit) (zU : State) => va_P (dC, dI) vwCl [(aX, .inr (4, [.ref aSh, .ref aTe, .ref aRe, .ref aRF, .ref aTa, .ref aFD, .ref aPe, .ref aDr, .int (nI lw), .int (nI hm), .long fo, .int (ktr tr 4), .int (nI fa)]))] zU.heap) (va_A [(aX, .inr (4, [.ref aSh, .ref aTe, .ref aRe, .ref aRF, .ref aTa, .ref aFD, .ref aPe, .ref aDr, .int (nI lw), .int (nI hm), .long fo, .int tr, .int (nI fa)]))] sz)) 0 0 (va_A [(aX, .inr (4, [.ref aSh, .ref aTe, .ref aRe, .ref aRF, .ref aTa, .ref aFD, .ref aPe, .ref aDr, .int (nI lw), .int (nI hm), .long fo, .int tr, .int (nI fa)]))] sz) := by
  refine kstartW_i (cc := cX4_lentGreeting) (maxL := 2) rfl rfl (Nat.le_of_ble_eq_true rfl) ?_
  intro zp ze zs zm zb zt zc za zQ zA hx hb hml hts hown hN hK hP hD hS hA hin hret ls hl
  have hl : lv_has ls 2 [(0, .ref aX), (1, .int (nI q))] := hl
  refine lv_aload_n hx hb dX4_lentGreeting_0 rfl (lv_at hl 0 rfl) ?_
  refine lv_iconst (v := nI 4) hx hb dX4_lentGreeting_1 (by decide) ?_
  refine kc_v (wr := []) (va_runV (As := [.int (nI 4)]) (rest := []) ⟨hx, hb, hml, hown, hts⟩ (kX4_leave aX aSh aTe aRe aRF aTa aFD aPe aDr lw hm fo tr fa 4 ) (cwV 1 hts gX4_lentGreeting_X4_leave rfl rfl rfl hvX4_leave ⟨Nat.le_of_ble_eq_true rfl, Nat.le_of_ble_eq_true rfl⟩) (kpreV hN (q := (RX4, TX4, 13)) (ci := 4) hK (hP.sub [0] rfl) (hD.sub [0] (by decide) rfl) 0 rfl rfl) rfl rfl hl.1 rfl (lv_room (Nat.le_of_ble_eq_true rfl)) dX4_lentGreeting_2 ⟨Nat.zero_le _, Nat.zero_le _⟩) (fun _ => by simp only [List.map]) hP hD hS hA [0] [] rfl rfl (by decide) (by decide) (by decide) (fun _ H_2 locs hr_1 hP hD hS => ?_)
  have hP : va_P (dC, dI) vwCl [(aX, .inr (4, [.ref aSh, .ref aTe, .ref aRe, .ref aRF, .ref aTa, .ref aFD, .ref aPe, .ref aDr, .int (nI lw), .int (nI hm), .long fo, .int (ktr tr 4), .int (nI fa)]))] H_2 := hP
  have hD : va_D zA [(aX, .inr (4, [.ref aSh, .ref aTe, .ref aRe, .ref aRF, .ref aTa, .ref aFD, .ref aPe, .ref aDr, .int (nI lw), .int (nI hm), .long fo, .int (ktr tr 4), .int (nI fa)]))] := hD
  refine lv_iload_n hx hb dX4_lentGreeting_5 rfl (lv_at hl 1 rfl) ?_
  refine hret 6 _ (nI q) () _ _ dX4_lentGreeting_6 hS (fun t ht _ => by rw [ht]; exact hP) ?_
  rfl

set_option maxHeartbeats 800000 in
set_option maxRecDepth 100000 in
theorem kX4_liarsGreeting {zl : Launch} {dC : Nat → ClassId} {dI : Nat → Nat → Nat} {cI cJ cZ cS : ClassId} {sz : Nat} (aX : Nat) (aSh : Nat) (aTe : Nat) (aRe : Nat) (aRF : Nat) (aTa : Nat) (aFD : Nat) (aPe : Nat) (aDr : Nat) (lw : Nat) (hm : Nat) (fo : Int64) (tr : Int32) (fa : Nat) : Met zl yX4_liarsGreeting wsX4_liarsGreeting ({ frames := 1, cells := 0, slots := 0, locals := 21 } : Room) (va_Pc [.ref aX] (kPre (dC, dI) (kT cI cJ cZ cS) [(aX, .inr (4, [.ref aSh, .ref aTe, .ref aRe, .ref aRF, .ref aTa, .ref aFD, .ref aPe, .ref aDr, .int (nI lw), .int (nI hm), .long fo, .int tr, .int (nI fa)]))] sz)) (va_Qi (fun (r : Int32) => fun (_ : Unit) => r = nI 50) (fun (_ : Unit) (zU : State) => va_P (dC, dI) vwCl [(aX, .inr (4, [.ref aSh, .ref aTe, .ref aRe, .ref aRF, .ref aTa, .ref aFD, .ref aPe, .ref aDr, .int (nI lw), .int (nI hm), .long fo, .int (ktr tr 5), .int (nI fa)]))] zU.heap) (va_A [(aX, .inr (4, [.ref aSh, .ref aTe, .ref aRe, .ref aRF, .ref aTa, .ref aFD, .ref aPe, .ref aDr, .int (nI lw), .int (nI hm), .long fo, .int tr, .int (nI fa)]))] sz)) 0 0 (va_A [(aX, .inr (4, [.ref aSh, .ref aTe, .ref aRe, .ref aRF, .ref aTa, .ref aFD, .ref aPe, .ref aDr, .int (nI lw), .int (nI hm), .long fo, .int tr, .int (nI fa)]))] sz) := by
  refine kstartW_i (cc := cX4_liarsGreeting) (maxL := 1) rfl rfl (Nat.le_of_ble_eq_true rfl) ?_
  intro zp ze zs zm zb zt zc za zQ zA hx hb hml hts hown hN hK hP hD hS hA hin hret ls hl
  have hl : lv_has ls 1 [(0, .ref aX)] := hl
  refine lv_aload_n hx hb dX4_liarsGreeting_0 rfl (lv_at hl 0 rfl) ?_
  refine lv_iconst (v := nI 5) hx hb dX4_liarsGreeting_1 (by decide) ?_
  refine kc_v (wr := []) (va_runV (As := [.int (nI 5)]) (rest := []) ⟨hx, hb, hml, hown, hts⟩ (kX4_leave aX aSh aTe aRe aRF aTa aFD aPe aDr lw hm fo tr fa 5 ) (cwV 1 hts gX4_liarsGreeting_X4_leave rfl rfl rfl hvX4_leave ⟨Nat.le_of_ble_eq_true rfl, Nat.le_of_ble_eq_true rfl⟩) (kpreV hN (q := (RX4, TX4, 13)) (ci := 4) hK (hP.sub [0] rfl) (hD.sub [0] (by decide) rfl) 0 rfl rfl) rfl rfl hl.1 rfl (lv_room (Nat.le_of_ble_eq_true rfl)) dX4_liarsGreeting_2 ⟨Nat.zero_le _, Nat.zero_le _⟩) (fun _ => by simp only [List.map]) hP hD hS hA [0] [] rfl rfl (by decide) (by decide) (by decide) (fun _ H_2 locs hr_1 hP hD hS => ?_)
  have hP : va_P (dC, dI) vwCl [(aX, .inr (4, [.ref aSh, .ref aTe, .ref aRe, .ref aRF, .ref aTa, .ref aFD, .ref aPe, .ref aDr, .int (nI lw), .int (nI hm), .long fo, .int (ktr tr 5), .int (nI fa)]))] H_2 := hP
  have hD : va_D zA [(aX, .inr (4, [.ref aSh, .ref aTe, .ref aRe, .ref aRF, .ref aTa, .ref aFD, .ref aPe, .ref aDr, .int (nI lw), .int (nI hm), .long fo, .int (ktr tr 5), .int (nI fa)]))] := hD
  refine lv_bipush (v := nI 50) hx hb dX4_liarsGreeting_5 (by decide) ?_
  refine hret 7 _ (nI 50) () _ _ dX4_liarsGreeting_7 hS (fun t ht _ => by rw [ht]; exact hP) ?_
  rfl

set_option maxHeartbeats 800000 in
set_option maxRecDepth 100000 in
theorem kX4_takeDraft {zl : Launch} {dC : Nat → ClassId} {dI : Nat → Nat → Nat} {cI cJ cZ cS : ClassId} {sz : Nat} (aX : Nat) (aSh : Nat) (aTe : Nat) (aRe : Nat) (aRF : Nat) (aTa : Nat) (aFD : Nat) (aPe : Nat) (aDr : Nat) (lw : Nat) (hm : Nat) (fo : Int64) (tr : Int32) (fa : Nat) (aTp : Nat) (aTt : Nat) (aTd : Nat) (nt : Nat) (aRp : Nat) (aRt : Nat) (aRd : Nat) (nr : Nat) : Met zl yX4_takeDraft wsX4_takeDraft ({ frames := 0, cells := 0, slots := 0, locals := 0 } : Room) (va_Pc [.ref aX] (kPre (dC, dI) (kT cI cJ cZ cS) [(aX, .inr (4, [.ref aSh, .ref aTe, .ref aRe, .ref aRF, .ref aTa, .ref aFD, .ref aPe, .ref aDr, .int (nI lw), .int (nI hm), .long fo, .int tr, .int (nI fa)])), (aTe, .inr (0, [.ref aTp, .ref aTt, .ref aTd, .int (nI 8), .int (nI nt)])), (aRe, .inr (0, [.ref aRp, .ref aRt, .ref aRd, .int (nI 6), .int (nI nr)]))] sz)) (va_Qv (fun (_ : Unit) => True) (fun (_ : Unit) (zU : State) => va_P (dC, dI) vwCl [(aX, .inr (4, [.ref aSh, .ref aTe, .ref aRe, .ref aRF, .ref aTa, .ref aFD, .ref aDr, .ref aPe, .int (nI 3), .int (nI 0), .long 0, .int tr, .int (nI fa)])), (aTe, .inr (0, [.ref aTp, .ref aTt, .ref aTd, .int (nI 8), .int (nI 0)])), (aRe, .inr (0, [.ref aRp, .ref aRt, .ref aRd, .int (nI 6), .int (nI 0)]))] zU.heap) (va_A [(aX, .inr (4, [.ref aSh, .ref aTe, .ref aRe, .ref aRF, .ref aTa, .ref aFD, .ref aPe, .ref aDr, .int (nI lw), .int (nI hm), .long fo, .int tr, .int (nI fa)])), (aTe, .inr (0, [.ref aTp, .ref aTt, .ref aTd, .int (nI 8), .int (nI nt)])), (aRe, .inr (0, [.ref aRp, .ref aRt, .ref aRd, .int (nI 6), .int (nI nr)]))] sz)) 0 0 (va_A [(aX, .inr (4, [.ref aSh, .ref aTe, .ref aRe, .ref aRF, .ref aTa, .ref aFD, .ref aPe, .ref aDr, .int (nI lw), .int (nI hm), .long fo, .int tr, .int (nI fa)])), (aTe, .inr (0, [.ref aTp, .ref aTt, .ref aTd, .int (nI 8), .int (nI nt)])), (aRe, .inr (0, [.ref aRp, .ref aRt, .ref aRd, .int (nI 6), .int (nI nr)]))] sz) := by
  refine kstartW_v (cc := cX4_takeDraft) (maxL := 2) rfl rfl (Nat.le_of_ble_eq_true rfl) ?_
  intro zp ze zs zm zb zt zc za zQ zA hx hb hml hts hown hN hK hP hD hS hA hin hret ls hl
  have hl : lv_has ls 2 [(0, .ref aX)] := hl
  have hinX0 : ∀ w ∈ wsX00, w ∈ wsX4_takeDraft := fun _ h => List.mem_cons_of_mem _ (List.mem_append_right _ h)
  have hinX4 : ∀ w ∈ wsX40, w ∈ wsX4_takeDraft := fun _ h => List.mem_cons_of_mem _ (List.mem_append_left _ (List.mem_append_right _ h))
  have lk182 := hts (.fieldLink RX4 182 "IronRumours$Entries" "many" "I") (List.mem_of_getElem? (i := 4) rfl)
  have lk22 := hts (.fieldLink RX4 22 "IronRumours" "tellings" "LIronRumours$Entries;") (List.mem_of_getElem? (i := 3) rfl)
  have lk26 := hts (.fieldLink RX4 26 "IronRumours" "readings" "LIronRumours$Entries;") (List.mem_of_getElem? (i := 5) rfl)
  have lk47 := hts (.fieldLink RX4 47 "IronRumours" "people" "LIronRumours$People;") (List.mem_of_getElem? (i := 1) rfl)
  have lk51 := hts (.fieldLink RX4 51 "IronRumours" "draft" "LIronRumours$People;") (List.mem_of_getElem? (i := 2) rfl)
  have lk54 := hts (.fieldLink RX4 54 "IronRumours" "lawNow" "I") (List.mem_of_getElem? (i := 6) rfl)
  have lk58 := hts (.fieldLink RX4 58 "IronRumours" "hushedNow" "I") (List.mem_of_getElem? (i := 8) rfl)
  have lk61 := hts (.fieldLink RX4 61 "IronRumours" "fogs" "J") (List.mem_of_getElem? (i := 7) rfl)
  refine lv_aload_n hx hb dX4_takeDraft_0 rfl (lv_at hl 0 rfl) ?_
  refine va_get (D := (dC, dI)) (ci := 4) (v := .ref aPe) (C := RX4) (T := TX4) (N := 13) hx hb hts hinX4 hown hK hP 0 rfl rfl 6 (by decide) lk47 (fun _ h9 => h9) rfl dX4_takeDraft_1 ?_
  refine lv_astore_n (lv' := [(1, .ref aPe), (0, .ref aX)]) hx hb dX4_takeDraft_4 rfl hl (by decide) rfl (fun ls hl => ?_)
  refine lv_aload_n hx hb dX4_takeDraft_5 rfl (lv_at hl 1 rfl) ?_
  refine lv_aload_n hx hb dX4_takeDraft_6 rfl (lv_at hl 1 rfl) ?_
  refine va_get (D := (dC, dI)) (ci := 4) (v := .ref aDr) (C := RX4) (T := TX4) (N := 13) hx hb hts hinX4 hown hK hP 0 rfl rfl 7 (by decide) lk51 (fun _ h9 => h9) rfl dX4_takeDraft_7 ?_
  refine va_put (D := (dC, dI)) (ci := 4) (v := .ref aDr) (ty := (tyX4 6)) (C := RX4) (T := TX4) (N := 13) hx hb hts hinX4 tyX4 tyX4_ok nmX4 hown hK hP hD hS 0 rfl rfl 6 (by decide) lk47 (fun _ h9 => h9) rfl (tyX4_ok 6 (by decide)) rfl rfl (Nat.le_of_ble_eq_true rfl) dX4_takeDraft_10 (fun H_1 locs hP hD hS => ?_)
  have hP : va_P (dC, dI) vwCl [(aX, .inr (4, [.ref aSh, .ref aTe, .ref aRe, .ref aRF, .ref aTa, .ref aFD, .ref aDr, .ref aDr, .int (nI lw), .int (nI hm), .long fo, .int tr, .int (nI fa)])), (aTe, .inr (0, [.ref aTp, .ref aTt, .ref aTd, .int (nI 8), .int (nI nt)])), (aRe, .inr (0, [.ref aRp, .ref aRt, .ref aRd, .int (nI 6), .int (nI nr)]))] H_1 := hP
  have hD : va_D zA [(aX, .inr (4, [.ref aSh, .ref aTe, .ref aRe, .ref aRF, .ref aTa, .ref aFD, .ref aDr, .ref aDr, .int (nI lw), .int (nI hm), .long fo, .int tr, .int (nI fa)])), (aTe, .inr (0, [.ref aTp, .ref aTt, .ref aTd, .int (nI 8), .int (nI nt)])), (aRe, .inr (0, [.ref aRp, .ref aRt, .ref aRd, .int (nI 6), .int (nI nr)]))] := hD
  refine lv_aload_n hx hb dX4_takeDraft_13 rfl (lv_at hl 1 rfl) ?_
  refine lv_aload_n hx hb dX4_takeDraft_14 rfl (lv_at hl 0 rfl) ?_
  refine va_put (D := (dC, dI)) (ci := 4) (v := .ref aPe) (ty := (tyX4 7)) (C := RX4) (T := TX4) (N := 13) hx hb hts hinX4 tyX4 tyX4_ok nmX4 hown hK hP hD hS 0 rfl rfl 7 (by decide) lk51 (fun _ h9 => h9) rfl (tyX4_ok 7 (by decide)) rfl rfl (Nat.le_of_ble_eq_true rfl) dX4_takeDraft_15 (fun H_2 locs hP hD hS => ?_)
  have hP : va_P (dC, dI) vwCl [(aX, .inr (4, [.ref aSh, .ref aTe, .ref aRe, .ref aRF, .ref aTa, .ref aFD, .ref aDr, .ref aPe, .int (nI lw), .int (nI hm), .long fo, .int tr, .int (nI fa)])), (aTe, .inr (0, [.ref aTp, .ref aTt, .ref aTd, .int (nI 8), .int (nI nt)])), (aRe, .inr (0, [.ref aRp, .ref aRt, .ref aRd, .int (nI 6), .int (nI nr)]))] H_2 := hP
  have hD : va_D zA [(aX, .inr (4, [.ref aSh, .ref aTe, .ref aRe, .ref aRF, .ref aTa, .ref aFD, .ref aDr, .ref aPe, .int (nI lw), .int (nI hm), .long fo, .int tr, .int (nI fa)])), (aTe, .inr (0, [.ref aTp, .ref aTt, .ref aTd, .int (nI 8), .int (nI nt)])), (aRe, .inr (0, [.ref aRp, .ref aRt, .ref aRd, .int (nI 6), .int (nI nr)]))] := hD
  refine lv_aload_n hx hb dX4_takeDraft_18 rfl (lv_at hl 1 rfl) ?_
  refine va_get (D := (dC, dI)) (ci := 4) (v := .ref aTe) (C := RX4) (T := TX4) (N := 13) hx hb hts hinX4 hown hK hP 0 rfl rfl 1 (by decide) lk22 (fun _ h9 => h9) rfl dX4_takeDraft_19 ?_
  refine lv_iconst (v := nI 0) hx hb dX4_takeDraft_22 (by decide) ?_
  refine va_put (D := (dC, dI)) (ci := 0) (v := .int (nI 0)) (ty := .int) (C := RX0) (T := TX0) (N := 5) hx hb hts hinX0 tyX0 tyX0_ok nmX0 hown hK hP hD hS 1 rfl rfl 4 (by decide) lk182 (fun _ h9 => h9) rfl (tyX0_ok 4 (by decide)) rfl rfl (Nat.le_of_ble_eq_true rfl) dX4_takeDraft_23 (fun H_3 locs hP hD hS => ?_)
  have hP : va_P (dC, dI) vwCl [(aX, .inr (4, [.ref aSh, .ref aTe, .ref aRe, .ref aRF, .ref aTa, .ref aFD, .ref aDr, .ref aPe, .int (nI lw), .int (nI hm), .long fo, .int tr, .int (nI fa)])), (aTe, .inr (0, [.ref aTp, .ref aTt, .ref aTd, .int (nI 8), .int (nI 0)])), (aRe, .inr (0, [.ref aRp, .ref aRt, .ref aRd, .int (nI 6), .int (nI nr)]))] H_3 := hP
  have hD : va_D zA [(aX, .inr (4, [.ref aSh, .ref aTe, .ref aRe, .ref aRF, .ref aTa, .ref aFD, .ref aDr, .ref aPe, .int (nI lw), .int (nI hm), .long fo, .int tr, .int (nI fa)])), (aTe, .inr (0, [.ref aTp, .ref aTt, .ref aTd, .int (nI 8), .int (nI 0)])), (aRe, .inr (0, [.ref aRp, .ref aRt, .ref aRd, .int (nI 6), .int (nI nr)]))] := hD
  refine lv_aload_n hx hb dX4_takeDraft_26 rfl (lv_at hl 1 rfl) ?_
  refine va_get (D := (dC, dI)) (ci := 4) (v := .ref aRe) (C := RX4) (T := TX4) (N := 13) hx hb hts hinX4 hown hK hP 0 rfl rfl 2 (by decide) lk26 (fun _ h9 => h9) rfl dX4_takeDraft_27 ?_
  refine lv_iconst (v := nI 0) hx hb dX4_takeDraft_30 (by decide) ?_
  refine va_put (D := (dC, dI)) (ci := 0) (v := .int (nI 0)) (ty := .int) (C := RX0) (T := TX0) (N := 5) hx hb hts hinX0 tyX0 tyX0_ok nmX0 hown hK hP hD hS 2 rfl rfl 4 (by decide) lk182 (fun _ h9 => h9) rfl (tyX0_ok 4 (by decide)) rfl rfl (Nat.le_of_ble_eq_true rfl) dX4_takeDraft_31 (fun H_4 locs hP hD hS => ?_)
  have hP : va_P (dC, dI) vwCl [(aX, .inr (4, [.ref aSh, .ref aTe, .ref aRe, .ref aRF, .ref aTa, .ref aFD, .ref aDr, .ref aPe, .int (nI lw), .int (nI hm), .long fo, .int tr, .int (nI fa)])), (aTe, .inr (0, [.ref aTp, .ref aTt, .ref aTd, .int (nI 8), .int (nI 0)])), (aRe, .inr (0, [.ref aRp, .ref aRt, .ref aRd, .int (nI 6), .int (nI 0)]))] H_4 := hP
  have hD : va_D zA [(aX, .inr (4, [.ref aSh, .ref aTe, .ref aRe, .ref aRF, .ref aTa, .ref aFD, .ref aDr, .ref aPe, .int (nI lw), .int (nI hm), .long fo, .int tr, .int (nI fa)])), (aTe, .inr (0, [.ref aTp, .ref aTt, .ref aTd, .int (nI 8), .int (nI 0)])), (aRe, .inr (0, [.ref aRp, .ref aRt, .ref aRd, .int (nI 6), .int (nI 0)]))] := hD
  refine lv_aload_n hx hb dX4_takeDraft_34 rfl (lv_at hl 1 rfl) ?_
  refine lv_iconst (v := nI 3) hx hb dX4_takeDraft_35 (by decide) ?_
  refine va_put (D := (dC, dI)) (ci := 4) (v := .int (nI 3)) (ty := .int) (C := RX4) (T := TX4) (N := 13) hx hb hts hinX4 tyX4 tyX4_ok nmX4 hown hK hP hD hS 0 rfl rfl 8 (by decide) lk54 (fun _ h9 => h9) rfl (tyX4_ok 8 (by decide)) rfl rfl (Nat.le_of_ble_eq_true rfl) dX4_takeDraft_36 (fun H_5 locs hP hD hS => ?_)
  have hP : va_P (dC, dI) vwCl [(aX, .inr (4, [.ref aSh, .ref aTe, .ref aRe, .ref aRF, .ref aTa, .ref aFD, .ref aDr, .ref aPe, .int (nI 3), .int (nI hm), .long fo, .int tr, .int (nI fa)])), (aTe, .inr (0, [.ref aTp, .ref aTt, .ref aTd, .int (nI 8), .int (nI 0)])), (aRe, .inr (0, [.ref aRp, .ref aRt, .ref aRd, .int (nI 6), .int (nI 0)]))] H_5 := hP
  have hD : va_D zA [(aX, .inr (4, [.ref aSh, .ref aTe, .ref aRe, .ref aRF, .ref aTa, .ref aFD, .ref aDr, .ref aPe, .int (nI 3), .int (nI hm), .long fo, .int tr, .int (nI fa)])), (aTe, .inr (0, [.ref aTp, .ref aTt, .ref aTd, .int (nI 8), .int (nI 0)])), (aRe, .inr (0, [.ref aRp, .ref aRt, .ref aRd, .int (nI 6), .int (nI 0)]))] := hD
  refine lv_aload_n hx hb dX4_takeDraft_39 rfl (lv_at hl 1 rfl) ?_
  refine lv_lconst (v := 0) hx hb dX4_takeDraft_40 (by decide) ?_
  refine va_put (D := (dC, dI)) (ci := 4) (v := .long 0) (ty := .long) (C := RX4) (T := TX4) (N := 13) hx hb hts hinX4 tyX4 tyX4_ok nmX4 hown hK hP hD hS 0 rfl rfl 10 (by decide) lk61 (fun _ h9 => h9) rfl (tyX4_ok 10 (by decide)) rfl rfl (Nat.le_of_ble_eq_true rfl) dX4_takeDraft_41 (fun H_6 locs hP hD hS => ?_)
  have hP : va_P (dC, dI) vwCl [(aX, .inr (4, [.ref aSh, .ref aTe, .ref aRe, .ref aRF, .ref aTa, .ref aFD, .ref aDr, .ref aPe, .int (nI 3), .int (nI hm), .long 0, .int tr, .int (nI fa)])), (aTe, .inr (0, [.ref aTp, .ref aTt, .ref aTd, .int (nI 8), .int (nI 0)])), (aRe, .inr (0, [.ref aRp, .ref aRt, .ref aRd, .int (nI 6), .int (nI 0)]))] H_6 := hP
  have hD : va_D zA [(aX, .inr (4, [.ref aSh, .ref aTe, .ref aRe, .ref aRF, .ref aTa, .ref aFD, .ref aDr, .ref aPe, .int (nI 3), .int (nI hm), .long 0, .int tr, .int (nI fa)])), (aTe, .inr (0, [.ref aTp, .ref aTt, .ref aTd, .int (nI 8), .int (nI 0)])), (aRe, .inr (0, [.ref aRp, .ref aRt, .ref aRd, .int (nI 6), .int (nI 0)]))] := hD
  refine lv_aload_n hx hb dX4_takeDraft_44 rfl (lv_at hl 1 rfl) ?_
  refine lv_iconst (v := nI 0) hx hb dX4_takeDraft_45 (by decide) ?_
  refine va_put (D := (dC, dI)) (ci := 4) (v := .int (nI 0)) (ty := .int) (C := RX4) (T := TX4) (N := 13) hx hb hts hinX4 tyX4 tyX4_ok nmX4 hown hK hP hD hS 0 rfl rfl 9 (by decide) lk58 (fun _ h9 => h9) rfl (tyX4_ok 9 (by decide)) rfl rfl (Nat.le_of_ble_eq_true rfl) dX4_takeDraft_46 (fun H_7 locs hP hD hS => ?_)
  have hP : va_P (dC, dI) vwCl [(aX, .inr (4, [.ref aSh, .ref aTe, .ref aRe, .ref aRF, .ref aTa, .ref aFD, .ref aDr, .ref aPe, .int (nI 3), .int (nI 0), .long 0, .int tr, .int (nI fa)])), (aTe, .inr (0, [.ref aTp, .ref aTt, .ref aTd, .int (nI 8), .int (nI 0)])), (aRe, .inr (0, [.ref aRp, .ref aRt, .ref aRd, .int (nI 6), .int (nI 0)]))] H_7 := hP
  have hD : va_D zA [(aX, .inr (4, [.ref aSh, .ref aTe, .ref aRe, .ref aRF, .ref aTa, .ref aFD, .ref aDr, .ref aPe, .int (nI 3), .int (nI 0), .long 0, .int tr, .int (nI fa)])), (aTe, .inr (0, [.ref aTp, .ref aTt, .ref aTd, .int (nI 8), .int (nI 0)])), (aRe, .inr (0, [.ref aRp, .ref aRt, .ref aRd, .int (nI 6), .int (nI 0)]))] := hD
  refine hret 49 _ () _ _ dX4_takeDraft_49 hS (fun t ht _ => by rw [ht]; exact hP) ?_
  trivial
