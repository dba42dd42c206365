set_option maxHeartbeats 800000 in
set_option maxRecDepth 100000 in
theorem kJ13_bitCount_95d88 {zl : Launch} {dC : Nat → ClassId} {dI : Nat → Nat → Nat} {cI cJ cZ cS : ClassId} (n : Nat) (hn : n < 32768) : Met zl yJ13_bitCount_95d88 wsJ13_bitCount_95d88 ({ frames := 0, cells := 0, slots := 0, locals := 0 } : Room) (va_Pc [.long (lN n)] (rPre (dC, dI) (kT cI cJ cZ cS) [])) (vp_Si (fun r : Int32 => r = nI (fb_ct (fun i => n.testBit i) 15))) 0 0 (fun _ => False) := by
  refine kstartR_i (cc := cJ13_bitCount_95d88) (maxL := 2) rfl rfl (Nat.le_of_ble_eq_true rfl) ?_
  intro zp ze zs zm zb zt zc za zQ hx hb hml hts hown hN hK hP hret ls hl
  have hl : lv_has ls 2 [(0, .long (lN n))] := hl
  refine lv_lload_n hx hb dJ13_bitCount_95d88_0 rfl (lv_at hl 0 rfl) ?_
  refine lv_lload_n hx hb dJ13_bitCount_95d88_1 rfl (lv_at hl 0 rfl) ?_
  refine lv_iconst (v := nI 1) hx hb dJ13_bitCount_95d88_2 (by decide) ?_
  refine lv_lushr hx hb dJ13_bitCount_95d88_3 rfl ?_
  refine k_castl (y := lN (n >>> 1)) (lushN (by omega) (by omega)) ?_
  refine lv_ldc2 (v := 6148914691236517205) hx hb hown (hts (.constantLong RJ13 314 (6148914691236517205)) (List.mem_of_getElem? (i := 1) rfl)) dJ13_bitCount_95d88_4 ?_
  refine k_castl (y := lN 6148914691236517205) (rfl) ?_
  refine lv_land hx hb dJ13_bitCount_95d88_7 ?_
  refine k_castl (y := lN (n >>> 1 &&& 6148914691236517205)) (fb_andL _ _) ?_
  refine lv_lsub hx hb dJ13_bitCount_95d88_8 ?_
  refine k_castl (y := lN (n - (n >>> 1 &&& 6148914691236517205))) (lN_sub (Nat.le_trans Nat.and_le_left (Nat.shiftRight_le _ _))) ?_
  refine k_nameL (fun a1 ea1 => ?_)
  have b1 : a1 < 32768 := by rw [ea1]; exact Nat.lt_of_le_of_lt (Nat.sub_le _ _) hn
  refine lv_lstore_n (lv' := [(0, .long (lN a1))]) hx hb dJ13_bitCount_95d88_9 rfl hl (by decide) rfl (fun ls hl => ?_)
  refine lv_lload_n hx hb dJ13_bitCount_95d88_10 rfl (lv_at hl 0 rfl) ?_
  refine lv_ldc2 (v := 3689348814741910323) hx hb hown (hts (.constantLong RJ13 316 (3689348814741910323)) (List.mem_of_getElem? (i := 2) rfl)) dJ13_bitCount_95d88_11 ?_
  refine k_castl (y := lN 3689348814741910323) (rfl) ?_
  refine lv_land hx hb dJ13_bitCount_95d88_14 ?_
  refine k_castl (y := lN (a1 &&& 3689348814741910323)) (fb_andL _ _) ?_
  refine lv_lload_n hx hb dJ13_bitCount_95d88_15 rfl (lv_at hl 0 rfl) ?_
  refine lv_iconst (v := nI 2) hx hb dJ13_bitCount_95d88_16 (by decide) ?_
  refine lv_lushr hx hb dJ13_bitCount_95d88_17 rfl ?_
  refine k_castl (y := lN (a1 >>> 2)) (lushN (by omega) (by omega)) ?_
  refine lv_ldc2 (v := 3689348814741910323) hx hb hown (hts (.constantLong RJ13 316 (3689348814741910323)) (List.mem_of_getElem? (i := 2) rfl)) dJ13_bitCount_95d88_18 ?_
  refine k_castl (y := lN 3689348814741910323) (rfl) ?_
  refine lv_land hx hb dJ13_bitCount_95d88_21 ?_
  refine k_castl (y := lN (a1 >>> 2 &&& 3689348814741910323)) (fb_andL _ _) ?_
  refine lv_ladd hx hb dJ13_bitCount_95d88_22 ?_
  refine k_castl (y := lN ((a1 &&& 3689348814741910323) + (a1 >>> 2 &&& 3689348814741910323))) (lN_add _ _) ?_
  refine k_nameL (fun a2 ea2 => ?_)
  have b2 : a2 < 65536 := by have h1 : a1 &&& 3689348814741910323 ≤ a1 := Nat.and_le_left; have h2 : a1 >>> 2 &&& 3689348814741910323 ≤ a1 >>> 2 := Nat.and_le_left; have h3 := Nat.shiftRight_le a1 2; omega
  refine lv_lstore_n (lv' := [(0, .long (lN a2))]) hx hb dJ13_bitCount_95d88_23 rfl hl (by decide) rfl (fun ls hl => ?_)
  refine lv_lload_n hx hb dJ13_bitCount_95d88_24 rfl (lv_at hl 0 rfl) ?_
  refine lv_lload_n hx hb dJ13_bitCount_95d88_25 rfl (lv_at hl 0 rfl) ?_
  refine lv_iconst (v := nI 4) hx hb dJ13_bitCount_95d88_26 (by decide) ?_
  refine lv_lushr hx hb dJ13_bitCount_95d88_27 rfl ?_
  refine k_castl (y := lN (a2 >>> 4)) (lushN (by omega) (by omega)) ?_
  refine lv_ladd hx hb dJ13_bitCount_95d88_28 ?_
  refine k_castl (y := lN (a2 + a2 >>> 4)) (lN_add _ _) ?_
  refine lv_ldc2 (v := 1085102592571150095) hx hb hown (hts (.constantLong RJ13 318 (1085102592571150095)) (List.mem_of_getElem? (i := 3) rfl)) dJ13_bitCount_95d88_29 ?_
  refine k_castl (y := lN 1085102592571150095) (rfl) ?_
  refine lv_land hx hb dJ13_bitCount_95d88_32 ?_
  refine k_castl (y := lN (a2 + a2 >>> 4 &&& 1085102592571150095)) (fb_andL _ _) ?_
  refine k_nameL (fun a3 ea3 => ?_)
  have b3 : a3 < 131072 := by have h1 : a2 + a2 >>> 4 &&& 1085102592571150095 ≤ a2 + a2 >>> 4 := Nat.and_le_left; have h3 := Nat.shiftRight_le a2 4; omega
  refine lv_lstore_n (lv' := [(0, .long (lN a3))]) hx hb dJ13_bitCount_95d88_33 rfl hl (by decide) rfl (fun ls hl => ?_)
  refine lv_lload_n hx hb dJ13_bitCount_95d88_34 rfl (lv_at hl 0 rfl) ?_
  refine lv_lload_n hx hb dJ13_bitCount_95d88_35 rfl (lv_at hl 0 rfl) ?_
  refine lv_bipush (v := nI 8) hx hb dJ13_bitCount_95d88_36 (by decide) ?_
  refine lv_lushr hx hb dJ13_bitCount_95d88_38 rfl ?_
  refine k_castl (y := lN (a3 >>> 8)) (lushN (by omega) (by omega)) ?_
  refine lv_ladd hx hb dJ13_bitCount_95d88_39 ?_
  refine k_castl (y := lN (a3 + a3 >>> 8)) (lN_add _ _) ?_
  refine k_nameL (fun a4 ea4 => ?_)
  have b4 : a4 < 262144 := by have h3 := Nat.shiftRight_le a3 8; omega
  refine lv_lstore_n (lv' := [(0, .long (lN a4))]) hx hb dJ13_bitCount_95d88_40 rfl hl (by decide) rfl (fun ls hl => ?_)
  refine lv_lload_n hx hb dJ13_bitCount_95d88_41 rfl (lv_at hl 0 rfl) ?_
  refine lv_lload_n hx hb dJ13_bitCount_95d88_42 rfl (lv_at hl 0 rfl) ?_
  refine lv_bipush (v := nI 16) hx hb dJ13_bitCount_95d88_43 (by decide) ?_
  refine lv_lushr hx hb dJ13_bitCount_95d88_45 rfl ?_
  refine k_castl (y := lN (a4 >>> 16)) (lushN (by omega) (by omega)) ?_
  refine lv_ladd hx hb dJ13_bitCount_95d88_46 ?_
  refine k_castl (y := lN (a4 + a4 >>> 16)) (lN_add _ _) ?_
  refine k_nameL (fun a5 ea5 => ?_)
  have b5 : a5 < 524288 := by have h3 := Nat.shiftRight_le a4 16; omega
  refine lv_lstore_n (lv' := [(0, .long (lN a5))]) hx hb dJ13_bitCount_95d88_47 rfl hl (by decide) rfl (fun ls hl => ?_)
  refine lv_lload_n hx hb dJ13_bitCount_95d88_48 rfl (lv_at hl 0 rfl) ?_
  refine lv_lload_n hx hb dJ13_bitCount_95d88_49 rfl (lv_at hl 0 rfl) ?_
  refine lv_bipush (v := nI 32) hx hb dJ13_bitCount_95d88_50 (by decide) ?_
  refine lv_lushr hx hb dJ13_bitCount_95d88_52 rfl ?_
  refine k_castl (y := lN (a5 >>> 32)) (lushN (by omega) (by omega)) ?_
  refine lv_ladd hx hb dJ13_bitCount_95d88_53 ?_
  refine k_castl (y := lN (a5 + a5 >>> 32)) (lN_add _ _) ?_
  refine k_nameL (fun a6 ea6 => ?_)
  have b6 : a6 < 1048576 := by have h3 := Nat.shiftRight_le a5 32; omega
  refine lv_lstore_n (lv' := [(0, .long (lN a6))]) hx hb dJ13_bitCount_95d88_54 rfl hl (by decide) rfl (fun ls hl => ?_)
  refine lv_lload_n hx hb dJ13_bitCount_95d88_55 rfl (lv_at hl 0 rfl) ?_
  refine lv_l2i hx hb dJ13_bitCount_95d88_56 rfl ?_
  refine k_cast (y := nI a6) (lN_i _) ?_
  refine lv_bipush (v := nI 127) hx hb dJ13_bitCount_95d88_57 (by decide) ?_
  refine lv_iand hx hb dJ13_bitCount_95d88_59 ?_
  refine k_cast (y := nI (a6 &&& 127)) (andI _ _) ?_
  refine hret 60 _ (nI (a6 &&& 127)) dJ13_bitCount_95d88_60 ?_
  rw [← swar_ok hn]
  subst ea6; subst ea5; subst ea4; subst ea3; subst ea2; subst ea1
  rfl

set_option maxHeartbeats 800000 in
set_option maxRecDepth 100000 in
theorem kJ6_bitCount_0f7a4 {zl : Launch} {dC : Nat → ClassId} {dI : Nat → Nat → Nat} {cI cJ cZ cS : ClassId} (n : Nat) (hn : n < 64) : Met zl yJ6_bitCount_0f7a4 wsJ6_bitCount_0f7a4 ({ frames := 0, cells := 0, slots := 0, locals := 0 } : Room) (va_Pc [.int (nI n)] (rPre (dC, dI) (kT cI cJ cZ cS) [])) (vp_Si (fun r : Int32 => r = nI (popc n))) 0 0 (fun _ => False) := by
  refine kstartR_i (cc := cJ6_bitCount_0f7a4) (maxL := 1) rfl rfl (Nat.le_of_ble_eq_true rfl) ?_
  intro zp ze zs zm zb zt zc za zQ hx hb hml hts hown hN hK hP hret ls hl
  have hl : lv_has ls 1 [(0, .int (nI n))] := hl
  refine lv_iload_n hx hb dJ6_bitCount_0f7a4_0 rfl (lv_at hl 0 rfl) ?_
  refine lv_iload_n hx hb dJ6_bitCount_0f7a4_1 rfl (lv_at hl 0 rfl) ?_
  refine lv_iconst (v := nI 1) hx hb dJ6_bitCount_0f7a4_2 (by decide) ?_
  refine lv_iushr hx hb dJ6_bitCount_0f7a4_3 rfl ?_
  refine lv_ldcw (v := 1431655765) hx hb hown (hts (.constant RJ6 265 (1431655765)) (List.mem_of_getElem? (i := 1) rfl)) dJ6_bitCount_0f7a4_4 ?_
  refine lv_iand hx hb dJ6_bitCount_0f7a4_7 ?_
  refine lv_isub hx hb dJ6_bitCount_0f7a4_8 ?_
  refine lv_topi (fun y1 ey1 => ?_)
  refine lv_istore_n (lv' := [(0, .int y1)]) hx hb dJ6_bitCount_0f7a4_9 rfl hl (by decide) rfl (fun ls hl => ?_)
  refine lv_iload_n hx hb dJ6_bitCount_0f7a4_10 rfl (lv_at hl 0 rfl) ?_
  refine lv_ldcw (v := 858993459) hx hb hown (hts (.constant RJ6 266 (858993459)) (List.mem_of_getElem? (i := 2) rfl)) dJ6_bitCount_0f7a4_11 ?_
  refine lv_iand hx hb dJ6_bitCount_0f7a4_14 ?_
  refine lv_iload_n hx hb dJ6_bitCount_0f7a4_15 rfl (lv_at hl 0 rfl) ?_
  refine lv_iconst (v := nI 2) hx hb dJ6_bitCount_0f7a4_16 (by decide) ?_
  refine lv_iushr hx hb dJ6_bitCount_0f7a4_17 rfl ?_
  refine lv_ldcw (v := 858993459) hx hb hown (hts (.constant RJ6 266 (858993459)) (List.mem_of_getElem? (i := 2) rfl)) dJ6_bitCount_0f7a4_18 ?_
  refine lv_iand hx hb dJ6_bitCount_0f7a4_21 ?_
  refine lv_iadd hx hb dJ6_bitCount_0f7a4_22 ?_
  refine lv_topi (fun y2 ey2 => ?_)
  refine lv_istore_n (lv' := [(0, .int y2)]) hx hb dJ6_bitCount_0f7a4_23 rfl hl (by decide) rfl (fun ls hl => ?_)
  refine lv_iload_n hx hb dJ6_bitCount_0f7a4_24 rfl (lv_at hl 0 rfl) ?_
  refine lv_iload_n hx hb dJ6_bitCount_0f7a4_25 rfl (lv_at hl 0 rfl) ?_
  refine lv_iconst (v := nI 4) hx hb dJ6_bitCount_0f7a4_26 (by decide) ?_
  refine lv_iushr hx hb dJ6_bitCount_0f7a4_27 rfl ?_
  refine lv_iadd hx hb dJ6_bitCount_0f7a4_28 ?_
  refine lv_ldcw (v := 252645135) hx hb hown (hts (.constant RJ6 267 (252645135)) (List.mem_of_getElem? (i := 3) rfl)) dJ6_bitCount_0f7a4_29 ?_
  refine lv_iand hx hb dJ6_bitCount_0f7a4_32 ?_
  refine lv_topi (fun y3 ey3 => ?_)
  refine lv_istore_n (lv' := [(0, .int y3)]) hx hb dJ6_bitCount_0f7a4_33 rfl hl (by decide) rfl (fun ls hl => ?_)
  refine lv_iload_n hx hb dJ6_bitCount_0f7a4_34 rfl (lv_at hl 0 rfl) ?_
  refine lv_iload_n hx hb dJ6_bitCount_0f7a4_35 rfl (lv_at hl 0 rfl) ?_
  refine lv_bipush (v := nI 8) hx hb dJ6_bitCount_0f7a4_36 (by decide) ?_
  refine lv_iushr hx hb dJ6_bitCount_0f7a4_38 rfl ?_
  refine lv_iadd hx hb dJ6_bitCount_0f7a4_39 ?_
  refine lv_topi (fun y4 ey4 => ?_)
  refine lv_istore_n (lv' := [(0, .int y4)]) hx hb dJ6_bitCount_0f7a4_40 rfl hl (by decide) rfl (fun ls hl => ?_)
  refine lv_iload_n hx hb dJ6_bitCount_0f7a4_41 rfl (lv_at hl 0 rfl) ?_
  refine lv_iload_n hx hb dJ6_bitCount_0f7a4_42 rfl (lv_at hl 0 rfl) ?_
  refine lv_bipush (v := nI 16) hx hb dJ6_bitCount_0f7a4_43 (by decide) ?_
  refine lv_iushr hx hb dJ6_bitCount_0f7a4_45 rfl ?_
  refine lv_iadd hx hb dJ6_bitCount_0f7a4_46 ?_
  refine lv_topi (fun y5 ey5 => ?_)
  refine lv_istore_n (lv' := [(0, .int y5)]) hx hb dJ6_bitCount_0f7a4_47 rfl hl (by decide) rfl (fun ls hl => ?_)
  refine lv_iload_n hx hb dJ6_bitCount_0f7a4_48 rfl (lv_at hl 0 rfl) ?_
  refine lv_bipush (v := nI 63) hx hb dJ6_bitCount_0f7a4_49 (by decide) ?_
  refine lv_iand hx hb dJ6_bitCount_0f7a4_51 ?_
  refine hret 52 _ (y5 &&& (nI 63)) dJ6_bitCount_0f7a4_52 ?_
  subst ey5; subst ey4; subst ey3; subst ey2; subst ey1
  exact bc6 n hn

set_option maxHeartbeats 800000 in
set_option maxRecDepth 100000 in
theorem kX3_originsBy {zl : Launch} {dC : Nat → ClassId} {dI : Nat → Nat → Nat} {cI cJ cZ cS : ClassId} (aTa : Nat) (aHe : Nat) (fHe : Nat → Int64) (q : Nat) (t : Nat) (d : Nat) (hq : q < 6) (ht : t < 4) (hd : d < 60) : Met zl yX3_originsBy wsX3_originsBy ({ frames := 1, cells := 0, slots := 0, locals := 21 } : Room) (va_Pc [.ref aTa, .int (nI q), .int (nI t), .int (nI d)] (rPre (dC, dI) (kT cI cJ cZ cS) [(aTa, .inr (3, [.ref aHe])), (aHe, .inl (cJ, 360, .inr (.inl fHe)))])) (vp_Si (fun r : Int32 => r = nI (cntO fHe d q t))) 0 0 (fun _ => False) := by
  refine kstartR_i (cc := cX3_originsBy) (maxL := 4) rfl rfl (Nat.le_of_ble_eq_true rfl) ?_
  intro zp ze zs zm zb zt zc za zQ hx hb hml hts hown hN hK hP hret ls hl
  have hl : lv_has ls 4 [(0, .ref aTa), (1, .int (nI q)), (2, .int (nI t)), (3, .int (nI d))] := hl
  have hinX3 : ∀ w ∈ wsX30, w ∈ wsX3_originsBy := fun _ h => List.mem_cons_of_mem _ (List.mem_append_right _ h)
  have lk9 := hts (.fieldLink RX3 9 "IronRumours$Talk" "heard" "[J") (List.mem_of_getElem? (i := 1) rfl)
  refine lv_aload_n hx hb dX3_originsBy_0 rfl (lv_at hl 0 rfl) ?_
  refine va_get (D := (dC, dI)) (ci := 3) (v := .ref aHe) (C := RX3) (T := TX3) (N := 1) hx hb hts hinX3 hown hK hP 0 rfl rfl 0 (by decide) lk9 (fun _ h9 => h9) rfl dX3_originsBy_1 ?_
  refine lv_iload_n hx hb dX3_originsBy_4 rfl (lv_at hl 3 rfl) ?_
  refine lv_bipush (v := nI 6) hx hb dX3_originsBy_5 (by decide) ?_
  refine k_imul hx hb dX3_originsBy_7 ?_
  refine lv_iload_n hx hb dX3_originsBy_8 rfl (lv_at hl 1 rfl) ?_
  refine k_iadd hx hb dX3_originsBy_9 ?_
  refine k_lald hx hb hK hP 1 1 rfl rfl (n := 360) (v := fHe ((d * 6) + q)) (by omega) (by decide) (rfl) dX3_originsBy_10 ?_
  refine lv_iload_n hx hb dX3_originsBy_11 rfl (lv_at hl 2 rfl) ?_
  refine lv_bipush (v := nI 15) hx hb dX3_originsBy_12 (by decide) ?_
  refine k_imul hx hb dX3_originsBy_14 ?_
  refine lv_lshr hx hb dX3_originsBy_15 rfl ?_
  refine lv_ldc2 (v := 32767) hx hb hown (hts (.constantLong RX3 63 (32767)) (List.mem_of_getElem? (i := 2) rfl)) dX3_originsBy_16 ?_
  refine lv_land hx hb dX3_originsBy_19 ?_
  refine k_castl (y := lN (mskOf (fHe (d * 6 + q)) t)) (mskOf_eq _ _) ?_
  refine rc_i (va_runS (As := [.long (lN (mskOf (fHe (d * 6 + q)) t))]) (rest := []) ⟨hx, hb, hml, hown, hts⟩ (kJ13_bitCount_95d88 (mskOf (fHe (d * 6 + q)) t) (mskOf_lt _ _)) (va_cwS 1 hts gX3_originsBy_J13_bitCount_95d88 rfl rfl rfl hvJ13_bitCount_95d88 ⟨Nat.le_of_ble_eq_true rfl, Nat.le_of_ble_eq_true rfl⟩) (rpreS hN hK (hP.sub [] rfl)) rfl rfl hl.1 rfl (lv_room (Nat.le_of_ble_eq_true rfl)) dX3_originsBy_20 ⟨Nat.zero_le _, Nat.zero_le _⟩) (fun r_1 hr_1 => ?_)
  have hr_1 : r_1 = nI (fb_ct (fun i => (mskOf (fHe (d * 6 + q)) t).testBit i) 15) := hr_1
  rw [hr_1]
  refine hret 23 _ (nI (fb_ct (fun i => (mskOf (fHe (d * 6 + q)) t).testBit i) 15)) dX3_originsBy_23 ?_
  exact congrArg nI (mskOf_cnt ht)

set_option maxHeartbeats 800000 in
set_option maxRecDepth 100000 in
theorem kX4_isFoggy {zl : Launch} {dC : Nat → ClassId} {dI : Nat → Nat → Nat} {cI cJ cZ cS : ClassId} (aX : Nat) (aSh : Nat) (aTe : Nat) (aRe : Nat) (aRF : Nat) (aTa : Nat) (aFD : Nat) (aPe : Nat) (aDr : Nat) (lw : Nat) (hm : Nat) (fo : Int64) (tr : Int32) (fa : Nat) (d : Nat) (hd : d < 60) : Met zl yX4_isFoggy wsX4_isFoggy ({ frames := 0, cells := 0, slots := 0, locals := 0 } : Room) (va_Pc [.ref aX, .int (nI d)] (rPre (dC, dI) (kT cI cJ cZ cS) [(aX, .inr (4, [.ref aSh, .ref aTe, .ref aRe, .ref aRF, .ref aTa, .ref aFD, .ref aPe, .ref aDr, .int (nI lw), .int (nI hm), .long fo, .int tr, .int (nI fa)]))])) (vp_Si (fun r : Int32 => r = kb (bl fo d))) 0 0 (fun _ => False) := by
  refine kstartR_z (cc := cX4_isFoggy) (maxL := 2) rfl rfl (Nat.le_of_ble_eq_true rfl) ?_
  intro zp ze zs zm zb zt zc za zQ hx hb hml hts hown hN hK hP hret ls hl
  have hl : lv_has ls 2 [(0, .ref aX), (1, .int (nI d))] := hl
  have hinX4 : ∀ w ∈ wsX40, w ∈ wsX4_isFoggy := fun _ h => List.mem_cons_of_mem _ (List.mem_append_right _ h)
  have lk61 := hts (.fieldLink RX4 61 "IronRumours" "fogs" "J") (List.mem_of_getElem? (i := 1) rfl)
  refine lv_aload_n hx hb dX4_isFoggy_0 rfl (lv_at hl 0 rfl) ?_
  refine va_get (D := (dC, dI)) (ci := 4) (v := .long fo) (C := RX4) (T := TX4) (N := 13) hx hb hts hinX4 hown hK hP 0 rfl rfl 10 (by decide) lk61 (fun _ h9 => h9) rfl dX4_isFoggy_1 ?_
  refine lv_iload_n hx hb dX4_isFoggy_4 rfl (lv_at hl 1 rfl) ?_
  refine lv_lshr hx hb dX4_isFoggy_5 rfl ?_
  refine lv_lconst (v := 1) hx hb dX4_isFoggy_6 (by decide) ?_
  refine lv_land hx hb dX4_isFoggy_7 ?_
  refine lv_lconst (v := 0) hx hb dX4_isFoggy_8 (by decide) ?_
  refine k_lcmp_eq (tgt := 17) hx hb dX4_isFoggy_9 dX4_isFoggy_10 (by decide) (fun c9 => ?_) (fun c9 => ?_)
  · refine lv_iconst (v := nI 0) hx hb dX4_isFoggy_17 (by decide) ?_
    refine k_cast (y := kb false) (rfl) ?_
    refine hret 18 _ false dX4_isFoggy_18 ?_
    rw [(fog_b (by omega)).mp c9]
  · refine lv_iconst (v := nI 1) hx hb dX4_isFoggy_13 (by decide) ?_
    refine lv_goto (tgt := 18) hx hb dX4_isFoggy_14 (by decide) ?_
    refine k_cast (y := kb true) (rfl) ?_
    refine hret 18 _ true dX4_isFoggy_18 ?_
    exact congrArg kb (fog_n (by omega) c9).symm

set_option maxHeartbeats 800000 in
set_option maxRecDepth 100000 in
theorem kX4_startTalk {zl : Launch} {dC : Nat → ClassId} {dI : Nat → Nat → Nat} {cI cJ cZ cS : ClassId} {sz : Nat} (aX : Nat) (aSh : Nat) (aTe : Nat) (aRe : Nat) (aRF : Nat) (aTa : Nat) (aFD : Nat) (aPe : Nat) (aDr : Nat) (lw : Nat) (hm : Nat) (fo : Int64) (tr : Int32) (fa : Nat) (aHe : Nat) (fHe : Nat → Int64) (aTp : Nat) (aTt : Nat) (aTd : Nat) (nt : Nat) (fTp : Nat → Int32) (fTt : Nat → Int32) (fTd : Nat → Int32) (np : Nat) (tp : Nat → Nat) (tt : Nat → Nat) (td : Nat → Nat) (wo : Int32) (hnp : np ≤ 6) (hta : tellA np nt tp tt td fTp fTt fTd) : Met zl yX4_startTalk wsX4_startTalk ({ frames := 2, cells := 0, slots := 0, locals := 45 } : Room) (va_Pc [.ref aX, .int wo] (kPre (dC, dI) (kT cI cJ cZ cS) [(aX, .inr (4, [.ref aSh, .ref aTe, .ref aRe, .ref aRF, .ref aTa, .ref aFD, .ref aPe, .ref aDr, .int (nI lw), .int (nI hm), .long fo, .int tr, .int (nI fa)])), (aTa, .inr (3, [.ref aHe])), (aHe, .inl (cJ, 360, .inr (.inl fHe))), (aTe, .inr (0, [.ref aTp, .ref aTt, .ref aTd, .int (nI 8), .int (nI nt)])), (aTp, .inl (cI, 8, .inl fTp)), (aTt, .inl (cI, 8, .inl fTt)), (aTd, .inl (cI, 8, .inl fTd))] sz)) (va_Qv (fun (f1 : (Nat → Int64)) => planted (tellS tp tt td nt wo) f1) (fun (f1 : (Nat → Int64)) (zU : State) => va_P (dC, dI) vwCl [(aX, .inr (4, [.ref aSh, .ref aTe, .ref aRe, .ref aRF, .ref aTa, .ref aFD, .ref aPe, .ref aDr, .int (nI lw), .int (nI hm), .long fo, .int tr, .int (nI fa)])), (aTa, .inr (3, [.ref aHe])), (aHe, .inl (cJ, 360, .inr (.inl f1))), (aTe, .inr (0, [.ref aTp, .ref aTt, .ref aTd, .int (nI 8), .int (nI nt)])), (aTp, .inl (cI, 8, .inl fTp)), (aTt, .inl (cI, 8, .inl fTt)), (aTd, .inl (cI, 8, .inl fTd))] zU.heap) (va_A [(aX, .inr (4, [.ref aSh, .ref aTe, .ref aRe, .ref aRF, .ref aTa, .ref aFD, .ref aPe, .ref aDr, .int (nI lw), .int (nI hm), .long fo, .int tr, .int (nI fa)])), (aTa, .inr (3, [.ref aHe])), (aHe, .inl (cJ, 360, .inr (.inl fHe))), (aTe, .inr (0, [.ref aTp, .ref aTt, .ref aTd, .int (nI 8), .int (nI nt)])), (aTp, .inl (cI, 8, .inl fTp)), (aTt, .inl (cI, 8, .inl fTt)), (aTd, .inl (cI, 8, .inl fTd))] sz)) 0 0 (va_A [(aX, .inr (4, [.ref aSh, .ref aTe, .ref aRe, .ref aRF, .ref aTa, .ref aFD, .ref aPe, .ref aDr, .int (nI lw), .int (nI hm), .long fo, .int tr, .int (nI fa)])), (aTa, .inr (3, [.ref aHe])), (aHe, .inl (cJ, 360, .inr (.inl fHe))), (aTe, .inr (0, [.ref aTp, .ref aTt, .ref aTd, .int (nI 8), .int (nI nt)])), (aTp, .inl (cI, 8, .inl fTp)), (aTt, .inl (cI, 8, .inl fTt)), (aTd, .inl (cI, 8, .inl fTd))] sz) := by
  refine kstartW_v (cc := cX4_startTalk) (maxL := 3) rfl rfl (Nat.le_of_ble_eq_true rfl) ?_
  intro zp ze zs zm zb zt zc za zQ zA hx hb hml hts hown hN hK hP hD hS hA hin hret ls hl
  have hl : lv_has ls 3 [(0, .ref aX), (1, .int wo)] := hl
  have h8 := hta.1
  have hinX0 : ∀ w ∈ wsX00, w ∈ wsX4_startTalk := fun _ h => List.mem_cons_of_mem _ (List.mem_append_left _ (List.mem_append_right _ h))
  have hinX4 : ∀ w ∈ wsX40, w ∈ wsX4_startTalk := fun _ h => List.mem_cons_of_mem _ (List.mem_append_left _ (List.mem_append_left _ (List.mem_append_right _ h)))
  have lk182 := hts (.fieldLink RX4 182 "IronRumours$Entries" "many" "I") (List.mem_of_getElem? (i := 3) rfl)
  have lk264 := hts (.fieldLink RX4 264 "IronRumours$Entries" "person" "[I") (List.mem_of_getElem? (i := 4) rfl)
  have lk267 := hts (.fieldLink RX4 267 "IronRumours$Entries" "thing" "[I") (List.mem_of_getElem? (i := 5) rfl)
  have lk270 := hts (.fieldLink RX4 270 "IronRumours$Entries" "day" "[I") (List.mem_of_getElem? (i := 6) rfl)
  have lk22 := hts (.fieldLink RX4 22 "IronRumours" "tellings" "LIronRumours$Entries;") (List.mem_of_getElem? (i := 2) rfl)
  have lk36 := hts (.fieldLink RX4 36 "IronRumours" "talk" "LIronRumours$Talk;") (List.mem_of_getElem? (i := 1) rfl)
  refine lv_aload_n hx hb dX4_startTalk_0 rfl (lv_at hl 0 rfl) ?_
  refine va_get (D := (dC, dI)) (ci := 4) (v := .ref aTa) (C := RX4) (T := TX4) (N := 13) hx hb hts hinX4 hown hK hP 0 rfl rfl 4 (by decide) lk36 (fun _ h9 => h9) rfl dX4_startTalk_1 ?_
  refine kc_v (wr := [(aX, .inr (4, [.ref aSh, .ref aTe, .ref aRe, .ref aRF, .ref aTa, .ref aFD, .ref aPe, .ref aDr, .int (nI lw), .int (nI hm), .long fo, .int tr, .int (nI fa)])), (aTe, .inr (0, [.ref aTp, .ref aTt, .ref aTd, .int (nI 8), .int (nI nt)])), (aTp, .inl (cI, 8, .inl fTp)), (aTt, .inl (cI, 8, .inl fTt)), (aTd, .inl (cI, 8, .inl fTd))]) (va_runV (As := []) (rest := []) ⟨hx, hb, hml, hown, hts⟩ (kX3_clear aTa aHe fHe ) (cwV 0 hts gX4_startTalk_X3_clear rfl rfl rfl hvX3_clear ⟨Nat.le_of_ble_eq_true rfl, Nat.le_of_ble_eq_true rfl⟩) (kpreV hN (q := (RX3, TX3, 1)) (ci := 3) hK (hP.sub [1, 2] rfl) (hD.sub [1, 2] (by decide) rfl) 0 rfl rfl) rfl rfl hl.1 rfl (lv_room (Nat.le_of_ble_eq_true rfl)) dX4_startTalk_4 ⟨Nat.zero_le _, Nat.zero_le _⟩) (fun _ => by simp only [List.map]) hP hD hS hA [1, 2] [0, 3, 4, 5, 6] rfl rfl (by decide) (by decide) (by decide) (fun f_3 H_2 locs hr_1 hP hD hS => ?_)
  have hP : va_P (dC, dI) vwCl [(aX, .inr (4, [.ref aSh, .ref aTe, .ref aRe, .ref aRF, .ref aTa, .ref aFD, .ref aPe, .ref aDr, .int (nI lw), .int (nI hm), .long fo, .int tr, .int (nI fa)])), (aTe, .inr (0, [.ref aTp, .ref aTt, .ref aTd, .int (nI 8), .int (nI nt)])), (aTp, .inl (cI, 8, .inl fTp)), (aTt, .inl (cI, 8, .inl fTt)), (aTd, .inl (cI, 8, .inl fTd)), (aTa, .inr (3, [.ref aHe])), (aHe, .inl (cJ, 360, .inr (.inl f_3)))] H_2 := hP
  have hD : va_D zA [(aX, .inr (4, [.ref aSh, .ref aTe, .ref aRe, .ref aRF, .ref aTa, .ref aFD, .ref aPe, .ref aDr, .int (nI lw), .int (nI hm), .long fo, .int tr, .int (nI fa)])), (aTe, .inr (0, [.ref aTp, .ref aTt, .ref aTd, .int (nI 8), .int (nI nt)])), (aTp, .inl (cI, 8, .inl fTp)), (aTt, .inl (cI, 8, .inl fTt)), (aTd, .inl (cI, 8, .inl fTd)), (aTa, .inr (3, [.ref aHe])), (aHe, .inl (cJ, 360, .inr (.inl f_3)))] := hD
  have hP := hP.sub (ws' := [(aX, .inr (4, [.ref aSh, .ref aTe, .ref aRe, .ref aRF, .ref aTa, .ref aFD, .ref aPe, .ref aDr, .int (nI lw), .int (nI hm), .long fo, .int tr, .int (nI fa)])), (aTa, .inr (3, [.ref aHe])), (aHe, .inl (cJ, 360, .inr (.inl f_3))), (aTe, .inr (0, [.ref aTp, .ref aTt, .ref aTd, .int (nI 8), .int (nI nt)])), (aTp, .inl (cI, 8, .inl fTp)), (aTt, .inl (cI, 8, .inl fTt)), (aTd, .inl (cI, 8, .inl fTd))]) [0, 5, 6, 1, 2, 3, 4] rfl
  have hD := hD.sub (ws' := [(aX, .inr (4, [.ref aSh, .ref aTe, .ref aRe, .ref aRF, .ref aTa, .ref aFD, .ref aPe, .ref aDr, .int (nI lw), .int (nI hm), .long fo, .int tr, .int (nI fa)])), (aTa, .inr (3, [.ref aHe])), (aHe, .inl (cJ, 360, .inr (.inl f_3))), (aTe, .inr (0, [.ref aTp, .ref aTt, .ref aTd, .int (nI 8), .int (nI nt)])), (aTp, .inl (cI, 8, .inl fTp)), (aTt, .inl (cI, 8, .inl fTt)), (aTd, .inl (cI, 8, .inl fTd))]) [0, 5, 6, 1, 2, 3, 4] (by decide) rfl
  refine lv_iconst (v := nI 0) hx hb dX4_startTalk_7 (by decide) ?_
  refine lv_istore_n (lv' := [(2, .int (nI 0)), (0, .ref aX), (1, .int wo)]) hx hb dX4_startTalk_8 rfl hl (by decide) rfl (fun ls hl => ?_)
  have loop9 : ∀ (n9 : Nat) (k : Nat) (g : Nat → Int64), (k ≤ nt) → (planted (tellS tp tt td k wo) g) → (nt - k < n9) → ∀ (H_4 : Heap) (locs : List Loc), va_P (dC, dI) vwCl [(aX, .inr (4, [.ref aSh, .ref aTe, .ref aRe, .ref aRF, .ref aTa, .ref aFD, .ref aPe, .ref aDr, .int (nI lw), .int (nI hm), .long fo, .int tr, .int (nI fa)])), (aTa, .inr (3, [.ref aHe])), (aHe, .inl (cJ, 360, .inr (.inl g))), (aTe, .inr (0, [.ref aTp, .ref aTt, .ref aTd, .int (nI 8), .int (nI nt)])), (aTp, .inl (cI, 8, .inl fTp)), (aTt, .inl (cI, 8, .inl fTt)), (aTd, .inl (cI, 8, .inl fTd))] H_4 → va_D zA [(aX, .inr (4, [.ref aSh, .ref aTe, .ref aRe, .ref aRF, .ref aTa, .ref aFD, .ref aPe, .ref aDr, .int (nI lw), .int (nI hm), .long fo, .int tr, .int (nI fa)])), (aTa, .inr (3, [.ref aHe])), (aHe, .inl (cJ, 360, .inr (.inl g))), (aTe, .inr (0, [.ref aTp, .ref aTt, .ref aTd, .int (nI 8), .int (nI nt)])), (aTp, .inl (cI, 8, .inl fTp)), (aTt, .inl (cI, 8, .inl fTt)), (aTd, .inl (cI, 8, .inl fTd))] → va_S zA zs.heap H_4 locs → ∀ (ls : Array Slot), lv_has ls 3 [(0, .ref aX), (1, .int wo), (2, .int (nI k))] → W zp zl ze ({ frames := 2, cells := 0, slots := 0, locals := 45 } : Room) zs zm za zb zt zc H_4 locs 0 0 zQ (F0 zm 9 ls []) := by
    intro n9
    induction n9 with
    | zero => intro k g hk hg hme; exact absurd hme (Nat.not_lt_zero _)
    | succ n9 ih9 =>
      intro k g hk hg hme H_4 locs hP hD hS ls hl
      refine lv_iload_n hx hb dX4_startTalk_9 rfl (lv_at hl 2 rfl) ?_
      refine lv_aload_n hx hb dX4_startTalk_10 rfl (lv_at hl 0 rfl) ?_
      refine va_get (D := (dC, dI)) (ci := 4) (v := .ref aTe) (C := RX4) (T := TX4) (N := 13) hx hb hts hinX4 hown hK hP 0 rfl rfl 1 (by decide) lk22 (fun _ h9 => h9) rfl dX4_startTalk_11 ?_
      refine va_get (D := (dC, dI)) (ci := 0) (v := .int (nI nt)) (C := RX0) (T := TX0) (N := 5) hx hb hts hinX0 hown hK hP 3 rfl rfl 4 (by decide) lk182 (fun _ h9 => h9) rfl dX4_startTalk_14 ?_
      refine k_icmp_ge (tgt := 66) hx hb dX4_startTalk_17 (by decide) (by omega) (by omega) (fun c17 => ?_) (fun c17 => ?_)
      · refine hret 66 _ g _ _ dX4_startTalk_66 hS (fun t ht _ => by rw [ht]; exact hP) ?_
        have e : k = nt := by omega
        subst e
        exact hg
      · have htk := hta.2 k c17
        refine lv_iload_n hx hb dX4_startTalk_20 rfl (lv_at hl 2 rfl) ?_
        refine lv_iload_n hx hb dX4_startTalk_21 rfl (lv_at hl 1 rfl) ?_
        refine lv_icmp_eq (tgt := 60) hx hb dX4_startTalk_22 (by decide) (fun c22 => ?_) (fun c22 => ?_)
        · refine lv_iinc (v := nI (k + 1)) (lv' := [(2, .int (nI (k + 1))), (0, .ref aX), (1, .int wo)]) hx hb dX4_startTalk_60 hl (k := 2) rfl (nI_add _ _) (by decide) rfl (fun ls hl => ?_)
          refine lv_goto (tgt := 9) hx hb dX4_startTalk_63 (by decide) ?_
          exact ih9 (k + 1) g (by omega) (by exact planted_cong hg (tellS_no c22)) (by omega) _ _ hP hD hS _ (lv_sub hl [1, 2, 0] rfl)
        · refine lv_aload_n hx hb dX4_startTalk_25 rfl (lv_at hl 0 rfl) ?_
          refine va_get (D := (dC, dI)) (ci := 4) (v := .ref aTa) (C := RX4) (T := TX4) (N := 13) hx hb hts hinX4 hown hK hP 0 rfl rfl 4 (by decide) lk36 (fun _ h9 => h9) rfl dX4_startTalk_26 ?_
          refine lv_aload_n hx hb dX4_startTalk_29 rfl (lv_at hl 0 rfl) ?_
          refine va_get (D := (dC, dI)) (ci := 4) (v := .ref aTe) (C := RX4) (T := TX4) (N := 13) hx hb hts hinX4 hown hK hP 0 rfl rfl 1 (by decide) lk22 (fun _ h9 => h9) rfl dX4_startTalk_30 ?_
          refine va_get (D := (dC, dI)) (ci := 0) (v := .ref aTp) (C := RX0) (T := TX0) (N := 5) hx hb hts hinX0 hown hK hP 3 rfl rfl 0 (by decide) lk264 (fun _ h9 => h9) rfl dX4_startTalk_33 ?_
          refine lv_iload_n hx hb dX4_startTalk_36 rfl (lv_at hl 2 rfl) ?_
          refine k_iald hx hb hK hP 4 0 rfl rfl (n := 8) (v := nI (tp k)) (by omega) (by decide) (htk.1.1) dX4_startTalk_37 ?_
          refine lv_aload_n hx hb dX4_startTalk_38 rfl (lv_at hl 0 rfl) ?_
          refine va_get (D := (dC, dI)) (ci := 4) (v := .ref aTe) (C := RX4) (T := TX4) (N := 13) hx hb hts hinX4 hown hK hP 0 rfl rfl 1 (by decide) lk22 (fun _ h9 => h9) rfl dX4_startTalk_39 ?_
          refine va_get (D := (dC, dI)) (ci := 0) (v := .ref aTt) (C := RX0) (T := TX0) (N := 5) hx hb hts hinX0 hown hK hP 3 rfl rfl 1 (by decide) lk267 (fun _ h9 => h9) rfl dX4_startTalk_42 ?_
          refine lv_iload_n hx hb dX4_startTalk_45 rfl (lv_at hl 2 rfl) ?_
          refine k_iald hx hb hK hP 5 0 rfl rfl (n := 8) (v := nI (tt k)) (by omega) (by decide) (htk.2.1.1) dX4_startTalk_46 ?_
          refine lv_iload_n hx hb dX4_startTalk_47 rfl (lv_at hl 2 rfl) ?_
          refine lv_aload_n hx hb dX4_startTalk_48 rfl (lv_at hl 0 rfl) ?_
          refine va_get (D := (dC, dI)) (ci := 4) (v := .ref aTe) (C := RX4) (T := TX4) (N := 13) hx hb hts hinX4 hown hK hP 0 rfl rfl 1 (by decide) lk22 (fun _ h9 => h9) rfl dX4_startTalk_49 ?_
          refine va_get (D := (dC, dI)) (ci := 0) (v := .ref aTd) (C := RX0) (T := TX0) (N := 5) hx hb hts hinX0 hown hK hP 3 rfl rfl 2 (by decide) lk270 (fun _ h9 => h9) rfl dX4_startTalk_52 ?_
          refine lv_iload_n hx hb dX4_startTalk_55 rfl (lv_at hl 2 rfl) ?_
          refine k_iald hx hb hK hP 6 0 rfl rfl (n := 8) (v := nI (td k)) (by omega) (by decide) (htk.2.2.1) dX4_startTalk_56 ?_
          refine kc_v (wr := [(aX, .inr (4, [.ref aSh, .ref aTe, .ref aRe, .ref aRF, .ref aTa, .ref aFD, .ref aPe, .ref aDr, .int (nI lw), .int (nI hm), .long fo, .int tr, .int (nI fa)])), (aTe, .inr (0, [.ref aTp, .ref aTt, .ref aTd, .int (nI 8), .int (nI nt)])), (aTp, .inl (cI, 8, .inl fTp)), (aTt, .inl (cI, 8, .inl fTt)), (aTd, .inl (cI, 8, .inl fTd))]) (va_runV (As := [.int (nI (tp k)), .int (nI (tt k)), .int (nI k), .int (nI (td k))]) (rest := []) ⟨hx, hb, hml, hown, hts⟩ (kX3_plant aTa aHe g (tp k) (tt k) k (td k) (by omega) (by omega)) (cwV 4 hts gX4_startTalk_X3_plant rfl rfl rfl hvX3_plant ⟨Nat.le_of_ble_eq_true rfl, Nat.le_of_ble_eq_true rfl⟩) (kpreV hN (q := (RX3, TX3, 1)) (ci := 3) hK (hP.sub [1, 2] rfl) (hD.sub [1, 2] (by decide) rfl) 0 rfl rfl) rfl rfl hl.1 rfl (lv_room (Nat.le_of_ble_eq_true rfl)) dX4_startTalk_57 ⟨Nat.zero_le _, Nat.zero_le _⟩) (fun _ => by simp only [List.map]) hP hD hS hA [1, 2] [0, 3, 4, 5, 6] rfl rfl (by decide) (by decide) (by decide) (fun f_7 H_6 locs hr_5 hP hD hS => ?_)
          have hP : va_P (dC, dI) vwCl [(aX, .inr (4, [.ref aSh, .ref aTe, .ref aRe, .ref aRF, .ref aTa, .ref aFD, .ref aPe, .ref aDr, .int (nI lw), .int (nI hm), .long fo, .int tr, .int (nI fa)])), (aTe, .inr (0, [.ref aTp, .ref aTt, .ref aTd, .int (nI 8), .int (nI nt)])), (aTp, .inl (cI, 8, .inl fTp)), (aTt, .inl (cI, 8, .inl fTt)), (aTd, .inl (cI, 8, .inl fTd)), (aTa, .inr (3, [.ref aHe])), (aHe, .inl (cJ, 360, .inr (.inl f_7)))] H_6 := hP
          have hD : va_D zA [(aX, .inr (4, [.ref aSh, .ref aTe, .ref aRe, .ref aRF, .ref aTa, .ref aFD, .ref aPe, .ref aDr, .int (nI lw), .int (nI hm), .long fo, .int tr, .int (nI fa)])), (aTe, .inr (0, [.ref aTp, .ref aTt, .ref aTd, .int (nI 8), .int (nI nt)])), (aTp, .inl (cI, 8, .inl fTp)), (aTt, .inl (cI, 8, .inl fTt)), (aTd, .inl (cI, 8, .inl fTd)), (aTa, .inr (3, [.ref aHe])), (aHe, .inl (cJ, 360, .inr (.inl f_7)))] := hD
          have hP := hP.sub (ws' := [(aX, .inr (4, [.ref aSh, .ref aTe, .ref aRe, .ref aRF, .ref aTa, .ref aFD, .ref aPe, .ref aDr, .int (nI lw), .int (nI hm), .long fo, .int tr, .int (nI fa)])), (aTa, .inr (3, [.ref aHe])), (aHe, .inl (cJ, 360, .inr (.inl f_7))), (aTe, .inr (0, [.ref aTp, .ref aTt, .ref aTd, .int (nI 8), .int (nI nt)])), (aTp, .inl (cI, 8, .inl fTp)), (aTt, .inl (cI, 8, .inl fTt)), (aTd, .inl (cI, 8, .inl fTd))]) [0, 5, 6, 1, 2, 3, 4] rfl
          have hD := hD.sub (ws' := [(aX, .inr (4, [.ref aSh, .ref aTe, .ref aRe, .ref aRF, .ref aTa, .ref aFD, .ref aPe, .ref aDr, .int (nI lw), .int (nI hm), .long fo, .int tr, .int (nI fa)])), (aTa, .inr (3, [.ref aHe])), (aHe, .inl (cJ, 360, .inr (.inl f_7))), (aTe, .inr (0, [.ref aTp, .ref aTt, .ref aTd, .int (nI 8), .int (nI nt)])), (aTp, .inl (cI, 8, .inl fTp)), (aTt, .inl (cI, 8, .inl fTt)), (aTd, .inl (cI, 8, .inl fTd))]) [0, 5, 6, 1, 2, 3, 4] (by decide) rfl
          refine lv_iinc (v := nI (k + 1)) (lv' := [(2, .int (nI (k + 1))), (0, .ref aX), (1, .int wo)]) hx hb dX4_startTalk_60 hl (k := 2) rfl (nI_add _ _) (by decide) rfl (fun ls hl => ?_)
          refine lv_goto (tgt := 9) hx hb dX4_startTalk_63 (by decide) ?_
          exact ih9 (k + 1) f_7 (by omega) (by exact planted_put hg htk.2.2.2 (by omega) (by omega) hr_5 (tellS_yes c22)) (by omega) _ _ hP hD hS _ (lv_sub hl [1, 2, 0] rfl)
  exact loop9 ((nt - 0) + 1) 0 f_3 (by omega) (by exact planted_cong (planted_0 hr_1) (tellS_0 tp tt td wo)) (by exact Nat.lt_succ_self _) _ _ hP hD hS _ (lv_sub hl [1, 2, 0] rfl)

set_option maxHeartbeats 800000 in
set_option maxRecDepth 100000 in
theorem kX4_talkAsItIs {zl : Launch} {dC : Nat → ClassId} {dI : Nat → Nat → Nat} {cI cJ cZ cS : ClassId} {sz : Nat} (aX : Nat) (aSh : Nat) (aTe : Nat) (aRe : Nat) (aRF : Nat) (aTa : Nat) (aFD : Nat) (aPe : Nat) (aDr : Nat) (lw : Nat) (hm : Nat) (fo : Int64) (tr : Int32) (fa : Nat) (aHe : Nat) (fHe : Nat → Int64) (aTp : Nat) (aTt : Nat) (aTd : Nat) (nt : Nat) (fTp : Nat → Int32) (fTt : Nat → Int32) (fTd : Nat → Int32) (aKi : Nat) (aFr : Nat) (aTo : Nat) (aDa : Nat) (np : Nat) (sm : Nat) (nw : Nat) (fKi : Nat → Int32) (fFr : Nat → Int32) (fTo : Nat → Int32) (fDa : Nat → Int32) (kd : Nat → Nat) (wf : Nat → Nat) (wt : Nat → Nat) (wd : Nat → Nat) (tp : Nat → Nat) (tt : Nat → Nat) (td : Nat → Nat) (hw : waysOk np nw wf wt wd kd) (hpA : pplA np nw kd wf wt wd fKi fFr fTo fDa) (hhm : hm < 64) (hta : tellA np nt tp tt td fTp fTt fTd) : Met zl yX4_talkAsItIs wsX4_talkAsItIs ({ frames := 4, cells := 0, slots := 0, locals := 104 } : Room) (va_Pc [.ref aX] (kPre (dC, dI) (kT cI cJ cZ cS) [(aX, .inr (4, [.ref aSh, .ref aTe, .ref aRe, .ref aRF, .ref aTa, .ref aFD, .ref aPe, .ref aDr, .int (nI lw), .int (nI hm), .long fo, .int tr, .int (nI fa)])), (aTa, .inr (3, [.ref aHe])), (aHe, .inl (cJ, 360, .inr (.inl fHe))), (aTe, .inr (0, [.ref aTp, .ref aTt, .ref aTd, .int (nI 8), .int (nI nt)])), (aTp, .inl (cI, 8, .inl fTp)), (aTt, .inl (cI, 8, .inl fTt)), (aTd, .inl (cI, 8, .inl fTd)), (aPe, .inr (1, [.ref aKi, .ref aFr, .ref aTo, .ref aDa, .int (nI np), .int (nI sm), .int (nI nw)])), (aKi, .inl (cI, 6, .inl fKi)), (aFr, .inl (cI, 9, .inl fFr)), (aTo, .inl (cI, 9, .inl fTo)), (aDa, .inl (cI, 9, .inl fDa))] sz)) (va_Qv (fun (f1 : (Nat → Int64)) => talked (hrd nw wf wt wd kd (actW hm (-1) wf) (tellS tp tt td nt (-1))) f1) (fun (f1 : (Nat → Int64)) (zU : State) => va_P (dC, dI) vwCl [(aX, .inr (4, [.ref aSh, .ref aTe, .ref aRe, .ref aRF, .ref aTa, .ref aFD, .ref aPe, .ref aDr, .int (nI lw), .int (nI hm), .long fo, .int tr, .int (nI fa)])), (aTa, .inr (3, [.ref aHe])), (aHe, .inl (cJ, 360, .inr (.inl f1))), (aTe, .inr (0, [.ref aTp, .ref aTt, .ref aTd, .int (nI 8), .int (nI nt)])), (aTp, .inl (cI, 8, .inl fTp)), (aTt, .inl (cI, 8, .inl fTt)), (aTd, .inl (cI, 8, .inl fTd)), (aPe, .inr (1, [.ref aKi, .ref aFr, .ref aTo, .ref aDa, .int (nI np), .int (nI sm), .int (nI nw)])), (aKi, .inl (cI, 6, .inl fKi)), (aFr, .inl (cI, 9, .inl fFr)), (aTo, .inl (cI, 9, .inl fTo)), (aDa, .inl (cI, 9, .inl fDa))] zU.heap) (va_A [(aX, .inr (4, [.ref aSh, .ref aTe, .ref aRe, .ref aRF, .ref aTa, .ref aFD, .ref aPe, .ref aDr, .int (nI lw), .int (nI hm), .long fo, .int tr, .int (nI fa)])), (aTa, .inr (3, [.ref aHe])), (aHe, .inl (cJ, 360, .inr (.inl fHe))), (aTe, .inr (0, [.ref aTp, .ref aTt, .ref aTd, .int (nI 8), .int (nI nt)])), (aTp, .inl (cI, 8, .inl fTp)), (aTt, .inl (cI, 8, .inl fTt)), (aTd, .inl (cI, 8, .inl fTd)), (aPe, .inr (1, [.ref aKi, .ref aFr, .ref aTo, .ref aDa, .int (nI np), .int (nI sm), .int (nI nw)])), (aKi, .inl (cI, 6, .inl fKi)), (aFr, .inl (cI, 9, .inl fFr)), (aTo, .inl (cI, 9, .inl fTo)), (aDa, .inl (cI, 9, .inl fDa))] sz)) 0 0 (va_A [(aX, .inr (4, [.ref aSh, .ref aTe, .ref aRe, .ref aRF, .ref aTa, .ref aFD, .ref aPe, .ref aDr, .int (nI lw), .int (nI hm), .long fo, .int tr, .int (nI fa)])), (aTa, .inr (3, [.ref aHe])), (aHe, .inl (cJ, 360, .inr (.inl fHe))), (aTe, .inr (0, [.ref aTp, .ref aTt, .ref aTd, .int (nI 8), .int (nI nt)])), (aTp, .inl (cI, 8, .inl fTp)), (aTt, .inl (cI, 8, .inl fTt)), (aTd, .inl (cI, 8, .inl fTd)), (aPe, .inr (1, [.ref aKi, .ref aFr, .ref aTo, .ref aDa, .int (nI np), .int (nI sm), .int (nI nw)])), (aKi, .inl (cI, 6, .inl fKi)), (aFr, .inl (cI, 9, .inl fFr)), (aTo, .inl (cI, 9, .inl fTo)), (aDa, .inl (cI, 9, .inl fDa))] sz) := by
  refine kstartW_v (cc := cX4_talkAsItIs) (maxL := 1) rfl rfl (Nat.le_of_ble_eq_true rfl) ?_
  intro zp ze zs zm zb zt zc za zQ zA hx hb hml hts hown hN hK hP hD hS hA hin hret ls hl
  have hl : lv_has ls 1 [(0, .ref aX)] := hl
  have hinX4 : ∀ w ∈ wsX40, w ∈ wsX4_talkAsItIs := fun _ h => List.mem_cons_of_mem _ (List.mem_append_left _ (List.mem_append_left _ (List.mem_append_left _ (List.mem_append_right _ h))))
  have lk36 := hts (.fieldLink RX4 36 "IronRumours" "talk" "LIronRumours$Talk;") (List.mem_of_getElem? (i := 1) rfl)
  have lk47 := hts (.fieldLink RX4 47 "IronRumours" "people" "LIronRumours$People;") (List.mem_of_getElem? (i := 2) rfl)
  have lk58 := hts (.fieldLink RX4 58 "IronRumours" "hushedNow" "I") (List.mem_of_getElem? (i := 3) rfl)
  refine lv_aload_n hx hb dX4_talkAsItIs_0 rfl (lv_at hl 0 rfl) ?_
  refine lv_iconst (v := (-1)) hx hb dX4_talkAsItIs_1 (by decide) ?_
  refine kc_v (wr := [(aPe, .inr (1, [.ref aKi, .ref aFr, .ref aTo, .ref aDa, .int (nI np), .int (nI sm), .int (nI nw)])), (aKi, .inl (cI, 6, .inl fKi)), (aFr, .inl (cI, 9, .inl fFr)), (aTo, .inl (cI, 9, .inl fTo)), (aDa, .inl (cI, 9, .inl fDa))]) (va_runV (As := [.int (-1)]) (rest := []) ⟨hx, hb, hml, hown, hts⟩ (kX4_startTalk aX aSh aTe aRe aRF aTa aFD aPe aDr lw hm fo tr fa aHe fHe aTp aTt aTd nt fTp fTt fTd np tp tt td (-1) hw.1 hta) (cwV 1 hts gX4_talkAsItIs_X4_startTalk rfl rfl rfl hvX4_startTalk ⟨Nat.le_of_ble_eq_true rfl, Nat.le_of_ble_eq_true rfl⟩) (kpreV hN (q := (RX4, TX4, 13)) (ci := 4) hK (hP.sub [0, 1, 2, 3, 4, 5, 6] rfl) (hD.sub [0, 1, 2, 3, 4, 5, 6] (by decide) rfl) 0 rfl rfl) rfl rfl hl.1 rfl (lv_room (Nat.le_of_ble_eq_true rfl)) dX4_talkAsItIs_2 ⟨Nat.zero_le _, Nat.zero_le _⟩) (fun _ => by simp only [List.map]) hP hD hS hA [0, 1, 2, 3, 4, 5, 6] [7, 8, 9, 10, 11] rfl rfl (by decide) (by decide) (by decide) (fun f_3 H_2 locs hr_1 hP hD hS => ?_)
  have hP : va_P (dC, dI) vwCl [(aPe, .inr (1, [.ref aKi, .ref aFr, .ref aTo, .ref aDa, .int (nI np), .int (nI sm), .int (nI nw)])), (aKi, .inl (cI, 6, .inl fKi)), (aFr, .inl (cI, 9, .inl fFr)), (aTo, .inl (cI, 9, .inl fTo)), (aDa, .inl (cI, 9, .inl fDa)), (aX, .inr (4, [.ref aSh, .ref aTe, .ref aRe, .ref aRF, .ref aTa, .ref aFD, .ref aPe, .ref aDr, .int (nI lw), .int (nI hm), .long fo, .int tr, .int (nI fa)])), (aTa, .inr (3, [.ref aHe])), (aHe, .inl (cJ, 360, .inr (.inl f_3))), (aTe, .inr (0, [.ref aTp, .ref aTt, .ref aTd, .int (nI 8), .int (nI nt)])), (aTp, .inl (cI, 8, .inl fTp)), (aTt, .inl (cI, 8, .inl fTt)), (aTd, .inl (cI, 8, .inl fTd))] H_2 := hP
  have hD : va_D zA [(aPe, .inr (1, [.ref aKi, .ref aFr, .ref aTo, .ref aDa, .int (nI np), .int (nI sm), .int (nI nw)])), (aKi, .inl (cI, 6, .inl fKi)), (aFr, .inl (cI, 9, .inl fFr)), (aTo, .inl (cI, 9, .inl fTo)), (aDa, .inl (cI, 9, .inl fDa)), (aX, .inr (4, [.ref aSh, .ref aTe, .ref aRe, .ref aRF, .ref aTa, .ref aFD, .ref aPe, .ref aDr, .int (nI lw), .int (nI hm), .long fo, .int tr, .int (nI fa)])), (aTa, .inr (3, [.ref aHe])), (aHe, .inl (cJ, 360, .inr (.inl f_3))), (aTe, .inr (0, [.ref aTp, .ref aTt, .ref aTd, .int (nI 8), .int (nI nt)])), (aTp, .inl (cI, 8, .inl fTp)), (aTt, .inl (cI, 8, .inl fTt)), (aTd, .inl (cI, 8, .inl fTd))] := hD
  have hP := hP.sub (ws' := [(aX, .inr (4, [.ref aSh, .ref aTe, .ref aRe, .ref aRF, .ref aTa, .ref aFD, .ref aPe, .ref aDr, .int (nI lw), .int (nI hm), .long fo, .int tr, .int (nI fa)])), (aTa, .inr (3, [.ref aHe])), (aHe, .inl (cJ, 360, .inr (.inl f_3))), (aTe, .inr (0, [.ref aTp, .ref aTt, .ref aTd, .int (nI 8), .int (nI nt)])), (aTp, .inl (cI, 8, .inl fTp)), (aTt, .inl (cI, 8, .inl fTt)), (aTd, .inl (cI, 8, .inl fTd)), (aPe, .inr (1, [.ref aKi, .ref aFr, .ref aTo, .ref aDa, .int (nI np), .int (nI sm), .int (nI nw)])), (aKi, .inl (cI, 6, .inl fKi)), (aFr, .inl (cI, 9, .inl fFr)), (aTo, .inl (cI, 9, .inl fTo)), (aDa, .inl (cI, 9, .inl fDa))]) [5, 6, 7, 8, 9, 10, 11, 0, 1, 2, 3, 4] rfl
  have hD := hD.sub (ws' := [(aX, .inr (4, [.ref aSh, .ref aTe, .ref aRe, .ref aRF, .ref aTa, .ref aFD, .ref aPe, .ref aDr, .int (nI lw), .int (nI hm), .long fo, .int tr, .int (nI fa)])), (aTa, .inr (3, [.ref aHe])), (aHe, .inl (cJ, 360, .inr (.inl f_3))), (aTe, .inr (0, [.ref aTp, .ref aTt, .ref aTd, .int (nI 8), .int (nI nt)])), (aTp, .inl (cI, 8, .inl fTp)), (aTt, .inl (cI, 8, .inl fTt)), (aTd, .inl (cI, 8, .inl fTd)), (aPe, .inr (1, [.ref aKi, .ref aFr, .ref aTo, .ref aDa, .int (nI np), .int (nI sm), .int (nI nw)])), (aKi, .inl (cI, 6, .inl fKi)), (aFr, .inl (cI, 9, .inl fFr)), (aTo, .inl (cI, 9, .inl fTo)), (aDa, .inl (cI, 9, .inl fDa))]) [5, 6, 7, 8, 9, 10, 11, 0, 1, 2, 3, 4] (by decide) rfl
  refine lv_aload_n hx hb dX4_talkAsItIs_5 rfl (lv_at hl 0 rfl) ?_
  refine va_get (D := (dC, dI)) (ci := 4) (v := .ref aTa) (C := RX4) (T := TX4) (N := 13) hx hb hts hinX4 hown hK hP 0 rfl rfl 4 (by decide) lk36 (fun _ h9 => h9) rfl dX4_talkAsItIs_6 ?_
  refine lv_aload_n hx hb dX4_talkAsItIs_9 rfl (lv_at hl 0 rfl) ?_
  refine va_get (D := (dC, dI)) (ci := 4) (v := .ref aPe) (C := RX4) (T := TX4) (N := 13) hx hb hts hinX4 hown hK hP 0 rfl rfl 6 (by decide) lk47 (fun _ h9 => h9) rfl dX4_talkAsItIs_10 ?_
  refine lv_aload_n hx hb dX4_talkAsItIs_13 rfl (lv_at hl 0 rfl) ?_
  refine va_get (D := (dC, dI)) (ci := 4) (v := .int (nI hm)) (C := RX4) (T := TX4) (N := 13) hx hb hts hinX4 hown hK hP 0 rfl rfl 9 (by decide) lk58 (fun _ h9 => h9) rfl dX4_talkAsItIs_14 ?_
  refine lv_iconst (v := (-1)) hx hb dX4_talkAsItIs_17 (by decide) ?_
  refine kc_v (wr := [(aX, .inr (4, [.ref aSh, .ref aTe, .ref aRe, .ref aRF, .ref aTa, .ref aFD, .ref aPe, .ref aDr, .int (nI lw), .int (nI hm), .long fo, .int tr, .int (nI fa)])), (aTe, .inr (0, [.ref aTp, .ref aTt, .ref aTd, .int (nI 8), .int (nI nt)])), (aTp, .inl (cI, 8, .inl fTp)), (aTt, .inl (cI, 8, .inl fTt)), (aTd, .inl (cI, 8, .inl fTd))]) (va_runV (As := [.ref aPe, .int (nI hm), .int (-1)]) (rest := []) ⟨hx, hb, hml, hown, hts⟩ (kX3_spread aTa aHe f_3 aPe aKi aFr aTo aDa np sm nw fKi fFr fTo fDa kd wf wt wd hm (-1) (tellS tp tt td nt (-1)) hw hpA hhm hr_1) (cwV 3 hts gX4_talkAsItIs_X3_spread rfl rfl rfl hvX3_spread ⟨Nat.le_of_ble_eq_true rfl, Nat.le_of_ble_eq_true rfl⟩) (kpreV hN (q := (RX3, TX3, 1)) (ci := 3) hK (hP.sub [1, 2, 7, 8, 9, 10, 11] rfl) (hD.sub [1, 2, 7, 8, 9, 10, 11] (by decide) rfl) 0 rfl rfl) rfl rfl hl.1 rfl (lv_room (Nat.le_of_ble_eq_true rfl)) dX4_talkAsItIs_18 ⟨Nat.zero_le _, Nat.zero_le _⟩) (fun _ => by simp only [List.map]) hP hD hS hA [1, 2, 7, 8, 9, 10, 11] [0, 3, 4, 5, 6] rfl rfl (by decide) (by decide) (by decide) (fun f_6 H_5 locs hr_4 hP hD hS => ?_)
  have hP : va_P (dC, dI) vwCl [(aX, .inr (4, [.ref aSh, .ref aTe, .ref aRe, .ref aRF, .ref aTa, .ref aFD, .ref aPe, .ref aDr, .int (nI lw), .int (nI hm), .long fo, .int tr, .int (nI fa)])), (aTe, .inr (0, [.ref aTp, .ref aTt, .ref aTd, .int (nI 8), .int (nI nt)])), (aTp, .inl (cI, 8, .inl fTp)), (aTt, .inl (cI, 8, .inl fTt)), (aTd, .inl (cI, 8, .inl fTd)), (aTa, .inr (3, [.ref aHe])), (aHe, .inl (cJ, 360, .inr (.inl f_6))), (aPe, .inr (1, [.ref aKi, .ref aFr, .ref aTo, .ref aDa, .int (nI np), .int (nI sm), .int (nI nw)])), (aKi, .inl (cI, 6, .inl fKi)), (aFr, .inl (cI, 9, .inl fFr)), (aTo, .inl (cI, 9, .inl fTo)), (aDa, .inl (cI, 9, .inl fDa))] H_5 := hP
  have hD : va_D zA [(aX, .inr (4, [.ref aSh, .ref aTe, .ref aRe, .ref aRF, .ref aTa, .ref aFD, .ref aPe, .ref aDr, .int (nI lw), .int (nI hm), .long fo, .int tr, .int (nI fa)])), (aTe, .inr (0, [.ref aTp, .ref aTt, .ref aTd, .int (nI 8), .int (nI nt)])), (aTp, .inl (cI, 8, .inl fTp)), (aTt, .inl (cI, 8, .inl fTt)), (aTd, .inl (cI, 8, .inl fTd)), (aTa, .inr (3, [.ref aHe])), (aHe, .inl (cJ, 360, .inr (.inl f_6))), (aPe, .inr (1, [.ref aKi, .ref aFr, .ref aTo, .ref aDa, .int (nI np), .int (nI sm), .int (nI nw)])), (aKi, .inl (cI, 6, .inl fKi)), (aFr, .inl (cI, 9, .inl fFr)), (aTo, .inl (cI, 9, .inl fTo)), (aDa, .inl (cI, 9, .inl fDa))] := hD
  have hP := hP.sub (ws' := [(aX, .inr (4, [.ref aSh, .ref aTe, .ref aRe, .ref aRF, .ref aTa, .ref aFD, .ref aPe, .ref aDr, .int (nI lw), .int (nI hm), .long fo, .int tr, .int (nI fa)])), (aTa, .inr (3, [.ref aHe])), (aHe, .inl (cJ, 360, .inr (.inl f_6))), (aTe, .inr (0, [.ref aTp, .ref aTt, .ref aTd, .int (nI 8), .int (nI nt)])), (aTp, .inl (cI, 8, .inl fTp)), (aTt, .inl (cI, 8, .inl fTt)), (aTd, .inl (cI, 8, .inl fTd)), (aPe, .inr (1, [.ref aKi, .ref aFr, .ref aTo, .ref aDa, .int (nI np), .int (nI sm), .int (nI nw)])), (aKi, .inl (cI, 6, .inl fKi)), (aFr, .inl (cI, 9, .inl fFr)), (aTo, .inl (cI, 9, .inl fTo)), (aDa, .inl (cI, 9, .inl fDa))]) [0, 5, 6, 1, 2, 3, 4, 7, 8, 9, 10, 11] rfl
  have hD := hD.sub (ws' := [(aX, .inr (4, [.ref aSh, .ref aTe, .ref aRe, .ref aRF, .ref aTa, .ref aFD, .ref aPe, .ref aDr, .int (nI lw), .int (nI hm), .long fo, .int tr, .int (nI fa)])), (aTa, .inr (3, [.ref aHe])), (aHe, .inl (cJ, 360, .inr (.inl f_6))), (aTe, .inr (0, [.ref aTp, .ref aTt, .ref aTd, .int (nI 8), .int (nI nt)])), (aTp, .inl (cI, 8, .inl fTp)), (aTt, .inl (cI, 8, .inl fTt)), (aTd, .inl (cI, 8, .inl fTd)), (aPe, .inr (1, [.ref aKi, .ref aFr, .ref aTo, .ref aDa, .int (nI np), .int (nI sm), .int (nI nw)])), (aKi, .inl (cI, 6, .inl fKi)), (aFr, .inl (cI, 9, .inl fFr)), (aTo, .inl (cI, 9, .inl fTo)), (aDa, .inl (cI, 9, .inl fDa))]) [0, 5, 6, 1, 2, 3, 4, 7, 8, 9, 10, 11] (by decide) rfl
  refine hret 21 _ f_6 _ _ dX4_talkAsItIs_21 hS (fun t ht _ => by rw [ht]; exact hP) ?_
  exact hr_4

set_option maxHeartbeats 800000 in
set_option maxRecDepth 100000 in
theorem kX4_forgeDay {zl : Launch} {dC : Nat → ClassId} {dI : Nat → Nat → Nat} {cI cJ cZ cS : ClassId} (aX : Nat) (aSh : Nat) (aTe : Nat) (aRe : Nat) (aRF : Nat) (aTa : Nat) (aFD : Nat) (aPe : Nat) (aDr : Nat) (lw : Nat) (hm : Nat) (fo : Int64) (tr : Int32) (fa : Nat) (aHe : Nat) (fHe : Nat → Int64) (H : Nat → Nat → Nat → Prop) (fg : Nat → Bool) (q : Nat) (t : Nat) (hT : talked H fHe) (hu : upH H) (hfg : ∀ d, d < 60 → bl fo d = fg d) (hq : q < 6) (ht : t < 4) (hlw : lw ≤ 4) : Met zl yX4_forgeDay wsX4_forgeDay ({ frames := 2, cells := 0, slots := 0, locals := 44 } : Room) (va_Pc [.ref aX, .int (nI q), .int (nI t)] (rPre (dC, dI) (kT cI cJ cZ cS) [(aX, .inr (4, [.ref aSh, .ref aTe, .ref aRe, .ref aRF, .ref aTa, .ref aFD, .ref aPe, .ref aDr, .int (nI lw), .int (nI hm), .long fo, .int tr, .int (nI fa)])), (aTa, .inr (3, [.ref aHe])), (aHe, .inl (cJ, 360, .inr (.inl fHe)))])) (vp_Si (fun r : Int32 => r = kNone (fday H lw fg q t))) 0 0 (fun _ => False) := by
  refine kstartR_i (cc := cX4_forgeDay) (maxL := 4) rfl rfl (Nat.le_of_ble_eq_true rfl) ?_
  intro zp ze zs zm zb zt zc za zQ hx hb hml hts hown hN hK hP hret ls hl
  have hl : lv_has ls 4 [(0, .ref aX), (1, .int (nI q)), (2, .int (nI t))] := hl
  have hinX4 : ∀ w ∈ wsX40, w ∈ wsX4_forgeDay := fun _ h => List.mem_cons_of_mem _ (List.mem_append_left _ (List.mem_append_right _ h))
  have lk36 := hts (.fieldLink RX4 36 "IronRumours" "talk" "LIronRumours$Talk;") (List.mem_of_getElem? (i := 1) rfl)
  have lk54 := hts (.fieldLink RX4 54 "IronRumours" "lawNow" "I") (List.mem_of_getElem? (i := 2) rfl)
  refine lv_aload_n hx hb dX4_forgeDay_0 rfl (lv_at hl 0 rfl) ?_
  refine va_get (D := (dC, dI)) (ci := 4) (v := .ref aTa) (C := RX4) (T := TX4) (N := 13) hx hb hts hinX4 hown hK hP 0 rfl rfl 4 (by decide) lk36 (fun _ h9 => h9) rfl dX4_forgeDay_1 ?_
  refine lv_iload_n hx hb dX4_forgeDay_4 rfl (lv_at hl 1 rfl) ?_
  refine lv_iload_n hx hb dX4_forgeDay_5 rfl (lv_at hl 2 rfl) ?_
  refine lv_bipush (v := nI 59) hx hb dX4_forgeDay_6 (by decide) ?_
  refine rc_i (va_runV (As := [.int (nI q), .int (nI t), .int (nI 59)]) (rest := []) ⟨hx, hb, hml, hown, hts⟩ (kX3_originsBy aTa aHe fHe q t 59 hq ht (by omega)) (cwV 3 hts gX4_forgeDay_X3_originsBy rfl rfl rfl hvX3_originsBy ⟨Nat.le_of_ble_eq_true rfl, Nat.le_of_ble_eq_true rfl⟩) (rpreV hN (q := (RX3, TX3, 1)) (ci := 3) hK (hP.sub [1, 2] rfl) 0 rfl rfl) rfl rfl hl.1 rfl (lv_room (Nat.le_of_ble_eq_true rfl)) dX4_forgeDay_8 ⟨Nat.zero_le _, Nat.zero_le _⟩) (fun r_1 hr_1 => ?_)
  have hr_1 : r_1 = nI (cntO fHe 59 q t) := hr_1
  rw [hr_1]
  refine k_cast (y := nI (cntH H 59 q t)) (congrArg nI (cnt_talked hT (by omega) hq ht)) ?_
  refine lv_aload_n hx hb dX4_forgeDay_11 rfl (lv_at hl 0 rfl) ?_
  refine va_get (D := (dC, dI)) (ci := 4) (v := .int (nI lw)) (C := RX4) (T := TX4) (N := 13) hx hb hts hinX4 hown hK hP 0 rfl rfl 8 (by decide) lk54 (fun _ h9 => h9) rfl dX4_forgeDay_12 ?_
  refine k_icmp_ge (tgt := 21) hx hb dX4_forgeDay_15 (by decide) (by have := cntH_le H 59 q t; omega) (by omega) (fun c15 => ?_) (fun c15 => ?_)
  · refine lv_iconst (v := nI 0) hx hb dX4_forgeDay_21 (by decide) ?_
    refine lv_istore_n (lv' := [(3, .int (nI 0)), (0, .ref aX), (1, .int (nI q)), (2, .int (nI t))]) hx hb dX4_forgeDay_22 rfl hl (by decide) rfl (fun ls hl => ?_)
    have loop23 : ∀ (n23 : Nat) (d : Nat), (d ≤ 60) → (fstN (fun d => !fg d && decide (lw ≤ cntH H d q t)) d = 999) → (60 - d < n23) → ∀ (ls : Array Slot), lv_has ls 4 [(0, .ref aX), (1, .int (nI q)), (2, .int (nI t)), (3, .int (nI d))] → W zp zl ze ({ frames := 2, cells := 0, slots := 0, locals := 44 } : Room) zs zm za zb zt zc zs.heap [] 0 0 zQ (F0 zm 23 ls []) := by
      intro n23
      induction n23 with
      | zero => intro d hd hf hme; exact absurd hme (Nat.not_lt_zero _)
      | succ n23 ih23 =>
        intro d hd hf hme ls hl
        refine lv_iload_n hx hb dX4_forgeDay_23 rfl (lv_at hl 3 rfl) ?_
        refine lv_bipush (v := nI 60) hx hb dX4_forgeDay_24 (by decide) ?_
        refine k_icmp_ge (tgt := 62) hx hb dX4_forgeDay_26 (by decide) (by omega) (by omega) (fun c26 => ?_) (fun c26 => ?_)
        · refine lv_bipush (v := (-9)) hx hb dX4_forgeDay_62 (by decide) ?_
          refine hret 64 _ (-9) dX4_forgeDay_64 ?_
          have e : d = 60 := by omega
          subst e
          show (-9) = kNone (fstN (fun d => !fg d && decide (lw ≤ cntH H d q t)) 60)
          rw [hf]
          rfl
        · refine lv_aload_n hx hb dX4_forgeDay_29 rfl (lv_at hl 0 rfl) ?_
          refine lv_iload_n hx hb dX4_forgeDay_30 rfl (lv_at hl 3 rfl) ?_
          refine rc_i (va_runV (As := [.int (nI d)]) (rest := []) ⟨hx, hb, hml, hown, hts⟩ (kX4_isFoggy aX aSh aTe aRe aRF aTa aFD aPe aDr lw hm fo tr fa d (by omega)) (cwV 1 hts gX4_forgeDay_X4_isFoggy rfl rfl rfl hvX4_isFoggy ⟨Nat.le_of_ble_eq_true rfl, Nat.le_of_ble_eq_true rfl⟩) (rpreV hN (q := (RX4, TX4, 13)) (ci := 4) hK (hP.sub [0] rfl) 0 rfl rfl) rfl rfl hl.1 rfl (lv_room (Nat.le_of_ble_eq_true rfl)) dX4_forgeDay_31 ⟨Nat.zero_le _, Nat.zero_le _⟩) (fun r_2 hr_2 => ?_)
          have hr_2 : r_2 = kb (bl fo d) := hr_2
          rw [hr_2]
          refine k_cast (y := kb (fg d)) (congrArg kb (hfg d c26)) ?_
          refine k_if_neb (tgt := 56) hx hb dX4_forgeDay_34 (by decide) (fun c34 => ?_) (fun c34 => ?_)
          · refine lv_iinc (v := nI (d + 1)) (lv' := [(3, .int (nI (d + 1))), (0, .ref aX), (1, .int (nI q)), (2, .int (nI t))]) hx hb dX4_forgeDay_56 hl (k := 3) rfl (nI_add _ _) (by decide) rfl (fun ls hl => ?_)
            refine lv_goto (tgt := 23) hx hb dX4_forgeDay_59 (by decide) ?_
            exact ih23 (d + 1) (by omega) (by exact fstN_miss hf (by simp [c34])) (by omega) _ (lv_sub hl [1, 2, 3, 0] rfl)
          · refine lv_aload_n hx hb dX4_forgeDay_37 rfl (lv_at hl 0 rfl) ?_
            refine va_get (D := (dC, dI)) (ci := 4) (v := .ref aTa) (C := RX4) (T := TX4) (N := 13) hx hb hts hinX4 hown hK hP 0 rfl rfl 4 (by decide) lk36 (fun _ h9 => h9) rfl dX4_forgeDay_38 ?_
            refine lv_iload_n hx hb dX4_forgeDay_41 rfl (lv_at hl 1 rfl) ?_
            refine lv_iload_n hx hb dX4_forgeDay_42 rfl (lv_at hl 2 rfl) ?_
            refine lv_iload_n hx hb dX4_forgeDay_43 rfl (lv_at hl 3 rfl) ?_
            refine rc_i (va_runV (As := [.int (nI q), .int (nI t), .int (nI d)]) (rest := []) ⟨hx, hb, hml, hown, hts⟩ (kX3_originsBy aTa aHe fHe q t d hq ht (by omega)) (cwV 3 hts gX4_forgeDay_X3_originsBy rfl rfl rfl hvX3_originsBy ⟨Nat.le_of_ble_eq_true rfl, Nat.le_of_ble_eq_true rfl⟩) (rpreV hN (q := (RX3, TX3, 1)) (ci := 3) hK (hP.sub [1, 2] rfl) 0 rfl rfl) rfl rfl hl.1 rfl (lv_room (Nat.le_of_ble_eq_true rfl)) dX4_forgeDay_44 ⟨Nat.zero_le _, Nat.zero_le _⟩) (fun r_3 hr_3 => ?_)
            have hr_3 : r_3 = nI (cntO fHe d q t) := hr_3
            rw [hr_3]
            refine k_cast (y := nI (cntH H d q t)) (congrArg nI (cnt_talked hT c26 hq ht)) ?_
            refine lv_aload_n hx hb dX4_forgeDay_47 rfl (lv_at hl 0 rfl) ?_
            refine va_get (D := (dC, dI)) (ci := 4) (v := .int (nI lw)) (C := RX4) (T := TX4) (N := 13) hx hb hts hinX4 hown hK hP 0 rfl rfl 8 (by decide) lk54 (fun _ h9 => h9) rfl dX4_forgeDay_48 ?_
            refine k_icmp_lt (tgt := 56) hx hb dX4_forgeDay_51 (by decide) (by have := cntH_le H d q t; omega) (by omega) (fun c51 => ?_) (fun c51 => ?_)
            · refine lv_iinc (v := nI (d + 1)) (lv' := [(3, .int (nI (d + 1))), (0, .ref aX), (1, .int (nI q)), (2, .int (nI t))]) hx hb dX4_forgeDay_56 hl (k := 3) rfl (nI_add _ _) (by decide) rfl (fun ls hl => ?_)
              refine lv_goto (tgt := 23) hx hb dX4_forgeDay_59 (by decide) ?_
              exact ih23 (d + 1) (by omega) (by exact fstN_miss hf (by simp; intro _; omega)) (by omega) _ (lv_sub hl [1, 2, 3, 0] rfl)
            · refine lv_iload_n hx hb dX4_forgeDay_54 rfl (lv_at hl 3 rfl) ?_
              refine hret 55 _ (nI d) dX4_forgeDay_55 ?_
              exact fst_found hf (by simp [c34, c51]) c26
    exact loop23 ((60 - 0) + 1) 0 (by omega) (by rfl) (by exact Nat.lt_succ_self _) _ (lv_sub hl [1, 2, 3, 0] rfl)
  · refine lv_bipush (v := (-9)) hx hb dX4_forgeDay_18 (by decide) ?_
    refine hret 20 _ (-9) dX4_forgeDay_20 ?_
    rw [fday_low hu ht c15]
    rfl

set_option maxHeartbeats 800000 in
set_option maxRecDepth 100000 in
theorem kX4_hasForged {zl : Launch} {dC : Nat → ClassId} {dI : Nat → Nat → Nat} {cI cJ cZ cS : ClassId} (aX : Nat) (aSh : Nat) (aTe : Nat) (aRe : Nat) (aRF : Nat) (aTa : Nat) (aFD : Nat) (aPe : Nat) (aDr : Nat) (lw : Nat) (hm : Nat) (fo : Int64) (tr : Int32) (fa : Nat) (aHe : Nat) (fHe : Nat → Int64) (H : Nat → Nat → Nat → Prop) (fg : Nat → Bool) (q : Nat) (t : Nat) (d : Nat) (hT : talked H fHe) (hu : upH H) (hfg : ∀ d, d < 60 → bl fo d = fg d) (hq : q < 6) (ht : t < 4) (hlw : lw ≤ 4) (hd : d < 60) : Met zl yX4_hasForged wsX4_hasForged ({ frames := 3, cells := 0, slots := 0, locals := 67 } : Room) (va_Pc [.ref aX, .int (nI q), .int (nI t), .int (nI d)] (rPre (dC, dI) (kT cI cJ cZ cS) [(aX, .inr (4, [.ref aSh, .ref aTe, .ref aRe, .ref aRF, .ref aTa, .ref aFD, .ref aPe, .ref aDr, .int (nI lw), .int (nI hm), .long fo, .int tr, .int (nI fa)])), (aTa, .inr (3, [.ref aHe])), (aHe, .inl (cJ, 360, .inr (.inl fHe)))])) (vp_Si (fun r : Int32 => r = kb (decide (fday H lw fg q t ≤ d)))) 0 0 (fun _ => False) := by
  refine kstartR_z (cc := cX4_hasForged) (maxL := 5) rfl rfl (Nat.le_of_ble_eq_true rfl) ?_
  intro zp ze zs zm zb zt zc za zQ hx hb hml hts hown hN hK hP hret ls hl
  have hl : lv_has ls 5 [(0, .ref aX), (1, .int (nI q)), (2, .int (nI t)), (3, .int (nI d))] := hl
  refine lv_aload_n hx hb dX4_hasForged_0 rfl (lv_at hl 0 rfl) ?_
  refine lv_iload_n hx hb dX4_hasForged_1 rfl (lv_at hl 1 rfl) ?_
  refine lv_iload_n hx hb dX4_hasForged_2 rfl (lv_at hl 2 rfl) ?_
  refine rc_i (va_runV (As := [.int (nI q), .int (nI t)]) (rest := []) ⟨hx, hb, hml, hown, hts⟩ (kX4_forgeDay aX aSh aTe aRe aRF aTa aFD aPe aDr lw hm fo tr fa aHe fHe H fg q t hT hu hfg hq ht hlw) (cwV 2 hts gX4_hasForged_X4_forgeDay rfl rfl rfl hvX4_forgeDay ⟨Nat.le_of_ble_eq_true rfl, Nat.le_of_ble_eq_true rfl⟩) (rpreV hN (q := (RX4, TX4, 13)) (ci := 4) hK (hP.sub [0, 1, 2] rfl) 0 rfl rfl) rfl rfl hl.1 rfl (lv_room (Nat.le_of_ble_eq_true rfl)) dX4_hasForged_3 ⟨Nat.zero_le _, Nat.zero_le _⟩) (fun r_1 hr_1 => ?_)
  have hr_1 : r_1 = kNone (fday H lw fg q t) := hr_1
  rw [hr_1]
  refine lv_istore (lv' := [(4, .int (kNone (fday H lw fg q t))), (0, .ref aX), (1, .int (nI q)), (2, .int (nI t)), (3, .int (nI d))]) hx hb dX4_hasForged_6 hl (by decide) rfl (fun ls hl => ?_)
  refine lv_iload hx hb dX4_hasForged_8 (lv_at hl 0 rfl) ?_
  refine lv_bipush (v := (-9)) hx hb dX4_hasForged_10 (by decide) ?_
  refine lv_icmp_eq (tgt := 25) hx hb dX4_hasForged_12 (by decide) (fun c12 => ?_) (fun c12 => ?_)
  · refine lv_iconst (v := nI 0) hx hb dX4_hasForged_25 (by decide) ?_
    refine k_cast (y := kb false) (rfl) ?_
    refine hret 26 _ false dX4_hasForged_26 ?_
    refine congrArg kb ?_
    symm
    rw [decide_eq_false_iff_not, kNone_eq c12]
    omega
  · obtain ⟨e12, l12⟩ := kNone_ne c12
    rw [e12] at hl
    refine lv_iload hx hb dX4_hasForged_15 (lv_at hl 0 rfl) ?_
    refine lv_iload_n hx hb dX4_hasForged_17 rfl (lv_at hl 4 rfl) ?_
    refine k_icmp_gt (tgt := 25) hx hb dX4_hasForged_18 (by decide) (by omega) (by omega) (fun c18 => ?_) (fun c18 => ?_)
    · refine lv_iconst (v := nI 0) hx hb dX4_hasForged_25 (by decide) ?_
      refine k_cast (y := kb false) (rfl) ?_
      refine hret 26 _ false dX4_hasForged_26 ?_
      exact congrArg kb (by first | (symm; rw [decide_eq_true_iff]; omega) | (symm; rw [decide_eq_false_iff_not]; omega))
    · refine lv_iconst (v := nI 1) hx hb dX4_hasForged_21 (by decide) ?_
      refine lv_goto (tgt := 26) hx hb dX4_hasForged_22 (by decide) ?_
      refine k_cast (y := kb true) (rfl) ?_
      refine hret 26 _ true dX4_hasForged_26 ?_
      exact congrArg kb (by first | (symm; rw [decide_eq_true_iff]; omega) | (symm; rw [decide_eq_false_iff_not]; omega))

set_option maxHeartbeats 800000 in
set_option maxRecDepth 100000 in
theorem kX4_worksBy {zl : Launch} {dC : Nat → ClassId} {dI : Nat → Nat → Nat} {cI cJ cZ cS : ClassId} (aX : Nat) (aSh : Nat) (aTe : Nat) (aRe : Nat) (aRF : Nat) (aTa : Nat) (aFD : Nat) (aPe : Nat) (aDr : Nat) (lw : Nat) (hm : Nat) (fo : Int64) (tr : Int32) (fa : Nat) (aHe : Nat) (fHe : Nat → Int64) (aKi : Nat) (aFr : Nat) (aTo : Nat) (aDa : Nat) (np : Nat) (sm : Nat) (nw : Nat) (H : Nat → Nat → Nat → Prop) (fg : Nat → Bool) (d : Nat) (hT : talked H fHe) (hu : upH H) (hfg : ∀ d, d < 60 → bl fo d = fg d) (hnp : np ≤ 6) (hlw : lw ≤ 4) (hsm : sm < 64) (hd : d < 60) : Met zl yX4_worksBy wsX4_worksBy ({ frames := 4, cells := 0, slots := 0, locals := 91 } : Room) (va_Pc [.ref aX, .int (nI d)] (rPre (dC, dI) (kT cI cJ cZ cS) [(aX, .inr (4, [.ref aSh, .ref aTe, .ref aRe, .ref aRF, .ref aTa, .ref aFD, .ref aPe, .ref aDr, .int (nI lw), .int (nI hm), .long fo, .int tr, .int (nI fa)])), (aTa, .inr (3, [.ref aHe])), (aHe, .inl (cJ, 360, .inr (.inl fHe))), (aPe, .inr (1, [.ref aKi, .ref aFr, .ref aTo, .ref aDa, .int (nI np), .int (nI sm), .int (nI nw)]))])) (vp_Si (fun r : Int32 => r = nI (wrk H lw fg sm np d))) 0 0 (fun _ => False) := by
  refine kstartR_i (cc := cX4_worksBy) (maxL := 5) rfl rfl (Nat.le_of_ble_eq_true rfl) ?_
  intro zp ze zs zm zb zt zc za zQ hx hb hml hts hown hN hK hP hret ls hl
  have hl : lv_has ls 5 [(0, .ref aX), (1, .int (nI d))] := hl
  have hinX1 : ∀ w ∈ wsX10, w ∈ wsX4_worksBy := fun _ h => List.mem_cons_of_mem _ (List.mem_append_left _ (List.mem_append_right _ h))
  have hinX4 : ∀ w ∈ wsX40, w ∈ wsX4_worksBy := fun _ h => List.mem_cons_of_mem _ (List.mem_append_left _ (List.mem_append_left _ (List.mem_append_right _ h)))
  have lk95 := hts (.fieldLink RX4 95 "IronRumours$People" "persons" "I") (List.mem_of_getElem? (i := 2) rfl)
  have lk47 := hts (.fieldLink RX4 47 "IronRumours" "people" "LIronRumours$People;") (List.mem_of_getElem? (i := 1) rfl)
  refine lv_iconst (v := nI 0) hx hb dX4_worksBy_0 (by decide) ?_
  refine lv_istore_n (lv' := [(2, .int (nI 0)), (0, .ref aX), (1, .int (nI d))]) hx hb dX4_worksBy_1 rfl hl (by decide) rfl (fun ls hl => ?_)
  refine lv_iconst (v := nI 0) hx hb dX4_worksBy_2 (by decide) ?_
  refine lv_istore_n (lv' := [(3, .int (nI 0)), (2, .int (nI 0)), (0, .ref aX), (1, .int (nI d))]) hx hb dX4_worksBy_3 rfl hl (by decide) rfl (fun ls hl => ?_)
  have loop4 : ∀ (n4 : Nat) (q : Nat), (q ≤ np) → (np - q < n4) → ∀ (ls : Array Slot), lv_has ls 5 [(0, .ref aX), (1, .int (nI d)), (2, .int (nI (fb_ct (wrkB H lw fg sm d) (4 * q)))), (3, .int (nI q))] → W zp zl ze ({ frames := 4, cells := 0, slots := 0, locals := 91 } : Room) zs zm za zb zt zc zs.heap [] 0 0 zQ (F0 zm 4 ls []) := by
    intro n4
    induction n4 with
    | zero => intro q hq hme; exact absurd hme (Nat.not_lt_zero _)
    | succ n4 ih4 =>
      intro q hq hme ls hl
      refine lv_iload_n hx hb dX4_worksBy_4 rfl (lv_at hl 3 rfl) ?_
      refine lv_aload_n hx hb dX4_worksBy_5 rfl (lv_at hl 0 rfl) ?_
      refine va_get (D := (dC, dI)) (ci := 4) (v := .ref aPe) (C := RX4) (T := TX4) (N := 13) hx hb hts hinX4 hown hK hP 0 rfl rfl 6 (by decide) lk47 (fun _ h9 => h9) rfl dX4_worksBy_6 ?_
      refine va_get (D := (dC, dI)) (ci := 1) (v := .int (nI np)) (C := RX1) (T := TX1) (N := 7) hx hb hts hinX1 hown hK hP 3 rfl rfl 4 (by decide) lk95 (fun _ h9 => h9) rfl dX4_worksBy_9 ?_
      refine k_icmp_ge (tgt := 61) hx hb dX4_worksBy_12 (by decide) (by omega) (by omega) (fun c12 => ?_) (fun c12 => ?_)
      · refine lv_iload_n hx hb dX4_worksBy_61 rfl (lv_at hl 2 rfl) ?_
        refine hret 62 _ (nI (fb_ct (wrkB H lw fg sm d) (4 * q))) dX4_worksBy_62 ?_
        have e : q = np := by omega
        subst e
        rfl
      · refine lv_iconst (v := nI 0) hx hb dX4_worksBy_15 (by decide) ?_
        refine lv_istore (lv' := [(4, .int (nI 0)), (0, .ref aX), (1, .int (nI d)), (2, .int (nI (fb_ct (wrkB H lw fg sm d) (4 * q)))), (3, .int (nI q))]) hx hb dX4_worksBy_16 hl (by decide) rfl (fun ls hl => ?_)
        have loop18 : ∀ (n18 : Nat) (t : Nat), (t ≤ 4) → (sm.testBit q = true ∨ t = 0) → (4 - t < n18) → ∀ (ls : Array Slot), lv_has ls 5 [(0, .ref aX), (1, .int (nI d)), (2, .int (nI (fb_ct (wrkB H lw fg sm d) (4 * q + t)))), (3, .int (nI q)), (4, .int (nI t))] → W zp zl ze ({ frames := 4, cells := 0, slots := 0, locals := 91 } : Room) zs zm za zb zt zc zs.heap [] 0 0 zQ (F0 zm 18 ls []) := by
          intro n18
          induction n18 with
          | zero => intro t ht hs hme; exact absurd hme (Nat.not_lt_zero _)
          | succ n18 ih18 =>
            intro t ht hs hme ls hl
            refine lv_aload_n hx hb dX4_worksBy_18 rfl (lv_at hl 0 rfl) ?_
            refine va_get (D := (dC, dI)) (ci := 4) (v := .ref aPe) (C := RX4) (T := TX4) (N := 13) hx hb hts hinX4 hown hK hP 0 rfl rfl 6 (by decide) lk47 (fun _ h9 => h9) rfl dX4_worksBy_19 ?_
            refine lv_iload_n hx hb dX4_worksBy_22 rfl (lv_at hl 3 rfl) ?_
            refine rc_i (va_runV (As := [.int (nI q)]) (rest := []) ⟨hx, hb, hml, hown, hts⟩ (kX1_isSmith aPe aKi aFr aTo aDa np sm nw q hsm (by omega)) (cwV 1 hts gX4_worksBy_X1_isSmith rfl rfl rfl hvX1_isSmith ⟨Nat.le_of_ble_eq_true rfl, Nat.le_of_ble_eq_true rfl⟩) (rpreV hN (q := (RX1, TX1, 7)) (ci := 1) hK (hP.sub [3] rfl) 0 rfl rfl) rfl rfl hl.1 rfl (lv_room (Nat.le_of_ble_eq_true rfl)) dX4_worksBy_23 ⟨Nat.zero_le _, Nat.zero_le _⟩) (fun r_1 hr_1 => ?_)
            have hr_1 : r_1 = kb (sm.testBit q) := hr_1
            rw [hr_1]
            refine k_if_eqb (tgt := 55) hx hb dX4_worksBy_26 (by decide) (fun c26 => ?_) (fun c26 => ?_)
            · refine lv_iinc (v := nI (q + 1)) (lv' := [(3, .int (nI (q + 1))), (0, .ref aX), (1, .int (nI d)), (2, .int (nI (fb_ct (wrkB H lw fg sm d) (4 * q + t)))), (4, .int (nI t))]) hx hb dX4_worksBy_55 hl (k := 3) rfl (nI_add _ _) (by decide) rfl (fun ls hl => ?_)
              refine lv_goto (tgt := 4) hx hb dX4_worksBy_58 (by decide) ?_
              rw [wrk_o hs c26] at hl
              exact ih4 (q + 1) (by omega) (by omega) _ (lv_sub hl [1, 2, 3, 0] rfl)
            · refine lv_iload hx hb dX4_worksBy_29 (lv_at hl 4 rfl) ?_
              refine lv_iconst (v := nI 4) hx hb dX4_worksBy_31 (by decide) ?_
              refine k_icmp_ge (tgt := 55) hx hb dX4_worksBy_32 (by decide) (by omega) (by omega) (fun c32 => ?_) (fun c32 => ?_)
              · refine lv_iinc (v := nI (q + 1)) (lv' := [(3, .int (nI (q + 1))), (0, .ref aX), (1, .int (nI d)), (2, .int (nI (fb_ct (wrkB H lw fg sm d) (4 * q + t)))), (4, .int (nI t))]) hx hb dX4_worksBy_55 hl (k := 3) rfl (nI_add _ _) (by decide) rfl (fun ls hl => ?_)
                refine lv_goto (tgt := 4) hx hb dX4_worksBy_58 (by decide) ?_
                rw [wrk_4 c32 ht] at hl
                exact ih4 (q + 1) (by omega) (by omega) _ (lv_sub hl [1, 2, 3, 0] rfl)
              · refine lv_aload_n hx hb dX4_worksBy_35 rfl (lv_at hl 0 rfl) ?_
                refine lv_iload_n hx hb dX4_worksBy_36 rfl (lv_at hl 3 rfl) ?_
                refine lv_iload hx hb dX4_worksBy_37 (lv_at hl 4 rfl) ?_
                refine lv_iload_n hx hb dX4_worksBy_39 rfl (lv_at hl 1 rfl) ?_
                refine rc_i (va_runV (As := [.int (nI q), .int (nI t), .int (nI d)]) (rest := []) ⟨hx, hb, hml, hown, hts⟩ (kX4_hasForged aX aSh aTe aRe aRF aTa aFD aPe aDr lw hm fo tr fa aHe fHe H fg q t d hT hu hfg (by omega) (by omega) hlw hd) (cwV 3 hts gX4_worksBy_X4_hasForged rfl rfl rfl hvX4_hasForged ⟨Nat.le_of_ble_eq_true rfl, Nat.le_of_ble_eq_true rfl⟩) (rpreV hN (q := (RX4, TX4, 13)) (ci := 4) hK (hP.sub [0, 1, 2] rfl) 0 rfl rfl) rfl rfl hl.1 rfl (lv_room (Nat.le_of_ble_eq_true rfl)) dX4_worksBy_40 ⟨Nat.zero_le _, Nat.zero_le _⟩) (fun r_2 hr_2 => ?_)
                have hr_2 : r_2 = kb (decide (fday H lw fg q t ≤ d)) := hr_2
                rw [hr_2]
                refine k_if_eqb (tgt := 49) hx hb dX4_worksBy_43 (by decide) (fun c43 => ?_) (fun c43 => ?_)
                · refine lv_iinc (v := nI (t + 1)) (lv' := [(4, .int (nI (t + 1))), (0, .ref aX), (1, .int (nI d)), (2, .int (nI (fb_ct (wrkB H lw fg sm d) (4 * q + t)))), (3, .int (nI q))]) hx hb dX4_worksBy_49 hl (k := 4) rfl (nI_add _ _) (by decide) rfl (fun ls hl => ?_)
                  refine lv_goto (tgt := 18) hx hb dX4_worksBy_52 (by decide) ?_
                  rw [wrk_n c32 c26 c43] at hl
                  exact ih18 (t + 1) (by omega) (by exact Or.inl c26) (by omega) _ (lv_sub hl [1, 2, 3, 4, 0] rfl)
                · refine lv_iinc (v := nI (fb_ct (wrkB H lw fg sm d) (4 * q + t) + 1)) (lv' := [(2, .int (nI (fb_ct (wrkB H lw fg sm d) (4 * q + t) + 1))), (0, .ref aX), (1, .int (nI d)), (3, .int (nI q)), (4, .int (nI t))]) hx hb dX4_worksBy_46 hl (k := 2) rfl (nI_add _ _) (by decide) rfl (fun ls hl => ?_)
                  refine lv_iinc (v := nI (t + 1)) (lv' := [(4, .int (nI (t + 1))), (2, .int (nI (fb_ct (wrkB H lw fg sm d) (4 * q + t) + 1))), (0, .ref aX), (1, .int (nI d)), (3, .int (nI q))]) hx hb dX4_worksBy_49 hl (k := 4) rfl (nI_add _ _) (by decide) rfl (fun ls hl => ?_)
                  refine lv_goto (tgt := 18) hx hb dX4_worksBy_52 (by decide) ?_
                  rw [wrk_y c32 c26 c43] at hl
                  exact ih18 (t + 1) (by omega) (by exact Or.inl c26) (by omega) _ (lv_sub hl [2, 3, 1, 4, 0] rfl)
        exact loop18 ((4 - 0) + 1) 0 (by omega) (by exact Or.inr rfl) (by exact Nat.lt_succ_self _) _ (lv_sub hl [1, 2, 3, 4, 0] rfl)
  exact loop4 ((np - 0) + 1) 0 (by omega) (by exact Nat.lt_succ_self _) _ (lv_sub hl [2, 3, 1, 0] rfl)
