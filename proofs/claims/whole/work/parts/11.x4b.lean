set_option maxHeartbeats 800000 in
set_option maxRecDepth 100000 in
theorem kX4_wayOf {zl : Launch} {dC : Nat → ClassId} {dI : Nat → Nat → Nat} {cI cJ cZ cS : ClassId} (aX : Nat) (aSh : Nat) (aTe : Nat) (aRe : Nat) (aRF : Nat) (aTa : Nat) (aFD : Nat) (aPe : Nat) (aDr : Nat) (lw : Nat) (hm : Nat) (fo : Int64) (tr : Int32) (fa : Nat) (aHe : Nat) (fHe : Nat → Int64) (aKi : Nat) (aFr : Nat) (aTo : Nat) (aDa : Nat) (np : Nat) (sm : Nat) (nw : Nat) (fKi : Nat → Int32) (fFr : Nat → Int32) (fTo : Nat → Int32) (fDa : Nat → Int32) (kd : Nat → Nat) (wf : Nat → Nat) (wt : Nat → Nat) (wd : Nat → Nat) (q : Nat) (d : Nat) (n : Nat) (hw : waysOk np nw wf wt wd kd) (hpA : pplA np nw kd wf wt wd fKi fFr fTo fDa) (hhm : hm < 64) (hd : d < 60) (hq : q < 6) (hn : n < 60) (hxb : ∀ day p i, day < 60 → p < 6 → 60 ≤ i → hbit fHe day p i = false) : Met zl yX4_wayOf wsX4_wayOf ({ frames := 3, cells := 0, slots := 0, locals := 78 } : Room) (va_Pc [.ref aX, .int (nI q), .int (nI d), .long (rum n)] (rPre (dC, dI) (kT cI cJ cZ cS) [(aX, .inr (4, [.ref aSh, .ref aTe, .ref aRe, .ref aRF, .ref aTa, .ref aFD, .ref aPe, .ref aDr, .int (nI lw), .int (nI hm), .long fo, .int tr, .int (nI fa)])), (aTa, .inr (3, [.ref aHe])), (aHe, .inl (cJ, 360, .inr (.inl fHe))), (aPe, .inr (1, [.ref aKi, .ref aFr, .ref aTo, .ref aDa, .int (nI np), .int (nI sm), .int (nI nw)])), (aKi, .inl (cI, 6, .inl fKi)), (aFr, .inl (cI, 9, .inl fFr)), (aTo, .inl (cI, 9, .inl fTo)), (aDa, .inl (cI, 9, .inl fDa))])) (vp_Si (fun r : Int32 => r = kNone (fstN (wayP nw wf wt wd kd hm fHe q d n) nw))) 0 0 (fun _ => False) := by
  refine kstartR_i (cc := cX4_wayOf) (maxL := 6) rfl rfl (Nat.le_of_ble_eq_true rfl) ?_
  intro zp ze zs zm zb zt zc za zQ hx hb hml hts hown hN hK hP hret ls hl
  have hl : lv_has ls 6 [(0, .ref aX), (1, .int (nI q)), (2, .int (nI d)), (3, .long (rum n))] := hl
  have h9 := hw.2.1
  have h6 := hw.1
  have hinX1 : ∀ w ∈ wsX10, w ∈ wsX4_wayOf := fun _ h => List.mem_cons_of_mem _ (List.mem_append_left _ (List.mem_append_right _ h))
  have hinX4 : ∀ w ∈ wsX40, w ∈ wsX4_wayOf := fun _ h => List.mem_cons_of_mem _ (List.mem_append_left _ (List.mem_append_left _ (List.mem_append_right _ h)))
  have lk110 := hts (.fieldLink RX4 110 "IronRumours$People" "ways" "I") (List.mem_of_getElem? (i := 2) rfl)
  have lk116 := hts (.fieldLink RX4 116 "IronRumours$People" "to" "[I") (List.mem_of_getElem? (i := 3) rfl)
  have lk36 := hts (.fieldLink RX4 36 "IronRumours" "talk" "LIronRumours$Talk;") (List.mem_of_getElem? (i := 4) rfl)
  have lk47 := hts (.fieldLink RX4 47 "IronRumours" "people" "LIronRumours$People;") (List.mem_of_getElem? (i := 1) rfl)
  have lk58 := hts (.fieldLink RX4 58 "IronRumours" "hushedNow" "I") (List.mem_of_getElem? (i := 5) rfl)
  refine lv_iconst (v := nI 0) hx hb dX4_wayOf_0 (by decide) ?_
  refine lv_istore (lv' := [(5, .int (nI 0)), (0, .ref aX), (1, .int (nI q)), (2, .int (nI d)), (3, .long (rum n))]) hx hb dX4_wayOf_1 hl (by decide) rfl (fun ls hl => ?_)
  have loop3 : ∀ (n3 : Nat) (w : Nat), (w ≤ nw) → (fstN (wayP nw wf wt wd kd hm fHe q d n) w = 999) → (nw - w < n3) → ∀ (ls : Array Slot), lv_has ls 6 [(0, .ref aX), (1, .int (nI q)), (2, .int (nI d)), (3, .long (rum n)), (5, .int (nI w))] → W zp zl ze ({ frames := 3, cells := 0, slots := 0, locals := 78 } : Room) zs zm za zb zt zc zs.heap [] 0 0 zQ (F0 zm 3 ls []) := by
    intro n3
    induction n3 with
    | zero => intro w hwn hf hme; exact absurd hme (Nat.not_lt_zero _)
    | succ n3 ih3 =>
      intro w hwn hf hme ls hl
      refine lv_iload hx hb dX4_wayOf_3 (lv_at hl 4 rfl) ?_
      refine lv_aload_n hx hb dX4_wayOf_5 rfl (lv_at hl 0 rfl) ?_
      refine va_get (D := (dC, dI)) (ci := 4) (v := .ref aPe) (C := RX4) (T := TX4) (N := 13) hx hb hts hinX4 hown hK hP 0 rfl rfl 6 (by decide) lk47 (fun _ h9 => h9) rfl dX4_wayOf_6 ?_
      refine va_get (D := (dC, dI)) (ci := 1) (v := .int (nI nw)) (C := RX1) (T := TX1) (N := 7) hx hb hts hinX1 hown hK hP 3 rfl rfl 6 (by decide) lk110 (fun _ h9 => h9) rfl dX4_wayOf_9 ?_
      refine k_icmp_ge (tgt := 63) hx hb dX4_wayOf_12 (by decide) (by omega) (by omega) (fun c12 => ?_) (fun c12 => ?_)
      · refine lv_bipush (v := (-9)) hx hb dX4_wayOf_63 (by decide) ?_
        refine hret 65 _ (-9) dX4_wayOf_65 ?_
        have e : w = nw := by omega
        subst e
        rw [hf]
        rfl
      · have hww := hw.2.2.2 w c12
        refine lv_aload_n hx hb dX4_wayOf_15 rfl (lv_at hl 0 rfl) ?_
        refine va_get (D := (dC, dI)) (ci := 4) (v := .ref aPe) (C := RX4) (T := TX4) (N := 13) hx hb hts hinX4 hown hK hP 0 rfl rfl 6 (by decide) lk47 (fun _ h9 => h9) rfl dX4_wayOf_16 ?_
        refine va_get (D := (dC, dI)) (ci := 1) (v := .ref aTo) (C := RX1) (T := TX1) (N := 7) hx hb hts hinX1 hown hK hP 3 rfl rfl 2 (by decide) lk116 (fun _ h9 => h9) rfl dX4_wayOf_19 ?_
        refine lv_iload hx hb dX4_wayOf_22 (lv_at hl 4 rfl) ?_
        refine k_iald hx hb hK hP 6 0 rfl rfl (n := 9) (v := nI (wt w)) (by omega) (by decide) ((hpA.2 w c12).2.1) dX4_wayOf_24 ?_
        refine lv_iload_n hx hb dX4_wayOf_25 rfl (lv_at hl 1 rfl) ?_
        refine k_icmp_ne (tgt := 57) hx hb dX4_wayOf_26 (by decide) (by omega) (by omega) (fun c26 => ?_) (fun c26 => ?_)
        · refine lv_iinc (v := nI (w + 1)) (lv' := [(5, .int (nI (w + 1))), (0, .ref aX), (1, .int (nI q)), (2, .int (nI d)), (3, .long (rum n))]) hx hb dX4_wayOf_57 hl (k := 4) rfl (nI_add _ _) (by decide) rfl (fun ls hl => ?_)
          refine lv_goto (tgt := 3) hx hb dX4_wayOf_60 (by decide) ?_
          exact ih3 (w + 1) (by omega) (by exact fstN_miss hf (wayP_ne c26)) (by omega) _ (lv_sub hl [1, 2, 3, 4, 0] rfl)
        · refine lv_aload_n hx hb dX4_wayOf_29 rfl (lv_at hl 0 rfl) ?_
          refine va_get (D := (dC, dI)) (ci := 4) (v := .ref aTa) (C := RX4) (T := TX4) (N := 13) hx hb hts hinX4 hown hK hP 0 rfl rfl 4 (by decide) lk36 (fun _ h9 => h9) rfl dX4_wayOf_30 ?_
          refine lv_aload_n hx hb dX4_wayOf_33 rfl (lv_at hl 0 rfl) ?_
          refine va_get (D := (dC, dI)) (ci := 4) (v := .ref aPe) (C := RX4) (T := TX4) (N := 13) hx hb hts hinX4 hown hK hP 0 rfl rfl 6 (by decide) lk47 (fun _ h9 => h9) rfl dX4_wayOf_34 ?_
          refine lv_aload_n hx hb dX4_wayOf_37 rfl (lv_at hl 0 rfl) ?_
          refine va_get (D := (dC, dI)) (ci := 4) (v := .int (nI hm)) (C := RX4) (T := TX4) (N := 13) hx hb hts hinX4 hown hK hP 0 rfl rfl 9 (by decide) lk58 (fun _ h9 => h9) rfl dX4_wayOf_38 ?_
          refine lv_iload hx hb dX4_wayOf_41 (lv_at hl 4 rfl) ?_
          refine lv_iload_n hx hb dX4_wayOf_43 rfl (lv_at hl 2 rfl) ?_
          refine rc_l (va_runV (As := [.ref aPe, .int (nI hm), .int (nI w), .int (nI d)]) (rest := []) ⟨hx, hb, hml, hown, hts⟩ (kX3_broughtBy aTa aHe fHe aPe aKi aFr aTo aDa np sm nw fKi fFr fTo fDa kd wf wt wd hm w d hw hpA hhm (by omega) hd hxb) (cwV 4 hts gX4_wayOf_X3_broughtBy rfl rfl rfl hvX3_broughtBy ⟨Nat.le_of_ble_eq_true rfl, Nat.le_of_ble_eq_true rfl⟩) (rpreV hN (q := (RX3, TX3, 1)) (ci := 3) hK (hP.sub [1, 2, 3, 4, 5, 6, 7] rfl) 0 rfl rfl) rfl rfl hl.1 rfl (lv_room (Nat.le_of_ble_eq_true rfl)) dX4_wayOf_44 ⟨Nat.zero_le _, Nat.zero_le _⟩) (fun r_1 hr_1 => ?_)
          refine lv_lload_n hx hb dX4_wayOf_47 rfl (lv_at hl 3 rfl) ?_
          refine lv_land hx hb dX4_wayOf_48 ?_
          refine lv_lconst (v := 0) hx hb dX4_wayOf_49 (by decide) ?_
          refine k_lcmp_eq (tgt := 57) hx hb dX4_wayOf_50 dX4_wayOf_51 (by decide) (fun c50 => ?_) (fun c50 => ?_)
          · refine lv_iinc (v := nI (w + 1)) (lv' := [(5, .int (nI (w + 1))), (0, .ref aX), (1, .int (nI q)), (2, .int (nI d)), (3, .long (rum n))]) hx hb dX4_wayOf_57 hl (k := 4) rfl (nI_add _ _) (by decide) rfl (fun ls hl => ?_)
            refine lv_goto (tgt := 3) hx hb dX4_wayOf_60 (by decide) ?_
            exact ih3 (w + 1) (by omega) (by exact fstN_miss hf (wayP_no hn hr_1 c50)) (by omega) _ (lv_sub hl [1, 2, 3, 4, 0] rfl)
          · refine lv_iload hx hb dX4_wayOf_54 (lv_at hl 4 rfl) ?_
            refine hret 56 _ (nI w) dX4_wayOf_56 ?_
            exact fst_foundN hf (wayP_yes hn c26 hr_1 c50) c12 (by omega)
  exact loop3 ((nw - 0) + 1) 0 (by omega) (by rfl) (by exact Nat.lt_succ_self _) _ (lv_sub hl [1, 2, 3, 4, 0] rfl)

set_option maxHeartbeats 800000 in
set_option maxRecDepth 100000 in
theorem kX4_refusalOfSmith {zl : Launch} {dC : Nat → ClassId} {dI : Nat → Nat → Nat} {cI cJ cZ cS : ClassId} (aX : Nat) (aSh : Nat) (aTe : Nat) (aRe : Nat) (aRF : Nat) (aTa : Nat) (aFD : Nat) (aPe : Nat) (aDr : Nat) (lw : Nat) (hm : Nat) (fo : Int64) (tr : Int32) (fa : Nat) (aKi : Nat) (aFr : Nat) (aTo : Nat) (aDa : Nat) (np : Nat) (sm : Nat) (nw : Nat) (x : Int32) (y : Int32) (z : Int32) (hnp : np ≤ 6) (hsm : sm < 64) : Met zl yX4_refusalOfSmith wsX4_refusalOfSmith ({ frames := 3, cells := 0, slots := 0, locals := 62 } : Room) (va_Pc [.ref aX, .int x, .int y, .int z] (rPre (dC, dI) (kT cI cJ cZ cS) [(aX, .inr (4, [.ref aSh, .ref aTe, .ref aRe, .ref aRF, .ref aTa, .ref aFD, .ref aPe, .ref aDr, .int (nI lw), .int (nI hm), .long fo, .int tr, .int (nI fa)])), (aPe, .inr (1, [.ref aKi, .ref aFr, .ref aTo, .ref aDa, .int (nI np), .int (nI sm), .int (nI nw)]))])) (vp_Si (fun r : Int32 => r = krefS np sm x y z)) 0 0 (fun _ => False) := by
  refine kstartR_i (cc := cX4_refusalOfSmith) (maxL := 4) rfl rfl (Nat.le_of_ble_eq_true rfl) ?_
  intro zp ze zs zm zb zt zc za zQ hx hb hml hts hown hN hK hP hret ls hl
  have hl : lv_has ls 4 [(0, .ref aX), (1, .int x), (2, .int y), (3, .int z)] := hl
  have hinX4 : ∀ w ∈ wsX40, w ∈ wsX4_refusalOfSmith := fun _ h => List.mem_cons_of_mem _ (List.mem_append_left _ (List.mem_append_right _ h))
  have lk47 := hts (.fieldLink RX4 47 "IronRumours" "people" "LIronRumours$People;") (List.mem_of_getElem? (i := 1) rfl)
  refine lv_aload_n hx hb dX4_refusalOfSmith_0 rfl (lv_at hl 0 rfl) ?_
  refine lv_iload_n hx hb dX4_refusalOfSmith_1 rfl (lv_at hl 1 rfl) ?_
  refine rc_i (va_runV (As := [.int x]) (rest := []) ⟨hx, hb, hml, hown, hts⟩ (kX4_isPerson aX aSh aTe aRe aRF aTa aFD aPe aDr lw hm fo tr fa aKi aFr aTo aDa np sm nw x hnp) (cwV 1 hts gX4_refusalOfSmith_X4_isPerson rfl rfl rfl hvX4_isPerson ⟨Nat.le_of_ble_eq_true rfl, Nat.le_of_ble_eq_true rfl⟩) (rpreV hN (q := (RX4, TX4, 13)) (ci := 4) hK (hP.sub [0, 1] rfl) 0 rfl rfl) rfl rfl hl.1 rfl (lv_room (Nat.le_of_ble_eq_true rfl)) dX4_refusalOfSmith_2 ⟨Nat.zero_le _, Nat.zero_le _⟩) (fun r_1 hr_1 => ?_)
  have hr_1 : r_1 = kb (blw x np) := hr_1
  rw [hr_1]
  refine k_if_neb (tgt := 10) hx hb dX4_refusalOfSmith_5 (by decide) (fun c5 => ?_) (fun c5 => ?_)
  · have c5b := c5
    obtain ⟨j, hj, ej⟩ := blw_of (by omega) c5
    subst ej
    have hjc : (nI j).toNatClampNeg = j := nI_clamp (by omega)
    refine lv_iload_n hx hb dX4_refusalOfSmith_10 rfl (lv_at hl 2 rfl) ?_
    refine lv_iload_n hx hb dX4_refusalOfSmith_11 rfl (lv_at hl 3 rfl) ?_
    refine rc_i (va_runS (As := [.int y, .int z]) (rest := []) ⟨hx, hb, hml, hown, hts⟩ (kX4_isThingAndDay y z ) (va_cwS 2 hts gX4_refusalOfSmith_X4_isThingAndDay rfl rfl rfl hvX4_isThingAndDay ⟨Nat.le_of_ble_eq_true rfl, Nat.le_of_ble_eq_true rfl⟩) (rpreS hN hK (hP.sub [] rfl)) rfl rfl hl.1 rfl (lv_room (Nat.le_of_ble_eq_true rfl)) dX4_refusalOfSmith_12 ⟨Nat.zero_le _, Nat.zero_le _⟩) (fun r_2 hr_2 => ?_)
    have hr_2 : r_2 = kb (blw y 4 && blw z 60) := hr_2
    rw [hr_2]
    refine k_if_neb (tgt := 21) hx hb dX4_refusalOfSmith_15 (by decide) (fun c15 => ?_) (fun c15 => ?_)
    · refine lv_aload_n hx hb dX4_refusalOfSmith_21 rfl (lv_at hl 0 rfl) ?_
      refine va_get (D := (dC, dI)) (ci := 4) (v := .ref aPe) (C := RX4) (T := TX4) (N := 13) hx hb hts hinX4 hown hK hP 0 rfl rfl 6 (by decide) lk47 (fun _ h9 => h9) rfl dX4_refusalOfSmith_22 ?_
      refine lv_iload_n hx hb dX4_refusalOfSmith_25 rfl (lv_at hl 1 rfl) ?_
      refine rc_i (va_runV (As := [.int (nI j)]) (rest := []) ⟨hx, hb, hml, hown, hts⟩ (kX1_isSmith aPe aKi aFr aTo aDa np sm nw j hsm (by omega)) (cwV 1 hts gX4_refusalOfSmith_X1_isSmith rfl rfl rfl hvX1_isSmith ⟨Nat.le_of_ble_eq_true rfl, Nat.le_of_ble_eq_true rfl⟩) (rpreV hN (q := (RX1, TX1, 7)) (ci := 1) hK (hP.sub [1] rfl) 0 rfl rfl) rfl rfl hl.1 rfl (lv_room (Nat.le_of_ble_eq_true rfl)) dX4_refusalOfSmith_26 ⟨Nat.zero_le _, Nat.zero_le _⟩) (fun r_3 hr_3 => ?_)
      have hr_3 : r_3 = kb (sm.testBit j) := hr_3
      rw [hr_3]
      refine k_if_eqb (tgt := 36) hx hb dX4_refusalOfSmith_29 (by decide) (fun c29 => ?_) (fun c29 => ?_)
      · refine lv_bipush (v := (-3)) hx hb dX4_refusalOfSmith_36 (by decide) ?_
        refine hret 38 _ (-3) dX4_refusalOfSmith_38 ?_
        unfold krefS
        rw [if_pos c5b, if_pos c15, hjc, if_neg (by rw [c29]; decide)]
      · refine lv_iconst (v := nI 0) hx hb dX4_refusalOfSmith_32 (by decide) ?_
        refine lv_goto (tgt := 38) hx hb dX4_refusalOfSmith_33 (by decide) ?_
        refine hret 38 _ (nI 0) dX4_refusalOfSmith_38 ?_
        unfold krefS
        rw [if_pos c5b, if_pos c15, hjc, if_pos c29]
    · refine lv_bipush (v := (-2)) hx hb dX4_refusalOfSmith_18 (by decide) ?_
      refine hret 20 _ (-2) dX4_refusalOfSmith_20 ?_
      unfold krefS
      rw [if_pos c5b, if_neg (by rw [c15]; decide)]
  · refine lv_iconst (v := (-1)) hx hb dX4_refusalOfSmith_8 (by decide) ?_
    refine hret 9 _ (-1) dX4_refusalOfSmith_9 ?_
    unfold krefS
    rw [if_neg (by rw [c5]; decide)]

set_option maxHeartbeats 800000 in
set_option maxRecDepth 100000 in
theorem kX4_areReadingsSo {zl : Launch} {dC : Nat → ClassId} {dI : Nat → Nat → Nat} {cI cJ cZ cS : ClassId} (aX : Nat) (aSh : Nat) (aTe : Nat) (aRe : Nat) (aRF : Nat) (aTa : Nat) (aFD : Nat) (aPe : Nat) (aDr : Nat) (lw : Nat) (hm : Nat) (fo : Int64) (tr : Int32) (fa : Nat) (aHe : Nat) (fHe : Nat → Int64) (aRp : Nat) (aRt : Nat) (aRd : Nat) (nr : Nat) (fRp : Nat → Int32) (fRt : Nat → Int32) (fRd : Nat → Int32) (fRF : Nat → Int32) (H : Nat → Nat → Nat → Prop) (fg : Nat → Bool) (np : Nat) (rp : Nat → Nat) (rt : Nat → Nat) (rd : Nat → Nat) (rh : Nat → Bool) (hT : talked H fHe) (hu : upH H) (hfg : ∀ d, d < 60 → bl fo d = fg d) (hra : readA np nr rp rt rd rh fRp fRt fRd fRF) (hnp : np ≤ 6) (hlw : lw ≤ 4) : Met zl yX4_areReadingsSo wsX4_areReadingsSo ({ frames := 4, cells := 0, slots := 0, locals := 91 } : Room) (va_Pc [.ref aX] (rPre (dC, dI) (kT cI cJ cZ cS) [(aX, .inr (4, [.ref aSh, .ref aTe, .ref aRe, .ref aRF, .ref aTa, .ref aFD, .ref aPe, .ref aDr, .int (nI lw), .int (nI hm), .long fo, .int tr, .int (nI fa)])), (aTa, .inr (3, [.ref aHe])), (aHe, .inl (cJ, 360, .inr (.inl fHe))), (aRe, .inr (0, [.ref aRp, .ref aRt, .ref aRd, .int (nI 6), .int (nI nr)])), (aRp, .inl (cI, 8, .inl fRp)), (aRt, .inl (cI, 8, .inl fRt)), (aRd, .inl (cI, 8, .inl fRd)), (aRF, .inl (cZ, 6, .inl fRF))])) (vp_Si (fun r : Int32 => r = kb (allN (rdP H lw fg rp rt rd rh) nr))) 0 0 (fun _ => False) := by
  refine kstartR_z (cc := cX4_areReadingsSo) (maxL := 2) rfl rfl (Nat.le_of_ble_eq_true rfl) ?_
  intro zp ze zs zm zb zt zc za zQ hx hb hml hts hown hN hK hP hret ls hl
  have hl : lv_has ls 2 [(0, .ref aX)] := hl
  have h8 := hra.1
  have hinX0 : ∀ w ∈ wsX00, w ∈ wsX4_areReadingsSo := fun _ h => List.mem_cons_of_mem _ (List.mem_append_left _ (List.mem_append_right _ h))
  have hinX4 : ∀ w ∈ wsX40, w ∈ wsX4_areReadingsSo := fun _ h => List.mem_cons_of_mem _ (List.mem_append_left _ (List.mem_append_left _ (List.mem_append_right _ h)))
  have lk182 := hts (.fieldLink RX4 182 "IronRumours$Entries" "many" "I") (List.mem_of_getElem? (i := 2) rfl)
  have lk264 := hts (.fieldLink RX4 264 "IronRumours$Entries" "person" "[I") (List.mem_of_getElem? (i := 3) rfl)
  have lk267 := hts (.fieldLink RX4 267 "IronRumours$Entries" "thing" "[I") (List.mem_of_getElem? (i := 4) rfl)
  have lk270 := hts (.fieldLink RX4 270 "IronRumours$Entries" "day" "[I") (List.mem_of_getElem? (i := 5) rfl)
  have lk26 := hts (.fieldLink RX4 26 "IronRumours" "readings" "LIronRumours$Entries;") (List.mem_of_getElem? (i := 1) rfl)
  have lk29 := hts (.fieldLink RX4 29 "IronRumours" "readAsForged" "[Z") (List.mem_of_getElem? (i := 6) rfl)
  refine lv_iconst (v := nI 0) hx hb dX4_areReadingsSo_0 (by decide) ?_
  refine lv_istore_n (lv' := [(1, .int (nI 0)), (0, .ref aX)]) hx hb dX4_areReadingsSo_1 rfl hl (by decide) rfl (fun ls hl => ?_)
  have loop2 : ∀ (n2 : Nat) (k : Nat), (k ≤ nr) → (allN (rdP H lw fg rp rt rd rh) k = true) → (nr - k < n2) → ∀ (ls : Array Slot), lv_has ls 2 [(0, .ref aX), (1, .int (nI k))] → W zp zl ze ({ frames := 4, cells := 0, slots := 0, locals := 91 } : Room) zs zm za zb zt zc zs.heap [] 0 0 zQ (F0 zm 2 ls []) := by
    intro n2
    induction n2 with
    | zero => intro k hk hf hme; exact absurd hme (Nat.not_lt_zero _)
    | succ n2 ih2 =>
      intro k hk hf hme ls hl
      refine lv_iload_n hx hb dX4_areReadingsSo_2 rfl (lv_at hl 1 rfl) ?_
      refine lv_aload_n hx hb dX4_areReadingsSo_3 rfl (lv_at hl 0 rfl) ?_
      refine va_get (D := (dC, dI)) (ci := 4) (v := .ref aRe) (C := RX4) (T := TX4) (N := 13) hx hb hts hinX4 hown hK hP 0 rfl rfl 2 (by decide) lk26 (fun _ h9 => h9) rfl dX4_areReadingsSo_4 ?_
      refine va_get (D := (dC, dI)) (ci := 0) (v := .int (nI nr)) (C := RX0) (T := TX0) (N := 5) hx hb hts hinX0 hown hK hP 3 rfl rfl 4 (by decide) lk182 (fun _ h9 => h9) rfl dX4_areReadingsSo_7 ?_
      refine k_icmp_ge (tgt := 61) hx hb dX4_areReadingsSo_10 (by decide) (by omega) (by omega) (fun c10 => ?_) (fun c10 => ?_)
      · refine lv_iconst (v := nI 1) hx hb dX4_areReadingsSo_61 (by decide) ?_
        refine k_cast (y := kb true) (rfl) ?_
        refine hret 62 _ true dX4_areReadingsSo_62 ?_
        have e : k = nr := by omega
        subst e
        rw [hf]
      · have hrk := hra.2 k c10
        refine lv_aload_n hx hb dX4_areReadingsSo_13 rfl (lv_at hl 0 rfl) ?_
        refine lv_aload_n hx hb dX4_areReadingsSo_14 rfl (lv_at hl 0 rfl) ?_
        refine va_get (D := (dC, dI)) (ci := 4) (v := .ref aRe) (C := RX4) (T := TX4) (N := 13) hx hb hts hinX4 hown hK hP 0 rfl rfl 2 (by decide) lk26 (fun _ h9 => h9) rfl dX4_areReadingsSo_15 ?_
        refine va_get (D := (dC, dI)) (ci := 0) (v := .ref aRp) (C := RX0) (T := TX0) (N := 5) hx hb hts hinX0 hown hK hP 3 rfl rfl 0 (by decide) lk264 (fun _ h9 => h9) rfl dX4_areReadingsSo_18 ?_
        refine lv_iload_n hx hb dX4_areReadingsSo_21 rfl (lv_at hl 1 rfl) ?_
        refine k_iald hx hb hK hP 4 0 rfl rfl (n := 8) (v := nI (rp k)) (by omega) (by decide) (hrk.1.1) dX4_areReadingsSo_22 ?_
        refine lv_aload_n hx hb dX4_areReadingsSo_23 rfl (lv_at hl 0 rfl) ?_
        refine va_get (D := (dC, dI)) (ci := 4) (v := .ref aRe) (C := RX4) (T := TX4) (N := 13) hx hb hts hinX4 hown hK hP 0 rfl rfl 2 (by decide) lk26 (fun _ h9 => h9) rfl dX4_areReadingsSo_24 ?_
        refine va_get (D := (dC, dI)) (ci := 0) (v := .ref aRt) (C := RX0) (T := TX0) (N := 5) hx hb hts hinX0 hown hK hP 3 rfl rfl 1 (by decide) lk267 (fun _ h9 => h9) rfl dX4_areReadingsSo_27 ?_
        refine lv_iload_n hx hb dX4_areReadingsSo_30 rfl (lv_at hl 1 rfl) ?_
        refine k_iald hx hb hK hP 5 0 rfl rfl (n := 8) (v := nI (rt k)) (by omega) (by decide) (hrk.2.1.1) dX4_areReadingsSo_31 ?_
        refine lv_aload_n hx hb dX4_areReadingsSo_32 rfl (lv_at hl 0 rfl) ?_
        refine va_get (D := (dC, dI)) (ci := 4) (v := .ref aRe) (C := RX4) (T := TX4) (N := 13) hx hb hts hinX4 hown hK hP 0 rfl rfl 2 (by decide) lk26 (fun _ h9 => h9) rfl dX4_areReadingsSo_33 ?_
        refine va_get (D := (dC, dI)) (ci := 0) (v := .ref aRd) (C := RX0) (T := TX0) (N := 5) hx hb hts hinX0 hown hK hP 3 rfl rfl 2 (by decide) lk270 (fun _ h9 => h9) rfl dX4_areReadingsSo_36 ?_
        refine lv_iload_n hx hb dX4_areReadingsSo_39 rfl (lv_at hl 1 rfl) ?_
        refine k_iald hx hb hK hP 6 0 rfl rfl (n := 8) (v := nI (rd k)) (by omega) (by decide) (hrk.2.2.1.1) dX4_areReadingsSo_40 ?_
        refine rc_i (va_runV (As := [.int (nI (rp k)), .int (nI (rt k)), .int (nI (rd k))]) (rest := []) ⟨hx, hb, hml, hown, hts⟩ (kX4_hasForged aX aSh aTe aRe aRF aTa aFD aPe aDr lw hm fo tr fa aHe fHe H fg (rp k) (rt k) (rd k) hT hu (by assumption) (by omega) (by omega) hlw (by omega)) (cwV 3 hts gX4_areReadingsSo_X4_hasForged rfl rfl rfl hvX4_hasForged ⟨Nat.le_of_ble_eq_true rfl, Nat.le_of_ble_eq_true rfl⟩) (rpreV hN (q := (RX4, TX4, 13)) (ci := 4) hK (hP.sub [0, 1, 2] rfl) 0 rfl rfl) rfl rfl hl.1 rfl (lv_room (Nat.le_of_ble_eq_true rfl)) dX4_areReadingsSo_41 ⟨Nat.zero_le _, Nat.zero_le _⟩) (fun r_1 hr_1 => ?_)
        have hr_1 : r_1 = kb (decide (fday H lw fg (rp k) (rt k) ≤ (rd k))) := hr_1
        rw [hr_1]
        refine lv_aload_n hx hb dX4_areReadingsSo_44 rfl (lv_at hl 0 rfl) ?_
        refine va_get (D := (dC, dI)) (ci := 4) (v := .ref aRF) (C := RX4) (T := TX4) (N := 13) hx hb hts hinX4 hown hK hP 0 rfl rfl 3 (by decide) lk29 (fun _ h9 => h9) rfl dX4_areReadingsSo_45 ?_
        refine lv_iload_n hx hb dX4_areReadingsSo_48 rfl (lv_at hl 1 rfl) ?_
        refine k_zald hx hb hK hP 7 2 rfl rfl (n := 6) (v := kb (rh k)) (by omega) (by decide) (hrk.2.2.2) dX4_areReadingsSo_49 ?_
        refine k_icmpb_eq (tgt := 55) hx hb dX4_areReadingsSo_50 (by decide) (fun c50 => ?_) (fun c50 => ?_)
        · refine lv_iinc (v := nI (k + 1)) (lv' := [(1, .int (nI (k + 1))), (0, .ref aX)]) hx hb dX4_areReadingsSo_55 hl (k := 1) rfl (nI_add _ _) (by decide) rfl (fun ls hl => ?_)
          refine lv_goto (tgt := 2) hx hb dX4_areReadingsSo_58 (by decide) ?_
          exact ih2 (k + 1) (by omega) (by exact allN_s hf (rdP_t c50)) (by omega) _ (lv_sub hl [1, 0] rfl)
        · refine lv_iconst (v := nI 0) hx hb dX4_areReadingsSo_53 (by decide) ?_
          refine k_cast (y := kb false) (rfl) ?_
          refine hret 54 _ false dX4_areReadingsSo_54 ?_
          have h7 := rdP_f c50
          exact congrArg kb (allN_f c10 h7).symm
  exact loop2 ((nr - 0) + 1) 0 (by omega) (by rfl) (by exact Nat.lt_succ_self _) _ (lv_sub hl [1, 0] rfl)

set_option maxHeartbeats 800000 in
set_option maxRecDepth 100000 in
theorem kX4_keepForgeDays {zl : Launch} {dC : Nat → ClassId} {dI : Nat → Nat → Nat} {cI cJ cZ cS : ClassId} {sz : Nat} (aX : Nat) (aSh : Nat) (aTe : Nat) (aRe : Nat) (aRF : Nat) (aTa : Nat) (aFD : Nat) (aPe : Nat) (aDr : Nat) (lw : Nat) (hm : Nat) (fo : Int64) (tr : Int32) (fa : Nat) (aHe : Nat) (fHe : Nat → Int64) (aKi : Nat) (aFr : Nat) (aTo : Nat) (aDa : Nat) (np : Nat) (sm : Nat) (nw : Nat) (fFD : Nat → Int32) (H : Nat → Nat → Nat → Prop) (fg : Nat → Bool) (hT : talked H fHe) (hu : upH H) (hfg : ∀ d, d < 60 → bl fo d = fg d) (hnp : np ≤ 6) (hlw : lw ≤ 4) : Met zl yX4_keepForgeDays wsX4_keepForgeDays ({ frames := 3, cells := 0, slots := 0, locals := 67 } : Room) (va_Pc [.ref aX] (kPre (dC, dI) (kT cI cJ cZ cS) [(aX, .inr (4, [.ref aSh, .ref aTe, .ref aRe, .ref aRF, .ref aTa, .ref aFD, .ref aPe, .ref aDr, .int (nI lw), .int (nI hm), .long fo, .int tr, .int (nI fa)])), (aTa, .inr (3, [.ref aHe])), (aHe, .inl (cJ, 360, .inr (.inl fHe))), (aPe, .inr (1, [.ref aKi, .ref aFr, .ref aTo, .ref aDa, .int (nI np), .int (nI sm), .int (nI nw)])), (aFD, .inl (cI, 24, .inl fFD))] sz)) (va_Qv (fun (f1 : (Nat → Int32)) => ∀ i, i < 4 * np → f1 i = kNone (fday H lw fg (i / 4) (i % 4))) (fun (f1 : (Nat → Int32)) (zU : State) => va_P (dC, dI) vwCl [(aX, .inr (4, [.ref aSh, .ref aTe, .ref aRe, .ref aRF, .ref aTa, .ref aFD, .ref aPe, .ref aDr, .int (nI lw), .int (nI hm), .long fo, .int tr, .int (nI fa)])), (aTa, .inr (3, [.ref aHe])), (aHe, .inl (cJ, 360, .inr (.inl fHe))), (aPe, .inr (1, [.ref aKi, .ref aFr, .ref aTo, .ref aDa, .int (nI np), .int (nI sm), .int (nI nw)])), (aFD, .inl (cI, 24, .inl f1))] zU.heap) (va_A [(aX, .inr (4, [.ref aSh, .ref aTe, .ref aRe, .ref aRF, .ref aTa, .ref aFD, .ref aPe, .ref aDr, .int (nI lw), .int (nI hm), .long fo, .int tr, .int (nI fa)])), (aTa, .inr (3, [.ref aHe])), (aHe, .inl (cJ, 360, .inr (.inl fHe))), (aPe, .inr (1, [.ref aKi, .ref aFr, .ref aTo, .ref aDa, .int (nI np), .int (nI sm), .int (nI nw)])), (aFD, .inl (cI, 24, .inl fFD))] sz)) 0 0 (va_A [(aX, .inr (4, [.ref aSh, .ref aTe, .ref aRe, .ref aRF, .ref aTa, .ref aFD, .ref aPe, .ref aDr, .int (nI lw), .int (nI hm), .long fo, .int tr, .int (nI fa)])), (aTa, .inr (3, [.ref aHe])), (aHe, .inl (cJ, 360, .inr (.inl fHe))), (aPe, .inr (1, [.ref aKi, .ref aFr, .ref aTo, .ref aDa, .int (nI np), .int (nI sm), .int (nI nw)])), (aFD, .inl (cI, 24, .inl fFD))] sz) := by
  refine kstartW_v (cc := cX4_keepForgeDays) (maxL := 3) rfl rfl (Nat.le_of_ble_eq_true rfl) ?_
  intro zp ze zs zm zb zt zc za zQ zA hx hb hml hts hown hN hK hP hD hS hA hin hret ls hl
  have hl : lv_has ls 3 [(0, .ref aX)] := hl
  have hinX1 : ∀ w ∈ wsX10, w ∈ wsX4_keepForgeDays := fun _ h => List.mem_cons_of_mem _ (List.mem_append_left _ (List.mem_append_right _ h))
  have hinX4 : ∀ w ∈ wsX40, w ∈ wsX4_keepForgeDays := fun _ h => List.mem_cons_of_mem _ (List.mem_append_left _ (List.mem_append_left _ (List.mem_append_right _ h)))
  have lk95 := hts (.fieldLink RX4 95 "IronRumours$People" "persons" "I") (List.mem_of_getElem? (i := 2) rfl)
  have lk40 := hts (.fieldLink RX4 40 "IronRumours" "forgeDays" "[I") (List.mem_of_getElem? (i := 3) rfl)
  have lk47 := hts (.fieldLink RX4 47 "IronRumours" "people" "LIronRumours$People;") (List.mem_of_getElem? (i := 1) rfl)
  refine lv_iconst (v := nI 0) hx hb dX4_keepForgeDays_0 (by decide) ?_
  refine lv_istore_n (lv' := [(1, .int (nI 0)), (0, .ref aX)]) hx hb dX4_keepForgeDays_1 rfl hl (by decide) rfl (fun ls hl => ?_)
  have loop2 : ∀ (n2 : Nat) (q : Nat) (g : Nat → Int32), (q ≤ np) → (∀ i, i < 4 * q → g i = kNone (fday H lw fg (i / 4) (i % 4))) → (np - q < n2) → ∀ (H_1 : Heap) (locs : List Loc), va_P (dC, dI) vwCl [(aX, .inr (4, [.ref aSh, .ref aTe, .ref aRe, .ref aRF, .ref aTa, .ref aFD, .ref aPe, .ref aDr, .int (nI lw), .int (nI hm), .long fo, .int tr, .int (nI fa)])), (aTa, .inr (3, [.ref aHe])), (aHe, .inl (cJ, 360, .inr (.inl fHe))), (aPe, .inr (1, [.ref aKi, .ref aFr, .ref aTo, .ref aDa, .int (nI np), .int (nI sm), .int (nI nw)])), (aFD, .inl (cI, 24, .inl g))] H_1 → va_D zA [(aX, .inr (4, [.ref aSh, .ref aTe, .ref aRe, .ref aRF, .ref aTa, .ref aFD, .ref aPe, .ref aDr, .int (nI lw), .int (nI hm), .long fo, .int tr, .int (nI fa)])), (aTa, .inr (3, [.ref aHe])), (aHe, .inl (cJ, 360, .inr (.inl fHe))), (aPe, .inr (1, [.ref aKi, .ref aFr, .ref aTo, .ref aDa, .int (nI np), .int (nI sm), .int (nI nw)])), (aFD, .inl (cI, 24, .inl g))] → va_S zA zs.heap H_1 locs → ∀ (ls : Array Slot), lv_has ls 3 [(0, .ref aX), (1, .int (nI q))] → W zp zl ze ({ frames := 3, cells := 0, slots := 0, locals := 67 } : Room) zs zm za zb zt zc H_1 locs 0 0 zQ (F0 zm 2 ls []) := by
    intro n2
    induction n2 with
    | zero => intro q g hq hg hme; exact absurd hme (Nat.not_lt_zero _)
    | succ n2 ih2 =>
      intro q g hq hg hme H_1 locs hP hD hS ls hl
      refine lv_iload_n hx hb dX4_keepForgeDays_2 rfl (lv_at hl 1 rfl) ?_
      refine lv_aload_n hx hb dX4_keepForgeDays_3 rfl (lv_at hl 0 rfl) ?_
      refine va_get (D := (dC, dI)) (ci := 4) (v := .ref aPe) (C := RX4) (T := TX4) (N := 13) hx hb hts hinX4 hown hK hP 0 rfl rfl 6 (by decide) lk47 (fun _ h9 => h9) rfl dX4_keepForgeDays_4 ?_
      refine va_get (D := (dC, dI)) (ci := 1) (v := .int (nI np)) (C := RX1) (T := TX1) (N := 7) hx hb hts hinX1 hown hK hP 3 rfl rfl 4 (by decide) lk95 (fun _ h9 => h9) rfl dX4_keepForgeDays_7 ?_
      refine k_icmp_ge (tgt := 48) hx hb dX4_keepForgeDays_10 (by decide) (by omega) (by omega) (fun c10 => ?_) (fun c10 => ?_)
      · refine hret 48 _ g _ _ dX4_keepForgeDays_48 hS (fun t ht _ => by rw [ht]; exact hP) ?_
        intro i hi
        exact hg i (by omega)
      · refine lv_iconst (v := nI 0) hx hb dX4_keepForgeDays_13 (by decide) ?_
        refine lv_istore_n (lv' := [(2, .int (nI 0)), (0, .ref aX), (1, .int (nI q))]) hx hb dX4_keepForgeDays_14 rfl hl (by decide) rfl (fun ls hl => ?_)
        have loop15 : ∀ (n15 : Nat) (t : Nat) (g2 : Nat → Int32), (t ≤ 4) → (∀ i, i < 4 * q + t → g2 i = kNone (fday H lw fg (i / 4) (i % 4))) → (4 - t < n15) → ∀ (H_2 : Heap) (locs : List Loc), va_P (dC, dI) vwCl [(aX, .inr (4, [.ref aSh, .ref aTe, .ref aRe, .ref aRF, .ref aTa, .ref aFD, .ref aPe, .ref aDr, .int (nI lw), .int (nI hm), .long fo, .int tr, .int (nI fa)])), (aTa, .inr (3, [.ref aHe])), (aHe, .inl (cJ, 360, .inr (.inl fHe))), (aPe, .inr (1, [.ref aKi, .ref aFr, .ref aTo, .ref aDa, .int (nI np), .int (nI sm), .int (nI nw)])), (aFD, .inl (cI, 24, .inl g2))] H_2 → va_D zA [(aX, .inr (4, [.ref aSh, .ref aTe, .ref aRe, .ref aRF, .ref aTa, .ref aFD, .ref aPe, .ref aDr, .int (nI lw), .int (nI hm), .long fo, .int tr, .int (nI fa)])), (aTa, .inr (3, [.ref aHe])), (aHe, .inl (cJ, 360, .inr (.inl fHe))), (aPe, .inr (1, [.ref aKi, .ref aFr, .ref aTo, .ref aDa, .int (nI np), .int (nI sm), .int (nI nw)])), (aFD, .inl (cI, 24, .inl g2))] → va_S zA zs.heap H_2 locs → ∀ (ls : Array Slot), lv_has ls 3 [(0, .ref aX), (1, .int (nI q)), (2, .int (nI t))] → W zp zl ze ({ frames := 3, cells := 0, slots := 0, locals := 67 } : Room) zs zm za zb zt zc H_2 locs 0 0 zQ (F0 zm 15 ls []) := by
          intro n15
          induction n15 with
          | zero => intro t g2 ht hg2 hme; exact absurd hme (Nat.not_lt_zero _)
          | succ n15 ih15 =>
            intro t g2 ht hg2 hme H_2 locs hP hD hS ls hl
            refine lv_iload_n hx hb dX4_keepForgeDays_15 rfl (lv_at hl 2 rfl) ?_
            refine lv_iconst (v := nI 4) hx hb dX4_keepForgeDays_16 (by decide) ?_
            refine k_icmp_ge (tgt := 42) hx hb dX4_keepForgeDays_17 (by decide) (by omega) (by omega) (fun c17 => ?_) (fun c17 => ?_)
            · refine lv_iinc (v := nI (q + 1)) (lv' := [(1, .int (nI (q + 1))), (0, .ref aX), (2, .int (nI t))]) hx hb dX4_keepForgeDays_42 hl (k := 1) rfl (nI_add _ _) (by decide) rfl (fun ls hl => ?_)
              refine lv_goto (tgt := 2) hx hb dX4_keepForgeDays_45 (by decide) ?_
              exact ih2 (q + 1) g2 (by omega) (by intro i hi; exact hg2 i (by omega)) (by omega) _ _ hP hD hS _ (lv_sub hl [1, 0] rfl)
            · refine lv_aload_n hx hb dX4_keepForgeDays_20 rfl (lv_at hl 0 rfl) ?_
              refine va_get (D := (dC, dI)) (ci := 4) (v := .ref aFD) (C := RX4) (T := TX4) (N := 13) hx hb hts hinX4 hown hK hP 0 rfl rfl 5 (by decide) lk40 (fun _ h9 => h9) rfl dX4_keepForgeDays_21 ?_
              refine lv_iload_n hx hb dX4_keepForgeDays_24 rfl (lv_at hl 1 rfl) ?_
              refine lv_iconst (v := nI 4) hx hb dX4_keepForgeDays_25 (by decide) ?_
              refine k_imul hx hb dX4_keepForgeDays_26 ?_
              refine lv_iload_n hx hb dX4_keepForgeDays_27 rfl (lv_at hl 2 rfl) ?_
              refine k_iadd hx hb dX4_keepForgeDays_28 ?_
              refine lv_aload_n hx hb dX4_keepForgeDays_29 rfl (lv_at hl 0 rfl) ?_
              refine lv_iload_n hx hb dX4_keepForgeDays_30 rfl (lv_at hl 1 rfl) ?_
              refine lv_iload_n hx hb dX4_keepForgeDays_31 rfl (lv_at hl 2 rfl) ?_
              refine rc_i (va_runV (As := [.int (nI q), .int (nI t)]) (rest := [.int (nI ((q * 4) + t)), .ref aFD]) ⟨hx, hb, hml, hown, hts⟩ (kX4_forgeDay aX aSh aTe aRe aRF aTa aFD aPe aDr lw hm fo tr fa aHe fHe H fg q t hT hu hfg (by omega) (by omega) hlw) (cwV 2 hts gX4_keepForgeDays_X4_forgeDay rfl rfl rfl hvX4_forgeDay ⟨Nat.le_of_ble_eq_true rfl, Nat.le_of_ble_eq_true rfl⟩) (rpreV hN (q := (RX4, TX4, 13)) (ci := 4) hK (hP.sub [0, 1, 2] rfl) 0 rfl rfl) rfl rfl hl.1 rfl (lv_room (Nat.le_of_ble_eq_true rfl)) dX4_keepForgeDays_32 ⟨Nat.zero_le _, Nat.zero_le _⟩) (fun r_3 hr_3 => ?_)
              have hr_3 : r_3 = kNone (fday H lw fg q t) := hr_3
              rw [hr_3]
              refine k_iast hx hb hK hP hD hS 4 0 rfl rfl (n := 24) (by omega) (by decide) dX4_keepForgeDays_35 (fun f_4 H_5 locs ef_4 hP hD hS => ?_)
              have hP : va_P (dC, dI) vwCl [(aX, .inr (4, [.ref aSh, .ref aTe, .ref aRe, .ref aRF, .ref aTa, .ref aFD, .ref aPe, .ref aDr, .int (nI lw), .int (nI hm), .long fo, .int tr, .int (nI fa)])), (aTa, .inr (3, [.ref aHe])), (aHe, .inl (cJ, 360, .inr (.inl fHe))), (aPe, .inr (1, [.ref aKi, .ref aFr, .ref aTo, .ref aDa, .int (nI np), .int (nI sm), .int (nI nw)])), (aFD, .inl (cI, 24, .inl f_4))] H_5 := hP
              have hD : va_D zA [(aX, .inr (4, [.ref aSh, .ref aTe, .ref aRe, .ref aRF, .ref aTa, .ref aFD, .ref aPe, .ref aDr, .int (nI lw), .int (nI hm), .long fo, .int tr, .int (nI fa)])), (aTa, .inr (3, [.ref aHe])), (aHe, .inl (cJ, 360, .inr (.inl fHe))), (aPe, .inr (1, [.ref aKi, .ref aFr, .ref aTo, .ref aDa, .int (nI np), .int (nI sm), .int (nI nw)])), (aFD, .inl (cI, 24, .inl f_4))] := hD
              refine lv_iinc (v := nI (t + 1)) (lv' := [(2, .int (nI (t + 1))), (0, .ref aX), (1, .int (nI q))]) hx hb dX4_keepForgeDays_36 hl (k := 2) rfl (nI_add _ _) (by decide) rfl (fun ls hl => ?_)
              refine lv_goto (tgt := 15) hx hb dX4_keepForgeDays_39 (by decide) ?_
              exact ih15 (t + 1) f_4 (by omega) (by rw [ef_4]; exact fd_put hg2 (by omega)) (by omega) _ _ hP hD hS _ (lv_sub hl [1, 2, 0] rfl)
        exact loop15 ((4 - 0) + 1) 0 g (by omega) (by intro i hi; exact hg i (by omega)) (by exact Nat.lt_succ_self _) _ _ hP hD hS _ (lv_sub hl [1, 2, 0] rfl)
  exact loop2 ((np - 0) + 1) 0 fFD (by omega) (by intro i hi; omega) (by exact Nat.lt_succ_self _) _ _ hP hD hS _ (lv_sub hl [1, 0] rfl)

set_option maxHeartbeats 800000 in
set_option maxRecDepth 100000 in
theorem kX4_areForgeDaysKept {zl : Launch} {dC : Nat → ClassId} {dI : Nat → Nat → Nat} {cI cJ cZ cS : ClassId} (aX : Nat) (aSh : Nat) (aTe : Nat) (aRe : Nat) (aRF : Nat) (aTa : Nat) (aFD : Nat) (aPe : Nat) (aDr : Nat) (lw : Nat) (hm : Nat) (fo : Int64) (tr : Int32) (fa : Nat) (aHe : Nat) (fHe : Nat → Int64) (aKi : Nat) (aFr : Nat) (aTo : Nat) (aDa : Nat) (np : Nat) (sm : Nat) (nw : Nat) (fFD : Nat → Int32) (H : Nat → Nat → Nat → Prop) (fg : Nat → Bool) (fd0 : Nat → Nat → Nat) (hT : talked H fHe) (hu : upH H) (hfg : ∀ d, d < 60 → bl fo d = fg d) (hnp : np ≤ 6) (hlw : lw ≤ 4) (hsm : sm < 64) (hfd : ∀ i, i < 4 * np → fFD i = kNone (fd0 (i / 4) (i % 4)) ∧ (fd0 (i / 4) (i % 4) = 999 ∨ fd0 (i / 4) (i % 4) < 60)) : Met zl yX4_areForgeDaysKept wsX4_areForgeDaysKept ({ frames := 3, cells := 0, slots := 0, locals := 67 } : Room) (va_Pc [.ref aX] (rPre (dC, dI) (kT cI cJ cZ cS) [(aX, .inr (4, [.ref aSh, .ref aTe, .ref aRe, .ref aRF, .ref aTa, .ref aFD, .ref aPe, .ref aDr, .int (nI lw), .int (nI hm), .long fo, .int tr, .int (nI fa)])), (aTa, .inr (3, [.ref aHe])), (aHe, .inl (cJ, 360, .inr (.inl fHe))), (aPe, .inr (1, [.ref aKi, .ref aFr, .ref aTo, .ref aDa, .int (nI np), .int (nI sm), .int (nI nw)])), (aFD, .inl (cI, 24, .inl fFD))])) (vp_Si (fun r : Int32 => r = kb (allN (keptP sm fd0 (fday H lw fg)) (4 * np)))) 0 0 (fun _ => False) := by
  refine kstartR_z (cc := cX4_areForgeDaysKept) (maxL := 3) rfl rfl (Nat.le_of_ble_eq_true rfl) ?_
  intro zp ze zs zm zb zt zc za zQ hx hb hml hts hown hN hK hP hret ls hl
  have hl : lv_has ls 3 [(0, .ref aX)] := hl
  have hinX1 : ∀ w ∈ wsX10, w ∈ wsX4_areForgeDaysKept := fun _ h => List.mem_cons_of_mem _ (List.mem_append_left _ (List.mem_append_right _ h))
  have hinX4 : ∀ w ∈ wsX40, w ∈ wsX4_areForgeDaysKept := fun _ h => List.mem_cons_of_mem _ (List.mem_append_left _ (List.mem_append_left _ (List.mem_append_right _ h)))
  have lk95 := hts (.fieldLink RX4 95 "IronRumours$People" "persons" "I") (List.mem_of_getElem? (i := 2) rfl)
  have lk40 := hts (.fieldLink RX4 40 "IronRumours" "forgeDays" "[I") (List.mem_of_getElem? (i := 3) rfl)
  have lk47 := hts (.fieldLink RX4 47 "IronRumours" "people" "LIronRumours$People;") (List.mem_of_getElem? (i := 1) rfl)
  refine lv_iconst (v := nI 0) hx hb dX4_areForgeDaysKept_0 (by decide) ?_
  refine lv_istore_n (lv' := [(1, .int (nI 0)), (0, .ref aX)]) hx hb dX4_areForgeDaysKept_1 rfl hl (by decide) rfl (fun ls hl => ?_)
  have loop2 : ∀ (n2 : Nat) (q : Nat), (q ≤ np) → (allN (keptP sm fd0 (fday H lw fg)) (4 * q) = true) → (np - q < n2) → ∀ (ls : Array Slot), lv_has ls 3 [(0, .ref aX), (1, .int (nI q))] → W zp zl ze ({ frames := 3, cells := 0, slots := 0, locals := 67 } : Room) zs zm za zb zt zc zs.heap [] 0 0 zQ (F0 zm 2 ls []) := by
    intro n2
    induction n2 with
    | zero => intro q hq hg hme; exact absurd hme (Nat.not_lt_zero _)
    | succ n2 ih2 =>
      intro q hq hg hme ls hl
      refine lv_iload_n hx hb dX4_areForgeDaysKept_2 rfl (lv_at hl 1 rfl) ?_
      refine lv_aload_n hx hb dX4_areForgeDaysKept_3 rfl (lv_at hl 0 rfl) ?_
      refine va_get (D := (dC, dI)) (ci := 4) (v := .ref aPe) (C := RX4) (T := TX4) (N := 13) hx hb hts hinX4 hown hK hP 0 rfl rfl 6 (by decide) lk47 (fun _ h9 => h9) rfl dX4_areForgeDaysKept_4 ?_
      refine va_get (D := (dC, dI)) (ci := 1) (v := .int (nI np)) (C := RX1) (T := TX1) (N := 7) hx hb hts hinX1 hown hK hP 3 rfl rfl 4 (by decide) lk95 (fun _ h9 => h9) rfl dX4_areForgeDaysKept_7 ?_
      refine k_icmp_ge (tgt := 64) hx hb dX4_areForgeDaysKept_10 (by decide) (by omega) (by omega) (fun c10 => ?_) (fun c10 => ?_)
      · refine lv_iconst (v := nI 1) hx hb dX4_areForgeDaysKept_64 (by decide) ?_
        refine k_cast (y := kb true) (rfl) ?_
        refine hret 65 _ true dX4_areForgeDaysKept_65 ?_
        have e : q = np := by omega
        subst e
        rw [hg]
      · refine lv_iconst (v := nI 0) hx hb dX4_areForgeDaysKept_13 (by decide) ?_
        refine lv_istore_n (lv' := [(2, .int (nI 0)), (0, .ref aX), (1, .int (nI q))]) hx hb dX4_areForgeDaysKept_14 rfl hl (by decide) rfl (fun ls hl => ?_)
        have loop15 : ∀ (n15 : Nat) (t : Nat), (t ≤ 4) → (sm.testBit q = true ∨ t = 0) → (allN (keptP sm fd0 (fday H lw fg)) (4 * q + t) = true) → (4 - t < n15) → ∀ (ls : Array Slot), lv_has ls 3 [(0, .ref aX), (1, .int (nI q)), (2, .int (nI t))] → W zp zl ze ({ frames := 3, cells := 0, slots := 0, locals := 67 } : Room) zs zm za zb zt zc zs.heap [] 0 0 zQ (F0 zm 15 ls []) := by
          intro n15
          induction n15 with
          | zero => intro t ht hs hg2 hme; exact absurd hme (Nat.not_lt_zero _)
          | succ n15 ih15 =>
            intro t ht hs hg2 hme ls hl
            refine lv_aload_n hx hb dX4_areForgeDaysKept_15 rfl (lv_at hl 0 rfl) ?_
            refine va_get (D := (dC, dI)) (ci := 4) (v := .ref aPe) (C := RX4) (T := TX4) (N := 13) hx hb hts hinX4 hown hK hP 0 rfl rfl 6 (by decide) lk47 (fun _ h9 => h9) rfl dX4_areForgeDaysKept_16 ?_
            refine lv_iload_n hx hb dX4_areForgeDaysKept_19 rfl (lv_at hl 1 rfl) ?_
            refine rc_i (va_runV (As := [.int (nI q)]) (rest := []) ⟨hx, hb, hml, hown, hts⟩ (kX1_isSmith aPe aKi aFr aTo aDa np sm nw q hsm (by omega)) (cwV 1 hts gX4_areForgeDaysKept_X1_isSmith rfl rfl rfl hvX1_isSmith ⟨Nat.le_of_ble_eq_true rfl, Nat.le_of_ble_eq_true rfl⟩) (rpreV hN (q := (RX1, TX1, 7)) (ci := 1) hK (hP.sub [3] rfl) 0 rfl rfl) rfl rfl hl.1 rfl (lv_room (Nat.le_of_ble_eq_true rfl)) dX4_areForgeDaysKept_20 ⟨Nat.zero_le _, Nat.zero_le _⟩) (fun r_1 hr_1 => ?_)
            have hr_1 : r_1 = kb (sm.testBit q) := hr_1
            rw [hr_1]
            refine k_if_eqb (tgt := 58) hx hb dX4_areForgeDaysKept_23 (by decide) (fun c23 => ?_) (fun c23 => ?_)
            · refine lv_iinc (v := nI (q + 1)) (lv' := [(1, .int (nI (q + 1))), (0, .ref aX), (2, .int (nI t))]) hx hb dX4_areForgeDaysKept_58 hl (k := 1) rfl (nI_add _ _) (by decide) rfl (fun ls hl => ?_)
              refine lv_goto (tgt := 2) hx hb dX4_areForgeDaysKept_61 (by decide) ?_
              exact ih2 (q + 1) (by omega) (by exact kept_skip hs c23 hg2) (by omega) _ (lv_sub hl [1, 0] rfl)
            · refine lv_iload_n hx hb dX4_areForgeDaysKept_26 rfl (lv_at hl 2 rfl) ?_
              refine lv_iconst (v := nI 4) hx hb dX4_areForgeDaysKept_27 (by decide) ?_
              refine k_icmp_ge (tgt := 58) hx hb dX4_areForgeDaysKept_28 (by decide) (by omega) (by omega) (fun c28 => ?_) (fun c28 => ?_)
              · refine lv_iinc (v := nI (q + 1)) (lv' := [(1, .int (nI (q + 1))), (0, .ref aX), (2, .int (nI t))]) hx hb dX4_areForgeDaysKept_58 hl (k := 1) rfl (nI_add _ _) (by decide) rfl (fun ls hl => ?_)
                refine lv_goto (tgt := 2) hx hb dX4_areForgeDaysKept_61 (by decide) ?_
                exact ih2 (q + 1) (by omega) (by have e : 4 * (q + 1) = 4 * q + t := (by omega); rw [e]; exact hg2) (by omega) _ (lv_sub hl [1, 0] rfl)
              · have hfq : fFD (q * 4 + t) = kNone (fd0 q t) ∧ (fd0 q t = 999 ∨ fd0 q t < 60) := by
                  have := hfd (q * 4 + t) (by omega)
                  rwa [show (q * 4 + t) / 4 = q by omega, show (q * 4 + t) % 4 = t by omega] at this
                refine lv_aload_n hx hb dX4_areForgeDaysKept_31 rfl (lv_at hl 0 rfl) ?_
                refine va_get (D := (dC, dI)) (ci := 4) (v := .ref aFD) (C := RX4) (T := TX4) (N := 13) hx hb hts hinX4 hown hK hP 0 rfl rfl 5 (by decide) lk40 (fun _ h9 => h9) rfl dX4_areForgeDaysKept_32 ?_
                refine lv_iload_n hx hb dX4_areForgeDaysKept_35 rfl (lv_at hl 1 rfl) ?_
                refine lv_iconst (v := nI 4) hx hb dX4_areForgeDaysKept_36 (by decide) ?_
                refine k_imul hx hb dX4_areForgeDaysKept_37 ?_
                refine lv_iload_n hx hb dX4_areForgeDaysKept_38 rfl (lv_at hl 2 rfl) ?_
                refine k_iadd hx hb dX4_areForgeDaysKept_39 ?_
                refine k_iald hx hb hK hP 4 0 rfl rfl (n := 24) (v := kNone (fd0 q t)) (by omega) (by decide) (hfq.1) dX4_areForgeDaysKept_40 ?_
                refine lv_aload_n hx hb dX4_areForgeDaysKept_41 rfl (lv_at hl 0 rfl) ?_
                refine lv_iload_n hx hb dX4_areForgeDaysKept_42 rfl (lv_at hl 1 rfl) ?_
                refine lv_iload_n hx hb dX4_areForgeDaysKept_43 rfl (lv_at hl 2 rfl) ?_
                refine rc_i (va_runV (As := [.int (nI q), .int (nI t)]) (rest := [.int (kNone (fd0 q t))]) ⟨hx, hb, hml, hown, hts⟩ (kX4_forgeDay aX aSh aTe aRe aRF aTa aFD aPe aDr lw hm fo tr fa aHe fHe H fg q t hT hu hfg (by omega) (by omega) hlw) (cwV 2 hts gX4_areForgeDaysKept_X4_forgeDay rfl rfl rfl hvX4_forgeDay ⟨Nat.le_of_ble_eq_true rfl, Nat.le_of_ble_eq_true rfl⟩) (rpreV hN (q := (RX4, TX4, 13)) (ci := 4) hK (hP.sub [0, 1, 2] rfl) 0 rfl rfl) rfl rfl hl.1 rfl (lv_room (Nat.le_of_ble_eq_true rfl)) dX4_areForgeDaysKept_44 ⟨Nat.zero_le _, Nat.zero_le _⟩) (fun r_2 hr_2 => ?_)
                have hr_2 : r_2 = kNone (fday H lw fg q t) := hr_2
                rw [hr_2]
                refine lv_icmp_eq (tgt := 52) hx hb dX4_areForgeDaysKept_47 (by decide) (fun c47 => ?_) (fun c47 => ?_)
                · refine lv_iinc (v := nI (t + 1)) (lv' := [(2, .int (nI (t + 1))), (0, .ref aX), (1, .int (nI q))]) hx hb dX4_areForgeDaysKept_52 hl (k := 2) rfl (nI_add _ _) (by decide) rfl (fun ls hl => ?_)
                  refine lv_goto (tgt := 15) hx hb dX4_areForgeDaysKept_55 (by decide) ?_
                  exact ih15 (t + 1) (by omega) (by exact Or.inl c23) (by exact allN_s (n := 4 * q + t) hg2 (by rw [keptP_at c28 c23]; exact decide_eq_true ((kNone_inj hfq.2 fday_lt).mp c47))) (by omega) _ (lv_sub hl [1, 2, 0] rfl)
                · refine lv_iconst (v := nI 0) hx hb dX4_areForgeDaysKept_50 (by decide) ?_
                  refine k_cast (y := kb false) (rfl) ?_
                  refine hret 51 _ false dX4_areForgeDaysKept_51 ?_
                  rw [allN_f (k := 4 * q + t) (by omega) (by rw [keptP_at c28 c23]; exact decide_eq_false (fun z => c47 ((kNone_inj hfq.2 fday_lt).mpr z)))]
        exact loop15 ((4 - 0) + 1) 0 (by omega) (by exact Or.inr rfl) (by exact hg) (by exact Nat.lt_succ_self _) _ (lv_sub hl [1, 2, 0] rfl)
  exact loop2 ((np - 0) + 1) 0 (by omega) (by rfl) (by exact Nat.lt_succ_self _) _ (lv_sub hl [1, 0] rfl)

set_option maxHeartbeats 800000 in
set_option maxRecDepth 100000 in
theorem kX4_startTelling {zl : Launch} {dC : Nat → ClassId} {dI : Nat → Nat → Nat} {cI cJ cZ cS : ClassId} {sz : Nat} (aX : Nat) (aSh : Nat) (aTe : Nat) (aRe : Nat) (aRF : Nat) (aTa : Nat) (aFD : Nat) (aPe : Nat) (aDr : Nat) (lw : Nat) (hm : Nat) (fo : Int64) (tr : Int32) (fa : Nat) (aHe : Nat) (fHe : Nat → Int64) (aKi : Nat) (aFr : Nat) (aTo : Nat) (aDa : Nat) (np : Nat) (sm : Nat) (nw : Nat) (st : Nat) (t : Nat) (hnp : np ≤ 6) (hst : st < 64) (ht : t < 4) : Met zl yX4_startTelling wsX4_startTelling ({ frames := 2, cells := 0, slots := 0, locals := 45 } : Room) (va_Pc [.ref aX, .int (nI st), .int (nI t)] (kPre (dC, dI) (kT cI cJ cZ cS) [(aX, .inr (4, [.ref aSh, .ref aTe, .ref aRe, .ref aRF, .ref aTa, .ref aFD, .ref aPe, .ref aDr, .int (nI lw), .int (nI hm), .long fo, .int tr, .int (nI fa)])), (aTa, .inr (3, [.ref aHe])), (aHe, .inl (cJ, 360, .inr (.inl fHe))), (aPe, .inr (1, [.ref aKi, .ref aFr, .ref aTo, .ref aDa, .int (nI np), .int (nI sm), .int (nI nw)]))] sz)) (va_Qv (fun (f1 : (Nat → Int64)) => planted (setS st t np) f1) (fun (f1 : (Nat → Int64)) (zU : State) => va_P (dC, dI) vwCl [(aX, .inr (4, [.ref aSh, .ref aTe, .ref aRe, .ref aRF, .ref aTa, .ref aFD, .ref aPe, .ref aDr, .int (nI lw), .int (nI hm), .long fo, .int tr, .int (nI fa)])), (aTa, .inr (3, [.ref aHe])), (aHe, .inl (cJ, 360, .inr (.inl f1))), (aPe, .inr (1, [.ref aKi, .ref aFr, .ref aTo, .ref aDa, .int (nI np), .int (nI sm), .int (nI nw)]))] zU.heap) (va_A [(aX, .inr (4, [.ref aSh, .ref aTe, .ref aRe, .ref aRF, .ref aTa, .ref aFD, .ref aPe, .ref aDr, .int (nI lw), .int (nI hm), .long fo, .int tr, .int (nI fa)])), (aTa, .inr (3, [.ref aHe])), (aHe, .inl (cJ, 360, .inr (.inl fHe))), (aPe, .inr (1, [.ref aKi, .ref aFr, .ref aTo, .ref aDa, .int (nI np), .int (nI sm), .int (nI nw)]))] sz)) 0 0 (va_A [(aX, .inr (4, [.ref aSh, .ref aTe, .ref aRe, .ref aRF, .ref aTa, .ref aFD, .ref aPe, .ref aDr, .int (nI lw), .int (nI hm), .long fo, .int tr, .int (nI fa)])), (aTa, .inr (3, [.ref aHe])), (aHe, .inl (cJ, 360, .inr (.inl fHe))), (aPe, .inr (1, [.ref aKi, .ref aFr, .ref aTo, .ref aDa, .int (nI np), .int (nI sm), .int (nI nw)]))] sz) := by
  refine kstartW_v (cc := cX4_startTelling) (maxL := 4) rfl rfl (Nat.le_of_ble_eq_true rfl) ?_
  intro zp ze zs zm zb zt zc za zQ zA hx hb hml hts hown hN hK hP hD hS hA hin hret ls hl
  have hl : lv_has ls 4 [(0, .ref aX), (1, .int (nI st)), (2, .int (nI t))] := hl
  have hinX1 : ∀ w ∈ wsX10, w ∈ wsX4_startTelling := fun _ h => List.mem_cons_of_mem _ (List.mem_append_left _ (List.mem_append_right _ h))
  have hinX4 : ∀ w ∈ wsX40, w ∈ wsX4_startTelling := fun _ h => List.mem_cons_of_mem _ (List.mem_append_left _ (List.mem_append_left _ (List.mem_append_right _ h)))
  have lk95 := hts (.fieldLink RX4 95 "IronRumours$People" "persons" "I") (List.mem_of_getElem? (i := 3) rfl)
  have lk36 := hts (.fieldLink RX4 36 "IronRumours" "talk" "LIronRumours$Talk;") (List.mem_of_getElem? (i := 1) rfl)
  have lk47 := hts (.fieldLink RX4 47 "IronRumours" "people" "LIronRumours$People;") (List.mem_of_getElem? (i := 2) rfl)
  refine lv_aload_n hx hb dX4_startTelling_0 rfl (lv_at hl 0 rfl) ?_
  refine va_get (D := (dC, dI)) (ci := 4) (v := .ref aTa) (C := RX4) (T := TX4) (N := 13) hx hb hts hinX4 hown hK hP 0 rfl rfl 4 (by decide) lk36 (fun _ h9 => h9) rfl dX4_startTelling_1 ?_
  refine kc_v (wr := [(aX, .inr (4, [.ref aSh, .ref aTe, .ref aRe, .ref aRF, .ref aTa, .ref aFD, .ref aPe, .ref aDr, .int (nI lw), .int (nI hm), .long fo, .int tr, .int (nI fa)])), (aPe, .inr (1, [.ref aKi, .ref aFr, .ref aTo, .ref aDa, .int (nI np), .int (nI sm), .int (nI nw)]))]) (va_runV (As := []) (rest := []) ⟨hx, hb, hml, hown, hts⟩ (kX3_clear aTa aHe fHe ) (cwV 0 hts gX4_startTelling_X3_clear rfl rfl rfl hvX3_clear ⟨Nat.le_of_ble_eq_true rfl, Nat.le_of_ble_eq_true rfl⟩) (kpreV hN (q := (RX3, TX3, 1)) (ci := 3) hK (hP.sub [1, 2] rfl) (hD.sub [1, 2] (by decide) rfl) 0 rfl rfl) rfl rfl hl.1 rfl (lv_room (Nat.le_of_ble_eq_true rfl)) dX4_startTelling_4 ⟨Nat.zero_le _, Nat.zero_le _⟩) (fun _ => by simp only [List.map]) hP hD hS hA [1, 2] [0, 3] rfl rfl (by decide) (by decide) (by decide) (fun f_3 H_2 locs hr_1 hP hD hS => ?_)
  have hP : va_P (dC, dI) vwCl [(aX, .inr (4, [.ref aSh, .ref aTe, .ref aRe, .ref aRF, .ref aTa, .ref aFD, .ref aPe, .ref aDr, .int (nI lw), .int (nI hm), .long fo, .int tr, .int (nI fa)])), (aPe, .inr (1, [.ref aKi, .ref aFr, .ref aTo, .ref aDa, .int (nI np), .int (nI sm), .int (nI nw)])), (aTa, .inr (3, [.ref aHe])), (aHe, .inl (cJ, 360, .inr (.inl f_3)))] H_2 := hP
  have hD : va_D zA [(aX, .inr (4, [.ref aSh, .ref aTe, .ref aRe, .ref aRF, .ref aTa, .ref aFD, .ref aPe, .ref aDr, .int (nI lw), .int (nI hm), .long fo, .int tr, .int (nI fa)])), (aPe, .inr (1, [.ref aKi, .ref aFr, .ref aTo, .ref aDa, .int (nI np), .int (nI sm), .int (nI nw)])), (aTa, .inr (3, [.ref aHe])), (aHe, .inl (cJ, 360, .inr (.inl f_3)))] := hD
  have hP := hP.sub (ws' := [(aX, .inr (4, [.ref aSh, .ref aTe, .ref aRe, .ref aRF, .ref aTa, .ref aFD, .ref aPe, .ref aDr, .int (nI lw), .int (nI hm), .long fo, .int tr, .int (nI fa)])), (aTa, .inr (3, [.ref aHe])), (aHe, .inl (cJ, 360, .inr (.inl f_3))), (aPe, .inr (1, [.ref aKi, .ref aFr, .ref aTo, .ref aDa, .int (nI np), .int (nI sm), .int (nI nw)]))]) [0, 2, 3, 1] rfl
  have hD := hD.sub (ws' := [(aX, .inr (4, [.ref aSh, .ref aTe, .ref aRe, .ref aRF, .ref aTa, .ref aFD, .ref aPe, .ref aDr, .int (nI lw), .int (nI hm), .long fo, .int tr, .int (nI fa)])), (aTa, .inr (3, [.ref aHe])), (aHe, .inl (cJ, 360, .inr (.inl f_3))), (aPe, .inr (1, [.ref aKi, .ref aFr, .ref aTo, .ref aDa, .int (nI np), .int (nI sm), .int (nI nw)]))]) [0, 2, 3, 1] (by decide) rfl
  refine lv_iconst (v := nI 0) hx hb dX4_startTelling_7 (by decide) ?_
  refine lv_istore_n (lv' := [(3, .int (nI 0)), (0, .ref aX), (1, .int (nI st)), (2, .int (nI t))]) hx hb dX4_startTelling_8 rfl hl (by decide) rfl (fun ls hl => ?_)
  have loop9 : ∀ (n9 : Nat) (k : Nat) (g : Nat → Int64), (k ≤ np) → (planted (setS st t k) g) → (np - k < n9) → ∀ (H_4 : Heap) (locs : List Loc), va_P (dC, dI) vwCl [(aX, .inr (4, [.ref aSh, .ref aTe, .ref aRe, .ref aRF, .ref aTa, .ref aFD, .ref aPe, .ref aDr, .int (nI lw), .int (nI hm), .long fo, .int tr, .int (nI fa)])), (aTa, .inr (3, [.ref aHe])), (aHe, .inl (cJ, 360, .inr (.inl g))), (aPe, .inr (1, [.ref aKi, .ref aFr, .ref aTo, .ref aDa, .int (nI np), .int (nI sm), .int (nI nw)]))] H_4 → va_D zA [(aX, .inr (4, [.ref aSh, .ref aTe, .ref aRe, .ref aRF, .ref aTa, .ref aFD, .ref aPe, .ref aDr, .int (nI lw), .int (nI hm), .long fo, .int tr, .int (nI fa)])), (aTa, .inr (3, [.ref aHe])), (aHe, .inl (cJ, 360, .inr (.inl g))), (aPe, .inr (1, [.ref aKi, .ref aFr, .ref aTo, .ref aDa, .int (nI np), .int (nI sm), .int (nI nw)]))] → va_S zA zs.heap H_4 locs → ∀ (ls : Array Slot), lv_has ls 4 [(0, .ref aX), (1, .int (nI st)), (2, .int (nI t)), (3, .int (nI k))] → W zp zl ze ({ frames := 2, cells := 0, slots := 0, locals := 45 } : Room) zs zm za zb zt zc H_4 locs 0 0 zQ (F0 zm 9 ls []) := by
    intro n9
    induction n9 with
    | zero => intro k g hk hg hme; exact absurd hme (Nat.not_lt_zero _)
    | succ n9 ih9 =>
      intro k g hk hg hme H_4 locs hP hD hS ls hl
      refine lv_iload_n hx hb dX4_startTelling_9 rfl (lv_at hl 3 rfl) ?_
      refine lv_aload_n hx hb dX4_startTelling_10 rfl (lv_at hl 0 rfl) ?_
      refine va_get (D := (dC, dI)) (ci := 4) (v := .ref aPe) (C := RX4) (T := TX4) (N := 13) hx hb hts hinX4 hown hK hP 0 rfl rfl 6 (by decide) lk47 (fun _ h9 => h9) rfl dX4_startTelling_11 ?_
      refine va_get (D := (dC, dI)) (ci := 1) (v := .int (nI np)) (C := RX1) (T := TX1) (N := 7) hx hb hts hinX1 hown hK hP 3 rfl rfl 4 (by decide) lk95 (fun _ h9 => h9) rfl dX4_startTelling_14 ?_
      refine k_icmp_ge (tgt := 45) hx hb dX4_startTelling_17 (by decide) (by omega) (by omega) (fun c17 => ?_) (fun c17 => ?_)
      · refine hret 45 _ g _ _ dX4_startTelling_45 hS (fun t ht _ => by rw [ht]; exact hP) ?_
        have e : k = np := by omega
        subst e
        exact hg
      · refine lv_iload_n hx hb dX4_startTelling_20 rfl (lv_at hl 1 rfl) ?_
        refine lv_iload_n hx hb dX4_startTelling_21 rfl (lv_at hl 3 rfl) ?_
        refine rc_i (va_runS (As := [.int (nI st), .int (nI k)]) (rest := []) ⟨hx, hb, hml, hown, hts⟩ (kX4_holds st k hst (by omega)) (va_cwS 2 hts gX4_startTelling_X4_holds rfl rfl rfl hvX4_holds ⟨Nat.le_of_ble_eq_true rfl, Nat.le_of_ble_eq_true rfl⟩) (rpreS hN hK (hP.sub [] rfl)) rfl rfl hl.1 rfl (lv_room (Nat.le_of_ble_eq_true rfl)) dX4_startTelling_22 ⟨Nat.zero_le _, Nat.zero_le _⟩) (fun r_5 hr_5 => ?_)
        have hr_5 : r_5 = kb (st.testBit k) := hr_5
        rw [hr_5]
        refine k_if_eqb (tgt := 39) hx hb dX4_startTelling_25 (by decide) (fun c25 => ?_) (fun c25 => ?_)
        · refine lv_iinc (v := nI (k + 1)) (lv' := [(3, .int (nI (k + 1))), (0, .ref aX), (1, .int (nI st)), (2, .int (nI t))]) hx hb dX4_startTelling_39 hl (k := 3) rfl (nI_add _ _) (by decide) rfl (fun ls hl => ?_)
          refine lv_goto (tgt := 9) hx hb dX4_startTelling_42 (by decide) ?_
          exact ih9 (k + 1) g (by omega) (by exact planted_cong hg (setS_no c25)) (by omega) _ _ hP hD hS _ (lv_sub hl [1, 2, 3, 0] rfl)
        · refine lv_aload_n hx hb dX4_startTelling_28 rfl (lv_at hl 0 rfl) ?_
          refine va_get (D := (dC, dI)) (ci := 4) (v := .ref aTa) (C := RX4) (T := TX4) (N := 13) hx hb hts hinX4 hown hK hP 0 rfl rfl 4 (by decide) lk36 (fun _ h9 => h9) rfl dX4_startTelling_29 ?_
          refine lv_iload_n hx hb dX4_startTelling_32 rfl (lv_at hl 3 rfl) ?_
          refine lv_iload_n hx hb dX4_startTelling_33 rfl (lv_at hl 2 rfl) ?_
          refine lv_iload_n hx hb dX4_startTelling_34 rfl (lv_at hl 3 rfl) ?_
          refine lv_iconst (v := nI 0) hx hb dX4_startTelling_35 (by decide) ?_
          refine kc_v (wr := [(aX, .inr (4, [.ref aSh, .ref aTe, .ref aRe, .ref aRF, .ref aTa, .ref aFD, .ref aPe, .ref aDr, .int (nI lw), .int (nI hm), .long fo, .int tr, .int (nI fa)])), (aPe, .inr (1, [.ref aKi, .ref aFr, .ref aTo, .ref aDa, .int (nI np), .int (nI sm), .int (nI nw)]))]) (va_runV (As := [.int (nI k), .int (nI t), .int (nI k), .int (nI 0)]) (rest := []) ⟨hx, hb, hml, hown, hts⟩ (kX3_plant aTa aHe g k t k 0 (by omega) (by omega)) (cwV 4 hts gX4_startTelling_X3_plant rfl rfl rfl hvX3_plant ⟨Nat.le_of_ble_eq_true rfl, Nat.le_of_ble_eq_true rfl⟩) (kpreV hN (q := (RX3, TX3, 1)) (ci := 3) hK (hP.sub [1, 2] rfl) (hD.sub [1, 2] (by decide) rfl) 0 rfl rfl) rfl rfl hl.1 rfl (lv_room (Nat.le_of_ble_eq_true rfl)) dX4_startTelling_36 ⟨Nat.zero_le _, Nat.zero_le _⟩) (fun _ => by simp only [List.map]) hP hD hS hA [1, 2] [0, 3] rfl rfl (by decide) (by decide) (by decide) (fun f_8 H_7 locs hr_6 hP hD hS => ?_)
          have hP : va_P (dC, dI) vwCl [(aX, .inr (4, [.ref aSh, .ref aTe, .ref aRe, .ref aRF, .ref aTa, .ref aFD, .ref aPe, .ref aDr, .int (nI lw), .int (nI hm), .long fo, .int tr, .int (nI fa)])), (aPe, .inr (1, [.ref aKi, .ref aFr, .ref aTo, .ref aDa, .int (nI np), .int (nI sm), .int (nI nw)])), (aTa, .inr (3, [.ref aHe])), (aHe, .inl (cJ, 360, .inr (.inl f_8)))] H_7 := hP
          have hD : va_D zA [(aX, .inr (4, [.ref aSh, .ref aTe, .ref aRe, .ref aRF, .ref aTa, .ref aFD, .ref aPe, .ref aDr, .int (nI lw), .int (nI hm), .long fo, .int tr, .int (nI fa)])), (aPe, .inr (1, [.ref aKi, .ref aFr, .ref aTo, .ref aDa, .int (nI np), .int (nI sm), .int (nI nw)])), (aTa, .inr (3, [.ref aHe])), (aHe, .inl (cJ, 360, .inr (.inl f_8)))] := hD
          have hP := hP.sub (ws' := [(aX, .inr (4, [.ref aSh, .ref aTe, .ref aRe, .ref aRF, .ref aTa, .ref aFD, .ref aPe, .ref aDr, .int (nI lw), .int (nI hm), .long fo, .int tr, .int (nI fa)])), (aTa, .inr (3, [.ref aHe])), (aHe, .inl (cJ, 360, .inr (.inl f_8))), (aPe, .inr (1, [.ref aKi, .ref aFr, .ref aTo, .ref aDa, .int (nI np), .int (nI sm), .int (nI nw)]))]) [0, 2, 3, 1] rfl
          have hD := hD.sub (ws' := [(aX, .inr (4, [.ref aSh, .ref aTe, .ref aRe, .ref aRF, .ref aTa, .ref aFD, .ref aPe, .ref aDr, .int (nI lw), .int (nI hm), .long fo, .int tr, .int (nI fa)])), (aTa, .inr (3, [.ref aHe])), (aHe, .inl (cJ, 360, .inr (.inl f_8))), (aPe, .inr (1, [.ref aKi, .ref aFr, .ref aTo, .ref aDa, .int (nI np), .int (nI sm), .int (nI nw)]))]) [0, 2, 3, 1] (by decide) rfl
          refine lv_iinc (v := nI (k + 1)) (lv' := [(3, .int (nI (k + 1))), (0, .ref aX), (1, .int (nI st)), (2, .int (nI t))]) hx hb dX4_startTelling_39 hl (k := 3) rfl (nI_add _ _) (by decide) rfl (fun ls hl => ?_)
          refine lv_goto (tgt := 9) hx hb dX4_startTelling_42 (by decide) ?_
          exact ih9 (k + 1) f_8 (by omega) (by exact planted_put hg (by omega) (by omega) (by omega) hr_6 (setS_yes c25)) (by omega) _ _ hP hD hS _ (lv_sub hl [1, 2, 3, 0] rfl)
  exact loop9 ((np - 0) + 1) 0 f_3 (by omega) (by exact planted_cong (planted_0 hr_1) (setS_0 st t)) (by exact Nat.lt_succ_self _) _ _ hP hD hS _ (lv_sub hl [1, 2, 3, 0] rfl)

set_option maxHeartbeats 800000 in
set_option maxRecDepth 100000 in
theorem kX4_isReached {zl : Launch} {dC : Nat → ClassId} {dI : Nat → Nat → Nat} {cI cJ cZ cS : ClassId} {sz : Nat} (aX : Nat) (aSh : Nat) (aTe : Nat) (aRe : Nat) (aRF : Nat) (aTa : Nat) (aFD : Nat) (aPe : Nat) (aDr : Nat) (lw : Nat) (hm : Nat) (fo : Int64) (tr : Int32) (fa : Nat) (aHe : Nat) (fHe : Nat → Int64) (aTp : Nat) (aTt : Nat) (aTd : Nat) (nt : Nat) (fTp : Nat → Int32) (fTt : Nat → Int32) (fTd : Nat → Int32) (aKi : Nat) (aFr : Nat) (aTo : Nat) (aDa : Nat) (np : Nat) (sm : Nat) (nw : Nat) (fKi : Nat → Int32) (fFr : Nat → Int32) (fTo : Nat → Int32) (fDa : Nat → Int32) (kd : Nat → Nat) (wf : Nat → Nat) (wt : Nat → Nat) (wd : Nat → Nat) (tp : Nat → Nat) (tt : Nat → Nat) (td : Nat → Nat) (fg : Nat → Bool) (b : Bool) (st : Nat) (q : Nat) (t : Nat) (d : Nat) (hw : waysOk np nw wf wt wd kd) (hpA : pplA np nw kd wf wt wd fKi fFr fTo fDa) (hta : tellA np nt tp tt td fTp fTt fTd) (hhm : hm < 64) (hsm : sm < 64) (hlw : lw ≤ 4) (hfg : ∀ d, d < 60 → bl fo d = fg d) (hst : st < 64) (hq : q < 6) (ht : t < 4) (hd : d < 60) : Met zl yX4_isReached wsX4_isReached ({ frames := 4, cells := 0, slots := 0, locals := 104 } : Room) (va_Pc [.ref aX, .int (kb b), .int (nI st), .int (nI q), .int (nI t), .int (nI d)] (kPre (dC, dI) (kT cI cJ cZ cS) [(aX, .inr (4, [.ref aSh, .ref aTe, .ref aRe, .ref aRF, .ref aTa, .ref aFD, .ref aPe, .ref aDr, .int (nI lw), .int (nI hm), .long fo, .int tr, .int (nI fa)])), (aTa, .inr (3, [.ref aHe])), (aHe, .inl (cJ, 360, .inr (.inl fHe))), (aTe, .inr (0, [.ref aTp, .ref aTt, .ref aTd, .int (nI 8), .int (nI nt)])), (aTp, .inl (cI, 8, .inl fTp)), (aTt, .inl (cI, 8, .inl fTt)), (aTd, .inl (cI, 8, .inl fTd)), (aPe, .inr (1, [.ref aKi, .ref aFr, .ref aTo, .ref aDa, .int (nI np), .int (nI sm), .int (nI nw)])), (aKi, .inl (cI, 6, .inl fKi)), (aFr, .inl (cI, 9, .inl fFr)), (aTo, .inl (cI, 9, .inl fTo)), (aDa, .inl (cI, 9, .inl fDa))] sz)) (va_Qi (fun (r : Int32) => fun (f1 : (Nat → Int64)) => r = kb (rch np nw wf wt wd kd hm tp tt td nt lw fg b q t d st)) (fun (f1 : (Nat → Int64)) (zU : State) => va_P (dC, dI) vwCl [(aX, .inr (4, [.ref aSh, .ref aTe, .ref aRe, .ref aRF, .ref aTa, .ref aFD, .ref aPe, .ref aDr, .int (nI lw), .int (nI hm), .long fo, .int tr, .int (nI fa)])), (aTa, .inr (3, [.ref aHe])), (aHe, .inl (cJ, 360, .inr (.inl f1))), (aTe, .inr (0, [.ref aTp, .ref aTt, .ref aTd, .int (nI 8), .int (nI nt)])), (aTp, .inl (cI, 8, .inl fTp)), (aTt, .inl (cI, 8, .inl fTt)), (aTd, .inl (cI, 8, .inl fTd)), (aPe, .inr (1, [.ref aKi, .ref aFr, .ref aTo, .ref aDa, .int (nI np), .int (nI sm), .int (nI nw)])), (aKi, .inl (cI, 6, .inl fKi)), (aFr, .inl (cI, 9, .inl fFr)), (aTo, .inl (cI, 9, .inl fTo)), (aDa, .inl (cI, 9, .inl fDa))] zU.heap) (va_A [(aX, .inr (4, [.ref aSh, .ref aTe, .ref aRe, .ref aRF, .ref aTa, .ref aFD, .ref aPe, .ref aDr, .int (nI lw), .int (nI hm), .long fo, .int tr, .int (nI fa)])), (aTa, .inr (3, [.ref aHe])), (aHe, .inl (cJ, 360, .inr (.inl fHe))), (aTe, .inr (0, [.ref aTp, .ref aTt, .ref aTd, .int (nI 8), .int (nI nt)])), (aTp, .inl (cI, 8, .inl fTp)), (aTt, .inl (cI, 8, .inl fTt)), (aTd, .inl (cI, 8, .inl fTd)), (aPe, .inr (1, [.ref aKi, .ref aFr, .ref aTo, .ref aDa, .int (nI np), .int (nI sm), .int (nI nw)])), (aKi, .inl (cI, 6, .inl fKi)), (aFr, .inl (cI, 9, .inl fFr)), (aTo, .inl (cI, 9, .inl fTo)), (aDa, .inl (cI, 9, .inl fDa))] sz)) 0 0 (va_A [(aX, .inr (4, [.ref aSh, .ref aTe, .ref aRe, .ref aRF, .ref aTa, .ref aFD, .ref aPe, .ref aDr, .int (nI lw), .int (nI hm), .long fo, .int tr, .int (nI fa)])), (aTa, .inr (3, [.ref aHe])), (aHe, .inl (cJ, 360, .inr (.inl fHe))), (aTe, .inr (0, [.ref aTp, .ref aTt, .ref aTd, .int (nI 8), .int (nI nt)])), (aTp, .inl (cI, 8, .inl fTp)), (aTt, .inl (cI, 8, .inl fTt)), (aTd, .inl (cI, 8, .inl fTd)), (aPe, .inr (1, [.ref aKi, .ref aFr, .ref aTo, .ref aDa, .int (nI np), .int (nI sm), .int (nI nw)])), (aKi, .inl (cI, 6, .inl fKi)), (aFr, .inl (cI, 9, .inl fFr)), (aTo, .inl (cI, 9, .inl fTo)), (aDa, .inl (cI, 9, .inl fDa))] sz) := by
  refine kstartW_z (cc := cX4_isReached) (maxL := 6) rfl rfl (Nat.le_of_ble_eq_true rfl) ?_
  intro zp ze zs zm zb zt zc za zQ zA hx hb hml hts hown hN hK hP hD hS hA hin hret ls hl
  have hl : lv_has ls 6 [(0, .ref aX), (1, .int (kb b)), (2, .int (nI st)), (3, .int (nI q)), (4, .int (nI t)), (5, .int (nI d))] := hl
  have hinX4 : ∀ w ∈ wsX40, w ∈ wsX4_isReached := fun _ h => List.mem_cons_of_mem _ (List.mem_append_left _ (List.mem_append_left _ (List.mem_append_left _ (List.mem_append_right _ h))))
  have lk36 := hts (.fieldLink RX4 36 "IronRumours" "talk" "LIronRumours$Talk;") (List.mem_of_getElem? (i := 1) rfl)
  have lk47 := hts (.fieldLink RX4 47 "IronRumours" "people" "LIronRumours$People;") (List.mem_of_getElem? (i := 2) rfl)
  have lk58 := hts (.fieldLink RX4 58 "IronRumours" "hushedNow" "I") (List.mem_of_getElem? (i := 3) rfl)
  refine lv_iload_n hx hb dX4_isReached_0 rfl (lv_at hl 1 rfl) ?_
  refine k_if_eqb (tgt := 14) hx hb dX4_isReached_1 (by decide) (fun c1 => ?_) (fun c1 => ?_)
  · subst c1
    refine lv_aload_n hx hb dX4_isReached_14 rfl (lv_at hl 0 rfl) ?_
    refine lv_iconst (v := (-1)) hx hb dX4_isReached_15 (by decide) ?_
    refine kc_v (wr := [(aPe, .inr (1, [.ref aKi, .ref aFr, .ref aTo, .ref aDa, .int (nI np), .int (nI sm), .int (nI nw)])), (aKi, .inl (cI, 6, .inl fKi)), (aFr, .inl (cI, 9, .inl fFr)), (aTo, .inl (cI, 9, .inl fTo)), (aDa, .inl (cI, 9, .inl fDa))]) (va_runV (As := [.int (-1)]) (rest := []) ⟨hx, hb, hml, hown, hts⟩ (kX4_startTalk aX aSh aTe aRe aRF aTa aFD aPe aDr lw hm fo tr fa aHe fHe aTp aTt aTd nt fTp fTt fTd np tp tt td (-1) hw.1 hta) (cwV 1 hts gX4_isReached_X4_startTalk rfl rfl rfl hvX4_startTalk ⟨Nat.le_of_ble_eq_true rfl, Nat.le_of_ble_eq_true rfl⟩) (kpreV hN (q := (RX4, TX4, 13)) (ci := 4) hK (hP.sub [0, 1, 2, 3, 4, 5, 6] rfl) (hD.sub [0, 1, 2, 3, 4, 5, 6] (by decide) rfl) 0 rfl rfl) rfl rfl hl.1 rfl (lv_room (Nat.le_of_ble_eq_true rfl)) dX4_isReached_16 ⟨Nat.zero_le _, Nat.zero_le _⟩) (fun _ => by simp only [List.map]) hP hD hS hA [0, 1, 2, 3, 4, 5, 6] [7, 8, 9, 10, 11] rfl rfl (by decide) (by decide) (by decide) (fun f_3 H_2 locs hr_1 hP hD hS => ?_)
    have hP : va_P (dC, dI) vwCl [(aPe, .inr (1, [.ref aKi, .ref aFr, .ref aTo, .ref aDa, .int (nI np), .int (nI sm), .int (nI nw)])), (aKi, .inl (cI, 6, .inl fKi)), (aFr, .inl (cI, 9, .inl fFr)), (aTo, .inl (cI, 9, .inl fTo)), (aDa, .inl (cI, 9, .inl fDa)), (aX, .inr (4, [.ref aSh, .ref aTe, .ref aRe, .ref aRF, .ref aTa, .ref aFD, .ref aPe, .ref aDr, .int (nI lw), .int (nI hm), .long fo, .int tr, .int (nI fa)])), (aTa, .inr (3, [.ref aHe])), (aHe, .inl (cJ, 360, .inr (.inl f_3))), (aTe, .inr (0, [.ref aTp, .ref aTt, .ref aTd, .int (nI 8), .int (nI nt)])), (aTp, .inl (cI, 8, .inl fTp)), (aTt, .inl (cI, 8, .inl fTt)), (aTd, .inl (cI, 8, .inl fTd))] H_2 := hP
    have hD : va_D zA [(aPe, .inr (1, [.ref aKi, .ref aFr, .ref aTo, .ref aDa, .int (nI np), .int (nI sm), .int (nI nw)])), (aKi, .inl (cI, 6, .inl fKi)), (aFr, .inl (cI, 9, .inl fFr)), (aTo, .inl (cI, 9, .inl fTo)), (aDa, .inl (cI, 9, .inl fDa)), (aX, .inr (4, [.ref aSh, .ref aTe, .ref aRe, .ref aRF, .ref aTa, .ref aFD, .ref aPe, .ref aDr, .int (nI lw), .int (nI hm), .long fo, .int tr, .int (nI fa)])), (aTa, .inr (3, [.ref aHe])), (aHe, .inl (cJ, 360, .inr (.inl f_3))), (aTe, .inr (0, [.ref aTp, .ref aTt, .ref aTd, .int (nI 8), .int (nI nt)])), (aTp, .inl (cI, 8, .inl fTp)), (aTt, .inl (cI, 8, .inl fTt)), (aTd, .inl (cI, 8, .inl fTd))] := hD
    have hP := hP.sub (ws' := [(aX, .inr (4, [.ref aSh, .ref aTe, .ref aRe, .ref aRF, .ref aTa, .ref aFD, .ref aPe, .ref aDr, .int (nI lw), .int (nI hm), .long fo, .int tr, .int (nI fa)])), (aTa, .inr (3, [.ref aHe])), (aHe, .inl (cJ, 360, .inr (.inl f_3))), (aTe, .inr (0, [.ref aTp, .ref aTt, .ref aTd, .int (nI 8), .int (nI nt)])), (aTp, .inl (cI, 8, .inl fTp)), (aTt, .inl (cI, 8, .inl fTt)), (aTd, .inl (cI, 8, .inl fTd)), (aPe, .inr (1, [.ref aKi, .ref aFr, .ref aTo, .ref aDa, .int (nI np), .int (nI sm), .int (nI nw)])), (aKi, .inl (cI, 6, .inl fKi)), (aFr, .inl (cI, 9, .inl fFr)), (aTo, .inl (cI, 9, .inl fTo)), (aDa, .inl (cI, 9, .inl fDa))]) [5, 6, 7, 8, 9, 10, 11, 0, 1, 2, 3, 4] rfl
    have hD := hD.sub (ws' := [(aX, .inr (4, [.ref aSh, .ref aTe, .ref aRe, .ref aRF, .ref aTa, .ref aFD, .ref aPe, .ref aDr, .int (nI lw), .int (nI hm), .long fo, .int tr, .int (nI fa)])), (aTa, .inr (3, [.ref aHe])), (aHe, .inl (cJ, 360, .inr (.inl f_3))), (aTe, .inr (0, [.ref aTp, .ref aTt, .ref aTd, .int (nI 8), .int (nI nt)])), (aTp, .inl (cI, 8, .inl fTp)), (aTt, .inl (cI, 8, .inl fTt)), (aTd, .inl (cI, 8, .inl fTd)), (aPe, .inr (1, [.ref aKi, .ref aFr, .ref aTo, .ref aDa, .int (nI np), .int (nI sm), .int (nI nw)])), (aKi, .inl (cI, 6, .inl fKi)), (aFr, .inl (cI, 9, .inl fFr)), (aTo, .inl (cI, 9, .inl fTo)), (aDa, .inl (cI, 9, .inl fDa))]) [5, 6, 7, 8, 9, 10, 11, 0, 1, 2, 3, 4] (by decide) rfl
    refine lv_aload_n hx hb dX4_isReached_19 rfl (lv_at hl 0 rfl) ?_
    refine va_get (D := (dC, dI)) (ci := 4) (v := .ref aTa) (C := RX4) (T := TX4) (N := 13) hx hb hts hinX4 hown hK hP 0 rfl rfl 4 (by decide) lk36 (fun _ h9 => h9) rfl dX4_isReached_20 ?_
    refine lv_aload_n hx hb dX4_isReached_23 rfl (lv_at hl 0 rfl) ?_
    refine va_get (D := (dC, dI)) (ci := 4) (v := .ref aPe) (C := RX4) (T := TX4) (N := 13) hx hb hts hinX4 hown hK hP 0 rfl rfl 6 (by decide) lk47 (fun _ h9 => h9) rfl dX4_isReached_24 ?_
    refine lv_iload_n hx hb dX4_isReached_27 rfl (lv_at hl 1 rfl) ?_
    refine k_if_eqb (tgt := 38) hx hb dX4_isReached_28 (by decide) (fun c28 => ?_) (fun c28 => nomatch c28)
    refine lv_aload_n hx hb dX4_isReached_38 rfl (lv_at hl 0 rfl) ?_
    refine va_get (D := (dC, dI)) (ci := 4) (v := .int (nI hm)) (C := RX4) (T := TX4) (N := 13) hx hb hts hinX4 hown hK hP 0 rfl rfl 9 (by decide) lk58 (fun _ h9 => h9) rfl dX4_isReached_39 ?_
    refine lv_iload_n hx hb dX4_isReached_42 rfl (lv_at hl 2 rfl) ?_
    refine lv_ior hx hb dX4_isReached_43 ?_
    refine k_cast (y := nI (hm ||| st)) (orI _ _) ?_
    refine lv_iconst (v := (-1)) hx hb dX4_isReached_44 (by decide) ?_
    refine kc_v (wr := [(aX, .inr (4, [.ref aSh, .ref aTe, .ref aRe, .ref aRF, .ref aTa, .ref aFD, .ref aPe, .ref aDr, .int (nI lw), .int (nI hm), .long fo, .int tr, .int (nI fa)])), (aTe, .inr (0, [.ref aTp, .ref aTt, .ref aTd, .int (nI 8), .int (nI nt)])), (aTp, .inl (cI, 8, .inl fTp)), (aTt, .inl (cI, 8, .inl fTt)), (aTd, .inl (cI, 8, .inl fTd))]) (va_runV (As := [.ref aPe, .int (nI (hm ||| st)), .int (-1)]) (rest := []) ⟨hx, hb, hml, hown, hts⟩ (kX3_spread aTa aHe f_3 aPe aKi aFr aTo aDa np sm nw fKi fFr fTo fDa kd wf wt wd (hm ||| st) (-1) (tellS tp tt td nt (-1)) hw hpA (or64 hhm hst) hr_1) (cwV 3 hts gX4_isReached_X3_spread rfl rfl rfl hvX3_spread ⟨Nat.le_of_ble_eq_true rfl, Nat.le_of_ble_eq_true rfl⟩) (kpreV hN (q := (RX3, TX3, 1)) (ci := 3) hK (hP.sub [1, 2, 7, 8, 9, 10, 11] rfl) (hD.sub [1, 2, 7, 8, 9, 10, 11] (by decide) rfl) 0 rfl rfl) rfl rfl hl.1 rfl (lv_room (Nat.le_of_ble_eq_true rfl)) dX4_isReached_45 ⟨Nat.zero_le _, Nat.zero_le _⟩) (fun _ => by simp only [List.map]) hP hD hS hA [1, 2, 7, 8, 9, 10, 11] [0, 3, 4, 5, 6] rfl rfl (by decide) (by decide) (by decide) (fun f_6 H_5 locs hr_4 hP hD hS => ?_)
    have hP : va_P (dC, dI) vwCl [(aX, .inr (4, [.ref aSh, .ref aTe, .ref aRe, .ref aRF, .ref aTa, .ref aFD, .ref aPe, .ref aDr, .int (nI lw), .int (nI hm), .long fo, .int tr, .int (nI fa)])), (aTe, .inr (0, [.ref aTp, .ref aTt, .ref aTd, .int (nI 8), .int (nI nt)])), (aTp, .inl (cI, 8, .inl fTp)), (aTt, .inl (cI, 8, .inl fTt)), (aTd, .inl (cI, 8, .inl fTd)), (aTa, .inr (3, [.ref aHe])), (aHe, .inl (cJ, 360, .inr (.inl f_6))), (aPe, .inr (1, [.ref aKi, .ref aFr, .ref aTo, .ref aDa, .int (nI np), .int (nI sm), .int (nI nw)])), (aKi, .inl (cI, 6, .inl fKi)), (aFr, .inl (cI, 9, .inl fFr)), (aTo, .inl (cI, 9, .inl fTo)), (aDa, .inl (cI, 9, .inl fDa))] H_5 := hP
    have hD : va_D zA [(aX, .inr (4, [.ref aSh, .ref aTe, .ref aRe, .ref aRF, .ref aTa, .ref aFD, .ref aPe, .ref aDr, .int (nI lw), .int (nI hm), .long fo, .int tr, .int (nI fa)])), (aTe, .inr (0, [.ref aTp, .ref aTt, .ref aTd, .int (nI 8), .int (nI nt)])), (aTp, .inl (cI, 8, .inl fTp)), (aTt, .inl (cI, 8, .inl fTt)), (aTd, .inl (cI, 8, .inl fTd)), (aTa, .inr (3, [.ref aHe])), (aHe, .inl (cJ, 360, .inr (.inl f_6))), (aPe, .inr (1, [.ref aKi, .ref aFr, .ref aTo, .ref aDa, .int (nI np), .int (nI sm), .int (nI nw)])), (aKi, .inl (cI, 6, .inl fKi)), (aFr, .inl (cI, 9, .inl fFr)), (aTo, .inl (cI, 9, .inl fTo)), (aDa, .inl (cI, 9, .inl fDa))] := hD
    have hP := hP.sub (ws' := [(aX, .inr (4, [.ref aSh, .ref aTe, .ref aRe, .ref aRF, .ref aTa, .ref aFD, .ref aPe, .ref aDr, .int (nI lw), .int (nI hm), .long fo, .int tr, .int (nI fa)])), (aTa, .inr (3, [.ref aHe])), (aHe, .inl (cJ, 360, .inr (.inl f_6))), (aTe, .inr (0, [.ref aTp, .ref aTt, .ref aTd, .int (nI 8), .int (nI nt)])), (aTp, .inl (cI, 8, .inl fTp)), (aTt, .inl (cI, 8, .inl fTt)), (aTd, .inl (cI, 8, .inl fTd)), (aPe, .inr (1, [.ref aKi, .ref aFr, .ref aTo, .ref aDa, .int (nI np), .int (nI sm), .int (nI nw)])), (aKi, .inl (cI, 6, .inl fKi)), (aFr, .inl (cI, 9, .inl fFr)), (aTo, .inl (cI, 9, .inl fTo)), (aDa, .inl (cI, 9, .inl fDa))]) [0, 5, 6, 1, 2, 3, 4, 7, 8, 9, 10, 11] rfl
    have hD := hD.sub (ws' := [(aX, .inr (4, [.ref aSh, .ref aTe, .ref aRe, .ref aRF, .ref aTa, .ref aFD, .ref aPe, .ref aDr, .int (nI lw), .int (nI hm), .long fo, .int tr, .int (nI fa)])), (aTa, .inr (3, [.ref aHe])), (aHe, .inl (cJ, 360, .inr (.inl f_6))), (aTe, .inr (0, [.ref aTp, .ref aTt, .ref aTd, .int (nI 8), .int (nI nt)])), (aTp, .inl (cI, 8, .inl fTp)), (aTt, .inl (cI, 8, .inl fTt)), (aTd, .inl (cI, 8, .inl fTd)), (aPe, .inr (1, [.ref aKi, .ref aFr, .ref aTo, .ref aDa, .int (nI np), .int (nI sm), .int (nI nw)])), (aKi, .inl (cI, 6, .inl fKi)), (aFr, .inl (cI, 9, .inl fFr)), (aTo, .inl (cI, 9, .inl fTo)), (aDa, .inl (cI, 9, .inl fDa))]) [0, 5, 6, 1, 2, 3, 4, 7, 8, 9, 10, 11] (by decide) rfl
    refine lv_aload_n hx hb dX4_isReached_48 rfl (lv_at hl 0 rfl) ?_
    refine lv_iload_n hx hb dX4_isReached_49 rfl (lv_at hl 3 rfl) ?_
    refine lv_iload hx hb dX4_isReached_50 (lv_at hl 4 rfl) ?_
    refine lv_iload hx hb dX4_isReached_52 (lv_at hl 5 rfl) ?_
    refine rc_i (va_runV (As := [.int (nI q), .int (nI t), .int (nI d)]) (rest := []) ⟨hx, hb, hml, hown, hts⟩ (kX4_hasForged aX aSh aTe aRe aRF aTa aFD aPe aDr lw hm fo tr fa aHe f_6 (hrd nw wf wt wd kd (actW (hm ||| st) (-1) wf) (tellS tp tt td nt (-1))) fg q t d hr_4 upH_hrd hfg hq ht hlw hd) (cwV 3 hts gX4_isReached_X4_hasForged rfl rfl rfl hvX4_hasForged ⟨Nat.le_of_ble_eq_true rfl, Nat.le_of_ble_eq_true rfl⟩) (rpreV hN (q := (RX4, TX4, 13)) (ci := 4) hK (hP.sub [0, 1, 2] rfl) 0 rfl rfl) rfl rfl hl.1 rfl (lv_room (Nat.le_of_ble_eq_true rfl)) dX4_isReached_54 ⟨Nat.zero_le _, Nat.zero_le _⟩) (fun r_7 hr_7 => ?_)
    have hr_7 : r_7 = kb (decide (fday (hrd nw wf wt wd kd (actW (hm ||| st) (-1) wf) (tellS tp tt td nt (-1))) lw fg q t ≤ d)) := hr_7
    rw [hr_7]
    refine lv_iload_n hx hb dX4_isReached_57 rfl (lv_at hl 1 rfl) ?_
    refine k_icmpb_ne (tgt := 65) hx hb dX4_isReached_58 (by decide) (fun c58 => ?_) (fun c58 => ?_)
    · refine lv_iconst (v := nI 0) hx hb dX4_isReached_65 (by decide) ?_
      refine k_cast (y := kb false) (rfl) ?_
      refine hret 66 _ false f_6 _ _ dX4_isReached_66 hS (fun t ht _ => by rw [ht]; exact hP) ?_
      unfold rch
      rw [if_neg (by decide)]
      rw [b_nf c58]
      rfl
    · refine lv_iconst (v := nI 1) hx hb dX4_isReached_61 (by decide) ?_
      refine lv_goto (tgt := 66) hx hb dX4_isReached_62 (by decide) ?_
      refine k_cast (y := kb true) (rfl) ?_
      refine hret 66 _ true f_6 _ _ dX4_isReached_66 hS (fun t ht _ => by rw [ht]; exact hP) ?_
      unfold rch
      rw [if_neg (by decide)]
      rw [c58]
      rfl
  · subst c1
    refine lv_aload_n hx hb dX4_isReached_4 rfl (lv_at hl 0 rfl) ?_
    refine lv_iload_n hx hb dX4_isReached_5 rfl (lv_at hl 2 rfl) ?_
    refine lv_iload hx hb dX4_isReached_6 (lv_at hl 4 rfl) ?_
    refine kc_v (wr := [(aTe, .inr (0, [.ref aTp, .ref aTt, .ref aTd, .int (nI 8), .int (nI nt)])), (aTp, .inl (cI, 8, .inl fTp)), (aTt, .inl (cI, 8, .inl fTt)), (aTd, .inl (cI, 8, .inl fTd)), (aKi, .inl (cI, 6, .inl fKi)), (aFr, .inl (cI, 9, .inl fFr)), (aTo, .inl (cI, 9, .inl fTo)), (aDa, .inl (cI, 9, .inl fDa))]) (va_runV (As := [.int (nI st), .int (nI t)]) (rest := []) ⟨hx, hb, hml, hown, hts⟩ (kX4_startTelling aX aSh aTe aRe aRF aTa aFD aPe aDr lw hm fo tr fa aHe fHe aKi aFr aTo aDa np sm nw st t hw.1 hst ht) (cwV 2 hts gX4_isReached_X4_startTelling rfl rfl rfl hvX4_startTelling ⟨Nat.le_of_ble_eq_true rfl, Nat.le_of_ble_eq_true rfl⟩) (kpreV hN (q := (RX4, TX4, 13)) (ci := 4) hK (hP.sub [0, 1, 2, 7] rfl) (hD.sub [0, 1, 2, 7] (by decide) rfl) 0 rfl rfl) rfl rfl hl.1 rfl (lv_room (Nat.le_of_ble_eq_true rfl)) dX4_isReached_8 ⟨Nat.zero_le _, Nat.zero_le _⟩) (fun _ => by simp only [List.map]) hP hD hS hA [0, 1, 2, 7] [3, 4, 5, 6, 8, 9, 10, 11] rfl rfl (by decide) (by decide) (by decide) (fun f_10 H_9 locs hr_8 hP hD hS => ?_)
    have hP : va_P (dC, dI) vwCl [(aTe, .inr (0, [.ref aTp, .ref aTt, .ref aTd, .int (nI 8), .int (nI nt)])), (aTp, .inl (cI, 8, .inl fTp)), (aTt, .inl (cI, 8, .inl fTt)), (aTd, .inl (cI, 8, .inl fTd)), (aKi, .inl (cI, 6, .inl fKi)), (aFr, .inl (cI, 9, .inl fFr)), (aTo, .inl (cI, 9, .inl fTo)), (aDa, .inl (cI, 9, .inl fDa)), (aX, .inr (4, [.ref aSh, .ref aTe, .ref aRe, .ref aRF, .ref aTa, .ref aFD, .ref aPe, .ref aDr, .int (nI lw), .int (nI hm), .long fo, .int tr, .int (nI fa)])), (aTa, .inr (3, [.ref aHe])), (aHe, .inl (cJ, 360, .inr (.inl f_10))), (aPe, .inr (1, [.ref aKi, .ref aFr, .ref aTo, .ref aDa, .int (nI np), .int (nI sm), .int (nI nw)]))] H_9 := hP
    have hD : va_D zA [(aTe, .inr (0, [.ref aTp, .ref aTt, .ref aTd, .int (nI 8), .int (nI nt)])), (aTp, .inl (cI, 8, .inl fTp)), (aTt, .inl (cI, 8, .inl fTt)), (aTd, .inl (cI, 8, .inl fTd)), (aKi, .inl (cI, 6, .inl fKi)), (aFr, .inl (cI, 9, .inl fFr)), (aTo, .inl (cI, 9, .inl fTo)), (aDa, .inl (cI, 9, .inl fDa)), (aX, .inr (4, [.ref aSh, .ref aTe, .ref aRe, .ref aRF, .ref aTa, .ref aFD, .ref aPe, .ref aDr, .int (nI lw), .int (nI hm), .long fo, .int tr, .int (nI fa)])), (aTa, .inr (3, [.ref aHe])), (aHe, .inl (cJ, 360, .inr (.inl f_10))), (aPe, .inr (1, [.ref aKi, .ref aFr, .ref aTo, .ref aDa, .int (nI np), .int (nI sm), .int (nI nw)]))] := hD
    have hP := hP.sub (ws' := [(aX, .inr (4, [.ref aSh, .ref aTe, .ref aRe, .ref aRF, .ref aTa, .ref aFD, .ref aPe, .ref aDr, .int (nI lw), .int (nI hm), .long fo, .int tr, .int (nI fa)])), (aTa, .inr (3, [.ref aHe])), (aHe, .inl (cJ, 360, .inr (.inl f_10))), (aTe, .inr (0, [.ref aTp, .ref aTt, .ref aTd, .int (nI 8), .int (nI nt)])), (aTp, .inl (cI, 8, .inl fTp)), (aTt, .inl (cI, 8, .inl fTt)), (aTd, .inl (cI, 8, .inl fTd)), (aPe, .inr (1, [.ref aKi, .ref aFr, .ref aTo, .ref aDa, .int (nI np), .int (nI sm), .int (nI nw)])), (aKi, .inl (cI, 6, .inl fKi)), (aFr, .inl (cI, 9, .inl fFr)), (aTo, .inl (cI, 9, .inl fTo)), (aDa, .inl (cI, 9, .inl fDa))]) [8, 9, 10, 0, 1, 2, 3, 11, 4, 5, 6, 7] rfl
    have hD := hD.sub (ws' := [(aX, .inr (4, [.ref aSh, .ref aTe, .ref aRe, .ref aRF, .ref aTa, .ref aFD, .ref aPe, .ref aDr, .int (nI lw), .int (nI hm), .long fo, .int tr, .int (nI fa)])), (aTa, .inr (3, [.ref aHe])), (aHe, .inl (cJ, 360, .inr (.inl f_10))), (aTe, .inr (0, [.ref aTp, .ref aTt, .ref aTd, .int (nI 8), .int (nI nt)])), (aTp, .inl (cI, 8, .inl fTp)), (aTt, .inl (cI, 8, .inl fTt)), (aTd, .inl (cI, 8, .inl fTd)), (aPe, .inr (1, [.ref aKi, .ref aFr, .ref aTo, .ref aDa, .int (nI np), .int (nI sm), .int (nI nw)])), (aKi, .inl (cI, 6, .inl fKi)), (aFr, .inl (cI, 9, .inl fFr)), (aTo, .inl (cI, 9, .inl fTo)), (aDa, .inl (cI, 9, .inl fDa))]) [8, 9, 10, 0, 1, 2, 3, 11, 4, 5, 6, 7] (by decide) rfl
    refine lv_goto (tgt := 19) hx hb dX4_isReached_11 (by decide) ?_
    refine lv_aload_n hx hb dX4_isReached_19 rfl (lv_at hl 0 rfl) ?_
    refine va_get (D := (dC, dI)) (ci := 4) (v := .ref aTa) (C := RX4) (T := TX4) (N := 13) hx hb hts hinX4 hown hK hP 0 rfl rfl 4 (by decide) lk36 (fun _ h9 => h9) rfl dX4_isReached_20 ?_
    refine lv_aload_n hx hb dX4_isReached_23 rfl (lv_at hl 0 rfl) ?_
    refine va_get (D := (dC, dI)) (ci := 4) (v := .ref aPe) (C := RX4) (T := TX4) (N := 13) hx hb hts hinX4 hown hK hP 0 rfl rfl 6 (by decide) lk47 (fun _ h9 => h9) rfl dX4_isReached_24 ?_
    refine lv_iload_n hx hb dX4_isReached_27 rfl (lv_at hl 1 rfl) ?_
    refine k_if_eqb (tgt := 38) hx hb dX4_isReached_28 (by decide) (fun c28 => nomatch c28) (fun c28 => ?_)
    refine lv_aload_n hx hb dX4_isReached_31 rfl (lv_at hl 0 rfl) ?_
    refine va_get (D := (dC, dI)) (ci := 4) (v := .int (nI hm)) (C := RX4) (T := TX4) (N := 13) hx hb hts hinX4 hown hK hP 0 rfl rfl 9 (by decide) lk58 (fun _ h9 => h9) rfl dX4_isReached_32 ?_
    refine lv_goto (tgt := 44) hx hb dX4_isReached_35 (by decide) ?_
    refine lv_iconst (v := (-1)) hx hb dX4_isReached_44 (by decide) ?_
    refine kc_v (wr := [(aX, .inr (4, [.ref aSh, .ref aTe, .ref aRe, .ref aRF, .ref aTa, .ref aFD, .ref aPe, .ref aDr, .int (nI lw), .int (nI hm), .long fo, .int tr, .int (nI fa)])), (aTe, .inr (0, [.ref aTp, .ref aTt, .ref aTd, .int (nI 8), .int (nI nt)])), (aTp, .inl (cI, 8, .inl fTp)), (aTt, .inl (cI, 8, .inl fTt)), (aTd, .inl (cI, 8, .inl fTd))]) (va_runV (As := [.ref aPe, .int (nI hm), .int (-1)]) (rest := []) ⟨hx, hb, hml, hown, hts⟩ (kX3_spread aTa aHe f_10 aPe aKi aFr aTo aDa np sm nw fKi fFr fTo fDa kd wf wt wd hm (-1) (setS st t np) hw hpA hhm hr_8) (cwV 3 hts gX4_isReached_X3_spread rfl rfl rfl hvX3_spread ⟨Nat.le_of_ble_eq_true rfl, Nat.le_of_ble_eq_true rfl⟩) (kpreV hN (q := (RX3, TX3, 1)) (ci := 3) hK (hP.sub [1, 2, 7, 8, 9, 10, 11] rfl) (hD.sub [1, 2, 7, 8, 9, 10, 11] (by decide) rfl) 0 rfl rfl) rfl rfl hl.1 rfl (lv_room (Nat.le_of_ble_eq_true rfl)) dX4_isReached_45 ⟨Nat.zero_le _, Nat.zero_le _⟩) (fun _ => by simp only [List.map]) hP hD hS hA [1, 2, 7, 8, 9, 10, 11] [0, 3, 4, 5, 6] rfl rfl (by decide) (by decide) (by decide) (fun f_13 H_12 locs hr_11 hP hD hS => ?_)
    have hP : va_P (dC, dI) vwCl [(aX, .inr (4, [.ref aSh, .ref aTe, .ref aRe, .ref aRF, .ref aTa, .ref aFD, .ref aPe, .ref aDr, .int (nI lw), .int (nI hm), .long fo, .int tr, .int (nI fa)])), (aTe, .inr (0, [.ref aTp, .ref aTt, .ref aTd, .int (nI 8), .int (nI nt)])), (aTp, .inl (cI, 8, .inl fTp)), (aTt, .inl (cI, 8, .inl fTt)), (aTd, .inl (cI, 8, .inl fTd)), (aTa, .inr (3, [.ref aHe])), (aHe, .inl (cJ, 360, .inr (.inl f_13))), (aPe, .inr (1, [.ref aKi, .ref aFr, .ref aTo, .ref aDa, .int (nI np), .int (nI sm), .int (nI nw)])), (aKi, .inl (cI, 6, .inl fKi)), (aFr, .inl (cI, 9, .inl fFr)), (aTo, .inl (cI, 9, .inl fTo)), (aDa, .inl (cI, 9, .inl fDa))] H_12 := hP
    have hD : va_D zA [(aX, .inr (4, [.ref aSh, .ref aTe, .ref aRe, .ref aRF, .ref aTa, .ref aFD, .ref aPe, .ref aDr, .int (nI lw), .int (nI hm), .long fo, .int tr, .int (nI fa)])), (aTe, .inr (0, [.ref aTp, .ref aTt, .ref aTd, .int (nI 8), .int (nI nt)])), (aTp, .inl (cI, 8, .inl fTp)), (aTt, .inl (cI, 8, .inl fTt)), (aTd, .inl (cI, 8, .inl fTd)), (aTa, .inr (3, [.ref aHe])), (aHe, .inl (cJ, 360, .inr (.inl f_13))), (aPe, .inr (1, [.ref aKi, .ref aFr, .ref aTo, .ref aDa, .int (nI np), .int (nI sm), .int (nI nw)])), (aKi, .inl (cI, 6, .inl fKi)), (aFr, .inl (cI, 9, .inl fFr)), (aTo, .inl (cI, 9, .inl fTo)), (aDa, .inl (cI, 9, .inl fDa))] := hD
    have hP := hP.sub (ws' := [(aX, .inr (4, [.ref aSh, .ref aTe, .ref aRe, .ref aRF, .ref aTa, .ref aFD, .ref aPe, .ref aDr, .int (nI lw), .int (nI hm), .long fo, .int tr, .int (nI fa)])), (aTa, .inr (3, [.ref aHe])), (aHe, .inl (cJ, 360, .inr (.inl f_13))), (aTe, .inr (0, [.ref aTp, .ref aTt, .ref aTd, .int (nI 8), .int (nI nt)])), (aTp, .inl (cI, 8, .inl fTp)), (aTt, .inl (cI, 8, .inl fTt)), (aTd, .inl (cI, 8, .inl fTd)), (aPe, .inr (1, [.ref aKi, .ref aFr, .ref aTo, .ref aDa, .int (nI np), .int (nI sm), .int (nI nw)])), (aKi, .inl (cI, 6, .inl fKi)), (aFr, .inl (cI, 9, .inl fFr)), (aTo, .inl (cI, 9, .inl fTo)), (aDa, .inl (cI, 9, .inl fDa))]) [0, 5, 6, 1, 2, 3, 4, 7, 8, 9, 10, 11] rfl
    have hD := hD.sub (ws' := [(aX, .inr (4, [.ref aSh, .ref aTe, .ref aRe, .ref aRF, .ref aTa, .ref aFD, .ref aPe, .ref aDr, .int (nI lw), .int (nI hm), .long fo, .int tr, .int (nI fa)])), (aTa, .inr (3, [.ref aHe])), (aHe, .inl (cJ, 360, .inr (.inl f_13))), (aTe, .inr (0, [.ref aTp, .ref aTt, .ref aTd, .int (nI 8), .int (nI nt)])), (aTp, .inl (cI, 8, .inl fTp)), (aTt, .inl (cI, 8, .inl fTt)), (aTd, .inl (cI, 8, .inl fTd)), (aPe, .inr (1, [.ref aKi, .ref aFr, .ref aTo, .ref aDa, .int (nI np), .int (nI sm), .int (nI nw)])), (aKi, .inl (cI, 6, .inl fKi)), (aFr, .inl (cI, 9, .inl fFr)), (aTo, .inl (cI, 9, .inl fTo)), (aDa, .inl (cI, 9, .inl fDa))]) [0, 5, 6, 1, 2, 3, 4, 7, 8, 9, 10, 11] (by decide) rfl
    refine lv_aload_n hx hb dX4_isReached_48 rfl (lv_at hl 0 rfl) ?_
    refine lv_iload_n hx hb dX4_isReached_49 rfl (lv_at hl 3 rfl) ?_
    refine lv_iload hx hb dX4_isReached_50 (lv_at hl 4 rfl) ?_
    refine lv_iload hx hb dX4_isReached_52 (lv_at hl 5 rfl) ?_
    refine rc_i (va_runV (As := [.int (nI q), .int (nI t), .int (nI d)]) (rest := []) ⟨hx, hb, hml, hown, hts⟩ (kX4_hasForged aX aSh aTe aRe aRF aTa aFD aPe aDr lw hm fo tr fa aHe f_13 (hrd nw wf wt wd kd (actW hm (-1) wf) (setS st t np)) fg q t d hr_11 upH_hrd hfg hq ht hlw hd) (cwV 3 hts gX4_isReached_X4_hasForged rfl rfl rfl hvX4_hasForged ⟨Nat.le_of_ble_eq_true rfl, Nat.le_of_ble_eq_true rfl⟩) (rpreV hN (q := (RX4, TX4, 13)) (ci := 4) hK (hP.sub [0, 1, 2] rfl) 0 rfl rfl) rfl rfl hl.1 rfl (lv_room (Nat.le_of_ble_eq_true rfl)) dX4_isReached_54 ⟨Nat.zero_le _, Nat.zero_le _⟩) (fun r_14 hr_14 => ?_)
    have hr_14 : r_14 = kb (decide (fday (hrd nw wf wt wd kd (actW hm (-1) wf) (setS st t np)) lw fg q t ≤ d)) := hr_14
    rw [hr_14]
    refine lv_iload_n hx hb dX4_isReached_57 rfl (lv_at hl 1 rfl) ?_
    refine k_icmpb_ne (tgt := 65) hx hb dX4_isReached_58 (by decide) (fun c58 => ?_) (fun c58 => ?_)
    · refine lv_iconst (v := nI 0) hx hb dX4_isReached_65 (by decide) ?_
      refine k_cast (y := kb false) (rfl) ?_
      refine hret 66 _ false f_13 _ _ dX4_isReached_66 hS (fun t ht _ => by rw [ht]; exact hP) ?_
      unfold rch
      rw [if_pos rfl]
      rw [b_nt c58]
    · refine lv_iconst (v := nI 1) hx hb dX4_isReached_61 (by decide) ?_
      refine lv_goto (tgt := 66) hx hb dX4_isReached_62 (by decide) ?_
      refine k_cast (y := kb true) (rfl) ?_
      refine hret 66 _ true f_13 _ _ dX4_isReached_66 hS (fun t ht _ => by rw [ht]; exact hP) ?_
      unfold rch
      rw [if_pos rfl]
      rw [c58]

set_option maxHeartbeats 800000 in
set_option maxRecDepth 100000 in
theorem kX4_leastSet {zl : Launch} {dC : Nat → ClassId} {dI : Nat → Nat → Nat} {cI cJ cZ cS : ClassId} {sz : Nat} (aX : Nat) (aSh : Nat) (aTe : Nat) (aRe : Nat) (aRF : Nat) (aTa : Nat) (aFD : Nat) (aPe : Nat) (aDr : Nat) (lw : Nat) (hm : Nat) (fo : Int64) (tr : Int32) (fa : Nat) (aHe : Nat) (fHe : Nat → Int64) (aTp : Nat) (aTt : Nat) (aTd : Nat) (nt : Nat) (fTp : Nat → Int32) (fTt : Nat → Int32) (fTd : Nat → Int32) (aKi : Nat) (aFr : Nat) (aTo : Nat) (aDa : Nat) (np : Nat) (sm : Nat) (nw : Nat) (fKi : Nat → Int32) (fFr : Nat → Int32) (fTo : Nat → Int32) (fDa : Nat → Int32) (kd : Nat → Nat) (wf : Nat → Nat) (wt : Nat → Nat) (wd : Nat → Nat) (tp : Nat → Nat) (tt : Nat → Nat) (td : Nat → Nat) (fg : Nat → Bool) (b : Bool) (q : Nat) (t : Nat) (d : Nat) (P : Nat → Bool) (hw : waysOk np nw wf wt wd kd) (hpA : pplA np nw kd wf wt wd fKi fFr fTo fDa) (hta : tellA np nt tp tt td fTp fTt fTd) (hhm : hm < 64) (hsm : sm < 64) (hlw : lw ≤ 4) (hfg : ∀ d, d < 60 → bl fo d = fg d) (hq : q < 6) (ht : t < 4) (hd : d < 60) (hPP : ∀ st, st < 64 → P st = rch np nw wf wt wd kd hm tp tt td nt lw fg b q t d st) : Met zl yX4_leastSet wsX4_leastSet ({ frames := 5, cells := 0, slots := 0, locals := 129 } : Room) (va_Pc [.ref aX, .int (kb b), .int (nI q), .int (nI t), .int (nI d)] (kPre (dC, dI) (kT cI cJ cZ cS) [(aX, .inr (4, [.ref aSh, .ref aTe, .ref aRe, .ref aRF, .ref aTa, .ref aFD, .ref aPe, .ref aDr, .int (nI lw), .int (nI hm), .long fo, .int tr, .int (nI fa)])), (aTa, .inr (3, [.ref aHe])), (aHe, .inl (cJ, 360, .inr (.inl fHe))), (aTe, .inr (0, [.ref aTp, .ref aTt, .ref aTd, .int (nI 8), .int (nI nt)])), (aTp, .inl (cI, 8, .inl fTp)), (aTt, .inl (cI, 8, .inl fTt)), (aTd, .inl (cI, 8, .inl fTd)), (aPe, .inr (1, [.ref aKi, .ref aFr, .ref aTo, .ref aDa, .int (nI np), .int (nI sm), .int (nI nw)])), (aKi, .inl (cI, 6, .inl fKi)), (aFr, .inl (cI, 9, .inl fFr)), (aTo, .inl (cI, 9, .inl fTo)), (aDa, .inl (cI, 9, .inl fDa))] sz)) (va_Qi (fun (r : Int32) => fun (f1 : (Nat → Int64)) => r = kNone (lsx P np)) (fun (f1 : (Nat → Int64)) (zU : State) => va_P (dC, dI) vwCl [(aX, .inr (4, [.ref aSh, .ref aTe, .ref aRe, .ref aRF, .ref aTa, .ref aFD, .ref aPe, .ref aDr, .int (nI lw), .int (nI hm), .long fo, .int tr, .int (nI fa)])), (aTa, .inr (3, [.ref aHe])), (aHe, .inl (cJ, 360, .inr (.inl f1))), (aTe, .inr (0, [.ref aTp, .ref aTt, .ref aTd, .int (nI 8), .int (nI nt)])), (aTp, .inl (cI, 8, .inl fTp)), (aTt, .inl (cI, 8, .inl fTt)), (aTd, .inl (cI, 8, .inl fTd)), (aPe, .inr (1, [.ref aKi, .ref aFr, .ref aTo, .ref aDa, .int (nI np), .int (nI sm), .int (nI nw)])), (aKi, .inl (cI, 6, .inl fKi)), (aFr, .inl (cI, 9, .inl fFr)), (aTo, .inl (cI, 9, .inl fTo)), (aDa, .inl (cI, 9, .inl fDa))] zU.heap) (va_A [(aX, .inr (4, [.ref aSh, .ref aTe, .ref aRe, .ref aRF, .ref aTa, .ref aFD, .ref aPe, .ref aDr, .int (nI lw), .int (nI hm), .long fo, .int tr, .int (nI fa)])), (aTa, .inr (3, [.ref aHe])), (aHe, .inl (cJ, 360, .inr (.inl fHe))), (aTe, .inr (0, [.ref aTp, .ref aTt, .ref aTd, .int (nI 8), .int (nI nt)])), (aTp, .inl (cI, 8, .inl fTp)), (aTt, .inl (cI, 8, .inl fTt)), (aTd, .inl (cI, 8, .inl fTd)), (aPe, .inr (1, [.ref aKi, .ref aFr, .ref aTo, .ref aDa, .int (nI np), .int (nI sm), .int (nI nw)])), (aKi, .inl (cI, 6, .inl fKi)), (aFr, .inl (cI, 9, .inl fFr)), (aTo, .inl (cI, 9, .inl fTo)), (aDa, .inl (cI, 9, .inl fDa))] sz)) 0 0 (va_A [(aX, .inr (4, [.ref aSh, .ref aTe, .ref aRe, .ref aRF, .ref aTa, .ref aFD, .ref aPe, .ref aDr, .int (nI lw), .int (nI hm), .long fo, .int tr, .int (nI fa)])), (aTa, .inr (3, [.ref aHe])), (aHe, .inl (cJ, 360, .inr (.inl fHe))), (aTe, .inr (0, [.ref aTp, .ref aTt, .ref aTd, .int (nI 8), .int (nI nt)])), (aTp, .inl (cI, 8, .inl fTp)), (aTt, .inl (cI, 8, .inl fTt)), (aTd, .inl (cI, 8, .inl fTd)), (aPe, .inr (1, [.ref aKi, .ref aFr, .ref aTo, .ref aDa, .int (nI np), .int (nI sm), .int (nI nw)])), (aKi, .inl (cI, 6, .inl fKi)), (aFr, .inl (cI, 9, .inl fFr)), (aTo, .inl (cI, 9, .inl fTo)), (aDa, .inl (cI, 9, .inl fDa))] sz) := by
  refine kstartW_i (cc := cX4_leastSet) (maxL := 8) rfl rfl (Nat.le_of_ble_eq_true rfl) ?_
  intro zp ze zs zm zb zt zc za zQ zA hx hb hml hts hown hN hK hP hD hS hA hin hret ls hl
  have hl : lv_has ls 8 [(0, .ref aX), (1, .int (kb b)), (2, .int (nI q)), (3, .int (nI t)), (4, .int (nI d))] := hl
  have h6 := hw.1
  have hp64 := pw64 h6
  have hp1 := pw1 np
  have hinX1 : ∀ w ∈ wsX10, w ∈ wsX4_leastSet := fun _ h => List.mem_cons_of_mem _ (List.mem_append_left _ (List.mem_append_left _ (List.mem_append_right _ h)))
  have hinX4 : ∀ w ∈ wsX40, w ∈ wsX4_leastSet := fun _ h => List.mem_cons_of_mem _ (List.mem_append_left _ (List.mem_append_left _ (List.mem_append_left _ (List.mem_append_right _ h))))
  have lk95 := hts (.fieldLink RX4 95 "IronRumours$People" "persons" "I") (List.mem_of_getElem? (i := 2) rfl)
  have lk47 := hts (.fieldLink RX4 47 "IronRumours" "people" "LIronRumours$People;") (List.mem_of_getElem? (i := 1) rfl)
  refine lv_iconst (v := nI 1) hx hb dX4_leastSet_0 (by decide) ?_
  refine lv_aload_n hx hb dX4_leastSet_1 rfl (lv_at hl 0 rfl) ?_
  refine va_get (D := (dC, dI)) (ci := 4) (v := .ref aPe) (C := RX4) (T := TX4) (N := 13) hx hb hts hinX4 hown hK hP 0 rfl rfl 6 (by decide) lk47 (fun _ h9 => h9) rfl dX4_leastSet_2 ?_
  refine va_get (D := (dC, dI)) (ci := 1) (v := .int (nI np)) (C := RX1) (T := TX1) (N := 7) hx hb hts hinX1 hown hK hP 7 rfl rfl 4 (by decide) lk95 (fun _ h9 => h9) rfl dX4_leastSet_5 ?_
  refine lv_ishl hx hb dX4_leastSet_8 ?_
  refine k_cast (y := nI (2 ^ np)) (pw_shl np (by omega)) ?_
  refine lv_iconst (v := nI 1) hx hb dX4_leastSet_9 (by decide) ?_
  refine k_isub hx hb (by omega) dX4_leastSet_10 ?_
  refine lv_istore (lv' := [(5, .int (nI ((2 ^ np) - 1))), (0, .ref aX), (1, .int (kb b)), (2, .int (nI q)), (3, .int (nI t)), (4, .int (nI d))]) hx hb dX4_leastSet_11 hl (by decide) rfl (fun ls hl => ?_)
  refine lv_aload_n hx hb dX4_leastSet_13 rfl (lv_at hl 1 rfl) ?_
  refine lv_iload_n hx hb dX4_leastSet_14 rfl (lv_at hl 2 rfl) ?_
  refine lv_iload hx hb dX4_leastSet_15 (lv_at hl 0 rfl) ?_
  refine lv_iload_n hx hb dX4_leastSet_17 rfl (lv_at hl 3 rfl) ?_
  refine lv_iload_n hx hb dX4_leastSet_18 rfl (lv_at hl 4 rfl) ?_
  refine lv_iload hx hb dX4_leastSet_19 (lv_at hl 5 rfl) ?_
  refine kc_i (wr := []) (va_runV (As := [.int (kb b), .int (nI ((2 ^ np) - 1)), .int (nI q), .int (nI t), .int (nI d)]) (rest := []) ⟨hx, hb, hml, hown, hts⟩ (kX4_isReached aX aSh aTe aRe aRF aTa aFD aPe aDr lw hm fo tr fa aHe fHe aTp aTt aTd nt fTp fTt fTd aKi aFr aTo aDa np sm nw fKi fFr fTo fDa kd wf wt wd tp tt td fg b ((2 ^ np) - 1) q t d hw hpA hta hhm hsm hlw hfg (by omega) hq ht hd) (cwV 5 hts gX4_leastSet_X4_isReached rfl rfl rfl hvX4_isReached ⟨Nat.le_of_ble_eq_true rfl, Nat.le_of_ble_eq_true rfl⟩) (kpreV hN (q := (RX4, TX4, 13)) (ci := 4) hK (hP.sub [0, 1, 2, 3, 4, 5, 6, 7, 8, 9, 10, 11] rfl) (hD.sub [0, 1, 2, 3, 4, 5, 6, 7, 8, 9, 10, 11] (by decide) rfl) 0 rfl rfl) rfl rfl hl.1 rfl (lv_room (Nat.le_of_ble_eq_true rfl)) dX4_leastSet_21 ⟨Nat.zero_le _, Nat.zero_le _⟩) (fun _ => by simp only [List.map]) hP hD hS hA [0, 1, 2, 3, 4, 5, 6, 7, 8, 9, 10, 11] [] rfl rfl (by decide) (by decide) (by decide) (fun r_1 f_3 H_2 locs hr_1 hP hD hS => ?_)
  have hP : va_P (dC, dI) vwCl [(aX, .inr (4, [.ref aSh, .ref aTe, .ref aRe, .ref aRF, .ref aTa, .ref aFD, .ref aPe, .ref aDr, .int (nI lw), .int (nI hm), .long fo, .int tr, .int (nI fa)])), (aTa, .inr (3, [.ref aHe])), (aHe, .inl (cJ, 360, .inr (.inl f_3))), (aTe, .inr (0, [.ref aTp, .ref aTt, .ref aTd, .int (nI 8), .int (nI nt)])), (aTp, .inl (cI, 8, .inl fTp)), (aTt, .inl (cI, 8, .inl fTt)), (aTd, .inl (cI, 8, .inl fTd)), (aPe, .inr (1, [.ref aKi, .ref aFr, .ref aTo, .ref aDa, .int (nI np), .int (nI sm), .int (nI nw)])), (aKi, .inl (cI, 6, .inl fKi)), (aFr, .inl (cI, 9, .inl fFr)), (aTo, .inl (cI, 9, .inl fTo)), (aDa, .inl (cI, 9, .inl fDa))] H_2 := hP
  have hD : va_D zA [(aX, .inr (4, [.ref aSh, .ref aTe, .ref aRe, .ref aRF, .ref aTa, .ref aFD, .ref aPe, .ref aDr, .int (nI lw), .int (nI hm), .long fo, .int tr, .int (nI fa)])), (aTa, .inr (3, [.ref aHe])), (aHe, .inl (cJ, 360, .inr (.inl f_3))), (aTe, .inr (0, [.ref aTp, .ref aTt, .ref aTd, .int (nI 8), .int (nI nt)])), (aTp, .inl (cI, 8, .inl fTp)), (aTt, .inl (cI, 8, .inl fTt)), (aTd, .inl (cI, 8, .inl fTd)), (aPe, .inr (1, [.ref aKi, .ref aFr, .ref aTo, .ref aDa, .int (nI np), .int (nI sm), .int (nI nw)])), (aKi, .inl (cI, 6, .inl fKi)), (aFr, .inl (cI, 9, .inl fFr)), (aTo, .inl (cI, 9, .inl fTo)), (aDa, .inl (cI, 9, .inl fDa))] := hD
  have hr_1 : r_1 = kb (rch np nw wf wt wd kd hm tp tt td nt lw fg b q t d ((2 ^ np) - 1)) := hr_1
  rw [hr_1]
  refine k_cast (y := kb (P (2 ^ np - 1))) (congrArg kb (hPP _ (by omega)).symm) ?_
  refine k_if_neb (tgt := 30) hx hb dX4_leastSet_24 (by decide) (fun c24 => ?_) (fun c24 => ?_)
  · refine lv_iconst (v := nI 0) hx hb dX4_leastSet_30 (by decide) ?_
    refine lv_istore (lv' := [(6, .int (nI 0)), (5, .int (nI ((2 ^ np) - 1))), (0, .ref aX), (1, .int (kb b)), (2, .int (nI q)), (3, .int (nI t)), (4, .int (nI d))]) hx hb dX4_leastSet_31 hl (by decide) rfl (fun ls hl => ?_)
    have loop33 : ∀ (n33 : Nat) (k : Nat) (g : Nat → Int64), (k ≤ np) → (fstN (anyP P (2 ^ np - 1)) k = 999) → (np - k < n33) → ∀ (H_4 : Heap) (locs : List Loc), va_P (dC, dI) vwCl [(aX, .inr (4, [.ref aSh, .ref aTe, .ref aRe, .ref aRF, .ref aTa, .ref aFD, .ref aPe, .ref aDr, .int (nI lw), .int (nI hm), .long fo, .int tr, .int (nI fa)])), (aTa, .inr (3, [.ref aHe])), (aHe, .inl (cJ, 360, .inr (.inl g))), (aTe, .inr (0, [.ref aTp, .ref aTt, .ref aTd, .int (nI 8), .int (nI nt)])), (aTp, .inl (cI, 8, .inl fTp)), (aTt, .inl (cI, 8, .inl fTt)), (aTd, .inl (cI, 8, .inl fTd)), (aPe, .inr (1, [.ref aKi, .ref aFr, .ref aTo, .ref aDa, .int (nI np), .int (nI sm), .int (nI nw)])), (aKi, .inl (cI, 6, .inl fKi)), (aFr, .inl (cI, 9, .inl fFr)), (aTo, .inl (cI, 9, .inl fTo)), (aDa, .inl (cI, 9, .inl fDa))] H_4 → va_D zA [(aX, .inr (4, [.ref aSh, .ref aTe, .ref aRe, .ref aRF, .ref aTa, .ref aFD, .ref aPe, .ref aDr, .int (nI lw), .int (nI hm), .long fo, .int tr, .int (nI fa)])), (aTa, .inr (3, [.ref aHe])), (aHe, .inl (cJ, 360, .inr (.inl g))), (aTe, .inr (0, [.ref aTp, .ref aTt, .ref aTd, .int (nI 8), .int (nI nt)])), (aTp, .inl (cI, 8, .inl fTp)), (aTt, .inl (cI, 8, .inl fTt)), (aTd, .inl (cI, 8, .inl fTd)), (aPe, .inr (1, [.ref aKi, .ref aFr, .ref aTo, .ref aDa, .int (nI np), .int (nI sm), .int (nI nw)])), (aKi, .inl (cI, 6, .inl fKi)), (aFr, .inl (cI, 9, .inl fFr)), (aTo, .inl (cI, 9, .inl fTo)), (aDa, .inl (cI, 9, .inl fDa))] → va_S zA zs.heap H_4 locs → ∀ (ls : Array Slot), lv_has ls 8 [(0, .ref aX), (1, .int (kb b)), (2, .int (nI q)), (3, .int (nI t)), (4, .int (nI d)), (5, .int (nI (2 ^ np - 1))), (6, .int (nI k))] → W zp zl ze ({ frames := 5, cells := 0, slots := 0, locals := 129 } : Room) zs zm za zb zt zc H_4 locs 0 0 zQ (F0 zm 33 ls []) := by
      intro n33
      induction n33 with
      | zero => intro k g hk hf hme; exact absurd hme (Nat.not_lt_zero _)
      | succ n33 ih33 =>
        intro k g hk hf hme H_4 locs hP hD hS ls hl
        refine lv_iload hx hb dX4_leastSet_33 (lv_at hl 6 rfl) ?_
        refine lv_aload_n hx hb dX4_leastSet_35 rfl (lv_at hl 0 rfl) ?_
        refine va_get (D := (dC, dI)) (ci := 4) (v := .ref aPe) (C := RX4) (T := TX4) (N := 13) hx hb hts hinX4 hown hK hP 0 rfl rfl 6 (by decide) lk47 (fun _ h9 => h9) rfl dX4_leastSet_36 ?_
        refine va_get (D := (dC, dI)) (ci := 1) (v := .int (nI np)) (C := RX1) (T := TX1) (N := 7) hx hb hts hinX1 hown hK hP 7 rfl rfl 4 (by decide) lk95 (fun _ h9 => h9) rfl dX4_leastSet_39 ?_
        refine k_icmp_ge (tgt := 94) hx hb dX4_leastSet_42 (by decide) (by omega) (by omega) (fun c42 => ?_) (fun c42 => ?_)
        · refine lv_iload hx hb dX4_leastSet_94 (lv_at hl 5 rfl) ?_
          refine hret 96 _ (nI (2 ^ np - 1)) g _ _ dX4_leastSet_96 hS (fun t ht _ => by rw [ht]; exact hP) ?_
          have e : k = np := by omega
          subst e
          exact lsx_all h6 c24 hf
        · refine lv_iconst (v := nI 0) hx hb dX4_leastSet_45 (by decide) ?_
          refine lv_istore (lv' := [(7, .int (nI 0)), (0, .ref aX), (1, .int (kb b)), (2, .int (nI q)), (3, .int (nI t)), (4, .int (nI d)), (5, .int (nI (2 ^ np - 1))), (6, .int (nI k))]) hx hb dX4_leastSet_46 hl (by decide) rfl (fun ls hl => ?_)
          have loop48 : ∀ (n48 : Nat) (s : Nat) (g2 : Nat → Int64), (s ≤ 2 ^ np - 1) → (fstN (sizP P k) s = 999) → (2 ^ np - 1 - s < n48) → ∀ (H_5 : Heap) (locs : List Loc), va_P (dC, dI) vwCl [(aX, .inr (4, [.ref aSh, .ref aTe, .ref aRe, .ref aRF, .ref aTa, .ref aFD, .ref aPe, .ref aDr, .int (nI lw), .int (nI hm), .long fo, .int tr, .int (nI fa)])), (aTa, .inr (3, [.ref aHe])), (aHe, .inl (cJ, 360, .inr (.inl g2))), (aTe, .inr (0, [.ref aTp, .ref aTt, .ref aTd, .int (nI 8), .int (nI nt)])), (aTp, .inl (cI, 8, .inl fTp)), (aTt, .inl (cI, 8, .inl fTt)), (aTd, .inl (cI, 8, .inl fTd)), (aPe, .inr (1, [.ref aKi, .ref aFr, .ref aTo, .ref aDa, .int (nI np), .int (nI sm), .int (nI nw)])), (aKi, .inl (cI, 6, .inl fKi)), (aFr, .inl (cI, 9, .inl fFr)), (aTo, .inl (cI, 9, .inl fTo)), (aDa, .inl (cI, 9, .inl fDa))] H_5 → va_D zA [(aX, .inr (4, [.ref aSh, .ref aTe, .ref aRe, .ref aRF, .ref aTa, .ref aFD, .ref aPe, .ref aDr, .int (nI lw), .int (nI hm), .long fo, .int tr, .int (nI fa)])), (aTa, .inr (3, [.ref aHe])), (aHe, .inl (cJ, 360, .inr (.inl g2))), (aTe, .inr (0, [.ref aTp, .ref aTt, .ref aTd, .int (nI 8), .int (nI nt)])), (aTp, .inl (cI, 8, .inl fTp)), (aTt, .inl (cI, 8, .inl fTt)), (aTd, .inl (cI, 8, .inl fTd)), (aPe, .inr (1, [.ref aKi, .ref aFr, .ref aTo, .ref aDa, .int (nI np), .int (nI sm), .int (nI nw)])), (aKi, .inl (cI, 6, .inl fKi)), (aFr, .inl (cI, 9, .inl fFr)), (aTo, .inl (cI, 9, .inl fTo)), (aDa, .inl (cI, 9, .inl fDa))] → va_S zA zs.heap H_5 locs → ∀ (ls : Array Slot), lv_has ls 8 [(0, .ref aX), (1, .int (kb b)), (2, .int (nI q)), (3, .int (nI t)), (4, .int (nI d)), (5, .int (nI (2 ^ np - 1))), (6, .int (nI k)), (7, .int (nI s))] → W zp zl ze ({ frames := 5, cells := 0, slots := 0, locals := 129 } : Room) zs zm za zb zt zc H_5 locs 0 0 zQ (F0 zm 48 ls []) := by
            intro n48
            induction n48 with
            | zero => intro s g2 hs hg hme; exact absurd hme (Nat.not_lt_zero _)
            | succ n48 ih48 =>
              intro s g2 hs hg hme H_5 locs hP hD hS ls hl
              refine lv_iload hx hb dX4_leastSet_48 (lv_at hl 7 rfl) ?_
              refine lv_iload hx hb dX4_leastSet_50 (lv_at hl 5 rfl) ?_
              refine k_icmp_ge (tgt := 88) hx hb dX4_leastSet_52 (by decide) (by omega) (by omega) (fun c52 => ?_) (fun c52 => ?_)
              · refine lv_iinc (v := nI (k + 1)) (lv' := [(6, .int (nI (k + 1))), (0, .ref aX), (1, .int (kb b)), (2, .int (nI q)), (3, .int (nI t)), (4, .int (nI d)), (5, .int (nI (2 ^ np - 1))), (7, .int (nI s))]) hx hb dX4_leastSet_88 hl (k := 6) rfl (nI_add _ _) (by decide) rfl (fun ls hl => ?_)
                refine lv_goto (tgt := 33) hx hb dX4_leastSet_91 (by decide) ?_
                exact ih33 (k + 1) g2 (by omega) (by have e : s = 2 ^ np - 1 := (by omega); exact fstN_miss hf (anyP_no (e ▸ hg))) (by omega) _ _ hP hD hS _ (lv_sub hl [1, 2, 3, 4, 5, 6, 0] rfl)
              · refine lv_iload hx hb dX4_leastSet_55 (lv_at hl 7 rfl) ?_
                refine rc_i (va_runS (As := [.int (nI s)]) (rest := []) ⟨hx, hb, hml, hown, hts⟩ (kJ6_bitCount_0f7a4 s (by omega)) (va_cwS 1 hts gX4_leastSet_J6_bitCount_0f7a4 rfl rfl rfl hvJ6_bitCount_0f7a4 ⟨Nat.le_of_ble_eq_true rfl, Nat.le_of_ble_eq_true rfl⟩) (rpreS hN hK (hP.sub [] rfl)) rfl rfl hl.1 rfl (lv_room (Nat.le_of_ble_eq_true rfl)) dX4_leastSet_57 ⟨Nat.zero_le _, Nat.zero_le _⟩) (fun r_6 hr_6 => ?_)
                have hr_6 : r_6 = nI (popc s) := hr_6
                rw [hr_6]
                refine lv_iload hx hb dX4_leastSet_60 (lv_at hl 6 rfl) ?_
                refine k_icmp_ne (tgt := 82) hx hb dX4_leastSet_62 (by decide) (by have := popc_le s; omega) (by omega) (fun c62 => ?_) (fun c62 => ?_)
                · refine lv_iinc (v := nI (s + 1)) (lv' := [(7, .int (nI (s + 1))), (0, .ref aX), (1, .int (kb b)), (2, .int (nI q)), (3, .int (nI t)), (4, .int (nI d)), (5, .int (nI (2 ^ np - 1))), (6, .int (nI k))]) hx hb dX4_leastSet_82 hl (k := 7) rfl (nI_add _ _) (by decide) rfl (fun ls hl => ?_)
                  refine lv_goto (tgt := 48) hx hb dX4_leastSet_85 (by decide) ?_
                  exact ih48 (s + 1) g2 (by omega) (by exact fstN_miss hg (by unfold sizP; simp [c62])) (by omega) _ _ hP hD hS _ (lv_sub hl [1, 2, 3, 4, 5, 6, 7, 0] rfl)
                · refine lv_aload_n hx hb dX4_leastSet_65 rfl (lv_at hl 0 rfl) ?_
                  refine lv_iload_n hx hb dX4_leastSet_66 rfl (lv_at hl 1 rfl) ?_
                  refine lv_iload hx hb dX4_leastSet_67 (lv_at hl 7 rfl) ?_
                  refine lv_iload_n hx hb dX4_leastSet_69 rfl (lv_at hl 2 rfl) ?_
                  refine lv_iload_n hx hb dX4_leastSet_70 rfl (lv_at hl 3 rfl) ?_
                  refine lv_iload hx hb dX4_leastSet_71 (lv_at hl 4 rfl) ?_
                  refine kc_i (wr := []) (va_runV (As := [.int (kb b), .int (nI s), .int (nI q), .int (nI t), .int (nI d)]) (rest := []) ⟨hx, hb, hml, hown, hts⟩ (kX4_isReached aX aSh aTe aRe aRF aTa aFD aPe aDr lw hm fo tr fa aHe g2 aTp aTt aTd nt fTp fTt fTd aKi aFr aTo aDa np sm nw fKi fFr fTo fDa kd wf wt wd tp tt td fg b s q t d hw hpA hta hhm hsm hlw hfg (by omega) hq ht hd) (cwV 5 hts gX4_leastSet_X4_isReached rfl rfl rfl hvX4_isReached ⟨Nat.le_of_ble_eq_true rfl, Nat.le_of_ble_eq_true rfl⟩) (kpreV hN (q := (RX4, TX4, 13)) (ci := 4) hK (hP.sub [0, 1, 2, 3, 4, 5, 6, 7, 8, 9, 10, 11] rfl) (hD.sub [0, 1, 2, 3, 4, 5, 6, 7, 8, 9, 10, 11] (by decide) rfl) 0 rfl rfl) rfl rfl hl.1 rfl (lv_room (Nat.le_of_ble_eq_true rfl)) dX4_leastSet_73 ⟨Nat.zero_le _, Nat.zero_le _⟩) (fun _ => by simp only [List.map]) hP hD hS hA [0, 1, 2, 3, 4, 5, 6, 7, 8, 9, 10, 11] [] rfl rfl (by decide) (by decide) (by decide) (fun r_7 f_9 H_8 locs hr_7 hP hD hS => ?_)
                  have hP : va_P (dC, dI) vwCl [(aX, .inr (4, [.ref aSh, .ref aTe, .ref aRe, .ref aRF, .ref aTa, .ref aFD, .ref aPe, .ref aDr, .int (nI lw), .int (nI hm), .long fo, .int tr, .int (nI fa)])), (aTa, .inr (3, [.ref aHe])), (aHe, .inl (cJ, 360, .inr (.inl f_9))), (aTe, .inr (0, [.ref aTp, .ref aTt, .ref aTd, .int (nI 8), .int (nI nt)])), (aTp, .inl (cI, 8, .inl fTp)), (aTt, .inl (cI, 8, .inl fTt)), (aTd, .inl (cI, 8, .inl fTd)), (aPe, .inr (1, [.ref aKi, .ref aFr, .ref aTo, .ref aDa, .int (nI np), .int (nI sm), .int (nI nw)])), (aKi, .inl (cI, 6, .inl fKi)), (aFr, .inl (cI, 9, .inl fFr)), (aTo, .inl (cI, 9, .inl fTo)), (aDa, .inl (cI, 9, .inl fDa))] H_8 := hP
                  have hD : va_D zA [(aX, .inr (4, [.ref aSh, .ref aTe, .ref aRe, .ref aRF, .ref aTa, .ref aFD, .ref aPe, .ref aDr, .int (nI lw), .int (nI hm), .long fo, .int tr, .int (nI fa)])), (aTa, .inr (3, [.ref aHe])), (aHe, .inl (cJ, 360, .inr (.inl f_9))), (aTe, .inr (0, [.ref aTp, .ref aTt, .ref aTd, .int (nI 8), .int (nI nt)])), (aTp, .inl (cI, 8, .inl fTp)), (aTt, .inl (cI, 8, .inl fTt)), (aTd, .inl (cI, 8, .inl fTd)), (aPe, .inr (1, [.ref aKi, .ref aFr, .ref aTo, .ref aDa, .int (nI np), .int (nI sm), .int (nI nw)])), (aKi, .inl (cI, 6, .inl fKi)), (aFr, .inl (cI, 9, .inl fFr)), (aTo, .inl (cI, 9, .inl fTo)), (aDa, .inl (cI, 9, .inl fDa))] := hD
                  have hr_7 : r_7 = kb (rch np nw wf wt wd kd hm tp tt td nt lw fg b q t d s) := hr_7
                  rw [hr_7]
                  refine k_cast (y := kb (P s)) (congrArg kb (hPP _ (by omega)).symm) ?_
                  refine k_if_eqb (tgt := 82) hx hb dX4_leastSet_76 (by decide) (fun c76 => ?_) (fun c76 => ?_)
                  · refine lv_iinc (v := nI (s + 1)) (lv' := [(7, .int (nI (s + 1))), (0, .ref aX), (1, .int (kb b)), (2, .int (nI q)), (3, .int (nI t)), (4, .int (nI d)), (5, .int (nI (2 ^ np - 1))), (6, .int (nI k))]) hx hb dX4_leastSet_82 hl (k := 7) rfl (nI_add _ _) (by decide) rfl (fun ls hl => ?_)
                    refine lv_goto (tgt := 48) hx hb dX4_leastSet_85 (by decide) ?_
                    exact ih48 (s + 1) f_9 (by omega) (by exact fstN_miss hg (by unfold sizP; simp [c76])) (by omega) _ _ hP hD hS _ (lv_sub hl [1, 2, 3, 4, 5, 6, 7, 0] rfl)
                  · refine lv_iload hx hb dX4_leastSet_79 (lv_at hl 7 rfl) ?_
                    refine hret 81 _ (nI s) f_9 _ _ dX4_leastSet_81 hS (fun t ht _ => by rw [ht]; exact hP) ?_
                    exact lsx_found h6 c24 c42 hf c52 hg c62 c76
          exact loop48 ((2 ^ np - 1 - 0) + 1) 0 g (by omega) (by rfl) (by exact Nat.lt_succ_self _) _ _ hP hD hS _ (lv_sub hl [1, 2, 3, 4, 5, 6, 7, 0] rfl)
    exact loop33 ((np - 0) + 1) 0 f_3 (by omega) (by rfl) (by exact Nat.lt_succ_self _) _ _ hP hD hS _ (lv_sub hl [2, 3, 4, 5, 6, 1, 0] rfl)
  · refine lv_bipush (v := (-9)) hx hb dX4_leastSet_27 (by decide) ?_
    refine hret 29 _ (-9) f_3 _ _ dX4_leastSet_29 hS (fun t ht _ => by rw [ht]; exact hP) ?_
    exact lsx_none c24

set_option maxHeartbeats 800000 in
set_option maxRecDepth 100000 in
theorem kX4_worksOfRow {zl : Launch} {dC : Nat → ClassId} {dI : Nat → Nat → Nat} {cI cJ cZ cS : ClassId} {sz : Nat} (aX : Nat) (aSh : Nat) (aTe : Nat) (aRe : Nat) (aRF : Nat) (aTa : Nat) (aFD : Nat) (aPe : Nat) (aDr : Nat) (lw : Nat) (hm : Nat) (fo : Int64) (tr : Int32) (fa : Nat) (aHe : Nat) (fHe : Nat → Int64) (aKi : Nat) (aFr : Nat) (aTo : Nat) (aDa : Nat) (np : Nat) (sm : Nat) (nw : Nat) (fKi : Nat → Int32) (fFr : Nat → Int32) (fTo : Nat → Int32) (fDa : Nat → Int32) (aS : Nat) (aC : Nat) (la : Int32) (le : Nat) (fC : Nat → Int32) (kd : Nat → Nat) (wf : Nat → Nat) (wt : Nat → Nat) (wd : Nat → Nat) (fg : Nat → Bool) (t : Nat) (i : Nat) (n : Nat) (hw : waysOk np nw wf wt wd kd) (hpA : pplA np nw kd wf wt wd fKi fFr fTo fDa) (hhm : hm < 64) (hsm : sm < 64) (hlw : lw ≤ 4) (hfg : ∀ d, d < 60 → bl fo d = fg d) (ht : t < 4) (hn : n ≤ 8) (hin : i + n ≤ 60) : Met zl yX4_worksOfRow wsX4_worksOfRow ({ frames := 5, cells := 0, slots := 0, locals := 115 } : Room) (va_Pc [.ref aX, .int (nI t), .ref aS, .int (nI i), .int (nI n)] (kPre (dC, dI) (kT cI cJ cZ cS) [(aX, .inr (4, [.ref aSh, .ref aTe, .ref aRe, .ref aRF, .ref aTa, .ref aFD, .ref aPe, .ref aDr, .int (nI lw), .int (nI hm), .long fo, .int tr, .int (nI fa)])), (aTa, .inr (3, [.ref aHe])), (aHe, .inl (cJ, 360, .inr (.inl fHe))), (aPe, .inr (1, [.ref aKi, .ref aFr, .ref aTo, .ref aDa, .int (nI np), .int (nI sm), .int (nI nw)])), (aKi, .inl (cI, 6, .inl fKi)), (aFr, .inl (cI, 9, .inl fFr)), (aTo, .inl (cI, 9, .inl fTo)), (aDa, .inl (cI, 9, .inl fDa)), (aS, .inr (2, [.ref aC, .int la, .int (nI le)])), (aC, .inl (cI, 60, .inl fC))] sz)) (va_Qi (fun (r : Int32) => fun (f1 : (Nat → Int64)) => r = (if allN (fun m => blw (fC (i + m)) np) n = true then nI (wrk (hrd nw wf wt wd kd (actW hm (-1) wf) (rowS (fun m => fC (i + m)) t n)) lw fg sm np 59) else (-1))) (fun (f1 : (Nat → Int64)) (zU : State) => va_P (dC, dI) vwCl [(aX, .inr (4, [.ref aSh, .ref aTe, .ref aRe, .ref aRF, .ref aTa, .ref aFD, .ref aPe, .ref aDr, .int (nI lw), .int (nI hm), .long fo, .int tr, .int (nI fa)])), (aTa, .inr (3, [.ref aHe])), (aHe, .inl (cJ, 360, .inr (.inl f1))), (aPe, .inr (1, [.ref aKi, .ref aFr, .ref aTo, .ref aDa, .int (nI np), .int (nI sm), .int (nI nw)])), (aKi, .inl (cI, 6, .inl fKi)), (aFr, .inl (cI, 9, .inl fFr)), (aTo, .inl (cI, 9, .inl fTo)), (aDa, .inl (cI, 9, .inl fDa)), (aS, .inr (2, [.ref aC, .int la, .int (nI le)])), (aC, .inl (cI, 60, .inl fC))] zU.heap) (va_A [(aX, .inr (4, [.ref aSh, .ref aTe, .ref aRe, .ref aRF, .ref aTa, .ref aFD, .ref aPe, .ref aDr, .int (nI lw), .int (nI hm), .long fo, .int tr, .int (nI fa)])), (aTa, .inr (3, [.ref aHe])), (aHe, .inl (cJ, 360, .inr (.inl fHe))), (aPe, .inr (1, [.ref aKi, .ref aFr, .ref aTo, .ref aDa, .int (nI np), .int (nI sm), .int (nI nw)])), (aKi, .inl (cI, 6, .inl fKi)), (aFr, .inl (cI, 9, .inl fFr)), (aTo, .inl (cI, 9, .inl fTo)), (aDa, .inl (cI, 9, .inl fDa)), (aS, .inr (2, [.ref aC, .int la, .int (nI le)])), (aC, .inl (cI, 60, .inl fC))] sz)) 0 0 (va_A [(aX, .inr (4, [.ref aSh, .ref aTe, .ref aRe, .ref aRF, .ref aTa, .ref aFD, .ref aPe, .ref aDr, .int (nI lw), .int (nI hm), .long fo, .int tr, .int (nI fa)])), (aTa, .inr (3, [.ref aHe])), (aHe, .inl (cJ, 360, .inr (.inl fHe))), (aPe, .inr (1, [.ref aKi, .ref aFr, .ref aTo, .ref aDa, .int (nI np), .int (nI sm), .int (nI nw)])), (aKi, .inl (cI, 6, .inl fKi)), (aFr, .inl (cI, 9, .inl fFr)), (aTo, .inl (cI, 9, .inl fTo)), (aDa, .inl (cI, 9, .inl fDa)), (aS, .inr (2, [.ref aC, .int la, .int (nI le)])), (aC, .inl (cI, 60, .inl fC))] sz) := by
  refine kstartW_i (cc := cX4_worksOfRow) (maxL := 6) rfl rfl (Nat.le_of_ble_eq_true rfl) ?_
  intro zp ze zs zm zb zt zc za zQ zA hx hb hml hts hown hN hK hP hD hS hA hin hret ls hl
  have hl : lv_has ls 6 [(0, .ref aX), (1, .int (nI t)), (2, .ref aS), (3, .int (nI i)), (4, .int (nI n))] := hl
  have h6 := hw.1
  have hinX2 : ∀ w ∈ wsX20, w ∈ wsX4_worksOfRow := fun _ h => List.mem_cons_of_mem _ (List.mem_append_left _ (List.mem_append_left _ (List.mem_append_left _ (List.mem_append_right _ h))))
  have hinX4 : ∀ w ∈ wsX40, w ∈ wsX4_worksOfRow := fun _ h => List.mem_cons_of_mem _ (List.mem_append_left _ (List.mem_append_left _ (List.mem_append_right _ h)))
  have lk230 := hts (.fieldLink RX4 230 "IronRumours$Sheet" "cells" "[I") (List.mem_of_getElem? (i := 1) rfl)
  have lk36 := hts (.fieldLink RX4 36 "IronRumours" "talk" "LIronRumours$Talk;") (List.mem_of_getElem? (i := 2) rfl)
  have lk47 := hts (.fieldLink RX4 47 "IronRumours" "people" "LIronRumours$People;") (List.mem_of_getElem? (i := 3) rfl)
  have lk58 := hts (.fieldLink RX4 58 "IronRumours" "hushedNow" "I") (List.mem_of_getElem? (i := 4) rfl)
  refine lv_iconst (v := nI 0) hx hb dX4_worksOfRow_0 (by decide) ?_
  refine lv_istore (lv' := [(5, .int (nI 0)), (0, .ref aX), (1, .int (nI t)), (2, .ref aS), (3, .int (nI i)), (4, .int (nI n))]) hx hb dX4_worksOfRow_1 hl (by decide) rfl (fun ls hl => ?_)
  have loop3 : ∀ (n3 : Nat) (k : Nat), (k ≤ n) → (allN (fun m => blw (fC (i + m)) np) k = true) → (n - k < n3) → ∀ (H_1 : Heap) (locs : List Loc), va_P (dC, dI) vwCl [(aX, .inr (4, [.ref aSh, .ref aTe, .ref aRe, .ref aRF, .ref aTa, .ref aFD, .ref aPe, .ref aDr, .int (nI lw), .int (nI hm), .long fo, .int tr, .int (nI fa)])), (aTa, .inr (3, [.ref aHe])), (aHe, .inl (cJ, 360, .inr (.inl fHe))), (aPe, .inr (1, [.ref aKi, .ref aFr, .ref aTo, .ref aDa, .int (nI np), .int (nI sm), .int (nI nw)])), (aKi, .inl (cI, 6, .inl fKi)), (aFr, .inl (cI, 9, .inl fFr)), (aTo, .inl (cI, 9, .inl fTo)), (aDa, .inl (cI, 9, .inl fDa)), (aS, .inr (2, [.ref aC, .int la, .int (nI le)])), (aC, .inl (cI, 60, .inl fC))] H_1 → va_D zA [(aX, .inr (4, [.ref aSh, .ref aTe, .ref aRe, .ref aRF, .ref aTa, .ref aFD, .ref aPe, .ref aDr, .int (nI lw), .int (nI hm), .long fo, .int tr, .int (nI fa)])), (aTa, .inr (3, [.ref aHe])), (aHe, .inl (cJ, 360, .inr (.inl fHe))), (aPe, .inr (1, [.ref aKi, .ref aFr, .ref aTo, .ref aDa, .int (nI np), .int (nI sm), .int (nI nw)])), (aKi, .inl (cI, 6, .inl fKi)), (aFr, .inl (cI, 9, .inl fFr)), (aTo, .inl (cI, 9, .inl fTo)), (aDa, .inl (cI, 9, .inl fDa)), (aS, .inr (2, [.ref aC, .int la, .int (nI le)])), (aC, .inl (cI, 60, .inl fC))] → va_S zA zs.heap H_1 locs → ∀ (ls : Array Slot), lv_has ls 6 [(0, .ref aX), (1, .int (nI t)), (2, .ref aS), (3, .int (nI i)), (4, .int (nI n)), (5, .int (nI k))] → W zp zl ze ({ frames := 5, cells := 0, slots := 0, locals := 115 } : Room) zs zm za zb zt zc H_1 locs 0 0 zQ (F0 zm 3 ls []) := by
    intro n3
    induction n3 with
    | zero => intro k hk hf hme; exact absurd hme (Nat.not_lt_zero _)
    | succ n3 ih3 =>
      intro k hk hf hme H_1 locs hP hD hS ls hl
      refine lv_iload hx hb dX4_worksOfRow_3 (lv_at hl 5 rfl) ?_
      refine lv_iload hx hb dX4_worksOfRow_5 (lv_at hl 4 rfl) ?_
      refine k_icmp_ge (tgt := 34) hx hb dX4_worksOfRow_7 (by decide) (by omega) (by omega) (fun c7 => ?_) (fun c7 => ?_)
      · refine lv_aload_n hx hb dX4_worksOfRow_34 rfl (lv_at hl 0 rfl) ?_
        refine va_get (D := (dC, dI)) (ci := 4) (v := .ref aTa) (C := RX4) (T := TX4) (N := 13) hx hb hts hinX4 hown hK hP 0 rfl rfl 4 (by decide) lk36 (fun _ h9 => h9) rfl dX4_worksOfRow_35 ?_
        refine kc_v (wr := [(aX, .inr (4, [.ref aSh, .ref aTe, .ref aRe, .ref aRF, .ref aTa, .ref aFD, .ref aPe, .ref aDr, .int (nI lw), .int (nI hm), .long fo, .int tr, .int (nI fa)])), (aPe, .inr (1, [.ref aKi, .ref aFr, .ref aTo, .ref aDa, .int (nI np), .int (nI sm), .int (nI nw)])), (aKi, .inl (cI, 6, .inl fKi)), (aFr, .inl (cI, 9, .inl fFr)), (aTo, .inl (cI, 9, .inl fTo)), (aDa, .inl (cI, 9, .inl fDa)), (aS, .inr (2, [.ref aC, .int la, .int (nI le)])), (aC, .inl (cI, 60, .inl fC))]) (va_runV (As := []) (rest := []) ⟨hx, hb, hml, hown, hts⟩ (kX3_clear aTa aHe fHe ) (cwV 0 hts gX4_worksOfRow_X3_clear rfl rfl rfl hvX3_clear ⟨Nat.le_of_ble_eq_true rfl, Nat.le_of_ble_eq_true rfl⟩) (kpreV hN (q := (RX3, TX3, 1)) (ci := 3) hK (hP.sub [1, 2] rfl) (hD.sub [1, 2] (by decide) rfl) 0 rfl rfl) rfl rfl hl.1 rfl (lv_room (Nat.le_of_ble_eq_true rfl)) dX4_worksOfRow_38 ⟨Nat.zero_le _, Nat.zero_le _⟩) (fun _ => by simp only [List.map]) hP hD hS hA [1, 2] [0, 3, 4, 5, 6, 7, 8, 9] rfl rfl (by decide) (by decide) (by decide) (fun f_4 H_3 locs hr_2 hP hD hS => ?_)
        have hP : va_P (dC, dI) vwCl [(aX, .inr (4, [.ref aSh, .ref aTe, .ref aRe, .ref aRF, .ref aTa, .ref aFD, .ref aPe, .ref aDr, .int (nI lw), .int (nI hm), .long fo, .int tr, .int (nI fa)])), (aPe, .inr (1, [.ref aKi, .ref aFr, .ref aTo, .ref aDa, .int (nI np), .int (nI sm), .int (nI nw)])), (aKi, .inl (cI, 6, .inl fKi)), (aFr, .inl (cI, 9, .inl fFr)), (aTo, .inl (cI, 9, .inl fTo)), (aDa, .inl (cI, 9, .inl fDa)), (aS, .inr (2, [.ref aC, .int la, .int (nI le)])), (aC, .inl (cI, 60, .inl fC)), (aTa, .inr (3, [.ref aHe])), (aHe, .inl (cJ, 360, .inr (.inl f_4)))] H_3 := hP
        have hD : va_D zA [(aX, .inr (4, [.ref aSh, .ref aTe, .ref aRe, .ref aRF, .ref aTa, .ref aFD, .ref aPe, .ref aDr, .int (nI lw), .int (nI hm), .long fo, .int tr, .int (nI fa)])), (aPe, .inr (1, [.ref aKi, .ref aFr, .ref aTo, .ref aDa, .int (nI np), .int (nI sm), .int (nI nw)])), (aKi, .inl (cI, 6, .inl fKi)), (aFr, .inl (cI, 9, .inl fFr)), (aTo, .inl (cI, 9, .inl fTo)), (aDa, .inl (cI, 9, .inl fDa)), (aS, .inr (2, [.ref aC, .int la, .int (nI le)])), (aC, .inl (cI, 60, .inl fC)), (aTa, .inr (3, [.ref aHe])), (aHe, .inl (cJ, 360, .inr (.inl f_4)))] := hD
        have hP := hP.sub (ws' := [(aX, .inr (4, [.ref aSh, .ref aTe, .ref aRe, .ref aRF, .ref aTa, .ref aFD, .ref aPe, .ref aDr, .int (nI lw), .int (nI hm), .long fo, .int tr, .int (nI fa)])), (aTa, .inr (3, [.ref aHe])), (aHe, .inl (cJ, 360, .inr (.inl f_4))), (aPe, .inr (1, [.ref aKi, .ref aFr, .ref aTo, .ref aDa, .int (nI np), .int (nI sm), .int (nI nw)])), (aKi, .inl (cI, 6, .inl fKi)), (aFr, .inl (cI, 9, .inl fFr)), (aTo, .inl (cI, 9, .inl fTo)), (aDa, .inl (cI, 9, .inl fDa)), (aS, .inr (2, [.ref aC, .int la, .int (nI le)])), (aC, .inl (cI, 60, .inl fC))]) [0, 8, 9, 1, 2, 3, 4, 5, 6, 7] rfl
        have hD := hD.sub (ws' := [(aX, .inr (4, [.ref aSh, .ref aTe, .ref aRe, .ref aRF, .ref aTa, .ref aFD, .ref aPe, .ref aDr, .int (nI lw), .int (nI hm), .long fo, .int tr, .int (nI fa)])), (aTa, .inr (3, [.ref aHe])), (aHe, .inl (cJ, 360, .inr (.inl f_4))), (aPe, .inr (1, [.ref aKi, .ref aFr, .ref aTo, .ref aDa, .int (nI np), .int (nI sm), .int (nI nw)])), (aKi, .inl (cI, 6, .inl fKi)), (aFr, .inl (cI, 9, .inl fFr)), (aTo, .inl (cI, 9, .inl fTo)), (aDa, .inl (cI, 9, .inl fDa)), (aS, .inr (2, [.ref aC, .int la, .int (nI le)])), (aC, .inl (cI, 60, .inl fC))]) [0, 8, 9, 1, 2, 3, 4, 5, 6, 7] (by decide) rfl
        refine lv_iconst (v := nI 0) hx hb dX4_worksOfRow_41 (by decide) ?_
        refine lv_istore (lv' := [(5, .int (nI 0)), (0, .ref aX), (1, .int (nI t)), (2, .ref aS), (3, .int (nI i)), (4, .int (nI n))]) hx hb dX4_worksOfRow_42 hl (by decide) rfl (fun ls hl => ?_)
        have loop44 : ∀ (n44 : Nat) (j : Nat) (g : Nat → Int64), (j ≤ n) → (planted (rowS (fun m => fC (i + m)) t j) g) → (n - j < n44) → ∀ (H_5 : Heap) (locs : List Loc), va_P (dC, dI) vwCl [(aX, .inr (4, [.ref aSh, .ref aTe, .ref aRe, .ref aRF, .ref aTa, .ref aFD, .ref aPe, .ref aDr, .int (nI lw), .int (nI hm), .long fo, .int tr, .int (nI fa)])), (aTa, .inr (3, [.ref aHe])), (aHe, .inl (cJ, 360, .inr (.inl g))), (aPe, .inr (1, [.ref aKi, .ref aFr, .ref aTo, .ref aDa, .int (nI np), .int (nI sm), .int (nI nw)])), (aKi, .inl (cI, 6, .inl fKi)), (aFr, .inl (cI, 9, .inl fFr)), (aTo, .inl (cI, 9, .inl fTo)), (aDa, .inl (cI, 9, .inl fDa)), (aS, .inr (2, [.ref aC, .int la, .int (nI le)])), (aC, .inl (cI, 60, .inl fC))] H_5 → va_D zA [(aX, .inr (4, [.ref aSh, .ref aTe, .ref aRe, .ref aRF, .ref aTa, .ref aFD, .ref aPe, .ref aDr, .int (nI lw), .int (nI hm), .long fo, .int tr, .int (nI fa)])), (aTa, .inr (3, [.ref aHe])), (aHe, .inl (cJ, 360, .inr (.inl g))), (aPe, .inr (1, [.ref aKi, .ref aFr, .ref aTo, .ref aDa, .int (nI np), .int (nI sm), .int (nI nw)])), (aKi, .inl (cI, 6, .inl fKi)), (aFr, .inl (cI, 9, .inl fFr)), (aTo, .inl (cI, 9, .inl fTo)), (aDa, .inl (cI, 9, .inl fDa)), (aS, .inr (2, [.ref aC, .int la, .int (nI le)])), (aC, .inl (cI, 60, .inl fC))] → va_S zA zs.heap H_5 locs → ∀ (ls : Array Slot), lv_has ls 6 [(0, .ref aX), (1, .int (nI t)), (2, .ref aS), (3, .int (nI i)), (4, .int (nI n)), (5, .int (nI j))] → W zp zl ze ({ frames := 5, cells := 0, slots := 0, locals := 115 } : Room) zs zm za zb zt zc H_5 locs 0 0 zQ (F0 zm 44 ls []) := by
          intro n44
          induction n44 with
          | zero => intro j g hj hg hme; exact absurd hme (Nat.not_lt_zero _)
          | succ n44 ih44 =>
            intro j g hj hg hme H_5 locs hP hD hS ls hl
            refine lv_iload hx hb dX4_worksOfRow_44 (lv_at hl 5 rfl) ?_
            refine lv_iload hx hb dX4_worksOfRow_46 (lv_at hl 4 rfl) ?_
            refine k_icmp_ge (tgt := 78) hx hb dX4_worksOfRow_48 (by decide) (by omega) (by omega) (fun c48 => ?_) (fun c48 => ?_)
            · refine lv_aload_n hx hb dX4_worksOfRow_78 rfl (lv_at hl 0 rfl) ?_
              refine va_get (D := (dC, dI)) (ci := 4) (v := .ref aTa) (C := RX4) (T := TX4) (N := 13) hx hb hts hinX4 hown hK hP 0 rfl rfl 4 (by decide) lk36 (fun _ h9 => h9) rfl dX4_worksOfRow_79 ?_
              refine lv_aload_n hx hb dX4_worksOfRow_82 rfl (lv_at hl 0 rfl) ?_
              refine va_get (D := (dC, dI)) (ci := 4) (v := .ref aPe) (C := RX4) (T := TX4) (N := 13) hx hb hts hinX4 hown hK hP 0 rfl rfl 6 (by decide) lk47 (fun _ h9 => h9) rfl dX4_worksOfRow_83 ?_
              refine lv_aload_n hx hb dX4_worksOfRow_86 rfl (lv_at hl 0 rfl) ?_
              refine va_get (D := (dC, dI)) (ci := 4) (v := .int (nI hm)) (C := RX4) (T := TX4) (N := 13) hx hb hts hinX4 hown hK hP 0 rfl rfl 9 (by decide) lk58 (fun _ h9 => h9) rfl dX4_worksOfRow_87 ?_
              refine lv_iconst (v := (-1)) hx hb dX4_worksOfRow_90 (by decide) ?_
              refine kc_v (wr := [(aX, .inr (4, [.ref aSh, .ref aTe, .ref aRe, .ref aRF, .ref aTa, .ref aFD, .ref aPe, .ref aDr, .int (nI lw), .int (nI hm), .long fo, .int tr, .int (nI fa)])), (aS, .inr (2, [.ref aC, .int la, .int (nI le)])), (aC, .inl (cI, 60, .inl fC))]) (va_runV (As := [.ref aPe, .int (nI hm), .int (-1)]) (rest := []) ⟨hx, hb, hml, hown, hts⟩ (kX3_spread aTa aHe g aPe aKi aFr aTo aDa np sm nw fKi fFr fTo fDa kd wf wt wd hm (-1) (rowS (fun m => fC (i + m)) t n) hw hpA hhm ((show j = n by omega) ▸ hg)) (cwV 3 hts gX4_worksOfRow_X3_spread rfl rfl rfl hvX3_spread ⟨Nat.le_of_ble_eq_true rfl, Nat.le_of_ble_eq_true rfl⟩) (kpreV hN (q := (RX3, TX3, 1)) (ci := 3) hK (hP.sub [1, 2, 3, 4, 5, 6, 7] rfl) (hD.sub [1, 2, 3, 4, 5, 6, 7] (by decide) rfl) 0 rfl rfl) rfl rfl hl.1 rfl (lv_room (Nat.le_of_ble_eq_true rfl)) dX4_worksOfRow_91 ⟨Nat.zero_le _, Nat.zero_le _⟩) (fun _ => by simp only [List.map]) hP hD hS hA [1, 2, 3, 4, 5, 6, 7] [0, 8, 9] rfl rfl (by decide) (by decide) (by decide) (fun f_8 H_7 locs hr_6 hP hD hS => ?_)
              have hP : va_P (dC, dI) vwCl [(aX, .inr (4, [.ref aSh, .ref aTe, .ref aRe, .ref aRF, .ref aTa, .ref aFD, .ref aPe, .ref aDr, .int (nI lw), .int (nI hm), .long fo, .int tr, .int (nI fa)])), (aS, .inr (2, [.ref aC, .int la, .int (nI le)])), (aC, .inl (cI, 60, .inl fC)), (aTa, .inr (3, [.ref aHe])), (aHe, .inl (cJ, 360, .inr (.inl f_8))), (aPe, .inr (1, [.ref aKi, .ref aFr, .ref aTo, .ref aDa, .int (nI np), .int (nI sm), .int (nI nw)])), (aKi, .inl (cI, 6, .inl fKi)), (aFr, .inl (cI, 9, .inl fFr)), (aTo, .inl (cI, 9, .inl fTo)), (aDa, .inl (cI, 9, .inl fDa))] H_7 := hP
              have hD : va_D zA [(aX, .inr (4, [.ref aSh, .ref aTe, .ref aRe, .ref aRF, .ref aTa, .ref aFD, .ref aPe, .ref aDr, .int (nI lw), .int (nI hm), .long fo, .int tr, .int (nI fa)])), (aS, .inr (2, [.ref aC, .int la, .int (nI le)])), (aC, .inl (cI, 60, .inl fC)), (aTa, .inr (3, [.ref aHe])), (aHe, .inl (cJ, 360, .inr (.inl f_8))), (aPe, .inr (1, [.ref aKi, .ref aFr, .ref aTo, .ref aDa, .int (nI np), .int (nI sm), .int (nI nw)])), (aKi, .inl (cI, 6, .inl fKi)), (aFr, .inl (cI, 9, .inl fFr)), (aTo, .inl (cI, 9, .inl fTo)), (aDa, .inl (cI, 9, .inl fDa))] := hD
              have hP := hP.sub (ws' := [(aX, .inr (4, [.ref aSh, .ref aTe, .ref aRe, .ref aRF, .ref aTa, .ref aFD, .ref aPe, .ref aDr, .int (nI lw), .int (nI hm), .long fo, .int tr, .int (nI fa)])), (aTa, .inr (3, [.ref aHe])), (aHe, .inl (cJ, 360, .inr (.inl f_8))), (aPe, .inr (1, [.ref aKi, .ref aFr, .ref aTo, .ref aDa, .int (nI np), .int (nI sm), .int (nI nw)])), (aKi, .inl (cI, 6, .inl fKi)), (aFr, .inl (cI, 9, .inl fFr)), (aTo, .inl (cI, 9, .inl fTo)), (aDa, .inl (cI, 9, .inl fDa)), (aS, .inr (2, [.ref aC, .int la, .int (nI le)])), (aC, .inl (cI, 60, .inl fC))]) [0, 3, 4, 5, 6, 7, 8, 9, 1, 2] rfl
              have hD := hD.sub (ws' := [(aX, .inr (4, [.ref aSh, .ref aTe, .ref aRe, .ref aRF, .ref aTa, .ref aFD, .ref aPe, .ref aDr, .int (nI lw), .int (nI hm), .long fo, .int tr, .int (nI fa)])), (aTa, .inr (3, [.ref aHe])), (aHe, .inl (cJ, 360, .inr (.inl f_8))), (aPe, .inr (1, [.ref aKi, .ref aFr, .ref aTo, .ref aDa, .int (nI np), .int (nI sm), .int (nI nw)])), (aKi, .inl (cI, 6, .inl fKi)), (aFr, .inl (cI, 9, .inl fFr)), (aTo, .inl (cI, 9, .inl fTo)), (aDa, .inl (cI, 9, .inl fDa)), (aS, .inr (2, [.ref aC, .int la, .int (nI le)])), (aC, .inl (cI, 60, .inl fC))]) [0, 3, 4, 5, 6, 7, 8, 9, 1, 2] (by decide) rfl
              refine lv_aload_n hx hb dX4_worksOfRow_94 rfl (lv_at hl 0 rfl) ?_
              refine lv_bipush (v := nI 59) hx hb dX4_worksOfRow_95 (by decide) ?_
              refine rc_i (va_runV (As := [.int (nI 59)]) (rest := []) ⟨hx, hb, hml, hown, hts⟩ (kX4_worksBy aX aSh aTe aRe aRF aTa aFD aPe aDr lw hm fo tr fa aHe f_8 aKi aFr aTo aDa np sm nw (hrd nw wf wt wd kd (actW hm (-1) wf) (rowS (fun m => fC (i + m)) t n)) fg 59 hr_6 upH_hrd (by assumption) h6 hlw hsm (by omega)) (cwV 1 hts gX4_worksOfRow_X4_worksBy rfl rfl rfl hvX4_worksBy ⟨Nat.le_of_ble_eq_true rfl, Nat.le_of_ble_eq_true rfl⟩) (rpreV hN (q := (RX4, TX4, 13)) (ci := 4) hK (hP.sub [0, 1, 2, 3] rfl) 0 rfl rfl) rfl rfl hl.1 rfl (lv_room (Nat.le_of_ble_eq_true rfl)) dX4_worksOfRow_97 ⟨Nat.zero_le _, Nat.zero_le _⟩) (fun r_9 hr_9 => ?_)
              have hr_9 : r_9 = nI (wrk (hrd nw wf wt wd kd (actW hm (-1) wf) (rowS (fun m => fC (i + m)) t n)) lw fg sm np 59) := hr_9
              rw [hr_9]
              refine hret 100 _ (nI (wrk (hrd nw wf wt wd kd (actW hm (-1) wf) (rowS (fun m => fC (i + m)) t n)) lw fg sm np 59)) f_8 _ _ dX4_worksOfRow_100 hS (fun t ht _ => by rw [ht]; exact hP) ?_
              have e0 : k = n := by omega
              rw [if_pos (e0 ▸ hf)]
            · have e0 : k = n := by omega
              have hqj := allN_t.mp (e0 ▸ hf) j c48
              obtain ⟨q, hq, eq⟩ := blw_of (by omega) hqj
              have hqc : (fC (i + j)).toNatClampNeg = q := by
                rw [eq]
                exact nI_clamp (by omega)
              refine lv_aload_n hx hb dX4_worksOfRow_51 rfl (lv_at hl 0 rfl) ?_
              refine va_get (D := (dC, dI)) (ci := 4) (v := .ref aTa) (C := RX4) (T := TX4) (N := 13) hx hb hts hinX4 hown hK hP 0 rfl rfl 4 (by decide) lk36 (fun _ h9 => h9) rfl dX4_worksOfRow_52 ?_
              refine lv_aload_n hx hb dX4_worksOfRow_55 rfl (lv_at hl 2 rfl) ?_
              refine va_get (D := (dC, dI)) (ci := 2) (v := .ref aC) (C := RX2) (T := TX2) (N := 3) hx hb hts hinX2 hown hK hP 8 rfl rfl 0 (by decide) lk230 (fun _ h9 => h9) rfl dX4_worksOfRow_56 ?_
              refine lv_iload_n hx hb dX4_worksOfRow_59 rfl (lv_at hl 3 rfl) ?_
              refine lv_iload hx hb dX4_worksOfRow_60 (lv_at hl 5 rfl) ?_
              refine k_iadd hx hb dX4_worksOfRow_62 ?_
              refine k_iald hx hb hK hP 9 0 rfl rfl (n := 60) (v := nI q) (by omega) (by decide) (eq) dX4_worksOfRow_63 ?_
              refine lv_iload_n hx hb dX4_worksOfRow_64 rfl (lv_at hl 1 rfl) ?_
              refine lv_iload hx hb dX4_worksOfRow_65 (lv_at hl 5 rfl) ?_
              refine lv_iload hx hb dX4_worksOfRow_67 (lv_at hl 5 rfl) ?_
              refine kc_v (wr := [(aX, .inr (4, [.ref aSh, .ref aTe, .ref aRe, .ref aRF, .ref aTa, .ref aFD, .ref aPe, .ref aDr, .int (nI lw), .int (nI hm), .long fo, .int tr, .int (nI fa)])), (aPe, .inr (1, [.ref aKi, .ref aFr, .ref aTo, .ref aDa, .int (nI np), .int (nI sm), .int (nI nw)])), (aKi, .inl (cI, 6, .inl fKi)), (aFr, .inl (cI, 9, .inl fFr)), (aTo, .inl (cI, 9, .inl fTo)), (aDa, .inl (cI, 9, .inl fDa)), (aS, .inr (2, [.ref aC, .int la, .int (nI le)])), (aC, .inl (cI, 60, .inl fC))]) (va_runV (As := [.int (nI q), .int (nI t), .int (nI j), .int (nI j)]) (rest := []) ⟨hx, hb, hml, hown, hts⟩ (kX3_plant aTa aHe g q t j j (by omega) (by omega)) (cwV 4 hts gX4_worksOfRow_X3_plant rfl rfl rfl hvX3_plant ⟨Nat.le_of_ble_eq_true rfl, Nat.le_of_ble_eq_true rfl⟩) (kpreV hN (q := (RX3, TX3, 1)) (ci := 3) hK (hP.sub [1, 2] rfl) (hD.sub [1, 2] (by decide) rfl) 0 rfl rfl) rfl rfl hl.1 rfl (lv_room (Nat.le_of_ble_eq_true rfl)) dX4_worksOfRow_69 ⟨Nat.zero_le _, Nat.zero_le _⟩) (fun _ => by simp only [List.map]) hP hD hS hA [1, 2] [0, 3, 4, 5, 6, 7, 8, 9] rfl rfl (by decide) (by decide) (by decide) (fun f_12 H_11 locs hr_10 hP hD hS => ?_)
              have hP : va_P (dC, dI) vwCl [(aX, .inr (4, [.ref aSh, .ref aTe, .ref aRe, .ref aRF, .ref aTa, .ref aFD, .ref aPe, .ref aDr, .int (nI lw), .int (nI hm), .long fo, .int tr, .int (nI fa)])), (aPe, .inr (1, [.ref aKi, .ref aFr, .ref aTo, .ref aDa, .int (nI np), .int (nI sm), .int (nI nw)])), (aKi, .inl (cI, 6, .inl fKi)), (aFr, .inl (cI, 9, .inl fFr)), (aTo, .inl (cI, 9, .inl fTo)), (aDa, .inl (cI, 9, .inl fDa)), (aS, .inr (2, [.ref aC, .int la, .int (nI le)])), (aC, .inl (cI, 60, .inl fC)), (aTa, .inr (3, [.ref aHe])), (aHe, .inl (cJ, 360, .inr (.inl f_12)))] H_11 := hP
              have hD : va_D zA [(aX, .inr (4, [.ref aSh, .ref aTe, .ref aRe, .ref aRF, .ref aTa, .ref aFD, .ref aPe, .ref aDr, .int (nI lw), .int (nI hm), .long fo, .int tr, .int (nI fa)])), (aPe, .inr (1, [.ref aKi, .ref aFr, .ref aTo, .ref aDa, .int (nI np), .int (nI sm), .int (nI nw)])), (aKi, .inl (cI, 6, .inl fKi)), (aFr, .inl (cI, 9, .inl fFr)), (aTo, .inl (cI, 9, .inl fTo)), (aDa, .inl (cI, 9, .inl fDa)), (aS, .inr (2, [.ref aC, .int la, .int (nI le)])), (aC, .inl (cI, 60, .inl fC)), (aTa, .inr (3, [.ref aHe])), (aHe, .inl (cJ, 360, .inr (.inl f_12)))] := hD
              have hP := hP.sub (ws' := [(aX, .inr (4, [.ref aSh, .ref aTe, .ref aRe, .ref aRF, .ref aTa, .ref aFD, .ref aPe, .ref aDr, .int (nI lw), .int (nI hm), .long fo, .int tr, .int (nI fa)])), (aTa, .inr (3, [.ref aHe])), (aHe, .inl (cJ, 360, .inr (.inl f_12))), (aPe, .inr (1, [.ref aKi, .ref aFr, .ref aTo, .ref aDa, .int (nI np), .int (nI sm), .int (nI nw)])), (aKi, .inl (cI, 6, .inl fKi)), (aFr, .inl (cI, 9, .inl fFr)), (aTo, .inl (cI, 9, .inl fTo)), (aDa, .inl (cI, 9, .inl fDa)), (aS, .inr (2, [.ref aC, .int la, .int (nI le)])), (aC, .inl (cI, 60, .inl fC))]) [0, 8, 9, 1, 2, 3, 4, 5, 6, 7] rfl
              have hD := hD.sub (ws' := [(aX, .inr (4, [.ref aSh, .ref aTe, .ref aRe, .ref aRF, .ref aTa, .ref aFD, .ref aPe, .ref aDr, .int (nI lw), .int (nI hm), .long fo, .int tr, .int (nI fa)])), (aTa, .inr (3, [.ref aHe])), (aHe, .inl (cJ, 360, .inr (.inl f_12))), (aPe, .inr (1, [.ref aKi, .ref aFr, .ref aTo, .ref aDa, .int (nI np), .int (nI sm), .int (nI nw)])), (aKi, .inl (cI, 6, .inl fKi)), (aFr, .inl (cI, 9, .inl fFr)), (aTo, .inl (cI, 9, .inl fTo)), (aDa, .inl (cI, 9, .inl fDa)), (aS, .inr (2, [.ref aC, .int la, .int (nI le)])), (aC, .inl (cI, 60, .inl fC))]) [0, 8, 9, 1, 2, 3, 4, 5, 6, 7] (by decide) rfl
              refine lv_iinc (v := nI (j + 1)) (lv' := [(5, .int (nI (j + 1))), (0, .ref aX), (1, .int (nI t)), (2, .ref aS), (3, .int (nI i)), (4, .int (nI n))]) hx hb dX4_worksOfRow_72 hl (k := 5) rfl (nI_add _ _) (by decide) rfl (fun ls hl => ?_)
              refine lv_goto (tgt := 44) hx hb dX4_worksOfRow_75 (by decide) ?_
              exact ih44 (j + 1) f_12 (by omega) (by exact planted_put hg (by omega) (by omega) (by omega) hr_10 (rowS_s hqc)) (by omega) _ _ hP hD hS _ (lv_sub hl [1, 2, 3, 4, 5, 0] rfl)
        exact loop44 ((n - 0) + 1) 0 f_4 (by omega) (by exact planted_cong (planted_0 hr_2) (rowS_0 _ t)) (by exact Nat.lt_succ_self _) _ _ hP hD hS _ (lv_sub hl [1, 2, 3, 4, 5, 0] rfl)
      · refine lv_aload_n hx hb dX4_worksOfRow_10 rfl (lv_at hl 0 rfl) ?_
        refine lv_aload_n hx hb dX4_worksOfRow_11 rfl (lv_at hl 2 rfl) ?_
        refine va_get (D := (dC, dI)) (ci := 2) (v := .ref aC) (C := RX2) (T := TX2) (N := 3) hx hb hts hinX2 hown hK hP 8 rfl rfl 0 (by decide) lk230 (fun _ h9 => h9) rfl dX4_worksOfRow_12 ?_
        refine lv_iload_n hx hb dX4_worksOfRow_15 rfl (lv_at hl 3 rfl) ?_
        refine lv_iload hx hb dX4_worksOfRow_16 (lv_at hl 5 rfl) ?_
        refine k_iadd hx hb dX4_worksOfRow_18 ?_
        refine k_iald hx hb hK hP 9 0 rfl rfl (n := 60) (v := fC (i + k)) (by omega) (by decide) (rfl) dX4_worksOfRow_19 ?_
        refine rc_i (va_runV (As := [.int (fC (i + k))]) (rest := []) ⟨hx, hb, hml, hown, hts⟩ (kX4_isPerson aX aSh aTe aRe aRF aTa aFD aPe aDr lw hm fo tr fa aKi aFr aTo aDa np sm nw (fC (i + k)) h6) (cwV 1 hts gX4_worksOfRow_X4_isPerson rfl rfl rfl hvX4_isPerson ⟨Nat.le_of_ble_eq_true rfl, Nat.le_of_ble_eq_true rfl⟩) (rpreV hN (q := (RX4, TX4, 13)) (ci := 4) hK (hP.sub [0, 3] rfl) 0 rfl rfl) rfl rfl hl.1 rfl (lv_room (Nat.le_of_ble_eq_true rfl)) dX4_worksOfRow_20 ⟨Nat.zero_le _, Nat.zero_le _⟩) (fun r_13 hr_13 => ?_)
        have hr_13 : r_13 = kb (blw (fC (i + k)) np) := hr_13
        rw [hr_13]
        refine k_if_neb (tgt := 28) hx hb dX4_worksOfRow_23 (by decide) (fun c23 => ?_) (fun c23 => ?_)
        · refine lv_iinc (v := nI (k + 1)) (lv' := [(5, .int (nI (k + 1))), (0, .ref aX), (1, .int (nI t)), (2, .ref aS), (3, .int (nI i)), (4, .int (nI n))]) hx hb dX4_worksOfRow_28 hl (k := 5) rfl (nI_add _ _) (by decide) rfl (fun ls hl => ?_)
          refine lv_goto (tgt := 3) hx hb dX4_worksOfRow_31 (by decide) ?_
          exact ih3 (k + 1) (by omega) (by exact allN_s hf c23) (by omega) _ _ hP hD hS _ (lv_sub hl [1, 2, 3, 4, 5, 0] rfl)
        · refine lv_iconst (v := (-1)) hx hb dX4_worksOfRow_26 (by decide) ?_
          refine hret 27 _ (-1) fHe _ _ dX4_worksOfRow_27 hS (fun t ht _ => by rw [ht]; exact hP) ?_
          rw [if_neg (by rw [allN_f c7 c23]; decide)]
  exact loop3 ((n - 0) + 1) 0 (by omega) (by rfl) (by exact Nat.lt_succ_self _) _ _ hP hD hS _ (lv_sub hl [1, 2, 3, 4, 5, 0] rfl)
