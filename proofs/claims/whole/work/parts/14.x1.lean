set_option maxHeartbeats 800000 in
set_option maxRecDepth 100000 in
theorem kX1_codeAt {zl : Launch} {dC : Nat → ClassId} {dI : Nat → Nat → Nat} {cI cJ cZ cS : ClassId} (aS : Nat) (aC : Nat) (la : Int32) (le : Nat) (fC : Nat → Int32) (i : Nat) (n : Nat) (q : Nat) (hin : i + n ≤ 60) (hq : q < 1000) : Met zl yX1_codeAt wsX1_codeAt ({ frames := 0, cells := 0, slots := 0, locals := 0 } : Room) (va_Pc [.ref aS, .int (nI i), .int (nI n), .int (nI q)] (rPre (dC, dI) (kT cI cJ cZ cS) [(aS, .inr (2, [.ref aC, .int la, .int (nI le)])), (aC, .inl (cI, 60, .inl fC))])) (vp_Si (fun r : Int32 => r = kcode fC i n q)) 0 0 (fun _ => False) := by
  refine kstartR_i (cc := cX1_codeAt) (maxL := 4) rfl rfl (Nat.le_of_ble_eq_true rfl) ?_
  intro zp ze zs zm zb zt zc za zQ hx hb hml hts hown hN hK hP hret ls hl
  have hl : lv_has ls 4 [(0, .ref aS), (1, .int (nI i)), (2, .int (nI n)), (3, .int (nI q))] := hl
  have hinX2 : ∀ w ∈ wsX20, w ∈ wsX1_codeAt := fun _ h => List.mem_cons_of_mem _ (List.mem_append_right _ h)
  have lk57 := hts (.fieldLink RX1 57 "IronRumours$Sheet" "cells" "[I") (List.mem_of_getElem? (i := 1) rfl)
  refine lv_iload_n hx hb dX1_codeAt_0 rfl (lv_at hl 3 rfl) ?_
  refine lv_iload_n hx hb dX1_codeAt_1 rfl (lv_at hl 2 rfl) ?_
  refine k_icmp_ge (tgt := 16) hx hb dX1_codeAt_2 (by decide) (by omega) (by omega) (fun c2 => ?_) (fun c2 => ?_)
  · refine lv_iconst (v := nI 0) hx hb dX1_codeAt_16 (by decide) ?_
    refine hret 17 _ (nI 0) dX1_codeAt_17 ?_
    unfold kcode
    rw [if_neg (by omega)]
  · refine lv_aload_n hx hb dX1_codeAt_5 rfl (lv_at hl 0 rfl) ?_
    refine va_get (D := (dC, dI)) (ci := 2) (v := .ref aC) (C := RX2) (T := TX2) (N := 3) hx hb hts hinX2 hown hK hP 0 rfl rfl 0 (by decide) lk57 (fun _ h9 => h9) rfl dX1_codeAt_6 ?_
    refine lv_iload_n hx hb dX1_codeAt_9 rfl (lv_at hl 1 rfl) ?_
    refine lv_iload_n hx hb dX1_codeAt_10 rfl (lv_at hl 3 rfl) ?_
    refine k_iadd hx hb dX1_codeAt_11 ?_
    refine k_iald hx hb hK hP 1 0 rfl rfl (n := 60) (v := fC (i + q)) (by omega) (by decide) (rfl) dX1_codeAt_12 ?_
    refine lv_goto (tgt := 17) hx hb dX1_codeAt_13 (by decide) ?_
    refine hret 17 _ (fC (i + q)) dX1_codeAt_17 ?_
    unfold kcode
    rw [if_pos c2]

set_option maxHeartbeats 800000 in
set_option maxRecDepth 100000 in
theorem kX1_kindOf {zl : Launch} {dC : Nat → ClassId} {dI : Nat → Nat → Nat} {cI cJ cZ cS : ClassId} (x : Int32) : Met zl yX1_kindOf wsX1_kindOf ({ frames := 0, cells := 0, slots := 0, locals := 0 } : Room) (va_Pc [.int x] (rPre (dC, dI) (kT cI cJ cZ cS) [])) (vp_Si (fun r : Int32 => r = kNone (kindN x))) 0 0 (fun _ => False) := by
  refine kstartR_i (cc := cX1_kindOf) (maxL := 1) rfl rfl (Nat.le_of_ble_eq_true rfl) ?_
  intro zp ze zs zm zb zt zc za zQ hx hb hml hts hown hN hK hP hret ls hl
  have hl : lv_has ls 1 [(0, .int x)] := hl
  refine lv_iload_n hx hb dX1_kindOf_0 rfl (lv_at hl 0 rfl) ?_
  by_cases q1_106 : x = nI 106
  · rw [q1_106]
    refine lv_lookup (off := 37) (tgt := 38) hx hb dX1_kindOf_1 (by decide) (by decide) (by decide) ?_
    refine lv_iconst (v := nI 1) hx hb dX1_kindOf_38 (by decide) ?_
    refine hret 39 _ (nI 1) dX1_kindOf_39 ?_
    subst q1_106
    rfl
  by_cases q1_108 : x = nI 108
  · rw [q1_108]
    refine lv_lookup (off := 39) (tgt := 40) hx hb dX1_kindOf_1 (by decide) (by decide) (by decide) ?_
    refine lv_iconst (v := nI 2) hx hb dX1_kindOf_40 (by decide) ?_
    refine hret 41 _ (nI 2) dX1_kindOf_41 ?_
    subst q1_108
    rfl
  by_cases q1_116 : x = nI 116
  · rw [q1_116]
    refine lv_lookup (off := 35) (tgt := 36) hx hb dX1_kindOf_1 (by decide) (by decide) (by decide) ?_
    refine lv_iconst (v := nI 0) hx hb dX1_kindOf_36 (by decide) ?_
    refine hret 37 _ (nI 0) dX1_kindOf_37 ?_
    subst q1_116
    rfl
  refine lv_lookup (off := 41) (tgt := 42) hx hb dX1_kindOf_1 (by decide) (by rw [lv_osw q1_106 (by decide)]; rw [lv_osw q1_108 (by decide)]; rw [lv_osw q1_116 (by decide)]; try rfl) (by decide) ?_
  refine lv_bipush (v := (-9)) hx hb dX1_kindOf_42 (by decide) ?_
  refine hret 44 _ (-9) dX1_kindOf_44 ?_
  unfold kindN
  rw [if_neg q1_116, if_neg q1_106, if_neg q1_108]
  rfl

set_option maxHeartbeats 800000 in
set_option maxRecDepth 100000 in
theorem kX1_digitOf {zl : Launch} {dC : Nat → ClassId} {dI : Nat → Nat → Nat} {cI cJ cZ cS : ClassId} (x : Int32) (lo : Nat) (hi : Nat) (hlo : lo < 100) (hhi : hi < 100) : Met zl yX1_digitOf wsX1_digitOf ({ frames := 0, cells := 0, slots := 0, locals := 0 } : Room) (va_Pc [.int x, .int (nI lo), .int (nI hi)] (rPre (dC, dI) (kT cI cJ cZ cS) [])) (vp_Si (fun r : Int32 => r = kNone (digN x lo hi))) 0 0 (fun _ => False) := by
  refine kstartR_i (cc := cX1_digitOf) (maxL := 3) rfl rfl (Nat.le_of_ble_eq_true rfl) ?_
  intro zp ze zs zm zb zt zc za zQ hx hb hml hts hown hN hK hP hret ls hl
  have hl : lv_has ls 3 [(0, .int x), (1, .int (nI lo)), (2, .int (nI hi))] := hl
  refine lv_iload_n hx hb dX1_digitOf_0 rfl (lv_at hl 0 rfl) ?_
  refine lv_bipush (v := nI 48) hx hb dX1_digitOf_1 (by decide) ?_
  refine lv_iload_n hx hb dX1_digitOf_3 rfl (lv_at hl 1 rfl) ?_
  refine k_iadd hx hb dX1_digitOf_4 ?_
  refine lv_icmp_lt (tgt := 23) hx hb dX1_digitOf_5 (by decide) (fun c5 => ?_) (fun c5 => ?_)
  · refine lv_bipush (v := (-9)) hx hb dX1_digitOf_23 (by decide) ?_
    refine hret 25 _ (-9) dX1_digitOf_25 ?_
    rw [digN_lo (by omega) c5]
    rfl
  · refine lv_iload_n hx hb dX1_digitOf_8 rfl (lv_at hl 0 rfl) ?_
    refine lv_bipush (v := nI 48) hx hb dX1_digitOf_9 (by decide) ?_
    refine lv_iload_n hx hb dX1_digitOf_11 rfl (lv_at hl 2 rfl) ?_
    refine k_iadd hx hb dX1_digitOf_12 ?_
    refine lv_icmp_gt (tgt := 23) hx hb dX1_digitOf_13 (by decide) (fun c13 => ?_) (fun c13 => ?_)
    · refine lv_bipush (v := (-9)) hx hb dX1_digitOf_23 (by decide) ?_
      refine hret 25 _ (-9) dX1_digitOf_25 ?_
      rw [digN_hi (by omega) c13]
      rfl
    · refine lv_iload_n hx hb dX1_digitOf_16 rfl (lv_at hl 0 rfl) ?_
      refine lv_bipush (v := nI 48) hx hb dX1_digitOf_17 (by decide) ?_
      refine lv_isub hx hb dX1_digitOf_19 ?_
      refine lv_goto (tgt := 25) hx hb dX1_digitOf_20 (by decide) ?_
      refine hret 25 _ (x - (nI 48)) dX1_digitOf_25 ?_
      exact digN_in (by omega) (by omega) c5 c13

set_option maxHeartbeats 800000 in
set_option maxRecDepth 100000 in
theorem kX1_readPersons {zl : Launch} {dC : Nat → ClassId} {dI : Nat → Nat → Nat} {cI cJ cZ cS : ClassId} {sz : Nat} (aDr : Nat) (aDk : Nat) (aDf : Nat) (aDt : Nat) (aDd : Nat) (dnw : Nat) (fDk : Nat → Int32) (aS : Nat) (aC : Nat) (la : Int32) (le : Nat) (fC : Nat → Int32) (i : Nat) (n : Nat) (hin : i + n ≤ 60) : Met zl yX1_readPersons wsX1_readPersons ({ frames := 1, cells := 0, slots := 0, locals := 23 } : Room) (va_Pc [.ref aDr, .ref aS, .int (nI i), .int (nI n)] (kPre (dC, dI) (kT cI cJ cZ cS) [(aDr, .inr (1, [.ref aDk, .ref aDf, .ref aDt, .ref aDd, .int (nI 0), .int (nI 0), .int (nI dnw)])), (aDk, .inl (cI, 6, .inl fDk)), (aS, .inr (2, [.ref aC, .int la, .int (nI le)])), (aC, .inl (cI, 60, .inl fC))] sz)) (va_Qi (fun (r : Int32) => fun (u : (Nat → Int32) × Nat × Nat) => r = kSound (pFltP (kcode fC i n)) ∧ u.2.1 = nPer (kcode fC i n) ∧ u.2.2 = mskN (aB (kcode fC i n)) u.2.1 ∧ ∀ j, j < u.2.1 → u.1 j = nI (kindN ((kcode fC i n) (1 + 2 * j)))) (fun (u : (Nat → Int32) × Nat × Nat) (zU : State) => va_P (dC, dI) vwCl [(aDr, .inr (1, [.ref aDk, .ref aDf, .ref aDt, .ref aDd, .int (nI u.2.1), .int (nI u.2.2), .int (nI dnw)])), (aDk, .inl (cI, 6, .inl u.1)), (aS, .inr (2, [.ref aC, .int la, .int (nI le)])), (aC, .inl (cI, 60, .inl fC))] zU.heap) (va_A [(aDr, .inr (1, [.ref aDk, .ref aDf, .ref aDt, .ref aDd, .int (nI 0), .int (nI 0), .int (nI dnw)])), (aDk, .inl (cI, 6, .inl fDk)), (aS, .inr (2, [.ref aC, .int la, .int (nI le)])), (aC, .inl (cI, 60, .inl fC))] sz)) 0 0 (va_A [(aDr, .inr (1, [.ref aDk, .ref aDf, .ref aDt, .ref aDd, .int (nI 0), .int (nI 0), .int (nI dnw)])), (aDk, .inl (cI, 6, .inl fDk)), (aS, .inr (2, [.ref aC, .int la, .int (nI le)])), (aC, .inl (cI, 60, .inl fC))] sz) := by
  refine kstartW_i (cc := cX1_readPersons) (maxL := 7) rfl rfl (Nat.le_of_ble_eq_true rfl) ?_
  intro zp ze zs zm zb zt zc za zQ zA hx hb hml hts hown hN hK hP hD hS hA zin hret ls hl
  have hl : lv_has ls 7 [(0, .ref aDr), (1, .ref aS), (2, .int (nI i)), (3, .int (nI n))] := hl
  have hinX1 : ∀ w ∈ wsX10, w ∈ wsX1_readPersons := fun _ h => List.mem_cons_of_mem _ (List.mem_append_left _ (List.mem_append_right _ h))
  have lk9 := hts (.fieldLink RX1 9 "IronRumours$People" "kinds" "[I") (List.mem_of_getElem? (i := 2) rfl)
  have lk24 := hts (.fieldLink RX1 24 "IronRumours$People" "persons" "I") (List.mem_of_getElem? (i := 1) rfl)
  have lk28 := hts (.fieldLink RX1 28 "IronRumours$People" "smiths" "I") (List.mem_of_getElem? (i := 3) rfl)
  refine lv_iconst (v := nI 1) hx hb dX1_readPersons_0 (by decide) ?_
  refine lv_istore (lv' := [(4, .int (nI 1)), (0, .ref aDr), (1, .ref aS), (2, .int (nI i)), (3, .int (nI n))]) hx hb dX1_readPersons_1 hl (by decide) rfl (fun ls hl => ?_)
  have loop3 : ∀ (n3 : Nat) (k : Nat) (g : Nat → Int32), (k ≤ 6) → (allN (pOK (kcode fC i n)) k = true) → (∀ j, j < k → g j = nI (kindN ((kcode fC i n) (1 + 2 * j)))) → (6 - k < n3) → ∀ (H_1 : Heap) (locs : List Loc), va_P (dC, dI) vwCl [(aDr, .inr (1, [.ref aDk, .ref aDf, .ref aDt, .ref aDd, .int (nI k), .int (nI (mskN (aB (kcode fC i n)) k)), .int (nI dnw)])), (aDk, .inl (cI, 6, .inl g)), (aS, .inr (2, [.ref aC, .int la, .int (nI le)])), (aC, .inl (cI, 60, .inl fC))] H_1 → va_D zA [(aDr, .inr (1, [.ref aDk, .ref aDf, .ref aDt, .ref aDd, .int (nI k), .int (nI (mskN (aB (kcode fC i n)) k)), .int (nI dnw)])), (aDk, .inl (cI, 6, .inl g)), (aS, .inr (2, [.ref aC, .int la, .int (nI le)])), (aC, .inl (cI, 60, .inl fC))] → va_S zA zs.heap H_1 locs → ∀ (ls : Array Slot), lv_has ls 7 [(0, .ref aDr), (1, .ref aS), (2, .int (nI i)), (3, .int (nI n)), (4, .int (nI (1 + 2 * k)))] → W zp zl ze ({ frames := 1, cells := 0, slots := 0, locals := 23 } : Room) zs zm za zb zt zc H_1 locs 0 0 zQ (F0 zm 3 ls []) := by
    intro n3
    induction n3 with
    | zero => intro k g hk hf hg hme; exact absurd hme (Nat.not_lt_zero _)
    | succ n3 ih3 =>
      intro k g hk hf hg hme H_1 locs hP hD hS ls hl
      refine lv_aload_n hx hb dX1_readPersons_3 rfl (lv_at hl 0 rfl) ?_
      refine va_get (D := (dC, dI)) (ci := 1) (v := .int (nI k)) (C := RX1) (T := TX1) (N := 7) hx hb hts hinX1 hown hK hP 0 rfl rfl 4 (by decide) lk24 (fun _ h9 => h9) rfl dX1_readPersons_4 ?_
      refine lv_bipush (v := nI 6) hx hb dX1_readPersons_7 (by decide) ?_
      refine k_icmp_ge (tgt := 119) hx hb dX1_readPersons_9 (by decide) (by omega) (by omega) (fun c9 => ?_) (fun c9 => ?_)
      · refine lv_iconst (v := (-1)) hx hb dX1_readPersons_119 (by decide) ?_
        refine hret 120 _ (-1) (g, k, mskN (aB (kcode fC i n)) k) _ _ dX1_readPersons_120 hS (fun t ht _ => by rw [ht]; exact hP) ?_
        have e : k = 6 := by omega
        subst e
        have hx := per_all hf
        exact ⟨by rw [hx.2]; rfl, hx.1.symm, rfl, hg⟩
      · refine lv_aload_n hx hb dX1_readPersons_12 rfl (lv_at hl 1 rfl) ?_
        refine lv_iload_n hx hb dX1_readPersons_13 rfl (lv_at hl 2 rfl) ?_
        refine lv_iload_n hx hb dX1_readPersons_14 rfl (lv_at hl 3 rfl) ?_
        refine lv_iload hx hb dX1_readPersons_15 (lv_at hl 4 rfl) ?_
        refine rc_i (va_runS (As := [.ref aS, .int (nI i), .int (nI n), .int (nI (1 + 2 * k))]) (rest := []) ⟨hx, hb, hml, hown, hts⟩ (kX1_codeAt aS aC la le fC i n (1 + 2 * k) hin (by omega)) (va_cwS 4 hts gX1_readPersons_X1_codeAt rfl rfl rfl hvX1_codeAt ⟨Nat.le_of_ble_eq_true rfl, Nat.le_of_ble_eq_true rfl⟩) (rpreS hN hK (hP.sub [2, 3] rfl)) rfl rfl hl.1 rfl (lv_room (Nat.le_of_ble_eq_true rfl)) dX1_readPersons_17 ⟨Nat.zero_le _, Nat.zero_le _⟩) (fun r_2 hr_2 => ?_)
        have hr_2 : r_2 = kcode fC i n (1 + 2 * k) := hr_2
        rw [hr_2]
        refine rc_i (va_runS (As := [.int (kcode fC i n (1 + 2 * k))]) (rest := []) ⟨hx, hb, hml, hown, hts⟩ (kX1_kindOf (kcode fC i n (1 + 2 * k)) ) (va_cwS 1 hts gX1_readPersons_X1_kindOf rfl rfl rfl hvX1_kindOf ⟨Nat.le_of_ble_eq_true rfl, Nat.le_of_ble_eq_true rfl⟩) (rpreS hN hK (hP.sub [] rfl)) rfl rfl hl.1 rfl (lv_room (Nat.le_of_ble_eq_true rfl)) dX1_readPersons_20 ⟨Nat.zero_le _, Nat.zero_le _⟩) (fun r_3 hr_3 => ?_)
        have hr_3 : r_3 = kNone (kindN (kcode fC i n (1 + 2 * k))) := hr_3
        rw [hr_3]
        refine lv_istore (lv' := [(5, .int (kNone (kindN (kcode fC i n (1 + 2 * k))))), (0, .ref aDr), (1, .ref aS), (2, .int (nI i)), (3, .int (nI n)), (4, .int (nI (1 + 2 * k)))]) hx hb dX1_readPersons_23 hl (by decide) rfl (fun ls hl => ?_)
        refine lv_iload hx hb dX1_readPersons_25 (lv_at hl 0 rfl) ?_
        refine lv_bipush (v := (-9)) hx hb dX1_readPersons_27 (by decide) ?_
        refine lv_icmp_ne (tgt := 47) hx hb dX1_readPersons_29 (by decide) (fun c29 => ?_) (fun c29 => ?_)
        · have hkd := kind_9 c29
          rw [hkd.1] at hl
          refine lv_aload_n hx hb dX1_readPersons_47 rfl (lv_at hl 2 rfl) ?_
          refine lv_iload_n hx hb dX1_readPersons_48 rfl (lv_at hl 3 rfl) ?_
          refine lv_iload_n hx hb dX1_readPersons_49 rfl (lv_at hl 4 rfl) ?_
          refine lv_iload hx hb dX1_readPersons_50 (lv_at hl 5 rfl) ?_
          refine lv_iconst (v := nI 1) hx hb dX1_readPersons_52 (by decide) ?_
          refine k_iadd hx hb dX1_readPersons_53 ?_
          refine rc_i (va_runS (As := [.ref aS, .int (nI i), .int (nI n), .int (nI ((1 + 2 * k) + 1))]) (rest := []) ⟨hx, hb, hml, hown, hts⟩ (kX1_codeAt aS aC la le fC i n ((1 + 2 * k) + 1) hin (by omega)) (va_cwS 4 hts gX1_readPersons_X1_codeAt rfl rfl rfl hvX1_codeAt ⟨Nat.le_of_ble_eq_true rfl, Nat.le_of_ble_eq_true rfl⟩) (rpreS hN hK (hP.sub [2, 3] rfl)) rfl rfl hl.1 rfl (lv_room (Nat.le_of_ble_eq_true rfl)) dX1_readPersons_54 ⟨Nat.zero_le _, Nat.zero_le _⟩) (fun r_4 hr_4 => ?_)
          have hr_4 : r_4 = kcode fC i n ((1 + 2 * k) + 1) := hr_4
          rw [hr_4]
          refine lv_iconst (v := nI 0) hx hb dX1_readPersons_57 (by decide) ?_
          refine lv_iconst (v := nI 1) hx hb dX1_readPersons_58 (by decide) ?_
          refine rc_i (va_runS (As := [.int (kcode fC i n ((1 + 2 * k) + 1)), .int (nI 0), .int (nI 1)]) (rest := []) ⟨hx, hb, hml, hown, hts⟩ (kX1_digitOf (kcode fC i n ((1 + 2 * k) + 1)) 0 1 (by omega) (by omega)) (va_cwS 3 hts gX1_readPersons_X1_digitOf rfl rfl rfl hvX1_digitOf ⟨Nat.le_of_ble_eq_true rfl, Nat.le_of_ble_eq_true rfl⟩) (rpreS hN hK (hP.sub [] rfl)) rfl rfl hl.1 rfl (lv_room (Nat.le_of_ble_eq_true rfl)) dX1_readPersons_59 ⟨Nat.zero_le _, Nat.zero_le _⟩) (fun r_5 hr_5 => ?_)
          have hr_5 : r_5 = kNone (digN (kcode fC i n ((1 + 2 * k) + 1)) 0 1) := hr_5
          rw [hr_5]
          refine lv_istore (lv' := [(6, .int (kNone (digN (kcode fC i n ((1 + 2 * k) + 1)) 0 1))), (5, .int (nI (kindN ((kcode fC i n) (1 + 2 * k))))), (0, .ref aDr), (1, .ref aS), (2, .int (nI i)), (3, .int (nI n)), (4, .int (nI (1 + 2 * k)))]) hx hb dX1_readPersons_62 hl (by decide) rfl (fun ls hl => ?_)
          refine lv_iload hx hb dX1_readPersons_64 (lv_at hl 0 rfl) ?_
          refine lv_bipush (v := (-9)) hx hb dX1_readPersons_66 (by decide) ?_
          refine lv_icmp_ne (tgt := 76) hx hb dX1_readPersons_68 (by decide) (fun c68 => ?_) (fun c68 => ?_)
          · have hdg := dig_9 (by omega) c68
            rw [hdg.1] at hl
            have hl : lv_has ls 7 [(6, .int (nI (aNum (kcode fC i n) k))), (5, .int (nI (kindN ((kcode fC i n) (1 + 2 * k))))), (0, .ref aDr), (1, .ref aS), (2, .int (nI i)), (3, .int (nI n)), (4, .int (nI (1 + 2 * k)))] := hl
            refine lv_aload_n hx hb dX1_readPersons_76 rfl (lv_at hl 2 rfl) ?_
            refine va_get (D := (dC, dI)) (ci := 1) (v := .ref aDk) (C := RX1) (T := TX1) (N := 7) hx hb hts hinX1 hown hK hP 0 rfl rfl 0 (by decide) lk9 (fun _ h9 => h9) rfl dX1_readPersons_77 ?_
            refine lv_aload_n hx hb dX1_readPersons_80 rfl (lv_at hl 2 rfl) ?_
            refine va_get (D := (dC, dI)) (ci := 1) (v := .int (nI k)) (C := RX1) (T := TX1) (N := 7) hx hb hts hinX1 hown hK hP 0 rfl rfl 4 (by decide) lk24 (fun _ h9 => h9) rfl dX1_readPersons_81 ?_
            refine lv_iload hx hb dX1_readPersons_84 (lv_at hl 1 rfl) ?_
            refine k_iast hx hb hK hP hD hS 1 0 rfl rfl (n := 6) (by omega) (by decide) dX1_readPersons_86 (fun f_6 H_7 locs ef_6 hP hD hS => ?_)
            have hP : va_P (dC, dI) vwCl [(aDr, .inr (1, [.ref aDk, .ref aDf, .ref aDt, .ref aDd, .int (nI k), .int (nI (mskN (aB (kcode fC i n)) k)), .int (nI dnw)])), (aDk, .inl (cI, 6, .inl f_6)), (aS, .inr (2, [.ref aC, .int la, .int (nI le)])), (aC, .inl (cI, 60, .inl fC))] H_7 := hP
            have hD : va_D zA [(aDr, .inr (1, [.ref aDk, .ref aDf, .ref aDt, .ref aDd, .int (nI k), .int (nI (mskN (aB (kcode fC i n)) k)), .int (nI dnw)])), (aDk, .inl (cI, 6, .inl f_6)), (aS, .inr (2, [.ref aC, .int la, .int (nI le)])), (aC, .inl (cI, 60, .inl fC))] := hD
            refine lv_aload_n hx hb dX1_readPersons_87 rfl (lv_at hl 2 rfl) ?_
            refine lv_dup hx hb dX1_readPersons_88 rfl ?_
            refine va_get (D := (dC, dI)) (ci := 1) (v := .int (nI (mskN (aB (kcode fC i n)) k))) (C := RX1) (T := TX1) (N := 7) hx hb hts hinX1 hown hK hP 0 rfl rfl 5 (by decide) lk28 (fun _ h9 => h9) rfl dX1_readPersons_89 ?_
            refine lv_iload hx hb dX1_readPersons_92 (lv_at hl 0 rfl) ?_
            refine lv_aload_n hx hb dX1_readPersons_94 rfl (lv_at hl 2 rfl) ?_
            refine va_get (D := (dC, dI)) (ci := 1) (v := .int (nI k)) (C := RX1) (T := TX1) (N := 7) hx hb hts hinX1 hown hK hP 0 rfl rfl 4 (by decide) lk24 (fun _ h9 => h9) rfl dX1_readPersons_95 ?_
            refine lv_ishl hx hb dX1_readPersons_98 ?_
            refine lv_ior hx hb dX1_readPersons_99 ?_
            refine k_cast (y := nI (mskN (aB (kcode fC i n)) (k + 1))) (smk_or c9 hdg.2.2.2 rfl) ?_
            refine va_put (D := (dC, dI)) (ci := 1) (v := .int (nI (mskN (aB (kcode fC i n)) (k + 1)))) (ty := .int) (C := RX1) (T := TX1) (N := 7) hx hb hts hinX1 tyX1 tyX1_ok nmX1 hown hK hP hD hS 0 rfl rfl 5 (by decide) lk28 (fun _ h9 => h9) rfl (tyX1_ok 5 (by decide)) rfl rfl (Nat.le_of_ble_eq_true rfl) dX1_readPersons_100 (fun H_8 locs hP hD hS => ?_)
            have hP : va_P (dC, dI) vwCl [(aDr, .inr (1, [.ref aDk, .ref aDf, .ref aDt, .ref aDd, .int (nI k), .int (nI (mskN (aB (kcode fC i n)) (k + 1))), .int (nI dnw)])), (aDk, .inl (cI, 6, .inl f_6)), (aS, .inr (2, [.ref aC, .int la, .int (nI le)])), (aC, .inl (cI, 60, .inl fC))] H_8 := hP
            have hD : va_D zA [(aDr, .inr (1, [.ref aDk, .ref aDf, .ref aDt, .ref aDd, .int (nI k), .int (nI (mskN (aB (kcode fC i n)) (k + 1))), .int (nI dnw)])), (aDk, .inl (cI, 6, .inl f_6)), (aS, .inr (2, [.ref aC, .int la, .int (nI le)])), (aC, .inl (cI, 60, .inl fC))] := hD
            refine lv_aload_n hx hb dX1_readPersons_103 rfl (lv_at hl 2 rfl) ?_
            refine lv_dup hx hb dX1_readPersons_104 rfl ?_
            refine va_get (D := (dC, dI)) (ci := 1) (v := .int (nI k)) (C := RX1) (T := TX1) (N := 7) hx hb hts hinX1 hown hK hP 0 rfl rfl 4 (by decide) lk24 (fun _ h9 => h9) rfl dX1_readPersons_105 ?_
            refine lv_iconst (v := nI 1) hx hb dX1_readPersons_108 (by decide) ?_
            refine k_iadd hx hb dX1_readPersons_109 ?_
            refine va_put (D := (dC, dI)) (ci := 1) (v := .int (nI (k + 1))) (ty := .int) (C := RX1) (T := TX1) (N := 7) hx hb hts hinX1 tyX1 tyX1_ok nmX1 hown hK hP hD hS 0 rfl rfl 4 (by decide) lk24 (fun _ h9 => h9) rfl (tyX1_ok 4 (by decide)) rfl rfl (Nat.le_of_ble_eq_true rfl) dX1_readPersons_110 (fun H_9 locs hP hD hS => ?_)
            have hP : va_P (dC, dI) vwCl [(aDr, .inr (1, [.ref aDk, .ref aDf, .ref aDt, .ref aDd, .int (nI (k + 1)), .int (nI (mskN (aB (kcode fC i n)) (k + 1))), .int (nI dnw)])), (aDk, .inl (cI, 6, .inl f_6)), (aS, .inr (2, [.ref aC, .int la, .int (nI le)])), (aC, .inl (cI, 60, .inl fC))] H_9 := hP
            have hD : va_D zA [(aDr, .inr (1, [.ref aDk, .ref aDf, .ref aDt, .ref aDd, .int (nI (k + 1)), .int (nI (mskN (aB (kcode fC i n)) (k + 1))), .int (nI dnw)])), (aDk, .inl (cI, 6, .inl f_6)), (aS, .inr (2, [.ref aC, .int la, .int (nI le)])), (aC, .inl (cI, 60, .inl fC))] := hD
            refine lv_iinc (v := nI (1 + 2 * k + 2)) (lv' := [(4, .int (nI (1 + 2 * k + 2))), (6, .int (nI (aNum (kcode fC i n) k))), (5, .int (nI (kindN ((kcode fC i n) (1 + 2 * k))))), (0, .ref aDr), (1, .ref aS), (2, .int (nI i)), (3, .int (nI n))]) hx hb dX1_readPersons_113 hl (k := 6) rfl (nI_add _ _) (by decide) rfl (fun ls hl => ?_)
            refine lv_goto (tgt := 3) hx hb dX1_readPersons_116 (by decide) ?_
            rw [show 1 + 2 * k + 2 = 1 + 2 * (k + 1) by omega] at hl
            exact ih3 (k + 1) f_6 (by omega) (by exact per_step hf hkd.2.1 hdg.2.1) (by rw [ef_6]; exact upd_row hg rfl) (by omega) _ _ hP hD hS _ (lv_sub hl [3, 4, 5, 6, 0] rfl)
          · refine lv_iload hx hb dX1_readPersons_71 (lv_at hl 6 rfl) ?_
            refine lv_iconst (v := nI 1) hx hb dX1_readPersons_73 (by decide) ?_
            refine k_iadd hx hb dX1_readPersons_74 ?_
            refine hret 75 _ (nI ((1 + 2 * k) + 1)) (g, k, mskN (aB (kcode fC i n)) k) _ _ dX1_readPersons_75 hS (fun t ht _ => by rw [ht]; exact hP) ?_
            have hx := per_anvil c9 hf hkd.2.1 (dig_e (by omega) c68)
            exact ⟨by rw [hx.2, kSound_n (by omega)], hx.1.symm, rfl, hg⟩
        · refine lv_aload_n hx hb dX1_readPersons_32 rfl (lv_at hl 1 rfl) ?_
          refine va_get (D := (dC, dI)) (ci := 1) (v := .int (nI k)) (C := RX1) (T := TX1) (N := 7) hx hb hts hinX1 hown hK hP 0 rfl rfl 4 (by decide) lk24 (fun _ h9 => h9) rfl dX1_readPersons_33 ?_
          refine lv_iconst (v := nI 2) hx hb dX1_readPersons_36 (by decide) ?_
          refine k_icmp_ge (tgt := 45) hx hb dX1_readPersons_37 (by decide) (by omega) (by omega) (fun c37 => ?_) (fun c37 => ?_)
          · refine lv_iconst (v := (-1)) hx hb dX1_readPersons_45 (by decide) ?_
            refine hret 46 _ (-1) (g, k, mskN (aB (kcode fC i n)) k) _ _ dX1_readPersons_46 hS (fun t ht _ => by rw [ht]; exact hP) ?_
            have hx := per_kind c9 hf (kind_e c29)
            exact ⟨by rw [hx.2, if_neg (by omega)]; rfl, hx.1.symm, rfl, hg⟩
          · refine lv_iload hx hb dX1_readPersons_40 (lv_at hl 5 rfl) ?_
            refine lv_goto (tgt := 46) hx hb dX1_readPersons_42 (by decide) ?_
            refine hret 46 _ (nI (1 + 2 * k)) (g, k, mskN (aB (kcode fC i n)) k) _ _ dX1_readPersons_46 hS (fun t ht _ => by rw [ht]; exact hP) ?_
            have hx := per_kind c9 hf (kind_e c29)
            exact ⟨by rw [hx.2, if_pos c37, kSound_n (by omega)], hx.1.symm, rfl, hg⟩
  exact loop3 ((6 - 0) + 1) 0 fDk (by omega) (by rfl) (by intro j hj; omega) (by exact Nat.lt_succ_self _) _ _ hP hD hS _ (lv_sub hl [1, 2, 3, 4, 0] rfl)

set_option maxHeartbeats 800000 in
set_option maxRecDepth 100000 in
theorem kX1_readWays {zl : Launch} {dC : Nat → ClassId} {dI : Nat → Nat → Nat} {cI cJ cZ cS : ClassId} {sz : Nat} (aDr : Nat) (aDk : Nat) (aDf : Nat) (aDt : Nat) (aDd : Nat) (dsm : Nat) (fDf : Nat → Int32) (fDt : Nat → Int32) (fDd : Nat → Int32) (aS : Nat) (aC : Nat) (la : Int32) (le : Nat) (fC : Nat → Int32) (i : Nat) (n : Nat) (K : Nat) (hin : i + n ≤ 60) (hK : K ≤ 6) (hK2 : 1 ≤ K) : Met zl yX1_readWays wsX1_readWays ({ frames := 1, cells := 0, slots := 0, locals := 23 } : Room) (va_Pc [.ref aDr, .ref aS, .int (nI i), .int (nI n)] (kPre (dC, dI) (kT cI cJ cZ cS) [(aDr, .inr (1, [.ref aDk, .ref aDf, .ref aDt, .ref aDd, .int (nI K), .int (nI dsm), .int (nI 0)])), (aDf, .inl (cI, 9, .inl fDf)), (aDt, .inl (cI, 9, .inl fDt)), (aDd, .inl (cI, 9, .inl fDd)), (aS, .inr (2, [.ref aC, .int la, .int (nI le)])), (aC, .inl (cI, 60, .inl fC))] sz)) (va_Qi (fun (r : Int32) => fun (u : (Nat → Int32) × (Nat → Int32) × (Nat → Int32) × Nat) => r = kSound (pFltW (kcode fC i n) K n) ∧ u.2.2.2 = nWay (kcode fC i n) K ∧ (∀ j, j < u.2.2.2 → u.1 j = nI (dFr (kcode fC i n) K j)) ∧ (∀ j, j < u.2.2.2 → u.2.1 j = nI (dTo (kcode fC i n) K j)) ∧ (∀ j, j < u.2.2.2 → u.2.2.1 j = nI (dDa (kcode fC i n) K j))) (fun (u : (Nat → Int32) × (Nat → Int32) × (Nat → Int32) × Nat) (zU : State) => va_P (dC, dI) vwCl [(aDr, .inr (1, [.ref aDk, .ref aDf, .ref aDt, .ref aDd, .int (nI K), .int (nI dsm), .int (nI u.2.2.2)])), (aDf, .inl (cI, 9, .inl u.1)), (aDt, .inl (cI, 9, .inl u.2.1)), (aDd, .inl (cI, 9, .inl u.2.2.1)), (aS, .inr (2, [.ref aC, .int la, .int (nI le)])), (aC, .inl (cI, 60, .inl fC))] zU.heap) (va_A [(aDr, .inr (1, [.ref aDk, .ref aDf, .ref aDt, .ref aDd, .int (nI K), .int (nI dsm), .int (nI 0)])), (aDf, .inl (cI, 9, .inl fDf)), (aDt, .inl (cI, 9, .inl fDt)), (aDd, .inl (cI, 9, .inl fDd)), (aS, .inr (2, [.ref aC, .int la, .int (nI le)])), (aC, .inl (cI, 60, .inl fC))] sz)) 0 0 (va_A [(aDr, .inr (1, [.ref aDk, .ref aDf, .ref aDt, .ref aDd, .int (nI K), .int (nI dsm), .int (nI 0)])), (aDf, .inl (cI, 9, .inl fDf)), (aDt, .inl (cI, 9, .inl fDt)), (aDd, .inl (cI, 9, .inl fDd)), (aS, .inr (2, [.ref aC, .int la, .int (nI le)])), (aC, .inl (cI, 60, .inl fC))] sz) := by
  refine kstartW_i (cc := cX1_readWays) (maxL := 5) rfl rfl (Nat.le_of_ble_eq_true rfl) ?_
  intro zp ze zs zm zb zt zc za zQ zA hx hb hml hts hown hN hK hP hD hS hA zin hret ls hl
  have hl : lv_has ls 5 [(0, .ref aDr), (1, .ref aS), (2, .int (nI i)), (3, .int (nI n))] := hl
  have hinX1 : ∀ w ∈ wsX10, w ∈ wsX1_readWays := fun _ h => List.mem_cons_of_mem _ (List.mem_append_left _ (List.mem_append_right _ h))
  have lk15 := hts (.fieldLink RX1 15 "IronRumours$People" "from" "[I") (List.mem_of_getElem? (i := 3) rfl)
  have lk18 := hts (.fieldLink RX1 18 "IronRumours$People" "to" "[I") (List.mem_of_getElem? (i := 4) rfl)
  have lk21 := hts (.fieldLink RX1 21 "IronRumours$People" "days" "[I") (List.mem_of_getElem? (i := 5) rfl)
  have lk24 := hts (.fieldLink RX1 24 "IronRumours$People" "persons" "I") (List.mem_of_getElem? (i := 1) rfl)
  have lk31 := hts (.fieldLink RX1 31 "IronRumours$People" "ways" "I") (List.mem_of_getElem? (i := 2) rfl)
  refine lv_iconst (v := nI 1) hx hb dX1_readWays_0 (by decide) ?_
  refine lv_iconst (v := nI 2) hx hb dX1_readWays_1 (by decide) ?_
  refine lv_aload_n hx hb dX1_readWays_2 rfl (lv_at hl 0 rfl) ?_
  refine va_get (D := (dC, dI)) (ci := 1) (v := .int (nI K)) (C := RX1) (T := TX1) (N := 7) hx hb hts hinX1 hown hK hP 0 rfl rfl 4 (by decide) lk24 (fun _ h9 => h9) rfl dX1_readWays_3 ?_
  refine k_imul hx hb dX1_readWays_6 ?_
  refine k_iadd hx hb dX1_readWays_7 ?_
  refine lv_istore (lv' := [(4, .int (nI (1 + (2 * K)))), (0, .ref aDr), (1, .ref aS), (2, .int (nI i)), (3, .int (nI n))]) hx hb dX1_readWays_8 hl (by decide) rfl (fun ls hl => ?_)
  have loop10 : ∀ (n10 : Nat) (w : Nat) (g1 : Nat → Int32) (g2 : Nat → Int32) (g3 : Nat → Int32), (w ≤ 9) → (allN (wOK (kcode fC i n) K) w = true) → (∀ j, j < w → g1 j = nI (dFr (kcode fC i n) K j)) → (∀ j, j < w → g2 j = nI (dTo (kcode fC i n) K j)) → (∀ j, j < w → g3 j = nI (dDa (kcode fC i n) K j)) → (9 - w < n10) → ∀ (H_1 : Heap) (locs : List Loc), va_P (dC, dI) vwCl [(aDr, .inr (1, [.ref aDk, .ref aDf, .ref aDt, .ref aDd, .int (nI K), .int (nI dsm), .int (nI w)])), (aDf, .inl (cI, 9, .inl g1)), (aDt, .inl (cI, 9, .inl g2)), (aDd, .inl (cI, 9, .inl g3)), (aS, .inr (2, [.ref aC, .int la, .int (nI le)])), (aC, .inl (cI, 60, .inl fC))] H_1 → va_D zA [(aDr, .inr (1, [.ref aDk, .ref aDf, .ref aDt, .ref aDd, .int (nI K), .int (nI dsm), .int (nI w)])), (aDf, .inl (cI, 9, .inl g1)), (aDt, .inl (cI, 9, .inl g2)), (aDd, .inl (cI, 9, .inl g3)), (aS, .inr (2, [.ref aC, .int la, .int (nI le)])), (aC, .inl (cI, 60, .inl fC))] → va_S zA zs.heap H_1 locs → ∀ (ls : Array Slot), lv_has ls 5 [(0, .ref aDr), (1, .ref aS), (2, .int (nI i)), (3, .int (nI n)), (4, .int (nI (1 + 2 * K + 4 * w)))] → W zp zl ze ({ frames := 1, cells := 0, slots := 0, locals := 23 } : Room) zs zm za zb zt zc H_1 locs 0 0 zQ (F0 zm 10 ls []) := by
    intro n10
    induction n10 with
    | zero => intro w g1 g2 g3 hw9 hf hg1 hg2 hg3 hme; exact absurd hme (Nat.not_lt_zero _)
    | succ n10 ih10 =>
      intro w g1 g2 g3 hw9 hf hg1 hg2 hg3 hme H_1 locs hP hD hS ls hl
      refine lv_aload_n hx hb dX1_readWays_10 rfl (lv_at hl 0 rfl) ?_
      refine va_get (D := (dC, dI)) (ci := 1) (v := .int (nI w)) (C := RX1) (T := TX1) (N := 7) hx hb hts hinX1 hown hK hP 0 rfl rfl 6 (by decide) lk31 (fun _ h9 => h9) rfl dX1_readWays_11 ?_
      refine lv_bipush (v := nI 9) hx hb dX1_readWays_14 (by decide) ?_
      refine k_icmp_ge (tgt := 188) hx hb dX1_readWays_16 (by decide) (by omega) (by omega) (fun c16 => ?_) (fun c16 => ?_)
      · refine lv_iload hx hb dX1_readWays_188 (lv_at hl 4 rfl) ?_
        refine lv_iload_n hx hb dX1_readWays_190 rfl (lv_at hl 3 rfl) ?_
        refine k_icmp_ne (tgt := 198) hx hb dX1_readWays_191 (by decide) (by omega) (by omega) (fun c191 => ?_) (fun c191 => ?_)
        · refine lv_iload hx hb dX1_readWays_198 (lv_at hl 4 rfl) ?_
          refine hret 200 _ (nI (1 + 2 * K + 4 * w)) (g1, g2, g3, w) _ _ dX1_readWays_200 hS (fun t ht _ => by rw [ht]; exact hP) ?_
          have hx := way_end (n := n) hw9 hf (Or.inl c16)
          exact ⟨by rw [hx.2, if_neg (show ¬ wPl K w = n from c191), kSound_n (by unfold wPl; omega)]; rfl, hx.1.symm, hg1, hg2, hg3⟩
        · refine lv_iconst (v := (-1)) hx hb dX1_readWays_194 (by decide) ?_
          refine lv_goto (tgt := 200) hx hb dX1_readWays_195 (by decide) ?_
          refine hret 200 _ (-1) (g1, g2, g3, w) _ _ dX1_readWays_200 hS (fun t ht _ => by rw [ht]; exact hP) ?_
          have hx := way_end (n := n) hw9 hf (Or.inl c16)
          exact ⟨by rw [hx.2, if_pos (show wPl K w = n from c191)]; rfl, hx.1.symm, hg1, hg2, hg3⟩
      · refine lv_aload_n hx hb dX1_readWays_19 rfl (lv_at hl 1 rfl) ?_
        refine lv_iload_n hx hb dX1_readWays_20 rfl (lv_at hl 2 rfl) ?_
        refine lv_iload_n hx hb dX1_readWays_21 rfl (lv_at hl 3 rfl) ?_
        refine lv_iload hx hb dX1_readWays_22 (lv_at hl 4 rfl) ?_
        refine rc_i (va_runS (As := [.ref aS, .int (nI i), .int (nI n), .int (nI (1 + 2 * K + 4 * w))]) (rest := []) ⟨hx, hb, hml, hown, hts⟩ (kX1_codeAt aS aC la le fC i n (1 + 2 * K + 4 * w) hin (by omega)) (va_cwS 4 hts gX1_readWays_X1_codeAt rfl rfl rfl hvX1_codeAt ⟨Nat.le_of_ble_eq_true rfl, Nat.le_of_ble_eq_true rfl⟩) (rpreS hN hK (hP.sub [4, 5] rfl)) rfl rfl hl.1 rfl (lv_room (Nat.le_of_ble_eq_true rfl)) dX1_readWays_24 ⟨Nat.zero_le _, Nat.zero_le _⟩) (fun r_2 hr_2 => ?_)
        have hr_2 : r_2 = kcode fC i n (1 + 2 * K + 4 * w) := hr_2
        rw [hr_2]
        refine lv_bipush (v := nI 59) hx hb dX1_readWays_27 (by decide) ?_
        refine lv_icmp_ne (tgt := 188) hx hb dX1_readWays_29 (by decide) (fun c29 => ?_) (fun c29 => ?_)
        · refine lv_iload hx hb dX1_readWays_188 (lv_at hl 4 rfl) ?_
          refine lv_iload_n hx hb dX1_readWays_190 rfl (lv_at hl 3 rfl) ?_
          refine k_icmp_ne (tgt := 198) hx hb dX1_readWays_191 (by decide) (by omega) (by omega) (fun c191 => ?_) (fun c191 => ?_)
          · refine lv_iload hx hb dX1_readWays_198 (lv_at hl 4 rfl) ?_
            refine hret 200 _ (nI (1 + 2 * K + 4 * w)) (g1, g2, g3, w) _ _ dX1_readWays_200 hS (fun t ht _ => by rw [ht]; exact hP) ?_
            have hx := way_end (n := n) hw9 hf (Or.inr c29)
            exact ⟨by rw [hx.2, if_neg (show ¬ wPl K w = n from c191), kSound_n (by unfold wPl; omega)]; rfl, hx.1.symm, hg1, hg2, hg3⟩
          · refine lv_iconst (v := (-1)) hx hb dX1_readWays_194 (by decide) ?_
            refine lv_goto (tgt := 200) hx hb dX1_readWays_195 (by decide) ?_
            refine hret 200 _ (-1) (g1, g2, g3, w) _ _ dX1_readWays_200 hS (fun t ht _ => by rw [ht]; exact hP) ?_
            have hx := way_end (n := n) hw9 hf (Or.inr c29)
            exact ⟨by rw [hx.2, if_pos (show wPl K w = n from c191)]; rfl, hx.1.symm, hg1, hg2, hg3⟩
        · refine lv_aload_n hx hb dX1_readWays_32 rfl (lv_at hl 0 rfl) ?_
          refine va_get (D := (dC, dI)) (ci := 1) (v := .ref aDf) (C := RX1) (T := TX1) (N := 7) hx hb hts hinX1 hown hK hP 0 rfl rfl 1 (by decide) lk15 (fun _ h9 => h9) rfl dX1_readWays_33 ?_
          refine lv_aload_n hx hb dX1_readWays_36 rfl (lv_at hl 0 rfl) ?_
          refine va_get (D := (dC, dI)) (ci := 1) (v := .int (nI w)) (C := RX1) (T := TX1) (N := 7) hx hb hts hinX1 hown hK hP 0 rfl rfl 6 (by decide) lk31 (fun _ h9 => h9) rfl dX1_readWays_37 ?_
          refine lv_aload_n hx hb dX1_readWays_40 rfl (lv_at hl 1 rfl) ?_
          refine lv_iload_n hx hb dX1_readWays_41 rfl (lv_at hl 2 rfl) ?_
          refine lv_iload_n hx hb dX1_readWays_42 rfl (lv_at hl 3 rfl) ?_
          refine lv_iload hx hb dX1_readWays_43 (lv_at hl 4 rfl) ?_
          refine lv_iconst (v := nI 1) hx hb dX1_readWays_45 (by decide) ?_
          refine k_iadd hx hb dX1_readWays_46 ?_
          refine rc_i (va_runS (As := [.ref aS, .int (nI i), .int (nI n), .int (nI ((1 + 2 * K + 4 * w) + 1))]) (rest := [.int (nI w), .ref aDf]) ⟨hx, hb, hml, hown, hts⟩ (kX1_codeAt aS aC la le fC i n ((1 + 2 * K + 4 * w) + 1) hin (by omega)) (va_cwS 4 hts gX1_readWays_X1_codeAt rfl rfl rfl hvX1_codeAt ⟨Nat.le_of_ble_eq_true rfl, Nat.le_of_ble_eq_true rfl⟩) (rpreS hN hK (hP.sub [4, 5] rfl)) rfl rfl hl.1 rfl (lv_room (Nat.le_of_ble_eq_true rfl)) dX1_readWays_47 ⟨Nat.zero_le _, Nat.zero_le _⟩) (fun r_3 hr_3 => ?_)
          have hr_3 : r_3 = kcode fC i n ((1 + 2 * K + 4 * w) + 1) := hr_3
          rw [hr_3]
          refine lv_iconst (v := nI 0) hx hb dX1_readWays_50 (by decide) ?_
          refine lv_aload_n hx hb dX1_readWays_51 rfl (lv_at hl 0 rfl) ?_
          refine va_get (D := (dC, dI)) (ci := 1) (v := .int (nI K)) (C := RX1) (T := TX1) (N := 7) hx hb hts hinX1 hown hK hP 0 rfl rfl 4 (by decide) lk24 (fun _ h9 => h9) rfl dX1_readWays_52 ?_
          refine lv_iconst (v := nI 1) hx hb dX1_readWays_55 (by decide) ?_
          refine k_isub hx hb (by omega) dX1_readWays_56 ?_
          refine rc_i (va_runS (As := [.int (kcode fC i n ((1 + 2 * K + 4 * w) + 1)), .int (nI 0), .int (nI (K - 1))]) (rest := [.int (nI w), .ref aDf]) ⟨hx, hb, hml, hown, hts⟩ (kX1_digitOf (kcode fC i n ((1 + 2 * K + 4 * w) + 1)) 0 (K - 1) (by omega) (by omega)) (va_cwS 3 hts gX1_readWays_X1_digitOf rfl rfl rfl hvX1_digitOf ⟨Nat.le_of_ble_eq_true rfl, Nat.le_of_ble_eq_true rfl⟩) (rpreS hN hK (hP.sub [] rfl)) rfl rfl hl.1 rfl (lv_room (Nat.le_of_ble_eq_true rfl)) dX1_readWays_57 ⟨Nat.zero_le _, Nat.zero_le _⟩) (fun r_4 hr_4 => ?_)
          have hr_4 : r_4 = kNone (digN (kcode fC i n ((1 + 2 * K + 4 * w) + 1)) 0 (K - 1)) := hr_4
          rw [hr_4]
          refine k_iast hx hb hK hP hD hS 1 0 rfl rfl (n := 9) (by omega) (by decide) dX1_readWays_60 (fun f_5 H_6 locs ef_5 hP hD hS => ?_)
          have hP : va_P (dC, dI) vwCl [(aDr, .inr (1, [.ref aDk, .ref aDf, .ref aDt, .ref aDd, .int (nI K), .int (nI dsm), .int (nI w)])), (aDf, .inl (cI, 9, .inl f_5)), (aDt, .inl (cI, 9, .inl g2)), (aDd, .inl (cI, 9, .inl g3)), (aS, .inr (2, [.ref aC, .int la, .int (nI le)])), (aC, .inl (cI, 60, .inl fC))] H_6 := hP
          have hD : va_D zA [(aDr, .inr (1, [.ref aDk, .ref aDf, .ref aDt, .ref aDd, .int (nI K), .int (nI dsm), .int (nI w)])), (aDf, .inl (cI, 9, .inl f_5)), (aDt, .inl (cI, 9, .inl g2)), (aDd, .inl (cI, 9, .inl g3)), (aS, .inr (2, [.ref aC, .int la, .int (nI le)])), (aC, .inl (cI, 60, .inl fC))] := hD
          refine lv_aload_n hx hb dX1_readWays_61 rfl (lv_at hl 0 rfl) ?_
          refine va_get (D := (dC, dI)) (ci := 1) (v := .ref aDt) (C := RX1) (T := TX1) (N := 7) hx hb hts hinX1 hown hK hP 0 rfl rfl 2 (by decide) lk18 (fun _ h9 => h9) rfl dX1_readWays_62 ?_
          refine lv_aload_n hx hb dX1_readWays_65 rfl (lv_at hl 0 rfl) ?_
          refine va_get (D := (dC, dI)) (ci := 1) (v := .int (nI w)) (C := RX1) (T := TX1) (N := 7) hx hb hts hinX1 hown hK hP 0 rfl rfl 6 (by decide) lk31 (fun _ h9 => h9) rfl dX1_readWays_66 ?_
          refine lv_aload_n hx hb dX1_readWays_69 rfl (lv_at hl 1 rfl) ?_
          refine lv_iload_n hx hb dX1_readWays_70 rfl (lv_at hl 2 rfl) ?_
          refine lv_iload_n hx hb dX1_readWays_71 rfl (lv_at hl 3 rfl) ?_
          refine lv_iload hx hb dX1_readWays_72 (lv_at hl 4 rfl) ?_
          refine lv_iconst (v := nI 2) hx hb dX1_readWays_74 (by decide) ?_
          refine k_iadd hx hb dX1_readWays_75 ?_
          refine rc_i (va_runS (As := [.ref aS, .int (nI i), .int (nI n), .int (nI ((1 + 2 * K + 4 * w) + 2))]) (rest := [.int (nI w), .ref aDt]) ⟨hx, hb, hml, hown, hts⟩ (kX1_codeAt aS aC la le fC i n ((1 + 2 * K + 4 * w) + 2) hin (by omega)) (va_cwS 4 hts gX1_readWays_X1_codeAt rfl rfl rfl hvX1_codeAt ⟨Nat.le_of_ble_eq_true rfl, Nat.le_of_ble_eq_true rfl⟩) (rpreS hN hK (hP.sub [4, 5] rfl)) rfl rfl hl.1 rfl (lv_room (Nat.le_of_ble_eq_true rfl)) dX1_readWays_76 ⟨Nat.zero_le _, Nat.zero_le _⟩) (fun r_7 hr_7 => ?_)
          have hr_7 : r_7 = kcode fC i n ((1 + 2 * K + 4 * w) + 2) := hr_7
          rw [hr_7]
          refine lv_iconst (v := nI 0) hx hb dX1_readWays_79 (by decide) ?_
          refine lv_aload_n hx hb dX1_readWays_80 rfl (lv_at hl 0 rfl) ?_
          refine va_get (D := (dC, dI)) (ci := 1) (v := .int (nI K)) (C := RX1) (T := TX1) (N := 7) hx hb hts hinX1 hown hK hP 0 rfl rfl 4 (by decide) lk24 (fun _ h9 => h9) rfl dX1_readWays_81 ?_
          refine lv_iconst (v := nI 1) hx hb dX1_readWays_84 (by decide) ?_
          refine k_isub hx hb (by omega) dX1_readWays_85 ?_
          refine rc_i (va_runS (As := [.int (kcode fC i n ((1 + 2 * K + 4 * w) + 2)), .int (nI 0), .int (nI (K - 1))]) (rest := [.int (nI w), .ref aDt]) ⟨hx, hb, hml, hown, hts⟩ (kX1_digitOf (kcode fC i n ((1 + 2 * K + 4 * w) + 2)) 0 (K - 1) (by omega) (by omega)) (va_cwS 3 hts gX1_readWays_X1_digitOf rfl rfl rfl hvX1_digitOf ⟨Nat.le_of_ble_eq_true rfl, Nat.le_of_ble_eq_true rfl⟩) (rpreS hN hK (hP.sub [] rfl)) rfl rfl hl.1 rfl (lv_room (Nat.le_of_ble_eq_true rfl)) dX1_readWays_86 ⟨Nat.zero_le _, Nat.zero_le _⟩) (fun r_8 hr_8 => ?_)
          have hr_8 : r_8 = kNone (digN (kcode fC i n ((1 + 2 * K + 4 * w) + 2)) 0 (K - 1)) := hr_8
          rw [hr_8]
          refine k_iast hx hb hK hP hD hS 2 0 rfl rfl (n := 9) (by omega) (by decide) dX1_readWays_89 (fun f_9 H_10 locs ef_9 hP hD hS => ?_)
          have hP : va_P (dC, dI) vwCl [(aDr, .inr (1, [.ref aDk, .ref aDf, .ref aDt, .ref aDd, .int (nI K), .int (nI dsm), .int (nI w)])), (aDf, .inl (cI, 9, .inl f_5)), (aDt, .inl (cI, 9, .inl f_9)), (aDd, .inl (cI, 9, .inl g3)), (aS, .inr (2, [.ref aC, .int la, .int (nI le)])), (aC, .inl (cI, 60, .inl fC))] H_10 := hP
          have hD : va_D zA [(aDr, .inr (1, [.ref aDk, .ref aDf, .ref aDt, .ref aDd, .int (nI K), .int (nI dsm), .int (nI w)])), (aDf, .inl (cI, 9, .inl f_5)), (aDt, .inl (cI, 9, .inl f_9)), (aDd, .inl (cI, 9, .inl g3)), (aS, .inr (2, [.ref aC, .int la, .int (nI le)])), (aC, .inl (cI, 60, .inl fC))] := hD
          refine lv_aload_n hx hb dX1_readWays_90 rfl (lv_at hl 0 rfl) ?_
          refine va_get (D := (dC, dI)) (ci := 1) (v := .ref aDd) (C := RX1) (T := TX1) (N := 7) hx hb hts hinX1 hown hK hP 0 rfl rfl 3 (by decide) lk21 (fun _ h9 => h9) rfl dX1_readWays_91 ?_
          refine lv_aload_n hx hb dX1_readWays_94 rfl (lv_at hl 0 rfl) ?_
          refine va_get (D := (dC, dI)) (ci := 1) (v := .int (nI w)) (C := RX1) (T := TX1) (N := 7) hx hb hts hinX1 hown hK hP 0 rfl rfl 6 (by decide) lk31 (fun _ h9 => h9) rfl dX1_readWays_95 ?_
          refine lv_aload_n hx hb dX1_readWays_98 rfl (lv_at hl 1 rfl) ?_
          refine lv_iload_n hx hb dX1_readWays_99 rfl (lv_at hl 2 rfl) ?_
          refine lv_iload_n hx hb dX1_readWays_100 rfl (lv_at hl 3 rfl) ?_
          refine lv_iload hx hb dX1_readWays_101 (lv_at hl 4 rfl) ?_
          refine lv_iconst (v := nI 3) hx hb dX1_readWays_103 (by decide) ?_
          refine k_iadd hx hb dX1_readWays_104 ?_
          refine rc_i (va_runS (As := [.ref aS, .int (nI i), .int (nI n), .int (nI ((1 + 2 * K + 4 * w) + 3))]) (rest := [.int (nI w), .ref aDd]) ⟨hx, hb, hml, hown, hts⟩ (kX1_codeAt aS aC la le fC i n ((1 + 2 * K + 4 * w) + 3) hin (by omega)) (va_cwS 4 hts gX1_readWays_X1_codeAt rfl rfl rfl hvX1_codeAt ⟨Nat.le_of_ble_eq_true rfl, Nat.le_of_ble_eq_true rfl⟩) (rpreS hN hK (hP.sub [4, 5] rfl)) rfl rfl hl.1 rfl (lv_room (Nat.le_of_ble_eq_true rfl)) dX1_readWays_105 ⟨Nat.zero_le _, Nat.zero_le _⟩) (fun r_11 hr_11 => ?_)
          have hr_11 : r_11 = kcode fC i n ((1 + 2 * K + 4 * w) + 3) := hr_11
          rw [hr_11]
          refine lv_iconst (v := nI 1) hx hb dX1_readWays_108 (by decide) ?_
          refine lv_bipush (v := nI 9) hx hb dX1_readWays_109 (by decide) ?_
          refine rc_i (va_runS (As := [.int (kcode fC i n ((1 + 2 * K + 4 * w) + 3)), .int (nI 1), .int (nI 9)]) (rest := [.int (nI w), .ref aDd]) ⟨hx, hb, hml, hown, hts⟩ (kX1_digitOf (kcode fC i n ((1 + 2 * K + 4 * w) + 3)) 1 9 (by omega) (by omega)) (va_cwS 3 hts gX1_readWays_X1_digitOf rfl rfl rfl hvX1_digitOf ⟨Nat.le_of_ble_eq_true rfl, Nat.le_of_ble_eq_true rfl⟩) (rpreS hN hK (hP.sub [] rfl)) rfl rfl hl.1 rfl (lv_room (Nat.le_of_ble_eq_true rfl)) dX1_readWays_111 ⟨Nat.zero_le _, Nat.zero_le _⟩) (fun r_12 hr_12 => ?_)
          have hr_12 : r_12 = kNone (digN (kcode fC i n ((1 + 2 * K + 4 * w) + 3)) 1 9) := hr_12
          rw [hr_12]
          refine k_iast hx hb hK hP hD hS 3 0 rfl rfl (n := 9) (by omega) (by decide) dX1_readWays_114 (fun f_13 H_14 locs ef_13 hP hD hS => ?_)
          have hP : va_P (dC, dI) vwCl [(aDr, .inr (1, [.ref aDk, .ref aDf, .ref aDt, .ref aDd, .int (nI K), .int (nI dsm), .int (nI w)])), (aDf, .inl (cI, 9, .inl f_5)), (aDt, .inl (cI, 9, .inl f_9)), (aDd, .inl (cI, 9, .inl f_13)), (aS, .inr (2, [.ref aC, .int la, .int (nI le)])), (aC, .inl (cI, 60, .inl fC))] H_14 := hP
          have hD : va_D zA [(aDr, .inr (1, [.ref aDk, .ref aDf, .ref aDt, .ref aDd, .int (nI K), .int (nI dsm), .int (nI w)])), (aDf, .inl (cI, 9, .inl f_5)), (aDt, .inl (cI, 9, .inl f_9)), (aDd, .inl (cI, 9, .inl f_13)), (aS, .inr (2, [.ref aC, .int la, .int (nI le)])), (aC, .inl (cI, 60, .inl fC))] := hD
          refine lv_aload_n hx hb dX1_readWays_115 rfl (lv_at hl 0 rfl) ?_
          refine va_get (D := (dC, dI)) (ci := 1) (v := .ref aDf) (C := RX1) (T := TX1) (N := 7) hx hb hts hinX1 hown hK hP 0 rfl rfl 1 (by decide) lk15 (fun _ h9 => h9) rfl dX1_readWays_116 ?_
          refine lv_aload_n hx hb dX1_readWays_119 rfl (lv_at hl 0 rfl) ?_
          refine va_get (D := (dC, dI)) (ci := 1) (v := .int (nI w)) (C := RX1) (T := TX1) (N := 7) hx hb hts hinX1 hown hK hP 0 rfl rfl 6 (by decide) lk31 (fun _ h9 => h9) rfl dX1_readWays_120 ?_
          refine k_iald hx hb hK hP 1 0 rfl rfl (n := 9) (v := kNone (dFr (kcode fC i n) K w)) (by omega) (by decide) (by rw [ef_5]; exact pk_us) dX1_readWays_123 ?_
          refine lv_bipush (v := (-9)) hx hb dX1_readWays_124 (by decide) ?_
          refine lv_icmp_ne (tgt := 134) hx hb dX1_readWays_126 (by decide) (fun c126 => ?_) (fun c126 => ?_)
          · have h1 : kNone (dFr (kcode fC i n) K w) = nI (dFr (kcode fC i n) K w) ∧ dFr (kcode fC i n) K w ≠ 999 ∧ 0 ≤ dFr (kcode fC i n) K w ∧ dFr (kcode fC i n) K w ≤ K - 1 := dig_9 (by omega) c126
            refine lv_aload_n hx hb dX1_readWays_134 rfl (lv_at hl 0 rfl) ?_
            refine va_get (D := (dC, dI)) (ci := 1) (v := .ref aDt) (C := RX1) (T := TX1) (N := 7) hx hb hts hinX1 hown hK hP 0 rfl rfl 2 (by decide) lk18 (fun _ h9 => h9) rfl dX1_readWays_135 ?_
            refine lv_aload_n hx hb dX1_readWays_138 rfl (lv_at hl 0 rfl) ?_
            refine va_get (D := (dC, dI)) (ci := 1) (v := .int (nI w)) (C := RX1) (T := TX1) (N := 7) hx hb hts hinX1 hown hK hP 0 rfl rfl 6 (by decide) lk31 (fun _ h9 => h9) rfl dX1_readWays_139 ?_
            refine k_iald hx hb hK hP 2 0 rfl rfl (n := 9) (v := kNone (dTo (kcode fC i n) K w)) (by omega) (by decide) (by rw [ef_9]; exact pk_us) dX1_readWays_142 ?_
            refine lv_bipush (v := (-9)) hx hb dX1_readWays_143 (by decide) ?_
            refine lv_icmp_ne (tgt := 153) hx hb dX1_readWays_145 (by decide) (fun c145 => ?_) (fun c145 => ?_)
            · have h2 : kNone (dTo (kcode fC i n) K w) = nI (dTo (kcode fC i n) K w) ∧ dTo (kcode fC i n) K w ≠ 999 ∧ 0 ≤ dTo (kcode fC i n) K w ∧ dTo (kcode fC i n) K w ≤ K - 1 := dig_9 (by omega) c145
              refine lv_aload_n hx hb dX1_readWays_153 rfl (lv_at hl 0 rfl) ?_
              refine va_get (D := (dC, dI)) (ci := 1) (v := .ref aDd) (C := RX1) (T := TX1) (N := 7) hx hb hts hinX1 hown hK hP 0 rfl rfl 3 (by decide) lk21 (fun _ h9 => h9) rfl dX1_readWays_154 ?_
              refine lv_aload_n hx hb dX1_readWays_157 rfl (lv_at hl 0 rfl) ?_
              refine va_get (D := (dC, dI)) (ci := 1) (v := .int (nI w)) (C := RX1) (T := TX1) (N := 7) hx hb hts hinX1 hown hK hP 0 rfl rfl 6 (by decide) lk31 (fun _ h9 => h9) rfl dX1_readWays_158 ?_
              refine k_iald hx hb hK hP 3 0 rfl rfl (n := 9) (v := kNone (dDa (kcode fC i n) K w)) (by omega) (by decide) (by rw [ef_13]; exact pk_us) dX1_readWays_161 ?_
              refine lv_bipush (v := (-9)) hx hb dX1_readWays_162 (by decide) ?_
              refine lv_icmp_ne (tgt := 172) hx hb dX1_readWays_164 (by decide) (fun c164 => ?_) (fun c164 => ?_)
              · have h3 : kNone (dDa (kcode fC i n) K w) = nI (dDa (kcode fC i n) K w) ∧ dDa (kcode fC i n) K w ≠ 999 ∧ 1 ≤ dDa (kcode fC i n) K w ∧ dDa (kcode fC i n) K w ≤ 9 := dig_9 (by omega) c164
                refine lv_aload_n hx hb dX1_readWays_172 rfl (lv_at hl 0 rfl) ?_
                refine lv_dup hx hb dX1_readWays_173 rfl ?_
                refine va_get (D := (dC, dI)) (ci := 1) (v := .int (nI w)) (C := RX1) (T := TX1) (N := 7) hx hb hts hinX1 hown hK hP 0 rfl rfl 6 (by decide) lk31 (fun _ h9 => h9) rfl dX1_readWays_174 ?_
                refine lv_iconst (v := nI 1) hx hb dX1_readWays_177 (by decide) ?_
                refine k_iadd hx hb dX1_readWays_178 ?_
                refine va_put (D := (dC, dI)) (ci := 1) (v := .int (nI (w + 1))) (ty := .int) (C := RX1) (T := TX1) (N := 7) hx hb hts hinX1 tyX1 tyX1_ok nmX1 hown hK hP hD hS 0 rfl rfl 6 (by decide) lk31 (fun _ h9 => h9) rfl (tyX1_ok 6 (by decide)) rfl rfl (Nat.le_of_ble_eq_true rfl) dX1_readWays_179 (fun H_15 locs hP hD hS => ?_)
                have hP : va_P (dC, dI) vwCl [(aDr, .inr (1, [.ref aDk, .ref aDf, .ref aDt, .ref aDd, .int (nI K), .int (nI dsm), .int (nI (w + 1))])), (aDf, .inl (cI, 9, .inl f_5)), (aDt, .inl (cI, 9, .inl f_9)), (aDd, .inl (cI, 9, .inl f_13)), (aS, .inr (2, [.ref aC, .int la, .int (nI le)])), (aC, .inl (cI, 60, .inl fC))] H_15 := hP
                have hD : va_D zA [(aDr, .inr (1, [.ref aDk, .ref aDf, .ref aDt, .ref aDd, .int (nI K), .int (nI dsm), .int (nI (w + 1))])), (aDf, .inl (cI, 9, .inl f_5)), (aDt, .inl (cI, 9, .inl f_9)), (aDd, .inl (cI, 9, .inl f_13)), (aS, .inr (2, [.ref aC, .int la, .int (nI le)])), (aC, .inl (cI, 60, .inl fC))] := hD
                refine lv_iinc (v := nI (1 + 2 * K + 4 * w + 4)) (lv' := [(4, .int (nI (1 + 2 * K + 4 * w + 4))), (0, .ref aDr), (1, .ref aS), (2, .int (nI i)), (3, .int (nI n))]) hx hb dX1_readWays_182 hl (k := 4) rfl (nI_add _ _) (by decide) rfl (fun ls hl => ?_)
                refine lv_goto (tgt := 10) hx hb dX1_readWays_185 (by decide) ?_
                rw [show 1 + 2 * K + 4 * w + 4 = 1 + 2 * K + 4 * (w + 1) by omega] at hl
                exact ih10 (w + 1) f_5 f_9 f_13 (by omega) (by exact way_step hf c29 h1.2.1 h2.2.1 h3.2.1) (by rw [ef_5]; exact upd_row hg1 h1.1) (by rw [ef_9]; exact upd_row hg2 h2.1) (by rw [ef_13]; exact upd_row hg3 h3.1) (by omega) _ _ hP hD hS _ (lv_sub hl [1, 2, 3, 4, 0] rfl)
              · refine lv_iload hx hb dX1_readWays_167 (lv_at hl 4 rfl) ?_
                refine lv_iconst (v := nI 3) hx hb dX1_readWays_169 (by decide) ?_
                refine k_iadd hx hb dX1_readWays_170 ?_
                refine hret 171 _ (nI ((1 + 2 * K + 4 * w) + 3)) (f_5, f_9, f_13, w) _ _ dX1_readWays_171 hS (fun t ht _ => by rw [ht]; exact hP) ?_
                have hz : dDa (kcode fC i n) K w = 999 := dig_e (by omega) c164
                have hx := way_bad (n := n) c16 hf c29 (Or.inr (Or.inr hz))
                exact ⟨by rw [hx.2, if_neg h1.2.1, if_neg h2.2.1, kSound_n (by unfold wPl; omega)]; rfl, hx.1.symm, by rw [ef_5]; exact upd_keep hg1 _, by rw [ef_9]; exact upd_keep hg2 _, by rw [ef_13]; exact upd_keep hg3 _⟩
            · refine lv_iload hx hb dX1_readWays_148 (lv_at hl 4 rfl) ?_
              refine lv_iconst (v := nI 2) hx hb dX1_readWays_150 (by decide) ?_
              refine k_iadd hx hb dX1_readWays_151 ?_
              refine hret 152 _ (nI ((1 + 2 * K + 4 * w) + 2)) (f_5, f_9, f_13, w) _ _ dX1_readWays_152 hS (fun t ht _ => by rw [ht]; exact hP) ?_
              have hz : dTo (kcode fC i n) K w = 999 := dig_e (by omega) c145
              have hx := way_bad (n := n) c16 hf c29 (Or.inr (Or.inl hz))
              exact ⟨by rw [hx.2, if_neg h1.2.1, if_pos hz, kSound_n (by unfold wPl; omega)]; rfl, hx.1.symm, by rw [ef_5]; exact upd_keep hg1 _, by rw [ef_9]; exact upd_keep hg2 _, by rw [ef_13]; exact upd_keep hg3 _⟩
          · refine lv_iload hx hb dX1_readWays_129 (lv_at hl 4 rfl) ?_
            refine lv_iconst (v := nI 1) hx hb dX1_readWays_131 (by decide) ?_
            refine k_iadd hx hb dX1_readWays_132 ?_
            refine hret 133 _ (nI ((1 + 2 * K + 4 * w) + 1)) (f_5, f_9, f_13, w) _ _ dX1_readWays_133 hS (fun t ht _ => by rw [ht]; exact hP) ?_
            have hz : dFr (kcode fC i n) K w = 999 := dig_e (by omega) c126
            have hx := way_bad (n := n) c16 hf c29 (Or.inl hz)
            exact ⟨by rw [hx.2, if_pos hz, kSound_n (by unfold wPl; omega)]; rfl, hx.1.symm, by rw [ef_5]; exact upd_keep hg1 _, by rw [ef_9]; exact upd_keep hg2 _, by rw [ef_13]; exact upd_keep hg3 _⟩
  exact loop10 ((9 - 0) + 1) 0 fDf fDt fDd (by omega) (by rfl) (by intro j hj; omega) (by intro j hj; omega) (by intro j hj; omega) (by exact Nat.lt_succ_self _) _ _ hP hD hS _ (lv_sub hl [1, 2, 3, 4, 0] rfl)

set_option maxHeartbeats 800000 in
set_option maxRecDepth 100000 in
theorem kX1_read {zl : Launch} {dC : Nat → ClassId} {dI : Nat → Nat → Nat} {cI cJ cZ cS : ClassId} {sz : Nat} (aDr : Nat) (aDk : Nat) (aDf : Nat) (aDt : Nat) (aDd : Nat) (dnp : Nat) (dsm : Nat) (dnw : Nat) (fDk : Nat → Int32) (fDf : Nat → Int32) (fDt : Nat → Int32) (fDd : Nat → Int32) (aS : Nat) (aC : Nat) (la : Int32) (le : Nat) (fC : Nat → Int32) (i : Nat) (n : Nat) (hin : i + n ≤ 60) : Met zl yX1_read wsX1_read ({ frames := 2, cells := 0, slots := 0, locals := 49 } : Room) (va_Pc [.ref aDr, .ref aS, .int (nI i), .int (nI n)] (kPre (dC, dI) (kT cI cJ cZ cS) [(aDr, .inr (1, [.ref aDk, .ref aDf, .ref aDt, .ref aDd, .int (nI dnp), .int (nI dsm), .int (nI dnw)])), (aDk, .inl (cI, 6, .inl fDk)), (aDf, .inl (cI, 9, .inl fDf)), (aDt, .inl (cI, 9, .inl fDt)), (aDd, .inl (cI, 9, .inl fDd)), (aS, .inr (2, [.ref aC, .int la, .int (nI le)])), (aC, .inl (cI, 60, .inl fC))] sz)) (va_Qi (fun (r : Int32) => fun (u : (Nat → Int32) × (Nat → Int32) × (Nat → Int32) × (Nat → Int32) × Nat × Nat × Nat) => r = kSound (pFlt (kcode fC i n) n) ∧ (pFlt (kcode fC i n) n = 999 → u.2.2.2.2.1 = nPer (kcode fC i n) ∧ u.2.2.2.2.2.1 = mskN (aB (kcode fC i n)) u.2.2.2.2.1 ∧ u.2.2.2.2.2.2 = nWay (kcode fC i n) u.2.2.2.2.1 ∧ (∀ j, j < u.2.2.2.2.1 → u.1 j = nI (kindN ((kcode fC i n) (1 + 2 * j)))) ∧ (∀ j, j < u.2.2.2.2.2.2 → u.2.1 j = nI (dFr (kcode fC i n) u.2.2.2.2.1 j)) ∧ (∀ j, j < u.2.2.2.2.2.2 → u.2.2.1 j = nI (dTo (kcode fC i n) u.2.2.2.2.1 j)) ∧ (∀ j, j < u.2.2.2.2.2.2 → u.2.2.2.1 j = nI (dDa (kcode fC i n) u.2.2.2.2.1 j)))) (fun (u : (Nat → Int32) × (Nat → Int32) × (Nat → Int32) × (Nat → Int32) × Nat × Nat × Nat) (zU : State) => va_P (dC, dI) vwCl [(aDr, .inr (1, [.ref aDk, .ref aDf, .ref aDt, .ref aDd, .int (nI u.2.2.2.2.1), .int (nI u.2.2.2.2.2.1), .int (nI u.2.2.2.2.2.2)])), (aDk, .inl (cI, 6, .inl u.1)), (aDf, .inl (cI, 9, .inl u.2.1)), (aDt, .inl (cI, 9, .inl u.2.2.1)), (aDd, .inl (cI, 9, .inl u.2.2.2.1)), (aS, .inr (2, [.ref aC, .int la, .int (nI le)])), (aC, .inl (cI, 60, .inl fC))] zU.heap) (va_A [(aDr, .inr (1, [.ref aDk, .ref aDf, .ref aDt, .ref aDd, .int (nI dnp), .int (nI dsm), .int (nI dnw)])), (aDk, .inl (cI, 6, .inl fDk)), (aDf, .inl (cI, 9, .inl fDf)), (aDt, .inl (cI, 9, .inl fDt)), (aDd, .inl (cI, 9, .inl fDd)), (aS, .inr (2, [.ref aC, .int la, .int (nI le)])), (aC, .inl (cI, 60, .inl fC))] sz)) 0 0 (va_A [(aDr, .inr (1, [.ref aDk, .ref aDf, .ref aDt, .ref aDd, .int (nI dnp), .int (nI dsm), .int (nI dnw)])), (aDk, .inl (cI, 6, .inl fDk)), (aDf, .inl (cI, 9, .inl fDf)), (aDt, .inl (cI, 9, .inl fDt)), (aDd, .inl (cI, 9, .inl fDd)), (aS, .inr (2, [.ref aC, .int la, .int (nI le)])), (aC, .inl (cI, 60, .inl fC))] sz) := by
  refine kstartW_i (cc := cX1_read) (maxL := 5) rfl rfl (Nat.le_of_ble_eq_true rfl) ?_
  intro zp ze zs zm zb zt zc za zQ zA hx hb hml hts hown hN hK hP hD hS hA zin hret ls hl
  have hl : lv_has ls 5 [(0, .ref aDr), (1, .ref aS), (2, .int (nI i)), (3, .int (nI n))] := hl
  have hinX1 : ∀ w ∈ wsX10, w ∈ wsX1_read := fun _ h => List.mem_cons_of_mem _ (List.mem_append_left _ (List.mem_append_right _ h))
  have lk24 := hts (.fieldLink RX1 24 "IronRumours$People" "persons" "I") (List.mem_of_getElem? (i := 1) rfl)
  have lk28 := hts (.fieldLink RX1 28 "IronRumours$People" "smiths" "I") (List.mem_of_getElem? (i := 2) rfl)
  have lk31 := hts (.fieldLink RX1 31 "IronRumours$People" "ways" "I") (List.mem_of_getElem? (i := 3) rfl)
  refine lv_aload_n hx hb dX1_read_0 rfl (lv_at hl 0 rfl) ?_
  refine lv_iconst (v := nI 0) hx hb dX1_read_1 (by decide) ?_
  refine va_put (D := (dC, dI)) (ci := 1) (v := .int (nI 0)) (ty := .int) (C := RX1) (T := TX1) (N := 7) hx hb hts hinX1 tyX1 tyX1_ok nmX1 hown hK hP hD hS 0 rfl rfl 4 (by decide) lk24 (fun _ h9 => h9) rfl (tyX1_ok 4 (by decide)) rfl rfl (Nat.le_of_ble_eq_true rfl) dX1_read_2 (fun H_1 locs hP hD hS => ?_)
  have hP : va_P (dC, dI) vwCl [(aDr, .inr (1, [.ref aDk, .ref aDf, .ref aDt, .ref aDd, .int (nI 0), .int (nI dsm), .int (nI dnw)])), (aDk, .inl (cI, 6, .inl fDk)), (aDf, .inl (cI, 9, .inl fDf)), (aDt, .inl (cI, 9, .inl fDt)), (aDd, .inl (cI, 9, .inl fDd)), (aS, .inr (2, [.ref aC, .int la, .int (nI le)])), (aC, .inl (cI, 60, .inl fC))] H_1 := hP
  have hD : va_D zA [(aDr, .inr (1, [.ref aDk, .ref aDf, .ref aDt, .ref aDd, .int (nI 0), .int (nI dsm), .int (nI dnw)])), (aDk, .inl (cI, 6, .inl fDk)), (aDf, .inl (cI, 9, .inl fDf)), (aDt, .inl (cI, 9, .inl fDt)), (aDd, .inl (cI, 9, .inl fDd)), (aS, .inr (2, [.ref aC, .int la, .int (nI le)])), (aC, .inl (cI, 60, .inl fC))] := hD
  refine lv_aload_n hx hb dX1_read_5 rfl (lv_at hl 0 rfl) ?_
  refine lv_iconst (v := nI 0) hx hb dX1_read_6 (by decide) ?_
  refine va_put (D := (dC, dI)) (ci := 1) (v := .int (nI 0)) (ty := .int) (C := RX1) (T := TX1) (N := 7) hx hb hts hinX1 tyX1 tyX1_ok nmX1 hown hK hP hD hS 0 rfl rfl 5 (by decide) lk28 (fun _ h9 => h9) rfl (tyX1_ok 5 (by decide)) rfl rfl (Nat.le_of_ble_eq_true rfl) dX1_read_7 (fun H_2 locs hP hD hS => ?_)
  have hP : va_P (dC, dI) vwCl [(aDr, .inr (1, [.ref aDk, .ref aDf, .ref aDt, .ref aDd, .int (nI 0), .int (nI 0), .int (nI dnw)])), (aDk, .inl (cI, 6, .inl fDk)), (aDf, .inl (cI, 9, .inl fDf)), (aDt, .inl (cI, 9, .inl fDt)), (aDd, .inl (cI, 9, .inl fDd)), (aS, .inr (2, [.ref aC, .int la, .int (nI le)])), (aC, .inl (cI, 60, .inl fC))] H_2 := hP
  have hD : va_D zA [(aDr, .inr (1, [.ref aDk, .ref aDf, .ref aDt, .ref aDd, .int (nI 0), .int (nI 0), .int (nI dnw)])), (aDk, .inl (cI, 6, .inl fDk)), (aDf, .inl (cI, 9, .inl fDf)), (aDt, .inl (cI, 9, .inl fDt)), (aDd, .inl (cI, 9, .inl fDd)), (aS, .inr (2, [.ref aC, .int la, .int (nI le)])), (aC, .inl (cI, 60, .inl fC))] := hD
  refine lv_aload_n hx hb dX1_read_10 rfl (lv_at hl 0 rfl) ?_
  refine lv_iconst (v := nI 0) hx hb dX1_read_11 (by decide) ?_
  refine va_put (D := (dC, dI)) (ci := 1) (v := .int (nI 0)) (ty := .int) (C := RX1) (T := TX1) (N := 7) hx hb hts hinX1 tyX1 tyX1_ok nmX1 hown hK hP hD hS 0 rfl rfl 6 (by decide) lk31 (fun _ h9 => h9) rfl (tyX1_ok 6 (by decide)) rfl rfl (Nat.le_of_ble_eq_true rfl) dX1_read_12 (fun H_3 locs hP hD hS => ?_)
  have hP : va_P (dC, dI) vwCl [(aDr, .inr (1, [.ref aDk, .ref aDf, .ref aDt, .ref aDd, .int (nI 0), .int (nI 0), .int (nI 0)])), (aDk, .inl (cI, 6, .inl fDk)), (aDf, .inl (cI, 9, .inl fDf)), (aDt, .inl (cI, 9, .inl fDt)), (aDd, .inl (cI, 9, .inl fDd)), (aS, .inr (2, [.ref aC, .int la, .int (nI le)])), (aC, .inl (cI, 60, .inl fC))] H_3 := hP
  have hD : va_D zA [(aDr, .inr (1, [.ref aDk, .ref aDf, .ref aDt, .ref aDd, .int (nI 0), .int (nI 0), .int (nI 0)])), (aDk, .inl (cI, 6, .inl fDk)), (aDf, .inl (cI, 9, .inl fDf)), (aDt, .inl (cI, 9, .inl fDt)), (aDd, .inl (cI, 9, .inl fDd)), (aS, .inr (2, [.ref aC, .int la, .int (nI le)])), (aC, .inl (cI, 60, .inl fC))] := hD
  refine lv_aload_n hx hb dX1_read_15 rfl (lv_at hl 1 rfl) ?_
  refine lv_iload_n hx hb dX1_read_16 rfl (lv_at hl 2 rfl) ?_
  refine lv_iload_n hx hb dX1_read_17 rfl (lv_at hl 3 rfl) ?_
  refine lv_iconst (v := nI 0) hx hb dX1_read_18 (by decide) ?_
  refine rc_i (va_runS (As := [.ref aS, .int (nI i), .int (nI n), .int (nI 0)]) (rest := []) ⟨hx, hb, hml, hown, hts⟩ (kX1_codeAt aS aC la le fC i n 0 hin (by omega)) (va_cwS 4 hts gX1_read_X1_codeAt rfl rfl rfl hvX1_codeAt ⟨Nat.le_of_ble_eq_true rfl, Nat.le_of_ble_eq_true rfl⟩) (rpreS hN hK (hP.sub [5, 6] rfl)) rfl rfl hl.1 rfl (lv_room (Nat.le_of_ble_eq_true rfl)) dX1_read_19 ⟨Nat.zero_le _, Nat.zero_le _⟩) (fun r_4 hr_4 => ?_)
  have hr_4 : r_4 = kcode fC i n 0 := hr_4
  rw [hr_4]
  refine lv_bipush (v := nI 105) hx hb dX1_read_22 (by decide) ?_
  refine lv_icmp_eq (tgt := 29) hx hb dX1_read_24 (by decide) (fun c24 => ?_) (fun c24 => ?_)
  · refine lv_aload_n hx hb dX1_read_29 rfl (lv_at hl 0 rfl) ?_
    refine lv_aload_n hx hb dX1_read_30 rfl (lv_at hl 1 rfl) ?_
    refine lv_iload_n hx hb dX1_read_31 rfl (lv_at hl 2 rfl) ?_
    refine lv_iload_n hx hb dX1_read_32 rfl (lv_at hl 3 rfl) ?_
    refine kc_i (wr := [(aDf, .inl (cI, 9, .inl fDf)), (aDt, .inl (cI, 9, .inl fDt)), (aDd, .inl (cI, 9, .inl fDd))]) (va_runV (As := [.ref aS, .int (nI i), .int (nI n)]) (rest := []) ⟨hx, hb, hml, hown, hts⟩ (kX1_readPersons aDr aDk aDf aDt aDd 0 fDk aS aC la le fC i n hin) (cwV 3 hts gX1_read_X1_readPersons rfl rfl rfl hvX1_readPersons ⟨Nat.le_of_ble_eq_true rfl, Nat.le_of_ble_eq_true rfl⟩) (kpreV hN (q := (RX1, TX1, 7)) (ci := 1) hK (hP.sub [0, 1, 5, 6] rfl) (hD.sub [0, 1, 5, 6] (by decide) rfl) 0 rfl rfl) rfl rfl hl.1 rfl (lv_room (Nat.le_of_ble_eq_true rfl)) dX1_read_33 ⟨Nat.zero_le _, Nat.zero_le _⟩) (fun _ => by simp only [List.map]) hP hD hS hA [0, 1, 5, 6] [2, 3, 4] rfl rfl (by decide) (by decide) (by decide) (fun r_5 u_5 H_6 locs hr_5 hP hD hS => ?_)
    obtain ⟨f_7, K_8, M_9⟩ := u_5
    try dsimp only at hr_5
    have hP : va_P (dC, dI) vwCl [(aDf, .inl (cI, 9, .inl fDf)), (aDt, .inl (cI, 9, .inl fDt)), (aDd, .inl (cI, 9, .inl fDd)), (aDr, .inr (1, [.ref aDk, .ref aDf, .ref aDt, .ref aDd, .int (nI K_8), .int (nI M_9), .int (nI 0)])), (aDk, .inl (cI, 6, .inl f_7)), (aS, .inr (2, [.ref aC, .int la, .int (nI le)])), (aC, .inl (cI, 60, .inl fC))] H_6 := hP
    have hD : va_D zA [(aDf, .inl (cI, 9, .inl fDf)), (aDt, .inl (cI, 9, .inl fDt)), (aDd, .inl (cI, 9, .inl fDd)), (aDr, .inr (1, [.ref aDk, .ref aDf, .ref aDt, .ref aDd, .int (nI K_8), .int (nI M_9), .int (nI 0)])), (aDk, .inl (cI, 6, .inl f_7)), (aS, .inr (2, [.ref aC, .int la, .int (nI le)])), (aC, .inl (cI, 60, .inl fC))] := hD
    have hP := hP.sub (ws' := [(aDr, .inr (1, [.ref aDk, .ref aDf, .ref aDt, .ref aDd, .int (nI K_8), .int (nI M_9), .int (nI 0)])), (aDk, .inl (cI, 6, .inl f_7)), (aDf, .inl (cI, 9, .inl fDf)), (aDt, .inl (cI, 9, .inl fDt)), (aDd, .inl (cI, 9, .inl fDd)), (aS, .inr (2, [.ref aC, .int la, .int (nI le)])), (aC, .inl (cI, 60, .inl fC))]) [3, 4, 0, 1, 2, 5, 6] rfl
    have hD := hD.sub (ws' := [(aDr, .inr (1, [.ref aDk, .ref aDf, .ref aDt, .ref aDd, .int (nI K_8), .int (nI M_9), .int (nI 0)])), (aDk, .inl (cI, 6, .inl f_7)), (aDf, .inl (cI, 9, .inl fDf)), (aDt, .inl (cI, 9, .inl fDt)), (aDd, .inl (cI, 9, .inl fDd)), (aS, .inr (2, [.ref aC, .int la, .int (nI le)])), (aC, .inl (cI, 60, .inl fC))]) [3, 4, 0, 1, 2, 5, 6] (by decide) rfl
    obtain ⟨er_5, hr_5⟩ := hr_5
    have er_5 : r_5 = kSound (pFltP (kcode fC i n)) := er_5
    rw [er_5]
    refine lv_istore (lv' := [(4, .int (kSound (pFltP (kcode fC i n)))), (0, .ref aDr), (1, .ref aS), (2, .int (nI i)), (3, .int (nI n))]) hx hb dX1_read_36 hl (by decide) rfl (fun ls hl => ?_)
    refine lv_iload hx hb dX1_read_38 (lv_at hl 0 rfl) ?_
    refine lv_iconst (v := (-1)) hx hb dX1_read_40 (by decide) ?_
    refine lv_icmp_eq (tgt := 49) hx hb dX1_read_41 (by decide) (fun c41 => ?_) (fun c41 => ?_)
    · have hs := kSound_e pFltP_lt c41
      have hK6 : K_8 ≤ 6 := by rw [hr_5.1]; exact nPer_le _
      have hK1 : 1 ≤ K_8 := by rw [hr_5.1]; exact nPer_2 hs
      refine lv_aload_n hx hb dX1_read_49 rfl (lv_at hl 1 rfl) ?_
      refine lv_aload_n hx hb dX1_read_50 rfl (lv_at hl 2 rfl) ?_
      refine lv_iload_n hx hb dX1_read_51 rfl (lv_at hl 3 rfl) ?_
      refine lv_iload_n hx hb dX1_read_52 rfl (lv_at hl 4 rfl) ?_
      refine kc_i (wr := [(aDk, .inl (cI, 6, .inl f_7))]) (va_runV (As := [.ref aS, .int (nI i), .int (nI n)]) (rest := []) ⟨hx, hb, hml, hown, hts⟩ (kX1_readWays aDr aDk aDf aDt aDd M_9 fDf fDt fDd aS aC la le fC i n K_8 hin hK6 hK1) (cwV 3 hts gX1_read_X1_readWays rfl rfl rfl hvX1_readWays ⟨Nat.le_of_ble_eq_true rfl, Nat.le_of_ble_eq_true rfl⟩) (kpreV hN (q := (RX1, TX1, 7)) (ci := 1) hK (hP.sub [0, 2, 3, 4, 5, 6] rfl) (hD.sub [0, 2, 3, 4, 5, 6] (by decide) rfl) 0 rfl rfl) rfl rfl hl.1 rfl (lv_room (Nat.le_of_ble_eq_true rfl)) dX1_read_53 ⟨Nat.zero_le _, Nat.zero_le _⟩) (fun _ => by simp only [List.map]) hP hD hS hA [0, 2, 3, 4, 5, 6] [1] rfl rfl (by decide) (by decide) (by decide) (fun r_10 u_10 H_11 locs hr_10 hP hD hS => ?_)
      obtain ⟨f_12, f_13, f_14, U_15⟩ := u_10
      try dsimp only at hr_10
      have hP : va_P (dC, dI) vwCl [(aDk, .inl (cI, 6, .inl f_7)), (aDr, .inr (1, [.ref aDk, .ref aDf, .ref aDt, .ref aDd, .int (nI K_8), .int (nI M_9), .int (nI U_15)])), (aDf, .inl (cI, 9, .inl f_12)), (aDt, .inl (cI, 9, .inl f_13)), (aDd, .inl (cI, 9, .inl f_14)), (aS, .inr (2, [.ref aC, .int la, .int (nI le)])), (aC, .inl (cI, 60, .inl fC))] H_11 := hP
      have hD : va_D zA [(aDk, .inl (cI, 6, .inl f_7)), (aDr, .inr (1, [.ref aDk, .ref aDf, .ref aDt, .ref aDd, .int (nI K_8), .int (nI M_9), .int (nI U_15)])), (aDf, .inl (cI, 9, .inl f_12)), (aDt, .inl (cI, 9, .inl f_13)), (aDd, .inl (cI, 9, .inl f_14)), (aS, .inr (2, [.ref aC, .int la, .int (nI le)])), (aC, .inl (cI, 60, .inl fC))] := hD
      have hP := hP.sub (ws' := [(aDr, .inr (1, [.ref aDk, .ref aDf, .ref aDt, .ref aDd, .int (nI K_8), .int (nI M_9), .int (nI U_15)])), (aDk, .inl (cI, 6, .inl f_7)), (aDf, .inl (cI, 9, .inl f_12)), (aDt, .inl (cI, 9, .inl f_13)), (aDd, .inl (cI, 9, .inl f_14)), (aS, .inr (2, [.ref aC, .int la, .int (nI le)])), (aC, .inl (cI, 60, .inl fC))]) [1, 0, 2, 3, 4, 5, 6] rfl
      have hD := hD.sub (ws' := [(aDr, .inr (1, [.ref aDk, .ref aDf, .ref aDt, .ref aDd, .int (nI K_8), .int (nI M_9), .int (nI U_15)])), (aDk, .inl (cI, 6, .inl f_7)), (aDf, .inl (cI, 9, .inl f_12)), (aDt, .inl (cI, 9, .inl f_13)), (aDd, .inl (cI, 9, .inl f_14)), (aS, .inr (2, [.ref aC, .int la, .int (nI le)])), (aC, .inl (cI, 60, .inl fC))]) [1, 0, 2, 3, 4, 5, 6] (by decide) rfl
      obtain ⟨er_10, hr_10⟩ := hr_10
      have er_10 : r_10 = kSound (pFltW (kcode fC i n) K_8 n) := er_10
      rw [er_10]
      refine hret 56 _ (kSound (pFltW (kcode fC i n) K_8 n)) (f_7, f_12, f_13, f_14, K_8, M_9, U_15) _ _ dX1_read_56 hS (fun t ht _ => by rw [ht]; exact hP) ?_
      obtain ⟨a1, a2, a3⟩ := hr_5
      have hz : pFlt (kcode fC i n) n = pFltW (kcode fC i n) (nPer (kcode fC i n)) n := by unfold pFlt; rw [if_pos c24, if_pos hs]
      rw [hz, ← a1]
      exact ⟨rfl, fun _ => ⟨rfl, a2, hr_10.1, a3, hr_10.2⟩⟩
    · refine lv_iload hx hb dX1_read_44 (lv_at hl 0 rfl) ?_
      refine lv_goto (tgt := 56) hx hb dX1_read_46 (by decide) ?_
      refine hret 56 _ (kSound (pFltP (kcode fC i n))) (f_7, fDf, fDt, fDd, K_8, M_9, 0) _ _ dX1_read_56 hS (fun t ht _ => by rw [ht]; exact hP) ?_
      have hn : pFltP (kcode fC i n) ≠ 999 := fun z => c41 (by rw [z]; rfl)
      have hz : pFlt (kcode fC i n) n = pFltP (kcode fC i n) := by unfold pFlt; rw [if_pos c24, if_neg hn]
      rw [hz]
      exact ⟨rfl, fun z => absurd z hn⟩
  · refine lv_iconst (v := nI 0) hx hb dX1_read_27 (by decide) ?_
    refine hret 28 _ (nI 0) (fDk, fDf, fDt, fDd, 0, 0, 0) _ _ dX1_read_28 hS (fun t ht _ => by rw [ht]; exact hP) ?_
    have hz : pFlt (kcode fC i n) n = 0 := by unfold pFlt; rw [if_neg c24]
    rw [hz]
    exact ⟨rfl, fun z => absurd z (by decide)⟩
