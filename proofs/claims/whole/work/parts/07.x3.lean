set_option maxHeartbeats 800000 in
set_option maxRecDepth 100000 in
theorem kX3_rumour {zl : Launch} {dC : Nat → ClassId} {dI : Nat → Nat → Nat} {cI cJ cZ cS : ClassId} (t : Nat) (o : Nat) : Met zl yX3_rumour wsX3_rumour ({ frames := 0, cells := 0, slots := 0, locals := 0 } : Room) (va_Pc [.int (nI t), .int (nI o)] (rPre (dC, dI) (kT cI cJ cZ cS) [])) (vp_Sl (fun r : Int64 => r = rum (t * 15 + o))) 0 0 (fun _ => False) := by
  refine kstartR_l (cc := cX3_rumour) (maxL := 2) rfl rfl (Nat.le_of_ble_eq_true rfl) ?_
  intro zp ze zs zm zb zt zc za zQ hx hb hml hts hown hN hK hP hret ls hl
  have hl : lv_has ls 2 [(0, .int (nI t)), (1, .int (nI o))] := hl
  refine lv_lconst (v := 1) hx hb dX3_rumour_0 (by decide) ?_
  refine lv_iload_n hx hb dX3_rumour_1 rfl (lv_at hl 0 rfl) ?_
  refine lv_bipush (v := nI 15) hx hb dX3_rumour_2 (by decide) ?_
  refine k_imul hx hb dX3_rumour_4 ?_
  refine lv_iload_n hx hb dX3_rumour_5 rfl (lv_at hl 1 rfl) ?_
  refine k_iadd hx hb dX3_rumour_6 ?_
  refine lv_lshl hx hb dX3_rumour_7 rfl ?_
  refine hret 8 _ (1 <<< ((nI ((t * 15) + o)).toInt64 &&& 63)) dX3_rumour_8 ?_
  rfl

set_option maxHeartbeats 800000 in
set_option maxRecDepth 100000 in
theorem kX3_clear {zl : Launch} {dC : Nat → ClassId} {dI : Nat → Nat → Nat} {cI cJ cZ cS : ClassId} {sz : Nat} (aTa : Nat) (aHe : Nat) (fHe : Nat → Int64) : Met zl yX3_clear wsX3_clear ({ frames := 1, cells := 0, slots := 0, locals := 24 } : Room) (va_Pc [.ref aTa] (kPre (dC, dI) (kT cI cJ cZ cS) [(aTa, .inr (3, [.ref aHe])), (aHe, .inl (cJ, 360, .inr (.inl fHe)))] sz)) (va_Qv (fun (f1 : (Nat → Int64)) => ∀ j, j < 360 → f1 j = 0) (fun (f1 : (Nat → Int64)) (zU : State) => va_P (dC, dI) vwCl [(aTa, .inr (3, [.ref aHe])), (aHe, .inl (cJ, 360, .inr (.inl f1)))] zU.heap) (va_A [(aTa, .inr (3, [.ref aHe])), (aHe, .inl (cJ, 360, .inr (.inl fHe)))] sz)) 0 0 (va_A [(aTa, .inr (3, [.ref aHe])), (aHe, .inl (cJ, 360, .inr (.inl fHe)))] sz) := by
  refine kstartW_v (cc := cX3_clear) (maxL := 1) rfl rfl (Nat.le_of_ble_eq_true rfl) ?_
  intro zp ze zs zm zb zt zc za zQ zA hx hb hml hts hown hN hK hP hD hS hA hin hret ls hl
  have hl : lv_has ls 1 [(0, .ref aTa)] := hl
  have hinX3 : ∀ w ∈ wsX30, w ∈ wsX3_clear := fun _ h => List.mem_cons_of_mem _ (List.mem_append_right _ h)
  have lk9 := hts (.fieldLink RX3 9 "IronRumours$Talk" "heard" "[J") (List.mem_of_getElem? (i := 1) rfl)
  refine lv_aload_n hx hb dX3_clear_0 rfl (lv_at hl 0 rfl) ?_
  refine va_get (D := (dC, dI)) (ci := 3) (v := .ref aHe) (C := RX3) (T := TX3) (N := 1) hx hb hts hinX3 hown hK hP 0 rfl rfl 0 (by decide) lk9 (fun _ h9 => h9) rfl dX3_clear_1 ?_
  refine lv_lconst (v := 0) hx hb dX3_clear_4 (by decide) ?_
  refine kc_v (wr := [(aTa, .inr (3, [.ref aHe]))]) (va_runS (As := [.ref aHe, .long 0]) (rest := []) ⟨hx, hb, hml, hown, hts⟩ (kJ7_fill_d0a16 aHe 0 fHe ) (va_cwS 2 hts gX3_clear_J7_fill_d0a16 rfl rfl rfl hvJ7_fill_d0a16 ⟨Nat.le_of_ble_eq_true rfl, Nat.le_of_ble_eq_true rfl⟩) (kpreS hN hK (hP.sub [1] rfl) (hD.sub [1] (by decide) rfl)) rfl rfl hl.1 rfl (lv_room (Nat.le_of_ble_eq_true rfl)) dX3_clear_5 ⟨Nat.zero_le _, Nat.zero_le _⟩) (fun _ => by simp only [List.map]) hP hD hS hA [1] [0] rfl rfl (by decide) (by decide) (by decide) (fun f_3 H_2 locs hr_1 hP hD hS => ?_)
  have hP : va_P (dC, dI) vwCl [(aTa, .inr (3, [.ref aHe])), (aHe, .inl (cJ, 360, .inr (.inl f_3)))] H_2 := hP
  have hD : va_D zA [(aTa, .inr (3, [.ref aHe])), (aHe, .inl (cJ, 360, .inr (.inl f_3)))] := hD
  refine hret 8 _ f_3 _ _ dX3_clear_8 hS (fun t ht _ => by rw [ht]; exact hP) ?_
  exact hr_1

set_option maxHeartbeats 800000 in
set_option maxRecDepth 100000 in
theorem kX3_plant {zl : Launch} {dC : Nat → ClassId} {dI : Nat → Nat → Nat} {cI cJ cZ cS : ClassId} {sz : Nat} (aTa : Nat) (aHe : Nat) (fHe : Nat → Int64) (q : Nat) (t : Nat) (o : Nat) (d : Nat) (hq : q < 6) (hd : d < 60) : Met zl yX3_plant wsX3_plant ({ frames := 1, cells := 0, slots := 0, locals := 21 } : Room) (va_Pc [.ref aTa, .int (nI q), .int (nI t), .int (nI o), .int (nI d)] (kPre (dC, dI) (kT cI cJ cZ cS) [(aTa, .inr (3, [.ref aHe])), (aHe, .inl (cJ, 360, .inr (.inl fHe)))] sz)) (va_Qv (fun (f1 : (Nat → Int64)) => f1 = vp_updL fHe (d * 6 + q) (fHe (d * 6 + q) ||| rum (t * 15 + o))) (fun (f1 : (Nat → Int64)) (zU : State) => va_P (dC, dI) vwCl [(aTa, .inr (3, [.ref aHe])), (aHe, .inl (cJ, 360, .inr (.inl f1)))] zU.heap) (va_A [(aTa, .inr (3, [.ref aHe])), (aHe, .inl (cJ, 360, .inr (.inl fHe)))] sz)) 0 0 (va_A [(aTa, .inr (3, [.ref aHe])), (aHe, .inl (cJ, 360, .inr (.inl fHe)))] sz) := by
  refine kstartW_v (cc := cX3_plant) (maxL := 5) rfl rfl (Nat.le_of_ble_eq_true rfl) ?_
  intro zp ze zs zm zb zt zc za zQ zA hx hb hml hts hown hN hK hP hD hS hA hin hret ls hl
  have hl : lv_has ls 5 [(0, .ref aTa), (1, .int (nI q)), (2, .int (nI t)), (3, .int (nI o)), (4, .int (nI d))] := hl
  have hinX3 : ∀ w ∈ wsX30, w ∈ wsX3_plant := fun _ h => List.mem_cons_of_mem _ (List.mem_append_right _ h)
  have lk9 := hts (.fieldLink RX3 9 "IronRumours$Talk" "heard" "[J") (List.mem_of_getElem? (i := 1) rfl)
  refine lv_aload_n hx hb dX3_plant_0 rfl (lv_at hl 0 rfl) ?_
  refine va_get (D := (dC, dI)) (ci := 3) (v := .ref aHe) (C := RX3) (T := TX3) (N := 1) hx hb hts hinX3 hown hK hP 0 rfl rfl 0 (by decide) lk9 (fun _ h9 => h9) rfl dX3_plant_1 ?_
  refine lv_iload hx hb dX3_plant_4 (lv_at hl 4 rfl) ?_
  refine lv_bipush (v := nI 6) hx hb dX3_plant_6 (by decide) ?_
  refine k_imul hx hb dX3_plant_8 ?_
  refine lv_iload_n hx hb dX3_plant_9 rfl (lv_at hl 1 rfl) ?_
  refine k_iadd hx hb dX3_plant_10 ?_
  refine lv_dup2_11 hx hb dX3_plant_11 rfl rfl ?_
  refine k_lald hx hb hK hP 1 1 rfl rfl (n := 360) (v := fHe ((d * 6) + q)) (by omega) (by decide) (rfl) dX3_plant_12 ?_
  refine lv_iload_n hx hb dX3_plant_13 rfl (lv_at hl 2 rfl) ?_
  refine lv_iload_n hx hb dX3_plant_14 rfl (lv_at hl 3 rfl) ?_
  refine rc_l (va_runS (As := [.int (nI t), .int (nI o)]) (rest := [.long (fHe ((d * 6) + q)), .int (nI ((d * 6) + q)), .ref aHe]) ⟨hx, hb, hml, hown, hts⟩ (kX3_rumour t o ) (va_cwS 2 hts gX3_plant_X3_rumour rfl rfl rfl hvX3_rumour ⟨Nat.le_of_ble_eq_true rfl, Nat.le_of_ble_eq_true rfl⟩) (rpreS hN hK (hP.sub [] rfl)) rfl rfl hl.1 rfl (lv_room (Nat.le_of_ble_eq_true rfl)) dX3_plant_15 ⟨Nat.zero_le _, Nat.zero_le _⟩) (fun r_1 hr_1 => ?_)
  have hr_1 : r_1 = rum (t * 15 + o) := hr_1
  rw [hr_1]
  refine lv_lor hx hb dX3_plant_18 ?_
  refine k_last hx hb hK hP hD hS 1 1 rfl rfl (n := 360) (by omega) (by decide) dX3_plant_19 (fun f_2 H_3 locs ef_2 hP hD hS => ?_)
  have hP : va_P (dC, dI) vwCl [(aTa, .inr (3, [.ref aHe])), (aHe, .inl (cJ, 360, .inr (.inl f_2)))] H_3 := hP
  have hD : va_D zA [(aTa, .inr (3, [.ref aHe])), (aHe, .inl (cJ, 360, .inr (.inl f_2)))] := hD
  refine hret 20 _ f_2 _ _ dX3_plant_20 hS (fun t ht _ => by rw [ht]; exact hP) ?_
  exact ef_2

set_option maxHeartbeats 800000 in
set_option maxRecDepth 100000 in
theorem kX3_keepWhatWasHeard {zl : Launch} {dC : Nat → ClassId} {dI : Nat → Nat → Nat} {cI cJ cZ cS : ClassId} {sz : Nat} (aTa : Nat) (aHe : Nat) (fHe : Nat → Int64) (d : Nat) (hd : d < 60) : Met zl yX3_keepWhatWasHeard wsX3_keepWhatWasHeard ({ frames := 0, cells := 0, slots := 0, locals := 0 } : Room) (va_Pc [.ref aTa, .int (nI d)] (kPre (dC, dI) (kT cI cJ cZ cS) [(aTa, .inr (3, [.ref aHe])), (aHe, .inl (cJ, 360, .inr (.inl fHe)))] sz)) (va_Qv (fun (f1 : (Nat → Int64)) => keptF fHe f1 d) (fun (f1 : (Nat → Int64)) (zU : State) => va_P (dC, dI) vwCl [(aTa, .inr (3, [.ref aHe])), (aHe, .inl (cJ, 360, .inr (.inl f1)))] zU.heap) (va_A [(aTa, .inr (3, [.ref aHe])), (aHe, .inl (cJ, 360, .inr (.inl fHe)))] sz)) 0 0 (va_A [(aTa, .inr (3, [.ref aHe])), (aHe, .inl (cJ, 360, .inr (.inl fHe)))] sz) := by
  refine kstartW_v (cc := cX3_keepWhatWasHeard) (maxL := 3) rfl rfl (Nat.le_of_ble_eq_true rfl) ?_
  intro zp ze zs zm zb zt zc za zQ zA hx hb hml hts hown hN hK hP hD hS hA hin hret ls hl
  have hl : lv_has ls 3 [(0, .ref aTa), (1, .int (nI d))] := hl
  have hinX3 : ∀ w ∈ wsX30, w ∈ wsX3_keepWhatWasHeard := fun _ h => List.mem_cons_of_mem _ (List.mem_append_right _ h)
  have lk9 := hts (.fieldLink RX3 9 "IronRumours$Talk" "heard" "[J") (List.mem_of_getElem? (i := 1) rfl)
  refine lv_iconst (v := nI 0) hx hb dX3_keepWhatWasHeard_0 (by decide) ?_
  refine lv_istore_n (lv' := [(2, .int (nI 0)), (0, .ref aTa), (1, .int (nI d))]) hx hb dX3_keepWhatWasHeard_1 rfl hl (by decide) rfl (fun ls hl => ?_)
  have loop2 : ∀ (n2 : Nat) (k : Nat) (g : Nat → Int64), (k ≤ 6) → (d = 0 → k = 0) → (keepI fHe g d k) → (6 - k < n2) → ∀ (H_1 : Heap) (locs : List Loc), va_P (dC, dI) vwCl [(aTa, .inr (3, [.ref aHe])), (aHe, .inl (cJ, 360, .inr (.inl g)))] H_1 → va_D zA [(aTa, .inr (3, [.ref aHe])), (aHe, .inl (cJ, 360, .inr (.inl g)))] → va_S zA zs.heap H_1 locs → ∀ (ls : Array Slot), lv_has ls 3 [(0, .ref aTa), (1, .int (nI d)), (2, .int (nI k))] → W zp zl ze ({ frames := 0, cells := 0, slots := 0, locals := 0 } : Room) zs zm za zb zt zc H_1 locs 0 0 zQ (F0 zm 2 ls []) := by
    intro n2
    induction n2 with
    | zero => intro k g hk hz hg hme; exact absurd hme (Nat.not_lt_zero _)
    | succ n2 ih2 =>
      intro k g hk hz hg hme H_1 locs hP hD hS ls hl
      refine lv_iload_n hx hb dX3_keepWhatWasHeard_2 rfl (lv_at hl 1 rfl) ?_
      refine k_if_le (tgt := 45) hx hb dX3_keepWhatWasHeard_3 (by decide) (by omega) (fun c3 => ?_) (fun c3 => ?_)
      · refine hret 45 _ g _ _ dX3_keepWhatWasHeard_45 hS (fun t ht _ => by rw [ht]; exact hP) ?_
        exact keepI_end hg (Or.inl ⟨c3, hz c3⟩)
      · refine lv_iload_n hx hb dX3_keepWhatWasHeard_6 rfl (lv_at hl 2 rfl) ?_
        refine lv_bipush (v := nI 6) hx hb dX3_keepWhatWasHeard_7 (by decide) ?_
        refine k_icmp_ge (tgt := 45) hx hb dX3_keepWhatWasHeard_9 (by decide) (by omega) (by omega) (fun c9 => ?_) (fun c9 => ?_)
        · refine hret 45 _ g _ _ dX3_keepWhatWasHeard_45 hS (fun t ht _ => by rw [ht]; exact hP) ?_
          exact keepI_end hg (Or.inr ⟨c3, c9⟩)
        · refine lv_aload_n hx hb dX3_keepWhatWasHeard_12 rfl (lv_at hl 0 rfl) ?_
          refine va_get (D := (dC, dI)) (ci := 3) (v := .ref aHe) (C := RX3) (T := TX3) (N := 1) hx hb hts hinX3 hown hK hP 0 rfl rfl 0 (by decide) lk9 (fun _ h9 => h9) rfl dX3_keepWhatWasHeard_13 ?_
          refine lv_iload_n hx hb dX3_keepWhatWasHeard_16 rfl (lv_at hl 1 rfl) ?_
          refine lv_bipush (v := nI 6) hx hb dX3_keepWhatWasHeard_17 (by decide) ?_
          refine k_imul hx hb dX3_keepWhatWasHeard_19 ?_
          refine lv_iload_n hx hb dX3_keepWhatWasHeard_20 rfl (lv_at hl 2 rfl) ?_
          refine k_iadd hx hb dX3_keepWhatWasHeard_21 ?_
          refine lv_dup2_11 hx hb dX3_keepWhatWasHeard_22 rfl rfl ?_
          refine k_lald hx hb hK hP 1 1 rfl rfl (n := 360) (v := g ((d * 6) + k)) (by omega) (by decide) (rfl) dX3_keepWhatWasHeard_23 ?_
          refine lv_aload_n hx hb dX3_keepWhatWasHeard_24 rfl (lv_at hl 0 rfl) ?_
          refine va_get (D := (dC, dI)) (ci := 3) (v := .ref aHe) (C := RX3) (T := TX3) (N := 1) hx hb hts hinX3 hown hK hP 0 rfl rfl 0 (by decide) lk9 (fun _ h9 => h9) rfl dX3_keepWhatWasHeard_25 ?_
          refine lv_iload_n hx hb dX3_keepWhatWasHeard_28 rfl (lv_at hl 1 rfl) ?_
          refine lv_iconst (v := nI 1) hx hb dX3_keepWhatWasHeard_29 (by decide) ?_
          refine k_isub hx hb (by omega) dX3_keepWhatWasHeard_30 ?_
          refine lv_bipush (v := nI 6) hx hb dX3_keepWhatWasHeard_31 (by decide) ?_
          refine k_imul hx hb dX3_keepWhatWasHeard_33 ?_
          refine lv_iload_n hx hb dX3_keepWhatWasHeard_34 rfl (lv_at hl 2 rfl) ?_
          refine k_iadd hx hb dX3_keepWhatWasHeard_35 ?_
          refine k_lald hx hb hK hP 1 1 rfl rfl (n := 360) (v := g (((d - 1) * 6) + k)) (by omega) (by decide) (rfl) dX3_keepWhatWasHeard_36 ?_
          refine lv_lor hx hb dX3_keepWhatWasHeard_37 ?_
          refine k_last hx hb hK hP hD hS 1 1 rfl rfl (n := 360) (by omega) (by decide) dX3_keepWhatWasHeard_38 (fun f_2 H_3 locs ef_2 hP hD hS => ?_)
          have hP : va_P (dC, dI) vwCl [(aTa, .inr (3, [.ref aHe])), (aHe, .inl (cJ, 360, .inr (.inl f_2)))] H_3 := hP
          have hD : va_D zA [(aTa, .inr (3, [.ref aHe])), (aHe, .inl (cJ, 360, .inr (.inl f_2)))] := hD
          refine lv_iinc (v := nI (k + 1)) (lv' := [(2, .int (nI (k + 1))), (0, .ref aTa), (1, .int (nI d))]) hx hb dX3_keepWhatWasHeard_39 hl (k := 2) rfl (nI_add _ _) (by decide) rfl (fun ls hl => ?_)
          refine lv_goto (tgt := 2) hx hb dX3_keepWhatWasHeard_42 (by decide) ?_
          exact ih2 (k + 1) f_2 (by omega) (by intro z; omega) (by exact keepI_step c3 (by omega) ef_2 hd hg) (by omega) _ _ hP hD hS _ (lv_sub hl [1, 2, 0] rfl)
  exact loop2 ((6 - 0) + 1) 0 fHe (by omega) (by intro _; rfl) (by exact keepI_0 _ _) (by exact Nat.lt_succ_self _) _ _ hP hD hS _ (lv_sub hl [1, 2, 0] rfl)

set_option maxHeartbeats 800000 in
set_option maxRecDepth 100000 in
theorem kX3_heardFirstOn {zl : Launch} {dC : Nat → ClassId} {dI : Nat → Nat → Nat} {cI cJ cZ cS : ClassId} (aTa : Nat) (aHe : Nat) (fHe : Nat → Int64) (d : Nat) (q : Nat) (hq : q < 6) (hd : d < 60) : Met zl yX3_heardFirstOn wsX3_heardFirstOn ({ frames := 0, cells := 0, slots := 0, locals := 0 } : Room) (va_Pc [.ref aTa, .int (nI d), .int (nI q)] (rPre (dC, dI) (kT cI cJ cZ cS) [(aTa, .inr (3, [.ref aHe])), (aHe, .inl (cJ, 360, .inr (.inl fHe)))])) (vp_Sl (fun r : Int64 => ∀ i, i < 64 → bl r i = hfirst fHe d q i)) 0 0 (fun _ => False) := by
  refine kstartR_l (cc := cX3_heardFirstOn) (maxL := 5) rfl rfl (Nat.le_of_ble_eq_true rfl) ?_
  intro zp ze zs zm zb zt zc za zQ hx hb hml hts hown hN hK hP hret ls hl
  have hl : lv_has ls 5 [(0, .ref aTa), (1, .int (nI d)), (2, .int (nI q))] := hl
  have hinX3 : ∀ w ∈ wsX30, w ∈ wsX3_heardFirstOn := fun _ h => List.mem_cons_of_mem _ (List.mem_append_right _ h)
  have lk9 := hts (.fieldLink RX3 9 "IronRumours$Talk" "heard" "[J") (List.mem_of_getElem? (i := 1) rfl)
  refine lv_iload_n hx hb dX3_heardFirstOn_0 rfl (lv_at hl 1 rfl) ?_
  refine k_if_le (tgt := 20) hx hb dX3_heardFirstOn_1 (by decide) (by omega) (fun c1 => ?_) (fun c1 => ?_)
  · refine lv_lconst (v := 0) hx hb dX3_heardFirstOn_20 (by decide) ?_
    refine lv_lstore_n (lv' := [(3, .long 0), (0, .ref aTa), (1, .int (nI d)), (2, .int (nI q))]) hx hb dX3_heardFirstOn_21 rfl hl (by decide) rfl (fun ls hl => ?_)
    refine lv_aload_n hx hb dX3_heardFirstOn_22 rfl (lv_at hl 1 rfl) ?_
    refine va_get (D := (dC, dI)) (ci := 3) (v := .ref aHe) (C := RX3) (T := TX3) (N := 1) hx hb hts hinX3 hown hK hP 0 rfl rfl 0 (by decide) lk9 (fun _ h9 => h9) rfl dX3_heardFirstOn_23 ?_
    refine lv_iload_n hx hb dX3_heardFirstOn_26 rfl (lv_at hl 2 rfl) ?_
    refine lv_bipush (v := nI 6) hx hb dX3_heardFirstOn_27 (by decide) ?_
    refine k_imul hx hb dX3_heardFirstOn_29 ?_
    refine lv_iload_n hx hb dX3_heardFirstOn_30 rfl (lv_at hl 3 rfl) ?_
    refine k_iadd hx hb dX3_heardFirstOn_31 ?_
    refine k_lald hx hb hK hP 1 1 rfl rfl (n := 360) (v := fHe ((d * 6) + q)) (by omega) (by decide) (rfl) dX3_heardFirstOn_32 ?_
    refine lv_lload_n hx hb dX3_heardFirstOn_33 rfl (lv_at hl 0 rfl) ?_
    refine lv_ldc2 (v := (-1)) hx hb hown (hts (.constantLong RX3 71 (-1)) (List.mem_of_getElem? (i := 2) rfl)) dX3_heardFirstOn_34 ?_
    refine lv_lxor hx hb dX3_heardFirstOn_37 ?_
    refine lv_land hx hb dX3_heardFirstOn_38 ?_
    refine hret 39 _ ((fHe ((d * 6) + q)) &&& (0 ^^^ (-1))) dX3_heardFirstOn_39 ?_
    intro i hi; rw [bl_and, bl_xor, bl_m1 i hi, bl_0]; unfold hfirst hbit; simp [c1]
  · refine lv_aload_n hx hb dX3_heardFirstOn_4 rfl (lv_at hl 0 rfl) ?_
    refine va_get (D := (dC, dI)) (ci := 3) (v := .ref aHe) (C := RX3) (T := TX3) (N := 1) hx hb hts hinX3 hown hK hP 0 rfl rfl 0 (by decide) lk9 (fun _ h9 => h9) rfl dX3_heardFirstOn_5 ?_
    refine lv_iload_n hx hb dX3_heardFirstOn_8 rfl (lv_at hl 1 rfl) ?_
    refine lv_iconst (v := nI 1) hx hb dX3_heardFirstOn_9 (by decide) ?_
    refine k_isub hx hb (by omega) dX3_heardFirstOn_10 ?_
    refine lv_bipush (v := nI 6) hx hb dX3_heardFirstOn_11 (by decide) ?_
    refine k_imul hx hb dX3_heardFirstOn_13 ?_
    refine lv_iload_n hx hb dX3_heardFirstOn_14 rfl (lv_at hl 2 rfl) ?_
    refine k_iadd hx hb dX3_heardFirstOn_15 ?_
    refine k_lald hx hb hK hP 1 1 rfl rfl (n := 360) (v := fHe (((d - 1) * 6) + q)) (by omega) (by decide) (rfl) dX3_heardFirstOn_16 ?_
    refine lv_goto (tgt := 21) hx hb dX3_heardFirstOn_17 (by decide) ?_
    refine lv_lstore_n (lv' := [(3, .long (fHe (((d - 1) * 6) + q))), (0, .ref aTa), (1, .int (nI d)), (2, .int (nI q))]) hx hb dX3_heardFirstOn_21 rfl hl (by decide) rfl (fun ls hl => ?_)
    refine lv_aload_n hx hb dX3_heardFirstOn_22 rfl (lv_at hl 1 rfl) ?_
    refine va_get (D := (dC, dI)) (ci := 3) (v := .ref aHe) (C := RX3) (T := TX3) (N := 1) hx hb hts hinX3 hown hK hP 0 rfl rfl 0 (by decide) lk9 (fun _ h9 => h9) rfl dX3_heardFirstOn_23 ?_
    refine lv_iload_n hx hb dX3_heardFirstOn_26 rfl (lv_at hl 2 rfl) ?_
    refine lv_bipush (v := nI 6) hx hb dX3_heardFirstOn_27 (by decide) ?_
    refine k_imul hx hb dX3_heardFirstOn_29 ?_
    refine lv_iload_n hx hb dX3_heardFirstOn_30 rfl (lv_at hl 3 rfl) ?_
    refine k_iadd hx hb dX3_heardFirstOn_31 ?_
    refine k_lald hx hb hK hP 1 1 rfl rfl (n := 360) (v := fHe ((d * 6) + q)) (by omega) (by decide) (rfl) dX3_heardFirstOn_32 ?_
    refine lv_lload_n hx hb dX3_heardFirstOn_33 rfl (lv_at hl 0 rfl) ?_
    refine lv_ldc2 (v := (-1)) hx hb hown (hts (.constantLong RX3 71 (-1)) (List.mem_of_getElem? (i := 2) rfl)) dX3_heardFirstOn_34 ?_
    refine lv_lxor hx hb dX3_heardFirstOn_37 ?_
    refine lv_land hx hb dX3_heardFirstOn_38 ?_
    refine hret 39 _ ((fHe ((d * 6) + q)) &&& ((fHe (((d - 1) * 6) + q)) ^^^ (-1))) dX3_heardFirstOn_39 ?_
    intro i hi; rw [bl_and, bl_xor, bl_m1 i hi]; unfold hfirst hbit; simp [c1]

set_option maxHeartbeats 800000 in
set_option maxRecDepth 100000 in
theorem kX3_asOnesOwn {zl : Launch} {dC : Nat → ClassId} {dI : Nat → Nat → Nat} {cI cJ cZ cS : ClassId} (q : Nat) (x : Int64) (hq : q < 6) (hxb : ∀ i, 60 ≤ i → bl x i = false) : Met zl yX3_asOnesOwn wsX3_asOnesOwn ({ frames := 0, cells := 0, slots := 0, locals := 0 } : Room) (va_Pc [.int (nI q), .long x] (rPre (dC, dI) (kT cI cJ cZ cS) [])) (vp_Sl (fun r : Int64 => ownI x q 60 r)) 0 0 (fun _ => False) := by
  refine kstartR_l (cc := cX3_asOnesOwn) (maxL := 6) rfl rfl (Nat.le_of_ble_eq_true rfl) ?_
  intro zp ze zs zm zb zt zc za zQ hx hb hml hts hown hN hK hP hret ls hl
  have hl : lv_has ls 6 [(0, .int (nI q)), (1, .long x)] := hl
  refine lv_lconst (v := 0) hx hb dX3_asOnesOwn_0 (by decide) ?_
  refine lv_lstore_n (lv' := [(3, .long 0), (0, .int (nI q)), (1, .long x)]) hx hb dX3_asOnesOwn_1 rfl hl (by decide) rfl (fun ls hl => ?_)
  refine lv_iconst (v := nI 0) hx hb dX3_asOnesOwn_2 (by decide) ?_
  refine lv_istore (lv' := [(5, .int (nI 0)), (3, .long 0), (0, .int (nI q)), (1, .long x)]) hx hb dX3_asOnesOwn_3 hl (by decide) rfl (fun ls hl => ?_)
  have loop5 : ∀ (n5 : Nat) (h : Nat) (own : Int64), (h % 15 = 0 ∧ h ≤ 60) → (ownI x q h own) → (60 - h < n5) → ∀ (ls : Array Slot), lv_has ls 6 [(0, .int (nI q)), (1, .long x), (3, .long own), (5, .int (nI h))] → W zp zl ze ({ frames := 0, cells := 0, slots := 0, locals := 0 } : Room) zs zm za zb zt zc zs.heap [] 0 0 zQ (F0 zm 5 ls []) := by
    intro n5
    induction n5 with
    | zero => intro h own hh ho hme; exact absurd hme (Nat.not_lt_zero _)
    | succ n5 ih5 =>
      intro h own hh ho hme ls hl
      refine lv_iload hx hb dX3_asOnesOwn_5 (lv_at hl 3 rfl) ?_
      refine lv_bipush (v := nI 60) hx hb dX3_asOnesOwn_7 (by decide) ?_
      refine k_icmp_ge (tgt := 43) hx hb dX3_asOnesOwn_9 (by decide) (by omega) (by omega) (fun c9 => ?_) (fun c9 => ?_)
      · refine lv_lload_n hx hb dX3_asOnesOwn_43 rfl (lv_at hl 2 rfl) ?_
        refine hret 44 _ own dX3_asOnesOwn_44 ?_
        exact ownI_60 c9 ho
      · refine lv_lload_n hx hb dX3_asOnesOwn_12 rfl (lv_at hl 1 rfl) ?_
        refine lv_iload hx hb dX3_asOnesOwn_13 (lv_at hl 3 rfl) ?_
        refine lv_lshr hx hb dX3_asOnesOwn_15 rfl ?_
        refine lv_ldc2 (v := 32767) hx hb hown (hts (.constantLong RX3 63 (32767)) (List.mem_of_getElem? (i := 1) rfl)) dX3_asOnesOwn_16 ?_
        refine lv_land hx hb dX3_asOnesOwn_19 ?_
        refine lv_lconst (v := 0) hx hb dX3_asOnesOwn_20 (by decide) ?_
        refine k_lcmp_eq (tgt := 37) hx hb dX3_asOnesOwn_21 dX3_asOnesOwn_22 (by decide) (fun c21 => ?_) (fun c21 => ?_)
        · refine lv_iinc (v := nI (h + 15)) (lv' := [(5, .int (nI (h + 15))), (0, .int (nI q)), (1, .long x), (3, .long own)]) hx hb dX3_asOnesOwn_37 hl (k := 3) rfl (nI_add _ _) (by decide) rfl (fun ls hl => ?_)
          refine lv_goto (tgt := 5) hx hb dX3_asOnesOwn_40 (by decide) ?_
          exact ih5 (h + 15) own (by omega) (by exact ownI_no hxb hh.1 c9 c21 ho) (by omega) _ (lv_sub hl [1, 2, 3, 0] rfl)
        · refine lv_lload_n hx hb dX3_asOnesOwn_25 rfl (lv_at hl 2 rfl) ?_
          refine lv_lconst (v := 1) hx hb dX3_asOnesOwn_26 (by decide) ?_
          refine lv_iload hx hb dX3_asOnesOwn_27 (lv_at hl 3 rfl) ?_
          refine lv_bipush (v := nI 8) hx hb dX3_asOnesOwn_29 (by decide) ?_
          refine k_iadd hx hb dX3_asOnesOwn_31 ?_
          refine lv_iload_n hx hb dX3_asOnesOwn_32 rfl (lv_at hl 0 rfl) ?_
          refine k_iadd hx hb dX3_asOnesOwn_33 ?_
          refine lv_lshl hx hb dX3_asOnesOwn_34 rfl ?_
          refine lv_lor hx hb dX3_asOnesOwn_35 ?_
          refine lv_lstore_n (lv' := [(3, .long (own ||| (1 <<< ((nI ((h + 8) + q)).toInt64 &&& 63)))), (0, .int (nI q)), (1, .long x), (5, .int (nI h))]) hx hb dX3_asOnesOwn_36 rfl hl (by decide) rfl (fun ls hl => ?_)
          refine lv_iinc (v := nI (h + 15)) (lv' := [(5, .int (nI (h + 15))), (3, .long (own ||| (1 <<< ((nI ((h + 8) + q)).toInt64 &&& 63)))), (0, .int (nI q)), (1, .long x)]) hx hb dX3_asOnesOwn_37 hl (k := 3) rfl (nI_add _ _) (by decide) rfl (fun ls hl => ?_)
          refine lv_goto (tgt := 5) hx hb dX3_asOnesOwn_40 (by decide) ?_
          exact ih5 (h + 15) (own ||| (1 <<< ((nI ((h + 8) + q)).toInt64 &&& 63))) (by omega) (by exact ownI_yes hxb hq hh.1 c9 c21 ho) (by omega) _ (lv_sub hl [2, 3, 1, 0] rfl)
  exact loop5 ((60 - 0) + 1) 0 0 (by exact ⟨rfl, by omega⟩) (by exact ownI_0 x q) (by exact Nat.lt_succ_self _) _ (lv_sub hl [2, 3, 1, 0] rfl)

set_option maxHeartbeats 800000 in
set_option maxRecDepth 100000 in
theorem kX3_changed {zl : Launch} {dC : Nat → ClassId} {dI : Nat → Nat → Nat} {cI cJ cZ cS : ClassId} (k : Nat) (q : Nat) (x : Int64) (hk : k < 3) (hq : q < 6) (hxb : ∀ i, 60 ≤ i → bl x i = false) : Met zl yX3_changed wsX3_changed ({ frames := 1, cells := 0, slots := 0, locals := 25 } : Room) (va_Pc [.int (nI k), .int (nI q), .long x] (rPre (dC, dI) (kT cI cJ cZ cS) [])) (vp_Sl (fun r : Int64 => chgB k q x r)) 0 0 (fun _ => False) := by
  refine kstartR_l (cc := cX3_changed) (maxL := 6) rfl rfl (Nat.le_of_ble_eq_true rfl) ?_
  intro zp ze zs zm zb zt zc za zQ hx hb hml hts hown hN hK hP hret ls hl
  have hl : lv_has ls 6 [(0, .int (nI k)), (1, .int (nI q)), (2, .long x)] := hl
  refine lv_iload_n hx hb dX3_changed_0 rfl (lv_at hl 0 rfl) ?_
  refine k_if_ne (tgt := 6) hx hb dX3_changed_1 (by decide) (by omega) (fun c1 => ?_) (fun c1 => ?_)
  · refine lv_lload_n hx hb dX3_changed_6 rfl (lv_at hl 2 rfl) ?_
    refine lv_bipush (v := nI 15) hx hb dX3_changed_7 (by decide) ?_
    refine lv_lshl hx hb dX3_changed_9 rfl ?_
    refine lv_lload_n hx hb dX3_changed_10 rfl (lv_at hl 2 rfl) ?_
    refine lv_bipush (v := nI 45) hx hb dX3_changed_11 (by decide) ?_
    refine lv_lshr hx hb dX3_changed_13 rfl ?_
    refine lv_lor hx hb dX3_changed_14 ?_
    refine lv_ldc2 (v := 1152921504606846975) hx hb hown (hts (.constantLong RX3 73 (1152921504606846975)) (List.mem_of_getElem? (i := 1) rfl)) dX3_changed_15 ?_
    refine lv_land hx hb dX3_changed_18 ?_
    refine lv_topl (fun nx enx => ?_)
    have hnx : nextB x nx := fun i hi => by rw [enx]; exact bl_next hxb hi
    refine lv_lstore (lv' := [(4, .long nx), (0, .int (nI k)), (1, .int (nI q)), (2, .long x)]) hx hb dX3_changed_19 hl (by decide) rfl (fun ls hl => ?_)
    refine lv_iload_n hx hb dX3_changed_21 rfl (lv_at hl 1 rfl) ?_
    refine lv_iconst (v := nI 1) hx hb dX3_changed_22 (by decide) ?_
    refine k_icmp_ne (tgt := 31) hx hb dX3_changed_23 (by decide) (by omega) (by omega) (fun c23 => ?_) (fun c23 => ?_)
    · refine lv_iload_n hx hb dX3_changed_31 rfl (lv_at hl 2 rfl) ?_
      refine lv_lload hx hb dX3_changed_32 (lv_at hl 0 rfl) ?_
      refine rc_l (va_runS (As := [.int (nI q), .long nx]) (rest := []) ⟨hx, hb, hml, hown, hts⟩ (kX3_asOnesOwn q nx hq (nextB_hi hnx)) (va_cwS 2 hts gX3_changed_X3_asOnesOwn rfl rfl rfl hvX3_asOnesOwn ⟨Nat.le_of_ble_eq_true rfl, Nat.le_of_ble_eq_true rfl⟩) (rpreS hN hK (hP.sub [] rfl)) rfl rfl hl.1 rfl (lv_room (Nat.le_of_ble_eq_true rfl)) dX3_changed_34 ⟨Nat.zero_le _, Nat.zero_le _⟩) (fun r_1 hr_1 => ?_)
      refine hret 37 _ r_1 dX3_changed_37 ?_
      exact chgB_2 hq c1 c23 hnx hr_1
    · refine lv_lload hx hb dX3_changed_26 (lv_at hl 0 rfl) ?_
      refine lv_goto (tgt := 37) hx hb dX3_changed_28 (by decide) ?_
      refine hret 37 _ nx dX3_changed_37 ?_
      rw [c23]; exact chgB_1 hnx
  · refine lv_lload_n hx hb dX3_changed_4 rfl (lv_at hl 2 rfl) ?_
    refine hret 5 _ x dX3_changed_5 ?_
    rw [c1]; exact chgB_0 hxb

set_option maxHeartbeats 800000 in
set_option maxRecDepth 100000 in
theorem kX3_broughtBy {zl : Launch} {dC : Nat → ClassId} {dI : Nat → Nat → Nat} {cI cJ cZ cS : ClassId} (aTa : Nat) (aHe : Nat) (fHe : Nat → Int64) (aPe : Nat) (aKi : Nat) (aFr : Nat) (aTo : Nat) (aDa : Nat) (np : Nat) (sm : Nat) (nw : Nat) (fKi : Nat → Int32) (fFr : Nat → Int32) (fTo : Nat → Int32) (fDa : Nat → Int32) (kd : Nat → Nat) (wf : Nat → Nat) (wt : Nat → Nat) (wd : Nat → Nat) (ms : Nat) (w : Nat) (d : Nat) (hw : waysOk np nw wf wt wd kd) (hpA : pplA np nw kd wf wt wd fKi fFr fTo fDa) (hms : ms < 64) (hwn : w < nw) (hd : d < 60) (hxb : ∀ day p i, day < 60 → p < 6 → 60 ≤ i → hbit fHe day p i = false) : Met zl yX3_broughtBy wsX3_broughtBy ({ frames := 2, cells := 0, slots := 0, locals := 50 } : Room) (va_Pc [.ref aTa, .ref aPe, .int (nI ms), .int (nI w), .int (nI d)] (rPre (dC, dI) (kT cI cJ cZ cS) [(aTa, .inr (3, [.ref aHe])), (aHe, .inl (cJ, 360, .inr (.inl fHe))), (aPe, .inr (1, [.ref aKi, .ref aFr, .ref aTo, .ref aDa, .int (nI np), .int (nI sm), .int (nI nw)])), (aKi, .inl (cI, 6, .inl fKi)), (aFr, .inl (cI, 9, .inl fFr)), (aTo, .inl (cI, 9, .inl fTo)), (aDa, .inl (cI, 9, .inl fDa))])) (vp_Sl (fun r : Int64 => ∀ i, i < 64 → (bl r i = true ↔ i < 60 ∧ broughtB nw wf wd kd ms fHe w d i))) 0 0 (fun _ => False) := by
  refine kstartR_l (cc := cX3_broughtBy) (maxL := 9) rfl rfl (Nat.le_of_ble_eq_true rfl) ?_
  intro zp ze zs zm zb zt zc za zQ hx hb hml hts hown hN hK hP hret ls hl
  have hl : lv_has ls 9 [(0, .ref aTa), (1, .ref aPe), (2, .int (nI ms)), (3, .int (nI w)), (4, .int (nI d))] := hl
  have h6 := hw.1
  have h9 := hw.2.1
  have hww := hw.2.2.2 w hwn
  have hinX1 : ∀ w ∈ wsX10, w ∈ wsX3_broughtBy := fun _ h => List.mem_cons_of_mem _ (List.mem_append_left _ (List.mem_append_right _ h))
  have lk35 := hts (.fieldLink RX3 35 "IronRumours$People" "days" "[I") (List.mem_of_getElem? (i := 1) rfl)
  have lk46 := hts (.fieldLink RX3 46 "IronRumours$People" "from" "[I") (List.mem_of_getElem? (i := 2) rfl)
  have lk56 := hts (.fieldLink RX3 56 "IronRumours$People" "kinds" "[I") (List.mem_of_getElem? (i := 3) rfl)
  refine lv_iload hx hb dX3_broughtBy_0 (lv_at hl 4 rfl) ?_
  refine lv_aload_n hx hb dX3_broughtBy_2 rfl (lv_at hl 1 rfl) ?_
  refine va_get (D := (dC, dI)) (ci := 1) (v := .ref aDa) (C := RX1) (T := TX1) (N := 7) hx hb hts hinX1 hown hK hP 2 rfl rfl 3 (by decide) lk35 (fun _ h9 => h9) rfl dX3_broughtBy_3 ?_
  refine lv_iload_n hx hb dX3_broughtBy_6 rfl (lv_at hl 3 rfl) ?_
  refine k_iald hx hb hK hP 6 0 rfl rfl (n := 9) (v := nI (wd w)) (by omega) (by decide) ((hpA.2 w hwn).2.2) dX3_broughtBy_7 ?_
  refine lv_isub hx hb dX3_broughtBy_8 ?_
  refine lv_istore (lv' := [(5, .int ((nI d) - (nI (wd w)))), (0, .ref aTa), (1, .ref aPe), (2, .int (nI ms)), (3, .int (nI w)), (4, .int (nI d))]) hx hb dX3_broughtBy_9 hl (by decide) rfl (fun ls hl => ?_)
  refine lv_aload_n hx hb dX3_broughtBy_11 rfl (lv_at hl 2 rfl) ?_
  refine va_get (D := (dC, dI)) (ci := 1) (v := .ref aFr) (C := RX1) (T := TX1) (N := 7) hx hb hts hinX1 hown hK hP 2 rfl rfl 1 (by decide) lk46 (fun _ h9 => h9) rfl dX3_broughtBy_12 ?_
  refine lv_iload_n hx hb dX3_broughtBy_15 rfl (lv_at hl 4 rfl) ?_
  refine k_iald hx hb hK hP 4 0 rfl rfl (n := 9) (v := nI (wf w)) (by omega) (by decide) ((hpA.2 w hwn).1) dX3_broughtBy_16 ?_
  refine lv_istore (lv' := [(6, .int (nI (wf w))), (5, .int ((nI d) - (nI (wd w)))), (0, .ref aTa), (1, .ref aPe), (2, .int (nI ms)), (3, .int (nI w)), (4, .int (nI d))]) hx hb dX3_broughtBy_17 hl (by decide) rfl (fun ls hl => ?_)
  refine lv_iload hx hb dX3_broughtBy_19 (lv_at hl 1 rfl) ?_
  refine lv_if_lt (tgt := 33) hx hb dX3_broughtBy_21 (by decide) (fun c21 => ?_) (fun c21 => ?_)
  · refine lv_lconst (v := 0) hx hb dX3_broughtBy_33 (by decide) ?_
    refine hret 34 _ 0 dX3_broughtBy_34 ?_
    exact brought_0 (Or.inl ((sub_lt (by omega) (by omega)).mp c21))
  · have hge : wd w ≤ d := Nat.le_of_not_lt fun z => c21 ((sub_lt (by omega) (by omega)).mpr z)
    rw [pk_sub hge] at hl
    refine lv_iload_n hx hb dX3_broughtBy_24 rfl (lv_at hl 4 rfl) ?_
    refine lv_iload hx hb dX3_broughtBy_25 (lv_at hl 0 rfl) ?_
    refine rc_i (va_runSN (As := [.int (nI ms), .int (nI (wf w))]) (rest := []) ⟨hx, hb, hml, hown, hts⟩ (kX4_holds ms (wf w) hms (by omega)) ⟨va_cnB 2 hts gX3_broughtBy_X4_holds_n49 rfl rfl rfl hN.2.2.1 (hts (.initialized RX4) (List.mem_of_getElem? (i := 5) rfl)) hvX4_holds ⟨Nat.le_of_ble_eq_true rfl, Nat.le_of_ble_eq_true rfl⟩, hts (.static yX4_holds) (List.mem_of_getElem? (i := 4) rfl), trivial⟩ (rpreS hN hK (hP.sub [] rfl)) rfl rfl hl.1 rfl (lv_room (Nat.le_of_ble_eq_true rfl)) dX3_broughtBy_27 ⟨Nat.zero_le _, Nat.zero_le _⟩) (fun r_1 hr_1 => ?_)
    have hr_1 : r_1 = kb (ms.testBit (wf w)) := hr_1
    rw [hr_1]
    refine k_if_eqb (tgt := 35) hx hb dX3_broughtBy_30 (by decide) (fun c30 => ?_) (fun c30 => ?_)
    · refine lv_aload_n hx hb dX3_broughtBy_35 rfl (lv_at hl 2 rfl) ?_
      refine lv_iload hx hb dX3_broughtBy_36 (lv_at hl 1 rfl) ?_
      refine lv_iload hx hb dX3_broughtBy_38 (lv_at hl 0 rfl) ?_
      refine rc_l (va_runV (As := [.int (nI (d - wd w)), .int (nI (wf w))]) (rest := []) ⟨hx, hb, hml, hown, hts⟩ (kX3_heardFirstOn aTa aHe fHe (d - wd w) (wf w) (by omega) (by omega)) (cwV 2 hts gX3_broughtBy_X3_heardFirstOn rfl rfl rfl hvX3_heardFirstOn ⟨Nat.le_of_ble_eq_true rfl, Nat.le_of_ble_eq_true rfl⟩) (rpreV hN (q := (RX3, TX3, 1)) (ci := 3) hK (hP.sub [0, 1] rfl) 0 rfl rfl) rfl rfl hl.1 rfl (lv_room (Nat.le_of_ble_eq_true rfl)) dX3_broughtBy_40 ⟨Nat.zero_le _, Nat.zero_le _⟩) (fun r_2 hr_2 => ?_)
      refine lv_lstore (lv' := [(7, .long r_2), (6, .int (nI (wf w))), (5, .int (nI (d - wd w))), (0, .ref aTa), (1, .ref aPe), (2, .int (nI ms)), (3, .int (nI w)), (4, .int (nI d))]) hx hb dX3_broughtBy_43 hl (by decide) rfl (fun ls hl => ?_)
      refine lv_lload hx hb dX3_broughtBy_45 (lv_at hl 0 rfl) ?_
      refine lv_lconst (v := 0) hx hb dX3_broughtBy_47 (by decide) ?_
      refine k_lcmp_ne (tgt := 56) hx hb dX3_broughtBy_48 dX3_broughtBy_49 (by decide) (fun c48 => ?_) (fun c48 => ?_)
      · refine lv_aload_n hx hb dX3_broughtBy_56 rfl (lv_at hl 4 rfl) ?_
        refine va_get (D := (dC, dI)) (ci := 1) (v := .ref aKi) (C := RX1) (T := TX1) (N := 7) hx hb hts hinX1 hown hK hP 2 rfl rfl 0 (by decide) lk56 (fun _ h9 => h9) rfl dX3_broughtBy_57 ?_
        refine lv_iload hx hb dX3_broughtBy_60 (lv_at hl 1 rfl) ?_
        refine k_iald hx hb hK hP 3 0 rfl rfl (n := 6) (v := nI (kd (wf w))) (by omega) (by decide) (hpA.1 (wf w) (by omega)) dX3_broughtBy_62 ?_
        refine lv_iload hx hb dX3_broughtBy_63 (lv_at hl 1 rfl) ?_
        refine lv_lload hx hb dX3_broughtBy_65 (lv_at hl 0 rfl) ?_
        refine rc_l (va_runS (As := [.int (nI (kd (wf w))), .int (nI (wf w)), .long r_2]) (rest := []) ⟨hx, hb, hml, hown, hts⟩ (kX3_changed (kd (wf w)) (wf w) r_2 (hw.2.2.1 (wf w) (by omega)) (by omega) (first_hi hxb (by omega) (by omega) hr_2)) (va_cwS 3 hts gX3_broughtBy_X3_changed rfl rfl rfl hvX3_changed ⟨Nat.le_of_ble_eq_true rfl, Nat.le_of_ble_eq_true rfl⟩) (rpreS hN hK (hP.sub [] rfl)) rfl rfl hl.1 rfl (lv_room (Nat.le_of_ble_eq_true rfl)) dX3_broughtBy_67 ⟨Nat.zero_le _, Nat.zero_le _⟩) (fun r_3 hr_3 => ?_)
        refine hret 70 _ r_3 dX3_broughtBy_70 ?_
        exact brought_2 hge c30 hr_2 hr_3
      · refine lv_lconst (v := 0) hx hb dX3_broughtBy_52 (by decide) ?_
        refine lv_goto (tgt := 70) hx hb dX3_broughtBy_53 (by decide) ?_
        refine hret 70 _ 0 dX3_broughtBy_70 ?_
        exact brought_1 hr_2 c48
    · refine lv_lconst (v := 0) hx hb dX3_broughtBy_33 (by decide) ?_
      refine hret 34 _ 0 dX3_broughtBy_34 ?_
      exact brought_0 (Or.inr c30)

set_option maxHeartbeats 800000 in
set_option maxRecDepth 100000 in
theorem kX3_spread {zl : Launch} {dC : Nat → ClassId} {dI : Nat → Nat → Nat} {cI cJ cZ cS : ClassId} {sz : Nat} (aTa : Nat) (aHe : Nat) (fHe : Nat → Int64) (aPe : Nat) (aKi : Nat) (aFr : Nat) (aTo : Nat) (aDa : Nat) (np : Nat) (sm : Nat) (nw : Nat) (fKi : Nat → Int32) (fFr : Nat → Int32) (fTo : Nat → Int32) (fDa : Nat → Int32) (kd : Nat → Nat) (wf : Nat → Nat) (wt : Nat → Nat) (wd : Nat → Nat) (ms : Nat) (wo : Int32) (S : Nat → Nat → Nat → Prop) (hw : waysOk np nw wf wt wd kd) (hpA : pplA np nw kd wf wt wd fKi fFr fTo fDa) (hms : ms < 64) (hpl : planted S fHe) : Met zl yX3_spread wsX3_spread ({ frames := 3, cells := 0, slots := 0, locals := 78 } : Room) (va_Pc [.ref aTa, .ref aPe, .int (nI ms), .int wo] (kPre (dC, dI) (kT cI cJ cZ cS) [(aTa, .inr (3, [.ref aHe])), (aHe, .inl (cJ, 360, .inr (.inl fHe))), (aPe, .inr (1, [.ref aKi, .ref aFr, .ref aTo, .ref aDa, .int (nI np), .int (nI sm), .int (nI nw)])), (aKi, .inl (cI, 6, .inl fKi)), (aFr, .inl (cI, 9, .inl fFr)), (aTo, .inl (cI, 9, .inl fTo)), (aDa, .inl (cI, 9, .inl fDa))] sz)) (va_Qv (fun (f1 : (Nat → Int64)) => talked (hrd nw wf wt wd kd (actW ms wo wf) S) f1) (fun (f1 : (Nat → Int64)) (zU : State) => va_P (dC, dI) vwCl [(aTa, .inr (3, [.ref aHe])), (aHe, .inl (cJ, 360, .inr (.inl f1))), (aPe, .inr (1, [.ref aKi, .ref aFr, .ref aTo, .ref aDa, .int (nI np), .int (nI sm), .int (nI nw)])), (aKi, .inl (cI, 6, .inl fKi)), (aFr, .inl (cI, 9, .inl fFr)), (aTo, .inl (cI, 9, .inl fTo)), (aDa, .inl (cI, 9, .inl fDa))] zU.heap) (va_A [(aTa, .inr (3, [.ref aHe])), (aHe, .inl (cJ, 360, .inr (.inl fHe))), (aPe, .inr (1, [.ref aKi, .ref aFr, .ref aTo, .ref aDa, .int (nI np), .int (nI sm), .int (nI nw)])), (aKi, .inl (cI, 6, .inl fKi)), (aFr, .inl (cI, 9, .inl fFr)), (aTo, .inl (cI, 9, .inl fTo)), (aDa, .inl (cI, 9, .inl fDa))] sz)) 0 0 (va_A [(aTa, .inr (3, [.ref aHe])), (aHe, .inl (cJ, 360, .inr (.inl fHe))), (aPe, .inr (1, [.ref aKi, .ref aFr, .ref aTo, .ref aDa, .int (nI np), .int (nI sm), .int (nI nw)])), (aKi, .inl (cI, 6, .inl fKi)), (aFr, .inl (cI, 9, .inl fFr)), (aTo, .inl (cI, 9, .inl fTo)), (aDa, .inl (cI, 9, .inl fDa))] sz) := by
  refine kstartW_v (cc := cX3_spread) (maxL := 7) rfl rfl (Nat.le_of_ble_eq_true rfl) ?_
  intro zp ze zs zm zb zt zc za zQ zA hx hb hml hts hown hN hK hP hD hS hA hin hret ls hl
  have hl : lv_has ls 7 [(0, .ref aTa), (1, .ref aPe), (2, .int (nI ms)), (3, .int wo)] := hl
  have h6 := hw.1
  have h9 := hw.2.1
  have hinX1 : ∀ w ∈ wsX10, w ∈ wsX3_spread := fun _ h => List.mem_cons_of_mem _ (List.mem_append_left _ (List.mem_append_right _ h))
  have hinX3 : ∀ w ∈ wsX30, w ∈ wsX3_spread := fun _ h => List.mem_cons_of_mem _ (List.mem_append_right _ h)
  have lk29 := hts (.fieldLink RX3 29 "IronRumours$People" "ways" "I") (List.mem_of_getElem? (i := 1) rfl)
  have lk35 := hts (.fieldLink RX3 35 "IronRumours$People" "days" "[I") (List.mem_of_getElem? (i := 2) rfl)
  have lk39 := hts (.fieldLink RX3 39 "IronRumours$People" "to" "[I") (List.mem_of_getElem? (i := 4) rfl)
  have lk9 := hts (.fieldLink RX3 9 "IronRumours$Talk" "heard" "[J") (List.mem_of_getElem? (i := 3) rfl)
  refine lv_iconst (v := nI 0) hx hb dX3_spread_0 (by decide) ?_
  refine lv_istore (lv' := [(4, .int (nI 0)), (0, .ref aTa), (1, .ref aPe), (2, .int (nI ms)), (3, .int wo)]) hx hb dX3_spread_1 hl (by decide) rfl (fun ls hl => ?_)
  have loop3 : ∀ (n3 : Nat) (d : Nat) (g : Nat → Int64), (d ≤ 60) → (spG nw wf wt wd kd ms wo S (d - 1) d 0 g) → (60 - d < n3) → ∀ (H_1 : Heap) (locs : List Loc), va_P (dC, dI) vwCl [(aTa, .inr (3, [.ref aHe])), (aHe, .inl (cJ, 360, .inr (.inl g))), (aPe, .inr (1, [.ref aKi, .ref aFr, .ref aTo, .ref aDa, .int (nI np), .int (nI sm), .int (nI nw)])), (aKi, .inl (cI, 6, .inl fKi)), (aFr, .inl (cI, 9, .inl fFr)), (aTo, .inl (cI, 9, .inl fTo)), (aDa, .inl (cI, 9, .inl fDa))] H_1 → va_D zA [(aTa, .inr (3, [.ref aHe])), (aHe, .inl (cJ, 360, .inr (.inl g))), (aPe, .inr (1, [.ref aKi, .ref aFr, .ref aTo, .ref aDa, .int (nI np), .int (nI sm), .int (nI nw)])), (aKi, .inl (cI, 6, .inl fKi)), (aFr, .inl (cI, 9, .inl fFr)), (aTo, .inl (cI, 9, .inl fTo)), (aDa, .inl (cI, 9, .inl fDa))] → va_S zA zs.heap H_1 locs → ∀ (ls : Array Slot), lv_has ls 7 [(0, .ref aTa), (1, .ref aPe), (2, .int (nI ms)), (3, .int wo), (4, .int (nI d))] → W zp zl ze ({ frames := 3, cells := 0, slots := 0, locals := 78 } : Room) zs zm za zb zt zc H_1 locs 0 0 zQ (F0 zm 3 ls []) := by
    intro n3
    induction n3 with
    | zero => intro d g hd hg hme; exact absurd hme (Nat.not_lt_zero _)
    | succ n3 ih3 =>
      intro d g hd hg hme H_1 locs hP hD hS ls hl
      refine lv_iload hx hb dX3_spread_3 (lv_at hl 4 rfl) ?_
      refine lv_bipush (v := nI 60) hx hb dX3_spread_5 (by decide) ?_
      refine k_icmp_ge (tgt := 96) hx hb dX3_spread_7 (by decide) (by omega) (by omega) (fun c7 => ?_) (fun c7 => ?_)
      · refine hret 96 _ g _ _ dX3_spread_96 hS (fun t ht _ => by rw [ht]; exact hP) ?_
        have e : d = 60 := by omega
        subst e
        exact spG_end hw hg
      · refine lv_aload_n hx hb dX3_spread_10 rfl (lv_at hl 0 rfl) ?_
        refine lv_iload hx hb dX3_spread_11 (lv_at hl 4 rfl) ?_
        refine kc_v (wr := [(aPe, .inr (1, [.ref aKi, .ref aFr, .ref aTo, .ref aDa, .int (nI np), .int (nI sm), .int (nI nw)])), (aKi, .inl (cI, 6, .inl fKi)), (aFr, .inl (cI, 9, .inl fFr)), (aTo, .inl (cI, 9, .inl fTo)), (aDa, .inl (cI, 9, .inl fDa))]) (va_runV (As := [.int (nI d)]) (rest := []) ⟨hx, hb, hml, hown, hts⟩ (kX3_keepWhatWasHeard aTa aHe g d (by omega)) (cwV 1 hts gX3_spread_X3_keepWhatWasHeard rfl rfl rfl hvX3_keepWhatWasHeard ⟨Nat.le_of_ble_eq_true rfl, Nat.le_of_ble_eq_true rfl⟩) (kpreV hN (q := (RX3, TX3, 1)) (ci := 3) hK (hP.sub [0, 1] rfl) (hD.sub [0, 1] (by decide) rfl) 0 rfl rfl) rfl rfl hl.1 rfl (lv_room (Nat.le_of_ble_eq_true rfl)) dX3_spread_13 ⟨Nat.zero_le _, Nat.zero_le _⟩) (fun _ => by simp only [List.map]) hP hD hS hA [0, 1] [2, 3, 4, 5, 6] rfl rfl (by decide) (by decide) (by decide) (fun f_4 H_3 locs hr_2 hP hD hS => ?_)
        have hP : va_P (dC, dI) vwCl [(aPe, .inr (1, [.ref aKi, .ref aFr, .ref aTo, .ref aDa, .int (nI np), .int (nI sm), .int (nI nw)])), (aKi, .inl (cI, 6, .inl fKi)), (aFr, .inl (cI, 9, .inl fFr)), (aTo, .inl (cI, 9, .inl fTo)), (aDa, .inl (cI, 9, .inl fDa)), (aTa, .inr (3, [.ref aHe])), (aHe, .inl (cJ, 360, .inr (.inl f_4)))] H_3 := hP
        have hD : va_D zA [(aPe, .inr (1, [.ref aKi, .ref aFr, .ref aTo, .ref aDa, .int (nI np), .int (nI sm), .int (nI nw)])), (aKi, .inl (cI, 6, .inl fKi)), (aFr, .inl (cI, 9, .inl fFr)), (aTo, .inl (cI, 9, .inl fTo)), (aDa, .inl (cI, 9, .inl fDa)), (aTa, .inr (3, [.ref aHe])), (aHe, .inl (cJ, 360, .inr (.inl f_4)))] := hD
        have hP := hP.sub (ws' := [(aTa, .inr (3, [.ref aHe])), (aHe, .inl (cJ, 360, .inr (.inl f_4))), (aPe, .inr (1, [.ref aKi, .ref aFr, .ref aTo, .ref aDa, .int (nI np), .int (nI sm), .int (nI nw)])), (aKi, .inl (cI, 6, .inl fKi)), (aFr, .inl (cI, 9, .inl fFr)), (aTo, .inl (cI, 9, .inl fTo)), (aDa, .inl (cI, 9, .inl fDa))]) [5, 6, 0, 1, 2, 3, 4] rfl
        have hD := hD.sub (ws' := [(aTa, .inr (3, [.ref aHe])), (aHe, .inl (cJ, 360, .inr (.inl f_4))), (aPe, .inr (1, [.ref aKi, .ref aFr, .ref aTo, .ref aDa, .int (nI np), .int (nI sm), .int (nI nw)])), (aKi, .inl (cI, 6, .inl fKi)), (aFr, .inl (cI, 9, .inl fFr)), (aTo, .inl (cI, 9, .inl fTo)), (aDa, .inl (cI, 9, .inl fDa))]) [5, 6, 0, 1, 2, 3, 4] (by decide) rfl
        refine lv_iconst (v := nI 0) hx hb dX3_spread_16 (by decide) ?_
        refine lv_istore (lv' := [(5, .int (nI 0)), (0, .ref aTa), (1, .ref aPe), (2, .int (nI ms)), (3, .int wo), (4, .int (nI d))]) hx hb dX3_spread_17 hl (by decide) rfl (fun ls hl => ?_)
        have loop19 : ∀ (n19 : Nat) (j : Nat) (g2 : Nat → Int64), (j ≤ nw) → (spG nw wf wt wd kd ms wo S d d j g2) → (nw - j < n19) → ∀ (H_5 : Heap) (locs : List Loc), va_P (dC, dI) vwCl [(aTa, .inr (3, [.ref aHe])), (aHe, .inl (cJ, 360, .inr (.inl g2))), (aPe, .inr (1, [.ref aKi, .ref aFr, .ref aTo, .ref aDa, .int (nI np), .int (nI sm), .int (nI nw)])), (aKi, .inl (cI, 6, .inl fKi)), (aFr, .inl (cI, 9, .inl fFr)), (aTo, .inl (cI, 9, .inl fTo)), (aDa, .inl (cI, 9, .inl fDa))] H_5 → va_D zA [(aTa, .inr (3, [.ref aHe])), (aHe, .inl (cJ, 360, .inr (.inl g2))), (aPe, .inr (1, [.ref aKi, .ref aFr, .ref aTo, .ref aDa, .int (nI np), .int (nI sm), .int (nI nw)])), (aKi, .inl (cI, 6, .inl fKi)), (aFr, .inl (cI, 9, .inl fFr)), (aTo, .inl (cI, 9, .inl fTo)), (aDa, .inl (cI, 9, .inl fDa))] → va_S zA zs.heap H_5 locs → ∀ (ls : Array Slot), lv_has ls 7 [(0, .ref aTa), (1, .ref aPe), (2, .int (nI ms)), (3, .int wo), (4, .int (nI d)), (5, .int (nI j))] → W zp zl ze ({ frames := 3, cells := 0, slots := 0, locals := 78 } : Room) zs zm za zb zt zc H_5 locs 0 0 zQ (F0 zm 19 ls []) := by
          intro n19
          induction n19 with
          | zero => intro j g2 hj hg2 hme; exact absurd hme (Nat.not_lt_zero _)
          | succ n19 ih19 =>
            intro j g2 hj hg2 hme H_5 locs hP hD hS ls hl
            refine lv_iload hx hb dX3_spread_19 (lv_at hl 5 rfl) ?_
            refine lv_aload_n hx hb dX3_spread_21 rfl (lv_at hl 1 rfl) ?_
            refine va_get (D := (dC, dI)) (ci := 1) (v := .int (nI nw)) (C := RX1) (T := TX1) (N := 7) hx hb hts hinX1 hown hK hP 2 rfl rfl 6 (by decide) lk29 (fun _ h9 => h9) rfl dX3_spread_22 ?_
            refine k_icmp_ge (tgt := 90) hx hb dX3_spread_25 (by decide) (by omega) (by omega) (fun c25 => ?_) (fun c25 => ?_)
            · refine lv_iinc (v := nI (d + 1)) (lv' := [(4, .int (nI (d + 1))), (0, .ref aTa), (1, .ref aPe), (2, .int (nI ms)), (3, .int wo), (5, .int (nI j))]) hx hb dX3_spread_90 hl (k := 4) rfl (nI_add _ _) (by decide) rfl (fun ls hl => ?_)
              refine lv_goto (tgt := 3) hx hb dX3_spread_93 (by decide) ?_
              exact ih3 (d + 1) g2 (by omega) (by have e : j = nw := (by omega); subst e; exact spG_next hg2) (by omega) _ _ hP hD hS _ (lv_sub hl [1, 2, 3, 4, 0] rfl)
            · have hwj := hw.2.2.2 j c25
              refine lv_iload hx hb dX3_spread_28 (lv_at hl 4 rfl) ?_
              refine lv_aload_n hx hb dX3_spread_30 rfl (lv_at hl 1 rfl) ?_
              refine va_get (D := (dC, dI)) (ci := 1) (v := .ref aDa) (C := RX1) (T := TX1) (N := 7) hx hb hts hinX1 hown hK hP 2 rfl rfl 3 (by decide) lk35 (fun _ h9 => h9) rfl dX3_spread_31 ?_
              refine lv_iload hx hb dX3_spread_34 (lv_at hl 5 rfl) ?_
              refine k_iald hx hb hK hP 6 0 rfl rfl (n := 9) (v := nI (wd j)) (by omega) (by decide) ((hpA.2 j c25).2.2) dX3_spread_36 ?_
              refine k_iadd hx hb dX3_spread_37 ?_
              refine lv_istore (lv' := [(6, .int (nI (d + (wd j)))), (0, .ref aTa), (1, .ref aPe), (2, .int (nI ms)), (3, .int wo), (4, .int (nI d)), (5, .int (nI j))]) hx hb dX3_spread_38 hl (by decide) rfl (fun ls hl => ?_)
              refine lv_iload hx hb dX3_spread_40 (lv_at hl 6 rfl) ?_
              refine lv_iload_n hx hb dX3_spread_42 rfl (lv_at hl 4 rfl) ?_
              refine lv_icmp_eq (tgt := 84) hx hb dX3_spread_43 (by decide) (fun c43 => ?_) (fun c43 => ?_)
              · refine lv_iinc (v := nI (j + 1)) (lv' := [(5, .int (nI (j + 1))), (6, .int (nI (d + (wd j)))), (0, .ref aTa), (1, .ref aPe), (2, .int (nI ms)), (3, .int wo), (4, .int (nI d))]) hx hb dX3_spread_84 hl (k := 6) rfl (nI_add _ _) (by decide) rfl (fun ls hl => ?_)
                refine lv_goto (tgt := 19) hx hb dX3_spread_87 (by decide) ?_
                exact ih19 (j + 1) g2 (by omega) (by exact spG_skip (Or.inl (fun z => z.1 c43)) hg2) (by omega) _ _ hP hD hS _ (lv_sub hl [2, 3, 4, 5, 6, 0] rfl)
              · refine lv_iload hx hb dX3_spread_46 (lv_at hl 0 rfl) ?_
                refine lv_bipush (v := nI 60) hx hb dX3_spread_48 (by decide) ?_
                refine k_icmp_ge (tgt := 84) hx hb dX3_spread_50 (by decide) (by omega) (by omega) (fun c50 => ?_) (fun c50 => ?_)
                · refine lv_iinc (v := nI (j + 1)) (lv' := [(5, .int (nI (j + 1))), (6, .int (nI (d + (wd j)))), (0, .ref aTa), (1, .ref aPe), (2, .int (nI ms)), (3, .int wo), (4, .int (nI d))]) hx hb dX3_spread_84 hl (k := 6) rfl (nI_add _ _) (by decide) rfl (fun ls hl => ?_)
                  refine lv_goto (tgt := 19) hx hb dX3_spread_87 (by decide) ?_
                  exact ih19 (j + 1) g2 (by omega) (by exact spG_skip (Or.inr c50) hg2) (by omega) _ _ hP hD hS _ (lv_sub hl [2, 3, 4, 5, 6, 0] rfl)
                · refine lv_aload_n hx hb dX3_spread_53 rfl (lv_at hl 1 rfl) ?_
                  refine va_get (D := (dC, dI)) (ci := 3) (v := .ref aHe) (C := RX3) (T := TX3) (N := 1) hx hb hts hinX3 hown hK hP 0 rfl rfl 0 (by decide) lk9 (fun _ h9 => h9) rfl dX3_spread_54 ?_
                  refine lv_iload hx hb dX3_spread_57 (lv_at hl 0 rfl) ?_
                  refine lv_bipush (v := nI 6) hx hb dX3_spread_59 (by decide) ?_
                  refine k_imul hx hb dX3_spread_61 ?_
                  refine lv_aload_n hx hb dX3_spread_62 rfl (lv_at hl 2 rfl) ?_
                  refine va_get (D := (dC, dI)) (ci := 1) (v := .ref aTo) (C := RX1) (T := TX1) (N := 7) hx hb hts hinX1 hown hK hP 2 rfl rfl 2 (by decide) lk39 (fun _ h9 => h9) rfl dX3_spread_63 ?_
                  refine lv_iload hx hb dX3_spread_66 (lv_at hl 6 rfl) ?_
                  refine k_iald hx hb hK hP 5 0 rfl rfl (n := 9) (v := nI (wt j)) (by omega) (by decide) ((hpA.2 j c25).2.1) dX3_spread_68 ?_
                  refine k_iadd hx hb dX3_spread_69 ?_
                  refine lv_dup2_11 hx hb dX3_spread_70 rfl rfl ?_
                  refine k_lald hx hb hK hP 1 1 rfl rfl (n := 360) (v := g2 (((d + (wd j)) * 6) + (wt j))) (by omega) (by decide) (rfl) dX3_spread_71 ?_
                  refine lv_aload_n hx hb dX3_spread_72 rfl (lv_at hl 1 rfl) ?_
                  refine lv_aload_n hx hb dX3_spread_73 rfl (lv_at hl 2 rfl) ?_
                  refine lv_iload_n hx hb dX3_spread_74 rfl (lv_at hl 3 rfl) ?_
                  refine lv_iload hx hb dX3_spread_75 (lv_at hl 6 rfl) ?_
                  refine lv_iload hx hb dX3_spread_77 (lv_at hl 0 rfl) ?_
                  refine rc_l (va_runV (As := [.ref aPe, .int (nI ms), .int (nI j), .int (nI (d + (wd j)))]) (rest := [.long (g2 (((d + (wd j)) * 6) + (wt j))), .int (nI (((d + (wd j)) * 6) + (wt j))), .ref aHe]) ⟨hx, hb, hml, hown, hts⟩ (kX3_broughtBy aTa aHe g2 aPe aKi aFr aTo aDa np sm nw fKi fFr fTo fDa kd wf wt wd ms j (d + (wd j)) hw hpA hms (by omega) (by omega) hg2.1) (cwV 4 hts gX3_spread_X3_broughtBy rfl rfl rfl hvX3_broughtBy ⟨Nat.le_of_ble_eq_true rfl, Nat.le_of_ble_eq_true rfl⟩) (rpreV hN (q := (RX3, TX3, 1)) (ci := 3) hK (hP.sub [0, 1, 2, 3, 4, 5, 6] rfl) 0 rfl rfl) rfl rfl hl.1 rfl (lv_room (Nat.le_of_ble_eq_true rfl)) dX3_spread_79 ⟨Nat.zero_le _, Nat.zero_le _⟩) (fun r_6 hr_6 => ?_)
                  refine lv_lor hx hb dX3_spread_82 ?_
                  refine k_last hx hb hK hP hD hS 1 1 rfl rfl (n := 360) (by omega) (by decide) dX3_spread_83 (fun f_7 H_8 locs ef_7 hP hD hS => ?_)
                  have hP : va_P (dC, dI) vwCl [(aTa, .inr (3, [.ref aHe])), (aHe, .inl (cJ, 360, .inr (.inl f_7))), (aPe, .inr (1, [.ref aKi, .ref aFr, .ref aTo, .ref aDa, .int (nI np), .int (nI sm), .int (nI nw)])), (aKi, .inl (cI, 6, .inl fKi)), (aFr, .inl (cI, 9, .inl fFr)), (aTo, .inl (cI, 9, .inl fTo)), (aDa, .inl (cI, 9, .inl fDa))] H_8 := hP
                  have hD : va_D zA [(aTa, .inr (3, [.ref aHe])), (aHe, .inl (cJ, 360, .inr (.inl f_7))), (aPe, .inr (1, [.ref aKi, .ref aFr, .ref aTo, .ref aDa, .int (nI np), .int (nI sm), .int (nI nw)])), (aKi, .inl (cI, 6, .inl fKi)), (aFr, .inl (cI, 9, .inl fFr)), (aTo, .inl (cI, 9, .inl fTo)), (aDa, .inl (cI, 9, .inl fDa))] := hD
                  refine lv_iinc (v := nI (j + 1)) (lv' := [(5, .int (nI (j + 1))), (6, .int (nI (d + (wd j)))), (0, .ref aTa), (1, .ref aPe), (2, .int (nI ms)), (3, .int wo), (4, .int (nI d))]) hx hb dX3_spread_84 hl (k := 6) rfl (nI_add _ _) (by decide) rfl (fun ls hl => ?_)
                  refine lv_goto (tgt := 19) hx hb dX3_spread_87 (by decide) ?_
                  exact ih19 (j + 1) f_7 (by omega) (by exact spG_push hw c25 c50 c43 hr_6 ef_7 hg2) (by omega) _ _ hP hD hS _ (lv_sub hl [2, 3, 4, 5, 6, 0] rfl)
        exact loop19 ((nw - 0) + 1) 0 f_4 (by omega) (by exact spG_keep hw c7 hr_2 hg) (by exact Nat.lt_succ_self _) _ _ hP hD hS _ (lv_sub hl [1, 2, 3, 4, 5, 0] rfl)
  exact loop3 ((60 - 0) + 1) 0 fHe (by omega) (by exact spG_start hpl) (by exact Nat.lt_succ_self _) _ _ hP hD hS _ (lv_sub hl [1, 2, 3, 4, 0] rfl)

set_option maxHeartbeats 800000 in
set_option maxRecDepth 100000 in
theorem kX3_firstDay {zl : Launch} {dC : Nat → ClassId} {dI : Nat → Nat → Nat} {cI cJ cZ cS : ClassId} (aTa : Nat) (aHe : Nat) (fHe : Nat → Int64) (q : Nat) (t : Nat) (o : Nat) (hq : q < 6) (ht : t < 4) (ho : o < 15) : Met zl yX3_firstDay wsX3_firstDay ({ frames := 1, cells := 0, slots := 0, locals := 21 } : Room) (va_Pc [.ref aTa, .int (nI q), .int (nI t), .int (nI o)] (rPre (dC, dI) (kT cI cJ cZ cS) [(aTa, .inr (3, [.ref aHe])), (aHe, .inl (cJ, 360, .inr (.inl fHe)))])) (vp_Si (fun r : Int32 => r = kNone (fstN (fun d => hbit fHe d q (t * 15 + o)) 60))) 0 0 (fun _ => False) := by
  refine kstartR_i (cc := cX3_firstDay) (maxL := 7) rfl rfl (Nat.le_of_ble_eq_true rfl) ?_
  intro zp ze zs zm zb zt zc za zQ hx hb hml hts hown hN hK hP hret ls hl
  have hl : lv_has ls 7 [(0, .ref aTa), (1, .int (nI q)), (2, .int (nI t)), (3, .int (nI o))] := hl
  have hinX3 : ∀ w ∈ wsX30, w ∈ wsX3_firstDay := fun _ h => List.mem_cons_of_mem _ (List.mem_append_right _ h)
  have lk9 := hts (.fieldLink RX3 9 "IronRumours$Talk" "heard" "[J") (List.mem_of_getElem? (i := 1) rfl)
  refine lv_iload_n hx hb dX3_firstDay_0 rfl (lv_at hl 2 rfl) ?_
  refine lv_iload_n hx hb dX3_firstDay_1 rfl (lv_at hl 3 rfl) ?_
  refine rc_l (va_runS (As := [.int (nI t), .int (nI o)]) (rest := []) ⟨hx, hb, hml, hown, hts⟩ (kX3_rumour t o ) (va_cwS 2 hts gX3_firstDay_X3_rumour rfl rfl rfl hvX3_rumour ⟨Nat.le_of_ble_eq_true rfl, Nat.le_of_ble_eq_true rfl⟩) (rpreS hN hK (hP.sub [] rfl)) rfl rfl hl.1 rfl (lv_room (Nat.le_of_ble_eq_true rfl)) dX3_firstDay_2 ⟨Nat.zero_le _, Nat.zero_le _⟩) (fun r_1 hr_1 => ?_)
  have hr_1 : r_1 = rum (t * 15 + o) := hr_1
  rw [hr_1]
  refine lv_lstore (lv' := [(4, .long (rum (t * 15 + o))), (0, .ref aTa), (1, .int (nI q)), (2, .int (nI t)), (3, .int (nI o))]) hx hb dX3_firstDay_5 hl (by decide) rfl (fun ls hl => ?_)
  refine lv_iconst (v := nI 0) hx hb dX3_firstDay_7 (by decide) ?_
  refine lv_istore (lv' := [(6, .int (nI 0)), (4, .long (rum (t * 15 + o))), (0, .ref aTa), (1, .int (nI q)), (2, .int (nI t)), (3, .int (nI o))]) hx hb dX3_firstDay_8 hl (by decide) rfl (fun ls hl => ?_)
  have loop10 : ∀ (n10 : Nat) (d : Nat), (d ≤ 60) → (fstN (fun d => hbit fHe d q (t * 15 + o)) d = 999) → (60 - d < n10) → ∀ (ls : Array Slot), lv_has ls 7 [(0, .ref aTa), (1, .int (nI q)), (2, .int (nI t)), (3, .int (nI o)), (4, .long (rum (t * 15 + o))), (6, .int (nI d))] → W zp zl ze ({ frames := 1, cells := 0, slots := 0, locals := 21 } : Room) zs zm za zb zt zc zs.heap [] 0 0 zQ (F0 zm 10 ls []) := by
    intro n10
    induction n10 with
    | zero => intro d hd hf hme; exact absurd hme (Nat.not_lt_zero _)
    | succ n10 ih10 =>
      intro d hd hf hme ls hl
      refine lv_iload hx hb dX3_firstDay_10 (lv_at hl 5 rfl) ?_
      refine lv_bipush (v := nI 60) hx hb dX3_firstDay_12 (by decide) ?_
      refine k_icmp_ge (tgt := 46) hx hb dX3_firstDay_14 (by decide) (by omega) (by omega) (fun c14 => ?_) (fun c14 => ?_)
      · refine lv_bipush (v := (-9)) hx hb dX3_firstDay_46 (by decide) ?_
        refine hret 48 _ (-9) dX3_firstDay_48 ?_
        have e : d = 60 := by omega
        subst e
        rw [hf]
        rfl
      · refine lv_aload_n hx hb dX3_firstDay_17 rfl (lv_at hl 0 rfl) ?_
        refine va_get (D := (dC, dI)) (ci := 3) (v := .ref aHe) (C := RX3) (T := TX3) (N := 1) hx hb hts hinX3 hown hK hP 0 rfl rfl 0 (by decide) lk9 (fun _ h9 => h9) rfl dX3_firstDay_18 ?_
        refine lv_iload hx hb dX3_firstDay_21 (lv_at hl 5 rfl) ?_
        refine lv_bipush (v := nI 6) hx hb dX3_firstDay_23 (by decide) ?_
        refine k_imul hx hb dX3_firstDay_25 ?_
        refine lv_iload_n hx hb dX3_firstDay_26 rfl (lv_at hl 1 rfl) ?_
        refine k_iadd hx hb dX3_firstDay_27 ?_
        refine k_lald hx hb hK hP 1 1 rfl rfl (n := 360) (v := fHe ((d * 6) + q)) (by omega) (by decide) (rfl) dX3_firstDay_28 ?_
        refine lv_lload hx hb dX3_firstDay_29 (lv_at hl 4 rfl) ?_
        refine lv_land hx hb dX3_firstDay_31 ?_
        refine lv_lconst (v := 0) hx hb dX3_firstDay_32 (by decide) ?_
        refine k_lcmp_eq (tgt := 40) hx hb dX3_firstDay_33 dX3_firstDay_34 (by decide) (fun c33 => ?_) (fun c33 => ?_)
        · refine lv_iinc (v := nI (d + 1)) (lv' := [(6, .int (nI (d + 1))), (0, .ref aTa), (1, .int (nI q)), (2, .int (nI t)), (3, .int (nI o)), (4, .long (rum (t * 15 + o)))]) hx hb dX3_firstDay_40 hl (k := 5) rfl (nI_add _ _) (by decide) rfl (fun ls hl => ?_)
          refine lv_goto (tgt := 10) hx hb dX3_firstDay_43 (by decide) ?_
          exact ih10 (d + 1) (by omega) (by exact fstN_miss hf ((rum_and (by omega)).mp c33)) (by omega) _ (lv_sub hl [1, 2, 3, 4, 5, 0] rfl)
        · refine lv_iload hx hb dX3_firstDay_37 (lv_at hl 5 rfl) ?_
          refine hret 39 _ (nI d) dX3_firstDay_39 ?_
          exact fst_found hf (hbit_yes (by omega) c33) c14
  exact loop10 ((60 - 0) + 1) 0 (by omega) (by rfl) (by exact Nat.lt_succ_self _) _ (lv_sub hl [2, 3, 4, 5, 1, 0] rfl)

set_option maxHeartbeats 800000 in
set_option maxRecDepth 100000 in
theorem kX1_isSmith {zl : Launch} {dC : Nat → ClassId} {dI : Nat → Nat → Nat} {cI cJ cZ cS : ClassId} (aPe : Nat) (aKi : Nat) (aFr : Nat) (aTo : Nat) (aDa : Nat) (np : Nat) (sm : Nat) (nw : Nat) (q : Nat) (hsm : sm < 64) (hq : q < 6) : Met zl yX1_isSmith wsX1_isSmith ({ frames := 1, cells := 0, slots := 0, locals := 21 } : Room) (va_Pc [.ref aPe, .int (nI q)] (rPre (dC, dI) (kT cI cJ cZ cS) [(aPe, .inr (1, [.ref aKi, .ref aFr, .ref aTo, .ref aDa, .int (nI np), .int (nI sm), .int (nI nw)]))])) (vp_Si (fun r : Int32 => r = kb (sm.testBit q))) 0 0 (fun _ => False) := by
  refine kstartR_z (cc := cX1_isSmith) (maxL := 2) rfl rfl (Nat.le_of_ble_eq_true rfl) ?_
  intro zp ze zs zm zb zt zc za zQ hx hb hml hts hown hN hK hP hret ls hl
  have hl : lv_has ls 2 [(0, .ref aPe), (1, .int (nI q))] := hl
  have hinX1 : ∀ w ∈ wsX10, w ∈ wsX1_isSmith := fun _ h => List.mem_cons_of_mem _ (List.mem_append_right _ h)
  have lk28 := hts (.fieldLink RX1 28 "IronRumours$People" "smiths" "I") (List.mem_of_getElem? (i := 1) rfl)
  refine lv_aload_n hx hb dX1_isSmith_0 rfl (lv_at hl 0 rfl) ?_
  refine va_get (D := (dC, dI)) (ci := 1) (v := .int (nI sm)) (C := RX1) (T := TX1) (N := 7) hx hb hts hinX1 hown hK hP 0 rfl rfl 5 (by decide) lk28 (fun _ h9 => h9) rfl dX1_isSmith_1 ?_
  refine lv_iload_n hx hb dX1_isSmith_4 rfl (lv_at hl 1 rfl) ?_
  refine rc_i (va_runSN (As := [.int (nI sm), .int (nI q)]) (rest := []) ⟨hx, hb, hml, hown, hts⟩ (kX4_holds sm q hsm hq) ⟨va_cnB 2 hts gX1_isSmith_X4_holds_n34 rfl rfl rfl hN.2.1 (hts (.initialized RX4) (List.mem_of_getElem? (i := 3) rfl)) hvX4_holds ⟨Nat.le_of_ble_eq_true rfl, Nat.le_of_ble_eq_true rfl⟩, hts (.static yX4_holds) (List.mem_of_getElem? (i := 2) rfl), trivial⟩ (rpreS hN hK (hP.sub [] rfl)) rfl rfl hl.1 rfl (lv_room (Nat.le_of_ble_eq_true rfl)) dX1_isSmith_5 ⟨Nat.zero_le _, Nat.zero_le _⟩) (fun r_1 hr_1 => ?_)
  have hr_1 : r_1 = kb (sm.testBit q) := hr_1
  rw [hr_1]
  refine hret 8 _ (sm.testBit q) dX1_isSmith_8 ?_
  rfl
