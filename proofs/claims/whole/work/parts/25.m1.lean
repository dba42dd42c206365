set_option maxHeartbeats 800000 in
set_option maxRecDepth 100000 in
theorem kX5_in {zl : Launch} {dC : Nat → ClassId} {dI : Nat → Nat → Nat} {cI cJ cZ cS : ClassId} (v : Int64) (a : Int64) (b : Int64) : Met zl yX5_in wsX5_in ({ frames := 0, cells := 0, slots := 0, locals := 0 } : Room) (va_Pc [.long v, .long a, .long b] (rPre (dC, dI) (kT cI cJ cZ cS) [])) (vp_Si (fun r : Int32 => r = kb (in64 v a b))) 0 0 (fun _ => False) := by
  refine kstartR_z (cc := cX5_in) (maxL := 6) rfl rfl (Nat.le_of_ble_eq_true rfl) ?_
  intro zp ze zs zm zb zt zc za zQ hx hb hml hts hown hN hK hP hret ls hl
  have hl : lv_has ls 6 [(0, .long v), (2, .long a), (4, .long b)] := hl
  refine lv_lload_n hx hb dX5_in_0 rfl (lv_at hl 0 rfl) ?_
  refine lv_lload_n hx hb dX5_in_1 rfl (lv_at hl 1 rfl) ?_
  refine k_lcmp_lt (tgt := 17) hx hb dX5_in_2 dX5_in_3 (by decide) (fun c2 => ?_) (fun c2 => ?_)
  · refine lv_iconst (v := nI 0) hx hb dX5_in_17 (by decide) ?_
    refine k_cast (y := kb false) (rfl) ?_
    refine hret 18 _ false dX5_in_18 ?_
    exact congrArg kb (by unfold in64; symm; first | (rw [decide_eq_true_iff]; exact ⟨Int64.not_lt.mp c2, Int64.not_lt.mp c9⟩) | (rw [decide_eq_false_iff_not]; intro z; first | exact absurd z.1 (Int64.not_le.mpr c2) | exact absurd z.2 (Int64.not_le.mpr c9)))
  · refine lv_lload_n hx hb dX5_in_6 rfl (lv_at hl 0 rfl) ?_
    refine lv_lload hx hb dX5_in_7 (lv_at hl 2 rfl) ?_
    refine k_lcmp_gt (tgt := 17) hx hb dX5_in_9 dX5_in_10 (by decide) (fun c9 => ?_) (fun c9 => ?_)
    · refine lv_iconst (v := nI 0) hx hb dX5_in_17 (by decide) ?_
      refine k_cast (y := kb false) (rfl) ?_
      refine hret 18 _ false dX5_in_18 ?_
      exact congrArg kb (by unfold in64; symm; first | (rw [decide_eq_true_iff]; exact ⟨Int64.not_lt.mp c2, Int64.not_lt.mp c9⟩) | (rw [decide_eq_false_iff_not]; intro z; first | exact absurd z.1 (Int64.not_le.mpr c2) | exact absurd z.2 (Int64.not_le.mpr c9)))
    · refine lv_iconst (v := nI 1) hx hb dX5_in_13 (by decide) ?_
      refine lv_goto (tgt := 18) hx hb dX5_in_14 (by decide) ?_
      refine k_cast (y := kb true) (rfl) ?_
      refine hret 18 _ true dX5_in_18 ?_
      exact congrArg kb (by unfold in64; symm; first | (rw [decide_eq_true_iff]; exact ⟨Int64.not_lt.mp c2, Int64.not_lt.mp c9⟩) | (rw [decide_eq_false_iff_not]; intro z; first | exact absurd z.1 (Int64.not_le.mpr c2) | exact absurd z.2 (Int64.not_le.mpr c9)))

set_option maxHeartbeats 800000 in
set_option maxRecDepth 100000 in
theorem kX5_lost {zl : Launch} {dC : Nat → ClassId} {dI : Nat → Nat → Nat} {cI cJ cZ cS : ClassId}  : Met zl yX5_lost wsX5_lost ({ frames := 0, cells := 0, slots := 0, locals := 0 } : Room) (va_Pc [] (rPre (dC, dI) (kT cI cJ cZ cS) [])) (vp_Sl (fun r : Int64 => r = (-9223372036854775808))) 0 0 (fun _ => False) := by
  refine kstartR_l (cc := cX5_lost) (maxL := 0) rfl rfl (Nat.le_of_ble_eq_true rfl) ?_
  intro zp ze zs zm zb zt zc za zQ hx hb hml hts hown hN hK hP hret ls hl
  have hl : lv_has ls 0 [] := hl
  refine lv_ldc2 (v := (-9223372036854775808)) hx hb hown (hts (.constantLong RX5 83 (-9223372036854775808)) (List.mem_of_getElem? (i := 1) rfl)) dX5_lost_0 ?_
  refine hret 3 _ (-9223372036854775808) dX5_lost_3 ?_
  rfl

set_option maxHeartbeats 800000 in
set_option maxRecDepth 100000 in
theorem kX5_isIn {zl : Launch} {dC : Nat → ClassId} {dI : Nat → Nat → Nat} {cI cJ cZ cS : ClassId} (t : Nat) (q : Nat) (ht : t < 64) (hq : q < 6) : Met zl yX5_isIn wsX5_isIn ({ frames := 0, cells := 0, slots := 0, locals := 0 } : Room) (va_Pc [.int (nI t), .int (nI q)] (rPre (dC, dI) (kT cI cJ cZ cS) [])) (vp_Si (fun r : Int32 => r = kb (t.testBit q))) 0 0 (fun _ => False) := by
  refine kstartR_z (cc := cX5_isIn) (maxL := 2) rfl rfl (Nat.le_of_ble_eq_true rfl) ?_
  intro zp ze zs zm zb zt zc za zQ hx hb hml hts hown hN hK hP hret ls hl
  have hl : lv_has ls 2 [(0, .int (nI t)), (1, .int (nI q))] := hl
  refine lv_iload_n hx hb dX5_isIn_0 rfl (lv_at hl 0 rfl) ?_
  refine lv_iload_n hx hb dX5_isIn_1 rfl (lv_at hl 1 rfl) ?_
  refine lv_ishr hx hb dX5_isIn_2 ?_
  refine lv_iconst (v := nI 1) hx hb dX5_isIn_3 (by decide) ?_
  refine lv_iand hx hb dX5_isIn_4 ?_
  refine k_cast (y := kb (t.testBit q)) (holds_b t ht q hq) ?_
  refine lv_iconst (v := nI 1) hx hb dX5_isIn_5 (by decide) ?_
  refine k_cast (y := kb true) (rfl) ?_
  refine k_icmpb_ne (tgt := 13) hx hb dX5_isIn_6 (by decide) (fun c6 => ?_) (fun c6 => ?_)
  · refine lv_iconst (v := nI 0) hx hb dX5_isIn_13 (by decide) ?_
    refine k_cast (y := kb false) (rfl) ?_
    refine hret 14 _ false dX5_isIn_14 ?_
    simp_all
  · refine lv_iconst (v := nI 1) hx hb dX5_isIn_9 (by decide) ?_
    refine lv_goto (tgt := 14) hx hb dX5_isIn_10 (by decide) ?_
    refine k_cast (y := kb true) (rfl) ?_
    refine hret 14 _ true dX5_isIn_14 ?_
    simp_all

set_option maxHeartbeats 800000 in
set_option maxRecDepth 100000 in
theorem kX5_bits {zl : Launch} {dC : Nat → ClassId} {dI : Nat → Nat → Nat} {cI cJ cZ cS : ClassId} (s : Nat) (hs : s < 64) : Met zl yX5_bits wsX5_bits ({ frames := 0, cells := 0, slots := 0, locals := 0 } : Room) (va_Pc [.int (nI s)] (rPre (dC, dI) (kT cI cJ cZ cS) [])) (vp_Si (fun r : Int32 => r = nI (popc s))) 0 0 (fun _ => False) := by
  refine kstartR_i (cc := cX5_bits) (maxL := 3) rfl rfl (Nat.le_of_ble_eq_true rfl) ?_
  intro zp ze zs zm zb zt zc za zQ hx hb hml hts hown hN hK hP hret ls hl
  have hl : lv_has ls 3 [(0, .int (nI s))] := hl
  refine lv_iconst (v := nI 0) hx hb dX5_bits_0 (by decide) ?_
  refine lv_istore_n (lv' := [(1, .int (nI 0)), (0, .int (nI s))]) hx hb dX5_bits_1 rfl hl (by decide) rfl (fun ls hl => ?_)
  refine lv_iload_n hx hb dX5_bits_2 rfl (lv_at hl 1 rfl) ?_
  refine lv_istore_n (lv' := [(2, .int (nI s)), (1, .int (nI 0)), (0, .int (nI s))]) hx hb dX5_bits_3 rfl hl (by decide) rfl (fun ls hl => ?_)
  have loop4 : ∀ (n4 : Nat) (n : Nat) (f : Nat), (f < 64) → (n + popc f = popc s) → (f < n4) → ∀ (ls : Array Slot), lv_has ls 3 [(1, .int (nI n)), (2, .int (nI f))] → W zp zl ze ({ frames := 0, cells := 0, slots := 0, locals := 0 } : Room) zs zm za zb zt zc zs.heap [] 0 0 zQ (F0 zm 4 ls []) := by
    intro n4
    induction n4 with
    | zero => intro n f hf hn hme; exact absurd hme (Nat.not_lt_zero _)
    | succ n4 ih4 =>
      intro n f hf hn hme ls hl
      refine lv_iload_n hx hb dX5_bits_4 rfl (lv_at hl 1 rfl) ?_
      refine k_if_le (tgt := 21) hx hb dX5_bits_5 (by decide) (by omega) (fun c5 => ?_) (fun c5 => ?_)
      · refine lv_iload_n hx hb dX5_bits_21 rfl (lv_at hl 0 rfl) ?_
        refine hret 22 _ (nI n) dX5_bits_22 ?_
        have e : f = 0 := by omega
        subst e
        rw [popc00] at hn
        rw [← hn]
        rfl
      · refine lv_iload_n hx hb dX5_bits_8 rfl (lv_at hl 0 rfl) ?_
        refine lv_iload_n hx hb dX5_bits_9 rfl (lv_at hl 1 rfl) ?_
        refine lv_iconst (v := nI 1) hx hb dX5_bits_10 (by decide) ?_
        refine lv_iand hx hb dX5_bits_11 ?_
        refine k_cast (y := nI (f % 2)) (an1 hf) ?_
        refine k_iadd hx hb dX5_bits_12 ?_
        refine lv_istore_n (lv' := [(1, .int (nI (n + (f % 2)))), (2, .int (nI f))]) hx hb dX5_bits_13 rfl hl (by decide) rfl (fun ls hl => ?_)
        refine lv_iload_n hx hb dX5_bits_14 rfl (lv_at hl 1 rfl) ?_
        refine lv_iconst (v := nI 1) hx hb dX5_bits_15 (by decide) ?_
        refine lv_ishr hx hb dX5_bits_16 ?_
        refine k_cast (y := nI (f / 2)) (sh1 hf) ?_
        refine lv_istore_n (lv' := [(2, .int (nI (f / 2))), (1, .int (nI (n + (f % 2))))]) hx hb dX5_bits_17 rfl hl (by decide) rfl (fun ls hl => ?_)
        refine lv_goto (tgt := 4) hx hb dX5_bits_18 (by decide) ?_
        exact ih4 (n + (f % 2)) (f / 2) (by omega) (by have := popc2 f hf; omega) (by omega) _ (lv_sub hl [1, 0] rfl)
  exact loop4 (s + 1) 0 s (by omega) (by omega) (by exact Nat.lt_succ_self _) _ (lv_sub hl [1, 0] rfl)

set_option maxHeartbeats 800000 in
set_option maxRecDepth 100000 in
theorem kX5_refused {zl : Launch} {dC : Nat → ClassId} {dI : Nat → Nat → Nat} {cI cJ cZ cS : ClassId} {sz : Nat} (bM : Nat) (fa : Nat) (np : Nat) (bKk : Nat) (bKs : Nat) (hm : Nat) (nw : Nat) (bWf : Nat) (bWt : Nat) (bWl : Nat) (lw : Nat) (bFo : Nat) (qa : Nat) (qp_ : Nat) (qw_ : Nat) (bRk : Nat) (bRs : Nat) (bRf : Nat) (bRo : Nat) (bRl : Nat) (nt : Nat) (bTp : Nat) (bTt : Nat) (bTd : Nat) (bHd : Nat) (bFn : Nat) (nr : Nat) (bRp : Nat) (bRt : Nat) (bRe : Nat) (bRh : Nat) (bZs : Nat) (bZl : Nat) (bSc : Nat) (bHn : Nat) (tr : Int32) (c : Int32) : Met zl yX5_refused wsX5_refused ({ frames := 0, cells := 0, slots := 0, locals := 0 } : Room) (va_Pc [.ref bM, .int c] (kPre (dC, dI) (kT cI cJ cZ cS) [(bM, .inr (5, .int (nI fa) :: .int (nI np) :: .ref bKk :: .ref bKs :: .int (nI hm) :: .int (nI nw) :: .ref bWf :: .ref bWt :: .ref bWl :: .int (nI lw) :: .ref bFo :: .int (nI qa) :: .int (nI qp_) :: .int (nI qw_) :: .ref bRk :: .ref bRs :: .ref bRf :: .ref bRo :: .ref bRl :: .int (nI nt) :: .ref bTp :: .ref bTt :: .ref bTd :: .ref bHd :: .ref bFn :: .int (nI nr) :: .ref bRp :: .ref bRt :: .ref bRe :: .ref bRh :: .ref bZs :: .ref bZl :: .ref bSc :: .ref bHn :: .int tr :: []))] sz)) (va_Qi (fun (r : Int32) => fun (_ : Unit) => r = c) (fun (_ : Unit) (zU : State) => va_P (dC, dI) vwCl [(bM, .inr (5, .int (nI 0) :: .int (nI np) :: .ref bKk :: .ref bKs :: .int (nI hm) :: .int (nI nw) :: .ref bWf :: .ref bWt :: .ref bWl :: .int (nI lw) :: .ref bFo :: .int (nI qa) :: .int (nI qp_) :: .int (nI qw_) :: .ref bRk :: .ref bRs :: .ref bRf :: .ref bRo :: .ref bRl :: .int (nI nt) :: .ref bTp :: .ref bTt :: .ref bTd :: .ref bHd :: .ref bFn :: .int (nI nr) :: .ref bRp :: .ref bRt :: .ref bRe :: .ref bRh :: .ref bZs :: .ref bZl :: .ref bSc :: .ref bHn :: .int tr :: []))] zU.heap) (va_A [(bM, .inr (5, .int (nI fa) :: .int (nI np) :: .ref bKk :: .ref bKs :: .int (nI hm) :: .int (nI nw) :: .ref bWf :: .ref bWt :: .ref bWl :: .int (nI lw) :: .ref bFo :: .int (nI qa) :: .int (nI qp_) :: .int (nI qw_) :: .ref bRk :: .ref bRs :: .ref bRf :: .ref bRo :: .ref bRl :: .int (nI nt) :: .ref bTp :: .ref bTt :: .ref bTd :: .ref bHd :: .ref bFn :: .int (nI nr) :: .ref bRp :: .ref bRt :: .ref bRe :: .ref bRh :: .ref bZs :: .ref bZl :: .ref bSc :: .ref bHn :: .int tr :: []))] sz)) 0 0 (va_A [(bM, .inr (5, .int (nI fa) :: .int (nI np) :: .ref bKk :: .ref bKs :: .int (nI hm) :: .int (nI nw) :: .ref bWf :: .ref bWt :: .ref bWl :: .int (nI lw) :: .ref bFo :: .int (nI qa) :: .int (nI qp_) :: .int (nI qw_) :: .ref bRk :: .ref bRs :: .ref bRf :: .ref bRo :: .ref bRl :: .int (nI nt) :: .ref bTp :: .ref bTt :: .ref bTd :: .ref bHd :: .ref bFn :: .int (nI nr) :: .ref bRp :: .ref bRt :: .ref bRe :: .ref bRh :: .ref bZs :: .ref bZl :: .ref bSc :: .ref bHn :: .int tr :: []))] sz) := by
  refine kstartW_i (cc := cX5_refused) (maxL := 2) rfl rfl (Nat.le_of_ble_eq_true rfl) ?_
  intro zp ze zs zm zb zt zc za zQ zA hx hb hml hts hown hN hK hP hD hS hA zin hret ls hl
  have hl : lv_has ls 2 [(0, .ref bM), (1, .int c)] := hl
  have hinX5 : ∀ w ∈ wsX50, w ∈ wsX5_refused := fun _ h => List.mem_cons_of_mem _ (List.mem_append_right _ h)
  have lk85 := hts (.fieldLink RX5 85 "IronRumoursModel" "fault" "I") (List.mem_of_getElem? (i := 1) rfl)
  refine lv_aload_n hx hb dX5_refused_0 rfl (lv_at hl 0 rfl) ?_
  refine lv_iconst (v := nI 0) hx hb dX5_refused_1 (by decide) ?_
  refine va_put (D := (dC, dI)) (ci := 5) (v := .int (nI 0)) (ty := .int) (C := RX5) (T := TX5) (N := 35) hx hb hts hinX5 tyX5 tyX5_ok nmX5 hown hK hP hD hS 0 rfl rfl 0 (by decide) lk85 (fun _ h9 => h9) rfl (tyX5_ok 0 (by decide)) rfl rfl (Nat.le_of_ble_eq_true rfl) dX5_refused_2 (fun H_1 locs hP hD hS => ?_)
  have hP : va_P (dC, dI) vwCl [(bM, .inr (5, .int (nI 0) :: .int (nI np) :: .ref bKk :: .ref bKs :: .int (nI hm) :: .int (nI nw) :: .ref bWf :: .ref bWt :: .ref bWl :: .int (nI lw) :: .ref bFo :: .int (nI qa) :: .int (nI qp_) :: .int (nI qw_) :: .ref bRk :: .ref bRs :: .ref bRf :: .ref bRo :: .ref bRl :: .int (nI nt) :: .ref bTp :: .ref bTt :: .ref bTd :: .ref bHd :: .ref bFn :: .int (nI nr) :: .ref bRp :: .ref bRt :: .ref bRe :: .ref bRh :: .ref bZs :: .ref bZl :: .ref bSc :: .ref bHn :: .int tr :: []))] H_1 := hP
  have hD : va_D zA [(bM, .inr (5, .int (nI 0) :: .int (nI np) :: .ref bKk :: .ref bKs :: .int (nI hm) :: .int (nI nw) :: .ref bWf :: .ref bWt :: .ref bWl :: .int (nI lw) :: .ref bFo :: .int (nI qa) :: .int (nI qp_) :: .int (nI qw_) :: .ref bRk :: .ref bRs :: .ref bRf :: .ref bRo :: .ref bRl :: .int (nI nt) :: .ref bTp :: .ref bTt :: .ref bTd :: .ref bHd :: .ref bFn :: .int (nI nr) :: .ref bRp :: .ref bRt :: .ref bRe :: .ref bRh :: .ref bZs :: .ref bZl :: .ref bSc :: .ref bHn :: .int tr :: []))] := hD
  refine lv_iload_n hx hb dX5_refused_5 rfl (lv_at hl 1 rfl) ?_
  refine hret 6 _ c () _ _ dX5_refused_6 hS (fun t ht _ => by rw [ht]; exact hP) ?_
  rfl

set_option maxHeartbeats 800000 in
set_option maxRecDepth 100000 in
theorem kX5_failed {zl : Launch} {dC : Nat → ClassId} {dI : Nat → Nat → Nat} {cI cJ cZ cS : ClassId} {sz : Nat} (bM : Nat) (fa : Nat) (np : Nat) (bKk : Nat) (bKs : Nat) (hm : Nat) (nw : Nat) (bWf : Nat) (bWt : Nat) (bWl : Nat) (lw : Nat) (bFo : Nat) (qa : Nat) (qp_ : Nat) (qw_ : Nat) (bRk : Nat) (bRs : Nat) (bRf : Nat) (bRo : Nat) (bRl : Nat) (nt : Nat) (bTp : Nat) (bTt : Nat) (bTd : Nat) (bHd : Nat) (bFn : Nat) (nr : Nat) (bRp : Nat) (bRt : Nat) (bRe : Nat) (bRh : Nat) (bZs : Nat) (bZl : Nat) (bSc : Nat) (bHn : Nat) (tr : Int32) (q : Nat) : Met zl yX5_failed wsX5_failed ({ frames := 0, cells := 0, slots := 0, locals := 0 } : Room) (va_Pc [.ref bM, .int (nI q)] (kPre (dC, dI) (kT cI cJ cZ cS) [(bM, .inr (5, .int (nI fa) :: .int (nI np) :: .ref bKk :: .ref bKs :: .int (nI hm) :: .int (nI nw) :: .ref bWf :: .ref bWt :: .ref bWl :: .int (nI lw) :: .ref bFo :: .int (nI qa) :: .int (nI qp_) :: .int (nI qw_) :: .ref bRk :: .ref bRs :: .ref bRf :: .ref bRo :: .ref bRl :: .int (nI nt) :: .ref bTp :: .ref bTt :: .ref bTd :: .ref bHd :: .ref bFn :: .int (nI nr) :: .ref bRp :: .ref bRt :: .ref bRe :: .ref bRh :: .ref bZs :: .ref bZl :: .ref bSc :: .ref bHn :: .int tr :: []))] sz)) (va_Qi (fun (r : Int32) => fun (_ : Unit) => r = (-10) - nI q) (fun (_ : Unit) (zU : State) => va_P (dC, dI) vwCl [(bM, .inr (5, .int (nI q) :: .int (nI np) :: .ref bKk :: .ref bKs :: .int (nI hm) :: .int (nI nw) :: .ref bWf :: .ref bWt :: .ref bWl :: .int (nI lw) :: .ref bFo :: .int (nI qa) :: .int (nI qp_) :: .int (nI qw_) :: .ref bRk :: .ref bRs :: .ref bRf :: .ref bRo :: .ref bRl :: .int (nI nt) :: .ref bTp :: .ref bTt :: .ref bTd :: .ref bHd :: .ref bFn :: .int (nI nr) :: .ref bRp :: .ref bRt :: .ref bRe :: .ref bRh :: .ref bZs :: .ref bZl :: .ref bSc :: .ref bHn :: .int tr :: []))] zU.heap) (va_A [(bM, .inr (5, .int (nI fa) :: .int (nI np) :: .ref bKk :: .ref bKs :: .int (nI hm) :: .int (nI nw) :: .ref bWf :: .ref bWt :: .ref bWl :: .int (nI lw) :: .ref bFo :: .int (nI qa) :: .int (nI qp_) :: .int (nI qw_) :: .ref bRk :: .ref bRs :: .ref bRf :: .ref bRo :: .ref bRl :: .int (nI nt) :: .ref bTp :: .ref bTt :: .ref bTd :: .ref bHd :: .ref bFn :: .int (nI nr) :: .ref bRp :: .ref bRt :: .ref bRe :: .ref bRh :: .ref bZs :: .ref bZl :: .ref bSc :: .ref bHn :: .int tr :: []))] sz)) 0 0 (va_A [(bM, .inr (5, .int (nI fa) :: .int (nI np) :: .ref bKk :: .ref bKs :: .int (nI hm) :: .int (nI nw) :: .ref bWf :: .ref bWt :: .ref bWl :: .int (nI lw) :: .ref bFo :: .int (nI qa) :: .int (nI qp_) :: .int (nI qw_) :: .ref bRk :: .ref bRs :: .ref bRf :: .ref bRo :: .ref bRl :: .int (nI nt) :: .ref bTp :: .ref bTt :: .ref bTd :: .ref bHd :: .ref bFn :: .int (nI nr) :: .ref bRp :: .ref bRt :: .ref bRe :: .ref bRh :: .ref bZs :: .ref bZl :: .ref bSc :: .ref bHn :: .int tr :: []))] sz) := by
  refine kstartW_i (cc := cX5_failed) (maxL := 2) rfl rfl (Nat.le_of_ble_eq_true rfl) ?_
  intro zp ze zs zm zb zt zc za zQ zA hx hb hml hts hown hN hK hP hD hS hA zin hret ls hl
  have hl : lv_has ls 2 [(0, .ref bM), (1, .int (nI q))] := hl
  have hinX5 : ∀ w ∈ wsX50, w ∈ wsX5_failed := fun _ h => List.mem_cons_of_mem _ (List.mem_append_right _ h)
  have lk85 := hts (.fieldLink RX5 85 "IronRumoursModel" "fault" "I") (List.mem_of_getElem? (i := 1) rfl)
  refine lv_aload_n hx hb dX5_failed_0 rfl (lv_at hl 0 rfl) ?_
  refine lv_iload_n hx hb dX5_failed_1 rfl (lv_at hl 1 rfl) ?_
  refine va_put (D := (dC, dI)) (ci := 5) (v := .int (nI q)) (ty := .int) (C := RX5) (T := TX5) (N := 35) hx hb hts hinX5 tyX5 tyX5_ok nmX5 hown hK hP hD hS 0 rfl rfl 0 (by decide) lk85 (fun _ h9 => h9) rfl (tyX5_ok 0 (by decide)) rfl rfl (Nat.le_of_ble_eq_true rfl) dX5_failed_2 (fun H_1 locs hP hD hS => ?_)
  have hP : va_P (dC, dI) vwCl [(bM, .inr (5, .int (nI q) :: .int (nI np) :: .ref bKk :: .ref bKs :: .int (nI hm) :: .int (nI nw) :: .ref bWf :: .ref bWt :: .ref bWl :: .int (nI lw) :: .ref bFo :: .int (nI qa) :: .int (nI qp_) :: .int (nI qw_) :: .ref bRk :: .ref bRs :: .ref bRf :: .ref bRo :: .ref bRl :: .int (nI nt) :: .ref bTp :: .ref bTt :: .ref bTd :: .ref bHd :: .ref bFn :: .int (nI nr) :: .ref bRp :: .ref bRt :: .ref bRe :: .ref bRh :: .ref bZs :: .ref bZl :: .ref bSc :: .ref bHn :: .int tr :: []))] H_1 := hP
  have hD : va_D zA [(bM, .inr (5, .int (nI q) :: .int (nI np) :: .ref bKk :: .ref bKs :: .int (nI hm) :: .int (nI nw) :: .ref bWf :: .ref bWt :: .ref bWl :: .int (nI lw) :: .ref bFo :: .int (nI qa) :: .int (nI qp_) :: .int (nI qw_) :: .ref bRk :: .ref bRs :: .ref bRf :: .ref bRo :: .ref bRl :: .int (nI nt) :: .ref bTp :: .ref bTt :: .ref bTd :: .ref bHd :: .ref bFn :: .int (nI nr) :: .ref bRp :: .ref bRt :: .ref bRe :: .ref bRh :: .ref bZs :: .ref bZl :: .ref bSc :: .ref bHn :: .int tr :: []))] := hD
  refine lv_bipush (v := (-10)) hx hb dX5_failed_5 (by decide) ?_
  refine lv_iload_n hx hb dX5_failed_7 rfl (lv_at hl 1 rfl) ?_
  refine lv_isub hx hb dX5_failed_8 ?_
  refine hret 9 _ ((-10) - (nI q)) () _ _ dX5_failed_9 hS (fun t ht _ => by rw [ht]; exact hP) ?_
  rfl

set_option maxHeartbeats 800000 in
set_option maxRecDepth 100000 in
theorem kX5_failedLong {zl : Launch} {dC : Nat → ClassId} {dI : Nat → Nat → Nat} {cI cJ cZ cS : ClassId} {sz : Nat} (bM : Nat) (fa : Nat) (np : Nat) (bKk : Nat) (bKs : Nat) (hm : Nat) (nw : Nat) (bWf : Nat) (bWt : Nat) (bWl : Nat) (lw : Nat) (bFo : Nat) (qa : Nat) (qp_ : Nat) (qw_ : Nat) (bRk : Nat) (bRs : Nat) (bRf : Nat) (bRo : Nat) (bRl : Nat) (nt : Nat) (bTp : Nat) (bTt : Nat) (bTd : Nat) (bHd : Nat) (bFn : Nat) (nr : Nat) (bRp : Nat) (bRt : Nat) (bRe : Nat) (bRh : Nat) (bZs : Nat) (bZl : Nat) (bSc : Nat) (bHn : Nat) (tr : Int32) (q : Nat) : Met zl yX5_failedLong wsX5_failedLong ({ frames := 1, cells := 0, slots := 0, locals := 19 } : Room) (va_Pc [.ref bM, .int (nI q)] (kPre (dC, dI) (kT cI cJ cZ cS) [(bM, .inr (5, .int (nI fa) :: .int (nI np) :: .ref bKk :: .ref bKs :: .int (nI hm) :: .int (nI nw) :: .ref bWf :: .ref bWt :: .ref bWl :: .int (nI lw) :: .ref bFo :: .int (nI qa) :: .int (nI qp_) :: .int (nI qw_) :: .ref bRk :: .ref bRs :: .ref bRf :: .ref bRo :: .ref bRl :: .int (nI nt) :: .ref bTp :: .ref bTt :: .ref bTd :: .ref bHd :: .ref bFn :: .int (nI nr) :: .ref bRp :: .ref bRt :: .ref bRe :: .ref bRh :: .ref bZs :: .ref bZl :: .ref bSc :: .ref bHn :: .int tr :: []))] sz)) (va_Ql (fun (r : Int64) => fun (_ : Unit) => r = (-9223372036854775808)) (fun (_ : Unit) (zU : State) => va_P (dC, dI) vwCl [(bM, .inr (5, .int (nI q) :: .int (nI np) :: .ref bKk :: .ref bKs :: .int (nI hm) :: .int (nI nw) :: .ref bWf :: .ref bWt :: .ref bWl :: .int (nI lw) :: .ref bFo :: .int (nI qa) :: .int (nI qp_) :: .int (nI qw_) :: .ref bRk :: .ref bRs :: .ref bRf :: .ref bRo :: .ref bRl :: .int (nI nt) :: .ref bTp :: .ref bTt :: .ref bTd :: .ref bHd :: .ref bFn :: .int (nI nr) :: .ref bRp :: .ref bRt :: .ref bRe :: .ref bRh :: .ref bZs :: .ref bZl :: .ref bSc :: .ref bHn :: .int tr :: []))] zU.heap) (va_A [(bM, .inr (5, .int (nI fa) :: .int (nI np) :: .ref bKk :: .ref bKs :: .int (nI hm) :: .int (nI nw) :: .ref bWf :: .ref bWt :: .ref bWl :: .int (nI lw) :: .ref bFo :: .int (nI qa) :: .int (nI qp_) :: .int (nI qw_) :: .ref bRk :: .ref bRs :: .ref bRf :: .ref bRo :: .ref bRl :: .int (nI nt) :: .ref bTp :: .ref bTt :: .ref bTd :: .ref bHd :: .ref bFn :: .int (nI nr) :: .ref bRp :: .ref bRt :: .ref bRe :: .ref bRh :: .ref bZs :: .ref bZl :: .ref bSc :: .ref bHn :: .int tr :: []))] sz)) 0 0 (va_A [(bM, .inr (5, .int (nI fa) :: .int (nI np) :: .ref bKk :: .ref bKs :: .int (nI hm) :: .int (nI nw) :: .ref bWf :: .ref bWt :: .ref bWl :: .int (nI lw) :: .ref bFo :: .int (nI qa) :: .int (nI qp_) :: .int (nI qw_) :: .ref bRk :: .ref bRs :: .ref bRf :: .ref bRo :: .ref bRl :: .int (nI nt) :: .ref bTp :: .ref bTt :: .ref bTd :: .ref bHd :: .ref bFn :: .int (nI nr) :: .ref bRp :: .ref bRt :: .ref bRe :: .ref bRh :: .ref bZs :: .ref bZl :: .ref bSc :: .ref bHn :: .int tr :: []))] sz) := by
  refine kstartW_l (cc := cX5_failedLong) (maxL := 2) rfl rfl (Nat.le_of_ble_eq_true rfl) ?_
  intro zp ze zs zm zb zt zc za zQ zA hx hb hml hts hown hN hK hP hD hS hA zin hret ls hl
  have hl : lv_has ls 2 [(0, .ref bM), (1, .int (nI q))] := hl
  have hinX5 : ∀ w ∈ wsX50, w ∈ wsX5_failedLong := fun _ h => List.mem_cons_of_mem _ (List.mem_append_right _ h)
  have lk85 := hts (.fieldLink RX5 85 "IronRumoursModel" "fault" "I") (List.mem_of_getElem? (i := 1) rfl)
  refine lv_aload_n hx hb dX5_failedLong_0 rfl (lv_at hl 0 rfl) ?_
  refine lv_iload_n hx hb dX5_failedLong_1 rfl (lv_at hl 1 rfl) ?_
  refine va_put (D := (dC, dI)) (ci := 5) (v := .int (nI q)) (ty := .int) (C := RX5) (T := TX5) (N := 35) hx hb hts hinX5 tyX5 tyX5_ok nmX5 hown hK hP hD hS 0 rfl rfl 0 (by decide) lk85 (fun _ h9 => h9) rfl (tyX5_ok 0 (by decide)) rfl rfl (Nat.le_of_ble_eq_true rfl) dX5_failedLong_2 (fun H_1 locs hP hD hS => ?_)
  have hP : va_P (dC, dI) vwCl [(bM, .inr (5, .int (nI q) :: .int (nI np) :: .ref bKk :: .ref bKs :: .int (nI hm) :: .int (nI nw) :: .ref bWf :: .ref bWt :: .ref bWl :: .int (nI lw) :: .ref bFo :: .int (nI qa) :: .int (nI qp_) :: .int (nI qw_) :: .ref bRk :: .ref bRs :: .ref bRf :: .ref bRo :: .ref bRl :: .int (nI nt) :: .ref bTp :: .ref bTt :: .ref bTd :: .ref bHd :: .ref bFn :: .int (nI nr) :: .ref bRp :: .ref bRt :: .ref bRe :: .ref bRh :: .ref bZs :: .ref bZl :: .ref bSc :: .ref bHn :: .int tr :: []))] H_1 := hP
  have hD : va_D zA [(bM, .inr (5, .int (nI q) :: .int (nI np) :: .ref bKk :: .ref bKs :: .int (nI hm) :: .int (nI nw) :: .ref bWf :: .ref bWt :: .ref bWl :: .int (nI lw) :: .ref bFo :: .int (nI qa) :: .int (nI qp_) :: .int (nI qw_) :: .ref bRk :: .ref bRs :: .ref bRf :: .ref bRo :: .ref bRl :: .int (nI nt) :: .ref bTp :: .ref bTt :: .ref bTd :: .ref bHd :: .ref bFn :: .int (nI nr) :: .ref bRp :: .ref bRt :: .ref bRe :: .ref bRh :: .ref bZs :: .ref bZl :: .ref bSc :: .ref bHn :: .int tr :: []))] := hD
  refine rc_l (va_runS (As := []) (rest := []) ⟨hx, hb, hml, hown, hts⟩ (kX5_lost  ) (va_cwS 0 hts gX5_failedLong_X5_lost rfl rfl rfl hvX5_lost ⟨Nat.le_of_ble_eq_true rfl, Nat.le_of_ble_eq_true rfl⟩) (rpreS hN hK (hP.sub [] rfl)) rfl rfl hl.1 rfl (lv_room (Nat.le_of_ble_eq_true rfl)) dX5_failedLong_5 ⟨Nat.zero_le _, Nat.zero_le _⟩) (fun r_2 hr_2 => ?_)
  have hr_2 : r_2 = (-9223372036854775808) := hr_2
  rw [hr_2]
  refine hret 8 _ (-9223372036854775808) () _ _ dX5_failedLong_8 hS (fun t ht _ => by rw [ht]; exact hP) ?_
  rfl

set_option maxHeartbeats 800000 in
set_option maxRecDepth 100000 in
theorem kX5_noPerson {zl : Launch} {dC : Nat → ClassId} {dI : Nat → Nat → Nat} {cI cJ cZ cS : ClassId} (bM : Nat) (fa : Nat) (np : Nat) (bKk : Nat) (bKs : Nat) (hm : Nat) (nw : Nat) (bWf : Nat) (bWt : Nat) (bWl : Nat) (lw : Nat) (bFo : Nat) (qa : Nat) (qp_ : Nat) (qw_ : Nat) (bRk : Nat) (bRs : Nat) (bRf : Nat) (bRo : Nat) (bRl : Nat) (nt : Nat) (bTp : Nat) (bTt : Nat) (bTd : Nat) (bHd : Nat) (bFn : Nat) (nr : Nat) (bRp : Nat) (bRt : Nat) (bRe : Nat) (bRh : Nat) (bZs : Nat) (bZl : Nat) (bSc : Nat) (bHn : Nat) (tr : Int32) (x : Int32) (hnp : np ≤ 6) : Met zl yX5_noPerson wsX5_noPerson ({ frames := 1, cells := 0, slots := 0, locals := 25 } : Room) (va_Pc [.ref bM, .int x] (rPre (dC, dI) (kT cI cJ cZ cS) [(bM, .inr (5, .int (nI fa) :: .int (nI np) :: .ref bKk :: .ref bKs :: .int (nI hm) :: .int (nI nw) :: .ref bWf :: .ref bWt :: .ref bWl :: .int (nI lw) :: .ref bFo :: .int (nI qa) :: .int (nI qp_) :: .int (nI qw_) :: .ref bRk :: .ref bRs :: .ref bRf :: .ref bRo :: .ref bRl :: .int (nI nt) :: .ref bTp :: .ref bTt :: .ref bTd :: .ref bHd :: .ref bFn :: .int (nI nr) :: .ref bRp :: .ref bRt :: .ref bRe :: .ref bRh :: .ref bZs :: .ref bZl :: .ref bSc :: .ref bHn :: .int tr :: []))])) (vp_Si (fun r : Int32 => r = kb (!blw x np))) 0 0 (fun _ => False) := by
  refine kstartR_z (cc := cX5_noPerson) (maxL := 2) rfl rfl (Nat.le_of_ble_eq_true rfl) ?_
  intro zp ze zs zm zb zt zc za zQ hx hb hml hts hown hN hK hP hret ls hl
  have hl : lv_has ls 2 [(0, .ref bM), (1, .int x)] := hl
  have hinX5 : ∀ w ∈ wsX50, w ∈ wsX5_noPerson := fun _ h => List.mem_cons_of_mem _ (List.mem_append_right _ h)
  have lk93 := hts (.fieldLink RX5 93 "IronRumoursModel" "persons" "I") (List.mem_of_getElem? (i := 1) rfl)
  refine lv_iload_n hx hb dX5_noPerson_0 rfl (lv_at hl 1 rfl) ?_
  refine lv_i2l hx hb dX5_noPerson_1 rfl ?_
  refine lv_lconst (v := 0) hx hb dX5_noPerson_2 (by decide) ?_
  refine lv_aload_n hx hb dX5_noPerson_3 rfl (lv_at hl 0 rfl) ?_
  refine va_get (D := (dC, dI)) (ci := 5) (v := .int (nI np)) (C := RX5) (T := TX5) (N := 35) hx hb hts hinX5 hown hK hP 0 rfl rfl 1 (by decide) lk93 (fun _ h9 => h9) rfl dX5_noPerson_4 ?_
  refine lv_i2l hx hb dX5_noPerson_7 rfl ?_
  refine lv_lconst (v := 1) hx hb dX5_noPerson_8 (by decide) ?_
  refine lv_lsub hx hb dX5_noPerson_9 ?_
  refine rc_i (va_runS (As := [.long x.toInt64, .long 0, .long (((nI np).toInt64) - 1)]) (rest := []) ⟨hx, hb, hml, hown, hts⟩ (kX5_in x.toInt64 0 (((nI np).toInt64) - 1) ) (va_cwS 3 hts gX5_noPerson_X5_in rfl rfl rfl hvX5_in ⟨Nat.le_of_ble_eq_true rfl, Nat.le_of_ble_eq_true rfl⟩) (rpreS hN hK (hP.sub [] rfl)) rfl rfl hl.1 rfl (lv_room (Nat.le_of_ble_eq_true rfl)) dX5_noPerson_10 ⟨Nat.zero_le _, Nat.zero_le _⟩) (fun r_1 hr_1 => ?_)
  have hr_1 : r_1 = kb (in64 x.toInt64 0 (((nI np).toInt64) - 1)) := hr_1
  rw [hr_1]
  refine k_cast (y := kb (blw x np)) (congrArg kb (in64_np (by omega))) ?_
  refine k_if_neb (tgt := 20) hx hb dX5_noPerson_13 (by decide) (fun c13 => ?_) (fun c13 => ?_)
  · refine lv_iconst (v := nI 0) hx hb dX5_noPerson_20 (by decide) ?_
    refine k_cast (y := kb false) (rfl) ?_
    refine hret 21 _ false dX5_noPerson_21 ?_
    simp_all
  · refine lv_iconst (v := nI 1) hx hb dX5_noPerson_16 (by decide) ?_
    refine lv_goto (tgt := 21) hx hb dX5_noPerson_17 (by decide) ?_
    refine k_cast (y := kb true) (rfl) ?_
    refine hret 21 _ true dX5_noPerson_21 ?_
    simp_all

set_option maxHeartbeats 800000 in
set_option maxRecDepth 100000 in
theorem kX5_isThing {zl : Launch} {dC : Nat → ClassId} {dI : Nat → Nat → Nat} {cI cJ cZ cS : ClassId} (x : Int32) : Met zl yX5_isThing wsX5_isThing ({ frames := 1, cells := 0, slots := 0, locals := 25 } : Room) (va_Pc [.int x] (rPre (dC, dI) (kT cI cJ cZ cS) [])) (vp_Si (fun r : Int32 => r = kb (blw x 4))) 0 0 (fun _ => False) := by
  refine kstartR_z (cc := cX5_isThing) (maxL := 1) rfl rfl (Nat.le_of_ble_eq_true rfl) ?_
  intro zp ze zs zm zb zt zc za zQ hx hb hml hts hown hN hK hP hret ls hl
  have hl : lv_has ls 1 [(0, .int x)] := hl
  refine lv_iload_n hx hb dX5_isThing_0 rfl (lv_at hl 0 rfl) ?_
  refine lv_i2l hx hb dX5_isThing_1 rfl ?_
  refine lv_lconst (v := 0) hx hb dX5_isThing_2 (by decide) ?_
  refine lv_ldc2 (v := 3) hx hb hown (hts (.constantLong RX5 100 (3)) (List.mem_of_getElem? (i := 1) rfl)) dX5_isThing_3 ?_
  refine rc_i (va_runS (As := [.long x.toInt64, .long 0, .long 3]) (rest := []) ⟨hx, hb, hml, hown, hts⟩ (kX5_in x.toInt64 0 3 ) (va_cwS 3 hts gX5_isThing_X5_in rfl rfl rfl hvX5_in ⟨Nat.le_of_ble_eq_true rfl, Nat.le_of_ble_eq_true rfl⟩) (rpreS hN hK (hP.sub [] rfl)) rfl rfl hl.1 rfl (lv_room (Nat.le_of_ble_eq_true rfl)) dX5_isThing_6 ⟨Nat.zero_le _, Nat.zero_le _⟩) (fun r_1 hr_1 => ?_)
  have hr_1 : r_1 = kb (in64 x.toInt64 0 3) := hr_1
  rw [hr_1]
  refine hret 9 _ (in64 x.toInt64 0 3) dX5_isThing_9 ?_
  exact congrArg kb (in64_n (by decide))

set_option maxHeartbeats 800000 in
set_option maxRecDepth 100000 in
theorem kX5_isDay {zl : Launch} {dC : Nat → ClassId} {dI : Nat → Nat → Nat} {cI cJ cZ cS : ClassId} (x : Int32) : Met zl yX5_isDay wsX5_isDay ({ frames := 1, cells := 0, slots := 0, locals := 25 } : Room) (va_Pc [.int x] (rPre (dC, dI) (kT cI cJ cZ cS) [])) (vp_Si (fun r : Int32 => r = kb (blw x 60))) 0 0 (fun _ => False) := by
  refine kstartR_z (cc := cX5_isDay) (maxL := 1) rfl rfl (Nat.le_of_ble_eq_true rfl) ?_
  intro zp ze zs zm zb zt zc za zQ hx hb hml hts hown hN hK hP hret ls hl
  have hl : lv_has ls 1 [(0, .int x)] := hl
  refine lv_iload_n hx hb dX5_isDay_0 rfl (lv_at hl 0 rfl) ?_
  refine lv_i2l hx hb dX5_isDay_1 rfl ?_
  refine lv_lconst (v := 0) hx hb dX5_isDay_2 (by decide) ?_
  refine lv_ldc2 (v := 59) hx hb hown (hts (.constantLong RX5 102 (59)) (List.mem_of_getElem? (i := 1) rfl)) dX5_isDay_3 ?_
  refine rc_i (va_runS (As := [.long x.toInt64, .long 0, .long 59]) (rest := []) ⟨hx, hb, hml, hown, hts⟩ (kX5_in x.toInt64 0 59 ) (va_cwS 3 hts gX5_isDay_X5_in rfl rfl rfl hvX5_in ⟨Nat.le_of_ble_eq_true rfl, Nat.le_of_ble_eq_true rfl⟩) (rpreS hN hK (hP.sub [] rfl)) rfl rfl hl.1 rfl (lv_room (Nat.le_of_ble_eq_true rfl)) dX5_isDay_6 ⟨Nat.zero_le _, Nat.zero_le _⟩) (fun r_1 hr_1 => ?_)
  have hr_1 : r_1 = kb (in64 x.toInt64 0 59) := hr_1
  rw [hr_1]
  refine hret 9 _ (in64 x.toInt64 0 59) dX5_isDay_9 ?_
  exact congrArg kb (in64_n (by decide))

set_option maxHeartbeats 800000 in
set_option maxRecDepth 100000 in
theorem kX5_noSheet {zl : Launch} {dC : Nat → ClassId} {dI : Nat → Nat → Nat} {cI cJ cZ cS : ClassId} (x : Int32) : Met zl yX5_noSheet wsX5_noSheet ({ frames := 1, cells := 0, slots := 0, locals := 25 } : Room) (va_Pc [.int x] (rPre (dC, dI) (kT cI cJ cZ cS) [])) (vp_Si (fun r : Int32 => r = kb (!blw x 4))) 0 0 (fun _ => False) := by
  refine kstartR_z (cc := cX5_noSheet) (maxL := 1) rfl rfl (Nat.le_of_ble_eq_true rfl) ?_
  intro zp ze zs zm zb zt zc za zQ hx hb hml hts hown hN hK hP hret ls hl
  have hl : lv_has ls 1 [(0, .int x)] := hl
  refine lv_iload_n hx hb dX5_noSheet_0 rfl (lv_at hl 0 rfl) ?_
  refine lv_i2l hx hb dX5_noSheet_1 rfl ?_
  refine lv_lconst (v := 0) hx hb dX5_noSheet_2 (by decide) ?_
  refine lv_ldc2 (v := 3) hx hb hown (hts (.constantLong RX5 100 (3)) (List.mem_of_getElem? (i := 1) rfl)) dX5_noSheet_3 ?_
  refine rc_i (va_runS (As := [.long x.toInt64, .long 0, .long 3]) (rest := []) ⟨hx, hb, hml, hown, hts⟩ (kX5_in x.toInt64 0 3 ) (va_cwS 3 hts gX5_noSheet_X5_in rfl rfl rfl hvX5_in ⟨Nat.le_of_ble_eq_true rfl, Nat.le_of_ble_eq_true rfl⟩) (rpreS hN hK (hP.sub [] rfl)) rfl rfl hl.1 rfl (lv_room (Nat.le_of_ble_eq_true rfl)) dX5_noSheet_6 ⟨Nat.zero_le _, Nat.zero_le _⟩) (fun r_1 hr_1 => ?_)
  have hr_1 : r_1 = kb (in64 x.toInt64 0 3) := hr_1
  rw [hr_1]
  refine k_cast (y := kb (blw x 4)) (congrArg kb (in64_n (by decide))) ?_
  refine k_if_neb (tgt := 16) hx hb dX5_noSheet_9 (by decide) (fun c9 => ?_) (fun c9 => ?_)
  · refine lv_iconst (v := nI 0) hx hb dX5_noSheet_16 (by decide) ?_
    refine k_cast (y := kb false) (rfl) ?_
    refine hret 17 _ false dX5_noSheet_17 ?_
    simp_all
  · refine lv_iconst (v := nI 1) hx hb dX5_noSheet_12 (by decide) ?_
    refine lv_goto (tgt := 17) hx hb dX5_noSheet_13 (by decide) ?_
    refine k_cast (y := kb true) (rfl) ?_
    refine hret 17 _ true dX5_noSheet_17 ?_
    simp_all

set_option maxHeartbeats 800000 in
set_option maxRecDepth 100000 in
theorem kX5_all {zl : Launch} {dC : Nat → ClassId} {dI : Nat → Nat → Nat} {cI cJ cZ cS : ClassId} (bM : Nat) (fa : Nat) (np : Nat) (bKk : Nat) (bKs : Nat) (hm : Nat) (nw : Nat) (bWf : Nat) (bWt : Nat) (bWl : Nat) (lw : Nat) (bFo : Nat) (qa : Nat) (qp_ : Nat) (qw_ : Nat) (bRk : Nat) (bRs : Nat) (bRf : Nat) (bRo : Nat) (bRl : Nat) (nt : Nat) (bTp : Nat) (bTt : Nat) (bTd : Nat) (bHd : Nat) (bFn : Nat) (nr : Nat) (bRp : Nat) (bRt : Nat) (bRe : Nat) (bRh : Nat) (bZs : Nat) (bZl : Nat) (bSc : Nat) (bHn : Nat) (tr : Int32) (hnp : np ≤ 6) : Met zl yX5_all wsX5_all ({ frames := 0, cells := 0, slots := 0, locals := 0 } : Room) (va_Pc [.ref bM] (rPre (dC, dI) (kT cI cJ cZ cS) [(bM, .inr (5, .int (nI fa) :: .int (nI np) :: .ref bKk :: .ref bKs :: .int (nI hm) :: .int (nI nw) :: .ref bWf :: .ref bWt :: .ref bWl :: .int (nI lw) :: .ref bFo :: .int (nI qa) :: .int (nI qp_) :: .int (nI qw_) :: .ref bRk :: .ref bRs :: .ref bRf :: .ref bRo :: .ref bRl :: .int (nI nt) :: .ref bTp :: .ref bTt :: .ref bTd :: .ref bHd :: .ref bFn :: .int (nI nr) :: .ref bRp :: .ref bRt :: .ref bRe :: .ref bRh :: .ref bZs :: .ref bZl :: .ref bSc :: .ref bHn :: .int tr :: []))])) (vp_Si (fun r : Int32 => r = nI (2 ^ np - 1))) 0 0 (fun _ => False) := by
  refine kstartR_i (cc := cX5_all) (maxL := 1) rfl rfl (Nat.le_of_ble_eq_true rfl) ?_
  intro zp ze zs zm zb zt zc za zQ hx hb hml hts hown hN hK hP hret ls hl
  have hl : lv_has ls 1 [(0, .ref bM)] := hl
  have hp1 := pw1 np
  have hinX5 : ∀ w ∈ wsX50, w ∈ wsX5_all := fun _ h => List.mem_cons_of_mem _ (List.mem_append_right _ h)
  have lk93 := hts (.fieldLink RX5 93 "IronRumoursModel" "persons" "I") (List.mem_of_getElem? (i := 1) rfl)
  refine lv_iconst (v := nI 1) hx hb dX5_all_0 (by decide) ?_
  refine lv_aload_n hx hb dX5_all_1 rfl (lv_at hl 0 rfl) ?_
  refine va_get (D := (dC, dI)) (ci := 5) (v := .int (nI np)) (C := RX5) (T := TX5) (N := 35) hx hb hts hinX5 hown hK hP 0 rfl rfl 1 (by decide) lk93 (fun _ h9 => h9) rfl dX5_all_2 ?_
  refine lv_ishl hx hb dX5_all_5 ?_
  refine k_cast (y := nI (2 ^ np)) (pw_shl np (by omega)) ?_
  refine lv_iconst (v := nI 1) hx hb dX5_all_6 (by decide) ?_
  refine k_isub hx hb (by omega) dX5_all_7 ?_
  refine hret 8 _ (nI ((2 ^ np) - 1)) dX5_all_8 ?_
  rfl

set_option maxHeartbeats 800000 in
set_option maxRecDepth 100000 in
theorem kX5_placeOf {zl : Launch} {dC : Nat → ClassId} {dI : Nat → Nat → Nat} {cI cJ cZ cS : ClassId} (p : Nat) (t : Nat) (o : Nat) : Met zl yX5_placeOf wsX5_placeOf ({ frames := 0, cells := 0, slots := 0, locals := 0 } : Room) (va_Pc [.int (nI p), .int (nI t), .int (nI o)] (rPre (dC, dI) (kT cI cJ cZ cS) [])) (vp_Si (fun r : Int32 => r = nI (15 * (4 * p + t) + o))) 0 0 (fun _ => False) := by
  refine kstartR_i (cc := cX5_placeOf) (maxL := 3) rfl rfl (Nat.le_of_ble_eq_true rfl) ?_
  intro zp ze zs zm zb zt zc za zQ hx hb hml hts hown hN hK hP hret ls hl
  have hl : lv_has ls 3 [(0, .int (nI p)), (1, .int (nI t)), (2, .int (nI o))] := hl
  refine lv_bipush (v := nI 15) hx hb dX5_placeOf_0 (by decide) ?_
  refine lv_iconst (v := nI 4) hx hb dX5_placeOf_2 (by decide) ?_
  refine lv_iload_n hx hb dX5_placeOf_3 rfl (lv_at hl 0 rfl) ?_
  refine k_imul hx hb dX5_placeOf_4 ?_
  refine lv_iload_n hx hb dX5_placeOf_5 rfl (lv_at hl 1 rfl) ?_
  refine k_iadd hx hb dX5_placeOf_6 ?_
  refine k_imul hx hb dX5_placeOf_7 ?_
  refine lv_iload_n hx hb dX5_placeOf_8 rfl (lv_at hl 2 rfl) ?_
  refine k_iadd hx hb dX5_placeOf_9 ?_
  refine hret 10 _ (nI ((15 * ((4 * p) + t)) + o)) dX5_placeOf_10 ?_
  rfl

set_option maxHeartbeats 800000 in
set_option maxRecDepth 100000 in
theorem kX5_begin {zl : Launch} {dC : Nat → ClassId} {dI : Nat → Nat → Nat} {cI cJ cZ cS : ClassId} {sz : Nat} (bM : Nat) (fa : Nat) (np : Nat) (bKk : Nat) (bKs : Nat) (hm : Nat) (nw : Nat) (bWf : Nat) (bWt : Nat) (bWl : Nat) (lw : Nat) (bFo : Nat) (qa : Nat) (qp_ : Nat) (qw_ : Nat) (bRk : Nat) (bRs : Nat) (bRf : Nat) (bRo : Nat) (bRl : Nat) (nt : Nat) (bTp : Nat) (bTt : Nat) (bTd : Nat) (bHd : Nat) (bFn : Nat) (nr : Nat) (bRp : Nat) (bRt : Nat) (bRe : Nat) (bRh : Nat) (bZs : Nat) (bZl : Nat) (bSc : Nat) (bHn : Nat) (tr : Int32) (mHd : Nat → Int32) : Met zl yX5_begin wsX5_begin ({ frames := 0, cells := 0, slots := 0, locals := 0 } : Room) (va_Pc [.ref bM] (kPre (dC, dI) (kT cI cJ cZ cS) [(bM, .inr (5, .int (nI fa) :: .int (nI np) :: .ref bKk :: .ref bKs :: .int (nI hm) :: .int (nI nw) :: .ref bWf :: .ref bWt :: .ref bWl :: .int (nI lw) :: .ref bFo :: .int (nI qa) :: .int (nI qp_) :: .int (nI qw_) :: .ref bRk :: .ref bRs :: .ref bRf :: .ref bRo :: .ref bRl :: .int (nI nt) :: .ref bTp :: .ref bTt :: .ref bTd :: .ref bHd :: .ref bFn :: .int (nI nr) :: .ref bRp :: .ref bRt :: .ref bRe :: .ref bRh :: .ref bZs :: .ref bZl :: .ref bSc :: .ref bHn :: .int tr :: [])), (bHd, .inl (cI, 360, .inl mHd))] sz)) (va_Qv (fun (f1 : (Nat → Int32)) => ∀ i, i < 360 → f1 i = nI 999) (fun (f1 : (Nat → Int32)) (zU : State) => va_P (dC, dI) vwCl [(bM, .inr (5, .int (nI fa) :: .int (nI np) :: .ref bKk :: .ref bKs :: .int (nI hm) :: .int (nI nw) :: .ref bWf :: .ref bWt :: .ref bWl :: .int (nI lw) :: .ref bFo :: .int (nI qa) :: .int (nI qp_) :: .int (nI qw_) :: .ref bRk :: .ref bRs :: .ref bRf :: .ref bRo :: .ref bRl :: .int (nI nt) :: .ref bTp :: .ref bTt :: .ref bTd :: .ref bHd :: .ref bFn :: .int (nI nr) :: .ref bRp :: .ref bRt :: .ref bRe :: .ref bRh :: .ref bZs :: .ref bZl :: .ref bSc :: .ref bHn :: .int tr :: [])), (bHd, .inl (cI, 360, .inl f1))] zU.heap) (va_A [(bM, .inr (5, .int (nI fa) :: .int (nI np) :: .ref bKk :: .ref bKs :: .int (nI hm) :: .int (nI nw) :: .ref bWf :: .ref bWt :: .ref bWl :: .int (nI lw) :: .ref bFo :: .int (nI qa) :: .int (nI qp_) :: .int (nI qw_) :: .ref bRk :: .ref bRs :: .ref bRf :: .ref bRo :: .ref bRl :: .int (nI nt) :: .ref bTp :: .ref bTt :: .ref bTd :: .ref bHd :: .ref bFn :: .int (nI nr) :: .ref bRp :: .ref bRt :: .ref bRe :: .ref bRh :: .ref bZs :: .ref bZl :: .ref bSc :: .ref bHn :: .int tr :: [])), (bHd, .inl (cI, 360, .inl mHd))] sz)) 0 0 (va_A [(bM, .inr (5, .int (nI fa) :: .int (nI np) :: .ref bKk :: .ref bKs :: .int (nI hm) :: .int (nI nw) :: .ref bWf :: .ref bWt :: .ref bWl :: .int (nI lw) :: .ref bFo :: .int (nI qa) :: .int (nI qp_) :: .int (nI qw_) :: .ref bRk :: .ref bRs :: .ref bRf :: .ref bRo :: .ref bRl :: .int (nI nt) :: .ref bTp :: .ref bTt :: .ref bTd :: .ref bHd :: .ref bFn :: .int (nI nr) :: .ref bRp :: .ref bRt :: .ref bRe :: .ref bRh :: .ref bZs :: .ref bZl :: .ref bSc :: .ref bHn :: .int tr :: [])), (bHd, .inl (cI, 360, .inl mHd))] sz) := by
  refine kstartW_v (cc := cX5_begin) (maxL := 2) rfl rfl (Nat.le_of_ble_eq_true rfl) ?_
  intro zp ze zs zm zb zt zc za zQ zA hx hb hml hts hown hN hK hP hD hS hA zin hret ls hl
  have hl : lv_has ls 2 [(0, .ref bM)] := hl
  have hinX5 : ∀ w ∈ wsX50, w ∈ wsX5_begin := fun _ h => List.mem_cons_of_mem _ (List.mem_append_right _ h)
  have lk53 := hts (.fieldLink RX5 53 "IronRumoursModel" "heard" "[I") (List.mem_of_getElem? (i := 1) rfl)
  refine lv_iconst (v := nI 0) hx hb dX5_begin_0 (by decide) ?_
  refine lv_istore_n (lv' := [(1, .int (nI 0)), (0, .ref bM)]) hx hb dX5_begin_1 rfl hl (by decide) rfl (fun ls hl => ?_)
  have loop2 : ∀ (n2 : Nat) (x : Nat) (g : Nat → Int32), (x ≤ 360) → (∀ i, i < x → g i = nI 999) → (360 - x < n2) → ∀ (H_1 : Heap) (locs : List Loc), va_P (dC, dI) vwCl [(bM, .inr (5, .int (nI fa) :: .int (nI np) :: .ref bKk :: .ref bKs :: .int (nI hm) :: .int (nI nw) :: .ref bWf :: .ref bWt :: .ref bWl :: .int (nI lw) :: .ref bFo :: .int (nI qa) :: .int (nI qp_) :: .int (nI qw_) :: .ref bRk :: .ref bRs :: .ref bRf :: .ref bRo :: .ref bRl :: .int (nI nt) :: .ref bTp :: .ref bTt :: .ref bTd :: .ref bHd :: .ref bFn :: .int (nI nr) :: .ref bRp :: .ref bRt :: .ref bRe :: .ref bRh :: .ref bZs :: .ref bZl :: .ref bSc :: .ref bHn :: .int tr :: [])), (bHd, .inl (cI, 360, .inl g))] H_1 → va_D zA [(bM, .inr (5, .int (nI fa) :: .int (nI np) :: .ref bKk :: .ref bKs :: .int (nI hm) :: .int (nI nw) :: .ref bWf :: .ref bWt :: .ref bWl :: .int (nI lw) :: .ref bFo :: .int (nI qa) :: .int (nI qp_) :: .int (nI qw_) :: .ref bRk :: .ref bRs :: .ref bRf :: .ref bRo :: .ref bRl :: .int (nI nt) :: .ref bTp :: .ref bTt :: .ref bTd :: .ref bHd :: .ref bFn :: .int (nI nr) :: .ref bRp :: .ref bRt :: .ref bRe :: .ref bRh :: .ref bZs :: .ref bZl :: .ref bSc :: .ref bHn :: .int tr :: [])), (bHd, .inl (cI, 360, .inl g))] → va_S zA zs.heap H_1 locs → ∀ (ls : Array Slot), lv_has ls 2 [(0, .ref bM), (1, .int (nI x))] → W zp zl ze ({ frames := 0, cells := 0, slots := 0, locals := 0 } : Room) zs zm za zb zt zc H_1 locs 0 0 zQ (F0 zm 2 ls []) := by
    intro n2
    induction n2 with
    | zero => intro x g hx0 hg hme; exact absurd hme (Nat.not_lt_zero _)
    | succ n2 ih2 =>
      intro x g hx0 hg hme H_1 locs hP hD hS ls hl
      refine lv_iload_n hx hb dX5_begin_2 rfl (lv_at hl 1 rfl) ?_
      refine lv_sipush (v := nI 360) hx hb dX5_begin_3 (by decide) ?_
      refine k_icmp_ge (tgt := 24) hx hb dX5_begin_6 (by decide) (by omega) (by omega) (fun c6 => ?_) (fun c6 => ?_)
      · refine hret 24 _ g _ _ dX5_begin_24 hS (fun t ht _ => by rw [ht]; exact hP) ?_
        intro i hi
        exact hg i (by omega)
      · refine lv_aload_n hx hb dX5_begin_9 rfl (lv_at hl 0 rfl) ?_
        refine va_get (D := (dC, dI)) (ci := 5) (v := .ref bHd) (C := RX5) (T := TX5) (N := 35) hx hb hts hinX5 hown hK hP 0 rfl rfl 23 (by decide) lk53 (fun _ h9 => h9) rfl dX5_begin_10 ?_
        refine lv_iload_n hx hb dX5_begin_13 rfl (lv_at hl 1 rfl) ?_
        refine lv_sipush (v := nI 999) hx hb dX5_begin_14 (by decide) ?_
        refine k_iast hx hb hK hP hD hS 1 0 rfl rfl (n := 360) (by omega) (by decide) dX5_begin_17 (fun f_2 H_3 locs ef_2 hP hD hS => ?_)
        have hP : va_P (dC, dI) vwCl [(bM, .inr (5, .int (nI fa) :: .int (nI np) :: .ref bKk :: .ref bKs :: .int (nI hm) :: .int (nI nw) :: .ref bWf :: .ref bWt :: .ref bWl :: .int (nI lw) :: .ref bFo :: .int (nI qa) :: .int (nI qp_) :: .int (nI qw_) :: .ref bRk :: .ref bRs :: .ref bRf :: .ref bRo :: .ref bRl :: .int (nI nt) :: .ref bTp :: .ref bTt :: .ref bTd :: .ref bHd :: .ref bFn :: .int (nI nr) :: .ref bRp :: .ref bRt :: .ref bRe :: .ref bRh :: .ref bZs :: .ref bZl :: .ref bSc :: .ref bHn :: .int tr :: [])), (bHd, .inl (cI, 360, .inl f_2))] H_3 := hP
        have hD : va_D zA [(bM, .inr (5, .int (nI fa) :: .int (nI np) :: .ref bKk :: .ref bKs :: .int (nI hm) :: .int (nI nw) :: .ref bWf :: .ref bWt :: .ref bWl :: .int (nI lw) :: .ref bFo :: .int (nI qa) :: .int (nI qp_) :: .int (nI qw_) :: .ref bRk :: .ref bRs :: .ref bRf :: .ref bRo :: .ref bRl :: .int (nI nt) :: .ref bTp :: .ref bTt :: .ref bTd :: .ref bHd :: .ref bFn :: .int (nI nr) :: .ref bRp :: .ref bRt :: .ref bRe :: .ref bRh :: .ref bZs :: .ref bZl :: .ref bSc :: .ref bHn :: .int tr :: [])), (bHd, .inl (cI, 360, .inl f_2))] := hD
        refine lv_iinc (v := nI (x + 1)) (lv' := [(1, .int (nI (x + 1))), (0, .ref bM)]) hx hb dX5_begin_18 hl (k := 1) rfl (nI_add _ _) (by decide) rfl (fun ls hl => ?_)
        refine lv_goto (tgt := 2) hx hb dX5_begin_21 (by decide) ?_
        exact ih2 (x + 1) f_2 (by omega) (by rw [ef_2]; exact upd_lt hg) (by omega) _ _ hP hD hS _ (lv_sub hl [1, 0] rfl)
  exact loop2 ((360 - 0) + 1) 0 mHd (by omega) (by intro i hi; omega) (by exact Nat.lt_succ_self _) _ _ hP hD hS _ (lv_sub hl [1, 0] rfl)

set_option maxHeartbeats 800000 in
set_option maxRecDepth 100000 in
theorem kX5_hear {zl : Launch} {dC : Nat → ClassId} {dI : Nat → Nat → Nat} {cI cJ cZ cS : ClassId} {sz : Nat} (bM : Nat) (fa : Nat) (np : Nat) (bKk : Nat) (bKs : Nat) (hm : Nat) (nw : Nat) (bWf : Nat) (bWt : Nat) (bWl : Nat) (lw : Nat) (bFo : Nat) (qa : Nat) (qp_ : Nat) (qw_ : Nat) (bRk : Nat) (bRs : Nat) (bRf : Nat) (bRo : Nat) (bRl : Nat) (nt : Nat) (bTp : Nat) (bTt : Nat) (bTd : Nat) (bHd : Nat) (bFn : Nat) (nr : Nat) (bRp : Nat) (bRt : Nat) (bRe : Nat) (bRh : Nat) (bZs : Nat) (bZl : Nat) (bSc : Nat) (bHn : Nat) (tr : Int32) (mHd : Nat → Int32) (p : Nat) (t : Nat) (o : Nat) (d : Nat) (S : Nat → Nat → Nat → Prop) (hp : p < 6) (ht : t < 4) (ho : o < 15) (hd : d < 60) (hpl : plantM S mHd) : Met zl yX5_hear wsX5_hear ({ frames := 1, cells := 0, slots := 0, locals := 22 } : Room) (va_Pc [.ref bM, .int (nI p), .int (nI t), .int (nI o), .int (nI d)] (kPre (dC, dI) (kT cI cJ cZ cS) [(bM, .inr (5, .int (nI fa) :: .int (nI np) :: .ref bKk :: .ref bKs :: .int (nI hm) :: .int (nI nw) :: .ref bWf :: .ref bWt :: .ref bWl :: .int (nI lw) :: .ref bFo :: .int (nI qa) :: .int (nI qp_) :: .int (nI qw_) :: .ref bRk :: .ref bRs :: .ref bRf :: .ref bRo :: .ref bRl :: .int (nI nt) :: .ref bTp :: .ref bTt :: .ref bTd :: .ref bHd :: .ref bFn :: .int (nI nr) :: .ref bRp :: .ref bRt :: .ref bRe :: .ref bRh :: .ref bZs :: .ref bZl :: .ref bSc :: .ref bHn :: .int tr :: [])), (bHd, .inl (cI, 360, .inl mHd))] sz)) (va_Qv (fun (f1 : (Nat → Int32)) => plantM (moreS S d p (t * 15 + o)) f1) (fun (f1 : (Nat → Int32)) (zU : State) => va_P (dC, dI) vwCl [(bM, .inr (5, .int (nI fa) :: .int (nI np) :: .ref bKk :: .ref bKs :: .int (nI hm) :: .int (nI nw) :: .ref bWf :: .ref bWt :: .ref bWl :: .int (nI lw) :: .ref bFo :: .int (nI qa) :: .int (nI qp_) :: .int (nI qw_) :: .ref bRk :: .ref bRs :: .ref bRf :: .ref bRo :: .ref bRl :: .int (nI nt) :: .ref bTp :: .ref bTt :: .ref bTd :: .ref bHd :: .ref bFn :: .int (nI nr) :: .ref bRp :: .ref bRt :: .ref bRe :: .ref bRh :: .ref bZs :: .ref bZl :: .ref bSc :: .ref bHn :: .int tr :: [])), (bHd, .inl (cI, 360, .inl f1))] zU.heap) (va_A [(bM, .inr (5, .int (nI fa) :: .int (nI np) :: .ref bKk :: .ref bKs :: .int (nI hm) :: .int (nI nw) :: .ref bWf :: .ref bWt :: .ref bWl :: .int (nI lw) :: .ref bFo :: .int (nI qa) :: .int (nI qp_) :: .int (nI qw_) :: .ref bRk :: .ref bRs :: .ref bRf :: .ref bRo :: .ref bRl :: .int (nI nt) :: .ref bTp :: .ref bTt :: .ref bTd :: .ref bHd :: .ref bFn :: .int (nI nr) :: .ref bRp :: .ref bRt :: .ref bRe :: .ref bRh :: .ref bZs :: .ref bZl :: .ref bSc :: .ref bHn :: .int tr :: [])), (bHd, .inl (cI, 360, .inl mHd))] sz)) 0 0 (va_A [(bM, .inr (5, .int (nI fa) :: .int (nI np) :: .ref bKk :: .ref bKs :: .int (nI hm) :: .int (nI nw) :: .ref bWf :: .ref bWt :: .ref bWl :: .int (nI lw) :: .ref bFo :: .int (nI qa) :: .int (nI qp_) :: .int (nI qw_) :: .ref bRk :: .ref bRs :: .ref bRf :: .ref bRo :: .ref bRl :: .int (nI nt) :: .ref bTp :: .ref bTt :: .ref bTd :: .ref bHd :: .ref bFn :: .int (nI nr) :: .ref bRp :: .ref bRt :: .ref bRe :: .ref bRh :: .ref bZs :: .ref bZl :: .ref bSc :: .ref bHn :: .int tr :: [])), (bHd, .inl (cI, 360, .inl mHd))] sz) := by
  refine kstartW_v (cc := cX5_hear) (maxL := 6) rfl rfl (Nat.le_of_ble_eq_true rfl) ?_
  intro zp ze zs zm zb zt zc za zQ zA hx hb hml hts hown hN hK hP hD hS hA zin hret ls hl
  have hl : lv_has ls 6 [(0, .ref bM), (1, .int (nI p)), (2, .int (nI t)), (3, .int (nI o)), (4, .int (nI d))] := hl
  obtain ⟨g, hg, hg1, hg2, hg3⟩ := hpl
  have hgk := hd_lt hg.1 (show 15 * (4 * p + t) + o < 360 by omega)
  have hat := hear_at p t o
  have hinX5 : ∀ w ∈ wsX50, w ∈ wsX5_hear := fun _ h => List.mem_cons_of_mem _ (List.mem_append_right _ h)
  have lk53 := hts (.fieldLink RX5 53 "IronRumoursModel" "heard" "[I") (List.mem_of_getElem? (i := 1) rfl)
  refine lv_iload_n hx hb dX5_hear_0 rfl (lv_at hl 1 rfl) ?_
  refine lv_iload_n hx hb dX5_hear_1 rfl (lv_at hl 2 rfl) ?_
  refine lv_iload_n hx hb dX5_hear_2 rfl (lv_at hl 3 rfl) ?_
  refine rc_i (va_runS (As := [.int (nI p), .int (nI t), .int (nI o)]) (rest := []) ⟨hx, hb, hml, hown, hts⟩ (kX5_placeOf p t o ) (va_cwS 3 hts gX5_hear_X5_placeOf rfl rfl rfl hvX5_placeOf ⟨Nat.le_of_ble_eq_true rfl, Nat.le_of_ble_eq_true rfl⟩) (rpreS hN hK (hP.sub [] rfl)) rfl rfl hl.1 rfl (lv_room (Nat.le_of_ble_eq_true rfl)) dX5_hear_3 ⟨Nat.zero_le _, Nat.zero_le _⟩) (fun r_1 hr_1 => ?_)
  have hr_1 : r_1 = nI (15 * (4 * p + t) + o) := hr_1
  rw [hr_1]
  refine lv_istore (lv' := [(5, .int (nI (15 * (4 * p + t) + o))), (0, .ref bM), (1, .int (nI p)), (2, .int (nI t)), (3, .int (nI o)), (4, .int (nI d))]) hx hb dX5_hear_6 hl (by decide) rfl (fun ls hl => ?_)
  refine lv_aload_n hx hb dX5_hear_8 rfl (lv_at hl 1 rfl) ?_
  refine va_get (D := (dC, dI)) (ci := 5) (v := .ref bHd) (C := RX5) (T := TX5) (N := 35) hx hb hts hinX5 hown hK hP 0 rfl rfl 23 (by decide) lk53 (fun _ h9 => h9) rfl dX5_hear_9 ?_
  refine lv_iload hx hb dX5_hear_12 (lv_at hl 0 rfl) ?_
  refine lv_iload hx hb dX5_hear_14 (lv_at hl 5 rfl) ?_
  refine lv_bipush (v := nI 59) hx hb dX5_hear_16 (by decide) ?_
  refine k_icmp_gt (tgt := 38) hx hb dX5_hear_18 (by decide) (by omega) (by omega) (fun c18 => ?_) (fun c18 => ?_)
  · exact absurd c18 (by omega)
  · refine lv_iload hx hb dX5_hear_21 (lv_at hl 5 rfl) ?_
    refine lv_aload_n hx hb dX5_hear_23 rfl (lv_at hl 1 rfl) ?_
    refine va_get (D := (dC, dI)) (ci := 5) (v := .ref bHd) (C := RX5) (T := TX5) (N := 35) hx hb hts hinX5 hown hK hP 0 rfl rfl 23 (by decide) lk53 (fun _ h9 => h9) rfl dX5_hear_24 ?_
    refine lv_iload hx hb dX5_hear_27 (lv_at hl 0 rfl) ?_
    refine k_iald hx hb hK hP 1 0 rfl rfl (n := 360) (v := nI (g (15 * (4 * p + t) + o))) (by omega) (by decide) (hg.2 _ (by omega)) dX5_hear_29 ?_
    refine k_icmp_ge (tgt := 38) hx hb dX5_hear_30 (by decide) (by omega) (by omega) (fun c30 => ?_) (fun c30 => ?_)
    · refine lv_aload_n hx hb dX5_hear_38 rfl (lv_at hl 1 rfl) ?_
      refine va_get (D := (dC, dI)) (ci := 5) (v := .ref bHd) (C := RX5) (T := TX5) (N := 35) hx hb hts hinX5 hown hK hP 0 rfl rfl 23 (by decide) lk53 (fun _ h9 => h9) rfl dX5_hear_39 ?_
      refine lv_iload hx hb dX5_hear_42 (lv_at hl 0 rfl) ?_
      refine k_iald hx hb hK hP 1 0 rfl rfl (n := 360) (v := mHd (15 * (4 * p + t) + o)) (by omega) (by decide) (rfl) dX5_hear_44 ?_
      refine k_iast hx hb hK hP hD hS 1 0 rfl rfl (n := 360) (by omega) (by decide) dX5_hear_45 (fun f_2 H_3 locs ef_2 hP hD hS => ?_)
      have hP : va_P (dC, dI) vwCl [(bM, .inr (5, .int (nI fa) :: .int (nI np) :: .ref bKk :: .ref bKs :: .int (nI hm) :: .int (nI nw) :: .ref bWf :: .ref bWt :: .ref bWl :: .int (nI lw) :: .ref bFo :: .int (nI qa) :: .int (nI qp_) :: .int (nI qw_) :: .ref bRk :: .ref bRs :: .ref bRf :: .ref bRo :: .ref bRl :: .int (nI nt) :: .ref bTp :: .ref bTt :: .ref bTd :: .ref bHd :: .ref bFn :: .int (nI nr) :: .ref bRp :: .ref bRt :: .ref bRe :: .ref bRh :: .ref bZs :: .ref bZl :: .ref bSc :: .ref bHn :: .int tr :: [])), (bHd, .inl (cI, 360, .inl f_2))] H_3 := hP
      have hD : va_D zA [(bM, .inr (5, .int (nI fa) :: .int (nI np) :: .ref bKk :: .ref bKs :: .int (nI hm) :: .int (nI nw) :: .ref bWf :: .ref bWt :: .ref bWl :: .int (nI lw) :: .ref bFo :: .int (nI qa) :: .int (nI qp_) :: .int (nI qw_) :: .ref bRk :: .ref bRs :: .ref bRf :: .ref bRo :: .ref bRl :: .int (nI nt) :: .ref bTp :: .ref bTt :: .ref bTd :: .ref bHd :: .ref bFn :: .int (nI nr) :: .ref bRp :: .ref bRt :: .ref bRe :: .ref bRh :: .ref bZs :: .ref bZl :: .ref bSc :: .ref bHn :: .int tr :: [])), (bHd, .inl (cI, 360, .inl f_2))] := hD
      refine hret 46 _ f_2 _ _ dX5_hear_46 hS (fun t ht _ => by rw [ht]; exact hP) ?_
      have e9 := ef_2
      rw [hat] at e9
      exact plantM_not hp (by omega) hg hg1 hg2 hg3 (by rw [← hat]; exact c30) e9
    · refine lv_iload hx hb dX5_hear_33 (lv_at hl 5 rfl) ?_
      refine lv_goto (tgt := 45) hx hb dX5_hear_35 (by decide) ?_
      refine k_iast hx hb hK hP hD hS 1 0 rfl rfl (n := 360) (by omega) (by decide) dX5_hear_45 (fun f_4 H_5 locs ef_4 hP hD hS => ?_)
      have hP : va_P (dC, dI) vwCl [(bM, .inr (5, .int (nI fa) :: .int (nI np) :: .ref bKk :: .ref bKs :: .int (nI hm) :: .int (nI nw) :: .ref bWf :: .ref bWt :: .ref bWl :: .int (nI lw) :: .ref bFo :: .int (nI qa) :: .int (nI qp_) :: .int (nI qw_) :: .ref bRk :: .ref bRs :: .ref bRf :: .ref bRo :: .ref bRl :: .int (nI nt) :: .ref bTp :: .ref bTt :: .ref bTd :: .ref bHd :: .ref bFn :: .int (nI nr) :: .ref bRp :: .ref bRt :: .ref bRe :: .ref bRh :: .ref bZs :: .ref bZl :: .ref bSc :: .ref bHn :: .int tr :: [])), (bHd, .inl (cI, 360, .inl f_4))] H_5 := hP
      have hD : va_D zA [(bM, .inr (5, .int (nI fa) :: .int (nI np) :: .ref bKk :: .ref bKs :: .int (nI hm) :: .int (nI nw) :: .ref bWf :: .ref bWt :: .ref bWl :: .int (nI lw) :: .ref bFo :: .int (nI qa) :: .int (nI qp_) :: .int (nI qw_) :: .ref bRk :: .ref bRs :: .ref bRf :: .ref bRo :: .ref bRl :: .int (nI nt) :: .ref bTp :: .ref bTt :: .ref bTd :: .ref bHd :: .ref bFn :: .int (nI nr) :: .ref bRp :: .ref bRt :: .ref bRe :: .ref bRh :: .ref bZs :: .ref bZl :: .ref bSc :: .ref bHn :: .int tr :: [])), (bHd, .inl (cI, 360, .inl f_4))] := hD
      refine hret 46 _ f_4 _ _ dX5_hear_46 hS (fun t ht _ => by rw [ht]; exact hP) ?_
      have e9 := ef_4
      rw [hat] at e9
      exact plantM_put (by omega) hp (by omega) hg hg1 hg2 hg3 (by rw [← hat]; exact c30) e9

set_option maxHeartbeats 800000 in
set_option maxRecDepth 100000 in
theorem kX5_thingBy {zl : Launch} {dC : Nat → ClassId} {dI : Nat → Nat → Nat} {cI cJ cZ cS : ClassId} (bM : Nat) (fa : Nat) (np : Nat) (bKk : Nat) (bKs : Nat) (hm : Nat) (nw : Nat) (bWf : Nat) (bWt : Nat) (bWl : Nat) (lw : Nat) (bFo : Nat) (qa : Nat) (qp_ : Nat) (qw_ : Nat) (bRk : Nat) (bRs : Nat) (bRf : Nat) (bRo : Nat) (bRl : Nat) (nt : Nat) (bTp : Nat) (bTt : Nat) (bTd : Nat) (bHd : Nat) (bFn : Nat) (nr : Nat) (bRp : Nat) (bRt : Nat) (bRe : Nat) (bRh : Nat) (bZs : Nat) (bZl : Nat) (bSc : Nat) (bHn : Nat) (tr : Int32) (mKk : Nat → Int32) (kd : Nat → Nat) (p : Nat) (t : Nat) (hk : mKk p = nI (kd p)) (hk3 : kd p < 3) (hp : p < 6) (ht : t < 4) : Met zl yX5_thingBy wsX5_thingBy ({ frames := 0, cells := 0, slots := 0, locals := 0 } : Room) (va_Pc [.ref bM, .int (nI p), .int (nI t)] (rPre (dC, dI) (kT cI cJ cZ cS) [(bM, .inr (5, .int (nI fa) :: .int (nI np) :: .ref bKk :: .ref bKs :: .int (nI hm) :: .int (nI nw) :: .ref bWf :: .ref bWt :: .ref bWl :: .int (nI lw) :: .ref bFo :: .int (nI qa) :: .int (nI qp_) :: .int (nI qw_) :: .ref bRk :: .ref bRs :: .ref bRf :: .ref bRo :: .ref bRl :: .int (nI nt) :: .ref bTp :: .ref bTt :: .ref bTd :: .ref bHd :: .ref bFn :: .int (nI nr) :: .ref bRp :: .ref bRt :: .ref bRe :: .ref bRh :: .ref bZs :: .ref bZl :: .ref bSc :: .ref bHn :: .int tr :: [])), (bKk, .inl (cI, 6, .inl mKk))])) (vp_Si (fun r : Int32 => r = nI (if kd p = 0 then t else (t + 1) % 4))) 0 0 (fun _ => False) := by
  refine kstartR_i (cc := cX5_thingBy) (maxL := 3) rfl rfl (Nat.le_of_ble_eq_true rfl) ?_
  intro zp ze zs zm zb zt zc za zQ hx hb hml hts hown hN hK hP hret ls hl
  have hl : lv_has ls 3 [(0, .ref bM), (1, .int (nI p)), (2, .int (nI t))] := hl
  have hinX5 : ∀ w ∈ wsX50, w ∈ wsX5_thingBy := fun _ h => List.mem_cons_of_mem _ (List.mem_append_right _ h)
  have lk7 := hts (.fieldLink RX5 7 "IronRumoursModel" "kindOf" "[I") (List.mem_of_getElem? (i := 1) rfl)
  refine lv_aload_n hx hb dX5_thingBy_0 rfl (lv_at hl 0 rfl) ?_
  refine va_get (D := (dC, dI)) (ci := 5) (v := .ref bKk) (C := RX5) (T := TX5) (N := 35) hx hb hts hinX5 hown hK hP 0 rfl rfl 2 (by decide) lk7 (fun _ h9 => h9) rfl dX5_thingBy_1 ?_
  refine lv_iload_n hx hb dX5_thingBy_4 rfl (lv_at hl 1 rfl) ?_
  refine k_iald hx hb hK hP 1 0 rfl rfl (n := 6) (v := nI (kd p)) (by omega) (by decide) (hk) dX5_thingBy_5 ?_
  refine k_if_ne (tgt := 13) hx hb dX5_thingBy_6 (by decide) (by omega) (fun c6 => ?_) (fun c6 => ?_)
  · refine lv_iload_n hx hb dX5_thingBy_13 rfl (lv_at hl 2 rfl) ?_
    refine lv_iconst (v := nI 1) hx hb dX5_thingBy_14 (by decide) ?_
    refine k_iadd hx hb dX5_thingBy_15 ?_
    refine lv_iconst (v := nI 4) hx hb dX5_thingBy_16 (by decide) ?_
    refine k_irem hx hb (by omega) (by omega) (by omega) dX5_thingBy_17 ?_
    refine hret 18 _ (nI ((t + 1) % 4)) dX5_thingBy_18 ?_
    rw [if_neg c6]
  · refine lv_iload_n hx hb dX5_thingBy_9 rfl (lv_at hl 2 rfl) ?_
    refine lv_goto (tgt := 18) hx hb dX5_thingBy_10 (by decide) ?_
    refine hret 18 _ (nI t) dX5_thingBy_18 ?_
    rw [if_pos c6]

set_option maxHeartbeats 800000 in
set_option maxRecDepth 100000 in
theorem kX5_originBy {zl : Launch} {dC : Nat → ClassId} {dI : Nat → Nat → Nat} {cI cJ cZ cS : ClassId} (bM : Nat) (fa : Nat) (np : Nat) (bKk : Nat) (bKs : Nat) (hm : Nat) (nw : Nat) (bWf : Nat) (bWt : Nat) (bWl : Nat) (lw : Nat) (bFo : Nat) (qa : Nat) (qp_ : Nat) (qw_ : Nat) (bRk : Nat) (bRs : Nat) (bRf : Nat) (bRo : Nat) (bRl : Nat) (nt : Nat) (bTp : Nat) (bTt : Nat) (bTd : Nat) (bHd : Nat) (bFn : Nat) (nr : Nat) (bRp : Nat) (bRt : Nat) (bRe : Nat) (bRh : Nat) (bZs : Nat) (bZl : Nat) (bSc : Nat) (bHn : Nat) (tr : Int32) (mKk : Nat → Int32) (kd : Nat → Nat) (p : Nat) (o : Nat) (hk : mKk p = nI (kd p)) (hk3 : kd p < 3) (hp : p < 6) (ho : o < 15) : Met zl yX5_originBy wsX5_originBy ({ frames := 0, cells := 0, slots := 0, locals := 0 } : Room) (va_Pc [.ref bM, .int (nI p), .int (nI o)] (rPre (dC, dI) (kT cI cJ cZ cS) [(bM, .inr (5, .int (nI fa) :: .int (nI np) :: .ref bKk :: .ref bKs :: .int (nI hm) :: .int (nI nw) :: .ref bWf :: .ref bWt :: .ref bWl :: .int (nI lw) :: .ref bFo :: .int (nI qa) :: .int (nI qp_) :: .int (nI qw_) :: .ref bRk :: .ref bRs :: .ref bRf :: .ref bRo :: .ref bRl :: .int (nI nt) :: .ref bTp :: .ref bTt :: .ref bTd :: .ref bHd :: .ref bFn :: .int (nI nr) :: .ref bRp :: .ref bRt :: .ref bRe :: .ref bRh :: .ref bZs :: .ref bZl :: .ref bSc :: .ref bHn :: .int tr :: [])), (bKk, .inl (cI, 6, .inl mKk))])) (vp_Si (fun r : Int32 => r = nI (if kd p = 2 then 8 + p else o))) 0 0 (fun _ => False) := by
  refine kstartR_i (cc := cX5_originBy) (maxL := 3) rfl rfl (Nat.le_of_ble_eq_true rfl) ?_
  intro zp ze zs zm zb zt zc za zQ hx hb hml hts hown hN hK hP hret ls hl
  have hl : lv_has ls 3 [(0, .ref bM), (1, .int (nI p)), (2, .int (nI o))] := hl
  have hinX5 : ∀ w ∈ wsX50, w ∈ wsX5_originBy := fun _ h => List.mem_cons_of_mem _ (List.mem_append_right _ h)
  have lk7 := hts (.fieldLink RX5 7 "IronRumoursModel" "kindOf" "[I") (List.mem_of_getElem? (i := 1) rfl)
  refine lv_aload_n hx hb dX5_originBy_0 rfl (lv_at hl 0 rfl) ?_
  refine va_get (D := (dC, dI)) (ci := 5) (v := .ref bKk) (C := RX5) (T := TX5) (N := 35) hx hb hts hinX5 hown hK hP 0 rfl rfl 2 (by decide) lk7 (fun _ h9 => h9) rfl dX5_originBy_1 ?_
  refine lv_iload_n hx hb dX5_originBy_4 rfl (lv_at hl 1 rfl) ?_
  refine k_iald hx hb hK hP 1 0 rfl rfl (n := 6) (v := nI (kd p)) (by omega) (by decide) (hk) dX5_originBy_5 ?_
  refine lv_iconst (v := nI 2) hx hb dX5_originBy_6 (by decide) ?_
  refine k_icmp_ne (tgt := 17) hx hb dX5_originBy_7 (by decide) (by omega) (by omega) (fun c7 => ?_) (fun c7 => ?_)
  · refine lv_iload_n hx hb dX5_originBy_17 rfl (lv_at hl 2 rfl) ?_
    refine hret 18 _ (nI o) dX5_originBy_18 ?_
    rw [if_neg c7]
  · refine lv_bipush (v := nI 8) hx hb dX5_originBy_10 (by decide) ?_
    refine lv_iload_n hx hb dX5_originBy_12 rfl (lv_at hl 1 rfl) ?_
    refine k_iadd hx hb dX5_originBy_13 ?_
    refine lv_goto (tgt := 18) hx hb dX5_originBy_14 (by decide) ?_
    refine hret 18 _ (nI (8 + p)) dX5_originBy_18 ?_
    rw [if_pos c7]

set_option maxHeartbeats 800000 in
set_option maxRecDepth 100000 in
theorem kX5_goes {zl : Launch} {dC : Nat → ClassId} {dI : Nat → Nat → Nat} {cI cJ cZ cS : ClassId} {sz : Nat} (bM : Nat) (fa : Nat) (np : Nat) (bKk : Nat) (bKs : Nat) (hm : Nat) (nw : Nat) (bWf : Nat) (bWt : Nat) (bWl : Nat) (lw : Nat) (bFo : Nat) (qa : Nat) (qp_ : Nat) (qw_ : Nat) (bRk : Nat) (bRs : Nat) (bRf : Nat) (bRo : Nat) (bRl : Nat) (nt : Nat) (bTp : Nat) (bTt : Nat) (bTd : Nat) (bHd : Nat) (bFn : Nat) (nr : Nat) (bRp : Nat) (bRt : Nat) (bRe : Nat) (bRh : Nat) (bZs : Nat) (bZl : Nat) (bSc : Nat) (bHn : Nat) (tr : Int32) (mKk : Nat → Int32) (mWf : Nat → Int32) (mWt : Nat → Int32) (mWl : Nat → Int32) (mHd : Nat → Int32) (kd : Nat → Nat) (wf : Nat → Nat) (wt : Nat → Nat) (wd : Nat → Nat) (act : Nat → Prop) (S : Nat → Nat → Nat → Prop) (g : Nat → Nat) (w : Nat) (hw : waysOk np nw wf wt wd kd) (hpA : pplA np nw kd wf wt wd mKk mWf mWt mWl) (hwn : w < nw) (ha : act w) (hg0 : hdR mHd g) (hs0 : gSnd (hrd nw wf wt wd kd act S) g) (hi0 : gIni S g) : Met zl yX5_goes wsX5_goes ({ frames := 1, cells := 0, slots := 0, locals := 22 } : Room) (va_Pc [.ref bM, .int (nI w)] (kPre (dC, dI) (kT cI cJ cZ cS) [(bM, .inr (5, .int (nI fa) :: .int (nI np) :: .ref bKk :: .ref bKs :: .int (nI hm) :: .int (nI nw) :: .ref bWf :: .ref bWt :: .ref bWl :: .int (nI lw) :: .ref bFo :: .int (nI qa) :: .int (nI qp_) :: .int (nI qw_) :: .ref bRk :: .ref bRs :: .ref bRf :: .ref bRo :: .ref bRl :: .int (nI nt) :: .ref bTp :: .ref bTt :: .ref bTd :: .ref bHd :: .ref bFn :: .int (nI nr) :: .ref bRp :: .ref bRt :: .ref bRe :: .ref bRh :: .ref bZs :: .ref bZl :: .ref bSc :: .ref bHn :: .int tr :: [])), (bKk, .inl (cI, 6, .inl mKk)), (bWf, .inl (cI, 9, .inl mWf)), (bWt, .inl (cI, 9, .inl mWt)), (bWl, .inl (cI, 9, .inl mWl)), (bHd, .inl (cI, 360, .inl mHd))] sz)) (va_Qi (fun (r : Int32) => fun (f1 : (Nat → Int32)) => goesQ (hrd nw wf wt wd kd act S) S wf wt wd kd w g r f1) (fun (f1 : (Nat → Int32)) (zU : State) => va_P (dC, dI) vwCl [(bM, .inr (5, .int (nI fa) :: .int (nI np) :: .ref bKk :: .ref bKs :: .int (nI hm) :: .int (nI nw) :: .ref bWf :: .ref bWt :: .ref bWl :: .int (nI lw) :: .ref bFo :: .int (nI qa) :: .int (nI qp_) :: .int (nI qw_) :: .ref bRk :: .ref bRs :: .ref bRf :: .ref bRo :: .ref bRl :: .int (nI nt) :: .ref bTp :: .ref bTt :: .ref bTd :: .ref bHd :: .ref bFn :: .int (nI nr) :: .ref bRp :: .ref bRt :: .ref bRe :: .ref bRh :: .ref bZs :: .ref bZl :: .ref bSc :: .ref bHn :: .int tr :: [])), (bKk, .inl (cI, 6, .inl mKk)), (bWf, .inl (cI, 9, .inl mWf)), (bWt, .inl (cI, 9, .inl mWt)), (bWl, .inl (cI, 9, .inl mWl)), (bHd, .inl (cI, 360, .inl f1))] zU.heap) (va_A [(bM, .inr (5, .int (nI fa) :: .int (nI np) :: .ref bKk :: .ref bKs :: .int (nI hm) :: .int (nI nw) :: .ref bWf :: .ref bWt :: .ref bWl :: .int (nI lw) :: .ref bFo :: .int (nI qa) :: .int (nI qp_) :: .int (nI qw_) :: .ref bRk :: .ref bRs :: .ref bRf :: .ref bRo :: .ref bRl :: .int (nI nt) :: .ref bTp :: .ref bTt :: .ref bTd :: .ref bHd :: .ref bFn :: .int (nI nr) :: .ref bRp :: .ref bRt :: .ref bRe :: .ref bRh :: .ref bZs :: .ref bZl :: .ref bSc :: .ref bHn :: .int tr :: [])), (bKk, .inl (cI, 6, .inl mKk)), (bWf, .inl (cI, 9, .inl mWf)), (bWt, .inl (cI, 9, .inl mWt)), (bWl, .inl (cI, 9, .inl mWl)), (bHd, .inl (cI, 360, .inl mHd))] sz)) 0 0 (va_A [(bM, .inr (5, .int (nI fa) :: .int (nI np) :: .ref bKk :: .ref bKs :: .int (nI hm) :: .int (nI nw) :: .ref bWf :: .ref bWt :: .ref bWl :: .int (nI lw) :: .ref bFo :: .int (nI qa) :: .int (nI qp_) :: .int (nI qw_) :: .ref bRk :: .ref bRs :: .ref bRf :: .ref bRo :: .ref bRl :: .int (nI nt) :: .ref bTp :: .ref bTt :: .ref bTd :: .ref bHd :: .ref bFn :: .int (nI nr) :: .ref bRp :: .ref bRt :: .ref bRe :: .ref bRh :: .ref bZs :: .ref bZl :: .ref bSc :: .ref bHn :: .int tr :: [])), (bKk, .inl (cI, 6, .inl mKk)), (bWf, .inl (cI, 9, .inl mWf)), (bWt, .inl (cI, 9, .inl mWt)), (bWl, .inl (cI, 9, .inl mWl)), (bHd, .inl (cI, 360, .inl mHd))] sz) := by
  refine kstartW_z (cc := cX5_goes) (maxL := 9) rfl rfl (Nat.le_of_ble_eq_true rfl) ?_
  intro zp ze zs zm zb zt zc za zQ zA hx hb hml hts hown hN hK hP hD hS hA zin hret ls hl
  have hl : lv_has ls 9 [(0, .ref bM), (1, .int (nI w))] := hl
  have h6 := hw.1
  have h9 := hw.2.1
  have hww := hw.2.2.2 w hwn
  have hk3 := hw.2.2.1 (wf w) hww.1
  have hinX5 : ∀ w ∈ wsX50, w ∈ wsX5_goes := fun _ h => List.mem_cons_of_mem _ (List.mem_append_right _ h)
  have lk17 := hts (.fieldLink RX5 17 "IronRumoursModel" "fromOf" "[I") (List.mem_of_getElem? (i := 1) rfl)
  have lk20 := hts (.fieldLink RX5 20 "IronRumoursModel" "toOf" "[I") (List.mem_of_getElem? (i := 4) rfl)
  have lk23 := hts (.fieldLink RX5 23 "IronRumoursModel" "longOf" "[I") (List.mem_of_getElem? (i := 3) rfl)
  have lk53 := hts (.fieldLink RX5 53 "IronRumoursModel" "heard" "[I") (List.mem_of_getElem? (i := 2) rfl)
  refine lv_iconst (v := nI 0) hx hb dX5_goes_0 (by decide) ?_
  refine lv_istore_n (lv' := [(2, .int (nI 0)), (0, .ref bM), (1, .int (nI w))]) hx hb dX5_goes_1 rfl hl (by decide) rfl (fun ls hl => ?_)
  refine lv_aload_n hx hb dX5_goes_2 rfl (lv_at hl 1 rfl) ?_
  refine va_get (D := (dC, dI)) (ci := 5) (v := .ref bWf) (C := RX5) (T := TX5) (N := 35) hx hb hts hinX5 hown hK hP 0 rfl rfl 6 (by decide) lk17 (fun _ h9 => h9) rfl dX5_goes_3 ?_
  refine lv_iload_n hx hb dX5_goes_6 rfl (lv_at hl 2 rfl) ?_
  refine k_iald hx hb hK hP 2 0 rfl rfl (n := 9) (v := nI (wf w)) (by omega) (by decide) ((hpA.2 w hwn).1) dX5_goes_7 ?_
  refine lv_istore_n (lv' := [(3, .int (nI (wf w))), (2, .int (nI 0)), (0, .ref bM), (1, .int (nI w))]) hx hb dX5_goes_8 rfl hl (by decide) rfl (fun ls hl => ?_)
  refine lv_iconst (v := nI 0) hx hb dX5_goes_9 (by decide) ?_
  refine lv_istore (lv' := [(4, .int (nI 0)), (3, .int (nI (wf w))), (2, .int (nI 0)), (0, .ref bM), (1, .int (nI w))]) hx hb dX5_goes_10 hl (by decide) rfl (fun ls hl => ?_)
  have loop12 : ∀ (n12 : Nat) (x : Nat) (b : Bool) (f : Nat → Int32) (g2 : Nat → Nat), (x ≤ 60) → (hdR f g2) → (gSnd (hrd nw wf wt wd kd act S) g2) → (gIni S g2) → (goesI wf wt wd kd w g x g2 b) → (60 - x < n12) → ∀ (H_1 : Heap) (locs : List Loc), va_P (dC, dI) vwCl [(bM, .inr (5, .int (nI fa) :: .int (nI np) :: .ref bKk :: .ref bKs :: .int (nI hm) :: .int (nI nw) :: .ref bWf :: .ref bWt :: .ref bWl :: .int (nI lw) :: .ref bFo :: .int (nI qa) :: .int (nI qp_) :: .int (nI qw_) :: .ref bRk :: .ref bRs :: .ref bRf :: .ref bRo :: .ref bRl :: .int (nI nt) :: .ref bTp :: .ref bTt :: .ref bTd :: .ref bHd :: .ref bFn :: .int (nI nr) :: .ref bRp :: .ref bRt :: .ref bRe :: .ref bRh :: .ref bZs :: .ref bZl :: .ref bSc :: .ref bHn :: .int tr :: [])), (bKk, .inl (cI, 6, .inl mKk)), (bWf, .inl (cI, 9, .inl mWf)), (bWt, .inl (cI, 9, .inl mWt)), (bWl, .inl (cI, 9, .inl mWl)), (bHd, .inl (cI, 360, .inl f))] H_1 → va_D zA [(bM, .inr (5, .int (nI fa) :: .int (nI np) :: .ref bKk :: .ref bKs :: .int (nI hm) :: .int (nI nw) :: .ref bWf :: .ref bWt :: .ref bWl :: .int (nI lw) :: .ref bFo :: .int (nI qa) :: .int (nI qp_) :: .int (nI qw_) :: .ref bRk :: .ref bRs :: .ref bRf :: .ref bRo :: .ref bRl :: .int (nI nt) :: .ref bTp :: .ref bTt :: .ref bTd :: .ref bHd :: .ref bFn :: .int (nI nr) :: .ref bRp :: .ref bRt :: .ref bRe :: .ref bRh :: .ref bZs :: .ref bZl :: .ref bSc :: .ref bHn :: .int tr :: [])), (bKk, .inl (cI, 6, .inl mKk)), (bWf, .inl (cI, 9, .inl mWf)), (bWt, .inl (cI, 9, .inl mWt)), (bWl, .inl (cI, 9, .inl mWl)), (bHd, .inl (cI, 360, .inl f))] → va_S zA zs.heap H_1 locs → ∀ (ls : Array Slot), lv_has ls 9 [(0, .ref bM), (1, .int (nI w)), (2, .int (kb b)), (3, .int (nI (wf w))), (4, .int (nI x))] → W zp zl ze ({ frames := 1, cells := 0, slots := 0, locals := 22 } : Room) zs zm za zb zt zc H_1 locs 0 0 zQ (F0 zm 12 ls []) := by
    intro n12
    induction n12 with
    | zero => intro x b f g2 hx0 hg hs hi hgo hme; exact absurd hme (Nat.not_lt_zero _)
    | succ n12 ih12 =>
      intro x b f g2 hx0 hg hs hi hgo hme H_1 locs hP hD hS ls hl
      refine lv_iload hx hb dX5_goes_12 (lv_at hl 4 rfl) ?_
      refine lv_bipush (v := nI 60) hx hb dX5_goes_14 (by decide) ?_
      refine k_icmp_ge (tgt := 116) hx hb dX5_goes_16 (by decide) (by omega) (by omega) (fun c16 => ?_) (fun c16 => ?_)
      · refine lv_iload_n hx hb dX5_goes_116 rfl (lv_at hl 2 rfl) ?_
        refine hret 117 _ b f _ _ dX5_goes_117 hS (fun t ht _ => by rw [ht]; exact hP) ?_
        have e : x = 60 := by omega
        subst e
        exact ⟨g2, b, rfl, hg, hs, hi, hgo⟩
      · refine lv_iload hx hb dX5_goes_19 (lv_at hl 4 rfl) ?_
        refine lv_bipush (v := nI 15) hx hb dX5_goes_21 (by decide) ?_
        refine k_idiv hx hb (by omega) (by omega) (by omega) dX5_goes_23 ?_
        refine lv_istore (lv' := [(5, .int (nI (x / 15))), (0, .ref bM), (1, .int (nI w)), (2, .int (kb b)), (3, .int (nI (wf w))), (4, .int (nI x))]) hx hb dX5_goes_24 hl (by decide) rfl (fun ls hl => ?_)
        refine lv_iload hx hb dX5_goes_26 (lv_at hl 5 rfl) ?_
        refine lv_bipush (v := nI 15) hx hb dX5_goes_28 (by decide) ?_
        refine k_irem hx hb (by omega) (by omega) (by omega) dX5_goes_30 ?_
        refine lv_istore (lv' := [(6, .int (nI (x % 15))), (5, .int (nI (x / 15))), (0, .ref bM), (1, .int (nI w)), (2, .int (kb b)), (3, .int (nI (wf w))), (4, .int (nI x))]) hx hb dX5_goes_31 hl (by decide) rfl (fun ls hl => ?_)
        refine lv_aload_n hx hb dX5_goes_33 rfl (lv_at hl 2 rfl) ?_
        refine va_get (D := (dC, dI)) (ci := 5) (v := .ref bHd) (C := RX5) (T := TX5) (N := 35) hx hb hts hinX5 hown hK hP 0 rfl rfl 23 (by decide) lk53 (fun _ h9 => h9) rfl dX5_goes_34 ?_
        refine lv_iload_n hx hb dX5_goes_37 rfl (lv_at hl 5 rfl) ?_
        refine lv_iload hx hb dX5_goes_38 (lv_at hl 1 rfl) ?_
        refine lv_iload hx hb dX5_goes_40 (lv_at hl 0 rfl) ?_
        refine rc_i (va_runS (As := [.int (nI (wf w)), .int (nI (x / 15)), .int (nI (x % 15))]) (rest := [.ref bHd]) ⟨hx, hb, hml, hown, hts⟩ (kX5_placeOf (wf w) (x / 15) (x % 15) ) (va_cwS 3 hts gX5_goes_X5_placeOf rfl rfl rfl hvX5_placeOf ⟨Nat.le_of_ble_eq_true rfl, Nat.le_of_ble_eq_true rfl⟩) (rpreS hN hK (hP.sub [] rfl)) rfl rfl hl.1 rfl (lv_room (Nat.le_of_ble_eq_true rfl)) dX5_goes_42 ⟨Nat.zero_le _, Nat.zero_le _⟩) (fun r_2 hr_2 => ?_)
        have hr_2 : r_2 = nI (15 * (4 * (wf w) + (x / 15)) + (x % 15)) := hr_2
        rw [hr_2]
        refine k_iald hx hb hK hP 5 0 rfl rfl (n := 360) (v := nI (g2 (60 * wf w + x))) (by omega) (by decide) (ldx hg.2 (by omega) (by omega)) dX5_goes_45 ?_
        refine lv_aload_n hx hb dX5_goes_46 rfl (lv_at hl 2 rfl) ?_
        refine va_get (D := (dC, dI)) (ci := 5) (v := .ref bWl) (C := RX5) (T := TX5) (N := 35) hx hb hts hinX5 hown hK hP 0 rfl rfl 8 (by decide) lk23 (fun _ h9 => h9) rfl dX5_goes_47 ?_
        refine lv_iload_n hx hb dX5_goes_50 rfl (lv_at hl 3 rfl) ?_
        refine k_iald hx hb hK hP 4 0 rfl rfl (n := 9) (v := nI (wd w)) (by omega) (by decide) ((hpA.2 w hwn).2.2) dX5_goes_51 ?_
        refine k_iadd hx hb dX5_goes_52 ?_
        refine lv_istore (lv' := [(7, .int (nI ((g2 (60 * wf w + x)) + (wd w)))), (6, .int (nI (x % 15))), (5, .int (nI (x / 15))), (0, .ref bM), (1, .int (nI w)), (2, .int (kb b)), (3, .int (nI (wf w))), (4, .int (nI x))]) hx hb dX5_goes_53 hl (by decide) rfl (fun ls hl => ?_)
        refine lv_aload_n hx hb dX5_goes_55 rfl (lv_at hl 3 rfl) ?_
        refine va_get (D := (dC, dI)) (ci := 5) (v := .ref bWt) (C := RX5) (T := TX5) (N := 35) hx hb hts hinX5 hown hK hP 0 rfl rfl 7 (by decide) lk20 (fun _ h9 => h9) rfl dX5_goes_56 ?_
        refine lv_iload_n hx hb dX5_goes_59 rfl (lv_at hl 4 rfl) ?_
        refine k_iald hx hb hK hP 3 0 rfl rfl (n := 9) (v := nI (wt w)) (by omega) (by decide) ((hpA.2 w hwn).2.1) dX5_goes_60 ?_
        refine lv_aload_n hx hb dX5_goes_61 rfl (lv_at hl 3 rfl) ?_
        refine lv_iload_n hx hb dX5_goes_62 rfl (lv_at hl 6 rfl) ?_
        refine lv_iload hx hb dX5_goes_63 (lv_at hl 2 rfl) ?_
        refine rc_i (va_runV (As := [.int (nI (wf w)), .int (nI (x / 15))]) (rest := [.int (nI (wt w))]) ⟨hx, hb, hml, hown, hts⟩ (kX5_thingBy bM fa np bKk bKs hm nw bWf bWt bWl lw bFo qa qp_ qw_ bRk bRs bRf bRo bRl nt bTp bTt bTd bHd bFn nr bRp bRt bRe bRh bZs bZl bSc bHn tr mKk kd (wf w) (x / 15) (hpA.1 (wf w) hww.1) (by omega) (by omega) (by omega)) (cwV 2 hts gX5_goes_X5_thingBy rfl rfl rfl hvX5_thingBy ⟨Nat.le_of_ble_eq_true rfl, Nat.le_of_ble_eq_true rfl⟩) (rpreV hN (q := (RX5, TX5, 35)) (ci := 5) hK (hP.sub [0, 1] rfl) 0 rfl rfl) rfl rfl hl.1 rfl (lv_room (Nat.le_of_ble_eq_true rfl)) dX5_goes_65 ⟨Nat.zero_le _, Nat.zero_le _⟩) (fun r_3 hr_3 => ?_)
        have hr_3 : r_3 = nI (if kd (wf w) = 0 then (x / 15) else ((x / 15) + 1) % 4) := hr_3
        rw [hr_3]
        refine lv_aload_n hx hb dX5_goes_68 rfl (lv_at hl 3 rfl) ?_
        refine lv_iload_n hx hb dX5_goes_69 rfl (lv_at hl 6 rfl) ?_
        refine lv_iload hx hb dX5_goes_70 (lv_at hl 1 rfl) ?_
        refine rc_i (va_runV (As := [.int (nI (wf w)), .int (nI (x % 15))]) (rest := [.int (nI (if kd (wf w) = 0 then (x / 15) else ((x / 15) + 1) % 4)), .int (nI (wt w))]) ⟨hx, hb, hml, hown, hts⟩ (kX5_originBy bM fa np bKk bKs hm nw bWf bWt bWl lw bFo qa qp_ qw_ bRk bRs bRf bRo bRl nt bTp bTt bTd bHd bFn nr bRp bRt bRe bRh bZs bZl bSc bHn tr mKk kd (wf w) (x % 15) (hpA.1 (wf w) hww.1) (by omega) (by omega) (by omega)) (cwV 2 hts gX5_goes_X5_originBy rfl rfl rfl hvX5_originBy ⟨Nat.le_of_ble_eq_true rfl, Nat.le_of_ble_eq_true rfl⟩) (rpreV hN (q := (RX5, TX5, 35)) (ci := 5) hK (hP.sub [0, 1] rfl) 0 rfl rfl) rfl rfl hl.1 rfl (lv_room (Nat.le_of_ble_eq_true rfl)) dX5_goes_72 ⟨Nat.zero_le _, Nat.zero_le _⟩) (fun r_4 hr_4 => ?_)
        have hr_4 : r_4 = nI (if kd (wf w) = 2 then 8 + (wf w) else (x % 15)) := hr_4
        rw [hr_4]
        refine rc_i (va_runS (As := [.int (nI (wt w)), .int (nI (if kd (wf w) = 0 then (x / 15) else ((x / 15) + 1) % 4)), .int (nI (if kd (wf w) = 2 then 8 + (wf w) else (x % 15)))]) (rest := []) ⟨hx, hb, hml, hown, hts⟩ (kX5_placeOf (wt w) (if kd (wf w) = 0 then (x / 15) else ((x / 15) + 1) % 4) (if kd (wf w) = 2 then 8 + (wf w) else (x % 15)) ) (va_cwS 3 hts gX5_goes_X5_placeOf rfl rfl rfl hvX5_placeOf ⟨Nat.le_of_ble_eq_true rfl, Nat.le_of_ble_eq_true rfl⟩) (rpreS hN hK (hP.sub [] rfl)) rfl rfl hl.1 rfl (lv_room (Nat.le_of_ble_eq_true rfl)) dX5_goes_75 ⟨Nat.zero_le _, Nat.zero_le _⟩) (fun r_5 hr_5 => ?_)
        have hr_5 : r_5 = nI (15 * (4 * (wt w) + (if kd (wf w) = 0 then (x / 15) else ((x / 15) + 1) % 4)) + (if kd (wf w) = 2 then 8 + (wf w) else (x % 15))) := hr_5
        rw [hr_5]
        refine lv_istore (lv' := [(8, .int (nI (15 * (4 * (wt w) + (if kd (wf w) = 0 then (x / 15) else ((x / 15) + 1) % 4)) + (if kd (wf w) = 2 then 8 + (wf w) else (x % 15))))), (7, .int (nI ((g2 (60 * wf w + x)) + (wd w)))), (6, .int (nI (x % 15))), (5, .int (nI (x / 15))), (0, .ref bM), (1, .int (nI w)), (2, .int (kb b)), (3, .int (nI (wf w))), (4, .int (nI x))]) hx hb dX5_goes_78 hl (by decide) rfl (fun ls hl => ?_)
        have hat := chg_place (k := kd (wf w)) (p := wf w) (x := x) (by omega) (by omega) c16 (wt w)
        rw [hat] at hl
        have hal := chg_lt (k := kd (wf w)) (p := wf w) (r := x) (by omega) c16
        have hg6 := hd_lt hg.1 (show 60 * wf w + x < 360 by omega)
        have hg7 := hd_lt hg.1 (show 60 * wt w + chg (kd (wf w)) (wf w) x < 360 by omega)
        refine lv_iload hx hb dX5_goes_80 (lv_at hl 1 rfl) ?_
        refine lv_bipush (v := nI 59) hx hb dX5_goes_82 (by decide) ?_
        refine k_icmp_gt (tgt := 110) hx hb dX5_goes_84 (by decide) (by omega) (by omega) (fun c84 => ?_) (fun c84 => ?_)
        · refine lv_iinc (v := nI (x + 1)) (lv' := [(4, .int (nI (x + 1))), (8, .int (nI (60 * wt w + chg (kd (wf w)) (wf w) x))), (7, .int (nI ((g2 (60 * wf w + x)) + (wd w)))), (6, .int (nI (x % 15))), (5, .int (nI (x / 15))), (0, .ref bM), (1, .int (nI w)), (2, .int (kb b)), (3, .int (nI (wf w)))]) hx hb dX5_goes_110 hl (k := 8) rfl (nI_add _ _) (by decide) rfl (fun ls hl => ?_)
          refine lv_goto (tgt := 12) hx hb dX5_goes_113 (by decide) ?_
          exact ih12 (x + 1) b f g2 (by omega) (by exact hg) (by exact hs) (by exact hi) (by exact goesI_no hgo (fun z => by omega)) (by omega) _ _ hP hD hS _ (lv_sub hl [5, 6, 7, 8, 0] rfl)
        · refine lv_iload hx hb dX5_goes_87 (lv_at hl 1 rfl) ?_
          refine lv_aload_n hx hb dX5_goes_89 rfl (lv_at hl 4 rfl) ?_
          refine va_get (D := (dC, dI)) (ci := 5) (v := .ref bHd) (C := RX5) (T := TX5) (N := 35) hx hb hts hinX5 hown hK hP 0 rfl rfl 23 (by decide) lk53 (fun _ h9 => h9) rfl dX5_goes_90 ?_
          refine lv_iload hx hb dX5_goes_93 (lv_at hl 0 rfl) ?_
          refine k_iald hx hb hK hP 5 0 rfl rfl (n := 360) (v := nI (g2 (60 * wt w + chg (kd (wf w)) (wf w) x))) (by omega) (by decide) (hg.2 _ (by omega)) dX5_goes_95 ?_
          refine k_icmp_ge (tgt := 110) hx hb dX5_goes_96 (by decide) (by omega) (by omega) (fun c96 => ?_) (fun c96 => ?_)
          · refine lv_iinc (v := nI (x + 1)) (lv' := [(4, .int (nI (x + 1))), (8, .int (nI (60 * wt w + chg (kd (wf w)) (wf w) x))), (7, .int (nI ((g2 (60 * wf w + x)) + (wd w)))), (6, .int (nI (x % 15))), (5, .int (nI (x / 15))), (0, .ref bM), (1, .int (nI w)), (2, .int (kb b)), (3, .int (nI (wf w)))]) hx hb dX5_goes_110 hl (k := 8) rfl (nI_add _ _) (by decide) rfl (fun ls hl => ?_)
            refine lv_goto (tgt := 12) hx hb dX5_goes_113 (by decide) ?_
            exact ih12 (x + 1) b f g2 (by omega) (by exact hg) (by exact hs) (by exact hi) (by exact goesI_no hgo (fun z => by omega)) (by omega) _ _ hP hD hS _ (lv_sub hl [5, 6, 7, 8, 0] rfl)
          · refine lv_aload_n hx hb dX5_goes_99 rfl (lv_at hl 4 rfl) ?_
            refine va_get (D := (dC, dI)) (ci := 5) (v := .ref bHd) (C := RX5) (T := TX5) (N := 35) hx hb hts hinX5 hown hK hP 0 rfl rfl 23 (by decide) lk53 (fun _ h9 => h9) rfl dX5_goes_100 ?_
            refine lv_iload hx hb dX5_goes_103 (lv_at hl 0 rfl) ?_
            refine lv_iload hx hb dX5_goes_105 (lv_at hl 1 rfl) ?_
            refine k_iast hx hb hK hP hD hS 5 0 rfl rfl (n := 360) (by omega) (by decide) dX5_goes_107 (fun f_6 H_7 locs ef_6 hP hD hS => ?_)
            have hP : va_P (dC, dI) vwCl [(bM, .inr (5, .int (nI fa) :: .int (nI np) :: .ref bKk :: .ref bKs :: .int (nI hm) :: .int (nI nw) :: .ref bWf :: .ref bWt :: .ref bWl :: .int (nI lw) :: .ref bFo :: .int (nI qa) :: .int (nI qp_) :: .int (nI qw_) :: .ref bRk :: .ref bRs :: .ref bRf :: .ref bRo :: .ref bRl :: .int (nI nt) :: .ref bTp :: .ref bTt :: .ref bTd :: .ref bHd :: .ref bFn :: .int (nI nr) :: .ref bRp :: .ref bRt :: .ref bRe :: .ref bRh :: .ref bZs :: .ref bZl :: .ref bSc :: .ref bHn :: .int tr :: [])), (bKk, .inl (cI, 6, .inl mKk)), (bWf, .inl (cI, 9, .inl mWf)), (bWt, .inl (cI, 9, .inl mWt)), (bWl, .inl (cI, 9, .inl mWl)), (bHd, .inl (cI, 360, .inl f_6))] H_7 := hP
            have hD : va_D zA [(bM, .inr (5, .int (nI fa) :: .int (nI np) :: .ref bKk :: .ref bKs :: .int (nI hm) :: .int (nI nw) :: .ref bWf :: .ref bWt :: .ref bWl :: .int (nI lw) :: .ref bFo :: .int (nI qa) :: .int (nI qp_) :: .int (nI qw_) :: .ref bRk :: .ref bRs :: .ref bRf :: .ref bRo :: .ref bRl :: .int (nI nt) :: .ref bTp :: .ref bTt :: .ref bTd :: .ref bHd :: .ref bFn :: .int (nI nr) :: .ref bRp :: .ref bRt :: .ref bRe :: .ref bRh :: .ref bZs :: .ref bZl :: .ref bSc :: .ref bHn :: .int tr :: [])), (bKk, .inl (cI, 6, .inl mKk)), (bWf, .inl (cI, 9, .inl mWf)), (bWt, .inl (cI, 9, .inl mWt)), (bWl, .inl (cI, 9, .inl mWl)), (bHd, .inl (cI, 360, .inl f_6))] := hD
            refine lv_iconst (v := nI 1) hx hb dX5_goes_108 (by decide) ?_
            refine lv_istore_n (lv' := [(2, .int (nI 1)), (8, .int (nI (60 * wt w + chg (kd (wf w)) (wf w) x))), (7, .int (nI ((g2 (60 * wf w + x)) + (wd w)))), (6, .int (nI (x % 15))), (5, .int (nI (x / 15))), (0, .ref bM), (1, .int (nI w)), (3, .int (nI (wf w))), (4, .int (nI x))]) hx hb dX5_goes_109 rfl hl (by decide) rfl (fun ls hl => ?_)
            refine lv_iinc (v := nI (x + 1)) (lv' := [(4, .int (nI (x + 1))), (2, .int (nI 1)), (8, .int (nI (60 * wt w + chg (kd (wf w)) (wf w) x))), (7, .int (nI ((g2 (60 * wf w + x)) + (wd w)))), (6, .int (nI (x % 15))), (5, .int (nI (x / 15))), (0, .ref bM), (1, .int (nI w)), (3, .int (nI (wf w)))]) hx hb dX5_goes_110 hl (k := 8) rfl (nI_add _ _) (by decide) rfl (fun ls hl => ?_)
            refine lv_goto (tgt := 12) hx hb dX5_goes_113 (by decide) ?_
            exact ih12 (x + 1) true f_6 (upN g2 (60 * wt w + chg (kd (wf w)) (wf w) x) (g2 (60 * wf w + x) + wd w)) (by omega) (by exact hdR_up hg c84 ef_6) (by exact gSnd_way hwn ha (by omega) (by omega) c16 hs c84) (by exact gIni_up hi (Nat.le_of_lt c96)) (by exact goesI_yes hgo (by omega) c96) (by omega) _ _ hP hD hS _ (lv_sub hl [6, 7, 1, 8, 0] rfl)
  exact loop12 ((60 - 0) + 1) 0 false mHd g (by omega) (by exact hg0) (by exact hs0) (by exact hi0) (by exact goesI_0) (by exact Nat.lt_succ_self _) _ _ hP hD hS _ (lv_sub hl [3, 4, 2, 1, 0] rfl)

set_option maxHeartbeats 800000 in
set_option maxRecDepth 100000 in
theorem kX5_spread {zl : Launch} {dC : Nat → ClassId} {dI : Nat → Nat → Nat} {cI cJ cZ cS : ClassId} {sz : Nat} (bM : Nat) (fa : Nat) (np : Nat) (bKk : Nat) (bKs : Nat) (hm : Nat) (nw : Nat) (bWf : Nat) (bWt : Nat) (bWl : Nat) (lw : Nat) (bFo : Nat) (qa : Nat) (qp_ : Nat) (qw_ : Nat) (bRk : Nat) (bRs : Nat) (bRf : Nat) (bRo : Nat) (bRl : Nat) (nt : Nat) (bTp : Nat) (bTt : Nat) (bTd : Nat) (bHd : Nat) (bFn : Nat) (nr : Nat) (bRp : Nat) (bRt : Nat) (bRe : Nat) (bRh : Nat) (bZs : Nat) (bZl : Nat) (bSc : Nat) (bHn : Nat) (tr : Int32) (mKk : Nat → Int32) (mWf : Nat → Int32) (mWt : Nat → Int32) (mWl : Nat → Int32) (mHd : Nat → Int32) (kd : Nat → Nat) (wf : Nat → Nat) (wt : Nat → Nat) (wd : Nat → Nat) (wo : Int32) (S : Nat → Nat → Nat → Prop) (hw : waysOk np nw wf wt wd kd) (hpA : pplA np nw kd wf wt wd mKk mWf mWt mWl) (hhm : hm < 64) (hpl : plantM S mHd) : Met zl yX5_spread wsX5_spread ({ frames := 2, cells := 0, slots := 0, locals := 50 } : Room) (va_Pc [.ref bM, .int wo] (kPre (dC, dI) (kT cI cJ cZ cS) [(bM, .inr (5, .int (nI fa) :: .int (nI np) :: .ref bKk :: .ref bKs :: .int (nI hm) :: .int (nI nw) :: .ref bWf :: .ref bWt :: .ref bWl :: .int (nI lw) :: .ref bFo :: .int (nI qa) :: .int (nI qp_) :: .int (nI qw_) :: .ref bRk :: .ref bRs :: .ref bRf :: .ref bRo :: .ref bRl :: .int (nI nt) :: .ref bTp :: .ref bTt :: .ref bTd :: .ref bHd :: .ref bFn :: .int (nI nr) :: .ref bRp :: .ref bRt :: .ref bRe :: .ref bRh :: .ref bZs :: .ref bZl :: .ref bSc :: .ref bHn :: .int tr :: [])), (bKk, .inl (cI, 6, .inl mKk)), (bWf, .inl (cI, 9, .inl mWf)), (bWt, .inl (cI, 9, .inl mWt)), (bWl, .inl (cI, 9, .inl mWl)), (bHd, .inl (cI, 360, .inl mHd))] sz)) (va_Qv (fun (f1 : (Nat → Int32)) => finR (hrd nw wf wt wd kd (actW hm wo wf) S) f1) (fun (f1 : (Nat → Int32)) (zU : State) => va_P (dC, dI) vwCl [(bM, .inr (5, .int (nI fa) :: .int (nI np) :: .ref bKk :: .ref bKs :: .int (nI hm) :: .int (nI nw) :: .ref bWf :: .ref bWt :: .ref bWl :: .int (nI lw) :: .ref bFo :: .int (nI qa) :: .int (nI qp_) :: .int (nI qw_) :: .ref bRk :: .ref bRs :: .ref bRf :: .ref bRo :: .ref bRl :: .int (nI nt) :: .ref bTp :: .ref bTt :: .ref bTd :: .ref bHd :: .ref bFn :: .int (nI nr) :: .ref bRp :: .ref bRt :: .ref bRe :: .ref bRh :: .ref bZs :: .ref bZl :: .ref bSc :: .ref bHn :: .int tr :: [])), (bKk, .inl (cI, 6, .inl mKk)), (bWf, .inl (cI, 9, .inl mWf)), (bWt, .inl (cI, 9, .inl mWt)), (bWl, .inl (cI, 9, .inl mWl)), (bHd, .inl (cI, 360, .inl f1))] zU.heap) (va_A [(bM, .inr (5, .int (nI fa) :: .int (nI np) :: .ref bKk :: .ref bKs :: .int (nI hm) :: .int (nI nw) :: .ref bWf :: .ref bWt :: .ref bWl :: .int (nI lw) :: .ref bFo :: .int (nI qa) :: .int (nI qp_) :: .int (nI qw_) :: .ref bRk :: .ref bRs :: .ref bRf :: .ref bRo :: .ref bRl :: .int (nI nt) :: .ref bTp :: .ref bTt :: .ref bTd :: .ref bHd :: .ref bFn :: .int (nI nr) :: .ref bRp :: .ref bRt :: .ref bRe :: .ref bRh :: .ref bZs :: .ref bZl :: .ref bSc :: .ref bHn :: .int tr :: [])), (bKk, .inl (cI, 6, .inl mKk)), (bWf, .inl (cI, 9, .inl mWf)), (bWt, .inl (cI, 9, .inl mWt)), (bWl, .inl (cI, 9, .inl mWl)), (bHd, .inl (cI, 360, .inl mHd))] sz)) 0 0 (va_A [(bM, .inr (5, .int (nI fa) :: .int (nI np) :: .ref bKk :: .ref bKs :: .int (nI hm) :: .int (nI nw) :: .ref bWf :: .ref bWt :: .ref bWl :: .int (nI lw) :: .ref bFo :: .int (nI qa) :: .int (nI qp_) :: .int (nI qw_) :: .ref bRk :: .ref bRs :: .ref bRf :: .ref bRo :: .ref bRl :: .int (nI nt) :: .ref bTp :: .ref bTt :: .ref bTd :: .ref bHd :: .ref bFn :: .int (nI nr) :: .ref bRp :: .ref bRt :: .ref bRe :: .ref bRh :: .ref bZs :: .ref bZl :: .ref bSc :: .ref bHn :: .int tr :: [])), (bKk, .inl (cI, 6, .inl mKk)), (bWf, .inl (cI, 9, .inl mWf)), (bWt, .inl (cI, 9, .inl mWt)), (bWl, .inl (cI, 9, .inl mWl)), (bHd, .inl (cI, 360, .inl mHd))] sz) := by
  refine kstartW_v (cc := cX5_spread) (maxL := 4) rfl rfl (Nat.le_of_ble_eq_true rfl) ?_
  intro zp ze zs zm zb zt zc za zQ zA hx hb hml hts hown hN hK hP hD hS hA zin hret ls hl
  have hl : lv_has ls 4 [(0, .ref bM), (1, .int wo)] := hl
  have h6 := hw.1
  have h9 := hw.2.1
  obtain ⟨g0, hg0, hs0, hi0, hin0⟩ := hpl
  have hinX5 : ∀ w ∈ wsX50, w ∈ wsX5_spread := fun _ h => List.mem_cons_of_mem _ (List.mem_append_right _ h)
  have lk17 := hts (.fieldLink RX5 17 "IronRumoursModel" "fromOf" "[I") (List.mem_of_getElem? (i := 3) rfl)
  have lk152 := hts (.fieldLink RX5 152 "IronRumoursModel" "ways" "I") (List.mem_of_getElem? (i := 1) rfl)
  have lk155 := hts (.fieldLink RX5 155 "IronRumoursModel" "hushedNow" "I") (List.mem_of_getElem? (i := 2) rfl)
  refine lv_iconst (v := nI 1) hx hb dX5_spread_0 (by decide) ?_
  refine lv_istore_n (lv' := [(2, .int (nI 1)), (0, .ref bM), (1, .int wo)]) hx hb dX5_spread_1 rfl hl (by decide) rfl (fun ls hl => ?_)
  have loop2 : ∀ (n2 : Nat) (b : Bool) (f : Nat → Int32) (g : Nat → Nat), (hdR f g) → (gSnd (hrd nw wf wt wd kd (actW hm wo wf) S) g) → (gIni S g) → (b = false → gFix wf wt wd kd (actW hm wo wf) g nw) → (sprM g b < n2) → ∀ (H_1 : Heap) (locs : List Loc), va_P (dC, dI) vwCl [(bM, .inr (5, .int (nI fa) :: .int (nI np) :: .ref bKk :: .ref bKs :: .int (nI hm) :: .int (nI nw) :: .ref bWf :: .ref bWt :: .ref bWl :: .int (nI lw) :: .ref bFo :: .int (nI qa) :: .int (nI qp_) :: .int (nI qw_) :: .ref bRk :: .ref bRs :: .ref bRf :: .ref bRo :: .ref bRl :: .int (nI nt) :: .ref bTp :: .ref bTt :: .ref bTd :: .ref bHd :: .ref bFn :: .int (nI nr) :: .ref bRp :: .ref bRt :: .ref bRe :: .ref bRh :: .ref bZs :: .ref bZl :: .ref bSc :: .ref bHn :: .int tr :: [])), (bKk, .inl (cI, 6, .inl mKk)), (bWf, .inl (cI, 9, .inl mWf)), (bWt, .inl (cI, 9, .inl mWt)), (bWl, .inl (cI, 9, .inl mWl)), (bHd, .inl (cI, 360, .inl f))] H_1 → va_D zA [(bM, .inr (5, .int (nI fa) :: .int (nI np) :: .ref bKk :: .ref bKs :: .int (nI hm) :: .int (nI nw) :: .ref bWf :: .ref bWt :: .ref bWl :: .int (nI lw) :: .ref bFo :: .int (nI qa) :: .int (nI qp_) :: .int (nI qw_) :: .ref bRk :: .ref bRs :: .ref bRf :: .ref bRo :: .ref bRl :: .int (nI nt) :: .ref bTp :: .ref bTt :: .ref bTd :: .ref bHd :: .ref bFn :: .int (nI nr) :: .ref bRp :: .ref bRt :: .ref bRe :: .ref bRh :: .ref bZs :: .ref bZl :: .ref bSc :: .ref bHn :: .int tr :: [])), (bKk, .inl (cI, 6, .inl mKk)), (bWf, .inl (cI, 9, .inl mWf)), (bWt, .inl (cI, 9, .inl mWt)), (bWl, .inl (cI, 9, .inl mWl)), (bHd, .inl (cI, 360, .inl f))] → va_S zA zs.heap H_1 locs → ∀ (ls : Array Slot), lv_has ls 4 [(0, .ref bM), (1, .int wo), (2, .int (kb b))] → W zp zl ze ({ frames := 2, cells := 0, slots := 0, locals := 50 } : Room) zs zm za zb zt zc H_1 locs 0 0 zQ (F0 zm 2 ls []) := by
    intro n2
    induction n2 with
    | zero => intro b f g hg hs hi hb9 hme; exact absurd hme (Nat.not_lt_zero _)
    | succ n2 ih2 =>
      intro b f g hg hs hi hb9 hme H_1 locs hP hD hS ls hl
      have hme9 := hme
      refine lv_iload_n hx hb dX5_spread_2 rfl (lv_at hl 2 rfl) ?_
      refine k_if_eqb (tgt := 66) hx hb dX5_spread_3 (by decide) (fun c3 => ?_) (fun c3 => ?_)
      · refine hret 66 _ f _ _ dX5_spread_66 hS (fun t ht _ => by rw [ht]; exact hP) ?_
        exact spr_end hw hin0 hg hs hi (hb9 c3)
      · refine lv_iconst (v := nI 0) hx hb dX5_spread_6 (by decide) ?_
        refine lv_istore_n (lv' := [(2, .int (nI 0)), (0, .ref bM), (1, .int wo)]) hx hb dX5_spread_7 rfl hl (by decide) rfl (fun ls hl => ?_)
        refine lv_iconst (v := nI 0) hx hb dX5_spread_8 (by decide) ?_
        refine lv_istore_n (lv' := [(3, .int (nI 0)), (2, .int (nI 0)), (0, .ref bM), (1, .int wo)]) hx hb dX5_spread_9 rfl hl (by decide) rfl (fun ls hl => ?_)
        have loop10 : ∀ (n10 : Nat) (w : Nat) (b2 : Bool) (f2 : Nat → Int32) (g2 : Nat → Nat), (w ≤ nw) → (hdR f2 g2) → (gSnd (hrd nw wf wt wd kd (actW hm wo wf) S) g2) → (gIni S g2) → (sprI wf wt wd kd (actW hm wo wf) g w g2 b2) → (nw - w < n10) → ∀ (H_2 : Heap) (locs : List Loc), va_P (dC, dI) vwCl [(bM, .inr (5, .int (nI fa) :: .int (nI np) :: .ref bKk :: .ref bKs :: .int (nI hm) :: .int (nI nw) :: .ref bWf :: .ref bWt :: .ref bWl :: .int (nI lw) :: .ref bFo :: .int (nI qa) :: .int (nI qp_) :: .int (nI qw_) :: .ref bRk :: .ref bRs :: .ref bRf :: .ref bRo :: .ref bRl :: .int (nI nt) :: .ref bTp :: .ref bTt :: .ref bTd :: .ref bHd :: .ref bFn :: .int (nI nr) :: .ref bRp :: .ref bRt :: .ref bRe :: .ref bRh :: .ref bZs :: .ref bZl :: .ref bSc :: .ref bHn :: .int tr :: [])), (bKk, .inl (cI, 6, .inl mKk)), (bWf, .inl (cI, 9, .inl mWf)), (bWt, .inl (cI, 9, .inl mWt)), (bWl, .inl (cI, 9, .inl mWl)), (bHd, .inl (cI, 360, .inl f2))] H_2 → va_D zA [(bM, .inr (5, .int (nI fa) :: .int (nI np) :: .ref bKk :: .ref bKs :: .int (nI hm) :: .int (nI nw) :: .ref bWf :: .ref bWt :: .ref bWl :: .int (nI lw) :: .ref bFo :: .int (nI qa) :: .int (nI qp_) :: .int (nI qw_) :: .ref bRk :: .ref bRs :: .ref bRf :: .ref bRo :: .ref bRl :: .int (nI nt) :: .ref bTp :: .ref bTt :: .ref bTd :: .ref bHd :: .ref bFn :: .int (nI nr) :: .ref bRp :: .ref bRt :: .ref bRe :: .ref bRh :: .ref bZs :: .ref bZl :: .ref bSc :: .ref bHn :: .int tr :: [])), (bKk, .inl (cI, 6, .inl mKk)), (bWf, .inl (cI, 9, .inl mWf)), (bWt, .inl (cI, 9, .inl mWt)), (bWl, .inl (cI, 9, .inl mWl)), (bHd, .inl (cI, 360, .inl f2))] → va_S zA zs.heap H_2 locs → ∀ (ls : Array Slot), lv_has ls 4 [(0, .ref bM), (1, .int wo), (2, .int (kb b2)), (3, .int (nI w))] → W zp zl ze ({ frames := 2, cells := 0, slots := 0, locals := 50 } : Room) zs zm za zb zt zc H_2 locs 0 0 zQ (F0 zm 10 ls []) := by
          intro n10
          induction n10 with
          | zero => intro w b2 f2 g2 hwn hg2 hs2 hi2 hI hme; exact absurd hme (Nat.not_lt_zero _)
          | succ n10 ih10 =>
            intro w b2 f2 g2 hwn hg2 hs2 hi2 hI hme H_2 locs hP hD hS ls hl
            refine lv_iload_n hx hb dX5_spread_10 rfl (lv_at hl 3 rfl) ?_
            refine lv_aload_n hx hb dX5_spread_11 rfl (lv_at hl 0 rfl) ?_
            refine va_get (D := (dC, dI)) (ci := 5) (v := .int (nI nw)) (C := RX5) (T := TX5) (N := 35) hx hb hts hinX5 hown hK hP 0 rfl rfl 5 (by decide) lk152 (fun _ h9 => h9) rfl dX5_spread_12 ?_
            refine k_icmp_ge (tgt := 63) hx hb dX5_spread_15 (by decide) (by omega) (by omega) (fun c15 => ?_) (fun c15 => ?_)
            · refine lv_goto (tgt := 2) hx hb dX5_spread_63 (by decide) ?_
              exact ih2 b2 f2 g2 (by exact hg2) (by exact hs2) (by exact hi2) (by have e : w = nw := (by omega); exact sprI_f (e ▸ hI)) (by have h7 := sprM_lt hI; rw [c3] at hme9; omega) _ _ hP hD hS _ (lv_sub hl [0, 1, 2] rfl)
            · have hww := hw.2.2.2 w c15
              refine lv_iload_n hx hb dX5_spread_18 rfl (lv_at hl 3 rfl) ?_
              refine lv_iload_n hx hb dX5_spread_19 rfl (lv_at hl 1 rfl) ?_
              refine lv_icmp_eq (tgt := 57) hx hb dX5_spread_20 (by decide) (fun c20 => ?_) (fun c20 => ?_)
              · refine lv_iinc (v := nI (w + 1)) (lv' := [(3, .int (nI (w + 1))), (0, .ref bM), (1, .int wo), (2, .int (kb b2))]) hx hb dX5_spread_57 hl (k := 3) rfl (nI_add _ _) (by decide) rfl (fun ls hl => ?_)
                refine lv_goto (tgt := 10) hx hb dX5_spread_60 (by decide) ?_
                exact ih10 (w + 1) b2 f2 g2 (by omega) (by exact hg2) (by exact hs2) (by exact hi2) (by exact sprI_skip hI (fun z => z.1 c20)) (by omega) _ _ hP hD hS _ (lv_sub hl [1, 2, 3, 0] rfl)
              · refine lv_aload_n hx hb dX5_spread_23 rfl (lv_at hl 0 rfl) ?_
                refine va_get (D := (dC, dI)) (ci := 5) (v := .int (nI hm)) (C := RX5) (T := TX5) (N := 35) hx hb hts hinX5 hown hK hP 0 rfl rfl 4 (by decide) lk155 (fun _ h9 => h9) rfl dX5_spread_24 ?_
                refine lv_aload_n hx hb dX5_spread_27 rfl (lv_at hl 0 rfl) ?_
                refine va_get (D := (dC, dI)) (ci := 5) (v := .ref bWf) (C := RX5) (T := TX5) (N := 35) hx hb hts hinX5 hown hK hP 0 rfl rfl 6 (by decide) lk17 (fun _ h9 => h9) rfl dX5_spread_28 ?_
                refine lv_iload_n hx hb dX5_spread_31 rfl (lv_at hl 3 rfl) ?_
                refine k_iald hx hb hK hP 2 0 rfl rfl (n := 9) (v := nI (wf w)) (by omega) (by decide) ((hpA.2 w c15).1) dX5_spread_32 ?_
                refine rc_i (va_runS (As := [.int (nI hm), .int (nI (wf w))]) (rest := []) ⟨hx, hb, hml, hown, hts⟩ (kX5_isIn hm (wf w) hhm (by omega)) (va_cwS 2 hts gX5_spread_X5_isIn rfl rfl rfl hvX5_isIn ⟨Nat.le_of_ble_eq_true rfl, Nat.le_of_ble_eq_true rfl⟩) (rpreS hN hK (hP.sub [] rfl)) rfl rfl hl.1 rfl (lv_room (Nat.le_of_ble_eq_true rfl)) dX5_spread_33 ⟨Nat.zero_le _, Nat.zero_le _⟩) (fun r_3 hr_3 => ?_)
                have hr_3 : r_3 = kb (hm.testBit (wf w)) := hr_3
                rw [hr_3]
                refine k_if_neb (tgt := 57) hx hb dX5_spread_36 (by decide) (fun c36 => ?_) (fun c36 => ?_)
                · refine lv_iinc (v := nI (w + 1)) (lv' := [(3, .int (nI (w + 1))), (0, .ref bM), (1, .int wo), (2, .int (kb b2))]) hx hb dX5_spread_57 hl (k := 3) rfl (nI_add _ _) (by decide) rfl (fun ls hl => ?_)
                  refine lv_goto (tgt := 10) hx hb dX5_spread_60 (by decide) ?_
                  exact ih10 (w + 1) b2 f2 g2 (by omega) (by exact hg2) (by exact hs2) (by exact hi2) (by exact sprI_skip hI (fun z => absurd (c36.symm.trans z.2) (by decide))) (by omega) _ _ hP hD hS _ (lv_sub hl [1, 2, 3, 0] rfl)
                · refine lv_aload_n hx hb dX5_spread_39 rfl (lv_at hl 0 rfl) ?_
                  refine lv_iload_n hx hb dX5_spread_40 rfl (lv_at hl 3 rfl) ?_
                  refine kc_i (wr := []) (va_runV (As := [.int (nI w)]) (rest := []) ⟨hx, hb, hml, hown, hts⟩ (kX5_goes bM fa np bKk bKs hm nw bWf bWt bWl lw bFo qa qp_ qw_ bRk bRs bRf bRo bRl nt bTp bTt bTd bHd bFn nr bRp bRt bRe bRh bZs bZl bSc bHn tr mKk mWf mWt mWl f2 kd wf wt wd (actW hm wo wf) S g2 w hw hpA (by omega) (⟨c20, c36⟩) hg2 hs2 hi2) (cwV 1 hts gX5_spread_X5_goes rfl rfl rfl hvX5_goes ⟨Nat.le_of_ble_eq_true rfl, Nat.le_of_ble_eq_true rfl⟩) (kpreV hN (q := (RX5, TX5, 35)) (ci := 5) hK (hP.sub [0, 1, 2, 3, 4, 5] rfl) (hD.sub [0, 1, 2, 3, 4, 5] (by decide) rfl) 0 rfl rfl) rfl rfl hl.1 rfl (lv_room (Nat.le_of_ble_eq_true rfl)) dX5_spread_41 ⟨Nat.zero_le _, Nat.zero_le _⟩) (fun _ => by simp only [List.map]) hP hD hS hA [0, 1, 2, 3, 4, 5] [] rfl rfl (by decide) (by decide) (by decide) (fun r_4 f_6 H_5 locs hr_4 hP hD hS => ?_)
                  have hP : va_P (dC, dI) vwCl [(bM, .inr (5, .int (nI fa) :: .int (nI np) :: .ref bKk :: .ref bKs :: .int (nI hm) :: .int (nI nw) :: .ref bWf :: .ref bWt :: .ref bWl :: .int (nI lw) :: .ref bFo :: .int (nI qa) :: .int (nI qp_) :: .int (nI qw_) :: .ref bRk :: .ref bRs :: .ref bRf :: .ref bRo :: .ref bRl :: .int (nI nt) :: .ref bTp :: .ref bTt :: .ref bTd :: .ref bHd :: .ref bFn :: .int (nI nr) :: .ref bRp :: .ref bRt :: .ref bRe :: .ref bRh :: .ref bZs :: .ref bZl :: .ref bSc :: .ref bHn :: .int tr :: [])), (bKk, .inl (cI, 6, .inl mKk)), (bWf, .inl (cI, 9, .inl mWf)), (bWt, .inl (cI, 9, .inl mWt)), (bWl, .inl (cI, 9, .inl mWl)), (bHd, .inl (cI, 360, .inl f_6))] H_5 := hP
                  have hD : va_D zA [(bM, .inr (5, .int (nI fa) :: .int (nI np) :: .ref bKk :: .ref bKs :: .int (nI hm) :: .int (nI nw) :: .ref bWf :: .ref bWt :: .ref bWl :: .int (nI lw) :: .ref bFo :: .int (nI qa) :: .int (nI qp_) :: .int (nI qw_) :: .ref bRk :: .ref bRs :: .ref bRf :: .ref bRo :: .ref bRl :: .int (nI nt) :: .ref bTp :: .ref bTt :: .ref bTd :: .ref bHd :: .ref bFn :: .int (nI nr) :: .ref bRp :: .ref bRt :: .ref bRe :: .ref bRh :: .ref bZs :: .ref bZl :: .ref bSc :: .ref bHn :: .int tr :: [])), (bKk, .inl (cI, 6, .inl mKk)), (bWf, .inl (cI, 9, .inl mWf)), (bWt, .inl (cI, 9, .inl mWt)), (bWl, .inl (cI, 9, .inl mWl)), (bHd, .inl (cI, 360, .inl f_6))] := hD
                  obtain ⟨g3, b3, er3, hg3, hs3, hi3, hgo3⟩ := hr_4
                  rw [er3]
                  refine k_if_neb (tgt := 51) hx hb dX5_spread_44 (by decide) (fun c44 => ?_) (fun c44 => ?_)
                  · refine lv_iconst (v := nI 1) hx hb dX5_spread_51 (by decide) ?_
                    refine lv_goto (tgt := 56) hx hb dX5_spread_52 (by decide) ?_
                    refine lv_istore_n (lv' := [(2, .int (nI 1)), (0, .ref bM), (1, .int wo), (3, .int (nI w))]) hx hb dX5_spread_56 rfl hl (by decide) rfl (fun ls hl => ?_)
                    refine lv_iinc (v := nI (w + 1)) (lv' := [(3, .int (nI (w + 1))), (2, .int (nI 1)), (0, .ref bM), (1, .int wo)]) hx hb dX5_spread_57 hl (k := 3) rfl (nI_add _ _) (by decide) rfl (fun ls hl => ?_)
                    refine lv_goto (tgt := 10) hx hb dX5_spread_60 (by decide) ?_
                    exact ih10 (w + 1) true f_6 g3 (by omega) (by exact hg3) (by exact hs3) (by exact hi3) (by exact sprI_yes hI (c44 ▸ hgo3)) (by omega) _ _ hP hD hS _ (lv_sub hl [2, 3, 1, 0] rfl)
                  · refine lv_iload_n hx hb dX5_spread_47 rfl (lv_at hl 2 rfl) ?_
                    refine k_if_eqb (tgt := 55) hx hb dX5_spread_48 (by decide) (fun c48 => ?_) (fun c48 => ?_)
                    · refine lv_iconst (v := nI 0) hx hb dX5_spread_55 (by decide) ?_
                      refine lv_istore_n (lv' := [(2, .int (nI 0)), (0, .ref bM), (1, .int wo), (3, .int (nI w))]) hx hb dX5_spread_56 rfl hl (by decide) rfl (fun ls hl => ?_)
                      refine lv_iinc (v := nI (w + 1)) (lv' := [(3, .int (nI (w + 1))), (2, .int (nI 0)), (0, .ref bM), (1, .int wo)]) hx hb dX5_spread_57 hl (k := 3) rfl (nI_add _ _) (by decide) rfl (fun ls hl => ?_)
                      refine lv_goto (tgt := 10) hx hb dX5_spread_60 (by decide) ?_
                      exact ih10 (w + 1) false f_6 g3 (by omega) (by exact hg3) (by exact hs3) (by exact hi3) (by have h8 := sprI_no (fun k hk => ways6 hw k (by omega)) hI (c44 ▸ hgo3); rw [c48] at h8; exact h8) (by omega) _ _ hP hD hS _ (lv_sub hl [2, 3, 1, 0] rfl)
                    · refine lv_iconst (v := nI 1) hx hb dX5_spread_51 (by decide) ?_
                      refine lv_goto (tgt := 56) hx hb dX5_spread_52 (by decide) ?_
                      refine lv_istore_n (lv' := [(2, .int (nI 1)), (0, .ref bM), (1, .int wo), (3, .int (nI w))]) hx hb dX5_spread_56 rfl hl (by decide) rfl (fun ls hl => ?_)
                      refine lv_iinc (v := nI (w + 1)) (lv' := [(3, .int (nI (w + 1))), (2, .int (nI 1)), (0, .ref bM), (1, .int wo)]) hx hb dX5_spread_57 hl (k := 3) rfl (nI_add _ _) (by decide) rfl (fun ls hl => ?_)
                      refine lv_goto (tgt := 10) hx hb dX5_spread_60 (by decide) ?_
                      exact ih10 (w + 1) true f_6 g3 (by omega) (by exact hg3) (by exact hs3) (by exact hi3) (by have h8 := sprI_no (fun k hk => ways6 hw k (by omega)) hI (c44 ▸ hgo3); rw [c48] at h8; exact h8) (by omega) _ _ hP hD hS _ (lv_sub hl [2, 3, 1, 0] rfl)
        exact loop10 ((nw - 0) + 1) 0 false f g (by omega) (by exact hg) (by exact hs) (by exact hi) (by exact sprI_0) (by exact Nat.lt_succ_self _) _ _ hP hD hS _ (lv_sub hl [2, 3, 1, 0] rfl)
  exact loop2 ((sprM g0 true) + 1) true mHd g0 (by exact hg0) (by exact fun p r hp hr hq => hrd_S (hs0 p r hp hr hq)) (by exact hi0) (by intro z; cases z) (by exact Nat.lt_succ_self _) _ _ hP hD hS _ (lv_sub hl [1, 2, 0] rfl)

set_option maxHeartbeats 800000 in
set_option maxRecDepth 100000 in
theorem kX5_tellAll {zl : Launch} {dC : Nat → ClassId} {dI : Nat → Nat → Nat} {cI cJ cZ cS : ClassId} {sz : Nat} (bM : Nat) (fa : Nat) (np : Nat) (bKk : Nat) (bKs : Nat) (hm : Nat) (nw : Nat) (bWf : Nat) (bWt : Nat) (bWl : Nat) (lw : Nat) (bFo : Nat) (qa : Nat) (qp_ : Nat) (qw_ : Nat) (bRk : Nat) (bRs : Nat) (bRf : Nat) (bRo : Nat) (bRl : Nat) (nt : Nat) (bTp : Nat) (bTt : Nat) (bTd : Nat) (bHd : Nat) (bFn : Nat) (nr : Nat) (bRp : Nat) (bRt : Nat) (bRe : Nat) (bRh : Nat) (bZs : Nat) (bZl : Nat) (bSc : Nat) (bHn : Nat) (tr : Int32) (mTp : Nat → Int32) (mTt : Nat → Int32) (mTd : Nat → Int32) (mHd : Nat → Int32) (tp : Nat → Nat) (tt : Nat → Nat) (td : Nat → Nat) (wo : Int32) (hnp : np ≤ 6) (hta : tellA np nt tp tt td mTp mTt mTd) : Met zl yX5_tellAll wsX5_tellAll ({ frames := 2, cells := 0, slots := 0, locals := 47 } : Room) (va_Pc [.ref bM, .int wo] (kPre (dC, dI) (kT cI cJ cZ cS) [(bM, .inr (5, .int (nI fa) :: .int (nI np) :: .ref bKk :: .ref bKs :: .int (nI hm) :: .int (nI nw) :: .ref bWf :: .ref bWt :: .ref bWl :: .int (nI lw) :: .ref bFo :: .int (nI qa) :: .int (nI qp_) :: .int (nI qw_) :: .ref bRk :: .ref bRs :: .ref bRf :: .ref bRo :: .ref bRl :: .int (nI nt) :: .ref bTp :: .ref bTt :: .ref bTd :: .ref bHd :: .ref bFn :: .int (nI nr) :: .ref bRp :: .ref bRt :: .ref bRe :: .ref bRh :: .ref bZs :: .ref bZl :: .ref bSc :: .ref bHn :: .int tr :: [])), (bTp, .inl (cI, 8, .inl mTp)), (bTt, .inl (cI, 8, .inl mTt)), (bTd, .inl (cI, 8, .inl mTd)), (bHd, .inl (cI, 360, .inl mHd))] sz)) (va_Qv (fun (f1 : (Nat → Int32)) => plantM (tellS tp tt td nt wo) f1) (fun (f1 : (Nat → Int32)) (zU : State) => va_P (dC, dI) vwCl [(bM, .inr (5, .int (nI fa) :: .int (nI np) :: .ref bKk :: .ref bKs :: .int (nI hm) :: .int (nI nw) :: .ref bWf :: .ref bWt :: .ref bWl :: .int (nI lw) :: .ref bFo :: .int (nI qa) :: .int (nI qp_) :: .int (nI qw_) :: .ref bRk :: .ref bRs :: .ref bRf :: .ref bRo :: .ref bRl :: .int (nI nt) :: .ref bTp :: .ref bTt :: .ref bTd :: .ref bHd :: .ref bFn :: .int (nI nr) :: .ref bRp :: .ref bRt :: .ref bRe :: .ref bRh :: .ref bZs :: .ref bZl :: .ref bSc :: .ref bHn :: .int tr :: [])), (bTp, .inl (cI, 8, .inl mTp)), (bTt, .inl (cI, 8, .inl mTt)), (bTd, .inl (cI, 8, .inl mTd)), (bHd, .inl (cI, 360, .inl f1))] zU.heap) (va_A [(bM, .inr (5, .int (nI fa) :: .int (nI np) :: .ref bKk :: .ref bKs :: .int (nI hm) :: .int (nI nw) :: .ref bWf :: .ref bWt :: .ref bWl :: .int (nI lw) :: .ref bFo :: .int (nI qa) :: .int (nI qp_) :: .int (nI qw_) :: .ref bRk :: .ref bRs :: .ref bRf :: .ref bRo :: .ref bRl :: .int (nI nt) :: .ref bTp :: .ref bTt :: .ref bTd :: .ref bHd :: .ref bFn :: .int (nI nr) :: .ref bRp :: .ref bRt :: .ref bRe :: .ref bRh :: .ref bZs :: .ref bZl :: .ref bSc :: .ref bHn :: .int tr :: [])), (bTp, .inl (cI, 8, .inl mTp)), (bTt, .inl (cI, 8, .inl mTt)), (bTd, .inl (cI, 8, .inl mTd)), (bHd, .inl (cI, 360, .inl mHd))] sz)) 0 0 (va_A [(bM, .inr (5, .int (nI fa) :: .int (nI np) :: .ref bKk :: .ref bKs :: .int (nI hm) :: .int (nI nw) :: .ref bWf :: .ref bWt :: .ref bWl :: .int (nI lw) :: .ref bFo :: .int (nI qa) :: .int (nI qp_) :: .int (nI qw_) :: .ref bRk :: .ref bRs :: .ref bRf :: .ref bRo :: .ref bRl :: .int (nI nt) :: .ref bTp :: .ref bTt :: .ref bTd :: .ref bHd :: .ref bFn :: .int (nI nr) :: .ref bRp :: .ref bRt :: .ref bRe :: .ref bRh :: .ref bZs :: .ref bZl :: .ref bSc :: .ref bHn :: .int tr :: [])), (bTp, .inl (cI, 8, .inl mTp)), (bTt, .inl (cI, 8, .inl mTt)), (bTd, .inl (cI, 8, .inl mTd)), (bHd, .inl (cI, 360, .inl mHd))] sz) := by
  refine kstartW_v (cc := cX5_tellAll) (maxL := 3) rfl rfl (Nat.le_of_ble_eq_true rfl) ?_
  intro zp ze zs zm zb zt zc za zQ zA hx hb hml hts hown hN hK hP hD hS hA zin hret ls hl
  have hl : lv_has ls 3 [(0, .ref bM), (1, .int wo)] := hl
  have h8 := hta.1
  have hinX5 : ∀ w ∈ wsX50, w ∈ wsX5_tellAll := fun _ h => List.mem_cons_of_mem _ (List.mem_append_right _ h)
  have lk44 := hts (.fieldLink RX5 44 "IronRumoursModel" "tellingTo" "[I") (List.mem_of_getElem? (i := 2) rfl)
  have lk47 := hts (.fieldLink RX5 47 "IronRumoursModel" "tellingOf" "[I") (List.mem_of_getElem? (i := 3) rfl)
  have lk50 := hts (.fieldLink RX5 50 "IronRumoursModel" "tellingOn" "[I") (List.mem_of_getElem? (i := 4) rfl)
  have lk161 := hts (.fieldLink RX5 161 "IronRumoursModel" "tellings" "I") (List.mem_of_getElem? (i := 1) rfl)
  refine lv_aload_n hx hb dX5_tellAll_0 rfl (lv_at hl 0 rfl) ?_
  refine kc_v (wr := [(bTp, .inl (cI, 8, .inl mTp)), (bTt, .inl (cI, 8, .inl mTt)), (bTd, .inl (cI, 8, .inl mTd))]) (va_runV (As := []) (rest := []) ⟨hx, hb, hml, hown, hts⟩ (kX5_begin bM fa np bKk bKs hm nw bWf bWt bWl lw bFo qa qp_ qw_ bRk bRs bRf bRo bRl nt bTp bTt bTd bHd bFn nr bRp bRt bRe bRh bZs bZl bSc bHn tr mHd ) (cwV 0 hts gX5_tellAll_X5_begin rfl rfl rfl hvX5_begin ⟨Nat.le_of_ble_eq_true rfl, Nat.le_of_ble_eq_true rfl⟩) (kpreV hN (q := (RX5, TX5, 35)) (ci := 5) hK (hP.sub [0, 4] rfl) (hD.sub [0, 4] (by decide) rfl) 0 rfl rfl) rfl rfl hl.1 rfl (lv_room (Nat.le_of_ble_eq_true rfl)) dX5_tellAll_1 ⟨Nat.zero_le _, Nat.zero_le _⟩) (fun _ => by simp only [List.map]) hP hD hS hA [0, 4] [1, 2, 3] rfl rfl (by decide) (by decide) (by decide) (fun f_3 H_2 locs hr_1 hP hD hS => ?_)
  have hP : va_P (dC, dI) vwCl [(bTp, .inl (cI, 8, .inl mTp)), (bTt, .inl (cI, 8, .inl mTt)), (bTd, .inl (cI, 8, .inl mTd)), (bM, .inr (5, .int (nI fa) :: .int (nI np) :: .ref bKk :: .ref bKs :: .int (nI hm) :: .int (nI nw) :: .ref bWf :: .ref bWt :: .ref bWl :: .int (nI lw) :: .ref bFo :: .int (nI qa) :: .int (nI qp_) :: .int (nI qw_) :: .ref bRk :: .ref bRs :: .ref bRf :: .ref bRo :: .ref bRl :: .int (nI nt) :: .ref bTp :: .ref bTt :: .ref bTd :: .ref bHd :: .ref bFn :: .int (nI nr) :: .ref bRp :: .ref bRt :: .ref bRe :: .ref bRh :: .ref bZs :: .ref bZl :: .ref bSc :: .ref bHn :: .int tr :: [])), (bHd, .inl (cI, 360, .inl f_3))] H_2 := hP
  have hD : va_D zA [(bTp, .inl (cI, 8, .inl mTp)), (bTt, .inl (cI, 8, .inl mTt)), (bTd, .inl (cI, 8, .inl mTd)), (bM, .inr (5, .int (nI fa) :: .int (nI np) :: .ref bKk :: .ref bKs :: .int (nI hm) :: .int (nI nw) :: .ref bWf :: .ref bWt :: .ref bWl :: .int (nI lw) :: .ref bFo :: .int (nI qa) :: .int (nI qp_) :: .int (nI qw_) :: .ref bRk :: .ref bRs :: .ref bRf :: .ref bRo :: .ref bRl :: .int (nI nt) :: .ref bTp :: .ref bTt :: .ref bTd :: .ref bHd :: .ref bFn :: .int (nI nr) :: .ref bRp :: .ref bRt :: .ref bRe :: .ref bRh :: .ref bZs :: .ref bZl :: .ref bSc :: .ref bHn :: .int tr :: [])), (bHd, .inl (cI, 360, .inl f_3))] := hD
  have hP := hP.sub (ws' := [(bM, .inr (5, .int (nI fa) :: .int (nI np) :: .ref bKk :: .ref bKs :: .int (nI hm) :: .int (nI nw) :: .ref bWf :: .ref bWt :: .ref bWl :: .int (nI lw) :: .ref bFo :: .int (nI qa) :: .int (nI qp_) :: .int (nI qw_) :: .ref bRk :: .ref bRs :: .ref bRf :: .ref bRo :: .ref bRl :: .int (nI nt) :: .ref bTp :: .ref bTt :: .ref bTd :: .ref bHd :: .ref bFn :: .int (nI nr) :: .ref bRp :: .ref bRt :: .ref bRe :: .ref bRh :: .ref bZs :: .ref bZl :: .ref bSc :: .ref bHn :: .int tr :: [])), (bTp, .inl (cI, 8, .inl mTp)), (bTt, .inl (cI, 8, .inl mTt)), (bTd, .inl (cI, 8, .inl mTd)), (bHd, .inl (cI, 360, .inl f_3))]) [3, 0, 1, 2, 4] rfl
  have hD := hD.sub (ws' := [(bM, .inr (5, .int (nI fa) :: .int (nI np) :: .ref bKk :: .ref bKs :: .int (nI hm) :: .int (nI nw) :: .ref bWf :: .ref bWt :: .ref bWl :: .int (nI lw) :: .ref bFo :: .int (nI qa) :: .int (nI qp_) :: .int (nI qw_) :: .ref bRk :: .ref bRs :: .ref bRf :: .ref bRo :: .ref bRl :: .int (nI nt) :: .ref bTp :: .ref bTt :: .ref bTd :: .ref bHd :: .ref bFn :: .int (nI nr) :: .ref bRp :: .ref bRt :: .ref bRe :: .ref bRh :: .ref bZs :: .ref bZl :: .ref bSc :: .ref bHn :: .int tr :: [])), (bTp, .inl (cI, 8, .inl mTp)), (bTt, .inl (cI, 8, .inl mTt)), (bTd, .inl (cI, 8, .inl mTd)), (bHd, .inl (cI, 360, .inl f_3))]) [3, 0, 1, 2, 4] (by decide) rfl
  refine lv_iconst (v := nI 0) hx hb dX5_tellAll_4 (by decide) ?_
  refine lv_istore_n (lv' := [(2, .int (nI 0)), (0, .ref bM), (1, .int wo)]) hx hb dX5_tellAll_5 rfl hl (by decide) rfl (fun ls hl => ?_)
  have loop6 : ∀ (n6 : Nat) (k : Nat) (g : Nat → Int32), (k ≤ nt) → (plantM (tellS tp tt td k wo) g) → (nt - k < n6) → ∀ (H_4 : Heap) (locs : List Loc), va_P (dC, dI) vwCl [(bM, .inr (5, .int (nI fa) :: .int (nI np) :: .ref bKk :: .ref bKs :: .int (nI hm) :: .int (nI nw) :: .ref bWf :: .ref bWt :: .ref bWl :: .int (nI lw) :: .ref bFo :: .int (nI qa) :: .int (nI qp_) :: .int (nI qw_) :: .ref bRk :: .ref bRs :: .ref bRf :: .ref bRo :: .ref bRl :: .int (nI nt) :: .ref bTp :: .ref bTt :: .ref bTd :: .ref bHd :: .ref bFn :: .int (nI nr) :: .ref bRp :: .ref bRt :: .ref bRe :: .ref bRh :: .ref bZs :: .ref bZl :: .ref bSc :: .ref bHn :: .int tr :: [])), (bTp, .inl (cI, 8, .inl mTp)), (bTt, .inl (cI, 8, .inl mTt)), (bTd, .inl (cI, 8, .inl mTd)), (bHd, .inl (cI, 360, .inl g))] H_4 → va_D zA [(bM, .inr (5, .int (nI fa) :: .int (nI np) :: .ref bKk :: .ref bKs :: .int (nI hm) :: .int (nI nw) :: .ref bWf :: .ref bWt :: .ref bWl :: .int (nI lw) :: .ref bFo :: .int (nI qa) :: .int (nI qp_) :: .int (nI qw_) :: .ref bRk :: .ref bRs :: .ref bRf :: .ref bRo :: .ref bRl :: .int (nI nt) :: .ref bTp :: .ref bTt :: .ref bTd :: .ref bHd :: .ref bFn :: .int (nI nr) :: .ref bRp :: .ref bRt :: .ref bRe :: .ref bRh :: .ref bZs :: .ref bZl :: .ref bSc :: .ref bHn :: .int tr :: [])), (bTp, .inl (cI, 8, .inl mTp)), (bTt, .inl (cI, 8, .inl mTt)), (bTd, .inl (cI, 8, .inl mTd)), (bHd, .inl (cI, 360, .inl g))] → va_S zA zs.heap H_4 locs → ∀ (ls : Array Slot), lv_has ls 3 [(0, .ref bM), (1, .int wo), (2, .int (nI k))] → W zp zl ze ({ frames := 2, cells := 0, slots := 0, locals := 47 } : Room) zs zm za zb zt zc H_4 locs 0 0 zQ (F0 zm 6 ls []) := by
    intro n6
    induction n6 with
    | zero => intro k g hk hg hme; exact absurd hme (Nat.not_lt_zero _)
    | succ n6 ih6 =>
      intro k g hk hg hme H_4 locs hP hD hS ls hl
      refine lv_iload_n hx hb dX5_tellAll_6 rfl (lv_at hl 2 rfl) ?_
      refine lv_aload_n hx hb dX5_tellAll_7 rfl (lv_at hl 0 rfl) ?_
      refine va_get (D := (dC, dI)) (ci := 5) (v := .int (nI nt)) (C := RX5) (T := TX5) (N := 35) hx hb hts hinX5 hown hK hP 0 rfl rfl 19 (by decide) lk161 (fun _ h9 => h9) rfl dX5_tellAll_8 ?_
      refine k_icmp_ge (tgt := 48) hx hb dX5_tellAll_11 (by decide) (by omega) (by omega) (fun c11 => ?_) (fun c11 => ?_)
      · refine hret 48 _ g _ _ dX5_tellAll_48 hS (fun t ht _ => by rw [ht]; exact hP) ?_
        have e : k = nt := by omega
        subst e
        exact hg
      · have htk := hta.2 k c11
        refine lv_iload_n hx hb dX5_tellAll_14 rfl (lv_at hl 2 rfl) ?_
        refine lv_iload_n hx hb dX5_tellAll_15 rfl (lv_at hl 1 rfl) ?_
        refine lv_icmp_eq (tgt := 42) hx hb dX5_tellAll_16 (by decide) (fun c16 => ?_) (fun c16 => ?_)
        · refine lv_iinc (v := nI (k + 1)) (lv' := [(2, .int (nI (k + 1))), (0, .ref bM), (1, .int wo)]) hx hb dX5_tellAll_42 hl (k := 2) rfl (nI_add _ _) (by decide) rfl (fun ls hl => ?_)
          refine lv_goto (tgt := 6) hx hb dX5_tellAll_45 (by decide) ?_
          exact ih6 (k + 1) g (by omega) (by exact plantM_cong hg (tellS_no c16)) (by omega) _ _ hP hD hS _ (lv_sub hl [1, 2, 0] rfl)
        · refine lv_aload_n hx hb dX5_tellAll_19 rfl (lv_at hl 0 rfl) ?_
          refine lv_aload_n hx hb dX5_tellAll_20 rfl (lv_at hl 0 rfl) ?_
          refine va_get (D := (dC, dI)) (ci := 5) (v := .ref bTp) (C := RX5) (T := TX5) (N := 35) hx hb hts hinX5 hown hK hP 0 rfl rfl 20 (by decide) lk44 (fun _ h9 => h9) rfl dX5_tellAll_21 ?_
          refine lv_iload_n hx hb dX5_tellAll_24 rfl (lv_at hl 2 rfl) ?_
          refine k_iald hx hb hK hP 1 0 rfl rfl (n := 8) (v := nI (tp k)) (by omega) (by decide) (htk.1.1) dX5_tellAll_25 ?_
          refine lv_aload_n hx hb dX5_tellAll_26 rfl (lv_at hl 0 rfl) ?_
          refine va_get (D := (dC, dI)) (ci := 5) (v := .ref bTt) (C := RX5) (T := TX5) (N := 35) hx hb hts hinX5 hown hK hP 0 rfl rfl 21 (by decide) lk47 (fun _ h9 => h9) rfl dX5_tellAll_27 ?_
          refine lv_iload_n hx hb dX5_tellAll_30 rfl (lv_at hl 2 rfl) ?_
          refine k_iald hx hb hK hP 2 0 rfl rfl (n := 8) (v := nI (tt k)) (by omega) (by decide) (htk.2.1.1) dX5_tellAll_31 ?_
          refine lv_iload_n hx hb dX5_tellAll_32 rfl (lv_at hl 2 rfl) ?_
          refine lv_aload_n hx hb dX5_tellAll_33 rfl (lv_at hl 0 rfl) ?_
          refine va_get (D := (dC, dI)) (ci := 5) (v := .ref bTd) (C := RX5) (T := TX5) (N := 35) hx hb hts hinX5 hown hK hP 0 rfl rfl 22 (by decide) lk50 (fun _ h9 => h9) rfl dX5_tellAll_34 ?_
          refine lv_iload_n hx hb dX5_tellAll_37 rfl (lv_at hl 2 rfl) ?_
          refine k_iald hx hb hK hP 3 0 rfl rfl (n := 8) (v := nI (td k)) (by omega) (by decide) (htk.2.2.1) dX5_tellAll_38 ?_
          refine kc_v (wr := [(bTp, .inl (cI, 8, .inl mTp)), (bTt, .inl (cI, 8, .inl mTt)), (bTd, .inl (cI, 8, .inl mTd))]) (va_runV (As := [.int (nI (tp k)), .int (nI (tt k)), .int (nI k), .int (nI (td k))]) (rest := []) ⟨hx, hb, hml, hown, hts⟩ (kX5_hear bM fa np bKk bKs hm nw bWf bWt bWl lw bFo qa qp_ qw_ bRk bRs bRf bRo bRl nt bTp bTt bTd bHd bFn nr bRp bRt bRe bRh bZs bZl bSc bHn tr g (tp k) (tt k) k (td k) (tellS tp tt td k wo) (by omega) (by omega) (by omega) htk.2.2.2 hg) (cwV 4 hts gX5_tellAll_X5_hear rfl rfl rfl hvX5_hear ⟨Nat.le_of_ble_eq_true rfl, Nat.le_of_ble_eq_true rfl⟩) (kpreV hN (q := (RX5, TX5, 35)) (ci := 5) hK (hP.sub [0, 4] rfl) (hD.sub [0, 4] (by decide) rfl) 0 rfl rfl) rfl rfl hl.1 rfl (lv_room (Nat.le_of_ble_eq_true rfl)) dX5_tellAll_39 ⟨Nat.zero_le _, Nat.zero_le _⟩) (fun _ => by simp only [List.map]) hP hD hS hA [0, 4] [1, 2, 3] rfl rfl (by decide) (by decide) (by decide) (fun f_7 H_6 locs hr_5 hP hD hS => ?_)
          have hP : va_P (dC, dI) vwCl [(bTp, .inl (cI, 8, .inl mTp)), (bTt, .inl (cI, 8, .inl mTt)), (bTd, .inl (cI, 8, .inl mTd)), (bM, .inr (5, .int (nI fa) :: .int (nI np) :: .ref bKk :: .ref bKs :: .int (nI hm) :: .int (nI nw) :: .ref bWf :: .ref bWt :: .ref bWl :: .int (nI lw) :: .ref bFo :: .int (nI qa) :: .int (nI qp_) :: .int (nI qw_) :: .ref bRk :: .ref bRs :: .ref bRf :: .ref bRo :: .ref bRl :: .int (nI nt) :: .ref bTp :: .ref bTt :: .ref bTd :: .ref bHd :: .ref bFn :: .int (nI nr) :: .ref bRp :: .ref bRt :: .ref bRe :: .ref bRh :: .ref bZs :: .ref bZl :: .ref bSc :: .ref bHn :: .int tr :: [])), (bHd, .inl (cI, 360, .inl f_7))] H_6 := hP
          have hD : va_D zA [(bTp, .inl (cI, 8, .inl mTp)), (bTt, .inl (cI, 8, .inl mTt)), (bTd, .inl (cI, 8, .inl mTd)), (bM, .inr (5, .int (nI fa) :: .int (nI np) :: .ref bKk :: .ref bKs :: .int (nI hm) :: .int (nI nw) :: .ref bWf :: .ref bWt :: .ref bWl :: .int (nI lw) :: .ref bFo :: .int (nI qa) :: .int (nI qp_) :: .int (nI qw_) :: .ref bRk :: .ref bRs :: .ref bRf :: .ref bRo :: .ref bRl :: .int (nI nt) :: .ref bTp :: .ref bTt :: .ref bTd :: .ref bHd :: .ref bFn :: .int (nI nr) :: .ref bRp :: .ref bRt :: .ref bRe :: .ref bRh :: .ref bZs :: .ref bZl :: .ref bSc :: .ref bHn :: .int tr :: [])), (bHd, .inl (cI, 360, .inl f_7))] := hD
          have hP := hP.sub (ws' := [(bM, .inr (5, .int (nI fa) :: .int (nI np) :: .ref bKk :: .ref bKs :: .int (nI hm) :: .int (nI nw) :: .ref bWf :: .ref bWt :: .ref bWl :: .int (nI lw) :: .ref bFo :: .int (nI qa) :: .int (nI qp_) :: .int (nI qw_) :: .ref bRk :: .ref bRs :: .ref bRf :: .ref bRo :: .ref bRl :: .int (nI nt) :: .ref bTp :: .ref bTt :: .ref bTd :: .ref bHd :: .ref bFn :: .int (nI nr) :: .ref bRp :: .ref bRt :: .ref bRe :: .ref bRh :: .ref bZs :: .ref bZl :: .ref bSc :: .ref bHn :: .int tr :: [])), (bTp, .inl (cI, 8, .inl mTp)), (bTt, .inl (cI, 8, .inl mTt)), (bTd, .inl (cI, 8, .inl mTd)), (bHd, .inl (cI, 360, .inl f_7))]) [3, 0, 1, 2, 4] rfl
          have hD := hD.sub (ws' := [(bM, .inr (5, .int (nI fa) :: .int (nI np) :: .ref bKk :: .ref bKs :: .int (nI hm) :: .int (nI nw) :: .ref bWf :: .ref bWt :: .ref bWl :: .int (nI lw) :: .ref bFo :: .int (nI qa) :: .int (nI qp_) :: .int (nI qw_) :: .ref bRk :: .ref bRs :: .ref bRf :: .ref bRo :: .ref bRl :: .int (nI nt) :: .ref bTp :: .ref bTt :: .ref bTd :: .ref bHd :: .ref bFn :: .int (nI nr) :: .ref bRp :: .ref bRt :: .ref bRe :: .ref bRh :: .ref bZs :: .ref bZl :: .ref bSc :: .ref bHn :: .int tr :: [])), (bTp, .inl (cI, 8, .inl mTp)), (bTt, .inl (cI, 8, .inl mTt)), (bTd, .inl (cI, 8, .inl mTd)), (bHd, .inl (cI, 360, .inl f_7))]) [3, 0, 1, 2, 4] (by decide) rfl
          refine lv_iinc (v := nI (k + 1)) (lv' := [(2, .int (nI (k + 1))), (0, .ref bM), (1, .int wo)]) hx hb dX5_tellAll_42 hl (k := 2) rfl (nI_add _ _) (by decide) rfl (fun ls hl => ?_)
          refine lv_goto (tgt := 6) hx hb dX5_tellAll_45 (by decide) ?_
          exact ih6 (k + 1) f_7 (by omega) (by exact plantM_cong hr_5 (tellS_yes c16)) (by omega) _ _ hP hD hS _ (lv_sub hl [1, 2, 0] rfl)
  exact loop6 ((nt - 0) + 1) 0 f_3 (by omega) (by exact plantM_cong (plantM_0 hr_1) (tellS_0 tp tt td wo)) (by exact Nat.lt_succ_self _) _ _ hP hD hS _ (lv_sub hl [1, 2, 0] rfl)

set_option maxHeartbeats 800000 in
set_option maxRecDepth 100000 in
theorem kX5_go {zl : Launch} {dC : Nat → ClassId} {dI : Nat → Nat → Nat} {cI cJ cZ cS : ClassId} {sz : Nat} (bM : Nat) (fa : Nat) (np : Nat) (bKk : Nat) (bKs : Nat) (hm : Nat) (nw : Nat) (bWf : Nat) (bWt : Nat) (bWl : Nat) (lw : Nat) (bFo : Nat) (qa : Nat) (qp_ : Nat) (qw_ : Nat) (bRk : Nat) (bRs : Nat) (bRf : Nat) (bRo : Nat) (bRl : Nat) (nt : Nat) (bTp : Nat) (bTt : Nat) (bTd : Nat) (bHd : Nat) (bFn : Nat) (nr : Nat) (bRp : Nat) (bRt : Nat) (bRe : Nat) (bRh : Nat) (bZs : Nat) (bZl : Nat) (bSc : Nat) (bHn : Nat) (tr : Int32) (mKk : Nat → Int32) (mWf : Nat → Int32) (mWt : Nat → Int32) (mWl : Nat → Int32) (mTp : Nat → Int32) (mTt : Nat → Int32) (mTd : Nat → Int32) (mHd : Nat → Int32) (kd : Nat → Nat) (wf : Nat → Nat) (wt : Nat → Nat) (wd : Nat → Nat) (tp : Nat → Nat) (tt : Nat → Nat) (td : Nat → Nat) (hw : waysOk np nw wf wt wd kd) (hpA : pplA np nw kd wf wt wd mKk mWf mWt mWl) (hhm : hm < 64) (hta : tellA np nt tp tt td mTp mTt mTd) : Met zl yX5_go wsX5_go ({ frames := 3, cells := 0, slots := 0, locals := 73 } : Room) (va_Pc [.ref bM] (kPre (dC, dI) (kT cI cJ cZ cS) [(bM, .inr (5, .int (nI fa) :: .int (nI np) :: .ref bKk :: .ref bKs :: .int (nI hm) :: .int (nI nw) :: .ref bWf :: .ref bWt :: .ref bWl :: .int (nI lw) :: .ref bFo :: .int (nI qa) :: .int (nI qp_) :: .int (nI qw_) :: .ref bRk :: .ref bRs :: .ref bRf :: .ref bRo :: .ref bRl :: .int (nI nt) :: .ref bTp :: .ref bTt :: .ref bTd :: .ref bHd :: .ref bFn :: .int (nI nr) :: .ref bRp :: .ref bRt :: .ref bRe :: .ref bRh :: .ref bZs :: .ref bZl :: .ref bSc :: .ref bHn :: .int tr :: [])), (bKk, .inl (cI, 6, .inl mKk)), (bWf, .inl (cI, 9, .inl mWf)), (bWt, .inl (cI, 9, .inl mWt)), (bWl, .inl (cI, 9, .inl mWl)), (bTp, .inl (cI, 8, .inl mTp)), (bTt, .inl (cI, 8, .inl mTt)), (bTd, .inl (cI, 8, .inl mTd)), (bHd, .inl (cI, 360, .inl mHd))] sz)) (va_Qv (fun (f1 : (Nat → Int32)) => finR (hrd nw wf wt wd kd (actW hm (-1) wf) (tellS tp tt td nt (-1))) f1) (fun (f1 : (Nat → Int32)) (zU : State) => va_P (dC, dI) vwCl [(bM, .inr (5, .int (nI fa) :: .int (nI np) :: .ref bKk :: .ref bKs :: .int (nI hm) :: .int (nI nw) :: .ref bWf :: .ref bWt :: .ref bWl :: .int (nI lw) :: .ref bFo :: .int (nI qa) :: .int (nI qp_) :: .int (nI qw_) :: .ref bRk :: .ref bRs :: .ref bRf :: .ref bRo :: .ref bRl :: .int (nI nt) :: .ref bTp :: .ref bTt :: .ref bTd :: .ref bHd :: .ref bFn :: .int (nI nr) :: .ref bRp :: .ref bRt :: .ref bRe :: .ref bRh :: .ref bZs :: .ref bZl :: .ref bSc :: .ref bHn :: .int tr :: [])), (bKk, .inl (cI, 6, .inl mKk)), (bWf, .inl (cI, 9, .inl mWf)), (bWt, .inl (cI, 9, .inl mWt)), (bWl, .inl (cI, 9, .inl mWl)), (bTp, .inl (cI, 8, .inl mTp)), (bTt, .inl (cI, 8, .inl mTt)), (bTd, .inl (cI, 8, .inl mTd)), (bHd, .inl (cI, 360, .inl f1))] zU.heap) (va_A [(bM, .inr (5, .int (nI fa) :: .int (nI np) :: .ref bKk :: .ref bKs :: .int (nI hm) :: .int (nI nw) :: .ref bWf :: .ref bWt :: .ref bWl :: .int (nI lw) :: .ref bFo :: .int (nI qa) :: .int (nI qp_) :: .int (nI qw_) :: .ref bRk :: .ref bRs :: .ref bRf :: .ref bRo :: .ref bRl :: .int (nI nt) :: .ref bTp :: .ref bTt :: .ref bTd :: .ref bHd :: .ref bFn :: .int (nI nr) :: .ref bRp :: .ref bRt :: .ref bRe :: .ref bRh :: .ref bZs :: .ref bZl :: .ref bSc :: .ref bHn :: .int tr :: [])), (bKk, .inl (cI, 6, .inl mKk)), (bWf, .inl (cI, 9, .inl mWf)), (bWt, .inl (cI, 9, .inl mWt)), (bWl, .inl (cI, 9, .inl mWl)), (bTp, .inl (cI, 8, .inl mTp)), (bTt, .inl (cI, 8, .inl mTt)), (bTd, .inl (cI, 8, .inl mTd)), (bHd, .inl (cI, 360, .inl mHd))] sz)) 0 0 (va_A [(bM, .inr (5, .int (nI fa) :: .int (nI np) :: .ref bKk :: .ref bKs :: .int (nI hm) :: .int (nI nw) :: .ref bWf :: .ref bWt :: .ref bWl :: .int (nI lw) :: .ref bFo :: .int (nI qa) :: .int (nI qp_) :: .int (nI qw_) :: .ref bRk :: .ref bRs :: .ref bRf :: .ref bRo :: .ref bRl :: .int (nI nt) :: .ref bTp :: .ref bTt :: .ref bTd :: .ref bHd :: .ref bFn :: .int (nI nr) :: .ref bRp :: .ref bRt :: .ref bRe :: .ref bRh :: .ref bZs :: .ref bZl :: .ref bSc :: .ref bHn :: .int tr :: [])), (bKk, .inl (cI, 6, .inl mKk)), (bWf, .inl (cI, 9, .inl mWf)), (bWt, .inl (cI, 9, .inl mWt)), (bWl, .inl (cI, 9, .inl mWl)), (bTp, .inl (cI, 8, .inl mTp)), (bTt, .inl (cI, 8, .inl mTt)), (bTd, .inl (cI, 8, .inl mTd)), (bHd, .inl (cI, 360, .inl mHd))] sz) := by
  refine kstartW_v (cc := cX5_go) (maxL := 1) rfl rfl (Nat.le_of_ble_eq_true rfl) ?_
  intro zp ze zs zm zb zt zc za zQ zA hx hb hml hts hown hN hK hP hD hS hA zin hret ls hl
  have hl : lv_has ls 1 [(0, .ref bM)] := hl
  refine lv_aload_n hx hb dX5_go_0 rfl (lv_at hl 0 rfl) ?_
  refine lv_bipush (v := (-9)) hx hb dX5_go_1 (by decide) ?_
  refine kc_v (wr := [(bKk, .inl (cI, 6, .inl mKk)), (bWf, .inl (cI, 9, .inl mWf)), (bWt, .inl (cI, 9, .inl mWt)), (bWl, .inl (cI, 9, .inl mWl))]) (va_runV (As := [.int (-9)]) (rest := []) ⟨hx, hb, hml, hown, hts⟩ (kX5_tellAll bM fa np bKk bKs hm nw bWf bWt bWl lw bFo qa qp_ qw_ bRk bRs bRf bRo bRl nt bTp bTt bTd bHd bFn nr bRp bRt bRe bRh bZs bZl bSc bHn tr mTp mTt mTd mHd tp tt td (-9) hw.1 hta) (cwV 1 hts gX5_go_X5_tellAll rfl rfl rfl hvX5_tellAll ⟨Nat.le_of_ble_eq_true rfl, Nat.le_of_ble_eq_true rfl⟩) (kpreV hN (q := (RX5, TX5, 35)) (ci := 5) hK (hP.sub [0, 5, 6, 7, 8] rfl) (hD.sub [0, 5, 6, 7, 8] (by decide) rfl) 0 rfl rfl) rfl rfl hl.1 rfl (lv_room (Nat.le_of_ble_eq_true rfl)) dX5_go_3 ⟨Nat.zero_le _, Nat.zero_le _⟩) (fun _ => by simp only [List.map]) hP hD hS hA [0, 5, 6, 7, 8] [1, 2, 3, 4] rfl rfl (by decide) (by decide) (by decide) (fun f_3 H_2 locs hr_1 hP hD hS => ?_)
  have hP : va_P (dC, dI) vwCl [(bKk, .inl (cI, 6, .inl mKk)), (bWf, .inl (cI, 9, .inl mWf)), (bWt, .inl (cI, 9, .inl mWt)), (bWl, .inl (cI, 9, .inl mWl)), (bM, .inr (5, .int (nI fa) :: .int (nI np) :: .ref bKk :: .ref bKs :: .int (nI hm) :: .int (nI nw) :: .ref bWf :: .ref bWt :: .ref bWl :: .int (nI lw) :: .ref bFo :: .int (nI qa) :: .int (nI qp_) :: .int (nI qw_) :: .ref bRk :: .ref bRs :: .ref bRf :: .ref bRo :: .ref bRl :: .int (nI nt) :: .ref bTp :: .ref bTt :: .ref bTd :: .ref bHd :: .ref bFn :: .int (nI nr) :: .ref bRp :: .ref bRt :: .ref bRe :: .ref bRh :: .ref bZs :: .ref bZl :: .ref bSc :: .ref bHn :: .int tr :: [])), (bTp, .inl (cI, 8, .inl mTp)), (bTt, .inl (cI, 8, .inl mTt)), (bTd, .inl (cI, 8, .inl mTd)), (bHd, .inl (cI, 360, .inl f_3))] H_2 := hP
  have hD : va_D zA [(bKk, .inl (cI, 6, .inl mKk)), (bWf, .inl (cI, 9, .inl mWf)), (bWt, .inl (cI, 9, .inl mWt)), (bWl, .inl (cI, 9, .inl mWl)), (bM, .inr (5, .int (nI fa) :: .int (nI np) :: .ref bKk :: .ref bKs :: .int (nI hm) :: .int (nI nw) :: .ref bWf :: .ref bWt :: .ref bWl :: .int (nI lw) :: .ref bFo :: .int (nI qa) :: .int (nI qp_) :: .int (nI qw_) :: .ref bRk :: .ref bRs :: .ref bRf :: .ref bRo :: .ref bRl :: .int (nI nt) :: .ref bTp :: .ref bTt :: .ref bTd :: .ref bHd :: .ref bFn :: .int (nI nr) :: .ref bRp :: .ref bRt :: .ref bRe :: .ref bRh :: .ref bZs :: .ref bZl :: .ref bSc :: .ref bHn :: .int tr :: [])), (bTp, .inl (cI, 8, .inl mTp)), (bTt, .inl (cI, 8, .inl mTt)), (bTd, .inl (cI, 8, .inl mTd)), (bHd, .inl (cI, 360, .inl f_3))] := hD
  have hP := hP.sub (ws' := [(bM, .inr (5, .int (nI fa) :: .int (nI np) :: .ref bKk :: .ref bKs :: .int (nI hm) :: .int (nI nw) :: .ref bWf :: .ref bWt :: .ref bWl :: .int (nI lw) :: .ref bFo :: .int (nI qa) :: .int (nI qp_) :: .int (nI qw_) :: .ref bRk :: .ref bRs :: .ref bRf :: .ref bRo :: .ref bRl :: .int (nI nt) :: .ref bTp :: .ref bTt :: .ref bTd :: .ref bHd :: .ref bFn :: .int (nI nr) :: .ref bRp :: .ref bRt :: .ref bRe :: .ref bRh :: .ref bZs :: .ref bZl :: .ref bSc :: .ref bHn :: .int tr :: [])), (bKk, .inl (cI, 6, .inl mKk)), (bWf, .inl (cI, 9, .inl mWf)), (bWt, .inl (cI, 9, .inl mWt)), (bWl, .inl (cI, 9, .inl mWl)), (bTp, .inl (cI, 8, .inl mTp)), (bTt, .inl (cI, 8, .inl mTt)), (bTd, .inl (cI, 8, .inl mTd)), (bHd, .inl (cI, 360, .inl f_3))]) [4, 0, 1, 2, 3, 5, 6, 7, 8] rfl
  have hD := hD.sub (ws' := [(bM, .inr (5, .int (nI fa) :: .int (nI np) :: .ref bKk :: .ref bKs :: .int (nI hm) :: .int (nI nw) :: .ref bWf :: .ref bWt :: .ref bWl :: .int (nI lw) :: .ref bFo :: .int (nI qa) :: .int (nI qp_) :: .int (nI qw_) :: .ref bRk :: .ref bRs :: .ref bRf :: .ref bRo :: .ref bRl :: .int (nI nt) :: .ref bTp :: .ref bTt :: .ref bTd :: .ref bHd :: .ref bFn :: .int (nI nr) :: .ref bRp :: .ref bRt :: .ref bRe :: .ref bRh :: .ref bZs :: .ref bZl :: .ref bSc :: .ref bHn :: .int tr :: [])), (bKk, .inl (cI, 6, .inl mKk)), (bWf, .inl (cI, 9, .inl mWf)), (bWt, .inl (cI, 9, .inl mWt)), (bWl, .inl (cI, 9, .inl mWl)), (bTp, .inl (cI, 8, .inl mTp)), (bTt, .inl (cI, 8, .inl mTt)), (bTd, .inl (cI, 8, .inl mTd)), (bHd, .inl (cI, 360, .inl f_3))]) [4, 0, 1, 2, 3, 5, 6, 7, 8] (by decide) rfl
  refine lv_aload_n hx hb dX5_go_6 rfl (lv_at hl 0 rfl) ?_
  refine lv_bipush (v := (-9)) hx hb dX5_go_7 (by decide) ?_
  refine kc_v (wr := [(bTp, .inl (cI, 8, .inl mTp)), (bTt, .inl (cI, 8, .inl mTt)), (bTd, .inl (cI, 8, .inl mTd))]) (va_runV (As := [.int (-9)]) (rest := []) ⟨hx, hb, hml, hown, hts⟩ (kX5_spread bM fa np bKk bKs hm nw bWf bWt bWl lw bFo qa qp_ qw_ bRk bRs bRf bRo bRl nt bTp bTt bTd bHd bFn nr bRp bRt bRe bRh bZs bZl bSc bHn tr mKk mWf mWt mWl f_3 kd wf wt wd (-9) (tellS tp tt td nt (-9)) hw hpA hhm hr_1) (cwV 1 hts gX5_go_X5_spread rfl rfl rfl hvX5_spread ⟨Nat.le_of_ble_eq_true rfl, Nat.le_of_ble_eq_true rfl⟩) (kpreV hN (q := (RX5, TX5, 35)) (ci := 5) hK (hP.sub [0, 1, 2, 3, 4, 8] rfl) (hD.sub [0, 1, 2, 3, 4, 8] (by decide) rfl) 0 rfl rfl) rfl rfl hl.1 rfl (lv_room (Nat.le_of_ble_eq_true rfl)) dX5_go_9 ⟨Nat.zero_le _, Nat.zero_le _⟩) (fun _ => by simp only [List.map]) hP hD hS hA [0, 1, 2, 3, 4, 8] [5, 6, 7] rfl rfl (by decide) (by decide) (by decide) (fun f_6 H_5 locs hr_4 hP hD hS => ?_)
  have hP : va_P (dC, dI) vwCl [(bTp, .inl (cI, 8, .inl mTp)), (bTt, .inl (cI, 8, .inl mTt)), (bTd, .inl (cI, 8, .inl mTd)), (bM, .inr (5, .int (nI fa) :: .int (nI np) :: .ref bKk :: .ref bKs :: .int (nI hm) :: .int (nI nw) :: .ref bWf :: .ref bWt :: .ref bWl :: .int (nI lw) :: .ref bFo :: .int (nI qa) :: .int (nI qp_) :: .int (nI qw_) :: .ref bRk :: .ref bRs :: .ref bRf :: .ref bRo :: .ref bRl :: .int (nI nt) :: .ref bTp :: .ref bTt :: .ref bTd :: .ref bHd :: .ref bFn :: .int (nI nr) :: .ref bRp :: .ref bRt :: .ref bRe :: .ref bRh :: .ref bZs :: .ref bZl :: .ref bSc :: .ref bHn :: .int tr :: [])), (bKk, .inl (cI, 6, .inl mKk)), (bWf, .inl (cI, 9, .inl mWf)), (bWt, .inl (cI, 9, .inl mWt)), (bWl, .inl (cI, 9, .inl mWl)), (bHd, .inl (cI, 360, .inl f_6))] H_5 := hP
  have hD : va_D zA [(bTp, .inl (cI, 8, .inl mTp)), (bTt, .inl (cI, 8, .inl mTt)), (bTd, .inl (cI, 8, .inl mTd)), (bM, .inr (5, .int (nI fa) :: .int (nI np) :: .ref bKk :: .ref bKs :: .int (nI hm) :: .int (nI nw) :: .ref bWf :: .ref bWt :: .ref bWl :: .int (nI lw) :: .ref bFo :: .int (nI qa) :: .int (nI qp_) :: .int (nI qw_) :: .ref bRk :: .ref bRs :: .ref bRf :: .ref bRo :: .ref bRl :: .int (nI nt) :: .ref bTp :: .ref bTt :: .ref bTd :: .ref bHd :: .ref bFn :: .int (nI nr) :: .ref bRp :: .ref bRt :: .ref bRe :: .ref bRh :: .ref bZs :: .ref bZl :: .ref bSc :: .ref bHn :: .int tr :: [])), (bKk, .inl (cI, 6, .inl mKk)), (bWf, .inl (cI, 9, .inl mWf)), (bWt, .inl (cI, 9, .inl mWt)), (bWl, .inl (cI, 9, .inl mWl)), (bHd, .inl (cI, 360, .inl f_6))] := hD
  have hP := hP.sub (ws' := [(bM, .inr (5, .int (nI fa) :: .int (nI np) :: .ref bKk :: .ref bKs :: .int (nI hm) :: .int (nI nw) :: .ref bWf :: .ref bWt :: .ref bWl :: .int (nI lw) :: .ref bFo :: .int (nI qa) :: .int (nI qp_) :: .int (nI qw_) :: .ref bRk :: .ref bRs :: .ref bRf :: .ref bRo :: .ref bRl :: .int (nI nt) :: .ref bTp :: .ref bTt :: .ref bTd :: .ref bHd :: .ref bFn :: .int (nI nr) :: .ref bRp :: .ref bRt :: .ref bRe :: .ref bRh :: .ref bZs :: .ref bZl :: .ref bSc :: .ref bHn :: .int tr :: [])), (bKk, .inl (cI, 6, .inl mKk)), (bWf, .inl (cI, 9, .inl mWf)), (bWt, .inl (cI, 9, .inl mWt)), (bWl, .inl (cI, 9, .inl mWl)), (bTp, .inl (cI, 8, .inl mTp)), (bTt, .inl (cI, 8, .inl mTt)), (bTd, .inl (cI, 8, .inl mTd)), (bHd, .inl (cI, 360, .inl f_6))]) [3, 4, 5, 6, 7, 0, 1, 2, 8] rfl
  have hD := hD.sub (ws' := [(bM, .inr (5, .int (nI fa) :: .int (nI np) :: .ref bKk :: .ref bKs :: .int (nI hm) :: .int (nI nw) :: .ref bWf :: .ref bWt :: .ref bWl :: .int (nI lw) :: .ref bFo :: .int (nI qa) :: .int (nI qp_) :: .int (nI qw_) :: .ref bRk :: .ref bRs :: .ref bRf :: .ref bRo :: .ref bRl :: .int (nI nt) :: .ref bTp :: .ref bTt :: .ref bTd :: .ref bHd :: .ref bFn :: .int (nI nr) :: .ref bRp :: .ref bRt :: .ref bRe :: .ref bRh :: .ref bZs :: .ref bZl :: .ref bSc :: .ref bHn :: .int tr :: [])), (bKk, .inl (cI, 6, .inl mKk)), (bWf, .inl (cI, 9, .inl mWf)), (bWt, .inl (cI, 9, .inl mWt)), (bWl, .inl (cI, 9, .inl mWl)), (bTp, .inl (cI, 8, .inl mTp)), (bTt, .inl (cI, 8, .inl mTt)), (bTd, .inl (cI, 8, .inl mTd)), (bHd, .inl (cI, 360, .inl f_6))]) [3, 4, 5, 6, 7, 0, 1, 2, 8] (by decide) rfl
  refine hret 12 _ f_6 _ _ dX5_go_12 hS (fun t ht _ => by rw [ht]; exact hP) ?_
  exact fin_9 hw.2.1 hta.1 hr_4

set_option maxHeartbeats 800000 in
set_option maxRecDepth 100000 in
theorem kX5_countOf {zl : Launch} {dC : Nat → ClassId} {dI : Nat → Nat → Nat} {cI cJ cZ cS : ClassId} (bM : Nat) (fa : Nat) (np : Nat) (bKk : Nat) (bKs : Nat) (hm : Nat) (nw : Nat) (bWf : Nat) (bWt : Nat) (bWl : Nat) (lw : Nat) (bFo : Nat) (qa : Nat) (qp_ : Nat) (qw_ : Nat) (bRk : Nat) (bRs : Nat) (bRf : Nat) (bRo : Nat) (bRl : Nat) (nt : Nat) (bTp : Nat) (bTt : Nat) (bTd : Nat) (bHd : Nat) (bFn : Nat) (nr : Nat) (bRp : Nat) (bRt : Nat) (bRe : Nat) (bRh : Nat) (bZs : Nat) (bZl : Nat) (bSc : Nat) (bHn : Nat) (tr : Int32) (mHd : Nat → Int32) (H : Nat → Nat → Nat → Prop) (q : Nat) (t : Nat) (d : Nat) (hT : finR H mHd) (hq : q < 6) (ht : t < 4) (hd : d < 60) : Met zl yX5_countOf wsX5_countOf ({ frames := 1, cells := 0, slots := 0, locals := 22 } : Room) (va_Pc [.ref bM, .int (nI q), .int (nI t), .int (nI d)] (rPre (dC, dI) (kT cI cJ cZ cS) [(bM, .inr (5, .int (nI fa) :: .int (nI np) :: .ref bKk :: .ref bKs :: .int (nI hm) :: .int (nI nw) :: .ref bWf :: .ref bWt :: .ref bWl :: .int (nI lw) :: .ref bFo :: .int (nI qa) :: .int (nI qp_) :: .int (nI qw_) :: .ref bRk :: .ref bRs :: .ref bRf :: .ref bRo :: .ref bRl :: .int (nI nt) :: .ref bTp :: .ref bTt :: .ref bTd :: .ref bHd :: .ref bFn :: .int (nI nr) :: .ref bRp :: .ref bRt :: .ref bRe :: .ref bRh :: .ref bZs :: .ref bZl :: .ref bSc :: .ref bHn :: .int tr :: [])), (bHd, .inl (cI, 360, .inl mHd))])) (vp_Si (fun r : Int32 => r = nI (cntH H d q t))) 0 0 (fun _ => False) := by
  refine kstartR_i (cc := cX5_countOf) (maxL := 6) rfl rfl (Nat.le_of_ble_eq_true rfl) ?_
  intro zp ze zs zm zb zt zc za zQ hx hb hml hts hown hN hK hP hret ls hl
  have hl : lv_has ls 6 [(0, .ref bM), (1, .int (nI q)), (2, .int (nI t)), (3, .int (nI d))] := hl
  obtain ⟨g, hgf, hgF⟩ := hT
  have hinX5 : ∀ w ∈ wsX50, w ∈ wsX5_countOf := fun _ h => List.mem_cons_of_mem _ (List.mem_append_right _ h)
  have lk53 := hts (.fieldLink RX5 53 "IronRumoursModel" "heard" "[I") (List.mem_of_getElem? (i := 1) rfl)
  refine lv_iconst (v := nI 0) hx hb dX5_countOf_0 (by decide) ?_
  refine lv_istore (lv' := [(4, .int (nI 0)), (0, .ref bM), (1, .int (nI q)), (2, .int (nI t)), (3, .int (nI d))]) hx hb dX5_countOf_1 hl (by decide) rfl (fun ls hl => ?_)
  refine lv_iconst (v := nI 0) hx hb dX5_countOf_3 (by decide) ?_
  refine lv_istore (lv' := [(5, .int (nI 0)), (4, .int (nI 0)), (0, .ref bM), (1, .int (nI q)), (2, .int (nI t)), (3, .int (nI d))]) hx hb dX5_countOf_4 hl (by decide) rfl (fun ls hl => ?_)
  have loop6 : ∀ (n6 : Nat) (o : Nat), (o ≤ 15) → (15 - o < n6) → ∀ (ls : Array Slot), lv_has ls 6 [(0, .ref bM), (1, .int (nI q)), (2, .int (nI t)), (3, .int (nI d)), (4, .int (nI (fb_ct (fun o => pB (H d q (t * 15 + o))) o))), (5, .int (nI o))] → W zp zl ze ({ frames := 1, cells := 0, slots := 0, locals := 22 } : Room) zs zm za zb zt zc zs.heap [] 0 0 zQ (F0 zm 6 ls []) := by
    intro n6
    induction n6 with
    | zero => intro o ho hme; exact absurd hme (Nat.not_lt_zero _)
    | succ n6 ih6 =>
      intro o ho hme ls hl
      refine lv_iload hx hb dX5_countOf_6 (lv_at hl 5 rfl) ?_
      refine lv_bipush (v := nI 15) hx hb dX5_countOf_8 (by decide) ?_
      refine k_icmp_ge (tgt := 45) hx hb dX5_countOf_10 (by decide) (by omega) (by omega) (fun c10 => ?_) (fun c10 => ?_)
      · refine lv_iload hx hb dX5_countOf_45 (lv_at hl 4 rfl) ?_
        refine hret 47 _ (nI (fb_ct (fun o => pB (H d q (t * 15 + o))) o)) dX5_countOf_47 ?_
        have e : o = 15 := by omega
        subst e
        rfl
      · refine lv_iload hx hb dX5_countOf_13 (lv_at hl 4 rfl) ?_
        refine lv_aload_n hx hb dX5_countOf_15 rfl (lv_at hl 0 rfl) ?_
        refine va_get (D := (dC, dI)) (ci := 5) (v := .ref bHd) (C := RX5) (T := TX5) (N := 35) hx hb hts hinX5 hown hK hP 0 rfl rfl 23 (by decide) lk53 (fun _ h9 => h9) rfl dX5_countOf_16 ?_
        refine lv_iload_n hx hb dX5_countOf_19 rfl (lv_at hl 1 rfl) ?_
        refine lv_iload_n hx hb dX5_countOf_20 rfl (lv_at hl 2 rfl) ?_
        refine lv_iload hx hb dX5_countOf_21 (lv_at hl 5 rfl) ?_
        refine rc_i (va_runS (As := [.int (nI q), .int (nI t), .int (nI o)]) (rest := [.ref bHd, .int (nI (fb_ct (fun o => pB (H d q (t * 15 + o))) o))]) ⟨hx, hb, hml, hown, hts⟩ (kX5_placeOf q t o ) (va_cwS 3 hts gX5_countOf_X5_placeOf rfl rfl rfl hvX5_placeOf ⟨Nat.le_of_ble_eq_true rfl, Nat.le_of_ble_eq_true rfl⟩) (rpreS hN hK (hP.sub [] rfl)) rfl rfl hl.1 rfl (lv_room (Nat.le_of_ble_eq_true rfl)) dX5_countOf_23 ⟨Nat.zero_le _, Nat.zero_le _⟩) (fun r_1 hr_1 => ?_)
        have hr_1 : r_1 = nI (15 * (4 * q + t) + o) := hr_1
        rw [hr_1]
        refine k_iald hx hb hK hP 1 0 rfl rfl (n := 360) (v := nI (g (60 * q + (t * 15 + o)))) (by omega) (by decide) (ldx hgf (by omega) (by omega)) dX5_countOf_26 ?_
        have hgl := hd_lt hgF.1 (show 60 * q + (t * 15 + o) < 360 by omega)
        refine lv_iload_n hx hb dX5_countOf_27 rfl (lv_at hl 3 rfl) ?_
        refine k_icmp_gt (tgt := 35) hx hb dX5_countOf_28 (by decide) (by omega) (by omega) (fun c28 => ?_) (fun c28 => ?_)
        · refine lv_iconst (v := nI 0) hx hb dX5_countOf_35 (by decide) ?_
          refine k_iadd hx hb dX5_countOf_36 ?_
          refine lv_istore (lv' := [(4, .int (nI ((fb_ct (fun o => pB (H d q (t * 15 + o))) o) + 0))), (0, .ref bM), (1, .int (nI q)), (2, .int (nI t)), (3, .int (nI d)), (5, .int (nI o))]) hx hb dX5_countOf_37 hl (by decide) rfl (fun ls hl => ?_)
          refine lv_iinc (v := nI (o + 1)) (lv' := [(5, .int (nI (o + 1))), (4, .int (nI ((fb_ct (fun o => pB (H d q (t * 15 + o))) o) + 0))), (0, .ref bM), (1, .int (nI q)), (2, .int (nI t)), (3, .int (nI d))]) hx hb dX5_countOf_39 hl (k := 5) rfl (nI_add _ _) (by decide) rfl (fun ls hl => ?_)
          refine lv_goto (tgt := 6) hx hb dX5_countOf_42 (by decide) ?_
          have h7 := fin_cnt hgF (show d ≤ 59 by omega) hq ht (show o < 15 by omega)
          rw [Nat.add_zero, ct_n (P := fun o => pB (H d q (t * 15 + o))) (h7.symm.trans (decide_eq_false (Nat.not_le.mpr c28)))] at hl
          exact ih6 (o + 1) (by omega) (by omega) _ (lv_sub hl [2, 3, 4, 5, 1, 0] rfl)
        · refine lv_iconst (v := nI 1) hx hb dX5_countOf_31 (by decide) ?_
          refine lv_goto (tgt := 36) hx hb dX5_countOf_32 (by decide) ?_
          refine k_iadd hx hb dX5_countOf_36 ?_
          refine lv_istore (lv' := [(4, .int (nI ((fb_ct (fun o => pB (H d q (t * 15 + o))) o) + 1))), (0, .ref bM), (1, .int (nI q)), (2, .int (nI t)), (3, .int (nI d)), (5, .int (nI o))]) hx hb dX5_countOf_37 hl (by decide) rfl (fun ls hl => ?_)
          refine lv_iinc (v := nI (o + 1)) (lv' := [(5, .int (nI (o + 1))), (4, .int (nI ((fb_ct (fun o => pB (H d q (t * 15 + o))) o) + 1))), (0, .ref bM), (1, .int (nI q)), (2, .int (nI t)), (3, .int (nI d))]) hx hb dX5_countOf_39 hl (k := 5) rfl (nI_add _ _) (by decide) rfl (fun ls hl => ?_)
          refine lv_goto (tgt := 6) hx hb dX5_countOf_42 (by decide) ?_
          have h7 := fin_cnt hgF (show d ≤ 59 by omega) hq ht (show o < 15 by omega)
          rw [ct_y (P := fun o => pB (H d q (t * 15 + o))) (h7.symm.trans (decide_eq_true c28))] at hl
          exact ih6 (o + 1) (by omega) (by omega) _ (lv_sub hl [2, 3, 4, 5, 1, 0] rfl)
  exact loop6 ((15 - 0) + 1) 0 (by omega) (by exact Nat.lt_succ_self _) _ (lv_sub hl [2, 3, 4, 5, 1, 0] rfl)

set_option maxHeartbeats 800000 in
set_option maxRecDepth 100000 in
theorem kX5_forgedOn {zl : Launch} {dC : Nat → ClassId} {dI : Nat → Nat → Nat} {cI cJ cZ cS : ClassId} (bM : Nat) (fa : Nat) (np : Nat) (bKk : Nat) (bKs : Nat) (hm : Nat) (nw : Nat) (bWf : Nat) (bWt : Nat) (bWl : Nat) (lw : Nat) (bFo : Nat) (qa : Nat) (qp_ : Nat) (qw_ : Nat) (bRk : Nat) (bRs : Nat) (bRf : Nat) (bRo : Nat) (bRl : Nat) (nt : Nat) (bTp : Nat) (bTt : Nat) (bTd : Nat) (bHd : Nat) (bFn : Nat) (nr : Nat) (bRp : Nat) (bRt : Nat) (bRe : Nat) (bRh : Nat) (bZs : Nat) (bZl : Nat) (bSc : Nat) (bHn : Nat) (tr : Int32) (mFo : Nat → Int32) (mHd : Nat → Int32) (H : Nat → Nat → Nat → Prop) (fg : Nat → Bool) (q : Nat) (t : Nat) (hT : finR H mHd) (hfg : ∀ d, d < 60 → mFo d = kb (fg d)) (hq : q < 6) (ht : t < 4) (hlw : lw ≤ 4) : Met zl yX5_forgedOn wsX5_forgedOn ({ frames := 2, cells := 0, slots := 0, locals := 47 } : Room) (va_Pc [.ref bM, .int (nI q), .int (nI t)] (rPre (dC, dI) (kT cI cJ cZ cS) [(bM, .inr (5, .int (nI fa) :: .int (nI np) :: .ref bKk :: .ref bKs :: .int (nI hm) :: .int (nI nw) :: .ref bWf :: .ref bWt :: .ref bWl :: .int (nI lw) :: .ref bFo :: .int (nI qa) :: .int (nI qp_) :: .int (nI qw_) :: .ref bRk :: .ref bRs :: .ref bRf :: .ref bRo :: .ref bRl :: .int (nI nt) :: .ref bTp :: .ref bTt :: .ref bTd :: .ref bHd :: .ref bFn :: .int (nI nr) :: .ref bRp :: .ref bRt :: .ref bRe :: .ref bRh :: .ref bZs :: .ref bZl :: .ref bSc :: .ref bHn :: .int tr :: [])), (bFo, .inl (cZ, 60, .inl mFo)), (bHd, .inl (cI, 360, .inl mHd))])) (vp_Si (fun r : Int32 => r = nI (fday H lw fg q t))) 0 0 (fun _ => False) := by
  refine kstartR_i (cc := cX5_forgedOn) (maxL := 4) rfl rfl (Nat.le_of_ble_eq_true rfl) ?_
  intro zp ze zs zm zb zt zc za zQ hx hb hml hts hown hN hK hP hret ls hl
  have hl : lv_has ls 4 [(0, .ref bM), (1, .int (nI q)), (2, .int (nI t))] := hl
  have hinX5 : ∀ w ∈ wsX50, w ∈ wsX5_forgedOn := fun _ h => List.mem_cons_of_mem _ (List.mem_append_right _ h)
  have lk26 := hts (.fieldLink RX5 26 "IronRumoursModel" "isFog" "[Z") (List.mem_of_getElem? (i := 1) rfl)
  have lk158 := hts (.fieldLink RX5 158 "IronRumoursModel" "lawNow" "I") (List.mem_of_getElem? (i := 2) rfl)
  refine lv_iconst (v := nI 0) hx hb dX5_forgedOn_0 (by decide) ?_
  refine lv_istore_n (lv' := [(3, .int (nI 0)), (0, .ref bM), (1, .int (nI q)), (2, .int (nI t))]) hx hb dX5_forgedOn_1 rfl hl (by decide) rfl (fun ls hl => ?_)
  have loop2 : ∀ (n2 : Nat) (d : Nat), (d ≤ 60) → (fstN (fun d => !fg d && decide (lw ≤ cntH H d q t)) d = 999) → (60 - d < n2) → ∀ (ls : Array Slot), lv_has ls 4 [(0, .ref bM), (1, .int (nI q)), (2, .int (nI t)), (3, .int (nI d))] → W zp zl ze ({ frames := 2, cells := 0, slots := 0, locals := 47 } : Room) zs zm za zb zt zc zs.heap [] 0 0 zQ (F0 zm 2 ls []) := by
    intro n2
    induction n2 with
    | zero => intro d hd hf hme; exact absurd hme (Nat.not_lt_zero _)
    | succ n2 ih2 =>
      intro d hd hf hme ls hl
      refine lv_iload_n hx hb dX5_forgedOn_2 rfl (lv_at hl 3 rfl) ?_
      refine lv_bipush (v := nI 59) hx hb dX5_forgedOn_3 (by decide) ?_
      refine k_icmp_gt (tgt := 39) hx hb dX5_forgedOn_5 (by decide) (by omega) (by omega) (fun c5 => ?_) (fun c5 => ?_)
      · refine lv_sipush (v := nI 999) hx hb dX5_forgedOn_39 (by decide) ?_
        refine hret 42 _ (nI 999) dX5_forgedOn_42 ?_
        have e : d = 60 := by omega
        subst e
        show nI 999 = nI (fstN (fun d => !fg d && decide (lw ≤ cntH H d q t)) 60)
        rw [hf]
      · refine lv_aload_n hx hb dX5_forgedOn_8 rfl (lv_at hl 0 rfl) ?_
        refine va_get (D := (dC, dI)) (ci := 5) (v := .ref bFo) (C := RX5) (T := TX5) (N := 35) hx hb hts hinX5 hown hK hP 0 rfl rfl 10 (by decide) lk26 (fun _ h9 => h9) rfl dX5_forgedOn_9 ?_
        refine lv_iload_n hx hb dX5_forgedOn_12 rfl (lv_at hl 3 rfl) ?_
        refine k_zald hx hb hK hP 1 2 rfl rfl (n := 60) (v := kb (fg d)) (by omega) (by decide) (hfg d (by omega)) dX5_forgedOn_13 ?_
        refine k_if_neb (tgt := 33) hx hb dX5_forgedOn_14 (by decide) (fun c14 => ?_) (fun c14 => ?_)
        · refine lv_iinc (v := nI (d + 1)) (lv' := [(3, .int (nI (d + 1))), (0, .ref bM), (1, .int (nI q)), (2, .int (nI t))]) hx hb dX5_forgedOn_33 hl (k := 3) rfl (nI_add _ _) (by decide) rfl (fun ls hl => ?_)
          refine lv_goto (tgt := 2) hx hb dX5_forgedOn_36 (by decide) ?_
          exact ih2 (d + 1) (by omega) (by exact fstN_miss hf (by simp [c14])) (by omega) _ (lv_sub hl [1, 2, 3, 0] rfl)
        · refine lv_aload_n hx hb dX5_forgedOn_17 rfl (lv_at hl 0 rfl) ?_
          refine lv_iload_n hx hb dX5_forgedOn_18 rfl (lv_at hl 1 rfl) ?_
          refine lv_iload_n hx hb dX5_forgedOn_19 rfl (lv_at hl 2 rfl) ?_
          refine lv_iload_n hx hb dX5_forgedOn_20 rfl (lv_at hl 3 rfl) ?_
          refine rc_i (va_runV (As := [.int (nI q), .int (nI t), .int (nI d)]) (rest := []) ⟨hx, hb, hml, hown, hts⟩ (kX5_countOf bM fa np bKk bKs hm nw bWf bWt bWl lw bFo qa qp_ qw_ bRk bRs bRf bRo bRl nt bTp bTt bTd bHd bFn nr bRp bRt bRe bRh bZs bZl bSc bHn tr mHd H q t d hT hq ht (by omega)) (cwV 3 hts gX5_forgedOn_X5_countOf rfl rfl rfl hvX5_countOf ⟨Nat.le_of_ble_eq_true rfl, Nat.le_of_ble_eq_true rfl⟩) (rpreV hN (q := (RX5, TX5, 35)) (ci := 5) hK (hP.sub [0, 2] rfl) 0 rfl rfl) rfl rfl hl.1 rfl (lv_room (Nat.le_of_ble_eq_true rfl)) dX5_forgedOn_21 ⟨Nat.zero_le _, Nat.zero_le _⟩) (fun r_1 hr_1 => ?_)
          have hr_1 : r_1 = nI (cntH H d q t) := hr_1
          rw [hr_1]
          refine lv_aload_n hx hb dX5_forgedOn_24 rfl (lv_at hl 0 rfl) ?_
          refine va_get (D := (dC, dI)) (ci := 5) (v := .int (nI lw)) (C := RX5) (T := TX5) (N := 35) hx hb hts hinX5 hown hK hP 0 rfl rfl 9 (by decide) lk158 (fun _ h9 => h9) rfl dX5_forgedOn_25 ?_
          refine k_icmp_lt (tgt := 33) hx hb dX5_forgedOn_28 (by decide) (by have := cntH_le H d q t; omega) (by omega) (fun c28 => ?_) (fun c28 => ?_)
          · refine lv_iinc (v := nI (d + 1)) (lv' := [(3, .int (nI (d + 1))), (0, .ref bM), (1, .int (nI q)), (2, .int (nI t))]) hx hb dX5_forgedOn_33 hl (k := 3) rfl (nI_add _ _) (by decide) rfl (fun ls hl => ?_)
            refine lv_goto (tgt := 2) hx hb dX5_forgedOn_36 (by decide) ?_
            exact ih2 (d + 1) (by omega) (by exact fstN_miss hf (by simp; intro _; omega)) (by omega) _ (lv_sub hl [1, 2, 3, 0] rfl)
          · refine lv_iload_n hx hb dX5_forgedOn_31 rfl (lv_at hl 3 rfl) ?_
            refine hret 32 _ (nI d) dX5_forgedOn_32 ?_
            exact fst_hitN (P := (fun d => !fg d && decide (lw ≤ cntH H d q t))) hf (by simp [c14, c28]) (by omega)
  exact loop2 ((60 - 0) + 1) 0 (by omega) (by rfl) (by exact Nat.lt_succ_self _) _ (lv_sub hl [1, 2, 3, 0] rfl)

set_option maxHeartbeats 800000 in
set_option maxRecDepth 100000 in
theorem kX5_worksBy {zl : Launch} {dC : Nat → ClassId} {dI : Nat → Nat → Nat} {cI cJ cZ cS : ClassId} (bM : Nat) (fa : Nat) (np : Nat) (bKk : Nat) (bKs : Nat) (hm : Nat) (nw : Nat) (bWf : Nat) (bWt : Nat) (bWl : Nat) (lw : Nat) (bFo : Nat) (qa : Nat) (qp_ : Nat) (qw_ : Nat) (bRk : Nat) (bRs : Nat) (bRf : Nat) (bRo : Nat) (bRl : Nat) (nt : Nat) (bTp : Nat) (bTt : Nat) (bTd : Nat) (bHd : Nat) (bFn : Nat) (nr : Nat) (bRp : Nat) (bRt : Nat) (bRe : Nat) (bRh : Nat) (bZs : Nat) (bZl : Nat) (bSc : Nat) (bHn : Nat) (tr : Int32) (mKs : Nat → Int32) (mFo : Nat → Int32) (mHd : Nat → Int32) (H : Nat → Nat → Nat → Prop) (fg : Nat → Bool) (sm : Nat) (d : Nat) (hT : finR H mHd) (hfg : ∀ d, d < 60 → mFo d = kb (fg d)) (hnp : np ≤ 6) (hlw : lw ≤ 4) (hks : ∀ j, j < np → mKs j = kb (sm.testBit j)) (hd : d < 60) : Met zl yX5_worksBy wsX5_worksBy ({ frames := 3, cells := 0, slots := 0, locals := 70 } : Room) (va_Pc [.ref bM, .int (nI d)] (rPre (dC, dI) (kT cI cJ cZ cS) [(bM, .inr (5, .int (nI fa) :: .int (nI np) :: .ref bKk :: .ref bKs :: .int (nI hm) :: .int (nI nw) :: .ref bWf :: .ref bWt :: .ref bWl :: .int (nI lw) :: .ref bFo :: .int (nI qa) :: .int (nI qp_) :: .int (nI qw_) :: .ref bRk :: .ref bRs :: .ref bRf :: .ref bRo :: .ref bRl :: .int (nI nt) :: .ref bTp :: .ref bTt :: .ref bTd :: .ref bHd :: .ref bFn :: .int (nI nr) :: .ref bRp :: .ref bRt :: .ref bRe :: .ref bRh :: .ref bZs :: .ref bZl :: .ref bSc :: .ref bHn :: .int tr :: [])), (bKs, .inl (cZ, 6, .inl mKs)), (bFo, .inl (cZ, 60, .inl mFo)), (bHd, .inl (cI, 360, .inl mHd))])) (vp_Si (fun r : Int32 => r = nI (wrk H lw fg sm np d))) 0 0 (fun _ => False) := by
  refine kstartR_i (cc := cX5_worksBy) (maxL := 5) rfl rfl (Nat.le_of_ble_eq_true rfl) ?_
  intro zp ze zs zm zb zt zc za zQ hx hb hml hts hown hN hK hP hret ls hl
  have hl : lv_has ls 5 [(0, .ref bM), (1, .int (nI d))] := hl
  have hinX5 : ∀ w ∈ wsX50, w ∈ wsX5_worksBy := fun _ h => List.mem_cons_of_mem _ (List.mem_append_right _ h)
  have lk13 := hts (.fieldLink RX5 13 "IronRumoursModel" "isSmith" "[Z") (List.mem_of_getElem? (i := 2) rfl)
  have lk93 := hts (.fieldLink RX5 93 "IronRumoursModel" "persons" "I") (List.mem_of_getElem? (i := 1) rfl)
  refine lv_iconst (v := nI 0) hx hb dX5_worksBy_0 (by decide) ?_
  refine lv_istore_n (lv' := [(2, .int (nI 0)), (0, .ref bM), (1, .int (nI d))]) hx hb dX5_worksBy_1 rfl hl (by decide) rfl (fun ls hl => ?_)
  refine lv_iconst (v := nI 0) hx hb dX5_worksBy_2 (by decide) ?_
  refine lv_istore_n (lv' := [(3, .int (nI 0)), (2, .int (nI 0)), (0, .ref bM), (1, .int (nI d))]) hx hb dX5_worksBy_3 rfl hl (by decide) rfl (fun ls hl => ?_)
  have loop4 : ∀ (n4 : Nat) (q : Nat), (q ≤ np) → (np - q < n4) → ∀ (ls : Array Slot), lv_has ls 5 [(0, .ref bM), (1, .int (nI d)), (2, .int (nI (fb_ct (wrkB H lw fg sm d) (4 * q)))), (3, .int (nI q))] → W zp zl ze ({ frames := 3, cells := 0, slots := 0, locals := 70 } : Room) zs zm za zb zt zc zs.heap [] 0 0 zQ (F0 zm 4 ls []) := by
    intro n4
    induction n4 with
    | zero => intro q hq hme; exact absurd hme (Nat.not_lt_zero _)
    | succ n4 ih4 =>
      intro q hq hme ls hl
      refine lv_iload_n hx hb dX5_worksBy_4 rfl (lv_at hl 3 rfl) ?_
      refine lv_aload_n hx hb dX5_worksBy_5 rfl (lv_at hl 0 rfl) ?_
      refine va_get (D := (dC, dI)) (ci := 5) (v := .int (nI np)) (C := RX5) (T := TX5) (N := 35) hx hb hts hinX5 hown hK hP 0 rfl rfl 1 (by decide) lk93 (fun _ h9 => h9) rfl dX5_worksBy_6 ?_
      refine k_icmp_ge (tgt := 61) hx hb dX5_worksBy_9 (by decide) (by omega) (by omega) (fun c9 => ?_) (fun c9 => ?_)
      · refine lv_iload_n hx hb dX5_worksBy_61 rfl (lv_at hl 2 rfl) ?_
        refine hret 62 _ (nI (fb_ct (wrkB H lw fg sm d) (4 * q))) dX5_worksBy_62 ?_
        have e : q = np := by omega
        subst e
        rfl
      · refine lv_iconst (v := nI 0) hx hb dX5_worksBy_12 (by decide) ?_
        refine lv_istore (lv' := [(4, .int (nI 0)), (0, .ref bM), (1, .int (nI d)), (2, .int (nI (fb_ct (wrkB H lw fg sm d) (4 * q)))), (3, .int (nI q))]) hx hb dX5_worksBy_13 hl (by decide) rfl (fun ls hl => ?_)
        have loop15 : ∀ (n15 : Nat) (t : Nat), (t ≤ 4) → (sm.testBit q = true ∨ t = 0) → (4 - t < n15) → ∀ (ls : Array Slot), lv_has ls 5 [(0, .ref bM), (1, .int (nI d)), (2, .int (nI (fb_ct (wrkB H lw fg sm d) (4 * q + t)))), (3, .int (nI q)), (4, .int (nI t))] → W zp zl ze ({ frames := 3, cells := 0, slots := 0, locals := 70 } : Room) zs zm za zb zt zc zs.heap [] 0 0 zQ (F0 zm 15 ls []) := by
          intro n15
          induction n15 with
          | zero => intro t ht hs hme; exact absurd hme (Nat.not_lt_zero _)
          | succ n15 ih15 =>
            intro t ht hs hme ls hl
            refine lv_iload hx hb dX5_worksBy_15 (lv_at hl 4 rfl) ?_
            refine lv_iconst (v := nI 4) hx hb dX5_worksBy_17 (by decide) ?_
            refine k_icmp_ge (tgt := 55) hx hb dX5_worksBy_18 (by decide) (by omega) (by omega) (fun c18 => ?_) (fun c18 => ?_)
            · refine lv_iinc (v := nI (q + 1)) (lv' := [(3, .int (nI (q + 1))), (0, .ref bM), (1, .int (nI d)), (2, .int (nI (fb_ct (wrkB H lw fg sm d) (4 * q + t)))), (4, .int (nI t))]) hx hb dX5_worksBy_55 hl (k := 3) rfl (nI_add _ _) (by decide) rfl (fun ls hl => ?_)
              refine lv_goto (tgt := 4) hx hb dX5_worksBy_58 (by decide) ?_
              rw [wrk_4 c18 ht] at hl
              exact ih4 (q + 1) (by omega) (by omega) _ (lv_sub hl [1, 2, 3, 0] rfl)
            · refine lv_aload_n hx hb dX5_worksBy_21 rfl (lv_at hl 0 rfl) ?_
              refine va_get (D := (dC, dI)) (ci := 5) (v := .ref bKs) (C := RX5) (T := TX5) (N := 35) hx hb hts hinX5 hown hK hP 0 rfl rfl 3 (by decide) lk13 (fun _ h9 => h9) rfl dX5_worksBy_22 ?_
              refine lv_iload_n hx hb dX5_worksBy_25 rfl (lv_at hl 3 rfl) ?_
              refine k_zald hx hb hK hP 1 2 rfl rfl (n := 6) (v := kb (sm.testBit q)) (by omega) (by decide) (hks q (by omega)) dX5_worksBy_26 ?_
              refine k_if_eqb (tgt := 55) hx hb dX5_worksBy_27 (by decide) (fun c27 => ?_) (fun c27 => ?_)
              · refine lv_iinc (v := nI (q + 1)) (lv' := [(3, .int (nI (q + 1))), (0, .ref bM), (1, .int (nI d)), (2, .int (nI (fb_ct (wrkB H lw fg sm d) (4 * q + t)))), (4, .int (nI t))]) hx hb dX5_worksBy_55 hl (k := 3) rfl (nI_add _ _) (by decide) rfl (fun ls hl => ?_)
                refine lv_goto (tgt := 4) hx hb dX5_worksBy_58 (by decide) ?_
                rw [wrk_o hs c27] at hl
                exact ih4 (q + 1) (by omega) (by omega) _ (lv_sub hl [1, 2, 3, 0] rfl)
              · refine lv_iload_n hx hb dX5_worksBy_30 rfl (lv_at hl 2 rfl) ?_
                refine lv_aload_n hx hb dX5_worksBy_31 rfl (lv_at hl 0 rfl) ?_
                refine lv_iload_n hx hb dX5_worksBy_32 rfl (lv_at hl 3 rfl) ?_
                refine lv_iload hx hb dX5_worksBy_33 (lv_at hl 4 rfl) ?_
                refine rc_i (va_runV (As := [.int (nI q), .int (nI t)]) (rest := [.int (nI (fb_ct (wrkB H lw fg sm d) (4 * q + t)))]) ⟨hx, hb, hml, hown, hts⟩ (kX5_forgedOn bM fa np bKk bKs hm nw bWf bWt bWl lw bFo qa qp_ qw_ bRk bRs bRf bRo bRl nt bTp bTt bTd bHd bFn nr bRp bRt bRe bRh bZs bZl bSc bHn tr mFo mHd H fg q t hT hfg (by omega) (by omega) hlw) (cwV 2 hts gX5_worksBy_X5_forgedOn rfl rfl rfl hvX5_forgedOn ⟨Nat.le_of_ble_eq_true rfl, Nat.le_of_ble_eq_true rfl⟩) (rpreV hN (q := (RX5, TX5, 35)) (ci := 5) hK (hP.sub [0, 2, 3] rfl) 0 rfl rfl) rfl rfl hl.1 rfl (lv_room (Nat.le_of_ble_eq_true rfl)) dX5_worksBy_35 ⟨Nat.zero_le _, Nat.zero_le _⟩) (fun r_1 hr_1 => ?_)
                have hr_1 : r_1 = nI (fday H lw fg q t) := hr_1
                rw [hr_1]
                refine lv_iload_n hx hb dX5_worksBy_38 rfl (lv_at hl 1 rfl) ?_
                refine k_icmp_gt (tgt := 46) hx hb dX5_worksBy_39 (by decide) (by have := @fday_n H lw fg q t; omega) (by omega) (fun c39 => ?_) (fun c39 => ?_)
                · refine lv_iconst (v := nI 0) hx hb dX5_worksBy_46 (by decide) ?_
                  refine k_iadd hx hb dX5_worksBy_47 ?_
                  refine lv_istore_n (lv' := [(2, .int (nI ((fb_ct (wrkB H lw fg sm d) (4 * q + t)) + 0))), (0, .ref bM), (1, .int (nI d)), (3, .int (nI q)), (4, .int (nI t))]) hx hb dX5_worksBy_48 rfl hl (by decide) rfl (fun ls hl => ?_)
                  refine lv_iinc (v := nI (t + 1)) (lv' := [(4, .int (nI (t + 1))), (2, .int (nI ((fb_ct (wrkB H lw fg sm d) (4 * q + t)) + 0))), (0, .ref bM), (1, .int (nI d)), (3, .int (nI q))]) hx hb dX5_worksBy_49 hl (k := 4) rfl (nI_add _ _) (by decide) rfl (fun ls hl => ?_)
                  refine lv_goto (tgt := 15) hx hb dX5_worksBy_52 (by decide) ?_
                  rw [Nat.add_zero, wrk_n c18 c27 (decide_eq_false (Nat.not_le.mpr c39))] at hl
                  exact ih15 (t + 1) (by omega) (by exact Or.inl c27) (by omega) _ (lv_sub hl [2, 3, 1, 4, 0] rfl)
                · refine lv_iconst (v := nI 1) hx hb dX5_worksBy_42 (by decide) ?_
                  refine lv_goto (tgt := 47) hx hb dX5_worksBy_43 (by decide) ?_
                  refine k_iadd hx hb dX5_worksBy_47 ?_
                  refine lv_istore_n (lv' := [(2, .int (nI ((fb_ct (wrkB H lw fg sm d) (4 * q + t)) + 1))), (0, .ref bM), (1, .int (nI d)), (3, .int (nI q)), (4, .int (nI t))]) hx hb dX5_worksBy_48 rfl hl (by decide) rfl (fun ls hl => ?_)
                  refine lv_iinc (v := nI (t + 1)) (lv' := [(4, .int (nI (t + 1))), (2, .int (nI ((fb_ct (wrkB H lw fg sm d) (4 * q + t)) + 1))), (0, .ref bM), (1, .int (nI d)), (3, .int (nI q))]) hx hb dX5_worksBy_49 hl (k := 4) rfl (nI_add _ _) (by decide) rfl (fun ls hl => ?_)
                  refine lv_goto (tgt := 15) hx hb dX5_worksBy_52 (by decide) ?_
                  rw [wrk_y c18 c27 (decide_eq_true c39)] at hl
                  exact ih15 (t + 1) (by omega) (by exact Or.inl c27) (by omega) _ (lv_sub hl [2, 3, 1, 4, 0] rfl)
        exact loop15 ((4 - 0) + 1) 0 (by omega) (by exact Or.inr rfl) (by exact Nat.lt_succ_self _) _ (lv_sub hl [1, 2, 3, 4, 0] rfl)
  exact loop4 ((np - 0) + 1) 0 (by omega) (by exact Nat.lt_succ_self _) _ (lv_sub hl [2, 3, 1, 0] rfl)

set_option maxHeartbeats 800000 in
set_option maxRecDepth 100000 in
theorem kX5_refusedFor {zl : Launch} {dC : Nat → ClassId} {dI : Nat → Nat → Nat} {cI cJ cZ cS : ClassId} (bM : Nat) (fa : Nat) (np : Nat) (bKk : Nat) (bKs : Nat) (hm : Nat) (nw : Nat) (bWf : Nat) (bWt : Nat) (bWl : Nat) (lw : Nat) (bFo : Nat) (qa : Nat) (qp_ : Nat) (qw_ : Nat) (bRk : Nat) (bRs : Nat) (bRf : Nat) (bRo : Nat) (bRl : Nat) (nt : Nat) (bTp : Nat) (bTt : Nat) (bTd : Nat) (bHd : Nat) (bFn : Nat) (nr : Nat) (bRp : Nat) (bRt : Nat) (bRe : Nat) (bRh : Nat) (bZs : Nat) (bZl : Nat) (bSc : Nat) (bHn : Nat) (tr : Int32) (mKs : Nat → Int32) (sm : Nat) (x : Int32) (y : Int32) (z : Int32) (hnp : np ≤ 6) (hks : ∀ j, j < np → mKs j = kb (sm.testBit j)) : Met zl yX5_refusedFor wsX5_refusedFor ({ frames := 2, cells := 0, slots := 0, locals := 46 } : Room) (va_Pc [.ref bM, .int x, .int y, .int z] (rPre (dC, dI) (kT cI cJ cZ cS) [(bM, .inr (5, .int (nI fa) :: .int (nI np) :: .ref bKk :: .ref bKs :: .int (nI hm) :: .int (nI nw) :: .ref bWf :: .ref bWt :: .ref bWl :: .int (nI lw) :: .ref bFo :: .int (nI qa) :: .int (nI qp_) :: .int (nI qw_) :: .ref bRk :: .ref bRs :: .ref bRf :: .ref bRo :: .ref bRl :: .int (nI nt) :: .ref bTp :: .ref bTt :: .ref bTd :: .ref bHd :: .ref bFn :: .int (nI nr) :: .ref bRp :: .ref bRt :: .ref bRe :: .ref bRh :: .ref bZs :: .ref bZl :: .ref bSc :: .ref bHn :: .int tr :: [])), (bKs, .inl (cZ, 6, .inl mKs))])) (vp_Si (fun r : Int32 => r = krefS np sm x y z)) 0 0 (fun _ => False) := by
  refine kstartR_i (cc := cX5_refusedFor) (maxL := 4) rfl rfl (Nat.le_of_ble_eq_true rfl) ?_
  intro zp ze zs zm zb zt zc za zQ hx hb hml hts hown hN hK hP hret ls hl
  have hl : lv_has ls 4 [(0, .ref bM), (1, .int x), (2, .int y), (3, .int z)] := hl
  have hinX5 : ∀ w ∈ wsX50, w ∈ wsX5_refusedFor := fun _ h => List.mem_cons_of_mem _ (List.mem_append_right _ h)
  have lk13 := hts (.fieldLink RX5 13 "IronRumoursModel" "isSmith" "[Z") (List.mem_of_getElem? (i := 1) rfl)
  refine lv_aload_n hx hb dX5_refusedFor_0 rfl (lv_at hl 0 rfl) ?_
  refine lv_iload_n hx hb dX5_refusedFor_1 rfl (lv_at hl 1 rfl) ?_
  refine rc_i (va_runV (As := [.int x]) (rest := []) ⟨hx, hb, hml, hown, hts⟩ (kX5_noPerson bM fa np bKk bKs hm nw bWf bWt bWl lw bFo qa qp_ qw_ bRk bRs bRf bRo bRl nt bTp bTt bTd bHd bFn nr bRp bRt bRe bRh bZs bZl bSc bHn tr x hnp) (cwV 1 hts gX5_refusedFor_X5_noPerson rfl rfl rfl hvX5_noPerson ⟨Nat.le_of_ble_eq_true rfl, Nat.le_of_ble_eq_true rfl⟩) (rpreV hN (q := (RX5, TX5, 35)) (ci := 5) hK (hP.sub [0] rfl) 0 rfl rfl) rfl rfl hl.1 rfl (lv_room (Nat.le_of_ble_eq_true rfl)) dX5_refusedFor_2 ⟨Nat.zero_le _, Nat.zero_le _⟩) (fun r_1 hr_1 => ?_)
  have hr_1 : r_1 = kb (!blw x np) := hr_1
  rw [hr_1]
  refine k_if_eqb (tgt := 10) hx hb dX5_refusedFor_5 (by decide) (fun c5 => ?_) (fun c5 => ?_)
  · have c5b : blw x np = true := by cases hz : blw x np; rw [hz] at c5; cases c5; rfl
    have c5 := c5b
    obtain ⟨j, hj, ej⟩ := blw_of (by omega) c5b
    subst ej
    have hjc : (nI j).toNatClampNeg = j := nI_clamp (by omega)
    refine lv_iload_n hx hb dX5_refusedFor_10 rfl (lv_at hl 2 rfl) ?_
    refine rc_i (va_runS (As := [.int y]) (rest := []) ⟨hx, hb, hml, hown, hts⟩ (kX5_isThing y ) (va_cwS 1 hts gX5_refusedFor_X5_isThing rfl rfl rfl hvX5_isThing ⟨Nat.le_of_ble_eq_true rfl, Nat.le_of_ble_eq_true rfl⟩) (rpreS hN hK (hP.sub [] rfl)) rfl rfl hl.1 rfl (lv_room (Nat.le_of_ble_eq_true rfl)) dX5_refusedFor_11 ⟨Nat.zero_le _, Nat.zero_le _⟩) (fun r_2 hr_2 => ?_)
    have hr_2 : r_2 = kb (blw y 4) := hr_2
    rw [hr_2]
    refine k_if_eqb (tgt := 24) hx hb dX5_refusedFor_14 (by decide) (fun c14 => ?_) (fun c14 => ?_)
    · refine lv_bipush (v := (-2)) hx hb dX5_refusedFor_24 (by decide) ?_
      refine hret 26 _ (-2) dX5_refusedFor_26 ?_
      unfold krefS
      rw [if_pos c5, if_neg (by rw [c14]; simp)]
    · refine lv_iload_n hx hb dX5_refusedFor_17 rfl (lv_at hl 3 rfl) ?_
      refine rc_i (va_runS (As := [.int z]) (rest := []) ⟨hx, hb, hml, hown, hts⟩ (kX5_isDay z ) (va_cwS 1 hts gX5_refusedFor_X5_isDay rfl rfl rfl hvX5_isDay ⟨Nat.le_of_ble_eq_true rfl, Nat.le_of_ble_eq_true rfl⟩) (rpreS hN hK (hP.sub [] rfl)) rfl rfl hl.1 rfl (lv_room (Nat.le_of_ble_eq_true rfl)) dX5_refusedFor_18 ⟨Nat.zero_le _, Nat.zero_le _⟩) (fun r_3 hr_3 => ?_)
      have hr_3 : r_3 = kb (blw z 60) := hr_3
      rw [hr_3]
      refine k_if_neb (tgt := 27) hx hb dX5_refusedFor_21 (by decide) (fun c21 => ?_) (fun c21 => ?_)
      · refine lv_aload_n hx hb dX5_refusedFor_27 rfl (lv_at hl 0 rfl) ?_
        refine va_get (D := (dC, dI)) (ci := 5) (v := .ref bKs) (C := RX5) (T := TX5) (N := 35) hx hb hts hinX5 hown hK hP 0 rfl rfl 3 (by decide) lk13 (fun _ h9 => h9) rfl dX5_refusedFor_28 ?_
        refine lv_iload_n hx hb dX5_refusedFor_31 rfl (lv_at hl 1 rfl) ?_
        refine k_zald hx hb hK hP 1 2 rfl rfl (n := 6) (v := kb (sm.testBit j)) (by omega) (by decide) (hks j hj) dX5_refusedFor_32 ?_
        refine k_if_eqb (tgt := 40) hx hb dX5_refusedFor_33 (by decide) (fun c33 => ?_) (fun c33 => ?_)
        · refine lv_bipush (v := (-3)) hx hb dX5_refusedFor_40 (by decide) ?_
          refine hret 42 _ (-3) dX5_refusedFor_42 ?_
          unfold krefS
          rw [if_pos c5, if_pos (by rw [c14, c21]; rfl), hjc, if_neg (by rw [c33]; decide)]
        · refine lv_iconst (v := nI 0) hx hb dX5_refusedFor_36 (by decide) ?_
          refine lv_goto (tgt := 42) hx hb dX5_refusedFor_37 (by decide) ?_
          refine hret 42 _ (nI 0) dX5_refusedFor_42 ?_
          unfold krefS
          rw [if_pos c5, if_pos (by rw [c14, c21]; rfl), hjc, if_pos c33]
      · refine lv_bipush (v := (-2)) hx hb dX5_refusedFor_24 (by decide) ?_
        refine hret 26 _ (-2) dX5_refusedFor_26 ?_
        unfold krefS
        rw [if_pos c5, if_neg (by rw [c21]; simp)]
  · refine lv_iconst (v := (-1)) hx hb dX5_refusedFor_8 (by decide) ?_
    refine hret 9 _ (-1) dX5_refusedFor_9 ?_
    unfold krefS
    rw [if_neg (fun z => by rw [z] at c5; cases c5)]

set_option maxHeartbeats 800000 in
set_option maxRecDepth 100000 in
theorem kX5_areSo {zl : Launch} {dC : Nat → ClassId} {dI : Nat → Nat → Nat} {cI cJ cZ cS : ClassId} (bM : Nat) (fa : Nat) (np : Nat) (bKk : Nat) (bKs : Nat) (hm : Nat) (nw : Nat) (bWf : Nat) (bWt : Nat) (bWl : Nat) (lw : Nat) (bFo : Nat) (qa : Nat) (qp_ : Nat) (qw_ : Nat) (bRk : Nat) (bRs : Nat) (bRf : Nat) (bRo : Nat) (bRl : Nat) (nt : Nat) (bTp : Nat) (bTt : Nat) (bTd : Nat) (bHd : Nat) (bFn : Nat) (nr : Nat) (bRp : Nat) (bRt : Nat) (bRe : Nat) (bRh : Nat) (bZs : Nat) (bZl : Nat) (bSc : Nat) (bHn : Nat) (tr : Int32) (mFo : Nat → Int32) (mHd : Nat → Int32) (mRp : Nat → Int32) (mRt : Nat → Int32) (mRe : Nat → Int32) (mRh : Nat → Int32) (H : Nat → Nat → Nat → Prop) (fg : Nat → Bool) (rp : Nat → Nat) (rt : Nat → Nat) (rd : Nat → Nat) (rh : Nat → Bool) (hT : finR H mHd) (hfg : ∀ d, d < 60 → mFo d = kb (fg d)) (hra : readA np nr rp rt rd rh mRp mRt mRe mRh) (hnp : np ≤ 6) (hlw : lw ≤ 4) : Met zl yX5_areSo wsX5_areSo ({ frames := 3, cells := 0, slots := 0, locals := 70 } : Room) (va_Pc [.ref bM] (rPre (dC, dI) (kT cI cJ cZ cS) [(bM, .inr (5, .int (nI fa) :: .int (nI np) :: .ref bKk :: .ref bKs :: .int (nI hm) :: .int (nI nw) :: .ref bWf :: .ref bWt :: .ref bWl :: .int (nI lw) :: .ref bFo :: .int (nI qa) :: .int (nI qp_) :: .int (nI qw_) :: .ref bRk :: .ref bRs :: .ref bRf :: .ref bRo :: .ref bRl :: .int (nI nt) :: .ref bTp :: .ref bTt :: .ref bTd :: .ref bHd :: .ref bFn :: .int (nI nr) :: .ref bRp :: .ref bRt :: .ref bRe :: .ref bRh :: .ref bZs :: .ref bZl :: .ref bSc :: .ref bHn :: .int tr :: [])), (bFo, .inl (cZ, 60, .inl mFo)), (bHd, .inl (cI, 360, .inl mHd)), (bRp, .inl (cI, 6, .inl mRp)), (bRt, .inl (cI, 6, .inl mRt)), (bRe, .inl (cI, 6, .inl mRe)), (bRh, .inl (cZ, 6, .inl mRh))])) (vp_Si (fun r : Int32 => r = kb (allN (rdP H lw fg rp rt rd rh) nr))) 0 0 (fun _ => False) := by
  refine kstartR_z (cc := cX5_areSo) (maxL := 3) rfl rfl (Nat.le_of_ble_eq_true rfl) ?_
  intro zp ze zs zm zb zt zc za zQ hx hb hml hts hown hN hK hP hret ls hl
  have hl : lv_has ls 3 [(0, .ref bM)] := hl
  have h8 := hra.1
  have hinX5 : ∀ w ∈ wsX50, w ∈ wsX5_areSo := fun _ h => List.mem_cons_of_mem _ (List.mem_append_right _ h)
  have lk59 := hts (.fieldLink RX5 59 "IronRumoursModel" "readingOf" "[I") (List.mem_of_getElem? (i := 2) rfl)
  have lk62 := hts (.fieldLink RX5 62 "IronRumoursModel" "readingTo" "[I") (List.mem_of_getElem? (i := 3) rfl)
  have lk65 := hts (.fieldLink RX5 65 "IronRumoursModel" "readingBy" "[I") (List.mem_of_getElem? (i := 4) rfl)
  have lk68 := hts (.fieldLink RX5 68 "IronRumoursModel" "readingHad" "[Z") (List.mem_of_getElem? (i := 5) rfl)
  have lk164 := hts (.fieldLink RX5 164 "IronRumoursModel" "readings" "I") (List.mem_of_getElem? (i := 1) rfl)
  refine lv_iconst (v := nI 1) hx hb dX5_areSo_0 (by decide) ?_
  refine lv_istore_n (lv' := [(1, .int (nI 1)), (0, .ref bM)]) hx hb dX5_areSo_1 rfl hl (by decide) rfl (fun ls hl => ?_)
  refine lv_iconst (v := nI 0) hx hb dX5_areSo_2 (by decide) ?_
  refine lv_istore_n (lv' := [(2, .int (nI 0)), (1, .int (nI 1)), (0, .ref bM)]) hx hb dX5_areSo_3 rfl hl (by decide) rfl (fun ls hl => ?_)
  have loop4 : ∀ (n4 : Nat) (k : Nat) (b : Bool), (k ≤ nr) → (b = allN (rdP H lw fg rp rt rd rh) k) → (nr - k < n4) → ∀ (ls : Array Slot), lv_has ls 3 [(0, .ref bM), (1, .int (kb b)), (2, .int (nI k))] → W zp zl ze ({ frames := 3, cells := 0, slots := 0, locals := 70 } : Room) zs zm za zb zt zc zs.heap [] 0 0 zQ (F0 zm 4 ls []) := by
    intro n4
    induction n4 with
    | zero => intro k b hk hf hme; exact absurd hme (Nat.not_lt_zero _)
    | succ n4 ih4 =>
      intro k b hk hf hme ls hl
      refine lv_iload_n hx hb dX5_areSo_4 rfl (lv_at hl 2 rfl) ?_
      refine lv_aload_n hx hb dX5_areSo_5 rfl (lv_at hl 0 rfl) ?_
      refine va_get (D := (dC, dI)) (ci := 5) (v := .int (nI nr)) (C := RX5) (T := TX5) (N := 35) hx hb hts hinX5 hown hK hP 0 rfl rfl 25 (by decide) lk164 (fun _ h9 => h9) rfl dX5_areSo_6 ?_
      refine k_icmp_ge (tgt := 67) hx hb dX5_areSo_9 (by decide) (by omega) (by omega) (fun c9 => ?_) (fun c9 => ?_)
      · refine lv_iload_n hx hb dX5_areSo_67 rfl (lv_at hl 1 rfl) ?_
        refine hret 68 _ b dX5_areSo_68 ?_
        have e : k = nr := by omega
        subst e
        rw [hf]
      · have hrk := hra.2 k c9
        refine lv_iload_n hx hb dX5_areSo_12 rfl (lv_at hl 1 rfl) ?_
        refine k_if_eqb (tgt := 59) hx hb dX5_areSo_13 (by decide) (fun c13 => ?_) (fun c13 => ?_)
        · refine lv_iconst (v := nI 0) hx hb dX5_areSo_59 (by decide) ?_
          refine lv_istore_n (lv' := [(1, .int (nI 0)), (0, .ref bM), (2, .int (nI k))]) hx hb dX5_areSo_60 rfl hl (by decide) rfl (fun ls hl => ?_)
          refine lv_iinc (v := nI (k + 1)) (lv' := [(2, .int (nI (k + 1))), (1, .int (nI 0)), (0, .ref bM)]) hx hb dX5_areSo_61 hl (k := 2) rfl (nI_add _ _) (by decide) rfl (fun ls hl => ?_)
          refine lv_goto (tgt := 4) hx hb dX5_areSo_64 (by decide) ?_
          exact ih4 (k + 1) false (by omega) (by exact so_no0 (hf.symm.trans c13)) (by omega) _ (lv_sub hl [2, 1, 0] rfl)
        · refine lv_aload_n hx hb dX5_areSo_16 rfl (lv_at hl 0 rfl) ?_
          refine lv_aload_n hx hb dX5_areSo_17 rfl (lv_at hl 0 rfl) ?_
          refine va_get (D := (dC, dI)) (ci := 5) (v := .ref bRp) (C := RX5) (T := TX5) (N := 35) hx hb hts hinX5 hown hK hP 0 rfl rfl 26 (by decide) lk59 (fun _ h9 => h9) rfl dX5_areSo_18 ?_
          refine lv_iload_n hx hb dX5_areSo_21 rfl (lv_at hl 2 rfl) ?_
          refine k_iald hx hb hK hP 3 0 rfl rfl (n := 6) (v := nI (rp k)) (by omega) (by decide) (hrk.1.1) dX5_areSo_22 ?_
          refine lv_aload_n hx hb dX5_areSo_23 rfl (lv_at hl 0 rfl) ?_
          refine va_get (D := (dC, dI)) (ci := 5) (v := .ref bRt) (C := RX5) (T := TX5) (N := 35) hx hb hts hinX5 hown hK hP 0 rfl rfl 27 (by decide) lk62 (fun _ h9 => h9) rfl dX5_areSo_24 ?_
          refine lv_iload_n hx hb dX5_areSo_27 rfl (lv_at hl 2 rfl) ?_
          refine k_iald hx hb hK hP 4 0 rfl rfl (n := 6) (v := nI (rt k)) (by omega) (by decide) (hrk.2.1.1) dX5_areSo_28 ?_
          refine rc_i (va_runV (As := [.int (nI (rp k)), .int (nI (rt k))]) (rest := []) ⟨hx, hb, hml, hown, hts⟩ (kX5_forgedOn bM fa np bKk bKs hm nw bWf bWt bWl lw bFo qa qp_ qw_ bRk bRs bRf bRo bRl nt bTp bTt bTd bHd bFn nr bRp bRt bRe bRh bZs bZl bSc bHn tr mFo mHd H fg (rp k) (rt k) hT hfg (by omega) (by omega) hlw) (cwV 2 hts gX5_areSo_X5_forgedOn rfl rfl rfl hvX5_forgedOn ⟨Nat.le_of_ble_eq_true rfl, Nat.le_of_ble_eq_true rfl⟩) (rpreV hN (q := (RX5, TX5, 35)) (ci := 5) hK (hP.sub [0, 1, 2] rfl) 0 rfl rfl) rfl rfl hl.1 rfl (lv_room (Nat.le_of_ble_eq_true rfl)) dX5_areSo_29 ⟨Nat.zero_le _, Nat.zero_le _⟩) (fun r_1 hr_1 => ?_)
          have hr_1 : r_1 = nI (fday H lw fg (rp k) (rt k)) := hr_1
          rw [hr_1]
          refine lv_aload_n hx hb dX5_areSo_32 rfl (lv_at hl 0 rfl) ?_
          refine va_get (D := (dC, dI)) (ci := 5) (v := .ref bRe) (C := RX5) (T := TX5) (N := 35) hx hb hts hinX5 hown hK hP 0 rfl rfl 28 (by decide) lk65 (fun _ h9 => h9) rfl dX5_areSo_33 ?_
          refine lv_iload_n hx hb dX5_areSo_36 rfl (lv_at hl 2 rfl) ?_
          refine k_iald hx hb hK hP 5 0 rfl rfl (n := 6) (v := nI (rd k)) (by omega) (by decide) (hrk.2.2.1.1) dX5_areSo_37 ?_
          refine k_icmp_gt (tgt := 45) hx hb dX5_areSo_38 (by decide) (by have := @fday_n H lw fg (rp k) (rt k); omega) (by omega) (fun c38 => ?_) (fun c38 => ?_)
          · refine lv_iconst (v := nI 0) hx hb dX5_areSo_45 (by decide) ?_
            refine k_cast (y := kb false) (rfl) ?_
            refine lv_aload_n hx hb dX5_areSo_46 rfl (lv_at hl 0 rfl) ?_
            refine va_get (D := (dC, dI)) (ci := 5) (v := .ref bRh) (C := RX5) (T := TX5) (N := 35) hx hb hts hinX5 hown hK hP 0 rfl rfl 29 (by decide) lk68 (fun _ h9 => h9) rfl dX5_areSo_47 ?_
            refine lv_iload_n hx hb dX5_areSo_50 rfl (lv_at hl 2 rfl) ?_
            refine k_zald hx hb hK hP 6 2 rfl rfl (n := 6) (v := kb (rh k)) (by omega) (by decide) (hrk.2.2.2) dX5_areSo_51 ?_
            refine k_icmpb_ne (tgt := 59) hx hb dX5_areSo_52 (by decide) (fun c52 => ?_) (fun c52 => ?_)
            · refine lv_iconst (v := nI 0) hx hb dX5_areSo_59 (by decide) ?_
              refine lv_istore_n (lv' := [(1, .int (nI 0)), (0, .ref bM), (2, .int (nI k))]) hx hb dX5_areSo_60 rfl hl (by decide) rfl (fun ls hl => ?_)
              refine lv_iinc (v := nI (k + 1)) (lv' := [(2, .int (nI (k + 1))), (1, .int (nI 0)), (0, .ref bM)]) hx hb dX5_areSo_61 hl (k := 2) rfl (nI_add _ _) (by decide) rfl (fun ls hl => ?_)
              refine lv_goto (tgt := 4) hx hb dX5_areSo_64 (by decide) ?_
              exact ih4 (k + 1) false (by omega) (by exact so_no (by unfold rdP; rw [(decide_eq_false (Nat.not_le.mpr c38))]; revert c52; cases rh k <;> simp)) (by omega) _ (lv_sub hl [2, 1, 0] rfl)
            · refine lv_iconst (v := nI 1) hx hb dX5_areSo_55 (by decide) ?_
              refine lv_goto (tgt := 60) hx hb dX5_areSo_56 (by decide) ?_
              refine lv_istore_n (lv' := [(1, .int (nI 1)), (0, .ref bM), (2, .int (nI k))]) hx hb dX5_areSo_60 rfl hl (by decide) rfl (fun ls hl => ?_)
              refine lv_iinc (v := nI (k + 1)) (lv' := [(2, .int (nI (k + 1))), (1, .int (nI 1)), (0, .ref bM)]) hx hb dX5_areSo_61 hl (k := 2) rfl (nI_add _ _) (by decide) rfl (fun ls hl => ?_)
              refine lv_goto (tgt := 4) hx hb dX5_areSo_64 (by decide) ?_
              exact ih4 (k + 1) true (by omega) (by exact so_yes (hf.symm.trans c13) (by unfold rdP; rw [(decide_eq_false (Nat.not_le.mpr c38))]; revert c52; cases rh k <;> simp)) (by omega) _ (lv_sub hl [2, 1, 0] rfl)
          · refine lv_iconst (v := nI 1) hx hb dX5_areSo_41 (by decide) ?_
            refine k_cast (y := kb true) (rfl) ?_
            refine lv_goto (tgt := 46) hx hb dX5_areSo_42 (by decide) ?_
            refine lv_aload_n hx hb dX5_areSo_46 rfl (lv_at hl 0 rfl) ?_
            refine va_get (D := (dC, dI)) (ci := 5) (v := .ref bRh) (C := RX5) (T := TX5) (N := 35) hx hb hts hinX5 hown hK hP 0 rfl rfl 29 (by decide) lk68 (fun _ h9 => h9) rfl dX5_areSo_47 ?_
            refine lv_iload_n hx hb dX5_areSo_50 rfl (lv_at hl 2 rfl) ?_
            refine k_zald hx hb hK hP 6 2 rfl rfl (n := 6) (v := kb (rh k)) (by omega) (by decide) (hrk.2.2.2) dX5_areSo_51 ?_
            refine k_icmpb_ne (tgt := 59) hx hb dX5_areSo_52 (by decide) (fun c52 => ?_) (fun c52 => ?_)
            · refine lv_iconst (v := nI 0) hx hb dX5_areSo_59 (by decide) ?_
              refine lv_istore_n (lv' := [(1, .int (nI 0)), (0, .ref bM), (2, .int (nI k))]) hx hb dX5_areSo_60 rfl hl (by decide) rfl (fun ls hl => ?_)
              refine lv_iinc (v := nI (k + 1)) (lv' := [(2, .int (nI (k + 1))), (1, .int (nI 0)), (0, .ref bM)]) hx hb dX5_areSo_61 hl (k := 2) rfl (nI_add _ _) (by decide) rfl (fun ls hl => ?_)
              refine lv_goto (tgt := 4) hx hb dX5_areSo_64 (by decide) ?_
              exact ih4 (k + 1) false (by omega) (by exact so_no (by unfold rdP; rw [(decide_eq_true c38)]; revert c52; cases rh k <;> simp)) (by omega) _ (lv_sub hl [2, 1, 0] rfl)
            · refine lv_iconst (v := nI 1) hx hb dX5_areSo_55 (by decide) ?_
              refine lv_goto (tgt := 60) hx hb dX5_areSo_56 (by decide) ?_
              refine lv_istore_n (lv' := [(1, .int (nI 1)), (0, .ref bM), (2, .int (nI k))]) hx hb dX5_areSo_60 rfl hl (by decide) rfl (fun ls hl => ?_)
              refine lv_iinc (v := nI (k + 1)) (lv' := [(2, .int (nI (k + 1))), (1, .int (nI 1)), (0, .ref bM)]) hx hb dX5_areSo_61 hl (k := 2) rfl (nI_add _ _) (by decide) rfl (fun ls hl => ?_)
              refine lv_goto (tgt := 4) hx hb dX5_areSo_64 (by decide) ?_
              exact ih4 (k + 1) true (by omega) (by exact so_yes (hf.symm.trans c13) (by unfold rdP; rw [(decide_eq_true c38)]; revert c52; cases rh k <;> simp)) (by omega) _ (lv_sub hl [2, 1, 0] rfl)
  exact loop4 ((nr - 0) + 1) 0 true (by omega) (by rfl) (by exact Nat.lt_succ_self _) _ (lv_sub hl [2, 1, 0] rfl)

set_option maxHeartbeats 800000 in
set_option maxRecDepth 100000 in
theorem kX5_codeAt {zl : Launch} {dC : Nat → ClassId} {dI : Nat → Nat → Nat} {cI cJ cZ cS : ClassId} (bM : Nat) (fa : Nat) (np : Nat) (bKk : Nat) (bKs : Nat) (hm : Nat) (nw : Nat) (bWf : Nat) (bWt : Nat) (bWl : Nat) (lw : Nat) (bFo : Nat) (qa : Nat) (qp_ : Nat) (qw_ : Nat) (bRk : Nat) (bRs : Nat) (bRf : Nat) (bRo : Nat) (bRl : Nat) (nt : Nat) (bTp : Nat) (bTt : Nat) (bTd : Nat) (bHd : Nat) (bFn : Nat) (nr : Nat) (bRp : Nat) (bRt : Nat) (bRe : Nat) (bRh : Nat) (bZs : Nat) (bZl : Nat) (bSc : Nat) (bHn : Nat) (tr : Int32) (mSc : Nat → Int32) (fr : Nat) (n : Nat) (hin : fr + n ≤ 240) (hqa : qa < 1000) : Met zl yX5_codeAt wsX5_codeAt ({ frames := 0, cells := 0, slots := 0, locals := 0 } : Room) (va_Pc [.ref bM, .int (nI fr), .int (nI n)] (rPre (dC, dI) (kT cI cJ cZ cS) [(bM, .inr (5, .int (nI fa) :: .int (nI np) :: .ref bKk :: .ref bKs :: .int (nI hm) :: .int (nI nw) :: .ref bWf :: .ref bWt :: .ref bWl :: .int (nI lw) :: .ref bFo :: .int (nI qa) :: .int (nI qp_) :: .int (nI qw_) :: .ref bRk :: .ref bRs :: .ref bRf :: .ref bRo :: .ref bRl :: .int (nI nt) :: .ref bTp :: .ref bTt :: .ref bTd :: .ref bHd :: .ref bFn :: .int (nI nr) :: .ref bRp :: .ref bRt :: .ref bRe :: .ref bRh :: .ref bZs :: .ref bZl :: .ref bSc :: .ref bHn :: .int tr :: [])), (bSc, .inl (cI, 240, .inl mSc))])) (vp_Si (fun r : Int32 => r = rc9 (kcode mSc fr n) n qa)) 0 0 (fun _ => False) := by
  refine kstartR_i (cc := cX5_codeAt) (maxL := 3) rfl rfl (Nat.le_of_ble_eq_true rfl) ?_
  intro zp ze zs zm zb zt zc za zQ hx hb hml hts hown hN hK hP hret ls hl
  have hl : lv_has ls 3 [(0, .ref bM), (1, .int (nI fr)), (2, .int (nI n))] := hl
  have hinX5 : ∀ w ∈ wsX50, w ∈ wsX5_codeAt := fun _ h => List.mem_cons_of_mem _ (List.mem_append_right _ h)
  have lk77 := hts (.fieldLink RX5 77 "IronRumoursModel" "sheet" "[I") (List.mem_of_getElem? (i := 2) rfl)
  have lk104 := hts (.fieldLink RX5 104 "IronRumoursModel" "readAt" "I") (List.mem_of_getElem? (i := 1) rfl)
  refine lv_aload_n hx hb dX5_codeAt_0 rfl (lv_at hl 0 rfl) ?_
  refine va_get (D := (dC, dI)) (ci := 5) (v := .int (nI qa)) (C := RX5) (T := TX5) (N := 35) hx hb hts hinX5 hown hK hP 0 rfl rfl 11 (by decide) lk104 (fun _ h9 => h9) rfl dX5_codeAt_1 ?_
  refine lv_iload_n hx hb dX5_codeAt_4 rfl (lv_at hl 2 rfl) ?_
  refine k_icmp_ge (tgt := 22) hx hb dX5_codeAt_5 (by decide) (by omega) (by omega) (fun c5 => ?_) (fun c5 => ?_)
  · refine lv_bipush (v := (-9)) hx hb dX5_codeAt_22 (by decide) ?_
    refine hret 24 _ (-9) dX5_codeAt_24 ?_
    unfold rc9
    rw [if_neg (by omega)]
  · refine lv_aload_n hx hb dX5_codeAt_8 rfl (lv_at hl 0 rfl) ?_
    refine va_get (D := (dC, dI)) (ci := 5) (v := .ref bSc) (C := RX5) (T := TX5) (N := 35) hx hb hts hinX5 hown hK hP 0 rfl rfl 32 (by decide) lk77 (fun _ h9 => h9) rfl dX5_codeAt_9 ?_
    refine lv_iload_n hx hb dX5_codeAt_12 rfl (lv_at hl 1 rfl) ?_
    refine lv_aload_n hx hb dX5_codeAt_13 rfl (lv_at hl 0 rfl) ?_
    refine va_get (D := (dC, dI)) (ci := 5) (v := .int (nI qa)) (C := RX5) (T := TX5) (N := 35) hx hb hts hinX5 hown hK hP 0 rfl rfl 11 (by decide) lk104 (fun _ h9 => h9) rfl dX5_codeAt_14 ?_
    refine k_iadd hx hb dX5_codeAt_17 ?_
    refine k_iald hx hb hK hP 1 0 rfl rfl (n := 240) (v := mSc (fr + qa)) (by omega) (by decide) (rfl) dX5_codeAt_18 ?_
    refine lv_goto (tgt := 24) hx hb dX5_codeAt_19 (by decide) ?_
    refine hret 24 _ (mSc (fr + qa)) dX5_codeAt_24 ?_
    unfold rc9 kcode
    rw [if_pos c5, if_pos c5]

set_option maxHeartbeats 800000 in
set_option maxRecDepth 100000 in
theorem kX5_figure {zl : Launch} {dC : Nat → ClassId} {dI : Nat → Nat → Nat} {cI cJ cZ cS : ClassId} {sz : Nat} (bM : Nat) (fa : Nat) (np : Nat) (bKk : Nat) (bKs : Nat) (hm : Nat) (nw : Nat) (bWf : Nat) (bWt : Nat) (bWl : Nat) (lw : Nat) (bFo : Nat) (qa : Nat) (qp_ : Nat) (qw_ : Nat) (bRk : Nat) (bRs : Nat) (bRf : Nat) (bRo : Nat) (bRl : Nat) (nt : Nat) (bTp : Nat) (bTt : Nat) (bTd : Nat) (bHd : Nat) (bFn : Nat) (nr : Nat) (bRp : Nat) (bRt : Nat) (bRe : Nat) (bRh : Nat) (bZs : Nat) (bZl : Nat) (bSc : Nat) (bHn : Nat) (tr : Int32) (mSc : Nat → Int32) (fr : Nat) (n : Nat) (lo : Nat) (hi : Nat) (hin : fr + n ≤ 240) (hqa : qa < 1000) (hlo : lo < 100) (hhi : hi < 100) : Met zl yX5_figure wsX5_figure ({ frames := 1, cells := 0, slots := 0, locals := 25 } : Room) (va_Pc [.ref bM, .int (nI fr), .int (nI n), .int (nI lo), .int (nI hi)] (kPre (dC, dI) (kT cI cJ cZ cS) [(bM, .inr (5, .int (nI fa) :: .int (nI np) :: .ref bKk :: .ref bKs :: .int (nI hm) :: .int (nI nw) :: .ref bWf :: .ref bWt :: .ref bWl :: .int (nI lw) :: .ref bFo :: .int (nI qa) :: .int (nI qp_) :: .int (nI qw_) :: .ref bRk :: .ref bRs :: .ref bRf :: .ref bRo :: .ref bRl :: .int (nI nt) :: .ref bTp :: .ref bTt :: .ref bTd :: .ref bHd :: .ref bFn :: .int (nI nr) :: .ref bRp :: .ref bRt :: .ref bRe :: .ref bRh :: .ref bZs :: .ref bZl :: .ref bSc :: .ref bHn :: .int tr :: [])), (bSc, .inl (cI, 240, .inl mSc))] sz)) (va_Qi (fun (r : Int32) => fun (a1 : Nat) => r = kNone (digN ((kcode mSc fr n) qa) lo hi) ∧ a1 = (if (digN ((kcode mSc fr n) qa) lo hi) = 999 then qa else qa + 1)) (fun (a1 : Nat) (zU : State) => va_P (dC, dI) vwCl [(bM, .inr (5, .int (nI fa) :: .int (nI np) :: .ref bKk :: .ref bKs :: .int (nI hm) :: .int (nI nw) :: .ref bWf :: .ref bWt :: .ref bWl :: .int (nI lw) :: .ref bFo :: .int (nI a1) :: .int (nI qp_) :: .int (nI qw_) :: .ref bRk :: .ref bRs :: .ref bRf :: .ref bRo :: .ref bRl :: .int (nI nt) :: .ref bTp :: .ref bTt :: .ref bTd :: .ref bHd :: .ref bFn :: .int (nI nr) :: .ref bRp :: .ref bRt :: .ref bRe :: .ref bRh :: .ref bZs :: .ref bZl :: .ref bSc :: .ref bHn :: .int tr :: [])), (bSc, .inl (cI, 240, .inl mSc))] zU.heap) (va_A [(bM, .inr (5, .int (nI fa) :: .int (nI np) :: .ref bKk :: .ref bKs :: .int (nI hm) :: .int (nI nw) :: .ref bWf :: .ref bWt :: .ref bWl :: .int (nI lw) :: .ref bFo :: .int (nI qa) :: .int (nI qp_) :: .int (nI qw_) :: .ref bRk :: .ref bRs :: .ref bRf :: .ref bRo :: .ref bRl :: .int (nI nt) :: .ref bTp :: .ref bTt :: .ref bTd :: .ref bHd :: .ref bFn :: .int (nI nr) :: .ref bRp :: .ref bRt :: .ref bRe :: .ref bRh :: .ref bZs :: .ref bZl :: .ref bSc :: .ref bHn :: .int tr :: [])), (bSc, .inl (cI, 240, .inl mSc))] sz)) 0 0 (va_A [(bM, .inr (5, .int (nI fa) :: .int (nI np) :: .ref bKk :: .ref bKs :: .int (nI hm) :: .int (nI nw) :: .ref bWf :: .ref bWt :: .ref bWl :: .int (nI lw) :: .ref bFo :: .int (nI qa) :: .int (nI qp_) :: .int (nI qw_) :: .ref bRk :: .ref bRs :: .ref bRf :: .ref bRo :: .ref bRl :: .int (nI nt) :: .ref bTp :: .ref bTt :: .ref bTd :: .ref bHd :: .ref bFn :: .int (nI nr) :: .ref bRp :: .ref bRt :: .ref bRe :: .ref bRh :: .ref bZs :: .ref bZl :: .ref bSc :: .ref bHn :: .int tr :: [])), (bSc, .inl (cI, 240, .inl mSc))] sz) := by
  refine kstartW_i (cc := cX5_figure) (maxL := 7) rfl rfl (Nat.le_of_ble_eq_true rfl) ?_
  intro zp ze zs zm zb zt zc za zQ zA hx hb hml hts hown hN hK hP hD hS hA zin hret ls hl
  have hl : lv_has ls 7 [(0, .ref bM), (1, .int (nI fr)), (2, .int (nI n)), (3, .int (nI lo)), (4, .int (nI hi))] := hl
  have hinX5 : ∀ w ∈ wsX50, w ∈ wsX5_figure := fun _ h => List.mem_cons_of_mem _ (List.mem_append_right _ h)
  have lk104 := hts (.fieldLink RX5 104 "IronRumoursModel" "readAt" "I") (List.mem_of_getElem? (i := 1) rfl)
  refine lv_aload_n hx hb dX5_figure_0 rfl (lv_at hl 0 rfl) ?_
  refine lv_iload_n hx hb dX5_figure_1 rfl (lv_at hl 1 rfl) ?_
  refine lv_iload_n hx hb dX5_figure_2 rfl (lv_at hl 2 rfl) ?_
  refine rc_i (va_runV (As := [.int (nI fr), .int (nI n)]) (rest := []) ⟨hx, hb, hml, hown, hts⟩ (kX5_codeAt bM fa np bKk bKs hm nw bWf bWt bWl lw bFo qa qp_ qw_ bRk bRs bRf bRo bRl nt bTp bTt bTd bHd bFn nr bRp bRt bRe bRh bZs bZl bSc bHn tr mSc fr n hin hqa) (cwV 2 hts gX5_figure_X5_codeAt rfl rfl rfl hvX5_codeAt ⟨Nat.le_of_ble_eq_true rfl, Nat.le_of_ble_eq_true rfl⟩) (rpreV hN (q := (RX5, TX5, 35)) (ci := 5) hK (hP.sub [0, 1] rfl) 0 rfl rfl) rfl rfl hl.1 rfl (lv_room (Nat.le_of_ble_eq_true rfl)) dX5_figure_3 ⟨Nat.zero_le _, Nat.zero_le _⟩) (fun r_1 hr_1 => ?_)
  have hr_1 : r_1 = rc9 (kcode mSc fr n) n qa := hr_1
  rw [hr_1]
  refine lv_bipush (v := nI 48) hx hb dX5_figure_6 (by decide) ?_
  refine lv_isub hx hb dX5_figure_8 ?_
  refine lv_istore (lv' := [(5, .int ((rc9 (kcode mSc fr n) n qa) - (nI 48))), (0, .ref bM), (1, .int (nI fr)), (2, .int (nI n)), (3, .int (nI lo)), (4, .int (nI hi))]) hx hb dX5_figure_9 hl (by decide) rfl (fun ls hl => ?_)
  refine lv_iload hx hb dX5_figure_11 (lv_at hl 0 rfl) ?_
  refine lv_i2l hx hb dX5_figure_13 rfl ?_
  refine lv_iload_n hx hb dX5_figure_14 rfl (lv_at hl 4 rfl) ?_
  refine lv_i2l hx hb dX5_figure_15 rfl ?_
  refine lv_iload hx hb dX5_figure_16 (lv_at hl 5 rfl) ?_
  refine lv_i2l hx hb dX5_figure_18 rfl ?_
  refine rc_i (va_runS (As := [.long (((rc9 (kcode mSc fr n) n qa) - (nI 48)).toInt64), .long ((nI lo).toInt64), .long ((nI hi).toInt64)]) (rest := []) ⟨hx, hb, hml, hown, hts⟩ (kX5_in (((rc9 (kcode mSc fr n) n qa) - (nI 48)).toInt64) ((nI lo).toInt64) ((nI hi).toInt64) ) (va_cwS 3 hts gX5_figure_X5_in rfl rfl rfl hvX5_in ⟨Nat.le_of_ble_eq_true rfl, Nat.le_of_ble_eq_true rfl⟩) (rpreS hN hK (hP.sub [] rfl)) rfl rfl hl.1 rfl (lv_room (Nat.le_of_ble_eq_true rfl)) dX5_figure_19 ⟨Nat.zero_le _, Nat.zero_le _⟩) (fun r_2 hr_2 => ?_)
  have hr_2 : r_2 = kb (in64 (((rc9 (kcode mSc fr n) n qa) - (nI 48)).toInt64) ((nI lo).toInt64) ((nI hi).toInt64)) := hr_2
  rw [hr_2]
  refine k_cast (y := kb (isDg ((kcode mSc fr n) qa) lo hi)) (congrArg kb (fig_in (by omega) (by omega))) ?_
  refine lv_istore (lv' := [(6, .int (kb (isDg ((kcode mSc fr n) qa) lo hi))), (5, .int ((rc9 (kcode mSc fr n) n qa) - (nI 48))), (0, .ref bM), (1, .int (nI fr)), (2, .int (nI n)), (3, .int (nI lo)), (4, .int (nI hi))]) hx hb dX5_figure_22 hl (by decide) rfl (fun ls hl => ?_)
  refine lv_aload_n hx hb dX5_figure_24 rfl (lv_at hl 2 rfl) ?_
  refine lv_dup hx hb dX5_figure_25 rfl ?_
  refine va_get (D := (dC, dI)) (ci := 5) (v := .int (nI qa)) (C := RX5) (T := TX5) (N := 35) hx hb hts hinX5 hown hK hP 0 rfl rfl 11 (by decide) lk104 (fun _ h9 => h9) rfl dX5_figure_26 ?_
  refine lv_iload hx hb dX5_figure_29 (lv_at hl 0 rfl) ?_
  refine k_if_eqb (tgt := 38) hx hb dX5_figure_31 (by decide) (fun c31 => ?_) (fun c31 => ?_)
  · refine lv_iconst (v := nI 0) hx hb dX5_figure_38 (by decide) ?_
    refine k_iadd hx hb dX5_figure_39 ?_
    refine va_put (D := (dC, dI)) (ci := 5) (v := .int (nI (qa + 0))) (ty := .int) (C := RX5) (T := TX5) (N := 35) hx hb hts hinX5 tyX5 tyX5_ok nmX5 hown hK hP hD hS 0 rfl rfl 11 (by decide) lk104 (fun _ h9 => h9) rfl (tyX5_ok 11 (by decide)) rfl rfl (Nat.le_of_ble_eq_true rfl) dX5_figure_40 (fun H_3 locs hP hD hS => ?_)
    have hP : va_P (dC, dI) vwCl [(bM, .inr (5, .int (nI fa) :: .int (nI np) :: .ref bKk :: .ref bKs :: .int (nI hm) :: .int (nI nw) :: .ref bWf :: .ref bWt :: .ref bWl :: .int (nI lw) :: .ref bFo :: .int (nI (qa + 0)) :: .int (nI qp_) :: .int (nI qw_) :: .ref bRk :: .ref bRs :: .ref bRf :: .ref bRo :: .ref bRl :: .int (nI nt) :: .ref bTp :: .ref bTt :: .ref bTd :: .ref bHd :: .ref bFn :: .int (nI nr) :: .ref bRp :: .ref bRt :: .ref bRe :: .ref bRh :: .ref bZs :: .ref bZl :: .ref bSc :: .ref bHn :: .int tr :: [])), (bSc, .inl (cI, 240, .inl mSc))] H_3 := hP
    have hD : va_D zA [(bM, .inr (5, .int (nI fa) :: .int (nI np) :: .ref bKk :: .ref bKs :: .int (nI hm) :: .int (nI nw) :: .ref bWf :: .ref bWt :: .ref bWl :: .int (nI lw) :: .ref bFo :: .int (nI (qa + 0)) :: .int (nI qp_) :: .int (nI qw_) :: .ref bRk :: .ref bRs :: .ref bRf :: .ref bRo :: .ref bRl :: .int (nI nt) :: .ref bTp :: .ref bTt :: .ref bTd :: .ref bHd :: .ref bFn :: .int (nI nr) :: .ref bRp :: .ref bRt :: .ref bRe :: .ref bRh :: .ref bZs :: .ref bZl :: .ref bSc :: .ref bHn :: .int tr :: [])), (bSc, .inl (cI, 240, .inl mSc))] := hD
    refine lv_iload hx hb dX5_figure_43 (lv_at hl 0 rfl) ?_
    refine k_if_eqb (tgt := 53) hx hb dX5_figure_45 (by decide) (fun c45 => ?_) (fun c45 => ?_)
    · refine lv_bipush (v := (-9)) hx hb dX5_figure_53 (by decide) ?_
      refine hret 55 _ (-9) (qa + 0) _ _ dX5_figure_55 hS (fun t ht _ => by rw [ht]; exact hP) ?_
      have h9 := fig_f c31
      exact ⟨by rw [h9]; rfl, (if_pos h9).symm⟩
    · exact absurd (c31.symm.trans c45) (by decide)
  · refine lv_iconst (v := nI 1) hx hb dX5_figure_34 (by decide) ?_
    refine lv_goto (tgt := 39) hx hb dX5_figure_35 (by decide) ?_
    refine k_iadd hx hb dX5_figure_39 ?_
    refine va_put (D := (dC, dI)) (ci := 5) (v := .int (nI (qa + 1))) (ty := .int) (C := RX5) (T := TX5) (N := 35) hx hb hts hinX5 tyX5 tyX5_ok nmX5 hown hK hP hD hS 0 rfl rfl 11 (by decide) lk104 (fun _ h9 => h9) rfl (tyX5_ok 11 (by decide)) rfl rfl (Nat.le_of_ble_eq_true rfl) dX5_figure_40 (fun H_4 locs hP hD hS => ?_)
    have hP : va_P (dC, dI) vwCl [(bM, .inr (5, .int (nI fa) :: .int (nI np) :: .ref bKk :: .ref bKs :: .int (nI hm) :: .int (nI nw) :: .ref bWf :: .ref bWt :: .ref bWl :: .int (nI lw) :: .ref bFo :: .int (nI (qa + 1)) :: .int (nI qp_) :: .int (nI qw_) :: .ref bRk :: .ref bRs :: .ref bRf :: .ref bRo :: .ref bRl :: .int (nI nt) :: .ref bTp :: .ref bTt :: .ref bTd :: .ref bHd :: .ref bFn :: .int (nI nr) :: .ref bRp :: .ref bRt :: .ref bRe :: .ref bRh :: .ref bZs :: .ref bZl :: .ref bSc :: .ref bHn :: .int tr :: [])), (bSc, .inl (cI, 240, .inl mSc))] H_4 := hP
    have hD : va_D zA [(bM, .inr (5, .int (nI fa) :: .int (nI np) :: .ref bKk :: .ref bKs :: .int (nI hm) :: .int (nI nw) :: .ref bWf :: .ref bWt :: .ref bWl :: .int (nI lw) :: .ref bFo :: .int (nI (qa + 1)) :: .int (nI qp_) :: .int (nI qw_) :: .ref bRk :: .ref bRs :: .ref bRf :: .ref bRo :: .ref bRl :: .int (nI nt) :: .ref bTp :: .ref bTt :: .ref bTd :: .ref bHd :: .ref bFn :: .int (nI nr) :: .ref bRp :: .ref bRt :: .ref bRe :: .ref bRh :: .ref bZs :: .ref bZl :: .ref bSc :: .ref bHn :: .int tr :: [])), (bSc, .inl (cI, 240, .inl mSc))] := hD
    refine lv_iload hx hb dX5_figure_43 (lv_at hl 0 rfl) ?_
    refine k_if_eqb (tgt := 53) hx hb dX5_figure_45 (by decide) (fun c45 => ?_) (fun c45 => ?_)
    · exact absurd (c31.symm.trans c45) (by decide)
    · refine lv_iload hx hb dX5_figure_48 (lv_at hl 1 rfl) ?_
      refine lv_goto (tgt := 55) hx hb dX5_figure_50 (by decide) ?_
      refine hret 55 _ ((rc9 (kcode mSc fr n) n qa) - (nI 48)) (qa + 1) _ _ dX5_figure_55 hS (fun t ht _ => by rw [ht]; exact hP) ?_
      have h9 := fig_t c31
      exact ⟨fig_v (by omega) c31, by rw [if_neg h9]⟩

set_option maxHeartbeats 800000 in
set_option maxRecDepth 100000 in
theorem kX5_readsPerson {zl : Launch} {dC : Nat → ClassId} {dI : Nat → Nat → Nat} {cI cJ cZ cS : ClassId} {sz : Nat} (bM : Nat) (fa : Nat) (np : Nat) (bKk : Nat) (bKs : Nat) (hm : Nat) (nw : Nat) (bWf : Nat) (bWt : Nat) (bWl : Nat) (lw : Nat) (bFo : Nat) (qw_ : Nat) (bRk : Nat) (bRs : Nat) (bRf : Nat) (bRo : Nat) (bRl : Nat) (nt : Nat) (bTp : Nat) (bTt : Nat) (bTd : Nat) (bHd : Nat) (bFn : Nat) (nr : Nat) (bRp : Nat) (bRt : Nat) (bRe : Nat) (bRh : Nat) (bZs : Nat) (bZl : Nat) (bSc : Nat) (bHn : Nat) (tr : Int32) (mSc : Nat → Int32) (mRk : Nat → Int32) (mRs : Nat → Int32) (fr : Nat) (n : Nat) (k : Nat) (hin : fr + n ≤ 240) (hk6 : k ≤ 6) : Met zl yX5_readsPerson wsX5_readsPerson ({ frames := 2, cells := 0, slots := 0, locals := 51 } : Room) (va_Pc [.ref bM, .int (nI fr), .int (nI n)] (kPre (dC, dI) (kT cI cJ cZ cS) [(bM, .inr (5, .int (nI fa) :: .int (nI np) :: .ref bKk :: .ref bKs :: .int (nI hm) :: .int (nI nw) :: .ref bWf :: .ref bWt :: .ref bWl :: .int (nI lw) :: .ref bFo :: .int (nI (1 + 2 * k)) :: .int (nI k) :: .int (nI qw_) :: .ref bRk :: .ref bRs :: .ref bRf :: .ref bRo :: .ref bRl :: .int (nI nt) :: .ref bTp :: .ref bTt :: .ref bTd :: .ref bHd :: .ref bFn :: .int (nI nr) :: .ref bRp :: .ref bRt :: .ref bRe :: .ref bRh :: .ref bZs :: .ref bZl :: .ref bSc :: .ref bHn :: .int tr :: [])), (bSc, .inl (cI, 240, .inl mSc)), (bRk, .inl (cI, 6, .inl mRk)), (bRs, .inl (cZ, 6, .inl mRs))] sz)) (va_Qi (fun (r : Int32) => fun (u : (Nat → Int32) × (Nat → Int32) × Nat × Nat) => r = kb (pGo (kcode mSc fr n) k) ∧ pPost (kcode mSc fr n) k mRk mRs u.1 u.2.1 u.2.2.1 u.2.2.2) (fun (u : (Nat → Int32) × (Nat → Int32) × Nat × Nat) (zU : State) => va_P (dC, dI) vwCl [(bM, .inr (5, .int (nI fa) :: .int (nI np) :: .ref bKk :: .ref bKs :: .int (nI hm) :: .int (nI nw) :: .ref bWf :: .ref bWt :: .ref bWl :: .int (nI lw) :: .ref bFo :: .int (nI u.2.2.1) :: .int (nI u.2.2.2) :: .int (nI qw_) :: .ref bRk :: .ref bRs :: .ref bRf :: .ref bRo :: .ref bRl :: .int (nI nt) :: .ref bTp :: .ref bTt :: .ref bTd :: .ref bHd :: .ref bFn :: .int (nI nr) :: .ref bRp :: .ref bRt :: .ref bRe :: .ref bRh :: .ref bZs :: .ref bZl :: .ref bSc :: .ref bHn :: .int tr :: [])), (bSc, .inl (cI, 240, .inl mSc)), (bRk, .inl (cI, 6, .inl u.1)), (bRs, .inl (cZ, 6, .inl u.2.1))] zU.heap) (va_A [(bM, .inr (5, .int (nI fa) :: .int (nI np) :: .ref bKk :: .ref bKs :: .int (nI hm) :: .int (nI nw) :: .ref bWf :: .ref bWt :: .ref bWl :: .int (nI lw) :: .ref bFo :: .int (nI (1 + 2 * k)) :: .int (nI k) :: .int (nI qw_) :: .ref bRk :: .ref bRs :: .ref bRf :: .ref bRo :: .ref bRl :: .int (nI nt) :: .ref bTp :: .ref bTt :: .ref bTd :: .ref bHd :: .ref bFn :: .int (nI nr) :: .ref bRp :: .ref bRt :: .ref bRe :: .ref bRh :: .ref bZs :: .ref bZl :: .ref bSc :: .ref bHn :: .int tr :: [])), (bSc, .inl (cI, 240, .inl mSc)), (bRk, .inl (cI, 6, .inl mRk)), (bRs, .inl (cZ, 6, .inl mRs))] sz)) 0 0 (va_A [(bM, .inr (5, .int (nI fa) :: .int (nI np) :: .ref bKk :: .ref bKs :: .int (nI hm) :: .int (nI nw) :: .ref bWf :: .ref bWt :: .ref bWl :: .int (nI lw) :: .ref bFo :: .int (nI (1 + 2 * k)) :: .int (nI k) :: .int (nI qw_) :: .ref bRk :: .ref bRs :: .ref bRf :: .ref bRo :: .ref bRl :: .int (nI nt) :: .ref bTp :: .ref bTt :: .ref bTd :: .ref bHd :: .ref bFn :: .int (nI nr) :: .ref bRp :: .ref bRt :: .ref bRe :: .ref bRh :: .ref bZs :: .ref bZl :: .ref bSc :: .ref bHn :: .int tr :: [])), (bSc, .inl (cI, 240, .inl mSc)), (bRk, .inl (cI, 6, .inl mRk)), (bRs, .inl (cZ, 6, .inl mRs))] sz) := by
  refine kstartW_z (cc := cX5_readsPerson) (maxL := 5) rfl rfl (Nat.le_of_ble_eq_true rfl) ?_
  intro zp ze zs zm zb zt zc za zQ zA hx hb hml hts hown hN hK hP hD hS hA zin hret ls hl
  have hl : lv_has ls 5 [(0, .ref bM), (1, .int (nI fr)), (2, .int (nI n))] := hl
  have hinX5 : ∀ w ∈ wsX50, w ∈ wsX5_readsPerson := fun _ h => List.mem_cons_of_mem _ (List.mem_append_right _ h)
  have lk29 := hts (.fieldLink RX5 29 "IronRumoursModel" "readKind" "[I") (List.mem_of_getElem? (i := 3) rfl)
  have lk32 := hts (.fieldLink RX5 32 "IronRumoursModel" "readSmith" "[Z") (List.mem_of_getElem? (i := 4) rfl)
  have lk104 := hts (.fieldLink RX5 104 "IronRumoursModel" "readAt" "I") (List.mem_of_getElem? (i := 2) rfl)
  have lk111 := hts (.fieldLink RX5 111 "IronRumoursModel" "readPersons" "I") (List.mem_of_getElem? (i := 1) rfl)
  refine lv_aload_n hx hb dX5_readsPerson_0 rfl (lv_at hl 0 rfl) ?_
  refine lv_iload_n hx hb dX5_readsPerson_1 rfl (lv_at hl 1 rfl) ?_
  refine lv_iload_n hx hb dX5_readsPerson_2 rfl (lv_at hl 2 rfl) ?_
  refine rc_i (va_runV (As := [.int (nI fr), .int (nI n)]) (rest := []) ⟨hx, hb, hml, hown, hts⟩ (kX5_codeAt bM fa np bKk bKs hm nw bWf bWt bWl lw bFo (1 + 2 * k) k qw_ bRk bRs bRf bRo bRl nt bTp bTt bTd bHd bFn nr bRp bRt bRe bRh bZs bZl bSc bHn tr mSc fr n hin (by omega)) (cwV 2 hts gX5_readsPerson_X5_codeAt rfl rfl rfl hvX5_codeAt ⟨Nat.le_of_ble_eq_true rfl, Nat.le_of_ble_eq_true rfl⟩) (rpreV hN (q := (RX5, TX5, 35)) (ci := 5) hK (hP.sub [0, 1] rfl) 0 rfl rfl) rfl rfl hl.1 rfl (lv_room (Nat.le_of_ble_eq_true rfl)) dX5_readsPerson_3 ⟨Nat.zero_le _, Nat.zero_le _⟩) (fun r_1 hr_1 => ?_)
  have hr_1 : r_1 = rc9 (kcode mSc fr n) n (1 + 2 * k) := hr_1
  rw [hr_1]
  refine lv_istore_n (lv' := [(3, .int (rc9 (kcode mSc fr n) n (1 + 2 * k))), (0, .ref bM), (1, .int (nI fr)), (2, .int (nI n))]) hx hb dX5_readsPerson_6 rfl hl (by decide) rfl (fun ls hl => ?_)
  refine lv_aload_n hx hb dX5_readsPerson_7 rfl (lv_at hl 1 rfl) ?_
  refine va_get (D := (dC, dI)) (ci := 5) (v := .int (nI k)) (C := RX5) (T := TX5) (N := 35) hx hb hts hinX5 hown hK hP 0 rfl rfl 12 (by decide) lk111 (fun _ h9 => h9) rfl dX5_readsPerson_8 ?_
  refine lv_bipush (v := nI 6) hx hb dX5_readsPerson_11 (by decide) ?_
  refine k_icmp_eq (tgt := 34) hx hb dX5_readsPerson_13 (by decide) (by omega) (by omega) (fun c13 => ?_) (fun c13 => ?_)
  · refine lv_iconst (v := nI 0) hx hb dX5_readsPerson_34 (by decide) ?_
    refine k_cast (y := kb false) (rfl) ?_
    refine hret 35 _ false (mRk, mRs, 1 + 2 * k, k) _ _ dX5_readsPerson_35 hS (fun t ht _ => by rw [ht]; exact hP) ?_
    have hg : pGo (kcode mSc fr n) k = false := by unfold pGo; rw [c13]; rfl
    exact ⟨by rw [hg], by unfold pPost; rw [if_neg (by rw [hg]; decide)]; unfold pFail; rw [if_neg (by omega)]; exact ⟨rfl, rfl, rfl, rfl⟩⟩
  · refine lv_iload_n hx hb dX5_readsPerson_16 rfl (lv_at hl 0 rfl) ?_
    refine lv_bipush (v := nI 116) hx hb dX5_readsPerson_17 (by decide) ?_
    refine lv_icmp_eq (tgt := 36) hx hb dX5_readsPerson_19 (by decide) (fun c19 => ?_) (fun c19 => ?_)
    · refine lv_aload_n hx hb dX5_readsPerson_36 rfl (lv_at hl 1 rfl) ?_
      refine lv_dup hx hb dX5_readsPerson_37 rfl ?_
      refine va_get (D := (dC, dI)) (ci := 5) (v := .int (nI (1 + 2 * k))) (C := RX5) (T := TX5) (N := 35) hx hb hts hinX5 hown hK hP 0 rfl rfl 11 (by decide) lk104 (fun _ h9 => h9) rfl dX5_readsPerson_38 ?_
      refine lv_iconst (v := nI 1) hx hb dX5_readsPerson_41 (by decide) ?_
      refine k_iadd hx hb dX5_readsPerson_42 ?_
      refine va_put (D := (dC, dI)) (ci := 5) (v := .int (nI ((1 + 2 * k) + 1))) (ty := .int) (C := RX5) (T := TX5) (N := 35) hx hb hts hinX5 tyX5 tyX5_ok nmX5 hown hK hP hD hS 0 rfl rfl 11 (by decide) lk104 (fun _ h9 => h9) rfl (tyX5_ok 11 (by decide)) rfl rfl (Nat.le_of_ble_eq_true rfl) dX5_readsPerson_43 (fun H_2 locs hP hD hS => ?_)
      have hP : va_P (dC, dI) vwCl [(bM, .inr (5, .int (nI fa) :: .int (nI np) :: .ref bKk :: .ref bKs :: .int (nI hm) :: .int (nI nw) :: .ref bWf :: .ref bWt :: .ref bWl :: .int (nI lw) :: .ref bFo :: .int (nI ((1 + 2 * k) + 1)) :: .int (nI k) :: .int (nI qw_) :: .ref bRk :: .ref bRs :: .ref bRf :: .ref bRo :: .ref bRl :: .int (nI nt) :: .ref bTp :: .ref bTt :: .ref bTd :: .ref bHd :: .ref bFn :: .int (nI nr) :: .ref bRp :: .ref bRt :: .ref bRe :: .ref bRh :: .ref bZs :: .ref bZl :: .ref bSc :: .ref bHn :: .int tr :: [])), (bSc, .inl (cI, 240, .inl mSc)), (bRk, .inl (cI, 6, .inl mRk)), (bRs, .inl (cZ, 6, .inl mRs))] H_2 := hP
      have hD : va_D zA [(bM, .inr (5, .int (nI fa) :: .int (nI np) :: .ref bKk :: .ref bKs :: .int (nI hm) :: .int (nI nw) :: .ref bWf :: .ref bWt :: .ref bWl :: .int (nI lw) :: .ref bFo :: .int (nI ((1 + 2 * k) + 1)) :: .int (nI k) :: .int (nI qw_) :: .ref bRk :: .ref bRs :: .ref bRf :: .ref bRo :: .ref bRl :: .int (nI nt) :: .ref bTp :: .ref bTt :: .ref bTd :: .ref bHd :: .ref bFn :: .int (nI nr) :: .ref bRp :: .ref bRt :: .ref bRe :: .ref bRh :: .ref bZs :: .ref bZl :: .ref bSc :: .ref bHn :: .int tr :: [])), (bSc, .inl (cI, 240, .inl mSc)), (bRk, .inl (cI, 6, .inl mRk)), (bRs, .inl (cZ, 6, .inl mRs))] := hD
      refine lv_aload_n hx hb dX5_readsPerson_46 rfl (lv_at hl 1 rfl) ?_
      refine lv_iload_n hx hb dX5_readsPerson_47 rfl (lv_at hl 2 rfl) ?_
      refine lv_iload_n hx hb dX5_readsPerson_48 rfl (lv_at hl 3 rfl) ?_
      refine lv_iconst (v := nI 0) hx hb dX5_readsPerson_49 (by decide) ?_
      refine lv_iconst (v := nI 1) hx hb dX5_readsPerson_50 (by decide) ?_
      refine kc_i (wr := [(bRk, .inl (cI, 6, .inl mRk)), (bRs, .inl (cZ, 6, .inl mRs))]) (va_runV (As := [.int (nI fr), .int (nI n), .int (nI 0), .int (nI 1)]) (rest := []) ⟨hx, hb, hml, hown, hts⟩ (kX5_figure bM fa np bKk bKs hm nw bWf bWt bWl lw bFo (1 + 2 * k + 1) k qw_ bRk bRs bRf bRo bRl nt bTp bTt bTd bHd bFn nr bRp bRt bRe bRh bZs bZl bSc bHn tr mSc fr n 0 1 hin (by omega) (by omega) (by omega)) (cwV 4 hts gX5_readsPerson_X5_figure rfl rfl rfl hvX5_figure ⟨Nat.le_of_ble_eq_true rfl, Nat.le_of_ble_eq_true rfl⟩) (kpreV hN (q := (RX5, TX5, 35)) (ci := 5) hK (hP.sub [0, 1] rfl) (hD.sub [0, 1] (by decide) rfl) 0 rfl rfl) rfl rfl hl.1 rfl (lv_room (Nat.le_of_ble_eq_true rfl)) dX5_readsPerson_51 ⟨Nat.zero_le _, Nat.zero_le _⟩) (fun _ => by simp only [List.map]) hP hD hS hA [0, 1] [2, 3] rfl rfl (by decide) (by decide) (by decide) (fun r_3 a_5 H_4 locs hr_3 hP hD hS => ?_)
      have hP : va_P (dC, dI) vwCl [(bRk, .inl (cI, 6, .inl mRk)), (bRs, .inl (cZ, 6, .inl mRs)), (bM, .inr (5, .int (nI fa) :: .int (nI np) :: .ref bKk :: .ref bKs :: .int (nI hm) :: .int (nI nw) :: .ref bWf :: .ref bWt :: .ref bWl :: .int (nI lw) :: .ref bFo :: .int (nI a_5) :: .int (nI k) :: .int (nI qw_) :: .ref bRk :: .ref bRs :: .ref bRf :: .ref bRo :: .ref bRl :: .int (nI nt) :: .ref bTp :: .ref bTt :: .ref bTd :: .ref bHd :: .ref bFn :: .int (nI nr) :: .ref bRp :: .ref bRt :: .ref bRe :: .ref bRh :: .ref bZs :: .ref bZl :: .ref bSc :: .ref bHn :: .int tr :: [])), (bSc, .inl (cI, 240, .inl mSc))] H_4 := hP
      have hD : va_D zA [(bRk, .inl (cI, 6, .inl mRk)), (bRs, .inl (cZ, 6, .inl mRs)), (bM, .inr (5, .int (nI fa) :: .int (nI np) :: .ref bKk :: .ref bKs :: .int (nI hm) :: .int (nI nw) :: .ref bWf :: .ref bWt :: .ref bWl :: .int (nI lw) :: .ref bFo :: .int (nI a_5) :: .int (nI k) :: .int (nI qw_) :: .ref bRk :: .ref bRs :: .ref bRf :: .ref bRo :: .ref bRl :: .int (nI nt) :: .ref bTp :: .ref bTt :: .ref bTd :: .ref bHd :: .ref bFn :: .int (nI nr) :: .ref bRp :: .ref bRt :: .ref bRe :: .ref bRh :: .ref bZs :: .ref bZl :: .ref bSc :: .ref bHn :: .int tr :: [])), (bSc, .inl (cI, 240, .inl mSc))] := hD
      have hP := hP.sub (ws' := [(bM, .inr (5, .int (nI fa) :: .int (nI np) :: .ref bKk :: .ref bKs :: .int (nI hm) :: .int (nI nw) :: .ref bWf :: .ref bWt :: .ref bWl :: .int (nI lw) :: .ref bFo :: .int (nI a_5) :: .int (nI k) :: .int (nI qw_) :: .ref bRk :: .ref bRs :: .ref bRf :: .ref bRo :: .ref bRl :: .int (nI nt) :: .ref bTp :: .ref bTt :: .ref bTd :: .ref bHd :: .ref bFn :: .int (nI nr) :: .ref bRp :: .ref bRt :: .ref bRe :: .ref bRh :: .ref bZs :: .ref bZl :: .ref bSc :: .ref bHn :: .int tr :: [])), (bSc, .inl (cI, 240, .inl mSc)), (bRk, .inl (cI, 6, .inl mRk)), (bRs, .inl (cZ, 6, .inl mRs))]) [2, 3, 0, 1] rfl
      have hD := hD.sub (ws' := [(bM, .inr (5, .int (nI fa) :: .int (nI np) :: .ref bKk :: .ref bKs :: .int (nI hm) :: .int (nI nw) :: .ref bWf :: .ref bWt :: .ref bWl :: .int (nI lw) :: .ref bFo :: .int (nI a_5) :: .int (nI k) :: .int (nI qw_) :: .ref bRk :: .ref bRs :: .ref bRf :: .ref bRo :: .ref bRl :: .int (nI nt) :: .ref bTp :: .ref bTt :: .ref bTd :: .ref bHd :: .ref bFn :: .int (nI nr) :: .ref bRp :: .ref bRt :: .ref bRe :: .ref bRh :: .ref bZs :: .ref bZl :: .ref bSc :: .ref bHn :: .int tr :: [])), (bSc, .inl (cI, 240, .inl mSc)), (bRk, .inl (cI, 6, .inl mRk)), (bRs, .inl (cZ, 6, .inl mRs))]) [2, 3, 0, 1] (by decide) rfl
      obtain ⟨er_3, hr_3⟩ := hr_3
      have er_3 : r_3 = kNone (digN ((kcode mSc fr n) (1 + 2 * k + 1)) 0 1) := er_3
      rw [er_3]
      refine lv_istore (lv' := [(4, .int (kNone (digN ((kcode mSc fr n) (1 + 2 * k + 1)) 0 1))), (3, .int (rc9 (kcode mSc fr n) n (1 + 2 * k))), (0, .ref bM), (1, .int (nI fr)), (2, .int (nI n))]) hx hb dX5_readsPerson_54 hl (by decide) rfl (fun ls hl => ?_)
      refine lv_iload hx hb dX5_readsPerson_56 (lv_at hl 0 rfl) ?_
      refine lv_if_ge (tgt := 63) hx hb dX5_readsPerson_58 (by decide) (fun c58 => ?_) (fun c58 => ?_)
      · have hdg : kNone (aNum (kcode mSc fr n) k) = nI (aNum (kcode mSc fr n) k) ∧ aNum (kcode mSc fr n) k ≠ 999 ∧ 0 ≤ aNum (kcode mSc fr n) k ∧ aNum (kcode mSc fr n) k ≤ 1 := kn_ge (by omega) c58
        rw [show kNone (digN ((kcode mSc fr n) (1 + 2 * k + 1)) 0 1) = nI (aNum (kcode mSc fr n) k) from hdg.1] at hl
        refine lv_aload_n hx hb dX5_readsPerson_63 rfl (lv_at hl 2 rfl) ?_
        refine va_get (D := (dC, dI)) (ci := 5) (v := .ref bRk) (C := RX5) (T := TX5) (N := 35) hx hb hts hinX5 hown hK hP 0 rfl rfl 14 (by decide) lk29 (fun _ h9 => h9) rfl dX5_readsPerson_64 ?_
        refine lv_aload_n hx hb dX5_readsPerson_67 rfl (lv_at hl 2 rfl) ?_
        refine va_get (D := (dC, dI)) (ci := 5) (v := .int (nI k)) (C := RX5) (T := TX5) (N := 35) hx hb hts hinX5 hown hK hP 0 rfl rfl 12 (by decide) lk111 (fun _ h9 => h9) rfl dX5_readsPerson_68 ?_
        refine lv_iload_n hx hb dX5_readsPerson_71 rfl (lv_at hl 1 rfl) ?_
        refine lv_bipush (v := nI 116) hx hb dX5_readsPerson_72 (by decide) ?_
        refine lv_icmp_ne (tgt := 81) hx hb dX5_readsPerson_74 (by decide) (fun c74 => ?_) (fun c74 => ?_)
        · exact absurd c19 c74
        · refine lv_iconst (v := nI 0) hx hb dX5_readsPerson_77 (by decide) ?_
          refine lv_goto (tgt := 92) hx hb dX5_readsPerson_78 (by decide) ?_
          refine k_iast hx hb hK hP hD hS 2 0 rfl rfl (n := 6) (by omega) (by decide) dX5_readsPerson_92 (fun f_6 H_7 locs ef_6 hP hD hS => ?_)
          have hP : va_P (dC, dI) vwCl [(bM, .inr (5, .int (nI fa) :: .int (nI np) :: .ref bKk :: .ref bKs :: .int (nI hm) :: .int (nI nw) :: .ref bWf :: .ref bWt :: .ref bWl :: .int (nI lw) :: .ref bFo :: .int (nI a_5) :: .int (nI k) :: .int (nI qw_) :: .ref bRk :: .ref bRs :: .ref bRf :: .ref bRo :: .ref bRl :: .int (nI nt) :: .ref bTp :: .ref bTt :: .ref bTd :: .ref bHd :: .ref bFn :: .int (nI nr) :: .ref bRp :: .ref bRt :: .ref bRe :: .ref bRh :: .ref bZs :: .ref bZl :: .ref bSc :: .ref bHn :: .int tr :: [])), (bSc, .inl (cI, 240, .inl mSc)), (bRk, .inl (cI, 6, .inl f_6)), (bRs, .inl (cZ, 6, .inl mRs))] H_7 := hP
          have hD : va_D zA [(bM, .inr (5, .int (nI fa) :: .int (nI np) :: .ref bKk :: .ref bKs :: .int (nI hm) :: .int (nI nw) :: .ref bWf :: .ref bWt :: .ref bWl :: .int (nI lw) :: .ref bFo :: .int (nI a_5) :: .int (nI k) :: .int (nI qw_) :: .ref bRk :: .ref bRs :: .ref bRf :: .ref bRo :: .ref bRl :: .int (nI nt) :: .ref bTp :: .ref bTt :: .ref bTd :: .ref bHd :: .ref bFn :: .int (nI nr) :: .ref bRp :: .ref bRt :: .ref bRe :: .ref bRh :: .ref bZs :: .ref bZl :: .ref bSc :: .ref bHn :: .int tr :: [])), (bSc, .inl (cI, 240, .inl mSc)), (bRk, .inl (cI, 6, .inl f_6)), (bRs, .inl (cZ, 6, .inl mRs))] := hD
          refine lv_aload_n hx hb dX5_readsPerson_93 rfl (lv_at hl 2 rfl) ?_
          refine va_get (D := (dC, dI)) (ci := 5) (v := .ref bRs) (C := RX5) (T := TX5) (N := 35) hx hb hts hinX5 hown hK hP 0 rfl rfl 15 (by decide) lk32 (fun _ h9 => h9) rfl dX5_readsPerson_94 ?_
          refine lv_aload_n hx hb dX5_readsPerson_97 rfl (lv_at hl 2 rfl) ?_
          refine va_get (D := (dC, dI)) (ci := 5) (v := .int (nI k)) (C := RX5) (T := TX5) (N := 35) hx hb hts hinX5 hown hK hP 0 rfl rfl 12 (by decide) lk111 (fun _ h9 => h9) rfl dX5_readsPerson_98 ?_
          refine lv_iload hx hb dX5_readsPerson_101 (lv_at hl 0 rfl) ?_
          refine lv_iconst (v := nI 1) hx hb dX5_readsPerson_103 (by decide) ?_
          refine k_icmp_ne (tgt := 111) hx hb dX5_readsPerson_104 (by decide) (by omega) (by omega) (fun c104 => ?_) (fun c104 => ?_)
          · refine lv_iconst (v := nI 0) hx hb dX5_readsPerson_111 (by decide) ?_
            refine k_cast (y := kb false) (rfl) ?_
            refine k_zast hx hb hK hP hD hS 3 2 rfl rfl (n := 6) (by omega) (by decide) dX5_readsPerson_112 (fun f_8 H_9 locs ef_8 hP hD hS => ?_)
            have hP : va_P (dC, dI) vwCl [(bM, .inr (5, .int (nI fa) :: .int (nI np) :: .ref bKk :: .ref bKs :: .int (nI hm) :: .int (nI nw) :: .ref bWf :: .ref bWt :: .ref bWl :: .int (nI lw) :: .ref bFo :: .int (nI a_5) :: .int (nI k) :: .int (nI qw_) :: .ref bRk :: .ref bRs :: .ref bRf :: .ref bRo :: .ref bRl :: .int (nI nt) :: .ref bTp :: .ref bTt :: .ref bTd :: .ref bHd :: .ref bFn :: .int (nI nr) :: .ref bRp :: .ref bRt :: .ref bRe :: .ref bRh :: .ref bZs :: .ref bZl :: .ref bSc :: .ref bHn :: .int tr :: [])), (bSc, .inl (cI, 240, .inl mSc)), (bRk, .inl (cI, 6, .inl f_6)), (bRs, .inl (cZ, 6, .inl f_8))] H_9 := hP
            have hD : va_D zA [(bM, .inr (5, .int (nI fa) :: .int (nI np) :: .ref bKk :: .ref bKs :: .int (nI hm) :: .int (nI nw) :: .ref bWf :: .ref bWt :: .ref bWl :: .int (nI lw) :: .ref bFo :: .int (nI a_5) :: .int (nI k) :: .int (nI qw_) :: .ref bRk :: .ref bRs :: .ref bRf :: .ref bRo :: .ref bRl :: .int (nI nt) :: .ref bTp :: .ref bTt :: .ref bTd :: .ref bHd :: .ref bFn :: .int (nI nr) :: .ref bRp :: .ref bRt :: .ref bRe :: .ref bRh :: .ref bZs :: .ref bZl :: .ref bSc :: .ref bHn :: .int tr :: [])), (bSc, .inl (cI, 240, .inl mSc)), (bRk, .inl (cI, 6, .inl f_6)), (bRs, .inl (cZ, 6, .inl f_8))] := hD
            refine lv_aload_n hx hb dX5_readsPerson_113 rfl (lv_at hl 2 rfl) ?_
            refine lv_dup hx hb dX5_readsPerson_114 rfl ?_
            refine va_get (D := (dC, dI)) (ci := 5) (v := .int (nI k)) (C := RX5) (T := TX5) (N := 35) hx hb hts hinX5 hown hK hP 0 rfl rfl 12 (by decide) lk111 (fun _ h9 => h9) rfl dX5_readsPerson_115 ?_
            refine lv_iconst (v := nI 1) hx hb dX5_readsPerson_118 (by decide) ?_
            refine k_iadd hx hb dX5_readsPerson_119 ?_
            refine va_put (D := (dC, dI)) (ci := 5) (v := .int (nI (k + 1))) (ty := .int) (C := RX5) (T := TX5) (N := 35) hx hb hts hinX5 tyX5 tyX5_ok nmX5 hown hK hP hD hS 0 rfl rfl 12 (by decide) lk111 (fun _ h9 => h9) rfl (tyX5_ok 12 (by decide)) rfl rfl (Nat.le_of_ble_eq_true rfl) dX5_readsPerson_120 (fun H_10 locs hP hD hS => ?_)
            have hP : va_P (dC, dI) vwCl [(bM, .inr (5, .int (nI fa) :: .int (nI np) :: .ref bKk :: .ref bKs :: .int (nI hm) :: .int (nI nw) :: .ref bWf :: .ref bWt :: .ref bWl :: .int (nI lw) :: .ref bFo :: .int (nI a_5) :: .int (nI (k + 1)) :: .int (nI qw_) :: .ref bRk :: .ref bRs :: .ref bRf :: .ref bRo :: .ref bRl :: .int (nI nt) :: .ref bTp :: .ref bTt :: .ref bTd :: .ref bHd :: .ref bFn :: .int (nI nr) :: .ref bRp :: .ref bRt :: .ref bRe :: .ref bRh :: .ref bZs :: .ref bZl :: .ref bSc :: .ref bHn :: .int tr :: [])), (bSc, .inl (cI, 240, .inl mSc)), (bRk, .inl (cI, 6, .inl f_6)), (bRs, .inl (cZ, 6, .inl f_8))] H_10 := hP
            have hD : va_D zA [(bM, .inr (5, .int (nI fa) :: .int (nI np) :: .ref bKk :: .ref bKs :: .int (nI hm) :: .int (nI nw) :: .ref bWf :: .ref bWt :: .ref bWl :: .int (nI lw) :: .ref bFo :: .int (nI a_5) :: .int (nI (k + 1)) :: .int (nI qw_) :: .ref bRk :: .ref bRs :: .ref bRf :: .ref bRo :: .ref bRl :: .int (nI nt) :: .ref bTp :: .ref bTt :: .ref bTd :: .ref bHd :: .ref bFn :: .int (nI nr) :: .ref bRp :: .ref bRt :: .ref bRe :: .ref bRh :: .ref bZs :: .ref bZl :: .ref bSc :: .ref bHn :: .int tr :: [])), (bSc, .inl (cI, 240, .inl mSc)), (bRk, .inl (cI, 6, .inl f_6)), (bRs, .inl (cZ, 6, .inl f_8))] := hD
            refine lv_iconst (v := nI 1) hx hb dX5_readsPerson_123 (by decide) ?_
            refine k_cast (y := kb true) (rfl) ?_
            refine hret 124 _ true (f_6, f_8, a_5, k + 1) _ _ dX5_readsPerson_124 hS (fun t ht _ => by rw [ht]; exact hP) ?_
            have hz := rc_k0 c19
            have hko : kOK (kcode mSc fr n) k = true := by unfold kOK; rw [hz]; rfl
            have hk5 : k < 6 := by omega
            have hg : pGo (kcode mSc fr n) k = true := by unfold pGo pOK; rw [decide_eq_true hk5, hko, decide_eq_true hdg.2.1]; rfl
            have ha : a_5 = 1 + 2 * (k + 1) := (hr_3.trans (if_neg hdg.2.1)).trans (by omega)
            have hb : aB (kcode mSc fr n) k = false := decide_eq_false c104
            exact ⟨by rw [hg], by unfold pPost; rw [if_pos hg]; exact ⟨ha, rfl, by rw [hz]; exact ef_6, by rw [hb]; exact ef_8⟩⟩
          · refine lv_iconst (v := nI 1) hx hb dX5_readsPerson_107 (by decide) ?_
            refine k_cast (y := kb true) (rfl) ?_
            refine lv_goto (tgt := 112) hx hb dX5_readsPerson_108 (by decide) ?_
            refine k_zast hx hb hK hP hD hS 3 2 rfl rfl (n := 6) (by omega) (by decide) dX5_readsPerson_112 (fun f_11 H_12 locs ef_11 hP hD hS => ?_)
            have hP : va_P (dC, dI) vwCl [(bM, .inr (5, .int (nI fa) :: .int (nI np) :: .ref bKk :: .ref bKs :: .int (nI hm) :: .int (nI nw) :: .ref bWf :: .ref bWt :: .ref bWl :: .int (nI lw) :: .ref bFo :: .int (nI a_5) :: .int (nI k) :: .int (nI qw_) :: .ref bRk :: .ref bRs :: .ref bRf :: .ref bRo :: .ref bRl :: .int (nI nt) :: .ref bTp :: .ref bTt :: .ref bTd :: .ref bHd :: .ref bFn :: .int (nI nr) :: .ref bRp :: .ref bRt :: .ref bRe :: .ref bRh :: .ref bZs :: .ref bZl :: .ref bSc :: .ref bHn :: .int tr :: [])), (bSc, .inl (cI, 240, .inl mSc)), (bRk, .inl (cI, 6, .inl f_6)), (bRs, .inl (cZ, 6, .inl f_11))] H_12 := hP
            have hD : va_D zA [(bM, .inr (5, .int (nI fa) :: .int (nI np) :: .ref bKk :: .ref bKs :: .int (nI hm) :: .int (nI nw) :: .ref bWf :: .ref bWt :: .ref bWl :: .int (nI lw) :: .ref bFo :: .int (nI a_5) :: .int (nI k) :: .int (nI qw_) :: .ref bRk :: .ref bRs :: .ref bRf :: .ref bRo :: .ref bRl :: .int (nI nt) :: .ref bTp :: .ref bTt :: .ref bTd :: .ref bHd :: .ref bFn :: .int (nI nr) :: .ref bRp :: .ref bRt :: .ref bRe :: .ref bRh :: .ref bZs :: .ref bZl :: .ref bSc :: .ref bHn :: .int tr :: [])), (bSc, .inl (cI, 240, .inl mSc)), (bRk, .inl (cI, 6, .inl f_6)), (bRs, .inl (cZ, 6, .inl f_11))] := hD
            refine lv_aload_n hx hb dX5_readsPerson_113 rfl (lv_at hl 2 rfl) ?_
            refine lv_dup hx hb dX5_readsPerson_114 rfl ?_
            refine va_get (D := (dC, dI)) (ci := 5) (v := .int (nI k)) (C := RX5) (T := TX5) (N := 35) hx hb hts hinX5 hown hK hP 0 rfl rfl 12 (by decide) lk111 (fun _ h9 => h9) rfl dX5_readsPerson_115 ?_
            refine lv_iconst (v := nI 1) hx hb dX5_readsPerson_118 (by decide) ?_
            refine k_iadd hx hb dX5_readsPerson_119 ?_
            refine va_put (D := (dC, dI)) (ci := 5) (v := .int (nI (k + 1))) (ty := .int) (C := RX5) (T := TX5) (N := 35) hx hb hts hinX5 tyX5 tyX5_ok nmX5 hown hK hP hD hS 0 rfl rfl 12 (by decide) lk111 (fun _ h9 => h9) rfl (tyX5_ok 12 (by decide)) rfl rfl (Nat.le_of_ble_eq_true rfl) dX5_readsPerson_120 (fun H_13 locs hP hD hS => ?_)
            have hP : va_P (dC, dI) vwCl [(bM, .inr (5, .int (nI fa) :: .int (nI np) :: .ref bKk :: .ref bKs :: .int (nI hm) :: .int (nI nw) :: .ref bWf :: .ref bWt :: .ref bWl :: .int (nI lw) :: .ref bFo :: .int (nI a_5) :: .int (nI (k + 1)) :: .int (nI qw_) :: .ref bRk :: .ref bRs :: .ref bRf :: .ref bRo :: .ref bRl :: .int (nI nt) :: .ref bTp :: .ref bTt :: .ref bTd :: .ref bHd :: .ref bFn :: .int (nI nr) :: .ref bRp :: .ref bRt :: .ref bRe :: .ref bRh :: .ref bZs :: .ref bZl :: .ref bSc :: .ref bHn :: .int tr :: [])), (bSc, .inl (cI, 240, .inl mSc)), (bRk, .inl (cI, 6, .inl f_6)), (bRs, .inl (cZ, 6, .inl f_11))] H_13 := hP
            have hD : va_D zA [(bM, .inr (5, .int (nI fa) :: .int (nI np) :: .ref bKk :: .ref bKs :: .int (nI hm) :: .int (nI nw) :: .ref bWf :: .ref bWt :: .ref bWl :: .int (nI lw) :: .ref bFo :: .int (nI a_5) :: .int (nI (k + 1)) :: .int (nI qw_) :: .ref bRk :: .ref bRs :: .ref bRf :: .ref bRo :: .ref bRl :: .int (nI nt) :: .ref bTp :: .ref bTt :: .ref bTd :: .ref bHd :: .ref bFn :: .int (nI nr) :: .ref bRp :: .ref bRt :: .ref bRe :: .ref bRh :: .ref bZs :: .ref bZl :: .ref bSc :: .ref bHn :: .int tr :: [])), (bSc, .inl (cI, 240, .inl mSc)), (bRk, .inl (cI, 6, .inl f_6)), (bRs, .inl (cZ, 6, .inl f_11))] := hD
            refine lv_iconst (v := nI 1) hx hb dX5_readsPerson_123 (by decide) ?_
            refine k_cast (y := kb true) (rfl) ?_
            refine hret 124 _ true (f_6, f_11, a_5, k + 1) _ _ dX5_readsPerson_124 hS (fun t ht _ => by rw [ht]; exact hP) ?_
            have hz := rc_k0 c19
            have hko : kOK (kcode mSc fr n) k = true := by unfold kOK; rw [hz]; rfl
            have hk5 : k < 6 := by omega
            have hg : pGo (kcode mSc fr n) k = true := by unfold pGo pOK; rw [decide_eq_true hk5, hko, decide_eq_true hdg.2.1]; rfl
            have ha : a_5 = 1 + 2 * (k + 1) := (hr_3.trans (if_neg hdg.2.1)).trans (by omega)
            have hb : aB (kcode mSc fr n) k = true := decide_eq_true c104
            exact ⟨by rw [hg], by unfold pPost; rw [if_pos hg]; exact ⟨ha, rfl, by rw [hz]; exact ef_6, by rw [hb]; exact ef_11⟩⟩
      · refine lv_iconst (v := nI 0) hx hb dX5_readsPerson_61 (by decide) ?_
        refine k_cast (y := kb false) (rfl) ?_
        refine hret 62 _ false (mRk, mRs, a_5, k) _ _ dX5_readsPerson_62 hS (fun t ht _ => by rw [ht]; exact hP) ?_
        have hz := rc_k0 c19
        have hko : kOK (kcode mSc fr n) k = true := by unfold kOK; rw [hz]; rfl
        have hk5 : k < 6 := by omega
        have hn : aNum (kcode mSc fr n) k = 999 := kn_lt (by omega) c58
        have hg : pGo (kcode mSc fr n) k = false := by unfold pGo pOK; rw [hn]; simp
        have ha : a_5 = 1 + 2 * k + 1 := hr_3.trans (if_pos hn)
        exact ⟨by rw [hg], by unfold pPost; rw [if_neg (by rw [hg]; decide)]; unfold pFail; rw [if_pos ⟨hk5, hko⟩]; exact ⟨ha, rfl, rfl, rfl⟩⟩
    · refine lv_iload_n hx hb dX5_readsPerson_22 rfl (lv_at hl 0 rfl) ?_
      refine lv_bipush (v := nI 106) hx hb dX5_readsPerson_23 (by decide) ?_
      refine lv_icmp_eq (tgt := 36) hx hb dX5_readsPerson_25 (by decide) (fun c25 => ?_) (fun c25 => ?_)
      · refine lv_aload_n hx hb dX5_readsPerson_36 rfl (lv_at hl 1 rfl) ?_
        refine lv_dup hx hb dX5_readsPerson_37 rfl ?_
        refine va_get (D := (dC, dI)) (ci := 5) (v := .int (nI (1 + 2 * k))) (C := RX5) (T := TX5) (N := 35) hx hb hts hinX5 hown hK hP 0 rfl rfl 11 (by decide) lk104 (fun _ h9 => h9) rfl dX5_readsPerson_38 ?_
        refine lv_iconst (v := nI 1) hx hb dX5_readsPerson_41 (by decide) ?_
        refine k_iadd hx hb dX5_readsPerson_42 ?_
        refine va_put (D := (dC, dI)) (ci := 5) (v := .int (nI ((1 + 2 * k) + 1))) (ty := .int) (C := RX5) (T := TX5) (N := 35) hx hb hts hinX5 tyX5 tyX5_ok nmX5 hown hK hP hD hS 0 rfl rfl 11 (by decide) lk104 (fun _ h9 => h9) rfl (tyX5_ok 11 (by decide)) rfl rfl (Nat.le_of_ble_eq_true rfl) dX5_readsPerson_43 (fun H_14 locs hP hD hS => ?_)
        have hP : va_P (dC, dI) vwCl [(bM, .inr (5, .int (nI fa) :: .int (nI np) :: .ref bKk :: .ref bKs :: .int (nI hm) :: .int (nI nw) :: .ref bWf :: .ref bWt :: .ref bWl :: .int (nI lw) :: .ref bFo :: .int (nI ((1 + 2 * k) + 1)) :: .int (nI k) :: .int (nI qw_) :: .ref bRk :: .ref bRs :: .ref bRf :: .ref bRo :: .ref bRl :: .int (nI nt) :: .ref bTp :: .ref bTt :: .ref bTd :: .ref bHd :: .ref bFn :: .int (nI nr) :: .ref bRp :: .ref bRt :: .ref bRe :: .ref bRh :: .ref bZs :: .ref bZl :: .ref bSc :: .ref bHn :: .int tr :: [])), (bSc, .inl (cI, 240, .inl mSc)), (bRk, .inl (cI, 6, .inl mRk)), (bRs, .inl (cZ, 6, .inl mRs))] H_14 := hP
        have hD : va_D zA [(bM, .inr (5, .int (nI fa) :: .int (nI np) :: .ref bKk :: .ref bKs :: .int (nI hm) :: .int (nI nw) :: .ref bWf :: .ref bWt :: .ref bWl :: .int (nI lw) :: .ref bFo :: .int (nI ((1 + 2 * k) + 1)) :: .int (nI k) :: .int (nI qw_) :: .ref bRk :: .ref bRs :: .ref bRf :: .ref bRo :: .ref bRl :: .int (nI nt) :: .ref bTp :: .ref bTt :: .ref bTd :: .ref bHd :: .ref bFn :: .int (nI nr) :: .ref bRp :: .ref bRt :: .ref bRe :: .ref bRh :: .ref bZs :: .ref bZl :: .ref bSc :: .ref bHn :: .int tr :: [])), (bSc, .inl (cI, 240, .inl mSc)), (bRk, .inl (cI, 6, .inl mRk)), (bRs, .inl (cZ, 6, .inl mRs))] := hD
        refine lv_aload_n hx hb dX5_readsPerson_46 rfl (lv_at hl 1 rfl) ?_
        refine lv_iload_n hx hb dX5_readsPerson_47 rfl (lv_at hl 2 rfl) ?_
        refine lv_iload_n hx hb dX5_readsPerson_48 rfl (lv_at hl 3 rfl) ?_
        refine lv_iconst (v := nI 0) hx hb dX5_readsPerson_49 (by decide) ?_
        refine lv_iconst (v := nI 1) hx hb dX5_readsPerson_50 (by decide) ?_
        refine kc_i (wr := [(bRk, .inl (cI, 6, .inl mRk)), (bRs, .inl (cZ, 6, .inl mRs))]) (va_runV (As := [.int (nI fr), .int (nI n), .int (nI 0), .int (nI 1)]) (rest := []) ⟨hx, hb, hml, hown, hts⟩ (kX5_figure bM fa np bKk bKs hm nw bWf bWt bWl lw bFo (1 + 2 * k + 1) k qw_ bRk bRs bRf bRo bRl nt bTp bTt bTd bHd bFn nr bRp bRt bRe bRh bZs bZl bSc bHn tr mSc fr n 0 1 hin (by omega) (by omega) (by omega)) (cwV 4 hts gX5_readsPerson_X5_figure rfl rfl rfl hvX5_figure ⟨Nat.le_of_ble_eq_true rfl, Nat.le_of_ble_eq_true rfl⟩) (kpreV hN (q := (RX5, TX5, 35)) (ci := 5) hK (hP.sub [0, 1] rfl) (hD.sub [0, 1] (by decide) rfl) 0 rfl rfl) rfl rfl hl.1 rfl (lv_room (Nat.le_of_ble_eq_true rfl)) dX5_readsPerson_51 ⟨Nat.zero_le _, Nat.zero_le _⟩) (fun _ => by simp only [List.map]) hP hD hS hA [0, 1] [2, 3] rfl rfl (by decide) (by decide) (by decide) (fun r_15 a_17 H_16 locs hr_15 hP hD hS => ?_)
        have hP : va_P (dC, dI) vwCl [(bRk, .inl (cI, 6, .inl mRk)), (bRs, .inl (cZ, 6, .inl mRs)), (bM, .inr (5, .int (nI fa) :: .int (nI np) :: .ref bKk :: .ref bKs :: .int (nI hm) :: .int (nI nw) :: .ref bWf :: .ref bWt :: .ref bWl :: .int (nI lw) :: .ref bFo :: .int (nI a_17) :: .int (nI k) :: .int (nI qw_) :: .ref bRk :: .ref bRs :: .ref bRf :: .ref bRo :: .ref bRl :: .int (nI nt) :: .ref bTp :: .ref bTt :: .ref bTd :: .ref bHd :: .ref bFn :: .int (nI nr) :: .ref bRp :: .ref bRt :: .ref bRe :: .ref bRh :: .ref bZs :: .ref bZl :: .ref bSc :: .ref bHn :: .int tr :: [])), (bSc, .inl (cI, 240, .inl mSc))] H_16 := hP
        have hD : va_D zA [(bRk, .inl (cI, 6, .inl mRk)), (bRs, .inl (cZ, 6, .inl mRs)), (bM, .inr (5, .int (nI fa) :: .int (nI np) :: .ref bKk :: .ref bKs :: .int (nI hm) :: .int (nI nw) :: .ref bWf :: .ref bWt :: .ref bWl :: .int (nI lw) :: .ref bFo :: .int (nI a_17) :: .int (nI k) :: .int (nI qw_) :: .ref bRk :: .ref bRs :: .ref bRf :: .ref bRo :: .ref bRl :: .int (nI nt) :: .ref bTp :: .ref bTt :: .ref bTd :: .ref bHd :: .ref bFn :: .int (nI nr) :: .ref bRp :: .ref bRt :: .ref bRe :: .ref bRh :: .ref bZs :: .ref bZl :: .ref bSc :: .ref bHn :: .int tr :: [])), (bSc, .inl (cI, 240, .inl mSc))] := hD
        have hP := hP.sub (ws' := [(bM, .inr (5, .int (nI fa) :: .int (nI np) :: .ref bKk :: .ref bKs :: .int (nI hm) :: .int (nI nw) :: .ref bWf :: .ref bWt :: .ref bWl :: .int (nI lw) :: .ref bFo :: .int (nI a_17) :: .int (nI k) :: .int (nI qw_) :: .ref bRk :: .ref bRs :: .ref bRf :: .ref bRo :: .ref bRl :: .int (nI nt) :: .ref bTp :: .ref bTt :: .ref bTd :: .ref bHd :: .ref bFn :: .int (nI nr) :: .ref bRp :: .ref bRt :: .ref bRe :: .ref bRh :: .ref bZs :: .ref bZl :: .ref bSc :: .ref bHn :: .int tr :: [])), (bSc, .inl (cI, 240, .inl mSc)), (bRk, .inl (cI, 6, .inl mRk)), (bRs, .inl (cZ, 6, .inl mRs))]) [2, 3, 0, 1] rfl
        have hD := hD.sub (ws' := [(bM, .inr (5, .int (nI fa) :: .int (nI np) :: .ref bKk :: .ref bKs :: .int (nI hm) :: .int (nI nw) :: .ref bWf :: .ref bWt :: .ref bWl :: .int (nI lw) :: .ref bFo :: .int (nI a_17) :: .int (nI k) :: .int (nI qw_) :: .ref bRk :: .ref bRs :: .ref bRf :: .ref bRo :: .ref bRl :: .int (nI nt) :: .ref bTp :: .ref bTt :: .ref bTd :: .ref bHd :: .ref bFn :: .int (nI nr) :: .ref bRp :: .ref bRt :: .ref bRe :: .ref bRh :: .ref bZs :: .ref bZl :: .ref bSc :: .ref bHn :: .int tr :: [])), (bSc, .inl (cI, 240, .inl mSc)), (bRk, .inl (cI, 6, .inl mRk)), (bRs, .inl (cZ, 6, .inl mRs))]) [2, 3, 0, 1] (by decide) rfl
        obtain ⟨er_15, hr_15⟩ := hr_15
        have er_15 : r_15 = kNone (digN ((kcode mSc fr n) (1 + 2 * k + 1)) 0 1) := er_15
        rw [er_15]
        refine lv_istore (lv' := [(4, .int (kNone (digN ((kcode mSc fr n) (1 + 2 * k + 1)) 0 1))), (3, .int (rc9 (kcode mSc fr n) n (1 + 2 * k))), (0, .ref bM), (1, .int (nI fr)), (2, .int (nI n))]) hx hb dX5_readsPerson_54 hl (by decide) rfl (fun ls hl => ?_)
        refine lv_iload hx hb dX5_readsPerson_56 (lv_at hl 0 rfl) ?_
        refine lv_if_ge (tgt := 63) hx hb dX5_readsPerson_58 (by decide) (fun c58 => ?_) (fun c58 => ?_)
        · have hdg : kNone (aNum (kcode mSc fr n) k) = nI (aNum (kcode mSc fr n) k) ∧ aNum (kcode mSc fr n) k ≠ 999 ∧ 0 ≤ aNum (kcode mSc fr n) k ∧ aNum (kcode mSc fr n) k ≤ 1 := kn_ge (by omega) c58
          rw [show kNone (digN ((kcode mSc fr n) (1 + 2 * k + 1)) 0 1) = nI (aNum (kcode mSc fr n) k) from hdg.1] at hl
          refine lv_aload_n hx hb dX5_readsPerson_63 rfl (lv_at hl 2 rfl) ?_
          refine va_get (D := (dC, dI)) (ci := 5) (v := .ref bRk) (C := RX5) (T := TX5) (N := 35) hx hb hts hinX5 hown hK hP 0 rfl rfl 14 (by decide) lk29 (fun _ h9 => h9) rfl dX5_readsPerson_64 ?_
          refine lv_aload_n hx hb dX5_readsPerson_67 rfl (lv_at hl 2 rfl) ?_
          refine va_get (D := (dC, dI)) (ci := 5) (v := .int (nI k)) (C := RX5) (T := TX5) (N := 35) hx hb hts hinX5 hown hK hP 0 rfl rfl 12 (by decide) lk111 (fun _ h9 => h9) rfl dX5_readsPerson_68 ?_
          refine lv_iload_n hx hb dX5_readsPerson_71 rfl (lv_at hl 1 rfl) ?_
          refine lv_bipush (v := nI 116) hx hb dX5_readsPerson_72 (by decide) ?_
          refine lv_icmp_ne (tgt := 81) hx hb dX5_readsPerson_74 (by decide) (fun c74 => ?_) (fun c74 => ?_)
          · refine lv_iload_n hx hb dX5_readsPerson_81 rfl (lv_at hl 1 rfl) ?_
            refine lv_bipush (v := nI 106) hx hb dX5_readsPerson_82 (by decide) ?_
            refine lv_icmp_ne (tgt := 91) hx hb dX5_readsPerson_84 (by decide) (fun c84 => ?_) (fun c84 => ?_)
            · exact absurd c25 c84
            · refine lv_iconst (v := nI 1) hx hb dX5_readsPerson_87 (by decide) ?_
              refine lv_goto (tgt := 92) hx hb dX5_readsPerson_88 (by decide) ?_
              refine k_iast hx hb hK hP hD hS 2 0 rfl rfl (n := 6) (by omega) (by decide) dX5_readsPerson_92 (fun f_18 H_19 locs ef_18 hP hD hS => ?_)
              have hP : va_P (dC, dI) vwCl [(bM, .inr (5, .int (nI fa) :: .int (nI np) :: .ref bKk :: .ref bKs :: .int (nI hm) :: .int (nI nw) :: .ref bWf :: .ref bWt :: .ref bWl :: .int (nI lw) :: .ref bFo :: .int (nI a_17) :: .int (nI k) :: .int (nI qw_) :: .ref bRk :: .ref bRs :: .ref bRf :: .ref bRo :: .ref bRl :: .int (nI nt) :: .ref bTp :: .ref bTt :: .ref bTd :: .ref bHd :: .ref bFn :: .int (nI nr) :: .ref bRp :: .ref bRt :: .ref bRe :: .ref bRh :: .ref bZs :: .ref bZl :: .ref bSc :: .ref bHn :: .int tr :: [])), (bSc, .inl (cI, 240, .inl mSc)), (bRk, .inl (cI, 6, .inl f_18)), (bRs, .inl (cZ, 6, .inl mRs))] H_19 := hP
              have hD : va_D zA [(bM, .inr (5, .int (nI fa) :: .int (nI np) :: .ref bKk :: .ref bKs :: .int (nI hm) :: .int (nI nw) :: .ref bWf :: .ref bWt :: .ref bWl :: .int (nI lw) :: .ref bFo :: .int (nI a_17) :: .int (nI k) :: .int (nI qw_) :: .ref bRk :: .ref bRs :: .ref bRf :: .ref bRo :: .ref bRl :: .int (nI nt) :: .ref bTp :: .ref bTt :: .ref bTd :: .ref bHd :: .ref bFn :: .int (nI nr) :: .ref bRp :: .ref bRt :: .ref bRe :: .ref bRh :: .ref bZs :: .ref bZl :: .ref bSc :: .ref bHn :: .int tr :: [])), (bSc, .inl (cI, 240, .inl mSc)), (bRk, .inl (cI, 6, .inl f_18)), (bRs, .inl (cZ, 6, .inl mRs))] := hD
              refine lv_aload_n hx hb dX5_readsPerson_93 rfl (lv_at hl 2 rfl) ?_
              refine va_get (D := (dC, dI)) (ci := 5) (v := .ref bRs) (C := RX5) (T := TX5) (N := 35) hx hb hts hinX5 hown hK hP 0 rfl rfl 15 (by decide) lk32 (fun _ h9 => h9) rfl dX5_readsPerson_94 ?_
              refine lv_aload_n hx hb dX5_readsPerson_97 rfl (lv_at hl 2 rfl) ?_
              refine va_get (D := (dC, dI)) (ci := 5) (v := .int (nI k)) (C := RX5) (T := TX5) (N := 35) hx hb hts hinX5 hown hK hP 0 rfl rfl 12 (by decide) lk111 (fun _ h9 => h9) rfl dX5_readsPerson_98 ?_
              refine lv_iload hx hb dX5_readsPerson_101 (lv_at hl 0 rfl) ?_
              refine lv_iconst (v := nI 1) hx hb dX5_readsPerson_103 (by decide) ?_
              refine k_icmp_ne (tgt := 111) hx hb dX5_readsPerson_104 (by decide) (by omega) (by omega) (fun c104 => ?_) (fun c104 => ?_)
              · refine lv_iconst (v := nI 0) hx hb dX5_readsPerson_111 (by decide) ?_
                refine k_cast (y := kb false) (rfl) ?_
                refine k_zast hx hb hK hP hD hS 3 2 rfl rfl (n := 6) (by omega) (by decide) dX5_readsPerson_112 (fun f_20 H_21 locs ef_20 hP hD hS => ?_)
                have hP : va_P (dC, dI) vwCl [(bM, .inr (5, .int (nI fa) :: .int (nI np) :: .ref bKk :: .ref bKs :: .int (nI hm) :: .int (nI nw) :: .ref bWf :: .ref bWt :: .ref bWl :: .int (nI lw) :: .ref bFo :: .int (nI a_17) :: .int (nI k) :: .int (nI qw_) :: .ref bRk :: .ref bRs :: .ref bRf :: .ref bRo :: .ref bRl :: .int (nI nt) :: .ref bTp :: .ref bTt :: .ref bTd :: .ref bHd :: .ref bFn :: .int (nI nr) :: .ref bRp :: .ref bRt :: .ref bRe :: .ref bRh :: .ref bZs :: .ref bZl :: .ref bSc :: .ref bHn :: .int tr :: [])), (bSc, .inl (cI, 240, .inl mSc)), (bRk, .inl (cI, 6, .inl f_18)), (bRs, .inl (cZ, 6, .inl f_20))] H_21 := hP
                have hD : va_D zA [(bM, .inr (5, .int (nI fa) :: .int (nI np) :: .ref bKk :: .ref bKs :: .int (nI hm) :: .int (nI nw) :: .ref bWf :: .ref bWt :: .ref bWl :: .int (nI lw) :: .ref bFo :: .int (nI a_17) :: .int (nI k) :: .int (nI qw_) :: .ref bRk :: .ref bRs :: .ref bRf :: .ref bRo :: .ref bRl :: .int (nI nt) :: .ref bTp :: .ref bTt :: .ref bTd :: .ref bHd :: .ref bFn :: .int (nI nr) :: .ref bRp :: .ref bRt :: .ref bRe :: .ref bRh :: .ref bZs :: .ref bZl :: .ref bSc :: .ref bHn :: .int tr :: [])), (bSc, .inl (cI, 240, .inl mSc)), (bRk, .inl (cI, 6, .inl f_18)), (bRs, .inl (cZ, 6, .inl f_20))] := hD
                refine lv_aload_n hx hb dX5_readsPerson_113 rfl (lv_at hl 2 rfl) ?_
                refine lv_dup hx hb dX5_readsPerson_114 rfl ?_
                refine va_get (D := (dC, dI)) (ci := 5) (v := .int (nI k)) (C := RX5) (T := TX5) (N := 35) hx hb hts hinX5 hown hK hP 0 rfl rfl 12 (by decide) lk111 (fun _ h9 => h9) rfl dX5_readsPerson_115 ?_
                refine lv_iconst (v := nI 1) hx hb dX5_readsPerson_118 (by decide) ?_
                refine k_iadd hx hb dX5_readsPerson_119 ?_
                refine va_put (D := (dC, dI)) (ci := 5) (v := .int (nI (k + 1))) (ty := .int) (C := RX5) (T := TX5) (N := 35) hx hb hts hinX5 tyX5 tyX5_ok nmX5 hown hK hP hD hS 0 rfl rfl 12 (by decide) lk111 (fun _ h9 => h9) rfl (tyX5_ok 12 (by decide)) rfl rfl (Nat.le_of_ble_eq_true rfl) dX5_readsPerson_120 (fun H_22 locs hP hD hS => ?_)
                have hP : va_P (dC, dI) vwCl [(bM, .inr (5, .int (nI fa) :: .int (nI np) :: .ref bKk :: .ref bKs :: .int (nI hm) :: .int (nI nw) :: .ref bWf :: .ref bWt :: .ref bWl :: .int (nI lw) :: .ref bFo :: .int (nI a_17) :: .int (nI (k + 1)) :: .int (nI qw_) :: .ref bRk :: .ref bRs :: .ref bRf :: .ref bRo :: .ref bRl :: .int (nI nt) :: .ref bTp :: .ref bTt :: .ref bTd :: .ref bHd :: .ref bFn :: .int (nI nr) :: .ref bRp :: .ref bRt :: .ref bRe :: .ref bRh :: .ref bZs :: .ref bZl :: .ref bSc :: .ref bHn :: .int tr :: [])), (bSc, .inl (cI, 240, .inl mSc)), (bRk, .inl (cI, 6, .inl f_18)), (bRs, .inl (cZ, 6, .inl f_20))] H_22 := hP
                have hD : va_D zA [(bM, .inr (5, .int (nI fa) :: .int (nI np) :: .ref bKk :: .ref bKs :: .int (nI hm) :: .int (nI nw) :: .ref bWf :: .ref bWt :: .ref bWl :: .int (nI lw) :: .ref bFo :: .int (nI a_17) :: .int (nI (k + 1)) :: .int (nI qw_) :: .ref bRk :: .ref bRs :: .ref bRf :: .ref bRo :: .ref bRl :: .int (nI nt) :: .ref bTp :: .ref bTt :: .ref bTd :: .ref bHd :: .ref bFn :: .int (nI nr) :: .ref bRp :: .ref bRt :: .ref bRe :: .ref bRh :: .ref bZs :: .ref bZl :: .ref bSc :: .ref bHn :: .int tr :: [])), (bSc, .inl (cI, 240, .inl mSc)), (bRk, .inl (cI, 6, .inl f_18)), (bRs, .inl (cZ, 6, .inl f_20))] := hD
                refine lv_iconst (v := nI 1) hx hb dX5_readsPerson_123 (by decide) ?_
                refine k_cast (y := kb true) (rfl) ?_
                refine hret 124 _ true (f_18, f_20, a_17, k + 1) _ _ dX5_readsPerson_124 hS (fun t ht _ => by rw [ht]; exact hP) ?_
                have hz := rc_k1 c19 c25
                have hko : kOK (kcode mSc fr n) k = true := by unfold kOK; rw [hz]; rfl
                have hk5 : k < 6 := by omega
                have hg : pGo (kcode mSc fr n) k = true := by unfold pGo pOK; rw [decide_eq_true hk5, hko, decide_eq_true hdg.2.1]; rfl
                have ha : a_17 = 1 + 2 * (k + 1) := (hr_15.trans (if_neg hdg.2.1)).trans (by omega)
                have hb : aB (kcode mSc fr n) k = false := decide_eq_false c104
                exact ⟨by rw [hg], by unfold pPost; rw [if_pos hg]; exact ⟨ha, rfl, by rw [hz]; exact ef_18, by rw [hb]; exact ef_20⟩⟩
              · refine lv_iconst (v := nI 1) hx hb dX5_readsPerson_107 (by decide) ?_
                refine k_cast (y := kb true) (rfl) ?_
                refine lv_goto (tgt := 112) hx hb dX5_readsPerson_108 (by decide) ?_
                refine k_zast hx hb hK hP hD hS 3 2 rfl rfl (n := 6) (by omega) (by decide) dX5_readsPerson_112 (fun f_23 H_24 locs ef_23 hP hD hS => ?_)
                have hP : va_P (dC, dI) vwCl [(bM, .inr (5, .int (nI fa) :: .int (nI np) :: .ref bKk :: .ref bKs :: .int (nI hm) :: .int (nI nw) :: .ref bWf :: .ref bWt :: .ref bWl :: .int (nI lw) :: .ref bFo :: .int (nI a_17) :: .int (nI k) :: .int (nI qw_) :: .ref bRk :: .ref bRs :: .ref bRf :: .ref bRo :: .ref bRl :: .int (nI nt) :: .ref bTp :: .ref bTt :: .ref bTd :: .ref bHd :: .ref bFn :: .int (nI nr) :: .ref bRp :: .ref bRt :: .ref bRe :: .ref bRh :: .ref bZs :: .ref bZl :: .ref bSc :: .ref bHn :: .int tr :: [])), (bSc, .inl (cI, 240, .inl mSc)), (bRk, .inl (cI, 6, .inl f_18)), (bRs, .inl (cZ, 6, .inl f_23))] H_24 := hP
                have hD : va_D zA [(bM, .inr (5, .int (nI fa) :: .int (nI np) :: .ref bKk :: .ref bKs :: .int (nI hm) :: .int (nI nw) :: .ref bWf :: .ref bWt :: .ref bWl :: .int (nI lw) :: .ref bFo :: .int (nI a_17) :: .int (nI k) :: .int (nI qw_) :: .ref bRk :: .ref bRs :: .ref bRf :: .ref bRo :: .ref bRl :: .int (nI nt) :: .ref bTp :: .ref bTt :: .ref bTd :: .ref bHd :: .ref bFn :: .int (nI nr) :: .ref bRp :: .ref bRt :: .ref bRe :: .ref bRh :: .ref bZs :: .ref bZl :: .ref bSc :: .ref bHn :: .int tr :: [])), (bSc, .inl (cI, 240, .inl mSc)), (bRk, .inl (cI, 6, .inl f_18)), (bRs, .inl (cZ, 6, .inl f_23))] := hD
                refine lv_aload_n hx hb dX5_readsPerson_113 rfl (lv_at hl 2 rfl) ?_
                refine lv_dup hx hb dX5_readsPerson_114 rfl ?_
                refine va_get (D := (dC, dI)) (ci := 5) (v := .int (nI k)) (C := RX5) (T := TX5) (N := 35) hx hb hts hinX5 hown hK hP 0 rfl rfl 12 (by decide) lk111 (fun _ h9 => h9) rfl dX5_readsPerson_115 ?_
                refine lv_iconst (v := nI 1) hx hb dX5_readsPerson_118 (by decide) ?_
                refine k_iadd hx hb dX5_readsPerson_119 ?_
                refine va_put (D := (dC, dI)) (ci := 5) (v := .int (nI (k + 1))) (ty := .int) (C := RX5) (T := TX5) (N := 35) hx hb hts hinX5 tyX5 tyX5_ok nmX5 hown hK hP hD hS 0 rfl rfl 12 (by decide) lk111 (fun _ h9 => h9) rfl (tyX5_ok 12 (by decide)) rfl rfl (Nat.le_of_ble_eq_true rfl) dX5_readsPerson_120 (fun H_25 locs hP hD hS => ?_)
                have hP : va_P (dC, dI) vwCl [(bM, .inr (5, .int (nI fa) :: .int (nI np) :: .ref bKk :: .ref bKs :: .int (nI hm) :: .int (nI nw) :: .ref bWf :: .ref bWt :: .ref bWl :: .int (nI lw) :: .ref bFo :: .int (nI a_17) :: .int (nI (k + 1)) :: .int (nI qw_) :: .ref bRk :: .ref bRs :: .ref bRf :: .ref bRo :: .ref bRl :: .int (nI nt) :: .ref bTp :: .ref bTt :: .ref bTd :: .ref bHd :: .ref bFn :: .int (nI nr) :: .ref bRp :: .ref bRt :: .ref bRe :: .ref bRh :: .ref bZs :: .ref bZl :: .ref bSc :: .ref bHn :: .int tr :: [])), (bSc, .inl (cI, 240, .inl mSc)), (bRk, .inl (cI, 6, .inl f_18)), (bRs, .inl (cZ, 6, .inl f_23))] H_25 := hP
                have hD : va_D zA [(bM, .inr (5, .int (nI fa) :: .int (nI np) :: .ref bKk :: .ref bKs :: .int (nI hm) :: .int (nI nw) :: .ref bWf :: .ref bWt :: .ref bWl :: .int (nI lw) :: .ref bFo :: .int (nI a_17) :: .int (nI (k + 1)) :: .int (nI qw_) :: .ref bRk :: .ref bRs :: .ref bRf :: .ref bRo :: .ref bRl :: .int (nI nt) :: .ref bTp :: .ref bTt :: .ref bTd :: .ref bHd :: .ref bFn :: .int (nI nr) :: .ref bRp :: .ref bRt :: .ref bRe :: .ref bRh :: .ref bZs :: .ref bZl :: .ref bSc :: .ref bHn :: .int tr :: [])), (bSc, .inl (cI, 240, .inl mSc)), (bRk, .inl (cI, 6, .inl f_18)), (bRs, .inl (cZ, 6, .inl f_23))] := hD
                refine lv_iconst (v := nI 1) hx hb dX5_readsPerson_123 (by decide) ?_
                refine k_cast (y := kb true) (rfl) ?_
                refine hret 124 _ true (f_18, f_23, a_17, k + 1) _ _ dX5_readsPerson_124 hS (fun t ht _ => by rw [ht]; exact hP) ?_
                have hz := rc_k1 c19 c25
                have hko : kOK (kcode mSc fr n) k = true := by unfold kOK; rw [hz]; rfl
                have hk5 : k < 6 := by omega
                have hg : pGo (kcode mSc fr n) k = true := by unfold pGo pOK; rw [decide_eq_true hk5, hko, decide_eq_true hdg.2.1]; rfl
                have ha : a_17 = 1 + 2 * (k + 1) := (hr_15.trans (if_neg hdg.2.1)).trans (by omega)
                have hb : aB (kcode mSc fr n) k = true := decide_eq_true c104
                exact ⟨by rw [hg], by unfold pPost; rw [if_pos hg]; exact ⟨ha, rfl, by rw [hz]; exact ef_18, by rw [hb]; exact ef_23⟩⟩
          · exact absurd c74 c19
        · refine lv_iconst (v := nI 0) hx hb dX5_readsPerson_61 (by decide) ?_
          refine k_cast (y := kb false) (rfl) ?_
          refine hret 62 _ false (mRk, mRs, a_17, k) _ _ dX5_readsPerson_62 hS (fun t ht _ => by rw [ht]; exact hP) ?_
          have hz := rc_k1 c19 c25
          have hko : kOK (kcode mSc fr n) k = true := by unfold kOK; rw [hz]; rfl
          have hk5 : k < 6 := by omega
          have hn : aNum (kcode mSc fr n) k = 999 := kn_lt (by omega) c58
          have hg : pGo (kcode mSc fr n) k = false := by unfold pGo pOK; rw [hn]; simp
          have ha : a_17 = 1 + 2 * k + 1 := hr_15.trans (if_pos hn)
          exact ⟨by rw [hg], by unfold pPost; rw [if_neg (by rw [hg]; decide)]; unfold pFail; rw [if_pos ⟨hk5, hko⟩]; exact ⟨ha, rfl, rfl, rfl⟩⟩
      · refine lv_iload_n hx hb dX5_readsPerson_28 rfl (lv_at hl 0 rfl) ?_
        refine lv_bipush (v := nI 108) hx hb dX5_readsPerson_29 (by decide) ?_
        refine lv_icmp_eq (tgt := 36) hx hb dX5_readsPerson_31 (by decide) (fun c31 => ?_) (fun c31 => ?_)
        · refine lv_aload_n hx hb dX5_readsPerson_36 rfl (lv_at hl 1 rfl) ?_
          refine lv_dup hx hb dX5_readsPerson_37 rfl ?_
          refine va_get (D := (dC, dI)) (ci := 5) (v := .int (nI (1 + 2 * k))) (C := RX5) (T := TX5) (N := 35) hx hb hts hinX5 hown hK hP 0 rfl rfl 11 (by decide) lk104 (fun _ h9 => h9) rfl dX5_readsPerson_38 ?_
          refine lv_iconst (v := nI 1) hx hb dX5_readsPerson_41 (by decide) ?_
          refine k_iadd hx hb dX5_readsPerson_42 ?_
          refine va_put (D := (dC, dI)) (ci := 5) (v := .int (nI ((1 + 2 * k) + 1))) (ty := .int) (C := RX5) (T := TX5) (N := 35) hx hb hts hinX5 tyX5 tyX5_ok nmX5 hown hK hP hD hS 0 rfl rfl 11 (by decide) lk104 (fun _ h9 => h9) rfl (tyX5_ok 11 (by decide)) rfl rfl (Nat.le_of_ble_eq_true rfl) dX5_readsPerson_43 (fun H_26 locs hP hD hS => ?_)
          have hP : va_P (dC, dI) vwCl [(bM, .inr (5, .int (nI fa) :: .int (nI np) :: .ref bKk :: .ref bKs :: .int (nI hm) :: .int (nI nw) :: .ref bWf :: .ref bWt :: .ref bWl :: .int (nI lw) :: .ref bFo :: .int (nI ((1 + 2 * k) + 1)) :: .int (nI k) :: .int (nI qw_) :: .ref bRk :: .ref bRs :: .ref bRf :: .ref bRo :: .ref bRl :: .int (nI nt) :: .ref bTp :: .ref bTt :: .ref bTd :: .ref bHd :: .ref bFn :: .int (nI nr) :: .ref bRp :: .ref bRt :: .ref bRe :: .ref bRh :: .ref bZs :: .ref bZl :: .ref bSc :: .ref bHn :: .int tr :: [])), (bSc, .inl (cI, 240, .inl mSc)), (bRk, .inl (cI, 6, .inl mRk)), (bRs, .inl (cZ, 6, .inl mRs))] H_26 := hP
          have hD : va_D zA [(bM, .inr (5, .int (nI fa) :: .int (nI np) :: .ref bKk :: .ref bKs :: .int (nI hm) :: .int (nI nw) :: .ref bWf :: .ref bWt :: .ref bWl :: .int (nI lw) :: .ref bFo :: .int (nI ((1 + 2 * k) + 1)) :: .int (nI k) :: .int (nI qw_) :: .ref bRk :: .ref bRs :: .ref bRf :: .ref bRo :: .ref bRl :: .int (nI nt) :: .ref bTp :: .ref bTt :: .ref bTd :: .ref bHd :: .ref bFn :: .int (nI nr) :: .ref bRp :: .ref bRt :: .ref bRe :: .ref bRh :: .ref bZs :: .ref bZl :: .ref bSc :: .ref bHn :: .int tr :: [])), (bSc, .inl (cI, 240, .inl mSc)), (bRk, .inl (cI, 6, .inl mRk)), (bRs, .inl (cZ, 6, .inl mRs))] := hD
          refine lv_aload_n hx hb dX5_readsPerson_46 rfl (lv_at hl 1 rfl) ?_
          refine lv_iload_n hx hb dX5_readsPerson_47 rfl (lv_at hl 2 rfl) ?_
          refine lv_iload_n hx hb dX5_readsPerson_48 rfl (lv_at hl 3 rfl) ?_
          refine lv_iconst (v := nI 0) hx hb dX5_readsPerson_49 (by decide) ?_
          refine lv_iconst (v := nI 1) hx hb dX5_readsPerson_50 (by decide) ?_
          refine kc_i (wr := [(bRk, .inl (cI, 6, .inl mRk)), (bRs, .inl (cZ, 6, .inl mRs))]) (va_runV (As := [.int (nI fr), .int (nI n), .int (nI 0), .int (nI 1)]) (rest := []) ⟨hx, hb, hml, hown, hts⟩ (kX5_figure bM fa np bKk bKs hm nw bWf bWt bWl lw bFo (1 + 2 * k + 1) k qw_ bRk bRs bRf bRo bRl nt bTp bTt bTd bHd bFn nr bRp bRt bRe bRh bZs bZl bSc bHn tr mSc fr n 0 1 hin (by omega) (by omega) (by omega)) (cwV 4 hts gX5_readsPerson_X5_figure rfl rfl rfl hvX5_figure ⟨Nat.le_of_ble_eq_true rfl, Nat.le_of_ble_eq_true rfl⟩) (kpreV hN (q := (RX5, TX5, 35)) (ci := 5) hK (hP.sub [0, 1] rfl) (hD.sub [0, 1] (by decide) rfl) 0 rfl rfl) rfl rfl hl.1 rfl (lv_room (Nat.le_of_ble_eq_true rfl)) dX5_readsPerson_51 ⟨Nat.zero_le _, Nat.zero_le _⟩) (fun _ => by simp only [List.map]) hP hD hS hA [0, 1] [2, 3] rfl rfl (by decide) (by decide) (by decide) (fun r_27 a_29 H_28 locs hr_27 hP hD hS => ?_)
          have hP : va_P (dC, dI) vwCl [(bRk, .inl (cI, 6, .inl mRk)), (bRs, .inl (cZ, 6, .inl mRs)), (bM, .inr (5, .int (nI fa) :: .int (nI np) :: .ref bKk :: .ref bKs :: .int (nI hm) :: .int (nI nw) :: .ref bWf :: .ref bWt :: .ref bWl :: .int (nI lw) :: .ref bFo :: .int (nI a_29) :: .int (nI k) :: .int (nI qw_) :: .ref bRk :: .ref bRs :: .ref bRf :: .ref bRo :: .ref bRl :: .int (nI nt) :: .ref bTp :: .ref bTt :: .ref bTd :: .ref bHd :: .ref bFn :: .int (nI nr) :: .ref bRp :: .ref bRt :: .ref bRe :: .ref bRh :: .ref bZs :: .ref bZl :: .ref bSc :: .ref bHn :: .int tr :: [])), (bSc, .inl (cI, 240, .inl mSc))] H_28 := hP
          have hD : va_D zA [(bRk, .inl (cI, 6, .inl mRk)), (bRs, .inl (cZ, 6, .inl mRs)), (bM, .inr (5, .int (nI fa) :: .int (nI np) :: .ref bKk :: .ref bKs :: .int (nI hm) :: .int (nI nw) :: .ref bWf :: .ref bWt :: .ref bWl :: .int (nI lw) :: .ref bFo :: .int (nI a_29) :: .int (nI k) :: .int (nI qw_) :: .ref bRk :: .ref bRs :: .ref bRf :: .ref bRo :: .ref bRl :: .int (nI nt) :: .ref bTp :: .ref bTt :: .ref bTd :: .ref bHd :: .ref bFn :: .int (nI nr) :: .ref bRp :: .ref bRt :: .ref bRe :: .ref bRh :: .ref bZs :: .ref bZl :: .ref bSc :: .ref bHn :: .int tr :: [])), (bSc, .inl (cI, 240, .inl mSc))] := hD
          have hP := hP.sub (ws' := [(bM, .inr (5, .int (nI fa) :: .int (nI np) :: .ref bKk :: .ref bKs :: .int (nI hm) :: .int (nI nw) :: .ref bWf :: .ref bWt :: .ref bWl :: .int (nI lw) :: .ref bFo :: .int (nI a_29) :: .int (nI k) :: .int (nI qw_) :: .ref bRk :: .ref bRs :: .ref bRf :: .ref bRo :: .ref bRl :: .int (nI nt) :: .ref bTp :: .ref bTt :: .ref bTd :: .ref bHd :: .ref bFn :: .int (nI nr) :: .ref bRp :: .ref bRt :: .ref bRe :: .ref bRh :: .ref bZs :: .ref bZl :: .ref bSc :: .ref bHn :: .int tr :: [])), (bSc, .inl (cI, 240, .inl mSc)), (bRk, .inl (cI, 6, .inl mRk)), (bRs, .inl (cZ, 6, .inl mRs))]) [2, 3, 0, 1] rfl
          have hD := hD.sub (ws' := [(bM, .inr (5, .int (nI fa) :: .int (nI np) :: .ref bKk :: .ref bKs :: .int (nI hm) :: .int (nI nw) :: .ref bWf :: .ref bWt :: .ref bWl :: .int (nI lw) :: .ref bFo :: .int (nI a_29) :: .int (nI k) :: .int (nI qw_) :: .ref bRk :: .ref bRs :: .ref bRf :: .ref bRo :: .ref bRl :: .int (nI nt) :: .ref bTp :: .ref bTt :: .ref bTd :: .ref bHd :: .ref bFn :: .int (nI nr) :: .ref bRp :: .ref bRt :: .ref bRe :: .ref bRh :: .ref bZs :: .ref bZl :: .ref bSc :: .ref bHn :: .int tr :: [])), (bSc, .inl (cI, 240, .inl mSc)), (bRk, .inl (cI, 6, .inl mRk)), (bRs, .inl (cZ, 6, .inl mRs))]) [2, 3, 0, 1] (by decide) rfl
          obtain ⟨er_27, hr_27⟩ := hr_27
          have er_27 : r_27 = kNone (digN ((kcode mSc fr n) (1 + 2 * k + 1)) 0 1) := er_27
          rw [er_27]
          refine lv_istore (lv' := [(4, .int (kNone (digN ((kcode mSc fr n) (1 + 2 * k + 1)) 0 1))), (3, .int (rc9 (kcode mSc fr n) n (1 + 2 * k))), (0, .ref bM), (1, .int (nI fr)), (2, .int (nI n))]) hx hb dX5_readsPerson_54 hl (by decide) rfl (fun ls hl => ?_)
          refine lv_iload hx hb dX5_readsPerson_56 (lv_at hl 0 rfl) ?_
          refine lv_if_ge (tgt := 63) hx hb dX5_readsPerson_58 (by decide) (fun c58 => ?_) (fun c58 => ?_)
          · have hdg : kNone (aNum (kcode mSc fr n) k) = nI (aNum (kcode mSc fr n) k) ∧ aNum (kcode mSc fr n) k ≠ 999 ∧ 0 ≤ aNum (kcode mSc fr n) k ∧ aNum (kcode mSc fr n) k ≤ 1 := kn_ge (by omega) c58
            rw [show kNone (digN ((kcode mSc fr n) (1 + 2 * k + 1)) 0 1) = nI (aNum (kcode mSc fr n) k) from hdg.1] at hl
            refine lv_aload_n hx hb dX5_readsPerson_63 rfl (lv_at hl 2 rfl) ?_
            refine va_get (D := (dC, dI)) (ci := 5) (v := .ref bRk) (C := RX5) (T := TX5) (N := 35) hx hb hts hinX5 hown hK hP 0 rfl rfl 14 (by decide) lk29 (fun _ h9 => h9) rfl dX5_readsPerson_64 ?_
            refine lv_aload_n hx hb dX5_readsPerson_67 rfl (lv_at hl 2 rfl) ?_
            refine va_get (D := (dC, dI)) (ci := 5) (v := .int (nI k)) (C := RX5) (T := TX5) (N := 35) hx hb hts hinX5 hown hK hP 0 rfl rfl 12 (by decide) lk111 (fun _ h9 => h9) rfl dX5_readsPerson_68 ?_
            refine lv_iload_n hx hb dX5_readsPerson_71 rfl (lv_at hl 1 rfl) ?_
            refine lv_bipush (v := nI 116) hx hb dX5_readsPerson_72 (by decide) ?_
            refine lv_icmp_ne (tgt := 81) hx hb dX5_readsPerson_74 (by decide) (fun c74 => ?_) (fun c74 => ?_)
            · refine lv_iload_n hx hb dX5_readsPerson_81 rfl (lv_at hl 1 rfl) ?_
              refine lv_bipush (v := nI 106) hx hb dX5_readsPerson_82 (by decide) ?_
              refine lv_icmp_ne (tgt := 91) hx hb dX5_readsPerson_84 (by decide) (fun c84 => ?_) (fun c84 => ?_)
              · refine lv_iconst (v := nI 2) hx hb dX5_readsPerson_91 (by decide) ?_
                refine k_iast hx hb hK hP hD hS 2 0 rfl rfl (n := 6) (by omega) (by decide) dX5_readsPerson_92 (fun f_30 H_31 locs ef_30 hP hD hS => ?_)
                have hP : va_P (dC, dI) vwCl [(bM, .inr (5, .int (nI fa) :: .int (nI np) :: .ref bKk :: .ref bKs :: .int (nI hm) :: .int (nI nw) :: .ref bWf :: .ref bWt :: .ref bWl :: .int (nI lw) :: .ref bFo :: .int (nI a_29) :: .int (nI k) :: .int (nI qw_) :: .ref bRk :: .ref bRs :: .ref bRf :: .ref bRo :: .ref bRl :: .int (nI nt) :: .ref bTp :: .ref bTt :: .ref bTd :: .ref bHd :: .ref bFn :: .int (nI nr) :: .ref bRp :: .ref bRt :: .ref bRe :: .ref bRh :: .ref bZs :: .ref bZl :: .ref bSc :: .ref bHn :: .int tr :: [])), (bSc, .inl (cI, 240, .inl mSc)), (bRk, .inl (cI, 6, .inl f_30)), (bRs, .inl (cZ, 6, .inl mRs))] H_31 := hP
                have hD : va_D zA [(bM, .inr (5, .int (nI fa) :: .int (nI np) :: .ref bKk :: .ref bKs :: .int (nI hm) :: .int (nI nw) :: .ref bWf :: .ref bWt :: .ref bWl :: .int (nI lw) :: .ref bFo :: .int (nI a_29) :: .int (nI k) :: .int (nI qw_) :: .ref bRk :: .ref bRs :: .ref bRf :: .ref bRo :: .ref bRl :: .int (nI nt) :: .ref bTp :: .ref bTt :: .ref bTd :: .ref bHd :: .ref bFn :: .int (nI nr) :: .ref bRp :: .ref bRt :: .ref bRe :: .ref bRh :: .ref bZs :: .ref bZl :: .ref bSc :: .ref bHn :: .int tr :: [])), (bSc, .inl (cI, 240, .inl mSc)), (bRk, .inl (cI, 6, .inl f_30)), (bRs, .inl (cZ, 6, .inl mRs))] := hD
                refine lv_aload_n hx hb dX5_readsPerson_93 rfl (lv_at hl 2 rfl) ?_
                refine va_get (D := (dC, dI)) (ci := 5) (v := .ref bRs) (C := RX5) (T := TX5) (N := 35) hx hb hts hinX5 hown hK hP 0 rfl rfl 15 (by decide) lk32 (fun _ h9 => h9) rfl dX5_readsPerson_94 ?_
                refine lv_aload_n hx hb dX5_readsPerson_97 rfl (lv_at hl 2 rfl) ?_
                refine va_get (D := (dC, dI)) (ci := 5) (v := .int (nI k)) (C := RX5) (T := TX5) (N := 35) hx hb hts hinX5 hown hK hP 0 rfl rfl 12 (by decide) lk111 (fun _ h9 => h9) rfl dX5_readsPerson_98 ?_
                refine lv_iload hx hb dX5_readsPerson_101 (lv_at hl 0 rfl) ?_
                refine lv_iconst (v := nI 1) hx hb dX5_readsPerson_103 (by decide) ?_
                refine k_icmp_ne (tgt := 111) hx hb dX5_readsPerson_104 (by decide) (by omega) (by omega) (fun c104 => ?_) (fun c104 => ?_)
                · refine lv_iconst (v := nI 0) hx hb dX5_readsPerson_111 (by decide) ?_
                  refine k_cast (y := kb false) (rfl) ?_
                  refine k_zast hx hb hK hP hD hS 3 2 rfl rfl (n := 6) (by omega) (by decide) dX5_readsPerson_112 (fun f_32 H_33 locs ef_32 hP hD hS => ?_)
                  have hP : va_P (dC, dI) vwCl [(bM, .inr (5, .int (nI fa) :: .int (nI np) :: .ref bKk :: .ref bKs :: .int (nI hm) :: .int (nI nw) :: .ref bWf :: .ref bWt :: .ref bWl :: .int (nI lw) :: .ref bFo :: .int (nI a_29) :: .int (nI k) :: .int (nI qw_) :: .ref bRk :: .ref bRs :: .ref bRf :: .ref bRo :: .ref bRl :: .int (nI nt) :: .ref bTp :: .ref bTt :: .ref bTd :: .ref bHd :: .ref bFn :: .int (nI nr) :: .ref bRp :: .ref bRt :: .ref bRe :: .ref bRh :: .ref bZs :: .ref bZl :: .ref bSc :: .ref bHn :: .int tr :: [])), (bSc, .inl (cI, 240, .inl mSc)), (bRk, .inl (cI, 6, .inl f_30)), (bRs, .inl (cZ, 6, .inl f_32))] H_33 := hP
                  have hD : va_D zA [(bM, .inr (5, .int (nI fa) :: .int (nI np) :: .ref bKk :: .ref bKs :: .int (nI hm) :: .int (nI nw) :: .ref bWf :: .ref bWt :: .ref bWl :: .int (nI lw) :: .ref bFo :: .int (nI a_29) :: .int (nI k) :: .int (nI qw_) :: .ref bRk :: .ref bRs :: .ref bRf :: .ref bRo :: .ref bRl :: .int (nI nt) :: .ref bTp :: .ref bTt :: .ref bTd :: .ref bHd :: .ref bFn :: .int (nI nr) :: .ref bRp :: .ref bRt :: .ref bRe :: .ref bRh :: .ref bZs :: .ref bZl :: .ref bSc :: .ref bHn :: .int tr :: [])), (bSc, .inl (cI, 240, .inl mSc)), (bRk, .inl (cI, 6, .inl f_30)), (bRs, .inl (cZ, 6, .inl f_32))] := hD
                  refine lv_aload_n hx hb dX5_readsPerson_113 rfl (lv_at hl 2 rfl) ?_
                  refine lv_dup hx hb dX5_readsPerson_114 rfl ?_
                  refine va_get (D := (dC, dI)) (ci := 5) (v := .int (nI k)) (C := RX5) (T := TX5) (N := 35) hx hb hts hinX5 hown hK hP 0 rfl rfl 12 (by decide) lk111 (fun _ h9 => h9) rfl dX5_readsPerson_115 ?_
                  refine lv_iconst (v := nI 1) hx hb dX5_readsPerson_118 (by decide) ?_
                  refine k_iadd hx hb dX5_readsPerson_119 ?_
                  refine va_put (D := (dC, dI)) (ci := 5) (v := .int (nI (k + 1))) (ty := .int) (C := RX5) (T := TX5) (N := 35) hx hb hts hinX5 tyX5 tyX5_ok nmX5 hown hK hP hD hS 0 rfl rfl 12 (by decide) lk111 (fun _ h9 => h9) rfl (tyX5_ok 12 (by decide)) rfl rfl (Nat.le_of_ble_eq_true rfl) dX5_readsPerson_120 (fun H_34 locs hP hD hS => ?_)
                  have hP : va_P (dC, dI) vwCl [(bM, .inr (5, .int (nI fa) :: .int (nI np) :: .ref bKk :: .ref bKs :: .int (nI hm) :: .int (nI nw) :: .ref bWf :: .ref bWt :: .ref bWl :: .int (nI lw) :: .ref bFo :: .int (nI a_29) :: .int (nI (k + 1)) :: .int (nI qw_) :: .ref bRk :: .ref bRs :: .ref bRf :: .ref bRo :: .ref bRl :: .int (nI nt) :: .ref bTp :: .ref bTt :: .ref bTd :: .ref bHd :: .ref bFn :: .int (nI nr) :: .ref bRp :: .ref bRt :: .ref bRe :: .ref bRh :: .ref bZs :: .ref bZl :: .ref bSc :: .ref bHn :: .int tr :: [])), (bSc, .inl (cI, 240, .inl mSc)), (bRk, .inl (cI, 6, .inl f_30)), (bRs, .inl (cZ, 6, .inl f_32))] H_34 := hP
                  have hD : va_D zA [(bM, .inr (5, .int (nI fa) :: .int (nI np) :: .ref bKk :: .ref bKs :: .int (nI hm) :: .int (nI nw) :: .ref bWf :: .ref bWt :: .ref bWl :: .int (nI lw) :: .ref bFo :: .int (nI a_29) :: .int (nI (k + 1)) :: .int (nI qw_) :: .ref bRk :: .ref bRs :: .ref bRf :: .ref bRo :: .ref bRl :: .int (nI nt) :: .ref bTp :: .ref bTt :: .ref bTd :: .ref bHd :: .ref bFn :: .int (nI nr) :: .ref bRp :: .ref bRt :: .ref bRe :: .ref bRh :: .ref bZs :: .ref bZl :: .ref bSc :: .ref bHn :: .int tr :: [])), (bSc, .inl (cI, 240, .inl mSc)), (bRk, .inl (cI, 6, .inl f_30)), (bRs, .inl (cZ, 6, .inl f_32))] := hD
                  refine lv_iconst (v := nI 1) hx hb dX5_readsPerson_123 (by decide) ?_
                  refine k_cast (y := kb true) (rfl) ?_
                  refine hret 124 _ true (f_30, f_32, a_29, k + 1) _ _ dX5_readsPerson_124 hS (fun t ht _ => by rw [ht]; exact hP) ?_
                  have hz := rc_k2 c19 c25 c31
                  have hko : kOK (kcode mSc fr n) k = true := by unfold kOK; rw [hz]; rfl
                  have hk5 : k < 6 := by omega
                  have hg : pGo (kcode mSc fr n) k = true := by unfold pGo pOK; rw [decide_eq_true hk5, hko, decide_eq_true hdg.2.1]; rfl
                  have ha : a_29 = 1 + 2 * (k + 1) := (hr_27.trans (if_neg hdg.2.1)).trans (by omega)
                  have hb : aB (kcode mSc fr n) k = false := decide_eq_false c104
                  exact ⟨by rw [hg], by unfold pPost; rw [if_pos hg]; exact ⟨ha, rfl, by rw [hz]; exact ef_30, by rw [hb]; exact ef_32⟩⟩
                · refine lv_iconst (v := nI 1) hx hb dX5_readsPerson_107 (by decide) ?_
                  refine k_cast (y := kb true) (rfl) ?_
                  refine lv_goto (tgt := 112) hx hb dX5_readsPerson_108 (by decide) ?_
                  refine k_zast hx hb hK hP hD hS 3 2 rfl rfl (n := 6) (by omega) (by decide) dX5_readsPerson_112 (fun f_35 H_36 locs ef_35 hP hD hS => ?_)
                  have hP : va_P (dC, dI) vwCl [(bM, .inr (5, .int (nI fa) :: .int (nI np) :: .ref bKk :: .ref bKs :: .int (nI hm) :: .int (nI nw) :: .ref bWf :: .ref bWt :: .ref bWl :: .int (nI lw) :: .ref bFo :: .int (nI a_29) :: .int (nI k) :: .int (nI qw_) :: .ref bRk :: .ref bRs :: .ref bRf :: .ref bRo :: .ref bRl :: .int (nI nt) :: .ref bTp :: .ref bTt :: .ref bTd :: .ref bHd :: .ref bFn :: .int (nI nr) :: .ref bRp :: .ref bRt :: .ref bRe :: .ref bRh :: .ref bZs :: .ref bZl :: .ref bSc :: .ref bHn :: .int tr :: [])), (bSc, .inl (cI, 240, .inl mSc)), (bRk, .inl (cI, 6, .inl f_30)), (bRs, .inl (cZ, 6, .inl f_35))] H_36 := hP
                  have hD : va_D zA [(bM, .inr (5, .int (nI fa) :: .int (nI np) :: .ref bKk :: .ref bKs :: .int (nI hm) :: .int (nI nw) :: .ref bWf :: .ref bWt :: .ref bWl :: .int (nI lw) :: .ref bFo :: .int (nI a_29) :: .int (nI k) :: .int (nI qw_) :: .ref bRk :: .ref bRs :: .ref bRf :: .ref bRo :: .ref bRl :: .int (nI nt) :: .ref bTp :: .ref bTt :: .ref bTd :: .ref bHd :: .ref bFn :: .int (nI nr) :: .ref bRp :: .ref bRt :: .ref bRe :: .ref bRh :: .ref bZs :: .ref bZl :: .ref bSc :: .ref bHn :: .int tr :: [])), (bSc, .inl (cI, 240, .inl mSc)), (bRk, .inl (cI, 6, .inl f_30)), (bRs, .inl (cZ, 6, .inl f_35))] := hD
                  refine lv_aload_n hx hb dX5_readsPerson_113 rfl (lv_at hl 2 rfl) ?_
                  refine lv_dup hx hb dX5_readsPerson_114 rfl ?_
                  refine va_get (D := (dC, dI)) (ci := 5) (v := .int (nI k)) (C := RX5) (T := TX5) (N := 35) hx hb hts hinX5 hown hK hP 0 rfl rfl 12 (by decide) lk111 (fun _ h9 => h9) rfl dX5_readsPerson_115 ?_
                  refine lv_iconst (v := nI 1) hx hb dX5_readsPerson_118 (by decide) ?_
                  refine k_iadd hx hb dX5_readsPerson_119 ?_
                  refine va_put (D := (dC, dI)) (ci := 5) (v := .int (nI (k + 1))) (ty := .int) (C := RX5) (T := TX5) (N := 35) hx hb hts hinX5 tyX5 tyX5_ok nmX5 hown hK hP hD hS 0 rfl rfl 12 (by decide) lk111 (fun _ h9 => h9) rfl (tyX5_ok 12 (by decide)) rfl rfl (Nat.le_of_ble_eq_true rfl) dX5_readsPerson_120 (fun H_37 locs hP hD hS => ?_)
                  have hP : va_P (dC, dI) vwCl [(bM, .inr (5, .int (nI fa) :: .int (nI np) :: .ref bKk :: .ref bKs :: .int (nI hm) :: .int (nI nw) :: .ref bWf :: .ref bWt :: .ref bWl :: .int (nI lw) :: .ref bFo :: .int (nI a_29) :: .int (nI (k + 1)) :: .int (nI qw_) :: .ref bRk :: .ref bRs :: .ref bRf :: .ref bRo :: .ref bRl :: .int (nI nt) :: .ref bTp :: .ref bTt :: .ref bTd :: .ref bHd :: .ref bFn :: .int (nI nr) :: .ref bRp :: .ref bRt :: .ref bRe :: .ref bRh :: .ref bZs :: .ref bZl :: .ref bSc :: .ref bHn :: .int tr :: [])), (bSc, .inl (cI, 240, .inl mSc)), (bRk, .inl (cI, 6, .inl f_30)), (bRs, .inl (cZ, 6, .inl f_35))] H_37 := hP
                  have hD : va_D zA [(bM, .inr (5, .int (nI fa) :: .int (nI np) :: .ref bKk :: .ref bKs :: .int (nI hm) :: .int (nI nw) :: .ref bWf :: .ref bWt :: .ref bWl :: .int (nI lw) :: .ref bFo :: .int (nI a_29) :: .int (nI (k + 1)) :: .int (nI qw_) :: .ref bRk :: .ref bRs :: .ref bRf :: .ref bRo :: .ref bRl :: .int (nI nt) :: .ref bTp :: .ref bTt :: .ref bTd :: .ref bHd :: .ref bFn :: .int (nI nr) :: .ref bRp :: .ref bRt :: .ref bRe :: .ref bRh :: .ref bZs :: .ref bZl :: .ref bSc :: .ref bHn :: .int tr :: [])), (bSc, .inl (cI, 240, .inl mSc)), (bRk, .inl (cI, 6, .inl f_30)), (bRs, .inl (cZ, 6, .inl f_35))] := hD
                  refine lv_iconst (v := nI 1) hx hb dX5_readsPerson_123 (by decide) ?_
                  refine k_cast (y := kb true) (rfl) ?_
                  refine hret 124 _ true (f_30, f_35, a_29, k + 1) _ _ dX5_readsPerson_124 hS (fun t ht _ => by rw [ht]; exact hP) ?_
                  have hz := rc_k2 c19 c25 c31
                  have hko : kOK (kcode mSc fr n) k = true := by unfold kOK; rw [hz]; rfl
                  have hk5 : k < 6 := by omega
                  have hg : pGo (kcode mSc fr n) k = true := by unfold pGo pOK; rw [decide_eq_true hk5, hko, decide_eq_true hdg.2.1]; rfl
                  have ha : a_29 = 1 + 2 * (k + 1) := (hr_27.trans (if_neg hdg.2.1)).trans (by omega)
                  have hb : aB (kcode mSc fr n) k = true := decide_eq_true c104
                  exact ⟨by rw [hg], by unfold pPost; rw [if_pos hg]; exact ⟨ha, rfl, by rw [hz]; exact ef_30, by rw [hb]; exact ef_35⟩⟩
              · exact absurd c84 c25
            · exact absurd c74 c19
          · refine lv_iconst (v := nI 0) hx hb dX5_readsPerson_61 (by decide) ?_
            refine k_cast (y := kb false) (rfl) ?_
            refine hret 62 _ false (mRk, mRs, a_29, k) _ _ dX5_readsPerson_62 hS (fun t ht _ => by rw [ht]; exact hP) ?_
            have hz := rc_k2 c19 c25 c31
            have hko : kOK (kcode mSc fr n) k = true := by unfold kOK; rw [hz]; rfl
            have hk5 : k < 6 := by omega
            have hn : aNum (kcode mSc fr n) k = 999 := kn_lt (by omega) c58
            have hg : pGo (kcode mSc fr n) k = false := by unfold pGo pOK; rw [hn]; simp
            have ha : a_29 = 1 + 2 * k + 1 := hr_27.trans (if_pos hn)
            exact ⟨by rw [hg], by unfold pPost; rw [if_neg (by rw [hg]; decide)]; unfold pFail; rw [if_pos ⟨hk5, hko⟩]; exact ⟨ha, rfl, rfl, rfl⟩⟩
        · refine lv_iconst (v := nI 0) hx hb dX5_readsPerson_34 (by decide) ?_
          refine k_cast (y := kb false) (rfl) ?_
          refine hret 35 _ false (mRk, mRs, 1 + 2 * k, k) _ _ dX5_readsPerson_35 hS (fun t ht _ => by rw [ht]; exact hP) ?_
          have hz := rc_kd c19 c25 c31
          have hko : kOK (kcode mSc fr n) k = false := by unfold kOK; rw [hz]; rfl
          have hg : pGo (kcode mSc fr n) k = false := by unfold pGo pOK; rw [hko]; simp
          exact ⟨by rw [hg], by unfold pPost; rw [if_neg (by rw [hg]; decide)]; unfold pFail; rw [if_neg (by rw [hko]; simp)]; exact ⟨rfl, rfl, rfl, rfl⟩⟩

set_option maxHeartbeats 800000 in
set_option maxRecDepth 100000 in
theorem kX5_readsWay {zl : Launch} {dC : Nat → ClassId} {dI : Nat → Nat → Nat} {cI cJ cZ cS : ClassId} {sz : Nat} (bM : Nat) (fa : Nat) (np : Nat) (bKk : Nat) (bKs : Nat) (hm : Nat) (nw : Nat) (bWf : Nat) (bWt : Nat) (bWl : Nat) (lw : Nat) (bFo : Nat) (bRk : Nat) (bRs : Nat) (bRf : Nat) (bRo : Nat) (bRl : Nat) (nt : Nat) (bTp : Nat) (bTt : Nat) (bTd : Nat) (bHd : Nat) (bFn : Nat) (nr : Nat) (bRp : Nat) (bRt : Nat) (bRe : Nat) (bRh : Nat) (bZs : Nat) (bZl : Nat) (bSc : Nat) (bHn : Nat) (tr : Int32) (mSc : Nat → Int32) (mRf : Nat → Int32) (mRo : Nat → Int32) (mRl : Nat → Int32) (fr : Nat) (n : Nat) (K : Nat) (w : Nat) (hin : fr + n ≤ 240) (hK : K ≤ 6) (hK1 : 1 ≤ K) (hw9 : w ≤ 9) : Met zl yX5_readsWay wsX5_readsWay ({ frames := 2, cells := 0, slots := 0, locals := 51 } : Room) (va_Pc [.ref bM, .int (nI fr), .int (nI n)] (kPre (dC, dI) (kT cI cJ cZ cS) [(bM, .inr (5, .int (nI fa) :: .int (nI np) :: .ref bKk :: .ref bKs :: .int (nI hm) :: .int (nI nw) :: .ref bWf :: .ref bWt :: .ref bWl :: .int (nI lw) :: .ref bFo :: .int (nI (1 + 2 * K + 4 * w)) :: .int (nI K) :: .int (nI w) :: .ref bRk :: .ref bRs :: .ref bRf :: .ref bRo :: .ref bRl :: .int (nI nt) :: .ref bTp :: .ref bTt :: .ref bTd :: .ref bHd :: .ref bFn :: .int (nI nr) :: .ref bRp :: .ref bRt :: .ref bRe :: .ref bRh :: .ref bZs :: .ref bZl :: .ref bSc :: .ref bHn :: .int tr :: [])), (bSc, .inl (cI, 240, .inl mSc)), (bRf, .inl (cI, 9, .inl mRf)), (bRo, .inl (cI, 9, .inl mRo)), (bRl, .inl (cI, 9, .inl mRl))] sz)) (va_Qi (fun (r : Int32) => fun (u : (Nat → Int32) × (Nat → Int32) × (Nat → Int32) × Nat × Nat) => r = kb (wGo (kcode mSc fr n) K w) ∧ wPost (kcode mSc fr n) K w mRf mRo mRl u.1 u.2.1 u.2.2.1 u.2.2.2.1 u.2.2.2.2) (fun (u : (Nat → Int32) × (Nat → Int32) × (Nat → Int32) × Nat × Nat) (zU : State) => va_P (dC, dI) vwCl [(bM, .inr (5, .int (nI fa) :: .int (nI np) :: .ref bKk :: .ref bKs :: .int (nI hm) :: .int (nI nw) :: .ref bWf :: .ref bWt :: .ref bWl :: .int (nI lw) :: .ref bFo :: .int (nI u.2.2.2.1) :: .int (nI K) :: .int (nI u.2.2.2.2) :: .ref bRk :: .ref bRs :: .ref bRf :: .ref bRo :: .ref bRl :: .int (nI nt) :: .ref bTp :: .ref bTt :: .ref bTd :: .ref bHd :: .ref bFn :: .int (nI nr) :: .ref bRp :: .ref bRt :: .ref bRe :: .ref bRh :: .ref bZs :: .ref bZl :: .ref bSc :: .ref bHn :: .int tr :: [])), (bSc, .inl (cI, 240, .inl mSc)), (bRf, .inl (cI, 9, .inl u.1)), (bRo, .inl (cI, 9, .inl u.2.1)), (bRl, .inl (cI, 9, .inl u.2.2.1))] zU.heap) (va_A [(bM, .inr (5, .int (nI fa) :: .int (nI np) :: .ref bKk :: .ref bKs :: .int (nI hm) :: .int (nI nw) :: .ref bWf :: .ref bWt :: .ref bWl :: .int (nI lw) :: .ref bFo :: .int (nI (1 + 2 * K + 4 * w)) :: .int (nI K) :: .int (nI w) :: .ref bRk :: .ref bRs :: .ref bRf :: .ref bRo :: .ref bRl :: .int (nI nt) :: .ref bTp :: .ref bTt :: .ref bTd :: .ref bHd :: .ref bFn :: .int (nI nr) :: .ref bRp :: .ref bRt :: .ref bRe :: .ref bRh :: .ref bZs :: .ref bZl :: .ref bSc :: .ref bHn :: .int tr :: [])), (bSc, .inl (cI, 240, .inl mSc)), (bRf, .inl (cI, 9, .inl mRf)), (bRo, .inl (cI, 9, .inl mRo)), (bRl, .inl (cI, 9, .inl mRl))] sz)) 0 0 (va_A [(bM, .inr (5, .int (nI fa) :: .int (nI np) :: .ref bKk :: .ref bKs :: .int (nI hm) :: .int (nI nw) :: .ref bWf :: .ref bWt :: .ref bWl :: .int (nI lw) :: .ref bFo :: .int (nI (1 + 2 * K + 4 * w)) :: .int (nI K) :: .int (nI w) :: .ref bRk :: .ref bRs :: .ref bRf :: .ref bRo :: .ref bRl :: .int (nI nt) :: .ref bTp :: .ref bTt :: .ref bTd :: .ref bHd :: .ref bFn :: .int (nI nr) :: .ref bRp :: .ref bRt :: .ref bRe :: .ref bRh :: .ref bZs :: .ref bZl :: .ref bSc :: .ref bHn :: .int tr :: [])), (bSc, .inl (cI, 240, .inl mSc)), (bRf, .inl (cI, 9, .inl mRf)), (bRo, .inl (cI, 9, .inl mRo)), (bRl, .inl (cI, 9, .inl mRl))] sz) := by
  refine kstartW_z (cc := cX5_readsWay) (maxL := 6) rfl rfl (Nat.le_of_ble_eq_true rfl) ?_
  intro zp ze zs zm zb zt zc za zQ zA hx hb hml hts hown hN hK hP hD hS hA zin hret ls hl
  have hl : lv_has ls 6 [(0, .ref bM), (1, .int (nI fr)), (2, .int (nI n))] := hl
  have hinX5 : ∀ w ∈ wsX50, w ∈ wsX5_readsWay := fun _ h => List.mem_cons_of_mem _ (List.mem_append_right _ h)
  have lk35 := hts (.fieldLink RX5 35 "IronRumoursModel" "readFrom" "[I") (List.mem_of_getElem? (i := 4) rfl)
  have lk38 := hts (.fieldLink RX5 38 "IronRumoursModel" "readTo" "[I") (List.mem_of_getElem? (i := 5) rfl)
  have lk41 := hts (.fieldLink RX5 41 "IronRumoursModel" "readLong" "[I") (List.mem_of_getElem? (i := 6) rfl)
  have lk104 := hts (.fieldLink RX5 104 "IronRumoursModel" "readAt" "I") (List.mem_of_getElem? (i := 2) rfl)
  have lk111 := hts (.fieldLink RX5 111 "IronRumoursModel" "readPersons" "I") (List.mem_of_getElem? (i := 3) rfl)
  have lk118 := hts (.fieldLink RX5 118 "IronRumoursModel" "readWays" "I") (List.mem_of_getElem? (i := 1) rfl)
  refine lv_aload_n hx hb dX5_readsWay_0 rfl (lv_at hl 0 rfl) ?_
  refine va_get (D := (dC, dI)) (ci := 5) (v := .int (nI w)) (C := RX5) (T := TX5) (N := 35) hx hb hts hinX5 hown hK hP 0 rfl rfl 13 (by decide) lk118 (fun _ h9 => h9) rfl dX5_readsWay_1 ?_
  refine lv_bipush (v := nI 9) hx hb dX5_readsWay_4 (by decide) ?_
  refine k_icmp_eq (tgt := 20) hx hb dX5_readsWay_6 (by decide) (by omega) (by omega) (fun c6 => ?_) (fun c6 => ?_)
  · refine lv_iconst (v := nI 0) hx hb dX5_readsWay_20 (by decide) ?_
    refine k_cast (y := kb false) (rfl) ?_
    refine hret 21 _ false (mRf, mRo, mRl, 1 + 2 * K + 4 * w, w) _ _ dX5_readsWay_21 hS (fun t ht _ => by rw [ht]; exact hP) ?_
    have hg : wGo (kcode mSc fr n) K w = false := by unfold wGo; rw [c6]; rfl
    exact ⟨by rw [hg], by unfold wPost; rw [if_neg (by rw [hg]; decide)]; unfold wFail; rw [if_neg (by omega)]; exact ⟨rfl, rfl, rfl, rfl, rfl⟩⟩
  · refine lv_aload_n hx hb dX5_readsWay_9 rfl (lv_at hl 0 rfl) ?_
    refine lv_iload_n hx hb dX5_readsWay_10 rfl (lv_at hl 1 rfl) ?_
    refine lv_iload_n hx hb dX5_readsWay_11 rfl (lv_at hl 2 rfl) ?_
    refine rc_i (va_runV (As := [.int (nI fr), .int (nI n)]) (rest := []) ⟨hx, hb, hml, hown, hts⟩ (kX5_codeAt bM fa np bKk bKs hm nw bWf bWt bWl lw bFo (1 + 2 * K + 4 * w) K w bRk bRs bRf bRo bRl nt bTp bTt bTd bHd bFn nr bRp bRt bRe bRh bZs bZl bSc bHn tr mSc fr n hin (by omega)) (cwV 2 hts gX5_readsWay_X5_codeAt rfl rfl rfl hvX5_codeAt ⟨Nat.le_of_ble_eq_true rfl, Nat.le_of_ble_eq_true rfl⟩) (rpreV hN (q := (RX5, TX5, 35)) (ci := 5) hK (hP.sub [0, 1] rfl) 0 rfl rfl) rfl rfl hl.1 rfl (lv_room (Nat.le_of_ble_eq_true rfl)) dX5_readsWay_12 ⟨Nat.zero_le _, Nat.zero_le _⟩) (fun r_1 hr_1 => ?_)
    have hr_1 : r_1 = rc9 (kcode mSc fr n) n (1 + 2 * K + 4 * w) := hr_1
    rw [hr_1]
    refine lv_bipush (v := nI 59) hx hb dX5_readsWay_15 (by decide) ?_
    refine lv_icmp_eq (tgt := 22) hx hb dX5_readsWay_17 (by decide) (fun c17 => ?_) (fun c17 => ?_)
    · refine lv_aload_n hx hb dX5_readsWay_22 rfl (lv_at hl 0 rfl) ?_
      refine lv_dup hx hb dX5_readsWay_23 rfl ?_
      refine va_get (D := (dC, dI)) (ci := 5) (v := .int (nI (1 + 2 * K + 4 * w))) (C := RX5) (T := TX5) (N := 35) hx hb hts hinX5 hown hK hP 0 rfl rfl 11 (by decide) lk104 (fun _ h9 => h9) rfl dX5_readsWay_24 ?_
      refine lv_iconst (v := nI 1) hx hb dX5_readsWay_27 (by decide) ?_
      refine k_iadd hx hb dX5_readsWay_28 ?_
      refine va_put (D := (dC, dI)) (ci := 5) (v := .int (nI ((1 + 2 * K + 4 * w) + 1))) (ty := .int) (C := RX5) (T := TX5) (N := 35) hx hb hts hinX5 tyX5 tyX5_ok nmX5 hown hK hP hD hS 0 rfl rfl 11 (by decide) lk104 (fun _ h9 => h9) rfl (tyX5_ok 11 (by decide)) rfl rfl (Nat.le_of_ble_eq_true rfl) dX5_readsWay_29 (fun H_2 locs hP hD hS => ?_)
      have hP : va_P (dC, dI) vwCl [(bM, .inr (5, .int (nI fa) :: .int (nI np) :: .ref bKk :: .ref bKs :: .int (nI hm) :: .int (nI nw) :: .ref bWf :: .ref bWt :: .ref bWl :: .int (nI lw) :: .ref bFo :: .int (nI ((1 + 2 * K + 4 * w) + 1)) :: .int (nI K) :: .int (nI w) :: .ref bRk :: .ref bRs :: .ref bRf :: .ref bRo :: .ref bRl :: .int (nI nt) :: .ref bTp :: .ref bTt :: .ref bTd :: .ref bHd :: .ref bFn :: .int (nI nr) :: .ref bRp :: .ref bRt :: .ref bRe :: .ref bRh :: .ref bZs :: .ref bZl :: .ref bSc :: .ref bHn :: .int tr :: [])), (bSc, .inl (cI, 240, .inl mSc)), (bRf, .inl (cI, 9, .inl mRf)), (bRo, .inl (cI, 9, .inl mRo)), (bRl, .inl (cI, 9, .inl mRl))] H_2 := hP
      have hD : va_D zA [(bM, .inr (5, .int (nI fa) :: .int (nI np) :: .ref bKk :: .ref bKs :: .int (nI hm) :: .int (nI nw) :: .ref bWf :: .ref bWt :: .ref bWl :: .int (nI lw) :: .ref bFo :: .int (nI ((1 + 2 * K + 4 * w) + 1)) :: .int (nI K) :: .int (nI w) :: .ref bRk :: .ref bRs :: .ref bRf :: .ref bRo :: .ref bRl :: .int (nI nt) :: .ref bTp :: .ref bTt :: .ref bTd :: .ref bHd :: .ref bFn :: .int (nI nr) :: .ref bRp :: .ref bRt :: .ref bRe :: .ref bRh :: .ref bZs :: .ref bZl :: .ref bSc :: .ref bHn :: .int tr :: [])), (bSc, .inl (cI, 240, .inl mSc)), (bRf, .inl (cI, 9, .inl mRf)), (bRo, .inl (cI, 9, .inl mRo)), (bRl, .inl (cI, 9, .inl mRl))] := hD
      refine lv_aload_n hx hb dX5_readsWay_32 rfl (lv_at hl 0 rfl) ?_
      refine lv_iload_n hx hb dX5_readsWay_33 rfl (lv_at hl 1 rfl) ?_
      refine lv_iload_n hx hb dX5_readsWay_34 rfl (lv_at hl 2 rfl) ?_
      refine lv_iconst (v := nI 0) hx hb dX5_readsWay_35 (by decide) ?_
      refine lv_aload_n hx hb dX5_readsWay_36 rfl (lv_at hl 0 rfl) ?_
      refine va_get (D := (dC, dI)) (ci := 5) (v := .int (nI K)) (C := RX5) (T := TX5) (N := 35) hx hb hts hinX5 hown hK hP 0 rfl rfl 12 (by decide) lk111 (fun _ h9 => h9) rfl dX5_readsWay_37 ?_
      refine lv_iconst (v := nI 1) hx hb dX5_readsWay_40 (by decide) ?_
      refine k_isub hx hb (by omega) dX5_readsWay_41 ?_
      refine kc_i (wr := [(bRf, .inl (cI, 9, .inl mRf)), (bRo, .inl (cI, 9, .inl mRo)), (bRl, .inl (cI, 9, .inl mRl))]) (va_runV (As := [.int (nI fr), .int (nI n), .int (nI 0), .int (nI (K - 1))]) (rest := []) ⟨hx, hb, hml, hown, hts⟩ (kX5_figure bM fa np bKk bKs hm nw bWf bWt bWl lw bFo (1 + 2 * K + 4 * w + 1) K w bRk bRs bRf bRo bRl nt bTp bTt bTd bHd bFn nr bRp bRt bRe bRh bZs bZl bSc bHn tr mSc fr n 0 (K - 1) hin (by omega) (by omega) (by omega)) (cwV 4 hts gX5_readsWay_X5_figure rfl rfl rfl hvX5_figure ⟨Nat.le_of_ble_eq_true rfl, Nat.le_of_ble_eq_true rfl⟩) (kpreV hN (q := (RX5, TX5, 35)) (ci := 5) hK (hP.sub [0, 1] rfl) (hD.sub [0, 1] (by decide) rfl) 0 rfl rfl) rfl rfl hl.1 rfl (lv_room (Nat.le_of_ble_eq_true rfl)) dX5_readsWay_42 ⟨Nat.zero_le _, Nat.zero_le _⟩) (fun _ => by simp only [List.map]) hP hD hS hA [0, 1] [2, 3, 4] rfl rfl (by decide) (by decide) (by decide) (fun r_3 a_5 H_4 locs hr_3 hP hD hS => ?_)
      have hP : va_P (dC, dI) vwCl [(bRf, .inl (cI, 9, .inl mRf)), (bRo, .inl (cI, 9, .inl mRo)), (bRl, .inl (cI, 9, .inl mRl)), (bM, .inr (5, .int (nI fa) :: .int (nI np) :: .ref bKk :: .ref bKs :: .int (nI hm) :: .int (nI nw) :: .ref bWf :: .ref bWt :: .ref bWl :: .int (nI lw) :: .ref bFo :: .int (nI a_5) :: .int (nI K) :: .int (nI w) :: .ref bRk :: .ref bRs :: .ref bRf :: .ref bRo :: .ref bRl :: .int (nI nt) :: .ref bTp :: .ref bTt :: .ref bTd :: .ref bHd :: .ref bFn :: .int (nI nr) :: .ref bRp :: .ref bRt :: .ref bRe :: .ref bRh :: .ref bZs :: .ref bZl :: .ref bSc :: .ref bHn :: .int tr :: [])), (bSc, .inl (cI, 240, .inl mSc))] H_4 := hP
      have hD : va_D zA [(bRf, .inl (cI, 9, .inl mRf)), (bRo, .inl (cI, 9, .inl mRo)), (bRl, .inl (cI, 9, .inl mRl)), (bM, .inr (5, .int (nI fa) :: .int (nI np) :: .ref bKk :: .ref bKs :: .int (nI hm) :: .int (nI nw) :: .ref bWf :: .ref bWt :: .ref bWl :: .int (nI lw) :: .ref bFo :: .int (nI a_5) :: .int (nI K) :: .int (nI w) :: .ref bRk :: .ref bRs :: .ref bRf :: .ref bRo :: .ref bRl :: .int (nI nt) :: .ref bTp :: .ref bTt :: .ref bTd :: .ref bHd :: .ref bFn :: .int (nI nr) :: .ref bRp :: .ref bRt :: .ref bRe :: .ref bRh :: .ref bZs :: .ref bZl :: .ref bSc :: .ref bHn :: .int tr :: [])), (bSc, .inl (cI, 240, .inl mSc))] := hD
      have hP := hP.sub (ws' := [(bM, .inr (5, .int (nI fa) :: .int (nI np) :: .ref bKk :: .ref bKs :: .int (nI hm) :: .int (nI nw) :: .ref bWf :: .ref bWt :: .ref bWl :: .int (nI lw) :: .ref bFo :: .int (nI a_5) :: .int (nI K) :: .int (nI w) :: .ref bRk :: .ref bRs :: .ref bRf :: .ref bRo :: .ref bRl :: .int (nI nt) :: .ref bTp :: .ref bTt :: .ref bTd :: .ref bHd :: .ref bFn :: .int (nI nr) :: .ref bRp :: .ref bRt :: .ref bRe :: .ref bRh :: .ref bZs :: .ref bZl :: .ref bSc :: .ref bHn :: .int tr :: [])), (bSc, .inl (cI, 240, .inl mSc)), (bRf, .inl (cI, 9, .inl mRf)), (bRo, .inl (cI, 9, .inl mRo)), (bRl, .inl (cI, 9, .inl mRl))]) [3, 4, 0, 1, 2] rfl
      have hD := hD.sub (ws' := [(bM, .inr (5, .int (nI fa) :: .int (nI np) :: .ref bKk :: .ref bKs :: .int (nI hm) :: .int (nI nw) :: .ref bWf :: .ref bWt :: .ref bWl :: .int (nI lw) :: .ref bFo :: .int (nI a_5) :: .int (nI K) :: .int (nI w) :: .ref bRk :: .ref bRs :: .ref bRf :: .ref bRo :: .ref bRl :: .int (nI nt) :: .ref bTp :: .ref bTt :: .ref bTd :: .ref bHd :: .ref bFn :: .int (nI nr) :: .ref bRp :: .ref bRt :: .ref bRe :: .ref bRh :: .ref bZs :: .ref bZl :: .ref bSc :: .ref bHn :: .int tr :: [])), (bSc, .inl (cI, 240, .inl mSc)), (bRf, .inl (cI, 9, .inl mRf)), (bRo, .inl (cI, 9, .inl mRo)), (bRl, .inl (cI, 9, .inl mRl))]) [3, 4, 0, 1, 2] (by decide) rfl
      obtain ⟨er_3, hr_3⟩ := hr_3
      have er_3 : r_3 = kNone (digN ((kcode mSc fr n) (1 + 2 * K + 4 * w + 1)) 0 (K - 1)) := er_3
      rw [er_3]
      refine lv_istore_n (lv' := [(3, .int (kNone (digN ((kcode mSc fr n) (1 + 2 * K + 4 * w + 1)) 0 (K - 1)))), (0, .ref bM), (1, .int (nI fr)), (2, .int (nI n))]) hx hb dX5_readsWay_45 rfl hl (by decide) rfl (fun ls hl => ?_)
      refine lv_iload_n hx hb dX5_readsWay_46 rfl (lv_at hl 0 rfl) ?_
      refine lv_if_ge (tgt := 55) hx hb dX5_readsWay_47 (by decide) (fun c47 => ?_) (fun c47 => ?_)
      · have h1 : kNone (dFr (kcode mSc fr n) K w) = nI (dFr (kcode mSc fr n) K w) ∧ dFr (kcode mSc fr n) K w ≠ 999 ∧ 0 ≤ dFr (kcode mSc fr n) K w ∧ dFr (kcode mSc fr n) K w ≤ (K - 1) := kn_ge (by omega) c47
        rw [show kNone (digN ((kcode mSc fr n) (1 + 2 * K + 4 * w + 1)) 0 (K - 1)) = nI (dFr (kcode mSc fr n) K w) from h1.1] at hl
        have ea_5 : a_5 = 1 + 2 * K + 4 * w + 2 := by rw [hr_3]; exact if_neg h1.2.1
        rw [ea_5] at hP hD
        refine lv_aload_n hx hb dX5_readsWay_55 rfl (lv_at hl 1 rfl) ?_
        refine lv_iload_n hx hb dX5_readsWay_56 rfl (lv_at hl 2 rfl) ?_
        refine lv_iload_n hx hb dX5_readsWay_57 rfl (lv_at hl 3 rfl) ?_
        refine lv_iconst (v := nI 0) hx hb dX5_readsWay_58 (by decide) ?_
        refine lv_aload_n hx hb dX5_readsWay_59 rfl (lv_at hl 1 rfl) ?_
        refine va_get (D := (dC, dI)) (ci := 5) (v := .int (nI K)) (C := RX5) (T := TX5) (N := 35) hx hb hts hinX5 hown hK hP 0 rfl rfl 12 (by decide) lk111 (fun _ h9 => h9) rfl dX5_readsWay_60 ?_
        refine lv_iconst (v := nI 1) hx hb dX5_readsWay_63 (by decide) ?_
        refine k_isub hx hb (by omega) dX5_readsWay_64 ?_
        refine kc_i (wr := [(bRf, .inl (cI, 9, .inl mRf)), (bRo, .inl (cI, 9, .inl mRo)), (bRl, .inl (cI, 9, .inl mRl))]) (va_runV (As := [.int (nI fr), .int (nI n), .int (nI 0), .int (nI (K - 1))]) (rest := []) ⟨hx, hb, hml, hown, hts⟩ (kX5_figure bM fa np bKk bKs hm nw bWf bWt bWl lw bFo (1 + 2 * K + 4 * w + 2) K w bRk bRs bRf bRo bRl nt bTp bTt bTd bHd bFn nr bRp bRt bRe bRh bZs bZl bSc bHn tr mSc fr n 0 (K - 1) hin (by omega) (by omega) (by omega)) (cwV 4 hts gX5_readsWay_X5_figure rfl rfl rfl hvX5_figure ⟨Nat.le_of_ble_eq_true rfl, Nat.le_of_ble_eq_true rfl⟩) (kpreV hN (q := (RX5, TX5, 35)) (ci := 5) hK (hP.sub [0, 1] rfl) (hD.sub [0, 1] (by decide) rfl) 0 rfl rfl) rfl rfl hl.1 rfl (lv_room (Nat.le_of_ble_eq_true rfl)) dX5_readsWay_65 ⟨Nat.zero_le _, Nat.zero_le _⟩) (fun _ => by simp only [List.map]) hP hD hS hA [0, 1] [2, 3, 4] rfl rfl (by decide) (by decide) (by decide) (fun r_6 a_8 H_7 locs hr_6 hP hD hS => ?_)
        have hP : va_P (dC, dI) vwCl [(bRf, .inl (cI, 9, .inl mRf)), (bRo, .inl (cI, 9, .inl mRo)), (bRl, .inl (cI, 9, .inl mRl)), (bM, .inr (5, .int (nI fa) :: .int (nI np) :: .ref bKk :: .ref bKs :: .int (nI hm) :: .int (nI nw) :: .ref bWf :: .ref bWt :: .ref bWl :: .int (nI lw) :: .ref bFo :: .int (nI a_8) :: .int (nI K) :: .int (nI w) :: .ref bRk :: .ref bRs :: .ref bRf :: .ref bRo :: .ref bRl :: .int (nI nt) :: .ref bTp :: .ref bTt :: .ref bTd :: .ref bHd :: .ref bFn :: .int (nI nr) :: .ref bRp :: .ref bRt :: .ref bRe :: .ref bRh :: .ref bZs :: .ref bZl :: .ref bSc :: .ref bHn :: .int tr :: [])), (bSc, .inl (cI, 240, .inl mSc))] H_7 := hP
        have hD : va_D zA [(bRf, .inl (cI, 9, .inl mRf)), (bRo, .inl (cI, 9, .inl mRo)), (bRl, .inl (cI, 9, .inl mRl)), (bM, .inr (5, .int (nI fa) :: .int (nI np) :: .ref bKk :: .ref bKs :: .int (nI hm) :: .int (nI nw) :: .ref bWf :: .ref bWt :: .ref bWl :: .int (nI lw) :: .ref bFo :: .int (nI a_8) :: .int (nI K) :: .int (nI w) :: .ref bRk :: .ref bRs :: .ref bRf :: .ref bRo :: .ref bRl :: .int (nI nt) :: .ref bTp :: .ref bTt :: .ref bTd :: .ref bHd :: .ref bFn :: .int (nI nr) :: .ref bRp :: .ref bRt :: .ref bRe :: .ref bRh :: .ref bZs :: .ref bZl :: .ref bSc :: .ref bHn :: .int tr :: [])), (bSc, .inl (cI, 240, .inl mSc))] := hD
        have hP := hP.sub (ws' := [(bM, .inr (5, .int (nI fa) :: .int (nI np) :: .ref bKk :: .ref bKs :: .int (nI hm) :: .int (nI nw) :: .ref bWf :: .ref bWt :: .ref bWl :: .int (nI lw) :: .ref bFo :: .int (nI a_8) :: .int (nI K) :: .int (nI w) :: .ref bRk :: .ref bRs :: .ref bRf :: .ref bRo :: .ref bRl :: .int (nI nt) :: .ref bTp :: .ref bTt :: .ref bTd :: .ref bHd :: .ref bFn :: .int (nI nr) :: .ref bRp :: .ref bRt :: .ref bRe :: .ref bRh :: .ref bZs :: .ref bZl :: .ref bSc :: .ref bHn :: .int tr :: [])), (bSc, .inl (cI, 240, .inl mSc)), (bRf, .inl (cI, 9, .inl mRf)), (bRo, .inl (cI, 9, .inl mRo)), (bRl, .inl (cI, 9, .inl mRl))]) [3, 4, 0, 1, 2] rfl
        have hD := hD.sub (ws' := [(bM, .inr (5, .int (nI fa) :: .int (nI np) :: .ref bKk :: .ref bKs :: .int (nI hm) :: .int (nI nw) :: .ref bWf :: .ref bWt :: .ref bWl :: .int (nI lw) :: .ref bFo :: .int (nI a_8) :: .int (nI K) :: .int (nI w) :: .ref bRk :: .ref bRs :: .ref bRf :: .ref bRo :: .ref bRl :: .int (nI nt) :: .ref bTp :: .ref bTt :: .ref bTd :: .ref bHd :: .ref bFn :: .int (nI nr) :: .ref bRp :: .ref bRt :: .ref bRe :: .ref bRh :: .ref bZs :: .ref bZl :: .ref bSc :: .ref bHn :: .int tr :: [])), (bSc, .inl (cI, 240, .inl mSc)), (bRf, .inl (cI, 9, .inl mRf)), (bRo, .inl (cI, 9, .inl mRo)), (bRl, .inl (cI, 9, .inl mRl))]) [3, 4, 0, 1, 2] (by decide) rfl
        obtain ⟨er_6, hr_6⟩ := hr_6
        have er_6 : r_6 = kNone (digN ((kcode mSc fr n) (1 + 2 * K + 4 * w + 2)) 0 (K - 1)) := er_6
        rw [er_6]
        refine lv_istore (lv' := [(4, .int (kNone (digN ((kcode mSc fr n) (1 + 2 * K + 4 * w + 2)) 0 (K - 1)))), (3, .int (nI (dFr (kcode mSc fr n) K w))), (0, .ref bM), (1, .int (nI fr)), (2, .int (nI n))]) hx hb dX5_readsWay_68 hl (by decide) rfl (fun ls hl => ?_)
        refine lv_iload hx hb dX5_readsWay_70 (lv_at hl 0 rfl) ?_
        refine lv_if_ge (tgt := 80) hx hb dX5_readsWay_72 (by decide) (fun c72 => ?_) (fun c72 => ?_)
        · have h2 : kNone (dTo (kcode mSc fr n) K w) = nI (dTo (kcode mSc fr n) K w) ∧ dTo (kcode mSc fr n) K w ≠ 999 ∧ 0 ≤ dTo (kcode mSc fr n) K w ∧ dTo (kcode mSc fr n) K w ≤ (K - 1) := kn_ge (by omega) c72
          rw [show kNone (digN ((kcode mSc fr n) (1 + 2 * K + 4 * w + 2)) 0 (K - 1)) = nI (dTo (kcode mSc fr n) K w) from h2.1] at hl
          have ea_8 : a_8 = 1 + 2 * K + 4 * w + 3 := by rw [hr_6]; exact if_neg h2.2.1
          rw [ea_8] at hP hD
          refine lv_aload_n hx hb dX5_readsWay_80 rfl (lv_at hl 2 rfl) ?_
          refine lv_iload_n hx hb dX5_readsWay_81 rfl (lv_at hl 3 rfl) ?_
          refine lv_iload_n hx hb dX5_readsWay_82 rfl (lv_at hl 4 rfl) ?_
          refine lv_iconst (v := nI 1) hx hb dX5_readsWay_83 (by decide) ?_
          refine lv_bipush (v := nI 9) hx hb dX5_readsWay_84 (by decide) ?_
          refine kc_i (wr := [(bRf, .inl (cI, 9, .inl mRf)), (bRo, .inl (cI, 9, .inl mRo)), (bRl, .inl (cI, 9, .inl mRl))]) (va_runV (As := [.int (nI fr), .int (nI n), .int (nI 1), .int (nI 9)]) (rest := []) ⟨hx, hb, hml, hown, hts⟩ (kX5_figure bM fa np bKk bKs hm nw bWf bWt bWl lw bFo (1 + 2 * K + 4 * w + 3) K w bRk bRs bRf bRo bRl nt bTp bTt bTd bHd bFn nr bRp bRt bRe bRh bZs bZl bSc bHn tr mSc fr n 1 9 hin (by omega) (by omega) (by omega)) (cwV 4 hts gX5_readsWay_X5_figure rfl rfl rfl hvX5_figure ⟨Nat.le_of_ble_eq_true rfl, Nat.le_of_ble_eq_true rfl⟩) (kpreV hN (q := (RX5, TX5, 35)) (ci := 5) hK (hP.sub [0, 1] rfl) (hD.sub [0, 1] (by decide) rfl) 0 rfl rfl) rfl rfl hl.1 rfl (lv_room (Nat.le_of_ble_eq_true rfl)) dX5_readsWay_86 ⟨Nat.zero_le _, Nat.zero_le _⟩) (fun _ => by simp only [List.map]) hP hD hS hA [0, 1] [2, 3, 4] rfl rfl (by decide) (by decide) (by decide) (fun r_9 a_11 H_10 locs hr_9 hP hD hS => ?_)
          have hP : va_P (dC, dI) vwCl [(bRf, .inl (cI, 9, .inl mRf)), (bRo, .inl (cI, 9, .inl mRo)), (bRl, .inl (cI, 9, .inl mRl)), (bM, .inr (5, .int (nI fa) :: .int (nI np) :: .ref bKk :: .ref bKs :: .int (nI hm) :: .int (nI nw) :: .ref bWf :: .ref bWt :: .ref bWl :: .int (nI lw) :: .ref bFo :: .int (nI a_11) :: .int (nI K) :: .int (nI w) :: .ref bRk :: .ref bRs :: .ref bRf :: .ref bRo :: .ref bRl :: .int (nI nt) :: .ref bTp :: .ref bTt :: .ref bTd :: .ref bHd :: .ref bFn :: .int (nI nr) :: .ref bRp :: .ref bRt :: .ref bRe :: .ref bRh :: .ref bZs :: .ref bZl :: .ref bSc :: .ref bHn :: .int tr :: [])), (bSc, .inl (cI, 240, .inl mSc))] H_10 := hP
          have hD : va_D zA [(bRf, .inl (cI, 9, .inl mRf)), (bRo, .inl (cI, 9, .inl mRo)), (bRl, .inl (cI, 9, .inl mRl)), (bM, .inr (5, .int (nI fa) :: .int (nI np) :: .ref bKk :: .ref bKs :: .int (nI hm) :: .int (nI nw) :: .ref bWf :: .ref bWt :: .ref bWl :: .int (nI lw) :: .ref bFo :: .int (nI a_11) :: .int (nI K) :: .int (nI w) :: .ref bRk :: .ref bRs :: .ref bRf :: .ref bRo :: .ref bRl :: .int (nI nt) :: .ref bTp :: .ref bTt :: .ref bTd :: .ref bHd :: .ref bFn :: .int (nI nr) :: .ref bRp :: .ref bRt :: .ref bRe :: .ref bRh :: .ref bZs :: .ref bZl :: .ref bSc :: .ref bHn :: .int tr :: [])), (bSc, .inl (cI, 240, .inl mSc))] := hD
          have hP := hP.sub (ws' := [(bM, .inr (5, .int (nI fa) :: .int (nI np) :: .ref bKk :: .ref bKs :: .int (nI hm) :: .int (nI nw) :: .ref bWf :: .ref bWt :: .ref bWl :: .int (nI lw) :: .ref bFo :: .int (nI a_11) :: .int (nI K) :: .int (nI w) :: .ref bRk :: .ref bRs :: .ref bRf :: .ref bRo :: .ref bRl :: .int (nI nt) :: .ref bTp :: .ref bTt :: .ref bTd :: .ref bHd :: .ref bFn :: .int (nI nr) :: .ref bRp :: .ref bRt :: .ref bRe :: .ref bRh :: .ref bZs :: .ref bZl :: .ref bSc :: .ref bHn :: .int tr :: [])), (bSc, .inl (cI, 240, .inl mSc)), (bRf, .inl (cI, 9, .inl mRf)), (bRo, .inl (cI, 9, .inl mRo)), (bRl, .inl (cI, 9, .inl mRl))]) [3, 4, 0, 1, 2] rfl
          have hD := hD.sub (ws' := [(bM, .inr (5, .int (nI fa) :: .int (nI np) :: .ref bKk :: .ref bKs :: .int (nI hm) :: .int (nI nw) :: .ref bWf :: .ref bWt :: .ref bWl :: .int (nI lw) :: .ref bFo :: .int (nI a_11) :: .int (nI K) :: .int (nI w) :: .ref bRk :: .ref bRs :: .ref bRf :: .ref bRo :: .ref bRl :: .int (nI nt) :: .ref bTp :: .ref bTt :: .ref bTd :: .ref bHd :: .ref bFn :: .int (nI nr) :: .ref bRp :: .ref bRt :: .ref bRe :: .ref bRh :: .ref bZs :: .ref bZl :: .ref bSc :: .ref bHn :: .int tr :: [])), (bSc, .inl (cI, 240, .inl mSc)), (bRf, .inl (cI, 9, .inl mRf)), (bRo, .inl (cI, 9, .inl mRo)), (bRl, .inl (cI, 9, .inl mRl))]) [3, 4, 0, 1, 2] (by decide) rfl
          obtain ⟨er_9, hr_9⟩ := hr_9
          have er_9 : r_9 = kNone (digN ((kcode mSc fr n) (1 + 2 * K + 4 * w + 3)) 1 9) := er_9
          rw [er_9]
          refine lv_istore (lv' := [(5, .int (kNone (digN ((kcode mSc fr n) (1 + 2 * K + 4 * w + 3)) 1 9))), (4, .int (nI (dTo (kcode mSc fr n) K w))), (3, .int (nI (dFr (kcode mSc fr n) K w))), (0, .ref bM), (1, .int (nI fr)), (2, .int (nI n))]) hx hb dX5_readsWay_89 hl (by decide) rfl (fun ls hl => ?_)
          refine lv_iload hx hb dX5_readsWay_91 (lv_at hl 0 rfl) ?_
          refine lv_if_ge (tgt := 98) hx hb dX5_readsWay_93 (by decide) (fun c93 => ?_) (fun c93 => ?_)
          · have h3 : kNone (dDa (kcode mSc fr n) K w) = nI (dDa (kcode mSc fr n) K w) ∧ dDa (kcode mSc fr n) K w ≠ 999 ∧ 1 ≤ dDa (kcode mSc fr n) K w ∧ dDa (kcode mSc fr n) K w ≤ 9 := kn_ge (by omega) c93
            rw [show kNone (digN ((kcode mSc fr n) (1 + 2 * K + 4 * w + 3)) 1 9) = nI (dDa (kcode mSc fr n) K w) from h3.1] at hl
            have ea_11 : a_11 = 1 + 2 * K + 4 * w + 4 := by rw [hr_9]; exact if_neg h3.2.1
            rw [ea_11] at hP hD
            refine lv_aload_n hx hb dX5_readsWay_98 rfl (lv_at hl 3 rfl) ?_
            refine va_get (D := (dC, dI)) (ci := 5) (v := .ref bRf) (C := RX5) (T := TX5) (N := 35) hx hb hts hinX5 hown hK hP 0 rfl rfl 16 (by decide) lk35 (fun _ h9 => h9) rfl dX5_readsWay_99 ?_
            refine lv_aload_n hx hb dX5_readsWay_102 rfl (lv_at hl 3 rfl) ?_
            refine va_get (D := (dC, dI)) (ci := 5) (v := .int (nI w)) (C := RX5) (T := TX5) (N := 35) hx hb hts hinX5 hown hK hP 0 rfl rfl 13 (by decide) lk118 (fun _ h9 => h9) rfl dX5_readsWay_103 ?_
            refine lv_iload_n hx hb dX5_readsWay_106 rfl (lv_at hl 2 rfl) ?_
            refine k_iast hx hb hK hP hD hS 2 0 rfl rfl (n := 9) (by omega) (by decide) dX5_readsWay_107 (fun f_12 H_13 locs ef_12 hP hD hS => ?_)
            have hP : va_P (dC, dI) vwCl [(bM, .inr (5, .int (nI fa) :: .int (nI np) :: .ref bKk :: .ref bKs :: .int (nI hm) :: .int (nI nw) :: .ref bWf :: .ref bWt :: .ref bWl :: .int (nI lw) :: .ref bFo :: .int (nI (1 + 2 * K + 4 * w + 4)) :: .int (nI K) :: .int (nI w) :: .ref bRk :: .ref bRs :: .ref bRf :: .ref bRo :: .ref bRl :: .int (nI nt) :: .ref bTp :: .ref bTt :: .ref bTd :: .ref bHd :: .ref bFn :: .int (nI nr) :: .ref bRp :: .ref bRt :: .ref bRe :: .ref bRh :: .ref bZs :: .ref bZl :: .ref bSc :: .ref bHn :: .int tr :: [])), (bSc, .inl (cI, 240, .inl mSc)), (bRf, .inl (cI, 9, .inl f_12)), (bRo, .inl (cI, 9, .inl mRo)), (bRl, .inl (cI, 9, .inl mRl))] H_13 := hP
            have hD : va_D zA [(bM, .inr (5, .int (nI fa) :: .int (nI np) :: .ref bKk :: .ref bKs :: .int (nI hm) :: .int (nI nw) :: .ref bWf :: .ref bWt :: .ref bWl :: .int (nI lw) :: .ref bFo :: .int (nI (1 + 2 * K + 4 * w + 4)) :: .int (nI K) :: .int (nI w) :: .ref bRk :: .ref bRs :: .ref bRf :: .ref bRo :: .ref bRl :: .int (nI nt) :: .ref bTp :: .ref bTt :: .ref bTd :: .ref bHd :: .ref bFn :: .int (nI nr) :: .ref bRp :: .ref bRt :: .ref bRe :: .ref bRh :: .ref bZs :: .ref bZl :: .ref bSc :: .ref bHn :: .int tr :: [])), (bSc, .inl (cI, 240, .inl mSc)), (bRf, .inl (cI, 9, .inl f_12)), (bRo, .inl (cI, 9, .inl mRo)), (bRl, .inl (cI, 9, .inl mRl))] := hD
            refine lv_aload_n hx hb dX5_readsWay_108 rfl (lv_at hl 3 rfl) ?_
            refine va_get (D := (dC, dI)) (ci := 5) (v := .ref bRo) (C := RX5) (T := TX5) (N := 35) hx hb hts hinX5 hown hK hP 0 rfl rfl 17 (by decide) lk38 (fun _ h9 => h9) rfl dX5_readsWay_109 ?_
            refine lv_aload_n hx hb dX5_readsWay_112 rfl (lv_at hl 3 rfl) ?_
            refine va_get (D := (dC, dI)) (ci := 5) (v := .int (nI w)) (C := RX5) (T := TX5) (N := 35) hx hb hts hinX5 hown hK hP 0 rfl rfl 13 (by decide) lk118 (fun _ h9 => h9) rfl dX5_readsWay_113 ?_
            refine lv_iload hx hb dX5_readsWay_116 (lv_at hl 1 rfl) ?_
            refine k_iast hx hb hK hP hD hS 3 0 rfl rfl (n := 9) (by omega) (by decide) dX5_readsWay_118 (fun f_14 H_15 locs ef_14 hP hD hS => ?_)
            have hP : va_P (dC, dI) vwCl [(bM, .inr (5, .int (nI fa) :: .int (nI np) :: .ref bKk :: .ref bKs :: .int (nI hm) :: .int (nI nw) :: .ref bWf :: .ref bWt :: .ref bWl :: .int (nI lw) :: .ref bFo :: .int (nI (1 + 2 * K + 4 * w + 4)) :: .int (nI K) :: .int (nI w) :: .ref bRk :: .ref bRs :: .ref bRf :: .ref bRo :: .ref bRl :: .int (nI nt) :: .ref bTp :: .ref bTt :: .ref bTd :: .ref bHd :: .ref bFn :: .int (nI nr) :: .ref bRp :: .ref bRt :: .ref bRe :: .ref bRh :: .ref bZs :: .ref bZl :: .ref bSc :: .ref bHn :: .int tr :: [])), (bSc, .inl (cI, 240, .inl mSc)), (bRf, .inl (cI, 9, .inl f_12)), (bRo, .inl (cI, 9, .inl f_14)), (bRl, .inl (cI, 9, .inl mRl))] H_15 := hP
            have hD : va_D zA [(bM, .inr (5, .int (nI fa) :: .int (nI np) :: .ref bKk :: .ref bKs :: .int (nI hm) :: .int (nI nw) :: .ref bWf :: .ref bWt :: .ref bWl :: .int (nI lw) :: .ref bFo :: .int (nI (1 + 2 * K + 4 * w + 4)) :: .int (nI K) :: .int (nI w) :: .ref bRk :: .ref bRs :: .ref bRf :: .ref bRo :: .ref bRl :: .int (nI nt) :: .ref bTp :: .ref bTt :: .ref bTd :: .ref bHd :: .ref bFn :: .int (nI nr) :: .ref bRp :: .ref bRt :: .ref bRe :: .ref bRh :: .ref bZs :: .ref bZl :: .ref bSc :: .ref bHn :: .int tr :: [])), (bSc, .inl (cI, 240, .inl mSc)), (bRf, .inl (cI, 9, .inl f_12)), (bRo, .inl (cI, 9, .inl f_14)), (bRl, .inl (cI, 9, .inl mRl))] := hD
            refine lv_aload_n hx hb dX5_readsWay_119 rfl (lv_at hl 3 rfl) ?_
            refine va_get (D := (dC, dI)) (ci := 5) (v := .ref bRl) (C := RX5) (T := TX5) (N := 35) hx hb hts hinX5 hown hK hP 0 rfl rfl 18 (by decide) lk41 (fun _ h9 => h9) rfl dX5_readsWay_120 ?_
            refine lv_aload_n hx hb dX5_readsWay_123 rfl (lv_at hl 3 rfl) ?_
            refine va_get (D := (dC, dI)) (ci := 5) (v := .int (nI w)) (C := RX5) (T := TX5) (N := 35) hx hb hts hinX5 hown hK hP 0 rfl rfl 13 (by decide) lk118 (fun _ h9 => h9) rfl dX5_readsWay_124 ?_
            refine lv_iload hx hb dX5_readsWay_127 (lv_at hl 0 rfl) ?_
            refine k_iast hx hb hK hP hD hS 4 0 rfl rfl (n := 9) (by omega) (by decide) dX5_readsWay_129 (fun f_16 H_17 locs ef_16 hP hD hS => ?_)
            have hP : va_P (dC, dI) vwCl [(bM, .inr (5, .int (nI fa) :: .int (nI np) :: .ref bKk :: .ref bKs :: .int (nI hm) :: .int (nI nw) :: .ref bWf :: .ref bWt :: .ref bWl :: .int (nI lw) :: .ref bFo :: .int (nI (1 + 2 * K + 4 * w + 4)) :: .int (nI K) :: .int (nI w) :: .ref bRk :: .ref bRs :: .ref bRf :: .ref bRo :: .ref bRl :: .int (nI nt) :: .ref bTp :: .ref bTt :: .ref bTd :: .ref bHd :: .ref bFn :: .int (nI nr) :: .ref bRp :: .ref bRt :: .ref bRe :: .ref bRh :: .ref bZs :: .ref bZl :: .ref bSc :: .ref bHn :: .int tr :: [])), (bSc, .inl (cI, 240, .inl mSc)), (bRf, .inl (cI, 9, .inl f_12)), (bRo, .inl (cI, 9, .inl f_14)), (bRl, .inl (cI, 9, .inl f_16))] H_17 := hP
            have hD : va_D zA [(bM, .inr (5, .int (nI fa) :: .int (nI np) :: .ref bKk :: .ref bKs :: .int (nI hm) :: .int (nI nw) :: .ref bWf :: .ref bWt :: .ref bWl :: .int (nI lw) :: .ref bFo :: .int (nI (1 + 2 * K + 4 * w + 4)) :: .int (nI K) :: .int (nI w) :: .ref bRk :: .ref bRs :: .ref bRf :: .ref bRo :: .ref bRl :: .int (nI nt) :: .ref bTp :: .ref bTt :: .ref bTd :: .ref bHd :: .ref bFn :: .int (nI nr) :: .ref bRp :: .ref bRt :: .ref bRe :: .ref bRh :: .ref bZs :: .ref bZl :: .ref bSc :: .ref bHn :: .int tr :: [])), (bSc, .inl (cI, 240, .inl mSc)), (bRf, .inl (cI, 9, .inl f_12)), (bRo, .inl (cI, 9, .inl f_14)), (bRl, .inl (cI, 9, .inl f_16))] := hD
            refine lv_aload_n hx hb dX5_readsWay_130 rfl (lv_at hl 3 rfl) ?_
            refine lv_dup hx hb dX5_readsWay_131 rfl ?_
            refine va_get (D := (dC, dI)) (ci := 5) (v := .int (nI w)) (C := RX5) (T := TX5) (N := 35) hx hb hts hinX5 hown hK hP 0 rfl rfl 13 (by decide) lk118 (fun _ h9 => h9) rfl dX5_readsWay_132 ?_
            refine lv_iconst (v := nI 1) hx hb dX5_readsWay_135 (by decide) ?_
            refine k_iadd hx hb dX5_readsWay_136 ?_
            refine va_put (D := (dC, dI)) (ci := 5) (v := .int (nI (w + 1))) (ty := .int) (C := RX5) (T := TX5) (N := 35) hx hb hts hinX5 tyX5 tyX5_ok nmX5 hown hK hP hD hS 0 rfl rfl 13 (by decide) lk118 (fun _ h9 => h9) rfl (tyX5_ok 13 (by decide)) rfl rfl (Nat.le_of_ble_eq_true rfl) dX5_readsWay_137 (fun H_18 locs hP hD hS => ?_)
            have hP : va_P (dC, dI) vwCl [(bM, .inr (5, .int (nI fa) :: .int (nI np) :: .ref bKk :: .ref bKs :: .int (nI hm) :: .int (nI nw) :: .ref bWf :: .ref bWt :: .ref bWl :: .int (nI lw) :: .ref bFo :: .int (nI (1 + 2 * K + 4 * w + 4)) :: .int (nI K) :: .int (nI (w + 1)) :: .ref bRk :: .ref bRs :: .ref bRf :: .ref bRo :: .ref bRl :: .int (nI nt) :: .ref bTp :: .ref bTt :: .ref bTd :: .ref bHd :: .ref bFn :: .int (nI nr) :: .ref bRp :: .ref bRt :: .ref bRe :: .ref bRh :: .ref bZs :: .ref bZl :: .ref bSc :: .ref bHn :: .int tr :: [])), (bSc, .inl (cI, 240, .inl mSc)), (bRf, .inl (cI, 9, .inl f_12)), (bRo, .inl (cI, 9, .inl f_14)), (bRl, .inl (cI, 9, .inl f_16))] H_18 := hP
            have hD : va_D zA [(bM, .inr (5, .int (nI fa) :: .int (nI np) :: .ref bKk :: .ref bKs :: .int (nI hm) :: .int (nI nw) :: .ref bWf :: .ref bWt :: .ref bWl :: .int (nI lw) :: .ref bFo :: .int (nI (1 + 2 * K + 4 * w + 4)) :: .int (nI K) :: .int (nI (w + 1)) :: .ref bRk :: .ref bRs :: .ref bRf :: .ref bRo :: .ref bRl :: .int (nI nt) :: .ref bTp :: .ref bTt :: .ref bTd :: .ref bHd :: .ref bFn :: .int (nI nr) :: .ref bRp :: .ref bRt :: .ref bRe :: .ref bRh :: .ref bZs :: .ref bZl :: .ref bSc :: .ref bHn :: .int tr :: [])), (bSc, .inl (cI, 240, .inl mSc)), (bRf, .inl (cI, 9, .inl f_12)), (bRo, .inl (cI, 9, .inl f_14)), (bRl, .inl (cI, 9, .inl f_16))] := hD
            refine lv_iconst (v := nI 1) hx hb dX5_readsWay_140 (by decide) ?_
            refine k_cast (y := kb true) (rfl) ?_
            refine hret 141 _ true (f_12, f_14, f_16, 1 + 2 * K + 4 * w + 4, w + 1) _ _ dX5_readsWay_141 hS (fun t ht _ => by rw [ht]; exact hP) ?_
            have h59 : (kcode mSc fr n) (wPl K w) = nI 59 := (rc_val (by decide) (by decide)).mp c17
            have hw8 : w < 9 := by omega
            have hg : wGo (kcode mSc fr n) K w = true := by unfold wGo wOK; simp [hw8, h59, h1.2.1, h2.2.1, h3.2.1]
            have ha : 1 + 2 * K + 4 * w + 4 = wPl K (w + 1) := by unfold wPl; omega
            exact ⟨by rw [hg], by unfold wPost; rw [if_pos hg]; exact ⟨ha, rfl, ef_12, ef_14, ef_16⟩⟩
          · refine lv_iconst (v := nI 0) hx hb dX5_readsWay_96 (by decide) ?_
            refine k_cast (y := kb false) (rfl) ?_
            refine hret 97 _ false (mRf, mRo, mRl, a_11, w) _ _ dX5_readsWay_97 hS (fun t ht _ => by rw [ht]; exact hP) ?_
            have h59 : (kcode mSc fr n) (wPl K w) = nI 59 := (rc_val (by decide) (by decide)).mp c17
            have hw8 : w < 9 := by omega
            have hn : dDa (kcode mSc fr n) K w = 999 := kn_lt (by omega) c93
            have hg : wGo (kcode mSc fr n) K w = false := by unfold wGo wOK; simp [hn]
            have ha : a_11 = wPl K w + 3 := by rw [hr_9]; exact if_pos hn
            exact ⟨by rw [hg], by unfold wPost; rw [if_neg (by rw [hg]; decide)]; unfold wFail; rw [if_pos ⟨hw8, h59⟩, if_neg h1.2.1, if_neg h2.2.1]; exact ⟨ha, rfl, rfl, rfl, rfl⟩⟩
        · refine lv_bipush (v := (-9)) hx hb dX5_readsWay_75 (by decide) ?_
          refine lv_goto (tgt := 89) hx hb dX5_readsWay_77 (by decide) ?_
          refine lv_istore (lv' := [(5, .int (-9)), (4, .int (kNone (digN ((kcode mSc fr n) (1 + 2 * K + 4 * w + 2)) 0 (K - 1)))), (3, .int (nI (dFr (kcode mSc fr n) K w))), (0, .ref bM), (1, .int (nI fr)), (2, .int (nI n))]) hx hb dX5_readsWay_89 hl (by decide) rfl (fun ls hl => ?_)
          refine lv_iload hx hb dX5_readsWay_91 (lv_at hl 0 rfl) ?_
          refine lv_if_ge (tgt := 98) hx hb dX5_readsWay_93 (by decide) (fun c93 => absurd c93 (by decide)) (fun c93 => ?_)
          refine lv_iconst (v := nI 0) hx hb dX5_readsWay_96 (by decide) ?_
          refine k_cast (y := kb false) (rfl) ?_
          refine hret 97 _ false (mRf, mRo, mRl, a_8, w) _ _ dX5_readsWay_97 hS (fun t ht _ => by rw [ht]; exact hP) ?_
          have h59 : (kcode mSc fr n) (wPl K w) = nI 59 := (rc_val (by decide) (by decide)).mp c17
          have hw8 : w < 9 := by omega
          have hn : dTo (kcode mSc fr n) K w = 999 := kn_lt (by omega) c72
          have hg : wGo (kcode mSc fr n) K w = false := by unfold wGo wOK; simp [hn]
          have ha : a_8 = wPl K w + 2 := by rw [hr_6]; exact if_pos hn
          exact ⟨by rw [hg], by unfold wPost; rw [if_neg (by rw [hg]; decide)]; unfold wFail; rw [if_pos ⟨hw8, h59⟩, if_neg h1.2.1, if_pos hn]; exact ⟨ha, rfl, rfl, rfl, rfl⟩⟩
      · refine lv_bipush (v := (-9)) hx hb dX5_readsWay_50 (by decide) ?_
        refine lv_goto (tgt := 68) hx hb dX5_readsWay_52 (by decide) ?_
        refine lv_istore (lv' := [(4, .int (-9)), (3, .int (kNone (digN ((kcode mSc fr n) (1 + 2 * K + 4 * w + 1)) 0 (K - 1)))), (0, .ref bM), (1, .int (nI fr)), (2, .int (nI n))]) hx hb dX5_readsWay_68 hl (by decide) rfl (fun ls hl => ?_)
        refine lv_iload hx hb dX5_readsWay_70 (lv_at hl 0 rfl) ?_
        refine lv_if_ge (tgt := 80) hx hb dX5_readsWay_72 (by decide) (fun c72 => absurd c72 (by decide)) (fun c72 => ?_)
        refine lv_bipush (v := (-9)) hx hb dX5_readsWay_75 (by decide) ?_
        refine lv_goto (tgt := 89) hx hb dX5_readsWay_77 (by decide) ?_
        refine lv_istore (lv' := [(5, .int (-9)), (4, .int (-9)), (3, .int (kNone (digN ((kcode mSc fr n) (1 + 2 * K + 4 * w + 1)) 0 (K - 1)))), (0, .ref bM), (1, .int (nI fr)), (2, .int (nI n))]) hx hb dX5_readsWay_89 hl (by decide) rfl (fun ls hl => ?_)
        refine lv_iload hx hb dX5_readsWay_91 (lv_at hl 0 rfl) ?_
        refine lv_if_ge (tgt := 98) hx hb dX5_readsWay_93 (by decide) (fun c93 => absurd c93 (by decide)) (fun c93 => ?_)
        refine lv_iconst (v := nI 0) hx hb dX5_readsWay_96 (by decide) ?_
        refine k_cast (y := kb false) (rfl) ?_
        refine hret 97 _ false (mRf, mRo, mRl, a_5, w) _ _ dX5_readsWay_97 hS (fun t ht _ => by rw [ht]; exact hP) ?_
        have h59 : (kcode mSc fr n) (wPl K w) = nI 59 := (rc_val (by decide) (by decide)).mp c17
        have hw8 : w < 9 := by omega
        have hn : dFr (kcode mSc fr n) K w = 999 := kn_lt (by omega) c47
        have hg : wGo (kcode mSc fr n) K w = false := by unfold wGo wOK; simp [hn]
        have ha : a_5 = wPl K w + 1 := by rw [hr_3]; exact if_pos hn
        exact ⟨by rw [hg], by unfold wPost; rw [if_neg (by rw [hg]; decide)]; unfold wFail; rw [if_pos ⟨hw8, h59⟩, if_pos hn]; exact ⟨ha, rfl, rfl, rfl, rfl⟩⟩
    · refine lv_iconst (v := nI 0) hx hb dX5_readsWay_20 (by decide) ?_
      refine k_cast (y := kb false) (rfl) ?_
      refine hret 21 _ false (mRf, mRo, mRl, 1 + 2 * K + 4 * w, w) _ _ dX5_readsWay_21 hS (fun t ht _ => by rw [ht]; exact hP) ?_
      have h59 : ¬ (kcode mSc fr n) (wPl K w) = nI 59 := fun z => c17 ((rc_val (by decide) (by decide)).mpr z)
      have hg : wGo (kcode mSc fr n) K w = false := by unfold wGo wOK; simp [h59]
      exact ⟨by rw [hg], by unfold wPost; rw [if_neg (by rw [hg]; decide)]; unfold wFail; rw [if_neg (fun z => h59 z.2)]; exact ⟨rfl, rfl, rfl, rfl, rfl⟩⟩

set_option maxHeartbeats 800000 in
set_option maxRecDepth 100000 in
theorem kX5_readsPass {zl : Launch} {dC : Nat → ClassId} {dI : Nat → Nat → Nat} {cI cJ cZ cS : ClassId} {sz : Nat} (bM : Nat) (fa : Nat) (np : Nat) (bKk : Nat) (bKs : Nat) (hm : Nat) (nw : Nat) (bWf : Nat) (bWt : Nat) (bWl : Nat) (lw : Nat) (bFo : Nat) (qa : Nat) (qp_ : Nat) (qw_ : Nat) (bRk : Nat) (bRs : Nat) (bRf : Nat) (bRo : Nat) (bRl : Nat) (nt : Nat) (bTp : Nat) (bTt : Nat) (bTd : Nat) (bHd : Nat) (bFn : Nat) (nr : Nat) (bRp : Nat) (bRt : Nat) (bRe : Nat) (bRh : Nat) (bZs : Nat) (bZl : Nat) (bSc : Nat) (bHn : Nat) (tr : Int32) (mSc : Nat → Int32) (mRk : Nat → Int32) (mRs : Nat → Int32) (mRf : Nat → Int32) (mRo : Nat → Int32) (mRl : Nat → Int32) (fr : Nat) (n : Nat) (hin : fr + n ≤ 240) (hn : n ≤ 60) : Met zl yX5_readsPass wsX5_readsPass ({ frames := 3, cells := 0, slots := 0, locals := 76 } : Room) (va_Pc [.ref bM, .int (nI fr), .int (nI n)] (kPre (dC, dI) (kT cI cJ cZ cS) [(bM, .inr (5, .int (nI fa) :: .int (nI np) :: .ref bKk :: .ref bKs :: .int (nI hm) :: .int (nI nw) :: .ref bWf :: .ref bWt :: .ref bWl :: .int (nI lw) :: .ref bFo :: .int (nI qa) :: .int (nI qp_) :: .int (nI qw_) :: .ref bRk :: .ref bRs :: .ref bRf :: .ref bRo :: .ref bRl :: .int (nI nt) :: .ref bTp :: .ref bTt :: .ref bTd :: .ref bHd :: .ref bFn :: .int (nI nr) :: .ref bRp :: .ref bRt :: .ref bRe :: .ref bRh :: .ref bZs :: .ref bZl :: .ref bSc :: .ref bHn :: .int tr :: [])), (bSc, .inl (cI, 240, .inl mSc)), (bRk, .inl (cI, 6, .inl mRk)), (bRs, .inl (cZ, 6, .inl mRs)), (bRf, .inl (cI, 9, .inl mRf)), (bRo, .inl (cI, 9, .inl mRo)), (bRl, .inl (cI, 9, .inl mRl))] sz)) (va_Qi (fun (r : Int32) => fun (u : (Nat → Int32) × (Nat → Int32) × (Nat → Int32) × (Nat → Int32) × (Nat → Int32) × Nat × Nat × Nat) => r = kb (decide (pFlt (kcode mSc fr n) n = 999)) ∧ rdPost (kcode mSc fr n) n u.1 u.2.1 u.2.2.1 u.2.2.2.1 u.2.2.2.2.1 u.2.2.2.2.2.1 u.2.2.2.2.2.2.1 u.2.2.2.2.2.2.2) (fun (u : (Nat → Int32) × (Nat → Int32) × (Nat → Int32) × (Nat → Int32) × (Nat → Int32) × Nat × Nat × Nat) (zU : State) => va_P (dC, dI) vwCl [(bM, .inr (5, .int (nI fa) :: .int (nI np) :: .ref bKk :: .ref bKs :: .int (nI hm) :: .int (nI nw) :: .ref bWf :: .ref bWt :: .ref bWl :: .int (nI lw) :: .ref bFo :: .int (nI u.2.2.2.2.2.1) :: .int (nI u.2.2.2.2.2.2.1) :: .int (nI u.2.2.2.2.2.2.2) :: .ref bRk :: .ref bRs :: .ref bRf :: .ref bRo :: .ref bRl :: .int (nI nt) :: .ref bTp :: .ref bTt :: .ref bTd :: .ref bHd :: .ref bFn :: .int (nI nr) :: .ref bRp :: .ref bRt :: .ref bRe :: .ref bRh :: .ref bZs :: .ref bZl :: .ref bSc :: .ref bHn :: .int tr :: [])), (bSc, .inl (cI, 240, .inl mSc)), (bRk, .inl (cI, 6, .inl u.1)), (bRs, .inl (cZ, 6, .inl u.2.1)), (bRf, .inl (cI, 9, .inl u.2.2.1)), (bRo, .inl (cI, 9, .inl u.2.2.2.1)), (bRl, .inl (cI, 9, .inl u.2.2.2.2.1))] zU.heap) (va_A [(bM, .inr (5, .int (nI fa) :: .int (nI np) :: .ref bKk :: .ref bKs :: .int (nI hm) :: .int (nI nw) :: .ref bWf :: .ref bWt :: .ref bWl :: .int (nI lw) :: .ref bFo :: .int (nI qa) :: .int (nI qp_) :: .int (nI qw_) :: .ref bRk :: .ref bRs :: .ref bRf :: .ref bRo :: .ref bRl :: .int (nI nt) :: .ref bTp :: .ref bTt :: .ref bTd :: .ref bHd :: .ref bFn :: .int (nI nr) :: .ref bRp :: .ref bRt :: .ref bRe :: .ref bRh :: .ref bZs :: .ref bZl :: .ref bSc :: .ref bHn :: .int tr :: [])), (bSc, .inl (cI, 240, .inl mSc)), (bRk, .inl (cI, 6, .inl mRk)), (bRs, .inl (cZ, 6, .inl mRs)), (bRf, .inl (cI, 9, .inl mRf)), (bRo, .inl (cI, 9, .inl mRo)), (bRl, .inl (cI, 9, .inl mRl))] sz)) 0 0 (va_A [(bM, .inr (5, .int (nI fa) :: .int (nI np) :: .ref bKk :: .ref bKs :: .int (nI hm) :: .int (nI nw) :: .ref bWf :: .ref bWt :: .ref bWl :: .int (nI lw) :: .ref bFo :: .int (nI qa) :: .int (nI qp_) :: .int (nI qw_) :: .ref bRk :: .ref bRs :: .ref bRf :: .ref bRo :: .ref bRl :: .int (nI nt) :: .ref bTp :: .ref bTt :: .ref bTd :: .ref bHd :: .ref bFn :: .int (nI nr) :: .ref bRp :: .ref bRt :: .ref bRe :: .ref bRh :: .ref bZs :: .ref bZl :: .ref bSc :: .ref bHn :: .int tr :: [])), (bSc, .inl (cI, 240, .inl mSc)), (bRk, .inl (cI, 6, .inl mRk)), (bRs, .inl (cZ, 6, .inl mRs)), (bRf, .inl (cI, 9, .inl mRf)), (bRo, .inl (cI, 9, .inl mRo)), (bRl, .inl (cI, 9, .inl mRl))] sz) := by
  refine kstartW_z (cc := cX5_readsPass) (maxL := 4) rfl rfl (Nat.le_of_ble_eq_true rfl) ?_
  intro zp ze zs zm zb zt zc za zQ zA hx hb hml hts hown hN hK hP hD hS hA zin hret ls hl
  have hl : lv_has ls 4 [(0, .ref bM), (1, .int (nI fr)), (2, .int (nI n))] := hl
  have hinX5 : ∀ w ∈ wsX50, w ∈ wsX5_readsPass := fun _ h => List.mem_cons_of_mem _ (List.mem_append_right _ h)
  have lk104 := hts (.fieldLink RX5 104 "IronRumoursModel" "readAt" "I") (List.mem_of_getElem? (i := 1) rfl)
  have lk111 := hts (.fieldLink RX5 111 "IronRumoursModel" "readPersons" "I") (List.mem_of_getElem? (i := 2) rfl)
  have lk118 := hts (.fieldLink RX5 118 "IronRumoursModel" "readWays" "I") (List.mem_of_getElem? (i := 3) rfl)
  refine lv_aload_n hx hb dX5_readsPass_0 rfl (lv_at hl 0 rfl) ?_
  refine lv_iconst (v := nI 0) hx hb dX5_readsPass_1 (by decide) ?_
  refine va_put (D := (dC, dI)) (ci := 5) (v := .int (nI 0)) (ty := .int) (C := RX5) (T := TX5) (N := 35) hx hb hts hinX5 tyX5 tyX5_ok nmX5 hown hK hP hD hS 0 rfl rfl 11 (by decide) lk104 (fun _ h9 => h9) rfl (tyX5_ok 11 (by decide)) rfl rfl (Nat.le_of_ble_eq_true rfl) dX5_readsPass_2 (fun H_1 locs hP hD hS => ?_)
  have hP : va_P (dC, dI) vwCl [(bM, .inr (5, .int (nI fa) :: .int (nI np) :: .ref bKk :: .ref bKs :: .int (nI hm) :: .int (nI nw) :: .ref bWf :: .ref bWt :: .ref bWl :: .int (nI lw) :: .ref bFo :: .int (nI 0) :: .int (nI qp_) :: .int (nI qw_) :: .ref bRk :: .ref bRs :: .ref bRf :: .ref bRo :: .ref bRl :: .int (nI nt) :: .ref bTp :: .ref bTt :: .ref bTd :: .ref bHd :: .ref bFn :: .int (nI nr) :: .ref bRp :: .ref bRt :: .ref bRe :: .ref bRh :: .ref bZs :: .ref bZl :: .ref bSc :: .ref bHn :: .int tr :: [])), (bSc, .inl (cI, 240, .inl mSc)), (bRk, .inl (cI, 6, .inl mRk)), (bRs, .inl (cZ, 6, .inl mRs)), (bRf, .inl (cI, 9, .inl mRf)), (bRo, .inl (cI, 9, .inl mRo)), (bRl, .inl (cI, 9, .inl mRl))] H_1 := hP
  have hD : va_D zA [(bM, .inr (5, .int (nI fa) :: .int (nI np) :: .ref bKk :: .ref bKs :: .int (nI hm) :: .int (nI nw) :: .ref bWf :: .ref bWt :: .ref bWl :: .int (nI lw) :: .ref bFo :: .int (nI 0) :: .int (nI qp_) :: .int (nI qw_) :: .ref bRk :: .ref bRs :: .ref bRf :: .ref bRo :: .ref bRl :: .int (nI nt) :: .ref bTp :: .ref bTt :: .ref bTd :: .ref bHd :: .ref bFn :: .int (nI nr) :: .ref bRp :: .ref bRt :: .ref bRe :: .ref bRh :: .ref bZs :: .ref bZl :: .ref bSc :: .ref bHn :: .int tr :: [])), (bSc, .inl (cI, 240, .inl mSc)), (bRk, .inl (cI, 6, .inl mRk)), (bRs, .inl (cZ, 6, .inl mRs)), (bRf, .inl (cI, 9, .inl mRf)), (bRo, .inl (cI, 9, .inl mRo)), (bRl, .inl (cI, 9, .inl mRl))] := hD
  refine lv_aload_n hx hb dX5_readsPass_5 rfl (lv_at hl 0 rfl) ?_
  refine lv_iconst (v := nI 0) hx hb dX5_readsPass_6 (by decide) ?_
  refine va_put (D := (dC, dI)) (ci := 5) (v := .int (nI 0)) (ty := .int) (C := RX5) (T := TX5) (N := 35) hx hb hts hinX5 tyX5 tyX5_ok nmX5 hown hK hP hD hS 0 rfl rfl 12 (by decide) lk111 (fun _ h9 => h9) rfl (tyX5_ok 12 (by decide)) rfl rfl (Nat.le_of_ble_eq_true rfl) dX5_readsPass_7 (fun H_2 locs hP hD hS => ?_)
  have hP : va_P (dC, dI) vwCl [(bM, .inr (5, .int (nI fa) :: .int (nI np) :: .ref bKk :: .ref bKs :: .int (nI hm) :: .int (nI nw) :: .ref bWf :: .ref bWt :: .ref bWl :: .int (nI lw) :: .ref bFo :: .int (nI 0) :: .int (nI 0) :: .int (nI qw_) :: .ref bRk :: .ref bRs :: .ref bRf :: .ref bRo :: .ref bRl :: .int (nI nt) :: .ref bTp :: .ref bTt :: .ref bTd :: .ref bHd :: .ref bFn :: .int (nI nr) :: .ref bRp :: .ref bRt :: .ref bRe :: .ref bRh :: .ref bZs :: .ref bZl :: .ref bSc :: .ref bHn :: .int tr :: [])), (bSc, .inl (cI, 240, .inl mSc)), (bRk, .inl (cI, 6, .inl mRk)), (bRs, .inl (cZ, 6, .inl mRs)), (bRf, .inl (cI, 9, .inl mRf)), (bRo, .inl (cI, 9, .inl mRo)), (bRl, .inl (cI, 9, .inl mRl))] H_2 := hP
  have hD : va_D zA [(bM, .inr (5, .int (nI fa) :: .int (nI np) :: .ref bKk :: .ref bKs :: .int (nI hm) :: .int (nI nw) :: .ref bWf :: .ref bWt :: .ref bWl :: .int (nI lw) :: .ref bFo :: .int (nI 0) :: .int (nI 0) :: .int (nI qw_) :: .ref bRk :: .ref bRs :: .ref bRf :: .ref bRo :: .ref bRl :: .int (nI nt) :: .ref bTp :: .ref bTt :: .ref bTd :: .ref bHd :: .ref bFn :: .int (nI nr) :: .ref bRp :: .ref bRt :: .ref bRe :: .ref bRh :: .ref bZs :: .ref bZl :: .ref bSc :: .ref bHn :: .int tr :: [])), (bSc, .inl (cI, 240, .inl mSc)), (bRk, .inl (cI, 6, .inl mRk)), (bRs, .inl (cZ, 6, .inl mRs)), (bRf, .inl (cI, 9, .inl mRf)), (bRo, .inl (cI, 9, .inl mRo)), (bRl, .inl (cI, 9, .inl mRl))] := hD
  refine lv_aload_n hx hb dX5_readsPass_10 rfl (lv_at hl 0 rfl) ?_
  refine lv_iconst (v := nI 0) hx hb dX5_readsPass_11 (by decide) ?_
  refine va_put (D := (dC, dI)) (ci := 5) (v := .int (nI 0)) (ty := .int) (C := RX5) (T := TX5) (N := 35) hx hb hts hinX5 tyX5 tyX5_ok nmX5 hown hK hP hD hS 0 rfl rfl 13 (by decide) lk118 (fun _ h9 => h9) rfl (tyX5_ok 13 (by decide)) rfl rfl (Nat.le_of_ble_eq_true rfl) dX5_readsPass_12 (fun H_3 locs hP hD hS => ?_)
  have hP : va_P (dC, dI) vwCl [(bM, .inr (5, .int (nI fa) :: .int (nI np) :: .ref bKk :: .ref bKs :: .int (nI hm) :: .int (nI nw) :: .ref bWf :: .ref bWt :: .ref bWl :: .int (nI lw) :: .ref bFo :: .int (nI 0) :: .int (nI 0) :: .int (nI 0) :: .ref bRk :: .ref bRs :: .ref bRf :: .ref bRo :: .ref bRl :: .int (nI nt) :: .ref bTp :: .ref bTt :: .ref bTd :: .ref bHd :: .ref bFn :: .int (nI nr) :: .ref bRp :: .ref bRt :: .ref bRe :: .ref bRh :: .ref bZs :: .ref bZl :: .ref bSc :: .ref bHn :: .int tr :: [])), (bSc, .inl (cI, 240, .inl mSc)), (bRk, .inl (cI, 6, .inl mRk)), (bRs, .inl (cZ, 6, .inl mRs)), (bRf, .inl (cI, 9, .inl mRf)), (bRo, .inl (cI, 9, .inl mRo)), (bRl, .inl (cI, 9, .inl mRl))] H_3 := hP
  have hD : va_D zA [(bM, .inr (5, .int (nI fa) :: .int (nI np) :: .ref bKk :: .ref bKs :: .int (nI hm) :: .int (nI nw) :: .ref bWf :: .ref bWt :: .ref bWl :: .int (nI lw) :: .ref bFo :: .int (nI 0) :: .int (nI 0) :: .int (nI 0) :: .ref bRk :: .ref bRs :: .ref bRf :: .ref bRo :: .ref bRl :: .int (nI nt) :: .ref bTp :: .ref bTt :: .ref bTd :: .ref bHd :: .ref bFn :: .int (nI nr) :: .ref bRp :: .ref bRt :: .ref bRe :: .ref bRh :: .ref bZs :: .ref bZl :: .ref bSc :: .ref bHn :: .int tr :: [])), (bSc, .inl (cI, 240, .inl mSc)), (bRk, .inl (cI, 6, .inl mRk)), (bRs, .inl (cZ, 6, .inl mRs)), (bRf, .inl (cI, 9, .inl mRf)), (bRo, .inl (cI, 9, .inl mRo)), (bRl, .inl (cI, 9, .inl mRl))] := hD
  refine lv_aload_n hx hb dX5_readsPass_15 rfl (lv_at hl 0 rfl) ?_
  refine lv_iload_n hx hb dX5_readsPass_16 rfl (lv_at hl 1 rfl) ?_
  refine lv_iload_n hx hb dX5_readsPass_17 rfl (lv_at hl 2 rfl) ?_
  refine rc_i (va_runV (As := [.int (nI fr), .int (nI n)]) (rest := []) ⟨hx, hb, hml, hown, hts⟩ (kX5_codeAt bM fa np bKk bKs hm nw bWf bWt bWl lw bFo 0 0 0 bRk bRs bRf bRo bRl nt bTp bTt bTd bHd bFn nr bRp bRt bRe bRh bZs bZl bSc bHn tr mSc fr n hin (by omega)) (cwV 2 hts gX5_readsPass_X5_codeAt rfl rfl rfl hvX5_codeAt ⟨Nat.le_of_ble_eq_true rfl, Nat.le_of_ble_eq_true rfl⟩) (rpreV hN (q := (RX5, TX5, 35)) (ci := 5) hK (hP.sub [0, 1] rfl) 0 rfl rfl) rfl rfl hl.1 rfl (lv_room (Nat.le_of_ble_eq_true rfl)) dX5_readsPass_18 ⟨Nat.zero_le _, Nat.zero_le _⟩) (fun r_4 hr_4 => ?_)
  have hr_4 : r_4 = rc9 (kcode mSc fr n) n 0 := hr_4
  rw [hr_4]
  refine lv_bipush (v := nI 105) hx hb dX5_readsPass_21 (by decide) ?_
  refine lv_icmp_ne (tgt := 30) hx hb dX5_readsPass_23 (by decide) (fun c23 => ?_) (fun c23 => ?_)
  · refine lv_iconst (v := nI 0) hx hb dX5_readsPass_30 (by decide) ?_
    refine k_cast (y := kb false) (rfl) ?_
    refine lv_istore_n (lv' := [(3, .int (kb false)), (0, .ref bM), (1, .int (nI fr)), (2, .int (nI n))]) hx hb dX5_readsPass_31 rfl hl (by decide) rfl (fun ls hl => ?_)
    refine lv_aload_n hx hb dX5_readsPass_32 rfl (lv_at hl 1 rfl) ?_
    refine lv_dup hx hb dX5_readsPass_33 rfl ?_
    refine va_get (D := (dC, dI)) (ci := 5) (v := .int (nI 0)) (C := RX5) (T := TX5) (N := 35) hx hb hts hinX5 hown hK hP 0 rfl rfl 11 (by decide) lk104 (fun _ h9 => h9) rfl dX5_readsPass_34 ?_
    refine lv_iload_n hx hb dX5_readsPass_37 rfl (lv_at hl 0 rfl) ?_
    refine k_if_eqb (tgt := 45) hx hb dX5_readsPass_38 (by decide) (fun c38 => ?_) (fun c38 => nomatch c38)
    refine lv_iconst (v := nI 0) hx hb dX5_readsPass_45 (by decide) ?_
    refine k_iadd hx hb dX5_readsPass_46 ?_
    refine va_put (D := (dC, dI)) (ci := 5) (v := .int (nI (0 + 0))) (ty := .int) (C := RX5) (T := TX5) (N := 35) hx hb hts hinX5 tyX5 tyX5_ok nmX5 hown hK hP hD hS 0 rfl rfl 11 (by decide) lk104 (fun _ h9 => h9) rfl (tyX5_ok 11 (by decide)) rfl rfl (Nat.le_of_ble_eq_true rfl) dX5_readsPass_47 (fun H_5 locs hP hD hS => ?_)
    have hP : va_P (dC, dI) vwCl [(bM, .inr (5, .int (nI fa) :: .int (nI np) :: .ref bKk :: .ref bKs :: .int (nI hm) :: .int (nI nw) :: .ref bWf :: .ref bWt :: .ref bWl :: .int (nI lw) :: .ref bFo :: .int (nI (0 + 0)) :: .int (nI 0) :: .int (nI 0) :: .ref bRk :: .ref bRs :: .ref bRf :: .ref bRo :: .ref bRl :: .int (nI nt) :: .ref bTp :: .ref bTt :: .ref bTd :: .ref bHd :: .ref bFn :: .int (nI nr) :: .ref bRp :: .ref bRt :: .ref bRe :: .ref bRh :: .ref bZs :: .ref bZl :: .ref bSc :: .ref bHn :: .int tr :: [])), (bSc, .inl (cI, 240, .inl mSc)), (bRk, .inl (cI, 6, .inl mRk)), (bRs, .inl (cZ, 6, .inl mRs)), (bRf, .inl (cI, 9, .inl mRf)), (bRo, .inl (cI, 9, .inl mRo)), (bRl, .inl (cI, 9, .inl mRl))] H_5 := hP
    have hD : va_D zA [(bM, .inr (5, .int (nI fa) :: .int (nI np) :: .ref bKk :: .ref bKs :: .int (nI hm) :: .int (nI nw) :: .ref bWf :: .ref bWt :: .ref bWl :: .int (nI lw) :: .ref bFo :: .int (nI (0 + 0)) :: .int (nI 0) :: .int (nI 0) :: .ref bRk :: .ref bRs :: .ref bRf :: .ref bRo :: .ref bRl :: .int (nI nt) :: .ref bTp :: .ref bTt :: .ref bTd :: .ref bHd :: .ref bFn :: .int (nI nr) :: .ref bRp :: .ref bRt :: .ref bRe :: .ref bRh :: .ref bZs :: .ref bZl :: .ref bSc :: .ref bHn :: .int tr :: [])), (bSc, .inl (cI, 240, .inl mSc)), (bRk, .inl (cI, 6, .inl mRk)), (bRs, .inl (cZ, 6, .inl mRs)), (bRf, .inl (cI, 9, .inl mRf)), (bRo, .inl (cI, 9, .inl mRo)), (bRl, .inl (cI, 9, .inl mRl))] := hD
    have loop50 : ∀ (n50 : Nat) (b : Bool) (k : Nat) (a : Nat) (g0 : Nat → Int32) (g4 : Nat → Int32), (PI (kcode mSc fr n) n b k a g0 g4) → (2 * (6 - k) + (if b = true then 1 else 0) < n50) → ∀ (H_6 : Heap) (locs : List Loc), va_P (dC, dI) vwCl [(bM, .inr (5, .int (nI fa) :: .int (nI np) :: .ref bKk :: .ref bKs :: .int (nI hm) :: .int (nI nw) :: .ref bWf :: .ref bWt :: .ref bWl :: .int (nI lw) :: .ref bFo :: .int (nI a) :: .int (nI k) :: .int (nI 0) :: .ref bRk :: .ref bRs :: .ref bRf :: .ref bRo :: .ref bRl :: .int (nI nt) :: .ref bTp :: .ref bTt :: .ref bTd :: .ref bHd :: .ref bFn :: .int (nI nr) :: .ref bRp :: .ref bRt :: .ref bRe :: .ref bRh :: .ref bZs :: .ref bZl :: .ref bSc :: .ref bHn :: .int tr :: [])), (bSc, .inl (cI, 240, .inl mSc)), (bRk, .inl (cI, 6, .inl g0)), (bRs, .inl (cZ, 6, .inl g4)), (bRf, .inl (cI, 9, .inl mRf)), (bRo, .inl (cI, 9, .inl mRo)), (bRl, .inl (cI, 9, .inl mRl))] H_6 → va_D zA [(bM, .inr (5, .int (nI fa) :: .int (nI np) :: .ref bKk :: .ref bKs :: .int (nI hm) :: .int (nI nw) :: .ref bWf :: .ref bWt :: .ref bWl :: .int (nI lw) :: .ref bFo :: .int (nI a) :: .int (nI k) :: .int (nI 0) :: .ref bRk :: .ref bRs :: .ref bRf :: .ref bRo :: .ref bRl :: .int (nI nt) :: .ref bTp :: .ref bTt :: .ref bTd :: .ref bHd :: .ref bFn :: .int (nI nr) :: .ref bRp :: .ref bRt :: .ref bRe :: .ref bRh :: .ref bZs :: .ref bZl :: .ref bSc :: .ref bHn :: .int tr :: [])), (bSc, .inl (cI, 240, .inl mSc)), (bRk, .inl (cI, 6, .inl g0)), (bRs, .inl (cZ, 6, .inl g4)), (bRf, .inl (cI, 9, .inl mRf)), (bRo, .inl (cI, 9, .inl mRo)), (bRl, .inl (cI, 9, .inl mRl))] → va_S zA zs.heap H_6 locs → ∀ (ls : Array Slot), lv_has ls 4 [(0, .ref bM), (1, .int (nI fr)), (2, .int (nI n)), (3, .int (kb b))] → W zp zl ze ({ frames := 3, cells := 0, slots := 0, locals := 76 } : Room) zs zm za zb zt zc H_6 locs 0 0 zQ (F0 zm 50 ls []) := by
      intro n50
      induction n50 with
      | zero => intro b k a g0 g4 hI hme; exact absurd hme (Nat.not_lt_zero _)
      | succ n50 ih50 =>
        intro b k a g0 g4 hI hme H_6 locs hP hD hS ls hl
        refine lv_iload_n hx hb dX5_readsPass_50 rfl (lv_at hl 3 rfl) ?_
        refine k_if_eqb (tgt := 91) hx hb dX5_readsPass_51 (by decide) (fun c51 => ?_) (fun c51 => ?_)
        · have loop91 : ∀ (n91 : Nat) (b2 : Bool) (w : Nat) (a2 : Nat) (g1 : Nat → Int32) (g2 : Nat → Int32) (g3 : Nat → Int32), (WI (kcode mSc fr n) n b2 k w a2 g1 g2 g3) → (2 * (9 - w) + (if b2 = true then 1 else 0) < n91) → ∀ (H_7 : Heap) (locs : List Loc), va_P (dC, dI) vwCl [(bM, .inr (5, .int (nI fa) :: .int (nI np) :: .ref bKk :: .ref bKs :: .int (nI hm) :: .int (nI nw) :: .ref bWf :: .ref bWt :: .ref bWl :: .int (nI lw) :: .ref bFo :: .int (nI a2) :: .int (nI k) :: .int (nI w) :: .ref bRk :: .ref bRs :: .ref bRf :: .ref bRo :: .ref bRl :: .int (nI nt) :: .ref bTp :: .ref bTt :: .ref bTd :: .ref bHd :: .ref bFn :: .int (nI nr) :: .ref bRp :: .ref bRt :: .ref bRe :: .ref bRh :: .ref bZs :: .ref bZl :: .ref bSc :: .ref bHn :: .int tr :: [])), (bSc, .inl (cI, 240, .inl mSc)), (bRk, .inl (cI, 6, .inl g0)), (bRs, .inl (cZ, 6, .inl g4)), (bRf, .inl (cI, 9, .inl g1)), (bRo, .inl (cI, 9, .inl g2)), (bRl, .inl (cI, 9, .inl g3))] H_7 → va_D zA [(bM, .inr (5, .int (nI fa) :: .int (nI np) :: .ref bKk :: .ref bKs :: .int (nI hm) :: .int (nI nw) :: .ref bWf :: .ref bWt :: .ref bWl :: .int (nI lw) :: .ref bFo :: .int (nI a2) :: .int (nI k) :: .int (nI w) :: .ref bRk :: .ref bRs :: .ref bRf :: .ref bRo :: .ref bRl :: .int (nI nt) :: .ref bTp :: .ref bTt :: .ref bTd :: .ref bHd :: .ref bFn :: .int (nI nr) :: .ref bRp :: .ref bRt :: .ref bRe :: .ref bRh :: .ref bZs :: .ref bZl :: .ref bSc :: .ref bHn :: .int tr :: [])), (bSc, .inl (cI, 240, .inl mSc)), (bRk, .inl (cI, 6, .inl g0)), (bRs, .inl (cZ, 6, .inl g4)), (bRf, .inl (cI, 9, .inl g1)), (bRo, .inl (cI, 9, .inl g2)), (bRl, .inl (cI, 9, .inl g3))] → va_S zA zs.heap H_7 locs → ∀ (ls : Array Slot), lv_has ls 4 [(0, .ref bM), (1, .int (nI fr)), (2, .int (nI n)), (3, .int (kb b2))] → W zp zl ze ({ frames := 3, cells := 0, slots := 0, locals := 76 } : Room) zs zm za zb zt zc H_7 locs 0 0 zQ (F0 zm 91 ls []) := by
            intro n91
            induction n91 with
            | zero => intro b2 w a2 g1 g2 g3 hJ hme; exact absurd hme (Nat.not_lt_zero _)
            | succ n91 ih91 =>
              intro b2 w a2 g1 g2 g3 hJ hme H_7 locs hP hD hS ls hl
              refine lv_iload_n hx hb dX5_readsPass_91 rfl (lv_at hl 3 rfl) ?_
              refine k_if_eqb (tgt := 113) hx hb dX5_readsPass_92 (by decide) (fun c92 => ?_) (fun c92 => ?_)
              · refine lv_iload_n hx hb dX5_readsPass_113 rfl (lv_at hl 3 rfl) ?_
                refine hret 114 _ b2 (g0, g4, g1, g2, g3, a2, k, w) _ _ dX5_readsPass_114 hS (fun t ht _ => by rw [ht]; exact hP) ?_
                have hJ2 := hJ.2.1
                rw [if_neg (by rw [c92]; decide)] at hJ2
                have hz : pFlt (kcode mSc fr n) n ≠ 999 := by omega
                refine ⟨?_, ?_⟩
                · rw [c92, decide_eq_false hz]
                · unfold rdPost; rw [if_neg hz]; exact hJ2.1.symm
              · subst c92
                have hJ2 := hJ.2.1
                rw [if_pos rfl] at hJ2
                obtain ⟨ea2, hJ3⟩ := hJ2
                subst ea2
                have hw9 := hJ.1
                have hK1 := hJ3.2.2.2.2.2.1
                have hK6 := hJ3.2.2.2.2.2.2
                refine lv_aload_n hx hb dX5_readsPass_95 rfl (lv_at hl 0 rfl) ?_
                refine va_get (D := (dC, dI)) (ci := 5) (v := .int (nI (1 + 2 * k + 4 * w))) (C := RX5) (T := TX5) (N := 35) hx hb hts hinX5 hown hK hP 0 rfl rfl 11 (by decide) lk104 (fun _ h9 => h9) rfl dX5_readsPass_96 ?_
                refine lv_iload_n hx hb dX5_readsPass_99 rfl (lv_at hl 2 rfl) ?_
                refine k_icmp_ge (tgt := 113) hx hb dX5_readsPass_100 (by decide) (by omega) (by omega) (fun c100 => ?_) (fun c100 => ?_)
                · refine lv_iload_n hx hb dX5_readsPass_113 rfl (lv_at hl 3 rfl) ?_
                  refine hret 114 _ true (g0, g4, g1, g2, g3, 1 + 2 * k + 4 * w, k, w) _ _ dX5_readsPass_114 hS (fun t ht _ => by rw [ht]; exact hP) ?_
                  have hx := WI_end hJ c100
                  refine ⟨by rw [decide_eq_true hx.1], ?_⟩
                  unfold rdPost; rw [if_pos hx.1]
                  exact ⟨hx.2.1, hx.2.2, hI.2.2.1, hI.2.2.2, hJ.2.2.1, hJ.2.2.2.1, hJ.2.2.2.2⟩
                · refine lv_aload_n hx hb dX5_readsPass_103 rfl (lv_at hl 0 rfl) ?_
                  refine lv_iload_n hx hb dX5_readsPass_104 rfl (lv_at hl 1 rfl) ?_
                  refine lv_iload_n hx hb dX5_readsPass_105 rfl (lv_at hl 2 rfl) ?_
                  refine kc_i (wr := [(bRk, .inl (cI, 6, .inl g0)), (bRs, .inl (cZ, 6, .inl g4))]) (va_runV (As := [.int (nI fr), .int (nI n)]) (rest := []) ⟨hx, hb, hml, hown, hts⟩ (kX5_readsWay bM fa np bKk bKs hm nw bWf bWt bWl lw bFo bRk bRs bRf bRo bRl nt bTp bTt bTd bHd bFn nr bRp bRt bRe bRh bZs bZl bSc bHn tr mSc g1 g2 g3 fr n k w hin hK6 (by omega) (by omega)) (cwV 2 hts gX5_readsPass_X5_readsWay rfl rfl rfl hvX5_readsWay ⟨Nat.le_of_ble_eq_true rfl, Nat.le_of_ble_eq_true rfl⟩) (kpreV hN (q := (RX5, TX5, 35)) (ci := 5) hK (hP.sub [0, 1, 4, 5, 6] rfl) (hD.sub [0, 1, 4, 5, 6] (by decide) rfl) 0 rfl rfl) rfl rfl hl.1 rfl (lv_room (Nat.le_of_ble_eq_true rfl)) dX5_readsPass_106 ⟨Nat.zero_le _, Nat.zero_le _⟩) (fun _ => by simp only [List.map]) hP hD hS hA [0, 1, 4, 5, 6] [2, 3] rfl rfl (by decide) (by decide) (by decide) (fun r_8 u_8 H_9 locs hr_8 hP hD hS => ?_)
                  obtain ⟨f_10, f_11, f_12, a_13, w_14⟩ := u_8
                  try dsimp only at hr_8
                  have hP : va_P (dC, dI) vwCl [(bRk, .inl (cI, 6, .inl g0)), (bRs, .inl (cZ, 6, .inl g4)), (bM, .inr (5, .int (nI fa) :: .int (nI np) :: .ref bKk :: .ref bKs :: .int (nI hm) :: .int (nI nw) :: .ref bWf :: .ref bWt :: .ref bWl :: .int (nI lw) :: .ref bFo :: .int (nI a_13) :: .int (nI k) :: .int (nI w_14) :: .ref bRk :: .ref bRs :: .ref bRf :: .ref bRo :: .ref bRl :: .int (nI nt) :: .ref bTp :: .ref bTt :: .ref bTd :: .ref bHd :: .ref bFn :: .int (nI nr) :: .ref bRp :: .ref bRt :: .ref bRe :: .ref bRh :: .ref bZs :: .ref bZl :: .ref bSc :: .ref bHn :: .int tr :: [])), (bSc, .inl (cI, 240, .inl mSc)), (bRf, .inl (cI, 9, .inl f_10)), (bRo, .inl (cI, 9, .inl f_11)), (bRl, .inl (cI, 9, .inl f_12))] H_9 := hP
                  have hD : va_D zA [(bRk, .inl (cI, 6, .inl g0)), (bRs, .inl (cZ, 6, .inl g4)), (bM, .inr (5, .int (nI fa) :: .int (nI np) :: .ref bKk :: .ref bKs :: .int (nI hm) :: .int (nI nw) :: .ref bWf :: .ref bWt :: .ref bWl :: .int (nI lw) :: .ref bFo :: .int (nI a_13) :: .int (nI k) :: .int (nI w_14) :: .ref bRk :: .ref bRs :: .ref bRf :: .ref bRo :: .ref bRl :: .int (nI nt) :: .ref bTp :: .ref bTt :: .ref bTd :: .ref bHd :: .ref bFn :: .int (nI nr) :: .ref bRp :: .ref bRt :: .ref bRe :: .ref bRh :: .ref bZs :: .ref bZl :: .ref bSc :: .ref bHn :: .int tr :: [])), (bSc, .inl (cI, 240, .inl mSc)), (bRf, .inl (cI, 9, .inl f_10)), (bRo, .inl (cI, 9, .inl f_11)), (bRl, .inl (cI, 9, .inl f_12))] := hD
                  have hP := hP.sub (ws' := [(bM, .inr (5, .int (nI fa) :: .int (nI np) :: .ref bKk :: .ref bKs :: .int (nI hm) :: .int (nI nw) :: .ref bWf :: .ref bWt :: .ref bWl :: .int (nI lw) :: .ref bFo :: .int (nI a_13) :: .int (nI k) :: .int (nI w_14) :: .ref bRk :: .ref bRs :: .ref bRf :: .ref bRo :: .ref bRl :: .int (nI nt) :: .ref bTp :: .ref bTt :: .ref bTd :: .ref bHd :: .ref bFn :: .int (nI nr) :: .ref bRp :: .ref bRt :: .ref bRe :: .ref bRh :: .ref bZs :: .ref bZl :: .ref bSc :: .ref bHn :: .int tr :: [])), (bSc, .inl (cI, 240, .inl mSc)), (bRk, .inl (cI, 6, .inl g0)), (bRs, .inl (cZ, 6, .inl g4)), (bRf, .inl (cI, 9, .inl f_10)), (bRo, .inl (cI, 9, .inl f_11)), (bRl, .inl (cI, 9, .inl f_12))]) [2, 3, 0, 1, 4, 5, 6] rfl
                  have hD := hD.sub (ws' := [(bM, .inr (5, .int (nI fa) :: .int (nI np) :: .ref bKk :: .ref bKs :: .int (nI hm) :: .int (nI nw) :: .ref bWf :: .ref bWt :: .ref bWl :: .int (nI lw) :: .ref bFo :: .int (nI a_13) :: .int (nI k) :: .int (nI w_14) :: .ref bRk :: .ref bRs :: .ref bRf :: .ref bRo :: .ref bRl :: .int (nI nt) :: .ref bTp :: .ref bTt :: .ref bTd :: .ref bHd :: .ref bFn :: .int (nI nr) :: .ref bRp :: .ref bRt :: .ref bRe :: .ref bRh :: .ref bZs :: .ref bZl :: .ref bSc :: .ref bHn :: .int tr :: [])), (bSc, .inl (cI, 240, .inl mSc)), (bRk, .inl (cI, 6, .inl g0)), (bRs, .inl (cZ, 6, .inl g4)), (bRf, .inl (cI, 9, .inl f_10)), (bRo, .inl (cI, 9, .inl f_11)), (bRl, .inl (cI, 9, .inl f_12))]) [2, 3, 0, 1, 4, 5, 6] (by decide) rfl
                  obtain ⟨er_8, hr_8⟩ := hr_8
                  have er_8 : r_8 = kb (wGo (kcode mSc fr n) k w) := er_8
                  rw [er_8]
                  refine lv_istore_n (lv' := [(3, .int (kb (wGo (kcode mSc fr n) k w))), (0, .ref bM), (1, .int (nI fr)), (2, .int (nI n))]) hx hb dX5_readsPass_109 rfl hl (by decide) rfl (fun ls hl => ?_)
                  refine lv_goto (tgt := 91) hx hb dX5_readsPass_110 (by decide) ?_
                  exact ih91 (wGo (kcode mSc fr n) k w) w_14 a_13 f_10 f_11 f_12 (by exact WI_step hJ (by unfold wPl; omega) hr_8) (by exact WI_me hr_8 hme hw9) _ _ hP hD hS _ (lv_sub hl [1, 2, 3, 0] rfl)
          exact loop91 ((2 * (9 - 0) + (if b = true then 1 else 0)) + 1) b 0 a mRf mRo mRl (by exact WI_f hI c51) (by exact Nat.lt_succ_self _) _ _ hP hD hS _ (lv_sub hl [0, 1, 2, 3] rfl)
        · subst c51
          have hI2 := hI.2.1
          rw [if_pos rfl] at hI2
          obtain ⟨ea, hI3⟩ := hI2
          subst ea
          have hk6 := hI.1
          refine lv_aload_n hx hb dX5_readsPass_54 rfl (lv_at hl 0 rfl) ?_
          refine va_get (D := (dC, dI)) (ci := 5) (v := .int (nI k)) (C := RX5) (T := TX5) (N := 35) hx hb hts hinX5 hown hK hP 0 rfl rfl 12 (by decide) lk111 (fun _ h9 => h9) rfl dX5_readsPass_55 ?_
          refine lv_iconst (v := nI 2) hx hb dX5_readsPass_58 (by decide) ?_
          refine k_icmp_lt (tgt := 81) hx hb dX5_readsPass_59 (by decide) (by omega) (by omega) (fun c59 => ?_) (fun c59 => ?_)
          · refine lv_aload_n hx hb dX5_readsPass_81 rfl (lv_at hl 0 rfl) ?_
            refine lv_iload_n hx hb dX5_readsPass_82 rfl (lv_at hl 1 rfl) ?_
            refine lv_iload_n hx hb dX5_readsPass_83 rfl (lv_at hl 2 rfl) ?_
            refine kc_i (wr := [(bRf, .inl (cI, 9, .inl mRf)), (bRo, .inl (cI, 9, .inl mRo)), (bRl, .inl (cI, 9, .inl mRl))]) (va_runV (As := [.int (nI fr), .int (nI n)]) (rest := []) ⟨hx, hb, hml, hown, hts⟩ (kX5_readsPerson bM fa np bKk bKs hm nw bWf bWt bWl lw bFo 0 bRk bRs bRf bRo bRl nt bTp bTt bTd bHd bFn nr bRp bRt bRe bRh bZs bZl bSc bHn tr mSc g0 g4 fr n k hin (by omega)) (cwV 2 hts gX5_readsPass_X5_readsPerson rfl rfl rfl hvX5_readsPerson ⟨Nat.le_of_ble_eq_true rfl, Nat.le_of_ble_eq_true rfl⟩) (kpreV hN (q := (RX5, TX5, 35)) (ci := 5) hK (hP.sub [0, 1, 2, 3] rfl) (hD.sub [0, 1, 2, 3] (by decide) rfl) 0 rfl rfl) rfl rfl hl.1 rfl (lv_room (Nat.le_of_ble_eq_true rfl)) dX5_readsPass_84 ⟨Nat.zero_le _, Nat.zero_le _⟩) (fun _ => by simp only [List.map]) hP hD hS hA [0, 1, 2, 3] [4, 5, 6] rfl rfl (by decide) (by decide) (by decide) (fun r_15 u_15 H_16 locs hr_15 hP hD hS => ?_)
            obtain ⟨f_17, f_18, a_19, k_20⟩ := u_15
            try dsimp only at hr_15
            have hP : va_P (dC, dI) vwCl [(bRf, .inl (cI, 9, .inl mRf)), (bRo, .inl (cI, 9, .inl mRo)), (bRl, .inl (cI, 9, .inl mRl)), (bM, .inr (5, .int (nI fa) :: .int (nI np) :: .ref bKk :: .ref bKs :: .int (nI hm) :: .int (nI nw) :: .ref bWf :: .ref bWt :: .ref bWl :: .int (nI lw) :: .ref bFo :: .int (nI a_19) :: .int (nI k_20) :: .int (nI 0) :: .ref bRk :: .ref bRs :: .ref bRf :: .ref bRo :: .ref bRl :: .int (nI nt) :: .ref bTp :: .ref bTt :: .ref bTd :: .ref bHd :: .ref bFn :: .int (nI nr) :: .ref bRp :: .ref bRt :: .ref bRe :: .ref bRh :: .ref bZs :: .ref bZl :: .ref bSc :: .ref bHn :: .int tr :: [])), (bSc, .inl (cI, 240, .inl mSc)), (bRk, .inl (cI, 6, .inl f_17)), (bRs, .inl (cZ, 6, .inl f_18))] H_16 := hP
            have hD : va_D zA [(bRf, .inl (cI, 9, .inl mRf)), (bRo, .inl (cI, 9, .inl mRo)), (bRl, .inl (cI, 9, .inl mRl)), (bM, .inr (5, .int (nI fa) :: .int (nI np) :: .ref bKk :: .ref bKs :: .int (nI hm) :: .int (nI nw) :: .ref bWf :: .ref bWt :: .ref bWl :: .int (nI lw) :: .ref bFo :: .int (nI a_19) :: .int (nI k_20) :: .int (nI 0) :: .ref bRk :: .ref bRs :: .ref bRf :: .ref bRo :: .ref bRl :: .int (nI nt) :: .ref bTp :: .ref bTt :: .ref bTd :: .ref bHd :: .ref bFn :: .int (nI nr) :: .ref bRp :: .ref bRt :: .ref bRe :: .ref bRh :: .ref bZs :: .ref bZl :: .ref bSc :: .ref bHn :: .int tr :: [])), (bSc, .inl (cI, 240, .inl mSc)), (bRk, .inl (cI, 6, .inl f_17)), (bRs, .inl (cZ, 6, .inl f_18))] := hD
            have hP := hP.sub (ws' := [(bM, .inr (5, .int (nI fa) :: .int (nI np) :: .ref bKk :: .ref bKs :: .int (nI hm) :: .int (nI nw) :: .ref bWf :: .ref bWt :: .ref bWl :: .int (nI lw) :: .ref bFo :: .int (nI a_19) :: .int (nI k_20) :: .int (nI 0) :: .ref bRk :: .ref bRs :: .ref bRf :: .ref bRo :: .ref bRl :: .int (nI nt) :: .ref bTp :: .ref bTt :: .ref bTd :: .ref bHd :: .ref bFn :: .int (nI nr) :: .ref bRp :: .ref bRt :: .ref bRe :: .ref bRh :: .ref bZs :: .ref bZl :: .ref bSc :: .ref bHn :: .int tr :: [])), (bSc, .inl (cI, 240, .inl mSc)), (bRk, .inl (cI, 6, .inl f_17)), (bRs, .inl (cZ, 6, .inl f_18)), (bRf, .inl (cI, 9, .inl mRf)), (bRo, .inl (cI, 9, .inl mRo)), (bRl, .inl (cI, 9, .inl mRl))]) [3, 4, 5, 6, 0, 1, 2] rfl
            have hD := hD.sub (ws' := [(bM, .inr (5, .int (nI fa) :: .int (nI np) :: .ref bKk :: .ref bKs :: .int (nI hm) :: .int (nI nw) :: .ref bWf :: .ref bWt :: .ref bWl :: .int (nI lw) :: .ref bFo :: .int (nI a_19) :: .int (nI k_20) :: .int (nI 0) :: .ref bRk :: .ref bRs :: .ref bRf :: .ref bRo :: .ref bRl :: .int (nI nt) :: .ref bTp :: .ref bTt :: .ref bTd :: .ref bHd :: .ref bFn :: .int (nI nr) :: .ref bRp :: .ref bRt :: .ref bRe :: .ref bRh :: .ref bZs :: .ref bZl :: .ref bSc :: .ref bHn :: .int tr :: [])), (bSc, .inl (cI, 240, .inl mSc)), (bRk, .inl (cI, 6, .inl f_17)), (bRs, .inl (cZ, 6, .inl f_18)), (bRf, .inl (cI, 9, .inl mRf)), (bRo, .inl (cI, 9, .inl mRo)), (bRl, .inl (cI, 9, .inl mRl))]) [3, 4, 5, 6, 0, 1, 2] (by decide) rfl
            obtain ⟨er_15, hr_15⟩ := hr_15
            have er_15 : r_15 = kb (pGo (kcode mSc fr n) k) := er_15
            rw [er_15]
            refine lv_istore_n (lv' := [(3, .int (kb (pGo (kcode mSc fr n) k))), (0, .ref bM), (1, .int (nI fr)), (2, .int (nI n))]) hx hb dX5_readsPass_87 rfl hl (by decide) rfl (fun ls hl => ?_)
            refine lv_goto (tgt := 50) hx hb dX5_readsPass_88 (by decide) ?_
            exact ih50 (pGo (kcode mSc fr n) k) k_20 a_19 f_17 f_18 (by exact PI_step hI (Or.inl c59) hr_15) (by exact PI_me hr_15 hme hk6) _ _ hP hD hS _ (lv_sub hl [1, 2, 3, 0] rfl)
          · refine lv_aload_n hx hb dX5_readsPass_62 rfl (lv_at hl 0 rfl) ?_
            refine va_get (D := (dC, dI)) (ci := 5) (v := .int (nI (1 + 2 * k))) (C := RX5) (T := TX5) (N := 35) hx hb hts hinX5 hown hK hP 0 rfl rfl 11 (by decide) lk104 (fun _ h9 => h9) rfl dX5_readsPass_63 ?_
            refine lv_iload_n hx hb dX5_readsPass_66 rfl (lv_at hl 2 rfl) ?_
            refine k_icmp_ge (tgt := 91) hx hb dX5_readsPass_67 (by decide) (by omega) (by omega) (fun c67 => ?_) (fun c67 => ?_)
            · have loop91 : ∀ (n91 : Nat) (b2 : Bool) (w : Nat) (a2 : Nat) (g1 : Nat → Int32) (g2 : Nat → Int32) (g3 : Nat → Int32), (WI (kcode mSc fr n) n b2 k w a2 g1 g2 g3) → (2 * (9 - w) + (if b2 = true then 1 else 0) < n91) → ∀ (H_21 : Heap) (locs : List Loc), va_P (dC, dI) vwCl [(bM, .inr (5, .int (nI fa) :: .int (nI np) :: .ref bKk :: .ref bKs :: .int (nI hm) :: .int (nI nw) :: .ref bWf :: .ref bWt :: .ref bWl :: .int (nI lw) :: .ref bFo :: .int (nI a2) :: .int (nI k) :: .int (nI w) :: .ref bRk :: .ref bRs :: .ref bRf :: .ref bRo :: .ref bRl :: .int (nI nt) :: .ref bTp :: .ref bTt :: .ref bTd :: .ref bHd :: .ref bFn :: .int (nI nr) :: .ref bRp :: .ref bRt :: .ref bRe :: .ref bRh :: .ref bZs :: .ref bZl :: .ref bSc :: .ref bHn :: .int tr :: [])), (bSc, .inl (cI, 240, .inl mSc)), (bRk, .inl (cI, 6, .inl g0)), (bRs, .inl (cZ, 6, .inl g4)), (bRf, .inl (cI, 9, .inl g1)), (bRo, .inl (cI, 9, .inl g2)), (bRl, .inl (cI, 9, .inl g3))] H_21 → va_D zA [(bM, .inr (5, .int (nI fa) :: .int (nI np) :: .ref bKk :: .ref bKs :: .int (nI hm) :: .int (nI nw) :: .ref bWf :: .ref bWt :: .ref bWl :: .int (nI lw) :: .ref bFo :: .int (nI a2) :: .int (nI k) :: .int (nI w) :: .ref bRk :: .ref bRs :: .ref bRf :: .ref bRo :: .ref bRl :: .int (nI nt) :: .ref bTp :: .ref bTt :: .ref bTd :: .ref bHd :: .ref bFn :: .int (nI nr) :: .ref bRp :: .ref bRt :: .ref bRe :: .ref bRh :: .ref bZs :: .ref bZl :: .ref bSc :: .ref bHn :: .int tr :: [])), (bSc, .inl (cI, 240, .inl mSc)), (bRk, .inl (cI, 6, .inl g0)), (bRs, .inl (cZ, 6, .inl g4)), (bRf, .inl (cI, 9, .inl g1)), (bRo, .inl (cI, 9, .inl g2)), (bRl, .inl (cI, 9, .inl g3))] → va_S zA zs.heap H_21 locs → ∀ (ls : Array Slot), lv_has ls 4 [(0, .ref bM), (1, .int (nI fr)), (2, .int (nI n)), (3, .int (kb b2))] → W zp zl ze ({ frames := 3, cells := 0, slots := 0, locals := 76 } : Room) zs zm za zb zt zc H_21 locs 0 0 zQ (F0 zm 91 ls []) := by
                intro n91
                induction n91 with
                | zero => intro b2 w a2 g1 g2 g3 hJ hme; exact absurd hme (Nat.not_lt_zero _)
                | succ n91 ih91 =>
                  intro b2 w a2 g1 g2 g3 hJ hme H_21 locs hP hD hS ls hl
                  refine lv_iload_n hx hb dX5_readsPass_91 rfl (lv_at hl 3 rfl) ?_
                  refine k_if_eqb (tgt := 113) hx hb dX5_readsPass_92 (by decide) (fun c92 => ?_) (fun c92 => ?_)
                  · refine lv_iload_n hx hb dX5_readsPass_113 rfl (lv_at hl 3 rfl) ?_
                    refine hret 114 _ b2 (g0, g4, g1, g2, g3, a2, k, w) _ _ dX5_readsPass_114 hS (fun t ht _ => by rw [ht]; exact hP) ?_
                    have hJ2 := hJ.2.1
                    rw [if_neg (by rw [c92]; decide)] at hJ2
                    have hz : pFlt (kcode mSc fr n) n ≠ 999 := by omega
                    refine ⟨?_, ?_⟩
                    · rw [c92, decide_eq_false hz]
                    · unfold rdPost; rw [if_neg hz]; exact hJ2.1.symm
                  · subst c92
                    have hJ2 := hJ.2.1
                    rw [if_pos rfl] at hJ2
                    obtain ⟨ea2, hJ3⟩ := hJ2
                    subst ea2
                    have hw9 := hJ.1
                    have hK1 := hJ3.2.2.2.2.2.1
                    have hK6 := hJ3.2.2.2.2.2.2
                    refine lv_aload_n hx hb dX5_readsPass_95 rfl (lv_at hl 0 rfl) ?_
                    refine va_get (D := (dC, dI)) (ci := 5) (v := .int (nI (1 + 2 * k + 4 * w))) (C := RX5) (T := TX5) (N := 35) hx hb hts hinX5 hown hK hP 0 rfl rfl 11 (by decide) lk104 (fun _ h9 => h9) rfl dX5_readsPass_96 ?_
                    refine lv_iload_n hx hb dX5_readsPass_99 rfl (lv_at hl 2 rfl) ?_
                    refine k_icmp_ge (tgt := 113) hx hb dX5_readsPass_100 (by decide) (by omega) (by omega) (fun c100 => ?_) (fun c100 => ?_)
                    · refine lv_iload_n hx hb dX5_readsPass_113 rfl (lv_at hl 3 rfl) ?_
                      refine hret 114 _ true (g0, g4, g1, g2, g3, 1 + 2 * k + 4 * w, k, w) _ _ dX5_readsPass_114 hS (fun t ht _ => by rw [ht]; exact hP) ?_
                      have hx := WI_end hJ c100
                      refine ⟨by rw [decide_eq_true hx.1], ?_⟩
                      unfold rdPost; rw [if_pos hx.1]
                      exact ⟨hx.2.1, hx.2.2, hI.2.2.1, hI.2.2.2, hJ.2.2.1, hJ.2.2.2.1, hJ.2.2.2.2⟩
                    · refine lv_aload_n hx hb dX5_readsPass_103 rfl (lv_at hl 0 rfl) ?_
                      refine lv_iload_n hx hb dX5_readsPass_104 rfl (lv_at hl 1 rfl) ?_
                      refine lv_iload_n hx hb dX5_readsPass_105 rfl (lv_at hl 2 rfl) ?_
                      refine kc_i (wr := [(bRk, .inl (cI, 6, .inl g0)), (bRs, .inl (cZ, 6, .inl g4))]) (va_runV (As := [.int (nI fr), .int (nI n)]) (rest := []) ⟨hx, hb, hml, hown, hts⟩ (kX5_readsWay bM fa np bKk bKs hm nw bWf bWt bWl lw bFo bRk bRs bRf bRo bRl nt bTp bTt bTd bHd bFn nr bRp bRt bRe bRh bZs bZl bSc bHn tr mSc g1 g2 g3 fr n k w hin hK6 (by omega) (by omega)) (cwV 2 hts gX5_readsPass_X5_readsWay rfl rfl rfl hvX5_readsWay ⟨Nat.le_of_ble_eq_true rfl, Nat.le_of_ble_eq_true rfl⟩) (kpreV hN (q := (RX5, TX5, 35)) (ci := 5) hK (hP.sub [0, 1, 4, 5, 6] rfl) (hD.sub [0, 1, 4, 5, 6] (by decide) rfl) 0 rfl rfl) rfl rfl hl.1 rfl (lv_room (Nat.le_of_ble_eq_true rfl)) dX5_readsPass_106 ⟨Nat.zero_le _, Nat.zero_le _⟩) (fun _ => by simp only [List.map]) hP hD hS hA [0, 1, 4, 5, 6] [2, 3] rfl rfl (by decide) (by decide) (by decide) (fun r_22 u_22 H_23 locs hr_22 hP hD hS => ?_)
                      obtain ⟨f_24, f_25, f_26, a_27, w_28⟩ := u_22
                      try dsimp only at hr_22
                      have hP : va_P (dC, dI) vwCl [(bRk, .inl (cI, 6, .inl g0)), (bRs, .inl (cZ, 6, .inl g4)), (bM, .inr (5, .int (nI fa) :: .int (nI np) :: .ref bKk :: .ref bKs :: .int (nI hm) :: .int (nI nw) :: .ref bWf :: .ref bWt :: .ref bWl :: .int (nI lw) :: .ref bFo :: .int (nI a_27) :: .int (nI k) :: .int (nI w_28) :: .ref bRk :: .ref bRs :: .ref bRf :: .ref bRo :: .ref bRl :: .int (nI nt) :: .ref bTp :: .ref bTt :: .ref bTd :: .ref bHd :: .ref bFn :: .int (nI nr) :: .ref bRp :: .ref bRt :: .ref bRe :: .ref bRh :: .ref bZs :: .ref bZl :: .ref bSc :: .ref bHn :: .int tr :: [])), (bSc, .inl (cI, 240, .inl mSc)), (bRf, .inl (cI, 9, .inl f_24)), (bRo, .inl (cI, 9, .inl f_25)), (bRl, .inl (cI, 9, .inl f_26))] H_23 := hP
                      have hD : va_D zA [(bRk, .inl (cI, 6, .inl g0)), (bRs, .inl (cZ, 6, .inl g4)), (bM, .inr (5, .int (nI fa) :: .int (nI np) :: .ref bKk :: .ref bKs :: .int (nI hm) :: .int (nI nw) :: .ref bWf :: .ref bWt :: .ref bWl :: .int (nI lw) :: .ref bFo :: .int (nI a_27) :: .int (nI k) :: .int (nI w_28) :: .ref bRk :: .ref bRs :: .ref bRf :: .ref bRo :: .ref bRl :: .int (nI nt) :: .ref bTp :: .ref bTt :: .ref bTd :: .ref bHd :: .ref bFn :: .int (nI nr) :: .ref bRp :: .ref bRt :: .ref bRe :: .ref bRh :: .ref bZs :: .ref bZl :: .ref bSc :: .ref bHn :: .int tr :: [])), (bSc, .inl (cI, 240, .inl mSc)), (bRf, .inl (cI, 9, .inl f_24)), (bRo, .inl (cI, 9, .inl f_25)), (bRl, .inl (cI, 9, .inl f_26))] := hD
                      have hP := hP.sub (ws' := [(bM, .inr (5, .int (nI fa) :: .int (nI np) :: .ref bKk :: .ref bKs :: .int (nI hm) :: .int (nI nw) :: .ref bWf :: .ref bWt :: .ref bWl :: .int (nI lw) :: .ref bFo :: .int (nI a_27) :: .int (nI k) :: .int (nI w_28) :: .ref bRk :: .ref bRs :: .ref bRf :: .ref bRo :: .ref bRl :: .int (nI nt) :: .ref bTp :: .ref bTt :: .ref bTd :: .ref bHd :: .ref bFn :: .int (nI nr) :: .ref bRp :: .ref bRt :: .ref bRe :: .ref bRh :: .ref bZs :: .ref bZl :: .ref bSc :: .ref bHn :: .int tr :: [])), (bSc, .inl (cI, 240, .inl mSc)), (bRk, .inl (cI, 6, .inl g0)), (bRs, .inl (cZ, 6, .inl g4)), (bRf, .inl (cI, 9, .inl f_24)), (bRo, .inl (cI, 9, .inl f_25)), (bRl, .inl (cI, 9, .inl f_26))]) [2, 3, 0, 1, 4, 5, 6] rfl
                      have hD := hD.sub (ws' := [(bM, .inr (5, .int (nI fa) :: .int (nI np) :: .ref bKk :: .ref bKs :: .int (nI hm) :: .int (nI nw) :: .ref bWf :: .ref bWt :: .ref bWl :: .int (nI lw) :: .ref bFo :: .int (nI a_27) :: .int (nI k) :: .int (nI w_28) :: .ref bRk :: .ref bRs :: .ref bRf :: .ref bRo :: .ref bRl :: .int (nI nt) :: .ref bTp :: .ref bTt :: .ref bTd :: .ref bHd :: .ref bFn :: .int (nI nr) :: .ref bRp :: .ref bRt :: .ref bRe :: .ref bRh :: .ref bZs :: .ref bZl :: .ref bSc :: .ref bHn :: .int tr :: [])), (bSc, .inl (cI, 240, .inl mSc)), (bRk, .inl (cI, 6, .inl g0)), (bRs, .inl (cZ, 6, .inl g4)), (bRf, .inl (cI, 9, .inl f_24)), (bRo, .inl (cI, 9, .inl f_25)), (bRl, .inl (cI, 9, .inl f_26))]) [2, 3, 0, 1, 4, 5, 6] (by decide) rfl
                      obtain ⟨er_22, hr_22⟩ := hr_22
                      have er_22 : r_22 = kb (wGo (kcode mSc fr n) k w) := er_22
                      rw [er_22]
                      refine lv_istore_n (lv' := [(3, .int (kb (wGo (kcode mSc fr n) k w))), (0, .ref bM), (1, .int (nI fr)), (2, .int (nI n))]) hx hb dX5_readsPass_109 rfl hl (by decide) rfl (fun ls hl => ?_)
                      refine lv_goto (tgt := 91) hx hb dX5_readsPass_110 (by decide) ?_
                      exact ih91 (wGo (kcode mSc fr n) k w) w_28 a_27 f_24 f_25 f_26 (by exact WI_step hJ (by unfold wPl; omega) hr_22) (by exact WI_me hr_22 hme hw9) _ _ hP hD hS _ (lv_sub hl [1, 2, 3, 0] rfl)
              exact loop91 ((2 * (9 - 0) + (if true = true then 1 else 0)) + 1) true 0 (1 + 2 * k) mRf mRo mRl (by exact PI_end hI (by omega) (Or.inl c67)) (by exact Nat.lt_succ_self _) _ _ hP hD hS _ (lv_sub hl [0, 1, 2, 3] rfl)
            · refine lv_aload_n hx hb dX5_readsPass_70 rfl (lv_at hl 0 rfl) ?_
              refine lv_iload_n hx hb dX5_readsPass_71 rfl (lv_at hl 1 rfl) ?_
              refine lv_iload_n hx hb dX5_readsPass_72 rfl (lv_at hl 2 rfl) ?_
              refine rc_i (va_runV (As := [.int (nI fr), .int (nI n)]) (rest := []) ⟨hx, hb, hml, hown, hts⟩ (kX5_codeAt bM fa np bKk bKs hm nw bWf bWt bWl lw bFo (1 + 2 * k) k 0 bRk bRs bRf bRo bRl nt bTp bTt bTd bHd bFn nr bRp bRt bRe bRh bZs bZl bSc bHn tr mSc fr n hin (by omega)) (cwV 2 hts gX5_readsPass_X5_codeAt rfl rfl rfl hvX5_codeAt ⟨Nat.le_of_ble_eq_true rfl, Nat.le_of_ble_eq_true rfl⟩) (rpreV hN (q := (RX5, TX5, 35)) (ci := 5) hK (hP.sub [0, 1] rfl) 0 rfl rfl) rfl rfl hl.1 rfl (lv_room (Nat.le_of_ble_eq_true rfl)) dX5_readsPass_73 ⟨Nat.zero_le _, Nat.zero_le _⟩) (fun r_29 hr_29 => ?_)
              have hr_29 : r_29 = rc9 (kcode mSc fr n) n (1 + 2 * k) := hr_29
              rw [hr_29]
              refine lv_bipush (v := nI 59) hx hb dX5_readsPass_76 (by decide) ?_
              refine lv_icmp_eq (tgt := 91) hx hb dX5_readsPass_78 (by decide) (fun c78 => ?_) (fun c78 => ?_)
              · have loop91 : ∀ (n91 : Nat) (b2 : Bool) (w : Nat) (a2 : Nat) (g1 : Nat → Int32) (g2 : Nat → Int32) (g3 : Nat → Int32), (WI (kcode mSc fr n) n b2 k w a2 g1 g2 g3) → (2 * (9 - w) + (if b2 = true then 1 else 0) < n91) → ∀ (H_30 : Heap) (locs : List Loc), va_P (dC, dI) vwCl [(bM, .inr (5, .int (nI fa) :: .int (nI np) :: .ref bKk :: .ref bKs :: .int (nI hm) :: .int (nI nw) :: .ref bWf :: .ref bWt :: .ref bWl :: .int (nI lw) :: .ref bFo :: .int (nI a2) :: .int (nI k) :: .int (nI w) :: .ref bRk :: .ref bRs :: .ref bRf :: .ref bRo :: .ref bRl :: .int (nI nt) :: .ref bTp :: .ref bTt :: .ref bTd :: .ref bHd :: .ref bFn :: .int (nI nr) :: .ref bRp :: .ref bRt :: .ref bRe :: .ref bRh :: .ref bZs :: .ref bZl :: .ref bSc :: .ref bHn :: .int tr :: [])), (bSc, .inl (cI, 240, .inl mSc)), (bRk, .inl (cI, 6, .inl g0)), (bRs, .inl (cZ, 6, .inl g4)), (bRf, .inl (cI, 9, .inl g1)), (bRo, .inl (cI, 9, .inl g2)), (bRl, .inl (cI, 9, .inl g3))] H_30 → va_D zA [(bM, .inr (5, .int (nI fa) :: .int (nI np) :: .ref bKk :: .ref bKs :: .int (nI hm) :: .int (nI nw) :: .ref bWf :: .ref bWt :: .ref bWl :: .int (nI lw) :: .ref bFo :: .int (nI a2) :: .int (nI k) :: .int (nI w) :: .ref bRk :: .ref bRs :: .ref bRf :: .ref bRo :: .ref bRl :: .int (nI nt) :: .ref bTp :: .ref bTt :: .ref bTd :: .ref bHd :: .ref bFn :: .int (nI nr) :: .ref bRp :: .ref bRt :: .ref bRe :: .ref bRh :: .ref bZs :: .ref bZl :: .ref bSc :: .ref bHn :: .int tr :: [])), (bSc, .inl (cI, 240, .inl mSc)), (bRk, .inl (cI, 6, .inl g0)), (bRs, .inl (cZ, 6, .inl g4)), (bRf, .inl (cI, 9, .inl g1)), (bRo, .inl (cI, 9, .inl g2)), (bRl, .inl (cI, 9, .inl g3))] → va_S zA zs.heap H_30 locs → ∀ (ls : Array Slot), lv_has ls 4 [(0, .ref bM), (1, .int (nI fr)), (2, .int (nI n)), (3, .int (kb b2))] → W zp zl ze ({ frames := 3, cells := 0, slots := 0, locals := 76 } : Room) zs zm za zb zt zc H_30 locs 0 0 zQ (F0 zm 91 ls []) := by
                  intro n91
                  induction n91 with
                  | zero => intro b2 w a2 g1 g2 g3 hJ hme; exact absurd hme (Nat.not_lt_zero _)
                  | succ n91 ih91 =>
                    intro b2 w a2 g1 g2 g3 hJ hme H_30 locs hP hD hS ls hl
                    refine lv_iload_n hx hb dX5_readsPass_91 rfl (lv_at hl 3 rfl) ?_
                    refine k_if_eqb (tgt := 113) hx hb dX5_readsPass_92 (by decide) (fun c92 => ?_) (fun c92 => ?_)
                    · refine lv_iload_n hx hb dX5_readsPass_113 rfl (lv_at hl 3 rfl) ?_
                      refine hret 114 _ b2 (g0, g4, g1, g2, g3, a2, k, w) _ _ dX5_readsPass_114 hS (fun t ht _ => by rw [ht]; exact hP) ?_
                      have hJ2 := hJ.2.1
                      rw [if_neg (by rw [c92]; decide)] at hJ2
                      have hz : pFlt (kcode mSc fr n) n ≠ 999 := by omega
                      refine ⟨?_, ?_⟩
                      · rw [c92, decide_eq_false hz]
                      · unfold rdPost; rw [if_neg hz]; exact hJ2.1.symm
                    · subst c92
                      have hJ2 := hJ.2.1
                      rw [if_pos rfl] at hJ2
                      obtain ⟨ea2, hJ3⟩ := hJ2
                      subst ea2
                      have hw9 := hJ.1
                      have hK1 := hJ3.2.2.2.2.2.1
                      have hK6 := hJ3.2.2.2.2.2.2
                      refine lv_aload_n hx hb dX5_readsPass_95 rfl (lv_at hl 0 rfl) ?_
                      refine va_get (D := (dC, dI)) (ci := 5) (v := .int (nI (1 + 2 * k + 4 * w))) (C := RX5) (T := TX5) (N := 35) hx hb hts hinX5 hown hK hP 0 rfl rfl 11 (by decide) lk104 (fun _ h9 => h9) rfl dX5_readsPass_96 ?_
                      refine lv_iload_n hx hb dX5_readsPass_99 rfl (lv_at hl 2 rfl) ?_
                      refine k_icmp_ge (tgt := 113) hx hb dX5_readsPass_100 (by decide) (by omega) (by omega) (fun c100 => ?_) (fun c100 => ?_)
                      · refine lv_iload_n hx hb dX5_readsPass_113 rfl (lv_at hl 3 rfl) ?_
                        refine hret 114 _ true (g0, g4, g1, g2, g3, 1 + 2 * k + 4 * w, k, w) _ _ dX5_readsPass_114 hS (fun t ht _ => by rw [ht]; exact hP) ?_
                        have hx := WI_end hJ c100
                        refine ⟨by rw [decide_eq_true hx.1], ?_⟩
                        unfold rdPost; rw [if_pos hx.1]
                        exact ⟨hx.2.1, hx.2.2, hI.2.2.1, hI.2.2.2, hJ.2.2.1, hJ.2.2.2.1, hJ.2.2.2.2⟩
                      · refine lv_aload_n hx hb dX5_readsPass_103 rfl (lv_at hl 0 rfl) ?_
                        refine lv_iload_n hx hb dX5_readsPass_104 rfl (lv_at hl 1 rfl) ?_
                        refine lv_iload_n hx hb dX5_readsPass_105 rfl (lv_at hl 2 rfl) ?_
                        refine kc_i (wr := [(bRk, .inl (cI, 6, .inl g0)), (bRs, .inl (cZ, 6, .inl g4))]) (va_runV (As := [.int (nI fr), .int (nI n)]) (rest := []) ⟨hx, hb, hml, hown, hts⟩ (kX5_readsWay bM fa np bKk bKs hm nw bWf bWt bWl lw bFo bRk bRs bRf bRo bRl nt bTp bTt bTd bHd bFn nr bRp bRt bRe bRh bZs bZl bSc bHn tr mSc g1 g2 g3 fr n k w hin hK6 (by omega) (by omega)) (cwV 2 hts gX5_readsPass_X5_readsWay rfl rfl rfl hvX5_readsWay ⟨Nat.le_of_ble_eq_true rfl, Nat.le_of_ble_eq_true rfl⟩) (kpreV hN (q := (RX5, TX5, 35)) (ci := 5) hK (hP.sub [0, 1, 4, 5, 6] rfl) (hD.sub [0, 1, 4, 5, 6] (by decide) rfl) 0 rfl rfl) rfl rfl hl.1 rfl (lv_room (Nat.le_of_ble_eq_true rfl)) dX5_readsPass_106 ⟨Nat.zero_le _, Nat.zero_le _⟩) (fun _ => by simp only [List.map]) hP hD hS hA [0, 1, 4, 5, 6] [2, 3] rfl rfl (by decide) (by decide) (by decide) (fun r_31 u_31 H_32 locs hr_31 hP hD hS => ?_)
                        obtain ⟨f_33, f_34, f_35, a_36, w_37⟩ := u_31
                        try dsimp only at hr_31
                        have hP : va_P (dC, dI) vwCl [(bRk, .inl (cI, 6, .inl g0)), (bRs, .inl (cZ, 6, .inl g4)), (bM, .inr (5, .int (nI fa) :: .int (nI np) :: .ref bKk :: .ref bKs :: .int (nI hm) :: .int (nI nw) :: .ref bWf :: .ref bWt :: .ref bWl :: .int (nI lw) :: .ref bFo :: .int (nI a_36) :: .int (nI k) :: .int (nI w_37) :: .ref bRk :: .ref bRs :: .ref bRf :: .ref bRo :: .ref bRl :: .int (nI nt) :: .ref bTp :: .ref bTt :: .ref bTd :: .ref bHd :: .ref bFn :: .int (nI nr) :: .ref bRp :: .ref bRt :: .ref bRe :: .ref bRh :: .ref bZs :: .ref bZl :: .ref bSc :: .ref bHn :: .int tr :: [])), (bSc, .inl (cI, 240, .inl mSc)), (bRf, .inl (cI, 9, .inl f_33)), (bRo, .inl (cI, 9, .inl f_34)), (bRl, .inl (cI, 9, .inl f_35))] H_32 := hP
                        have hD : va_D zA [(bRk, .inl (cI, 6, .inl g0)), (bRs, .inl (cZ, 6, .inl g4)), (bM, .inr (5, .int (nI fa) :: .int (nI np) :: .ref bKk :: .ref bKs :: .int (nI hm) :: .int (nI nw) :: .ref bWf :: .ref bWt :: .ref bWl :: .int (nI lw) :: .ref bFo :: .int (nI a_36) :: .int (nI k) :: .int (nI w_37) :: .ref bRk :: .ref bRs :: .ref bRf :: .ref bRo :: .ref bRl :: .int (nI nt) :: .ref bTp :: .ref bTt :: .ref bTd :: .ref bHd :: .ref bFn :: .int (nI nr) :: .ref bRp :: .ref bRt :: .ref bRe :: .ref bRh :: .ref bZs :: .ref bZl :: .ref bSc :: .ref bHn :: .int tr :: [])), (bSc, .inl (cI, 240, .inl mSc)), (bRf, .inl (cI, 9, .inl f_33)), (bRo, .inl (cI, 9, .inl f_34)), (bRl, .inl (cI, 9, .inl f_35))] := hD
                        have hP := hP.sub (ws' := [(bM, .inr (5, .int (nI fa) :: .int (nI np) :: .ref bKk :: .ref bKs :: .int (nI hm) :: .int (nI nw) :: .ref bWf :: .ref bWt :: .ref bWl :: .int (nI lw) :: .ref bFo :: .int (nI a_36) :: .int (nI k) :: .int (nI w_37) :: .ref bRk :: .ref bRs :: .ref bRf :: .ref bRo :: .ref bRl :: .int (nI nt) :: .ref bTp :: .ref bTt :: .ref bTd :: .ref bHd :: .ref bFn :: .int (nI nr) :: .ref bRp :: .ref bRt :: .ref bRe :: .ref bRh :: .ref bZs :: .ref bZl :: .ref bSc :: .ref bHn :: .int tr :: [])), (bSc, .inl (cI, 240, .inl mSc)), (bRk, .inl (cI, 6, .inl g0)), (bRs, .inl (cZ, 6, .inl g4)), (bRf, .inl (cI, 9, .inl f_33)), (bRo, .inl (cI, 9, .inl f_34)), (bRl, .inl (cI, 9, .inl f_35))]) [2, 3, 0, 1, 4, 5, 6] rfl
                        have hD := hD.sub (ws' := [(bM, .inr (5, .int (nI fa) :: .int (nI np) :: .ref bKk :: .ref bKs :: .int (nI hm) :: .int (nI nw) :: .ref bWf :: .ref bWt :: .ref bWl :: .int (nI lw) :: .ref bFo :: .int (nI a_36) :: .int (nI k) :: .int (nI w_37) :: .ref bRk :: .ref bRs :: .ref bRf :: .ref bRo :: .ref bRl :: .int (nI nt) :: .ref bTp :: .ref bTt :: .ref bTd :: .ref bHd :: .ref bFn :: .int (nI nr) :: .ref bRp :: .ref bRt :: .ref bRe :: .ref bRh :: .ref bZs :: .ref bZl :: .ref bSc :: .ref bHn :: .int tr :: [])), (bSc, .inl (cI, 240, .inl mSc)), (bRk, .inl (cI, 6, .inl g0)), (bRs, .inl (cZ, 6, .inl g4)), (bRf, .inl (cI, 9, .inl f_33)), (bRo, .inl (cI, 9, .inl f_34)), (bRl, .inl (cI, 9, .inl f_35))]) [2, 3, 0, 1, 4, 5, 6] (by decide) rfl
                        obtain ⟨er_31, hr_31⟩ := hr_31
                        have er_31 : r_31 = kb (wGo (kcode mSc fr n) k w) := er_31
                        rw [er_31]
                        refine lv_istore_n (lv' := [(3, .int (kb (wGo (kcode mSc fr n) k w))), (0, .ref bM), (1, .int (nI fr)), (2, .int (nI n))]) hx hb dX5_readsPass_109 rfl hl (by decide) rfl (fun ls hl => ?_)
                        refine lv_goto (tgt := 91) hx hb dX5_readsPass_110 (by decide) ?_
                        exact ih91 (wGo (kcode mSc fr n) k w) w_37 a_36 f_33 f_34 f_35 (by exact WI_step hJ (by unfold wPl; omega) hr_31) (by exact WI_me hr_31 hme hw9) _ _ hP hD hS _ (lv_sub hl [1, 2, 3, 0] rfl)
                exact loop91 ((2 * (9 - 0) + (if true = true then 1 else 0)) + 1) true 0 (1 + 2 * k) mRf mRo mRl (by exact PI_end hI (by omega) (Or.inr ((rc_val (by decide) (by decide)).mp c78))) (by exact Nat.lt_succ_self _) _ _ hP hD hS _ (lv_sub hl [0, 1, 2, 3] rfl)
              · refine lv_aload_n hx hb dX5_readsPass_81 rfl (lv_at hl 0 rfl) ?_
                refine lv_iload_n hx hb dX5_readsPass_82 rfl (lv_at hl 1 rfl) ?_
                refine lv_iload_n hx hb dX5_readsPass_83 rfl (lv_at hl 2 rfl) ?_
                refine kc_i (wr := [(bRf, .inl (cI, 9, .inl mRf)), (bRo, .inl (cI, 9, .inl mRo)), (bRl, .inl (cI, 9, .inl mRl))]) (va_runV (As := [.int (nI fr), .int (nI n)]) (rest := []) ⟨hx, hb, hml, hown, hts⟩ (kX5_readsPerson bM fa np bKk bKs hm nw bWf bWt bWl lw bFo 0 bRk bRs bRf bRo bRl nt bTp bTt bTd bHd bFn nr bRp bRt bRe bRh bZs bZl bSc bHn tr mSc g0 g4 fr n k hin (by omega)) (cwV 2 hts gX5_readsPass_X5_readsPerson rfl rfl rfl hvX5_readsPerson ⟨Nat.le_of_ble_eq_true rfl, Nat.le_of_ble_eq_true rfl⟩) (kpreV hN (q := (RX5, TX5, 35)) (ci := 5) hK (hP.sub [0, 1, 2, 3] rfl) (hD.sub [0, 1, 2, 3] (by decide) rfl) 0 rfl rfl) rfl rfl hl.1 rfl (lv_room (Nat.le_of_ble_eq_true rfl)) dX5_readsPass_84 ⟨Nat.zero_le _, Nat.zero_le _⟩) (fun _ => by simp only [List.map]) hP hD hS hA [0, 1, 2, 3] [4, 5, 6] rfl rfl (by decide) (by decide) (by decide) (fun r_38 u_38 H_39 locs hr_38 hP hD hS => ?_)
                obtain ⟨f_40, f_41, a_42, k_43⟩ := u_38
                try dsimp only at hr_38
                have hP : va_P (dC, dI) vwCl [(bRf, .inl (cI, 9, .inl mRf)), (bRo, .inl (cI, 9, .inl mRo)), (bRl, .inl (cI, 9, .inl mRl)), (bM, .inr (5, .int (nI fa) :: .int (nI np) :: .ref bKk :: .ref bKs :: .int (nI hm) :: .int (nI nw) :: .ref bWf :: .ref bWt :: .ref bWl :: .int (nI lw) :: .ref bFo :: .int (nI a_42) :: .int (nI k_43) :: .int (nI 0) :: .ref bRk :: .ref bRs :: .ref bRf :: .ref bRo :: .ref bRl :: .int (nI nt) :: .ref bTp :: .ref bTt :: .ref bTd :: .ref bHd :: .ref bFn :: .int (nI nr) :: .ref bRp :: .ref bRt :: .ref bRe :: .ref bRh :: .ref bZs :: .ref bZl :: .ref bSc :: .ref bHn :: .int tr :: [])), (bSc, .inl (cI, 240, .inl mSc)), (bRk, .inl (cI, 6, .inl f_40)), (bRs, .inl (cZ, 6, .inl f_41))] H_39 := hP
                have hD : va_D zA [(bRf, .inl (cI, 9, .inl mRf)), (bRo, .inl (cI, 9, .inl mRo)), (bRl, .inl (cI, 9, .inl mRl)), (bM, .inr (5, .int (nI fa) :: .int (nI np) :: .ref bKk :: .ref bKs :: .int (nI hm) :: .int (nI nw) :: .ref bWf :: .ref bWt :: .ref bWl :: .int (nI lw) :: .ref bFo :: .int (nI a_42) :: .int (nI k_43) :: .int (nI 0) :: .ref bRk :: .ref bRs :: .ref bRf :: .ref bRo :: .ref bRl :: .int (nI nt) :: .ref bTp :: .ref bTt :: .ref bTd :: .ref bHd :: .ref bFn :: .int (nI nr) :: .ref bRp :: .ref bRt :: .ref bRe :: .ref bRh :: .ref bZs :: .ref bZl :: .ref bSc :: .ref bHn :: .int tr :: [])), (bSc, .inl (cI, 240, .inl mSc)), (bRk, .inl (cI, 6, .inl f_40)), (bRs, .inl (cZ, 6, .inl f_41))] := hD
                have hP := hP.sub (ws' := [(bM, .inr (5, .int (nI fa) :: .int (nI np) :: .ref bKk :: .ref bKs :: .int (nI hm) :: .int (nI nw) :: .ref bWf :: .ref bWt :: .ref bWl :: .int (nI lw) :: .ref bFo :: .int (nI a_42) :: .int (nI k_43) :: .int (nI 0) :: .ref bRk :: .ref bRs :: .ref bRf :: .ref bRo :: .ref bRl :: .int (nI nt) :: .ref bTp :: .ref bTt :: .ref bTd :: .ref bHd :: .ref bFn :: .int (nI nr) :: .ref bRp :: .ref bRt :: .ref bRe :: .ref bRh :: .ref bZs :: .ref bZl :: .ref bSc :: .ref bHn :: .int tr :: [])), (bSc, .inl (cI, 240, .inl mSc)), (bRk, .inl (cI, 6, .inl f_40)), (bRs, .inl (cZ, 6, .inl f_41)), (bRf, .inl (cI, 9, .inl mRf)), (bRo, .inl (cI, 9, .inl mRo)), (bRl, .inl (cI, 9, .inl mRl))]) [3, 4, 5, 6, 0, 1, 2] rfl
                have hD := hD.sub (ws' := [(bM, .inr (5, .int (nI fa) :: .int (nI np) :: .ref bKk :: .ref bKs :: .int (nI hm) :: .int (nI nw) :: .ref bWf :: .ref bWt :: .ref bWl :: .int (nI lw) :: .ref bFo :: .int (nI a_42) :: .int (nI k_43) :: .int (nI 0) :: .ref bRk :: .ref bRs :: .ref bRf :: .ref bRo :: .ref bRl :: .int (nI nt) :: .ref bTp :: .ref bTt :: .ref bTd :: .ref bHd :: .ref bFn :: .int (nI nr) :: .ref bRp :: .ref bRt :: .ref bRe :: .ref bRh :: .ref bZs :: .ref bZl :: .ref bSc :: .ref bHn :: .int tr :: [])), (bSc, .inl (cI, 240, .inl mSc)), (bRk, .inl (cI, 6, .inl f_40)), (bRs, .inl (cZ, 6, .inl f_41)), (bRf, .inl (cI, 9, .inl mRf)), (bRo, .inl (cI, 9, .inl mRo)), (bRl, .inl (cI, 9, .inl mRl))]) [3, 4, 5, 6, 0, 1, 2] (by decide) rfl
                obtain ⟨er_38, hr_38⟩ := hr_38
                have er_38 : r_38 = kb (pGo (kcode mSc fr n) k) := er_38
                rw [er_38]
                refine lv_istore_n (lv' := [(3, .int (kb (pGo (kcode mSc fr n) k))), (0, .ref bM), (1, .int (nI fr)), (2, .int (nI n))]) hx hb dX5_readsPass_87 rfl hl (by decide) rfl (fun ls hl => ?_)
                refine lv_goto (tgt := 50) hx hb dX5_readsPass_88 (by decide) ?_
                exact ih50 (pGo (kcode mSc fr n) k) k_43 a_42 f_40 f_41 (by exact PI_step hI (Or.inr ⟨by omega, fun z => c78 ((rc_val (by decide) (by decide)).mpr z)⟩) hr_38) (by exact PI_me hr_38 hme hk6) _ _ hP hD hS _ (lv_sub hl [1, 2, 3, 0] rfl)
    exact loop50 ((2 * (6 - 0) + (if false = true then 1 else 0)) + 1) false 0 (0 + 0) mRk mRs (by exact PI_no (fun z => c23 ((rc_val (by decide) (by decide)).mpr z))) (by exact Nat.lt_succ_self _) _ _ hP hD hS _ (lv_sub hl [1, 2, 3, 0] rfl)
  · refine lv_iconst (v := nI 1) hx hb dX5_readsPass_26 (by decide) ?_
    refine k_cast (y := kb true) (rfl) ?_
    refine lv_goto (tgt := 31) hx hb dX5_readsPass_27 (by decide) ?_
    refine lv_istore_n (lv' := [(3, .int (kb true)), (0, .ref bM), (1, .int (nI fr)), (2, .int (nI n))]) hx hb dX5_readsPass_31 rfl hl (by decide) rfl (fun ls hl => ?_)
    refine lv_aload_n hx hb dX5_readsPass_32 rfl (lv_at hl 1 rfl) ?_
    refine lv_dup hx hb dX5_readsPass_33 rfl ?_
    refine va_get (D := (dC, dI)) (ci := 5) (v := .int (nI 0)) (C := RX5) (T := TX5) (N := 35) hx hb hts hinX5 hown hK hP 0 rfl rfl 11 (by decide) lk104 (fun _ h9 => h9) rfl dX5_readsPass_34 ?_
    refine lv_iload_n hx hb dX5_readsPass_37 rfl (lv_at hl 0 rfl) ?_
    refine k_if_eqb (tgt := 45) hx hb dX5_readsPass_38 (by decide) (fun c38 => nomatch c38) (fun c38 => ?_)
    refine lv_iconst (v := nI 1) hx hb dX5_readsPass_41 (by decide) ?_
    refine lv_goto (tgt := 46) hx hb dX5_readsPass_42 (by decide) ?_
    refine k_iadd hx hb dX5_readsPass_46 ?_
    refine va_put (D := (dC, dI)) (ci := 5) (v := .int (nI (0 + 1))) (ty := .int) (C := RX5) (T := TX5) (N := 35) hx hb hts hinX5 tyX5 tyX5_ok nmX5 hown hK hP hD hS 0 rfl rfl 11 (by decide) lk104 (fun _ h9 => h9) rfl (tyX5_ok 11 (by decide)) rfl rfl (Nat.le_of_ble_eq_true rfl) dX5_readsPass_47 (fun H_44 locs hP hD hS => ?_)
    have hP : va_P (dC, dI) vwCl [(bM, .inr (5, .int (nI fa) :: .int (nI np) :: .ref bKk :: .ref bKs :: .int (nI hm) :: .int (nI nw) :: .ref bWf :: .ref bWt :: .ref bWl :: .int (nI lw) :: .ref bFo :: .int (nI (0 + 1)) :: .int (nI 0) :: .int (nI 0) :: .ref bRk :: .ref bRs :: .ref bRf :: .ref bRo :: .ref bRl :: .int (nI nt) :: .ref bTp :: .ref bTt :: .ref bTd :: .ref bHd :: .ref bFn :: .int (nI nr) :: .ref bRp :: .ref bRt :: .ref bRe :: .ref bRh :: .ref bZs :: .ref bZl :: .ref bSc :: .ref bHn :: .int tr :: [])), (bSc, .inl (cI, 240, .inl mSc)), (bRk, .inl (cI, 6, .inl mRk)), (bRs, .inl (cZ, 6, .inl mRs)), (bRf, .inl (cI, 9, .inl mRf)), (bRo, .inl (cI, 9, .inl mRo)), (bRl, .inl (cI, 9, .inl mRl))] H_44 := hP
    have hD : va_D zA [(bM, .inr (5, .int (nI fa) :: .int (nI np) :: .ref bKk :: .ref bKs :: .int (nI hm) :: .int (nI nw) :: .ref bWf :: .ref bWt :: .ref bWl :: .int (nI lw) :: .ref bFo :: .int (nI (0 + 1)) :: .int (nI 0) :: .int (nI 0) :: .ref bRk :: .ref bRs :: .ref bRf :: .ref bRo :: .ref bRl :: .int (nI nt) :: .ref bTp :: .ref bTt :: .ref bTd :: .ref bHd :: .ref bFn :: .int (nI nr) :: .ref bRp :: .ref bRt :: .ref bRe :: .ref bRh :: .ref bZs :: .ref bZl :: .ref bSc :: .ref bHn :: .int tr :: [])), (bSc, .inl (cI, 240, .inl mSc)), (bRk, .inl (cI, 6, .inl mRk)), (bRs, .inl (cZ, 6, .inl mRs)), (bRf, .inl (cI, 9, .inl mRf)), (bRo, .inl (cI, 9, .inl mRo)), (bRl, .inl (cI, 9, .inl mRl))] := hD
    have loop50 : ∀ (n50 : Nat) (b : Bool) (k : Nat) (a : Nat) (g0 : Nat → Int32) (g4 : Nat → Int32), (PI (kcode mSc fr n) n b k a g0 g4) → (2 * (6 - k) + (if b = true then 1 else 0) < n50) → ∀ (H_45 : Heap) (locs : List Loc), va_P (dC, dI) vwCl [(bM, .inr (5, .int (nI fa) :: .int (nI np) :: .ref bKk :: .ref bKs :: .int (nI hm) :: .int (nI nw) :: .ref bWf :: .ref bWt :: .ref bWl :: .int (nI lw) :: .ref bFo :: .int (nI a) :: .int (nI k) :: .int (nI 0) :: .ref bRk :: .ref bRs :: .ref bRf :: .ref bRo :: .ref bRl :: .int (nI nt) :: .ref bTp :: .ref bTt :: .ref bTd :: .ref bHd :: .ref bFn :: .int (nI nr) :: .ref bRp :: .ref bRt :: .ref bRe :: .ref bRh :: .ref bZs :: .ref bZl :: .ref bSc :: .ref bHn :: .int tr :: [])), (bSc, .inl (cI, 240, .inl mSc)), (bRk, .inl (cI, 6, .inl g0)), (bRs, .inl (cZ, 6, .inl g4)), (bRf, .inl (cI, 9, .inl mRf)), (bRo, .inl (cI, 9, .inl mRo)), (bRl, .inl (cI, 9, .inl mRl))] H_45 → va_D zA [(bM, .inr (5, .int (nI fa) :: .int (nI np) :: .ref bKk :: .ref bKs :: .int (nI hm) :: .int (nI nw) :: .ref bWf :: .ref bWt :: .ref bWl :: .int (nI lw) :: .ref bFo :: .int (nI a) :: .int (nI k) :: .int (nI 0) :: .ref bRk :: .ref bRs :: .ref bRf :: .ref bRo :: .ref bRl :: .int (nI nt) :: .ref bTp :: .ref bTt :: .ref bTd :: .ref bHd :: .ref bFn :: .int (nI nr) :: .ref bRp :: .ref bRt :: .ref bRe :: .ref bRh :: .ref bZs :: .ref bZl :: .ref bSc :: .ref bHn :: .int tr :: [])), (bSc, .inl (cI, 240, .inl mSc)), (bRk, .inl (cI, 6, .inl g0)), (bRs, .inl (cZ, 6, .inl g4)), (bRf, .inl (cI, 9, .inl mRf)), (bRo, .inl (cI, 9, .inl mRo)), (bRl, .inl (cI, 9, .inl mRl))] → va_S zA zs.heap H_45 locs → ∀ (ls : Array Slot), lv_has ls 4 [(0, .ref bM), (1, .int (nI fr)), (2, .int (nI n)), (3, .int (kb b))] → W zp zl ze ({ frames := 3, cells := 0, slots := 0, locals := 76 } : Room) zs zm za zb zt zc H_45 locs 0 0 zQ (F0 zm 50 ls []) := by
      intro n50
      induction n50 with
      | zero => intro b k a g0 g4 hI hme; exact absurd hme (Nat.not_lt_zero _)
      | succ n50 ih50 =>
        intro b k a g0 g4 hI hme H_45 locs hP hD hS ls hl
        refine lv_iload_n hx hb dX5_readsPass_50 rfl (lv_at hl 3 rfl) ?_
        refine k_if_eqb (tgt := 91) hx hb dX5_readsPass_51 (by decide) (fun c51 => ?_) (fun c51 => ?_)
        · have loop91 : ∀ (n91 : Nat) (b2 : Bool) (w : Nat) (a2 : Nat) (g1 : Nat → Int32) (g2 : Nat → Int32) (g3 : Nat → Int32), (WI (kcode mSc fr n) n b2 k w a2 g1 g2 g3) → (2 * (9 - w) + (if b2 = true then 1 else 0) < n91) → ∀ (H_46 : Heap) (locs : List Loc), va_P (dC, dI) vwCl [(bM, .inr (5, .int (nI fa) :: .int (nI np) :: .ref bKk :: .ref bKs :: .int (nI hm) :: .int (nI nw) :: .ref bWf :: .ref bWt :: .ref bWl :: .int (nI lw) :: .ref bFo :: .int (nI a2) :: .int (nI k) :: .int (nI w) :: .ref bRk :: .ref bRs :: .ref bRf :: .ref bRo :: .ref bRl :: .int (nI nt) :: .ref bTp :: .ref bTt :: .ref bTd :: .ref bHd :: .ref bFn :: .int (nI nr) :: .ref bRp :: .ref bRt :: .ref bRe :: .ref bRh :: .ref bZs :: .ref bZl :: .ref bSc :: .ref bHn :: .int tr :: [])), (bSc, .inl (cI, 240, .inl mSc)), (bRk, .inl (cI, 6, .inl g0)), (bRs, .inl (cZ, 6, .inl g4)), (bRf, .inl (cI, 9, .inl g1)), (bRo, .inl (cI, 9, .inl g2)), (bRl, .inl (cI, 9, .inl g3))] H_46 → va_D zA [(bM, .inr (5, .int (nI fa) :: .int (nI np) :: .ref bKk :: .ref bKs :: .int (nI hm) :: .int (nI nw) :: .ref bWf :: .ref bWt :: .ref bWl :: .int (nI lw) :: .ref bFo :: .int (nI a2) :: .int (nI k) :: .int (nI w) :: .ref bRk :: .ref bRs :: .ref bRf :: .ref bRo :: .ref bRl :: .int (nI nt) :: .ref bTp :: .ref bTt :: .ref bTd :: .ref bHd :: .ref bFn :: .int (nI nr) :: .ref bRp :: .ref bRt :: .ref bRe :: .ref bRh :: .ref bZs :: .ref bZl :: .ref bSc :: .ref bHn :: .int tr :: [])), (bSc, .inl (cI, 240, .inl mSc)), (bRk, .inl (cI, 6, .inl g0)), (bRs, .inl (cZ, 6, .inl g4)), (bRf, .inl (cI, 9, .inl g1)), (bRo, .inl (cI, 9, .inl g2)), (bRl, .inl (cI, 9, .inl g3))] → va_S zA zs.heap H_46 locs → ∀ (ls : Array Slot), lv_has ls 4 [(0, .ref bM), (1, .int (nI fr)), (2, .int (nI n)), (3, .int (kb b2))] → W zp zl ze ({ frames := 3, cells := 0, slots := 0, locals := 76 } : Room) zs zm za zb zt zc H_46 locs 0 0 zQ (F0 zm 91 ls []) := by
            intro n91
            induction n91 with
            | zero => intro b2 w a2 g1 g2 g3 hJ hme; exact absurd hme (Nat.not_lt_zero _)
            | succ n91 ih91 =>
              intro b2 w a2 g1 g2 g3 hJ hme H_46 locs hP hD hS ls hl
              refine lv_iload_n hx hb dX5_readsPass_91 rfl (lv_at hl 3 rfl) ?_
              refine k_if_eqb (tgt := 113) hx hb dX5_readsPass_92 (by decide) (fun c92 => ?_) (fun c92 => ?_)
              · refine lv_iload_n hx hb dX5_readsPass_113 rfl (lv_at hl 3 rfl) ?_
                refine hret 114 _ b2 (g0, g4, g1, g2, g3, a2, k, w) _ _ dX5_readsPass_114 hS (fun t ht _ => by rw [ht]; exact hP) ?_
                have hJ2 := hJ.2.1
                rw [if_neg (by rw [c92]; decide)] at hJ2
                have hz : pFlt (kcode mSc fr n) n ≠ 999 := by omega
                refine ⟨?_, ?_⟩
                · rw [c92, decide_eq_false hz]
                · unfold rdPost; rw [if_neg hz]; exact hJ2.1.symm
              · subst c92
                have hJ2 := hJ.2.1
                rw [if_pos rfl] at hJ2
                obtain ⟨ea2, hJ3⟩ := hJ2
                subst ea2
                have hw9 := hJ.1
                have hK1 := hJ3.2.2.2.2.2.1
                have hK6 := hJ3.2.2.2.2.2.2
                refine lv_aload_n hx hb dX5_readsPass_95 rfl (lv_at hl 0 rfl) ?_
                refine va_get (D := (dC, dI)) (ci := 5) (v := .int (nI (1 + 2 * k + 4 * w))) (C := RX5) (T := TX5) (N := 35) hx hb hts hinX5 hown hK hP 0 rfl rfl 11 (by decide) lk104 (fun _ h9 => h9) rfl dX5_readsPass_96 ?_
                refine lv_iload_n hx hb dX5_readsPass_99 rfl (lv_at hl 2 rfl) ?_
                refine k_icmp_ge (tgt := 113) hx hb dX5_readsPass_100 (by decide) (by omega) (by omega) (fun c100 => ?_) (fun c100 => ?_)
                · refine lv_iload_n hx hb dX5_readsPass_113 rfl (lv_at hl 3 rfl) ?_
                  refine hret 114 _ true (g0, g4, g1, g2, g3, 1 + 2 * k + 4 * w, k, w) _ _ dX5_readsPass_114 hS (fun t ht _ => by rw [ht]; exact hP) ?_
                  have hx := WI_end hJ c100
                  refine ⟨by rw [decide_eq_true hx.1], ?_⟩
                  unfold rdPost; rw [if_pos hx.1]
                  exact ⟨hx.2.1, hx.2.2, hI.2.2.1, hI.2.2.2, hJ.2.2.1, hJ.2.2.2.1, hJ.2.2.2.2⟩
                · refine lv_aload_n hx hb dX5_readsPass_103 rfl (lv_at hl 0 rfl) ?_
                  refine lv_iload_n hx hb dX5_readsPass_104 rfl (lv_at hl 1 rfl) ?_
                  refine lv_iload_n hx hb dX5_readsPass_105 rfl (lv_at hl 2 rfl) ?_
                  refine kc_i (wr := [(bRk, .inl (cI, 6, .inl g0)), (bRs, .inl (cZ, 6, .inl g4))]) (va_runV (As := [.int (nI fr), .int (nI n)]) (rest := []) ⟨hx, hb, hml, hown, hts⟩ (kX5_readsWay bM fa np bKk bKs hm nw bWf bWt bWl lw bFo bRk bRs bRf bRo bRl nt bTp bTt bTd bHd bFn nr bRp bRt bRe bRh bZs bZl bSc bHn tr mSc g1 g2 g3 fr n k w hin hK6 (by omega) (by omega)) (cwV 2 hts gX5_readsPass_X5_readsWay rfl rfl rfl hvX5_readsWay ⟨Nat.le_of_ble_eq_true rfl, Nat.le_of_ble_eq_true rfl⟩) (kpreV hN (q := (RX5, TX5, 35)) (ci := 5) hK (hP.sub [0, 1, 4, 5, 6] rfl) (hD.sub [0, 1, 4, 5, 6] (by decide) rfl) 0 rfl rfl) rfl rfl hl.1 rfl (lv_room (Nat.le_of_ble_eq_true rfl)) dX5_readsPass_106 ⟨Nat.zero_le _, Nat.zero_le _⟩) (fun _ => by simp only [List.map]) hP hD hS hA [0, 1, 4, 5, 6] [2, 3] rfl rfl (by decide) (by decide) (by decide) (fun r_47 u_47 H_48 locs hr_47 hP hD hS => ?_)
                  obtain ⟨f_49, f_50, f_51, a_52, w_53⟩ := u_47
                  try dsimp only at hr_47
                  have hP : va_P (dC, dI) vwCl [(bRk, .inl (cI, 6, .inl g0)), (bRs, .inl (cZ, 6, .inl g4)), (bM, .inr (5, .int (nI fa) :: .int (nI np) :: .ref bKk :: .ref bKs :: .int (nI hm) :: .int (nI nw) :: .ref bWf :: .ref bWt :: .ref bWl :: .int (nI lw) :: .ref bFo :: .int (nI a_52) :: .int (nI k) :: .int (nI w_53) :: .ref bRk :: .ref bRs :: .ref bRf :: .ref bRo :: .ref bRl :: .int (nI nt) :: .ref bTp :: .ref bTt :: .ref bTd :: .ref bHd :: .ref bFn :: .int (nI nr) :: .ref bRp :: .ref bRt :: .ref bRe :: .ref bRh :: .ref bZs :: .ref bZl :: .ref bSc :: .ref bHn :: .int tr :: [])), (bSc, .inl (cI, 240, .inl mSc)), (bRf, .inl (cI, 9, .inl f_49)), (bRo, .inl (cI, 9, .inl f_50)), (bRl, .inl (cI, 9, .inl f_51))] H_48 := hP
                  have hD : va_D zA [(bRk, .inl (cI, 6, .inl g0)), (bRs, .inl (cZ, 6, .inl g4)), (bM, .inr (5, .int (nI fa) :: .int (nI np) :: .ref bKk :: .ref bKs :: .int (nI hm) :: .int (nI nw) :: .ref bWf :: .ref bWt :: .ref bWl :: .int (nI lw) :: .ref bFo :: .int (nI a_52) :: .int (nI k) :: .int (nI w_53) :: .ref bRk :: .ref bRs :: .ref bRf :: .ref bRo :: .ref bRl :: .int (nI nt) :: .ref bTp :: .ref bTt :: .ref bTd :: .ref bHd :: .ref bFn :: .int (nI nr) :: .ref bRp :: .ref bRt :: .ref bRe :: .ref bRh :: .ref bZs :: .ref bZl :: .ref bSc :: .ref bHn :: .int tr :: [])), (bSc, .inl (cI, 240, .inl mSc)), (bRf, .inl (cI, 9, .inl f_49)), (bRo, .inl (cI, 9, .inl f_50)), (bRl, .inl (cI, 9, .inl f_51))] := hD
                  have hP := hP.sub (ws' := [(bM, .inr (5, .int (nI fa) :: .int (nI np) :: .ref bKk :: .ref bKs :: .int (nI hm) :: .int (nI nw) :: .ref bWf :: .ref bWt :: .ref bWl :: .int (nI lw) :: .ref bFo :: .int (nI a_52) :: .int (nI k) :: .int (nI w_53) :: .ref bRk :: .ref bRs :: .ref bRf :: .ref bRo :: .ref bRl :: .int (nI nt) :: .ref bTp :: .ref bTt :: .ref bTd :: .ref bHd :: .ref bFn :: .int (nI nr) :: .ref bRp :: .ref bRt :: .ref bRe :: .ref bRh :: .ref bZs :: .ref bZl :: .ref bSc :: .ref bHn :: .int tr :: [])), (bSc, .inl (cI, 240, .inl mSc)), (bRk, .inl (cI, 6, .inl g0)), (bRs, .inl (cZ, 6, .inl g4)), (bRf, .inl (cI, 9, .inl f_49)), (bRo, .inl (cI, 9, .inl f_50)), (bRl, .inl (cI, 9, .inl f_51))]) [2, 3, 0, 1, 4, 5, 6] rfl
                  have hD := hD.sub (ws' := [(bM, .inr (5, .int (nI fa) :: .int (nI np) :: .ref bKk :: .ref bKs :: .int (nI hm) :: .int (nI nw) :: .ref bWf :: .ref bWt :: .ref bWl :: .int (nI lw) :: .ref bFo :: .int (nI a_52) :: .int (nI k) :: .int (nI w_53) :: .ref bRk :: .ref bRs :: .ref bRf :: .ref bRo :: .ref bRl :: .int (nI nt) :: .ref bTp :: .ref bTt :: .ref bTd :: .ref bHd :: .ref bFn :: .int (nI nr) :: .ref bRp :: .ref bRt :: .ref bRe :: .ref bRh :: .ref bZs :: .ref bZl :: .ref bSc :: .ref bHn :: .int tr :: [])), (bSc, .inl (cI, 240, .inl mSc)), (bRk, .inl (cI, 6, .inl g0)), (bRs, .inl (cZ, 6, .inl g4)), (bRf, .inl (cI, 9, .inl f_49)), (bRo, .inl (cI, 9, .inl f_50)), (bRl, .inl (cI, 9, .inl f_51))]) [2, 3, 0, 1, 4, 5, 6] (by decide) rfl
                  obtain ⟨er_47, hr_47⟩ := hr_47
                  have er_47 : r_47 = kb (wGo (kcode mSc fr n) k w) := er_47
                  rw [er_47]
                  refine lv_istore_n (lv' := [(3, .int (kb (wGo (kcode mSc fr n) k w))), (0, .ref bM), (1, .int (nI fr)), (2, .int (nI n))]) hx hb dX5_readsPass_109 rfl hl (by decide) rfl (fun ls hl => ?_)
                  refine lv_goto (tgt := 91) hx hb dX5_readsPass_110 (by decide) ?_
                  exact ih91 (wGo (kcode mSc fr n) k w) w_53 a_52 f_49 f_50 f_51 (by exact WI_step hJ (by unfold wPl; omega) hr_47) (by exact WI_me hr_47 hme hw9) _ _ hP hD hS _ (lv_sub hl [1, 2, 3, 0] rfl)
          exact loop91 ((2 * (9 - 0) + (if b = true then 1 else 0)) + 1) b 0 a mRf mRo mRl (by exact WI_f hI c51) (by exact Nat.lt_succ_self _) _ _ hP hD hS _ (lv_sub hl [0, 1, 2, 3] rfl)
        · subst c51
          have hI2 := hI.2.1
          rw [if_pos rfl] at hI2
          obtain ⟨ea, hI3⟩ := hI2
          subst ea
          have hk6 := hI.1
          refine lv_aload_n hx hb dX5_readsPass_54 rfl (lv_at hl 0 rfl) ?_
          refine va_get (D := (dC, dI)) (ci := 5) (v := .int (nI k)) (C := RX5) (T := TX5) (N := 35) hx hb hts hinX5 hown hK hP 0 rfl rfl 12 (by decide) lk111 (fun _ h9 => h9) rfl dX5_readsPass_55 ?_
          refine lv_iconst (v := nI 2) hx hb dX5_readsPass_58 (by decide) ?_
          refine k_icmp_lt (tgt := 81) hx hb dX5_readsPass_59 (by decide) (by omega) (by omega) (fun c59 => ?_) (fun c59 => ?_)
          · refine lv_aload_n hx hb dX5_readsPass_81 rfl (lv_at hl 0 rfl) ?_
            refine lv_iload_n hx hb dX5_readsPass_82 rfl (lv_at hl 1 rfl) ?_
            refine lv_iload_n hx hb dX5_readsPass_83 rfl (lv_at hl 2 rfl) ?_
            refine kc_i (wr := [(bRf, .inl (cI, 9, .inl mRf)), (bRo, .inl (cI, 9, .inl mRo)), (bRl, .inl (cI, 9, .inl mRl))]) (va_runV (As := [.int (nI fr), .int (nI n)]) (rest := []) ⟨hx, hb, hml, hown, hts⟩ (kX5_readsPerson bM fa np bKk bKs hm nw bWf bWt bWl lw bFo 0 bRk bRs bRf bRo bRl nt bTp bTt bTd bHd bFn nr bRp bRt bRe bRh bZs bZl bSc bHn tr mSc g0 g4 fr n k hin (by omega)) (cwV 2 hts gX5_readsPass_X5_readsPerson rfl rfl rfl hvX5_readsPerson ⟨Nat.le_of_ble_eq_true rfl, Nat.le_of_ble_eq_true rfl⟩) (kpreV hN (q := (RX5, TX5, 35)) (ci := 5) hK (hP.sub [0, 1, 2, 3] rfl) (hD.sub [0, 1, 2, 3] (by decide) rfl) 0 rfl rfl) rfl rfl hl.1 rfl (lv_room (Nat.le_of_ble_eq_true rfl)) dX5_readsPass_84 ⟨Nat.zero_le _, Nat.zero_le _⟩) (fun _ => by simp only [List.map]) hP hD hS hA [0, 1, 2, 3] [4, 5, 6] rfl rfl (by decide) (by decide) (by decide) (fun r_54 u_54 H_55 locs hr_54 hP hD hS => ?_)
            obtain ⟨f_56, f_57, a_58, k_59⟩ := u_54
            try dsimp only at hr_54
            have hP : va_P (dC, dI) vwCl [(bRf, .inl (cI, 9, .inl mRf)), (bRo, .inl (cI, 9, .inl mRo)), (bRl, .inl (cI, 9, .inl mRl)), (bM, .inr (5, .int (nI fa) :: .int (nI np) :: .ref bKk :: .ref bKs :: .int (nI hm) :: .int (nI nw) :: .ref bWf :: .ref bWt :: .ref bWl :: .int (nI lw) :: .ref bFo :: .int (nI a_58) :: .int (nI k_59) :: .int (nI 0) :: .ref bRk :: .ref bRs :: .ref bRf :: .ref bRo :: .ref bRl :: .int (nI nt) :: .ref bTp :: .ref bTt :: .ref bTd :: .ref bHd :: .ref bFn :: .int (nI nr) :: .ref bRp :: .ref bRt :: .ref bRe :: .ref bRh :: .ref bZs :: .ref bZl :: .ref bSc :: .ref bHn :: .int tr :: [])), (bSc, .inl (cI, 240, .inl mSc)), (bRk, .inl (cI, 6, .inl f_56)), (bRs, .inl (cZ, 6, .inl f_57))] H_55 := hP
            have hD : va_D zA [(bRf, .inl (cI, 9, .inl mRf)), (bRo, .inl (cI, 9, .inl mRo)), (bRl, .inl (cI, 9, .inl mRl)), (bM, .inr (5, .int (nI fa) :: .int (nI np) :: .ref bKk :: .ref bKs :: .int (nI hm) :: .int (nI nw) :: .ref bWf :: .ref bWt :: .ref bWl :: .int (nI lw) :: .ref bFo :: .int (nI a_58) :: .int (nI k_59) :: .int (nI 0) :: .ref bRk :: .ref bRs :: .ref bRf :: .ref bRo :: .ref bRl :: .int (nI nt) :: .ref bTp :: .ref bTt :: .ref bTd :: .ref bHd :: .ref bFn :: .int (nI nr) :: .ref bRp :: .ref bRt :: .ref bRe :: .ref bRh :: .ref bZs :: .ref bZl :: .ref bSc :: .ref bHn :: .int tr :: [])), (bSc, .inl (cI, 240, .inl mSc)), (bRk, .inl (cI, 6, .inl f_56)), (bRs, .inl (cZ, 6, .inl f_57))] := hD
            have hP := hP.sub (ws' := [(bM, .inr (5, .int (nI fa) :: .int (nI np) :: .ref bKk :: .ref bKs :: .int (nI hm) :: .int (nI nw) :: .ref bWf :: .ref bWt :: .ref bWl :: .int (nI lw) :: .ref bFo :: .int (nI a_58) :: .int (nI k_59) :: .int (nI 0) :: .ref bRk :: .ref bRs :: .ref bRf :: .ref bRo :: .ref bRl :: .int (nI nt) :: .ref bTp :: .ref bTt :: .ref bTd :: .ref bHd :: .ref bFn :: .int (nI nr) :: .ref bRp :: .ref bRt :: .ref bRe :: .ref bRh :: .ref bZs :: .ref bZl :: .ref bSc :: .ref bHn :: .int tr :: [])), (bSc, .inl (cI, 240, .inl mSc)), (bRk, .inl (cI, 6, .inl f_56)), (bRs, .inl (cZ, 6, .inl f_57)), (bRf, .inl (cI, 9, .inl mRf)), (bRo, .inl (cI, 9, .inl mRo)), (bRl, .inl (cI, 9, .inl mRl))]) [3, 4, 5, 6, 0, 1, 2] rfl
            have hD := hD.sub (ws' := [(bM, .inr (5, .int (nI fa) :: .int (nI np) :: .ref bKk :: .ref bKs :: .int (nI hm) :: .int (nI nw) :: .ref bWf :: .ref bWt :: .ref bWl :: .int (nI lw) :: .ref bFo :: .int (nI a_58) :: .int (nI k_59) :: .int (nI 0) :: .ref bRk :: .ref bRs :: .ref bRf :: .ref bRo :: .ref bRl :: .int (nI nt) :: .ref bTp :: .ref bTt :: .ref bTd :: .ref bHd :: .ref bFn :: .int (nI nr) :: .ref bRp :: .ref bRt :: .ref bRe :: .ref bRh :: .ref bZs :: .ref bZl :: .ref bSc :: .ref bHn :: .int tr :: [])), (bSc, .inl (cI, 240, .inl mSc)), (bRk, .inl (cI, 6, .inl f_56)), (bRs, .inl (cZ, 6, .inl f_57)), (bRf, .inl (cI, 9, .inl mRf)), (bRo, .inl (cI, 9, .inl mRo)), (bRl, .inl (cI, 9, .inl mRl))]) [3, 4, 5, 6, 0, 1, 2] (by decide) rfl
            obtain ⟨er_54, hr_54⟩ := hr_54
            have er_54 : r_54 = kb (pGo (kcode mSc fr n) k) := er_54
            rw [er_54]
            refine lv_istore_n (lv' := [(3, .int (kb (pGo (kcode mSc fr n) k))), (0, .ref bM), (1, .int (nI fr)), (2, .int (nI n))]) hx hb dX5_readsPass_87 rfl hl (by decide) rfl (fun ls hl => ?_)
            refine lv_goto (tgt := 50) hx hb dX5_readsPass_88 (by decide) ?_
            exact ih50 (pGo (kcode mSc fr n) k) k_59 a_58 f_56 f_57 (by exact PI_step hI (Or.inl c59) hr_54) (by exact PI_me hr_54 hme hk6) _ _ hP hD hS _ (lv_sub hl [1, 2, 3, 0] rfl)
          · refine lv_aload_n hx hb dX5_readsPass_62 rfl (lv_at hl 0 rfl) ?_
            refine va_get (D := (dC, dI)) (ci := 5) (v := .int (nI (1 + 2 * k))) (C := RX5) (T := TX5) (N := 35) hx hb hts hinX5 hown hK hP 0 rfl rfl 11 (by decide) lk104 (fun _ h9 => h9) rfl dX5_readsPass_63 ?_
            refine lv_iload_n hx hb dX5_readsPass_66 rfl (lv_at hl 2 rfl) ?_
            refine k_icmp_ge (tgt := 91) hx hb dX5_readsPass_67 (by decide) (by omega) (by omega) (fun c67 => ?_) (fun c67 => ?_)
            · have loop91 : ∀ (n91 : Nat) (b2 : Bool) (w : Nat) (a2 : Nat) (g1 : Nat → Int32) (g2 : Nat → Int32) (g3 : Nat → Int32), (WI (kcode mSc fr n) n b2 k w a2 g1 g2 g3) → (2 * (9 - w) + (if b2 = true then 1 else 0) < n91) → ∀ (H_60 : Heap) (locs : List Loc), va_P (dC, dI) vwCl [(bM, .inr (5, .int (nI fa) :: .int (nI np) :: .ref bKk :: .ref bKs :: .int (nI hm) :: .int (nI nw) :: .ref bWf :: .ref bWt :: .ref bWl :: .int (nI lw) :: .ref bFo :: .int (nI a2) :: .int (nI k) :: .int (nI w) :: .ref bRk :: .ref bRs :: .ref bRf :: .ref bRo :: .ref bRl :: .int (nI nt) :: .ref bTp :: .ref bTt :: .ref bTd :: .ref bHd :: .ref bFn :: .int (nI nr) :: .ref bRp :: .ref bRt :: .ref bRe :: .ref bRh :: .ref bZs :: .ref bZl :: .ref bSc :: .ref bHn :: .int tr :: [])), (bSc, .inl (cI, 240, .inl mSc)), (bRk, .inl (cI, 6, .inl g0)), (bRs, .inl (cZ, 6, .inl g4)), (bRf, .inl (cI, 9, .inl g1)), (bRo, .inl (cI, 9, .inl g2)), (bRl, .inl (cI, 9, .inl g3))] H_60 → va_D zA [(bM, .inr (5, .int (nI fa) :: .int (nI np) :: .ref bKk :: .ref bKs :: .int (nI hm) :: .int (nI nw) :: .ref bWf :: .ref bWt :: .ref bWl :: .int (nI lw) :: .ref bFo :: .int (nI a2) :: .int (nI k) :: .int (nI w) :: .ref bRk :: .ref bRs :: .ref bRf :: .ref bRo :: .ref bRl :: .int (nI nt) :: .ref bTp :: .ref bTt :: .ref bTd :: .ref bHd :: .ref bFn :: .int (nI nr) :: .ref bRp :: .ref bRt :: .ref bRe :: .ref bRh :: .ref bZs :: .ref bZl :: .ref bSc :: .ref bHn :: .int tr :: [])), (bSc, .inl (cI, 240, .inl mSc)), (bRk, .inl (cI, 6, .inl g0)), (bRs, .inl (cZ, 6, .inl g4)), (bRf, .inl (cI, 9, .inl g1)), (bRo, .inl (cI, 9, .inl g2)), (bRl, .inl (cI, 9, .inl g3))] → va_S zA zs.heap H_60 locs → ∀ (ls : Array Slot), lv_has ls 4 [(0, .ref bM), (1, .int (nI fr)), (2, .int (nI n)), (3, .int (kb b2))] → W zp zl ze ({ frames := 3, cells := 0, slots := 0, locals := 76 } : Room) zs zm za zb zt zc H_60 locs 0 0 zQ (F0 zm 91 ls []) := by
                intro n91
                induction n91 with
                | zero => intro b2 w a2 g1 g2 g3 hJ hme; exact absurd hme (Nat.not_lt_zero _)
                | succ n91 ih91 =>
                  intro b2 w a2 g1 g2 g3 hJ hme H_60 locs hP hD hS ls hl
                  refine lv_iload_n hx hb dX5_readsPass_91 rfl (lv_at hl 3 rfl) ?_
                  refine k_if_eqb (tgt := 113) hx hb dX5_readsPass_92 (by decide) (fun c92 => ?_) (fun c92 => ?_)
                  · refine lv_iload_n hx hb dX5_readsPass_113 rfl (lv_at hl 3 rfl) ?_
                    refine hret 114 _ b2 (g0, g4, g1, g2, g3, a2, k, w) _ _ dX5_readsPass_114 hS (fun t ht _ => by rw [ht]; exact hP) ?_
                    have hJ2 := hJ.2.1
                    rw [if_neg (by rw [c92]; decide)] at hJ2
                    have hz : pFlt (kcode mSc fr n) n ≠ 999 := by omega
                    refine ⟨?_, ?_⟩
                    · rw [c92, decide_eq_false hz]
                    · unfold rdPost; rw [if_neg hz]; exact hJ2.1.symm
                  · subst c92
                    have hJ2 := hJ.2.1
                    rw [if_pos rfl] at hJ2
                    obtain ⟨ea2, hJ3⟩ := hJ2
                    subst ea2
                    have hw9 := hJ.1
                    have hK1 := hJ3.2.2.2.2.2.1
                    have hK6 := hJ3.2.2.2.2.2.2
                    refine lv_aload_n hx hb dX5_readsPass_95 rfl (lv_at hl 0 rfl) ?_
                    refine va_get (D := (dC, dI)) (ci := 5) (v := .int (nI (1 + 2 * k + 4 * w))) (C := RX5) (T := TX5) (N := 35) hx hb hts hinX5 hown hK hP 0 rfl rfl 11 (by decide) lk104 (fun _ h9 => h9) rfl dX5_readsPass_96 ?_
                    refine lv_iload_n hx hb dX5_readsPass_99 rfl (lv_at hl 2 rfl) ?_
                    refine k_icmp_ge (tgt := 113) hx hb dX5_readsPass_100 (by decide) (by omega) (by omega) (fun c100 => ?_) (fun c100 => ?_)
                    · refine lv_iload_n hx hb dX5_readsPass_113 rfl (lv_at hl 3 rfl) ?_
                      refine hret 114 _ true (g0, g4, g1, g2, g3, 1 + 2 * k + 4 * w, k, w) _ _ dX5_readsPass_114 hS (fun t ht _ => by rw [ht]; exact hP) ?_
                      have hx := WI_end hJ c100
                      refine ⟨by rw [decide_eq_true hx.1], ?_⟩
                      unfold rdPost; rw [if_pos hx.1]
                      exact ⟨hx.2.1, hx.2.2, hI.2.2.1, hI.2.2.2, hJ.2.2.1, hJ.2.2.2.1, hJ.2.2.2.2⟩
                    · refine lv_aload_n hx hb dX5_readsPass_103 rfl (lv_at hl 0 rfl) ?_
                      refine lv_iload_n hx hb dX5_readsPass_104 rfl (lv_at hl 1 rfl) ?_
                      refine lv_iload_n hx hb dX5_readsPass_105 rfl (lv_at hl 2 rfl) ?_
                      refine kc_i (wr := [(bRk, .inl (cI, 6, .inl g0)), (bRs, .inl (cZ, 6, .inl g4))]) (va_runV (As := [.int (nI fr), .int (nI n)]) (rest := []) ⟨hx, hb, hml, hown, hts⟩ (kX5_readsWay bM fa np bKk bKs hm nw bWf bWt bWl lw bFo bRk bRs bRf bRo bRl nt bTp bTt bTd bHd bFn nr bRp bRt bRe bRh bZs bZl bSc bHn tr mSc g1 g2 g3 fr n k w hin hK6 (by omega) (by omega)) (cwV 2 hts gX5_readsPass_X5_readsWay rfl rfl rfl hvX5_readsWay ⟨Nat.le_of_ble_eq_true rfl, Nat.le_of_ble_eq_true rfl⟩) (kpreV hN (q := (RX5, TX5, 35)) (ci := 5) hK (hP.sub [0, 1, 4, 5, 6] rfl) (hD.sub [0, 1, 4, 5, 6] (by decide) rfl) 0 rfl rfl) rfl rfl hl.1 rfl (lv_room (Nat.le_of_ble_eq_true rfl)) dX5_readsPass_106 ⟨Nat.zero_le _, Nat.zero_le _⟩) (fun _ => by simp only [List.map]) hP hD hS hA [0, 1, 4, 5, 6] [2, 3] rfl rfl (by decide) (by decide) (by decide) (fun r_61 u_61 H_62 locs hr_61 hP hD hS => ?_)
                      obtain ⟨f_63, f_64, f_65, a_66, w_67⟩ := u_61
                      try dsimp only at hr_61
                      have hP : va_P (dC, dI) vwCl [(bRk, .inl (cI, 6, .inl g0)), (bRs, .inl (cZ, 6, .inl g4)), (bM, .inr (5, .int (nI fa) :: .int (nI np) :: .ref bKk :: .ref bKs :: .int (nI hm) :: .int (nI nw) :: .ref bWf :: .ref bWt :: .ref bWl :: .int (nI lw) :: .ref bFo :: .int (nI a_66) :: .int (nI k) :: .int (nI w_67) :: .ref bRk :: .ref bRs :: .ref bRf :: .ref bRo :: .ref bRl :: .int (nI nt) :: .ref bTp :: .ref bTt :: .ref bTd :: .ref bHd :: .ref bFn :: .int (nI nr) :: .ref bRp :: .ref bRt :: .ref bRe :: .ref bRh :: .ref bZs :: .ref bZl :: .ref bSc :: .ref bHn :: .int tr :: [])), (bSc, .inl (cI, 240, .inl mSc)), (bRf, .inl (cI, 9, .inl f_63)), (bRo, .inl (cI, 9, .inl f_64)), (bRl, .inl (cI, 9, .inl f_65))] H_62 := hP
                      have hD : va_D zA [(bRk, .inl (cI, 6, .inl g0)), (bRs, .inl (cZ, 6, .inl g4)), (bM, .inr (5, .int (nI fa) :: .int (nI np) :: .ref bKk :: .ref bKs :: .int (nI hm) :: .int (nI nw) :: .ref bWf :: .ref bWt :: .ref bWl :: .int (nI lw) :: .ref bFo :: .int (nI a_66) :: .int (nI k) :: .int (nI w_67) :: .ref bRk :: .ref bRs :: .ref bRf :: .ref bRo :: .ref bRl :: .int (nI nt) :: .ref bTp :: .ref bTt :: .ref bTd :: .ref bHd :: .ref bFn :: .int (nI nr) :: .ref bRp :: .ref bRt :: .ref bRe :: .ref bRh :: .ref bZs :: .ref bZl :: .ref bSc :: .ref bHn :: .int tr :: [])), (bSc, .inl (cI, 240, .inl mSc)), (bRf, .inl (cI, 9, .inl f_63)), (bRo, .inl (cI, 9, .inl f_64)), (bRl, .inl (cI, 9, .inl f_65))] := hD
                      have hP := hP.sub (ws' := [(bM, .inr (5, .int (nI fa) :: .int (nI np) :: .ref bKk :: .ref bKs :: .int (nI hm) :: .int (nI nw) :: .ref bWf :: .ref bWt :: .ref bWl :: .int (nI lw) :: .ref bFo :: .int (nI a_66) :: .int (nI k) :: .int (nI w_67) :: .ref bRk :: .ref bRs :: .ref bRf :: .ref bRo :: .ref bRl :: .int (nI nt) :: .ref bTp :: .ref bTt :: .ref bTd :: .ref bHd :: .ref bFn :: .int (nI nr) :: .ref bRp :: .ref bRt :: .ref bRe :: .ref bRh :: .ref bZs :: .ref bZl :: .ref bSc :: .ref bHn :: .int tr :: [])), (bSc, .inl (cI, 240, .inl mSc)), (bRk, .inl (cI, 6, .inl g0)), (bRs, .inl (cZ, 6, .inl g4)), (bRf, .inl (cI, 9, .inl f_63)), (bRo, .inl (cI, 9, .inl f_64)), (bRl, .inl (cI, 9, .inl f_65))]) [2, 3, 0, 1, 4, 5, 6] rfl
                      have hD := hD.sub (ws' := [(bM, .inr (5, .int (nI fa) :: .int (nI np) :: .ref bKk :: .ref bKs :: .int (nI hm) :: .int (nI nw) :: .ref bWf :: .ref bWt :: .ref bWl :: .int (nI lw) :: .ref bFo :: .int (nI a_66) :: .int (nI k) :: .int (nI w_67) :: .ref bRk :: .ref bRs :: .ref bRf :: .ref bRo :: .ref bRl :: .int (nI nt) :: .ref bTp :: .ref bTt :: .ref bTd :: .ref bHd :: .ref bFn :: .int (nI nr) :: .ref bRp :: .ref bRt :: .ref bRe :: .ref bRh :: .ref bZs :: .ref bZl :: .ref bSc :: .ref bHn :: .int tr :: [])), (bSc, .inl (cI, 240, .inl mSc)), (bRk, .inl (cI, 6, .inl g0)), (bRs, .inl (cZ, 6, .inl g4)), (bRf, .inl (cI, 9, .inl f_63)), (bRo, .inl (cI, 9, .inl f_64)), (bRl, .inl (cI, 9, .inl f_65))]) [2, 3, 0, 1, 4, 5, 6] (by decide) rfl
                      obtain ⟨er_61, hr_61⟩ := hr_61
                      have er_61 : r_61 = kb (wGo (kcode mSc fr n) k w) := er_61
                      rw [er_61]
                      refine lv_istore_n (lv' := [(3, .int (kb (wGo (kcode mSc fr n) k w))), (0, .ref bM), (1, .int (nI fr)), (2, .int (nI n))]) hx hb dX5_readsPass_109 rfl hl (by decide) rfl (fun ls hl => ?_)
                      refine lv_goto (tgt := 91) hx hb dX5_readsPass_110 (by decide) ?_
                      exact ih91 (wGo (kcode mSc fr n) k w) w_67 a_66 f_63 f_64 f_65 (by exact WI_step hJ (by unfold wPl; omega) hr_61) (by exact WI_me hr_61 hme hw9) _ _ hP hD hS _ (lv_sub hl [1, 2, 3, 0] rfl)
              exact loop91 ((2 * (9 - 0) + (if true = true then 1 else 0)) + 1) true 0 (1 + 2 * k) mRf mRo mRl (by exact PI_end hI (by omega) (Or.inl c67)) (by exact Nat.lt_succ_self _) _ _ hP hD hS _ (lv_sub hl [0, 1, 2, 3] rfl)
            · refine lv_aload_n hx hb dX5_readsPass_70 rfl (lv_at hl 0 rfl) ?_
              refine lv_iload_n hx hb dX5_readsPass_71 rfl (lv_at hl 1 rfl) ?_
              refine lv_iload_n hx hb dX5_readsPass_72 rfl (lv_at hl 2 rfl) ?_
              refine rc_i (va_runV (As := [.int (nI fr), .int (nI n)]) (rest := []) ⟨hx, hb, hml, hown, hts⟩ (kX5_codeAt bM fa np bKk bKs hm nw bWf bWt bWl lw bFo (1 + 2 * k) k 0 bRk bRs bRf bRo bRl nt bTp bTt bTd bHd bFn nr bRp bRt bRe bRh bZs bZl bSc bHn tr mSc fr n hin (by omega)) (cwV 2 hts gX5_readsPass_X5_codeAt rfl rfl rfl hvX5_codeAt ⟨Nat.le_of_ble_eq_true rfl, Nat.le_of_ble_eq_true rfl⟩) (rpreV hN (q := (RX5, TX5, 35)) (ci := 5) hK (hP.sub [0, 1] rfl) 0 rfl rfl) rfl rfl hl.1 rfl (lv_room (Nat.le_of_ble_eq_true rfl)) dX5_readsPass_73 ⟨Nat.zero_le _, Nat.zero_le _⟩) (fun r_68 hr_68 => ?_)
              have hr_68 : r_68 = rc9 (kcode mSc fr n) n (1 + 2 * k) := hr_68
              rw [hr_68]
              refine lv_bipush (v := nI 59) hx hb dX5_readsPass_76 (by decide) ?_
              refine lv_icmp_eq (tgt := 91) hx hb dX5_readsPass_78 (by decide) (fun c78 => ?_) (fun c78 => ?_)
              · have loop91 : ∀ (n91 : Nat) (b2 : Bool) (w : Nat) (a2 : Nat) (g1 : Nat → Int32) (g2 : Nat → Int32) (g3 : Nat → Int32), (WI (kcode mSc fr n) n b2 k w a2 g1 g2 g3) → (2 * (9 - w) + (if b2 = true then 1 else 0) < n91) → ∀ (H_69 : Heap) (locs : List Loc), va_P (dC, dI) vwCl [(bM, .inr (5, .int (nI fa) :: .int (nI np) :: .ref bKk :: .ref bKs :: .int (nI hm) :: .int (nI nw) :: .ref bWf :: .ref bWt :: .ref bWl :: .int (nI lw) :: .ref bFo :: .int (nI a2) :: .int (nI k) :: .int (nI w) :: .ref bRk :: .ref bRs :: .ref bRf :: .ref bRo :: .ref bRl :: .int (nI nt) :: .ref bTp :: .ref bTt :: .ref bTd :: .ref bHd :: .ref bFn :: .int (nI nr) :: .ref bRp :: .ref bRt :: .ref bRe :: .ref bRh :: .ref bZs :: .ref bZl :: .ref bSc :: .ref bHn :: .int tr :: [])), (bSc, .inl (cI, 240, .inl mSc)), (bRk, .inl (cI, 6, .inl g0)), (bRs, .inl (cZ, 6, .inl g4)), (bRf, .inl (cI, 9, .inl g1)), (bRo, .inl (cI, 9, .inl g2)), (bRl, .inl (cI, 9, .inl g3))] H_69 → va_D zA [(bM, .inr (5, .int (nI fa) :: .int (nI np) :: .ref bKk :: .ref bKs :: .int (nI hm) :: .int (nI nw) :: .ref bWf :: .ref bWt :: .ref bWl :: .int (nI lw) :: .ref bFo :: .int (nI a2) :: .int (nI k) :: .int (nI w) :: .ref bRk :: .ref bRs :: .ref bRf :: .ref bRo :: .ref bRl :: .int (nI nt) :: .ref bTp :: .ref bTt :: .ref bTd :: .ref bHd :: .ref bFn :: .int (nI nr) :: .ref bRp :: .ref bRt :: .ref bRe :: .ref bRh :: .ref bZs :: .ref bZl :: .ref bSc :: .ref bHn :: .int tr :: [])), (bSc, .inl (cI, 240, .inl mSc)), (bRk, .inl (cI, 6, .inl g0)), (bRs, .inl (cZ, 6, .inl g4)), (bRf, .inl (cI, 9, .inl g1)), (bRo, .inl (cI, 9, .inl g2)), (bRl, .inl (cI, 9, .inl g3))] → va_S zA zs.heap H_69 locs → ∀ (ls : Array Slot), lv_has ls 4 [(0, .ref bM), (1, .int (nI fr)), (2, .int (nI n)), (3, .int (kb b2))] → W zp zl ze ({ frames := 3, cells := 0, slots := 0, locals := 76 } : Room) zs zm za zb zt zc H_69 locs 0 0 zQ (F0 zm 91 ls []) := by
                  intro n91
                  induction n91 with
                  | zero => intro b2 w a2 g1 g2 g3 hJ hme; exact absurd hme (Nat.not_lt_zero _)
                  | succ n91 ih91 =>
                    intro b2 w a2 g1 g2 g3 hJ hme H_69 locs hP hD hS ls hl
                    refine lv_iload_n hx hb dX5_readsPass_91 rfl (lv_at hl 3 rfl) ?_
                    refine k_if_eqb (tgt := 113) hx hb dX5_readsPass_92 (by decide) (fun c92 => ?_) (fun c92 => ?_)
                    · refine lv_iload_n hx hb dX5_readsPass_113 rfl (lv_at hl 3 rfl) ?_
                      refine hret 114 _ b2 (g0, g4, g1, g2, g3, a2, k, w) _ _ dX5_readsPass_114 hS (fun t ht _ => by rw [ht]; exact hP) ?_
                      have hJ2 := hJ.2.1
                      rw [if_neg (by rw [c92]; decide)] at hJ2
                      have hz : pFlt (kcode mSc fr n) n ≠ 999 := by omega
                      refine ⟨?_, ?_⟩
                      · rw [c92, decide_eq_false hz]
                      · unfold rdPost; rw [if_neg hz]; exact hJ2.1.symm
                    · subst c92
                      have hJ2 := hJ.2.1
                      rw [if_pos rfl] at hJ2
                      obtain ⟨ea2, hJ3⟩ := hJ2
                      subst ea2
                      have hw9 := hJ.1
                      have hK1 := hJ3.2.2.2.2.2.1
                      have hK6 := hJ3.2.2.2.2.2.2
                      refine lv_aload_n hx hb dX5_readsPass_95 rfl (lv_at hl 0 rfl) ?_
                      refine va_get (D := (dC, dI)) (ci := 5) (v := .int (nI (1 + 2 * k + 4 * w))) (C := RX5) (T := TX5) (N := 35) hx hb hts hinX5 hown hK hP 0 rfl rfl 11 (by decide) lk104 (fun _ h9 => h9) rfl dX5_readsPass_96 ?_
                      refine lv_iload_n hx hb dX5_readsPass_99 rfl (lv_at hl 2 rfl) ?_
                      refine k_icmp_ge (tgt := 113) hx hb dX5_readsPass_100 (by decide) (by omega) (by omega) (fun c100 => ?_) (fun c100 => ?_)
                      · refine lv_iload_n hx hb dX5_readsPass_113 rfl (lv_at hl 3 rfl) ?_
                        refine hret 114 _ true (g0, g4, g1, g2, g3, 1 + 2 * k + 4 * w, k, w) _ _ dX5_readsPass_114 hS (fun t ht _ => by rw [ht]; exact hP) ?_
                        have hx := WI_end hJ c100
                        refine ⟨by rw [decide_eq_true hx.1], ?_⟩
                        unfold rdPost; rw [if_pos hx.1]
                        exact ⟨hx.2.1, hx.2.2, hI.2.2.1, hI.2.2.2, hJ.2.2.1, hJ.2.2.2.1, hJ.2.2.2.2⟩
                      · refine lv_aload_n hx hb dX5_readsPass_103 rfl (lv_at hl 0 rfl) ?_
                        refine lv_iload_n hx hb dX5_readsPass_104 rfl (lv_at hl 1 rfl) ?_
                        refine lv_iload_n hx hb dX5_readsPass_105 rfl (lv_at hl 2 rfl) ?_
                        refine kc_i (wr := [(bRk, .inl (cI, 6, .inl g0)), (bRs, .inl (cZ, 6, .inl g4))]) (va_runV (As := [.int (nI fr), .int (nI n)]) (rest := []) ⟨hx, hb, hml, hown, hts⟩ (kX5_readsWay bM fa np bKk bKs hm nw bWf bWt bWl lw bFo bRk bRs bRf bRo bRl nt bTp bTt bTd bHd bFn nr bRp bRt bRe bRh bZs bZl bSc bHn tr mSc g1 g2 g3 fr n k w hin hK6 (by omega) (by omega)) (cwV 2 hts gX5_readsPass_X5_readsWay rfl rfl rfl hvX5_readsWay ⟨Nat.le_of_ble_eq_true rfl, Nat.le_of_ble_eq_true rfl⟩) (kpreV hN (q := (RX5, TX5, 35)) (ci := 5) hK (hP.sub [0, 1, 4, 5, 6] rfl) (hD.sub [0, 1, 4, 5, 6] (by decide) rfl) 0 rfl rfl) rfl rfl hl.1 rfl (lv_room (Nat.le_of_ble_eq_true rfl)) dX5_readsPass_106 ⟨Nat.zero_le _, Nat.zero_le _⟩) (fun _ => by simp only [List.map]) hP hD hS hA [0, 1, 4, 5, 6] [2, 3] rfl rfl (by decide) (by decide) (by decide) (fun r_70 u_70 H_71 locs hr_70 hP hD hS => ?_)
                        obtain ⟨f_72, f_73, f_74, a_75, w_76⟩ := u_70
                        try dsimp only at hr_70
                        have hP : va_P (dC, dI) vwCl [(bRk, .inl (cI, 6, .inl g0)), (bRs, .inl (cZ, 6, .inl g4)), (bM, .inr (5, .int (nI fa) :: .int (nI np) :: .ref bKk :: .ref bKs :: .int (nI hm) :: .int (nI nw) :: .ref bWf :: .ref bWt :: .ref bWl :: .int (nI lw) :: .ref bFo :: .int (nI a_75) :: .int (nI k) :: .int (nI w_76) :: .ref bRk :: .ref bRs :: .ref bRf :: .ref bRo :: .ref bRl :: .int (nI nt) :: .ref bTp :: .ref bTt :: .ref bTd :: .ref bHd :: .ref bFn :: .int (nI nr) :: .ref bRp :: .ref bRt :: .ref bRe :: .ref bRh :: .ref bZs :: .ref bZl :: .ref bSc :: .ref bHn :: .int tr :: [])), (bSc, .inl (cI, 240, .inl mSc)), (bRf, .inl (cI, 9, .inl f_72)), (bRo, .inl (cI, 9, .inl f_73)), (bRl, .inl (cI, 9, .inl f_74))] H_71 := hP
                        have hD : va_D zA [(bRk, .inl (cI, 6, .inl g0)), (bRs, .inl (cZ, 6, .inl g4)), (bM, .inr (5, .int (nI fa) :: .int (nI np) :: .ref bKk :: .ref bKs :: .int (nI hm) :: .int (nI nw) :: .ref bWf :: .ref bWt :: .ref bWl :: .int (nI lw) :: .ref bFo :: .int (nI a_75) :: .int (nI k) :: .int (nI w_76) :: .ref bRk :: .ref bRs :: .ref bRf :: .ref bRo :: .ref bRl :: .int (nI nt) :: .ref bTp :: .ref bTt :: .ref bTd :: .ref bHd :: .ref bFn :: .int (nI nr) :: .ref bRp :: .ref bRt :: .ref bRe :: .ref bRh :: .ref bZs :: .ref bZl :: .ref bSc :: .ref bHn :: .int tr :: [])), (bSc, .inl (cI, 240, .inl mSc)), (bRf, .inl (cI, 9, .inl f_72)), (bRo, .inl (cI, 9, .inl f_73)), (bRl, .inl (cI, 9, .inl f_74))] := hD
                        have hP := hP.sub (ws' := [(bM, .inr (5, .int (nI fa) :: .int (nI np) :: .ref bKk :: .ref bKs :: .int (nI hm) :: .int (nI nw) :: .ref bWf :: .ref bWt :: .ref bWl :: .int (nI lw) :: .ref bFo :: .int (nI a_75) :: .int (nI k) :: .int (nI w_76) :: .ref bRk :: .ref bRs :: .ref bRf :: .ref bRo :: .ref bRl :: .int (nI nt) :: .ref bTp :: .ref bTt :: .ref bTd :: .ref bHd :: .ref bFn :: .int (nI nr) :: .ref bRp :: .ref bRt :: .ref bRe :: .ref bRh :: .ref bZs :: .ref bZl :: .ref bSc :: .ref bHn :: .int tr :: [])), (bSc, .inl (cI, 240, .inl mSc)), (bRk, .inl (cI, 6, .inl g0)), (bRs, .inl (cZ, 6, .inl g4)), (bRf, .inl (cI, 9, .inl f_72)), (bRo, .inl (cI, 9, .inl f_73)), (bRl, .inl (cI, 9, .inl f_74))]) [2, 3, 0, 1, 4, 5, 6] rfl
                        have hD := hD.sub (ws' := [(bM, .inr (5, .int (nI fa) :: .int (nI np) :: .ref bKk :: .ref bKs :: .int (nI hm) :: .int (nI nw) :: .ref bWf :: .ref bWt :: .ref bWl :: .int (nI lw) :: .ref bFo :: .int (nI a_75) :: .int (nI k) :: .int (nI w_76) :: .ref bRk :: .ref bRs :: .ref bRf :: .ref bRo :: .ref bRl :: .int (nI nt) :: .ref bTp :: .ref bTt :: .ref bTd :: .ref bHd :: .ref bFn :: .int (nI nr) :: .ref bRp :: .ref bRt :: .ref bRe :: .ref bRh :: .ref bZs :: .ref bZl :: .ref bSc :: .ref bHn :: .int tr :: [])), (bSc, .inl (cI, 240, .inl mSc)), (bRk, .inl (cI, 6, .inl g0)), (bRs, .inl (cZ, 6, .inl g4)), (bRf, .inl (cI, 9, .inl f_72)), (bRo, .inl (cI, 9, .inl f_73)), (bRl, .inl (cI, 9, .inl f_74))]) [2, 3, 0, 1, 4, 5, 6] (by decide) rfl
                        obtain ⟨er_70, hr_70⟩ := hr_70
                        have er_70 : r_70 = kb (wGo (kcode mSc fr n) k w) := er_70
                        rw [er_70]
                        refine lv_istore_n (lv' := [(3, .int (kb (wGo (kcode mSc fr n) k w))), (0, .ref bM), (1, .int (nI fr)), (2, .int (nI n))]) hx hb dX5_readsPass_109 rfl hl (by decide) rfl (fun ls hl => ?_)
                        refine lv_goto (tgt := 91) hx hb dX5_readsPass_110 (by decide) ?_
                        exact ih91 (wGo (kcode mSc fr n) k w) w_76 a_75 f_72 f_73 f_74 (by exact WI_step hJ (by unfold wPl; omega) hr_70) (by exact WI_me hr_70 hme hw9) _ _ hP hD hS _ (lv_sub hl [1, 2, 3, 0] rfl)
                exact loop91 ((2 * (9 - 0) + (if true = true then 1 else 0)) + 1) true 0 (1 + 2 * k) mRf mRo mRl (by exact PI_end hI (by omega) (Or.inr ((rc_val (by decide) (by decide)).mp c78))) (by exact Nat.lt_succ_self _) _ _ hP hD hS _ (lv_sub hl [0, 1, 2, 3] rfl)
              · refine lv_aload_n hx hb dX5_readsPass_81 rfl (lv_at hl 0 rfl) ?_
                refine lv_iload_n hx hb dX5_readsPass_82 rfl (lv_at hl 1 rfl) ?_
                refine lv_iload_n hx hb dX5_readsPass_83 rfl (lv_at hl 2 rfl) ?_
                refine kc_i (wr := [(bRf, .inl (cI, 9, .inl mRf)), (bRo, .inl (cI, 9, .inl mRo)), (bRl, .inl (cI, 9, .inl mRl))]) (va_runV (As := [.int (nI fr), .int (nI n)]) (rest := []) ⟨hx, hb, hml, hown, hts⟩ (kX5_readsPerson bM fa np bKk bKs hm nw bWf bWt bWl lw bFo 0 bRk bRs bRf bRo bRl nt bTp bTt bTd bHd bFn nr bRp bRt bRe bRh bZs bZl bSc bHn tr mSc g0 g4 fr n k hin (by omega)) (cwV 2 hts gX5_readsPass_X5_readsPerson rfl rfl rfl hvX5_readsPerson ⟨Nat.le_of_ble_eq_true rfl, Nat.le_of_ble_eq_true rfl⟩) (kpreV hN (q := (RX5, TX5, 35)) (ci := 5) hK (hP.sub [0, 1, 2, 3] rfl) (hD.sub [0, 1, 2, 3] (by decide) rfl) 0 rfl rfl) rfl rfl hl.1 rfl (lv_room (Nat.le_of_ble_eq_true rfl)) dX5_readsPass_84 ⟨Nat.zero_le _, Nat.zero_le _⟩) (fun _ => by simp only [List.map]) hP hD hS hA [0, 1, 2, 3] [4, 5, 6] rfl rfl (by decide) (by decide) (by decide) (fun r_77 u_77 H_78 locs hr_77 hP hD hS => ?_)
                obtain ⟨f_79, f_80, a_81, k_82⟩ := u_77
                try dsimp only at hr_77
                have hP : va_P (dC, dI) vwCl [(bRf, .inl (cI, 9, .inl mRf)), (bRo, .inl (cI, 9, .inl mRo)), (bRl, .inl (cI, 9, .inl mRl)), (bM, .inr (5, .int (nI fa) :: .int (nI np) :: .ref bKk :: .ref bKs :: .int (nI hm) :: .int (nI nw) :: .ref bWf :: .ref bWt :: .ref bWl :: .int (nI lw) :: .ref bFo :: .int (nI a_81) :: .int (nI k_82) :: .int (nI 0) :: .ref bRk :: .ref bRs :: .ref bRf :: .ref bRo :: .ref bRl :: .int (nI nt) :: .ref bTp :: .ref bTt :: .ref bTd :: .ref bHd :: .ref bFn :: .int (nI nr) :: .ref bRp :: .ref bRt :: .ref bRe :: .ref bRh :: .ref bZs :: .ref bZl :: .ref bSc :: .ref bHn :: .int tr :: [])), (bSc, .inl (cI, 240, .inl mSc)), (bRk, .inl (cI, 6, .inl f_79)), (bRs, .inl (cZ, 6, .inl f_80))] H_78 := hP
                have hD : va_D zA [(bRf, .inl (cI, 9, .inl mRf)), (bRo, .inl (cI, 9, .inl mRo)), (bRl, .inl (cI, 9, .inl mRl)), (bM, .inr (5, .int (nI fa) :: .int (nI np) :: .ref bKk :: .ref bKs :: .int (nI hm) :: .int (nI nw) :: .ref bWf :: .ref bWt :: .ref bWl :: .int (nI lw) :: .ref bFo :: .int (nI a_81) :: .int (nI k_82) :: .int (nI 0) :: .ref bRk :: .ref bRs :: .ref bRf :: .ref bRo :: .ref bRl :: .int (nI nt) :: .ref bTp :: .ref bTt :: .ref bTd :: .ref bHd :: .ref bFn :: .int (nI nr) :: .ref bRp :: .ref bRt :: .ref bRe :: .ref bRh :: .ref bZs :: .ref bZl :: .ref bSc :: .ref bHn :: .int tr :: [])), (bSc, .inl (cI, 240, .inl mSc)), (bRk, .inl (cI, 6, .inl f_79)), (bRs, .inl (cZ, 6, .inl f_80))] := hD
                have hP := hP.sub (ws' := [(bM, .inr (5, .int (nI fa) :: .int (nI np) :: .ref bKk :: .ref bKs :: .int (nI hm) :: .int (nI nw) :: .ref bWf :: .ref bWt :: .ref bWl :: .int (nI lw) :: .ref bFo :: .int (nI a_81) :: .int (nI k_82) :: .int (nI 0) :: .ref bRk :: .ref bRs :: .ref bRf :: .ref bRo :: .ref bRl :: .int (nI nt) :: .ref bTp :: .ref bTt :: .ref bTd :: .ref bHd :: .ref bFn :: .int (nI nr) :: .ref bRp :: .ref bRt :: .ref bRe :: .ref bRh :: .ref bZs :: .ref bZl :: .ref bSc :: .ref bHn :: .int tr :: [])), (bSc, .inl (cI, 240, .inl mSc)), (bRk, .inl (cI, 6, .inl f_79)), (bRs, .inl (cZ, 6, .inl f_80)), (bRf, .inl (cI, 9, .inl mRf)), (bRo, .inl (cI, 9, .inl mRo)), (bRl, .inl (cI, 9, .inl mRl))]) [3, 4, 5, 6, 0, 1, 2] rfl
                have hD := hD.sub (ws' := [(bM, .inr (5, .int (nI fa) :: .int (nI np) :: .ref bKk :: .ref bKs :: .int (nI hm) :: .int (nI nw) :: .ref bWf :: .ref bWt :: .ref bWl :: .int (nI lw) :: .ref bFo :: .int (nI a_81) :: .int (nI k_82) :: .int (nI 0) :: .ref bRk :: .ref bRs :: .ref bRf :: .ref bRo :: .ref bRl :: .int (nI nt) :: .ref bTp :: .ref bTt :: .ref bTd :: .ref bHd :: .ref bFn :: .int (nI nr) :: .ref bRp :: .ref bRt :: .ref bRe :: .ref bRh :: .ref bZs :: .ref bZl :: .ref bSc :: .ref bHn :: .int tr :: [])), (bSc, .inl (cI, 240, .inl mSc)), (bRk, .inl (cI, 6, .inl f_79)), (bRs, .inl (cZ, 6, .inl f_80)), (bRf, .inl (cI, 9, .inl mRf)), (bRo, .inl (cI, 9, .inl mRo)), (bRl, .inl (cI, 9, .inl mRl))]) [3, 4, 5, 6, 0, 1, 2] (by decide) rfl
                obtain ⟨er_77, hr_77⟩ := hr_77
                have er_77 : r_77 = kb (pGo (kcode mSc fr n) k) := er_77
                rw [er_77]
                refine lv_istore_n (lv' := [(3, .int (kb (pGo (kcode mSc fr n) k))), (0, .ref bM), (1, .int (nI fr)), (2, .int (nI n))]) hx hb dX5_readsPass_87 rfl hl (by decide) rfl (fun ls hl => ?_)
                refine lv_goto (tgt := 50) hx hb dX5_readsPass_88 (by decide) ?_
                exact ih50 (pGo (kcode mSc fr n) k) k_82 a_81 f_79 f_80 (by exact PI_step hI (Or.inr ⟨by omega, fun z => c78 ((rc_val (by decide) (by decide)).mpr z)⟩) hr_77) (by exact PI_me hr_77 hme hk6) _ _ hP hD hS _ (lv_sub hl [1, 2, 3, 0] rfl)
    exact loop50 ((2 * (6 - 0) + (if true = true then 1 else 0)) + 1) true 0 (0 + 1) mRk mRs (by exact PI_0 (rc_in (by decide) ((rc_val (by decide) (by decide)).mp c23)) ((rc_val (by decide) (by decide)).mp c23)) (by exact Nat.lt_succ_self _) _ _ hP hD hS _ (lv_sub hl [1, 2, 3, 0] rfl)

set_option maxHeartbeats 800000 in
set_option maxRecDepth 100000 in
theorem kX5_isBeyond {zl : Launch} {dC : Nat → ClassId} {dI : Nat → Nat → Nat} {cI cJ cZ cS : ClassId} (i : Int32) (m : Int32) (le : Nat) (hle : le ≤ 60) : Met zl yX5_isBeyond wsX5_isBeyond ({ frames := 0, cells := 0, slots := 0, locals := 0 } : Room) (va_Pc [.int i, .long m.toInt64, .int (nI le)] (rPre (dC, dI) (kT cI cJ cZ cS) [])) (vp_Si (fun r : Int32 => r = kb (!(decide (¬ m < 0) && kcells le i m)))) 0 0 (fun _ => False) := by
  refine kstartR_z (cc := cX5_isBeyond) (maxL := 4) rfl rfl (Nat.le_of_ble_eq_true rfl) ?_
  intro zp ze zs zm zb zt zc za zQ hx hb hml hts hown hN hK hP hret ls hl
  have hl : lv_has ls 4 [(0, .int i), (1, .long m.toInt64), (3, .int (nI le))] := hl
  refine lv_iload_n hx hb dX5_isBeyond_0 rfl (lv_at hl 0 rfl) ?_
  refine lv_if_lt (tgt := 20) hx hb dX5_isBeyond_1 (by decide) (fun c1 => ?_) (fun c1 => ?_)
  · refine lv_iconst (v := nI 1) hx hb dX5_isBeyond_20 (by decide) ?_
    refine lv_goto (tgt := 25) hx hb dX5_isBeyond_21 (by decide) ?_
    refine k_cast (y := kb true) (rfl) ?_
    refine hret 25 _ true dX5_isBeyond_25 ?_
    rw [kcells_0 c1, Bool.and_false]
    rfl
  · refine lv_lload_n hx hb dX5_isBeyond_4 rfl (lv_at hl 1 rfl) ?_
    refine lv_lconst (v := 0) hx hb dX5_isBeyond_5 (by decide) ?_
    refine k_lcmp_lt (tgt := 20) hx hb dX5_isBeyond_6 dX5_isBeyond_7 (by decide) (fun c6 => ?_) (fun c6 => ?_)
    · refine lv_iconst (v := nI 1) hx hb dX5_isBeyond_20 (by decide) ?_
      refine lv_goto (tgt := 25) hx hb dX5_isBeyond_21 (by decide) ?_
      refine k_cast (y := kb true) (rfl) ?_
      refine hret 25 _ true dX5_isBeyond_25 ?_
      rw [decide_eq_false (fun z => z ((in64_m m).mp c6))]
      rfl
    · refine lv_iload_n hx hb dX5_isBeyond_10 rfl (lv_at hl 0 rfl) ?_
      refine lv_i2l hx hb dX5_isBeyond_11 rfl ?_
      refine lv_lload_n hx hb dX5_isBeyond_12 rfl (lv_at hl 1 rfl) ?_
      refine lv_ladd hx hb dX5_isBeyond_13 ?_
      refine lv_iload_n hx hb dX5_isBeyond_14 rfl (lv_at hl 2 rfl) ?_
      refine lv_i2l hx hb dX5_isBeyond_15 rfl ?_
      refine k_lcmp_le (tgt := 24) hx hb dX5_isBeyond_16 dX5_isBeyond_17 (by decide) (fun c16 => ?_) (fun c16 => ?_)
      · refine lv_iconst (v := nI 0) hx hb dX5_isBeyond_24 (by decide) ?_
        refine k_cast (y := kb false) (rfl) ?_
        refine hret 25 _ false dX5_isBeyond_25 ?_
        rw [decide_eq_true (show ¬ m < 0 from fun z => c6 ((in64_m m).mpr z)), (beyond_s hle c1 (show ¬ m < 0 from fun z => c6 ((in64_m m).mpr z))).mp c16]
        rfl
      · refine lv_iconst (v := nI 1) hx hb dX5_isBeyond_20 (by decide) ?_
        refine lv_goto (tgt := 25) hx hb dX5_isBeyond_21 (by decide) ?_
        refine k_cast (y := kb true) (rfl) ?_
        refine hret 25 _ true dX5_isBeyond_25 ?_
        rw [Bool.eq_false_iff.mpr (fun z => c16 ((beyond_s hle c1 (show ¬ m < 0 from fun z => c6 ((in64_m m).mpr z))).mpr z)), Bool.and_false]
        rfl

set_option maxHeartbeats 800000 in
set_option maxRecDepth 100000 in
theorem kX5_cellsBarred {zl : Launch} {dC : Nat → ClassId} {dI : Nat → Nat → Nat} {cI cJ cZ cS : ClassId} {sz : Nat} (bM : Nat) (fa : Nat) (np : Nat) (bKk : Nat) (bKs : Nat) (hm : Nat) (nw : Nat) (bWf : Nat) (bWt : Nat) (bWl : Nat) (lw : Nat) (bFo : Nat) (qa : Nat) (qp_ : Nat) (qw_ : Nat) (bRk : Nat) (bRs : Nat) (bRf : Nat) (bRo : Nat) (bRl : Nat) (nt : Nat) (bTp : Nat) (bTt : Nat) (bTd : Nat) (bHd : Nat) (bFn : Nat) (nr : Nat) (bRp : Nat) (bRt : Nat) (bRe : Nat) (bRh : Nat) (bZs : Nat) (bZl : Nat) (bSc : Nat) (bHn : Nat) (tr : Int32) (mZs : Nat → Int32) (mZl : Nat → Int32) (k : Nat) (z : Int32) (i : Int32) (m : Int32) (La : Nat) (le : Nat) (hk : k < 4) (hz : mZs k = zsz La le) (hla : La < 3 → mZl k = nI La) (hLa : La ≤ 3) (hle : le ≤ 60) : Met zl yX5_cellsBarred wsX5_cellsBarred ({ frames := 1, cells := 0, slots := 0, locals := 23 } : Room) (va_Pc [.ref bM, .int (nI k), .int z, .int i, .long m.toInt64] (kPre (dC, dI) (kT cI cJ cZ cS) [(bM, .inr (5, .int (nI fa) :: .int (nI np) :: .ref bKk :: .ref bKs :: .int (nI hm) :: .int (nI nw) :: .ref bWf :: .ref bWt :: .ref bWl :: .int (nI lw) :: .ref bFo :: .int (nI qa) :: .int (nI qp_) :: .int (nI qw_) :: .ref bRk :: .ref bRs :: .ref bRf :: .ref bRo :: .ref bRl :: .int (nI nt) :: .ref bTp :: .ref bTt :: .ref bTd :: .ref bHd :: .ref bFn :: .int (nI nr) :: .ref bRp :: .ref bRt :: .ref bRe :: .ref bRh :: .ref bZs :: .ref bZl :: .ref bSc :: .ref bHn :: .int tr :: [])), (bZs, .inl (cI, 4, .inl mZs)), (bZl, .inl (cI, 4, .inl mZl))] sz)) (va_Qi (fun (r : Int32) => fun (f1 : Nat) => r = cBar La le z i m ∧ f1 = cBarF La le z i m fa) (fun (f1 : Nat) (zU : State) => va_P (dC, dI) vwCl [(bM, .inr (5, .int (nI f1) :: .int (nI np) :: .ref bKk :: .ref bKs :: .int (nI hm) :: .int (nI nw) :: .ref bWf :: .ref bWt :: .ref bWl :: .int (nI lw) :: .ref bFo :: .int (nI qa) :: .int (nI qp_) :: .int (nI qw_) :: .ref bRk :: .ref bRs :: .ref bRf :: .ref bRo :: .ref bRl :: .int (nI nt) :: .ref bTp :: .ref bTt :: .ref bTd :: .ref bHd :: .ref bFn :: .int (nI nr) :: .ref bRp :: .ref bRt :: .ref bRe :: .ref bRh :: .ref bZs :: .ref bZl :: .ref bSc :: .ref bHn :: .int tr :: [])), (bZs, .inl (cI, 4, .inl mZs)), (bZl, .inl (cI, 4, .inl mZl))] zU.heap) (va_A [(bM, .inr (5, .int (nI fa) :: .int (nI np) :: .ref bKk :: .ref bKs :: .int (nI hm) :: .int (nI nw) :: .ref bWf :: .ref bWt :: .ref bWl :: .int (nI lw) :: .ref bFo :: .int (nI qa) :: .int (nI qp_) :: .int (nI qw_) :: .ref bRk :: .ref bRs :: .ref bRf :: .ref bRo :: .ref bRl :: .int (nI nt) :: .ref bTp :: .ref bTt :: .ref bTd :: .ref bHd :: .ref bFn :: .int (nI nr) :: .ref bRp :: .ref bRt :: .ref bRe :: .ref bRh :: .ref bZs :: .ref bZl :: .ref bSc :: .ref bHn :: .int tr :: [])), (bZs, .inl (cI, 4, .inl mZs)), (bZl, .inl (cI, 4, .inl mZl))] sz)) 0 0 (va_A [(bM, .inr (5, .int (nI fa) :: .int (nI np) :: .ref bKk :: .ref bKs :: .int (nI hm) :: .int (nI nw) :: .ref bWf :: .ref bWt :: .ref bWl :: .int (nI lw) :: .ref bFo :: .int (nI qa) :: .int (nI qp_) :: .int (nI qw_) :: .ref bRk :: .ref bRs :: .ref bRf :: .ref bRo :: .ref bRl :: .int (nI nt) :: .ref bTp :: .ref bTt :: .ref bTd :: .ref bHd :: .ref bFn :: .int (nI nr) :: .ref bRp :: .ref bRt :: .ref bRe :: .ref bRh :: .ref bZs :: .ref bZl :: .ref bSc :: .ref bHn :: .int tr :: [])), (bZs, .inl (cI, 4, .inl mZs)), (bZl, .inl (cI, 4, .inl mZl))] sz) := by
  refine kstartW_i (cc := cX5_cellsBarred) (maxL := 6) rfl rfl (Nat.le_of_ble_eq_true rfl) ?_
  intro zp ze zs zm zb zt zc za zQ zA hx hb hml hts hown hN hK hP hD hS hA zin hret ls hl
  have hl : lv_has ls 6 [(0, .ref bM), (1, .int (nI k)), (2, .int z), (3, .int i), (4, .long m.toInt64)] := hl
  have hinX5 : ∀ w ∈ wsX50, w ∈ wsX5_cellsBarred := fun _ h => List.mem_cons_of_mem _ (List.mem_append_right _ h)
  have lk71 := hts (.fieldLink RX5 71 "IronRumoursModel" "sheetSize" "[I") (List.mem_of_getElem? (i := 1) rfl)
  have lk74 := hts (.fieldLink RX5 74 "IronRumoursModel" "sheetLane" "[I") (List.mem_of_getElem? (i := 2) rfl)
  refine lv_aload_n hx hb dX5_cellsBarred_0 rfl (lv_at hl 0 rfl) ?_
  refine va_get (D := (dC, dI)) (ci := 5) (v := .ref bZs) (C := RX5) (T := TX5) (N := 35) hx hb hts hinX5 hown hK hP 0 rfl rfl 30 (by decide) lk71 (fun _ h9 => h9) rfl dX5_cellsBarred_1 ?_
  refine lv_iload_n hx hb dX5_cellsBarred_4 rfl (lv_at hl 1 rfl) ?_
  refine k_iald hx hb hK hP 1 0 rfl rfl (n := 4) (v := zsz La le) (by omega) (by decide) (hz) dX5_cellsBarred_5 ?_
  refine lv_if_lt (tgt := 25) hx hb dX5_cellsBarred_6 (by decide) (fun c6 => ?_) (fun c6 => ?_)
  · have h3 := (zsz_lt hle).mp c6
    refine lv_aload_n hx hb dX5_cellsBarred_25 rfl (lv_at hl 0 rfl) ?_
    refine va_get (D := (dC, dI)) (ci := 5) (v := .ref bZs) (C := RX5) (T := TX5) (N := 35) hx hb hts hinX5 hown hK hP 0 rfl rfl 30 (by decide) lk71 (fun _ h9 => h9) rfl dX5_cellsBarred_26 ?_
    refine lv_iload_n hx hb dX5_cellsBarred_29 rfl (lv_at hl 1 rfl) ?_
    refine k_iald hx hb hK hP 1 0 rfl rfl (n := 4) (v := zsz La le) (by omega) (by decide) (hz) dX5_cellsBarred_30 ?_
    refine lv_if_ge (tgt := 40) hx hb dX5_cellsBarred_31 (by decide) (fun c31 => ?_) (fun c31 => ?_)
    · exact absurd h3 ((zsz_ge hle).mp c31)
    · refine lv_aload_n hx hb dX5_cellsBarred_34 rfl (lv_at hl 0 rfl) ?_
      refine lv_iconst (v := nI 1) hx hb dX5_cellsBarred_35 (by decide) ?_
      refine kc_i (wr := [(bZs, .inl (cI, 4, .inl mZs)), (bZl, .inl (cI, 4, .inl mZl))]) (va_runV (As := [.int (nI 1)]) (rest := []) ⟨hx, hb, hml, hown, hts⟩ (kX5_failed bM fa np bKk bKs hm nw bWf bWt bWl lw bFo qa qp_ qw_ bRk bRs bRf bRo bRl nt bTp bTt bTd bHd bFn nr bRp bRt bRe bRh bZs bZl bSc bHn tr 1 ) (cwV 1 hts gX5_cellsBarred_X5_failed rfl rfl rfl hvX5_failed ⟨Nat.le_of_ble_eq_true rfl, Nat.le_of_ble_eq_true rfl⟩) (kpreV hN (q := (RX5, TX5, 35)) (ci := 5) hK (hP.sub [0] rfl) (hD.sub [0] (by decide) rfl) 0 rfl rfl) rfl rfl hl.1 rfl (lv_room (Nat.le_of_ble_eq_true rfl)) dX5_cellsBarred_36 ⟨Nat.zero_le _, Nat.zero_le _⟩) (fun _ => by simp only [List.map]) hP hD hS hA [0] [1, 2] rfl rfl (by decide) (by decide) (by decide) (fun r_1 _ H_2 locs hr_1 hP hD hS => ?_)
      have hP : va_P (dC, dI) vwCl [(bZs, .inl (cI, 4, .inl mZs)), (bZl, .inl (cI, 4, .inl mZl)), (bM, .inr (5, .int (nI 1) :: .int (nI np) :: .ref bKk :: .ref bKs :: .int (nI hm) :: .int (nI nw) :: .ref bWf :: .ref bWt :: .ref bWl :: .int (nI lw) :: .ref bFo :: .int (nI qa) :: .int (nI qp_) :: .int (nI qw_) :: .ref bRk :: .ref bRs :: .ref bRf :: .ref bRo :: .ref bRl :: .int (nI nt) :: .ref bTp :: .ref bTt :: .ref bTd :: .ref bHd :: .ref bFn :: .int (nI nr) :: .ref bRp :: .ref bRt :: .ref bRe :: .ref bRh :: .ref bZs :: .ref bZl :: .ref bSc :: .ref bHn :: .int tr :: []))] H_2 := hP
      have hD : va_D zA [(bZs, .inl (cI, 4, .inl mZs)), (bZl, .inl (cI, 4, .inl mZl)), (bM, .inr (5, .int (nI 1) :: .int (nI np) :: .ref bKk :: .ref bKs :: .int (nI hm) :: .int (nI nw) :: .ref bWf :: .ref bWt :: .ref bWl :: .int (nI lw) :: .ref bFo :: .int (nI qa) :: .int (nI qp_) :: .int (nI qw_) :: .ref bRk :: .ref bRs :: .ref bRf :: .ref bRo :: .ref bRl :: .int (nI nt) :: .ref bTp :: .ref bTt :: .ref bTd :: .ref bHd :: .ref bFn :: .int (nI nr) :: .ref bRp :: .ref bRt :: .ref bRe :: .ref bRh :: .ref bZs :: .ref bZl :: .ref bSc :: .ref bHn :: .int tr :: []))] := hD
      have hP := hP.sub (ws' := [(bM, .inr (5, .int (nI 1) :: .int (nI np) :: .ref bKk :: .ref bKs :: .int (nI hm) :: .int (nI nw) :: .ref bWf :: .ref bWt :: .ref bWl :: .int (nI lw) :: .ref bFo :: .int (nI qa) :: .int (nI qp_) :: .int (nI qw_) :: .ref bRk :: .ref bRs :: .ref bRf :: .ref bRo :: .ref bRl :: .int (nI nt) :: .ref bTp :: .ref bTt :: .ref bTd :: .ref bHd :: .ref bFn :: .int (nI nr) :: .ref bRp :: .ref bRt :: .ref bRe :: .ref bRh :: .ref bZs :: .ref bZl :: .ref bSc :: .ref bHn :: .int tr :: [])), (bZs, .inl (cI, 4, .inl mZs)), (bZl, .inl (cI, 4, .inl mZl))]) [2, 0, 1] rfl
      have hD := hD.sub (ws' := [(bM, .inr (5, .int (nI 1) :: .int (nI np) :: .ref bKk :: .ref bKs :: .int (nI hm) :: .int (nI nw) :: .ref bWf :: .ref bWt :: .ref bWl :: .int (nI lw) :: .ref bFo :: .int (nI qa) :: .int (nI qp_) :: .int (nI qw_) :: .ref bRk :: .ref bRs :: .ref bRf :: .ref bRo :: .ref bRl :: .int (nI nt) :: .ref bTp :: .ref bTt :: .ref bTd :: .ref bHd :: .ref bFn :: .int (nI nr) :: .ref bRp :: .ref bRt :: .ref bRe :: .ref bRh :: .ref bZs :: .ref bZl :: .ref bSc :: .ref bHn :: .int tr :: [])), (bZs, .inl (cI, 4, .inl mZs)), (bZl, .inl (cI, 4, .inl mZl))]) [2, 0, 1] (by decide) rfl
      have hr_1 : r_1 = (-10) - nI 1 := hr_1
      rw [hr_1]
      refine hret 39 _ ((-10) - nI 1) 1 _ _ dX5_cellsBarred_39 hS (fun t ht _ => by rw [ht]; exact hP) ?_
      exact cBar_f (kfc_3 h3) (by decide)
  · have h3 : La < 3 := by have := (not_congr (zsz_lt (La := La) hle)).mp c6; omega
    refine lv_aload_n hx hb dX5_cellsBarred_9 rfl (lv_at hl 0 rfl) ?_
    refine va_get (D := (dC, dI)) (ci := 5) (v := .ref bZl) (C := RX5) (T := TX5) (N := 35) hx hb hts hinX5 hown hK hP 0 rfl rfl 31 (by decide) lk74 (fun _ h9 => h9) rfl dX5_cellsBarred_10 ?_
    refine lv_iload_n hx hb dX5_cellsBarred_13 rfl (lv_at hl 1 rfl) ?_
    refine k_iald hx hb hK hP 2 0 rfl rfl (n := 4) (v := nI La) (by omega) (by decide) (hla h3) dX5_cellsBarred_14 ?_
    refine lv_iload_n hx hb dX5_cellsBarred_15 rfl (lv_at hl 2 rfl) ?_
    refine lv_icmp_eq (tgt := 25) hx hb dX5_cellsBarred_16 (by decide) (fun c16 => ?_) (fun c16 => ?_)
    · refine lv_aload_n hx hb dX5_cellsBarred_25 rfl (lv_at hl 0 rfl) ?_
      refine va_get (D := (dC, dI)) (ci := 5) (v := .ref bZs) (C := RX5) (T := TX5) (N := 35) hx hb hts hinX5 hown hK hP 0 rfl rfl 30 (by decide) lk71 (fun _ h9 => h9) rfl dX5_cellsBarred_26 ?_
      refine lv_iload_n hx hb dX5_cellsBarred_29 rfl (lv_at hl 1 rfl) ?_
      refine k_iald hx hb hK hP 1 0 rfl rfl (n := 4) (v := zsz La le) (by omega) (by decide) (hz) dX5_cellsBarred_30 ?_
      refine lv_if_ge (tgt := 40) hx hb dX5_cellsBarred_31 (by decide) (fun c31 => ?_) (fun c31 => ?_)
      · refine lv_lload hx hb dX5_cellsBarred_40 (lv_at hl 4 rfl) ?_
        refine lv_lconst (v := 0) hx hb dX5_cellsBarred_42 (by decide) ?_
        refine k_lcmp_ge (tgt := 53) hx hb dX5_cellsBarred_43 dX5_cellsBarred_44 (by decide) (fun c43 => ?_) (fun c43 => ?_)
        · have hmz := (in64_m0 m).mp c43
          refine lv_iload_n hx hb dX5_cellsBarred_53 rfl (lv_at hl 3 rfl) ?_
          refine lv_lload hx hb dX5_cellsBarred_54 (lv_at hl 4 rfl) ?_
          refine lv_aload_n hx hb dX5_cellsBarred_56 rfl (lv_at hl 0 rfl) ?_
          refine va_get (D := (dC, dI)) (ci := 5) (v := .ref bZs) (C := RX5) (T := TX5) (N := 35) hx hb hts hinX5 hown hK hP 0 rfl rfl 30 (by decide) lk71 (fun _ h9 => h9) rfl dX5_cellsBarred_57 ?_
          refine lv_iload_n hx hb dX5_cellsBarred_60 rfl (lv_at hl 1 rfl) ?_
          refine k_iald hx hb hK hP 1 0 rfl rfl (n := 4) (v := nI le) (by omega) (by decide) (hz.trans (zsz_n (by omega))) dX5_cellsBarred_61 ?_
          refine rc_i (va_runS (As := [.int i, .long m.toInt64, .int (nI le)]) (rest := []) ⟨hx, hb, hml, hown, hts⟩ (kX5_isBeyond i m le hle) (va_cwS 3 hts gX5_cellsBarred_X5_isBeyond rfl rfl rfl hvX5_isBeyond ⟨Nat.le_of_ble_eq_true rfl, Nat.le_of_ble_eq_true rfl⟩) (rpreS hN hK (hP.sub [] rfl)) rfl rfl hl.1 rfl (lv_room (Nat.le_of_ble_eq_true rfl)) dX5_cellsBarred_62 ⟨Nat.zero_le _, Nat.zero_le _⟩) (fun r_3 hr_3 => ?_)
          have hr_3 : r_3 = kb (!(decide (¬ m < 0) && kcells le i m)) := hr_3
          rw [hr_3]
          refine k_if_eqb (tgt := 76) hx hb dX5_cellsBarred_65 (by decide) (fun c65 => ?_) (fun c65 => ?_)
          · refine lv_iconst (v := nI 0) hx hb dX5_cellsBarred_76 (by decide) ?_
            refine hret 77 _ (nI 0) fa _ _ dX5_cellsBarred_77 hS (fun t ht _ => by rw [ht]; exact hP) ?_
            have hk0 := kfc_c (le := le) (i := i) h3 c16 hmz
            have hq : kcells le i m = true := by rw [decide_eq_true hmz, Bool.true_and] at c65; simpa using c65
            rw [if_pos hq] at hk0
            exact cBar_0 hk0
          · refine lv_aload_n hx hb dX5_cellsBarred_68 rfl (lv_at hl 0 rfl) ?_
            refine lv_iconst (v := nI 3) hx hb dX5_cellsBarred_69 (by decide) ?_
            refine kc_i (wr := [(bZs, .inl (cI, 4, .inl mZs)), (bZl, .inl (cI, 4, .inl mZl))]) (va_runV (As := [.int (nI 3)]) (rest := []) ⟨hx, hb, hml, hown, hts⟩ (kX5_failed bM fa np bKk bKs hm nw bWf bWt bWl lw bFo qa qp_ qw_ bRk bRs bRf bRo bRl nt bTp bTt bTd bHd bFn nr bRp bRt bRe bRh bZs bZl bSc bHn tr 3 ) (cwV 1 hts gX5_cellsBarred_X5_failed rfl rfl rfl hvX5_failed ⟨Nat.le_of_ble_eq_true rfl, Nat.le_of_ble_eq_true rfl⟩) (kpreV hN (q := (RX5, TX5, 35)) (ci := 5) hK (hP.sub [0] rfl) (hD.sub [0] (by decide) rfl) 0 rfl rfl) rfl rfl hl.1 rfl (lv_room (Nat.le_of_ble_eq_true rfl)) dX5_cellsBarred_70 ⟨Nat.zero_le _, Nat.zero_le _⟩) (fun _ => by simp only [List.map]) hP hD hS hA [0] [1, 2] rfl rfl (by decide) (by decide) (by decide) (fun r_4 _ H_5 locs hr_4 hP hD hS => ?_)
            have hP : va_P (dC, dI) vwCl [(bZs, .inl (cI, 4, .inl mZs)), (bZl, .inl (cI, 4, .inl mZl)), (bM, .inr (5, .int (nI 3) :: .int (nI np) :: .ref bKk :: .ref bKs :: .int (nI hm) :: .int (nI nw) :: .ref bWf :: .ref bWt :: .ref bWl :: .int (nI lw) :: .ref bFo :: .int (nI qa) :: .int (nI qp_) :: .int (nI qw_) :: .ref bRk :: .ref bRs :: .ref bRf :: .ref bRo :: .ref bRl :: .int (nI nt) :: .ref bTp :: .ref bTt :: .ref bTd :: .ref bHd :: .ref bFn :: .int (nI nr) :: .ref bRp :: .ref bRt :: .ref bRe :: .ref bRh :: .ref bZs :: .ref bZl :: .ref bSc :: .ref bHn :: .int tr :: []))] H_5 := hP
            have hD : va_D zA [(bZs, .inl (cI, 4, .inl mZs)), (bZl, .inl (cI, 4, .inl mZl)), (bM, .inr (5, .int (nI 3) :: .int (nI np) :: .ref bKk :: .ref bKs :: .int (nI hm) :: .int (nI nw) :: .ref bWf :: .ref bWt :: .ref bWl :: .int (nI lw) :: .ref bFo :: .int (nI qa) :: .int (nI qp_) :: .int (nI qw_) :: .ref bRk :: .ref bRs :: .ref bRf :: .ref bRo :: .ref bRl :: .int (nI nt) :: .ref bTp :: .ref bTt :: .ref bTd :: .ref bHd :: .ref bFn :: .int (nI nr) :: .ref bRp :: .ref bRt :: .ref bRe :: .ref bRh :: .ref bZs :: .ref bZl :: .ref bSc :: .ref bHn :: .int tr :: []))] := hD
            have hP := hP.sub (ws' := [(bM, .inr (5, .int (nI 3) :: .int (nI np) :: .ref bKk :: .ref bKs :: .int (nI hm) :: .int (nI nw) :: .ref bWf :: .ref bWt :: .ref bWl :: .int (nI lw) :: .ref bFo :: .int (nI qa) :: .int (nI qp_) :: .int (nI qw_) :: .ref bRk :: .ref bRs :: .ref bRf :: .ref bRo :: .ref bRl :: .int (nI nt) :: .ref bTp :: .ref bTt :: .ref bTd :: .ref bHd :: .ref bFn :: .int (nI nr) :: .ref bRp :: .ref bRt :: .ref bRe :: .ref bRh :: .ref bZs :: .ref bZl :: .ref bSc :: .ref bHn :: .int tr :: [])), (bZs, .inl (cI, 4, .inl mZs)), (bZl, .inl (cI, 4, .inl mZl))]) [2, 0, 1] rfl
            have hD := hD.sub (ws' := [(bM, .inr (5, .int (nI 3) :: .int (nI np) :: .ref bKk :: .ref bKs :: .int (nI hm) :: .int (nI nw) :: .ref bWf :: .ref bWt :: .ref bWl :: .int (nI lw) :: .ref bFo :: .int (nI qa) :: .int (nI qp_) :: .int (nI qw_) :: .ref bRk :: .ref bRs :: .ref bRf :: .ref bRo :: .ref bRl :: .int (nI nt) :: .ref bTp :: .ref bTt :: .ref bTd :: .ref bHd :: .ref bFn :: .int (nI nr) :: .ref bRp :: .ref bRt :: .ref bRe :: .ref bRh :: .ref bZs :: .ref bZl :: .ref bSc :: .ref bHn :: .int tr :: [])), (bZs, .inl (cI, 4, .inl mZs)), (bZl, .inl (cI, 4, .inl mZl))]) [2, 0, 1] (by decide) rfl
            have hr_4 : r_4 = (-10) - nI 3 := hr_4
            rw [hr_4]
            refine lv_goto (tgt := 77) hx hb dX5_cellsBarred_73 (by decide) ?_
            refine hret 77 _ ((-10) - nI 3) 3 _ _ dX5_cellsBarred_77 hS (fun t ht _ => by rw [ht]; exact hP) ?_
            have hk0 := kfc_c (le := le) (i := i) h3 c16 hmz
            have hq : kcells le i m = false := by rw [decide_eq_true hmz, Bool.true_and] at c65; simpa using c65
            rw [hq, if_neg (by decide)] at hk0
            exact cBar_f hk0 (by decide)
        · have hmz : m < 0 := Decidable.not_not.mp ((not_congr (in64_m0 m)).mp c43)
          refine lv_aload_n hx hb dX5_cellsBarred_47 rfl (lv_at hl 0 rfl) ?_
          refine lv_iconst (v := nI 4) hx hb dX5_cellsBarred_48 (by decide) ?_
          refine kc_i (wr := [(bZs, .inl (cI, 4, .inl mZs)), (bZl, .inl (cI, 4, .inl mZl))]) (va_runV (As := [.int (nI 4)]) (rest := []) ⟨hx, hb, hml, hown, hts⟩ (kX5_failed bM fa np bKk bKs hm nw bWf bWt bWl lw bFo qa qp_ qw_ bRk bRs bRf bRo bRl nt bTp bTt bTd bHd bFn nr bRp bRt bRe bRh bZs bZl bSc bHn tr 4 ) (cwV 1 hts gX5_cellsBarred_X5_failed rfl rfl rfl hvX5_failed ⟨Nat.le_of_ble_eq_true rfl, Nat.le_of_ble_eq_true rfl⟩) (kpreV hN (q := (RX5, TX5, 35)) (ci := 5) hK (hP.sub [0] rfl) (hD.sub [0] (by decide) rfl) 0 rfl rfl) rfl rfl hl.1 rfl (lv_room (Nat.le_of_ble_eq_true rfl)) dX5_cellsBarred_49 ⟨Nat.zero_le _, Nat.zero_le _⟩) (fun _ => by simp only [List.map]) hP hD hS hA [0] [1, 2] rfl rfl (by decide) (by decide) (by decide) (fun r_6 _ H_7 locs hr_6 hP hD hS => ?_)
          have hP : va_P (dC, dI) vwCl [(bZs, .inl (cI, 4, .inl mZs)), (bZl, .inl (cI, 4, .inl mZl)), (bM, .inr (5, .int (nI 4) :: .int (nI np) :: .ref bKk :: .ref bKs :: .int (nI hm) :: .int (nI nw) :: .ref bWf :: .ref bWt :: .ref bWl :: .int (nI lw) :: .ref bFo :: .int (nI qa) :: .int (nI qp_) :: .int (nI qw_) :: .ref bRk :: .ref bRs :: .ref bRf :: .ref bRo :: .ref bRl :: .int (nI nt) :: .ref bTp :: .ref bTt :: .ref bTd :: .ref bHd :: .ref bFn :: .int (nI nr) :: .ref bRp :: .ref bRt :: .ref bRe :: .ref bRh :: .ref bZs :: .ref bZl :: .ref bSc :: .ref bHn :: .int tr :: []))] H_7 := hP
          have hD : va_D zA [(bZs, .inl (cI, 4, .inl mZs)), (bZl, .inl (cI, 4, .inl mZl)), (bM, .inr (5, .int (nI 4) :: .int (nI np) :: .ref bKk :: .ref bKs :: .int (nI hm) :: .int (nI nw) :: .ref bWf :: .ref bWt :: .ref bWl :: .int (nI lw) :: .ref bFo :: .int (nI qa) :: .int (nI qp_) :: .int (nI qw_) :: .ref bRk :: .ref bRs :: .ref bRf :: .ref bRo :: .ref bRl :: .int (nI nt) :: .ref bTp :: .ref bTt :: .ref bTd :: .ref bHd :: .ref bFn :: .int (nI nr) :: .ref bRp :: .ref bRt :: .ref bRe :: .ref bRh :: .ref bZs :: .ref bZl :: .ref bSc :: .ref bHn :: .int tr :: []))] := hD
          have hP := hP.sub (ws' := [(bM, .inr (5, .int (nI 4) :: .int (nI np) :: .ref bKk :: .ref bKs :: .int (nI hm) :: .int (nI nw) :: .ref bWf :: .ref bWt :: .ref bWl :: .int (nI lw) :: .ref bFo :: .int (nI qa) :: .int (nI qp_) :: .int (nI qw_) :: .ref bRk :: .ref bRs :: .ref bRf :: .ref bRo :: .ref bRl :: .int (nI nt) :: .ref bTp :: .ref bTt :: .ref bTd :: .ref bHd :: .ref bFn :: .int (nI nr) :: .ref bRp :: .ref bRt :: .ref bRe :: .ref bRh :: .ref bZs :: .ref bZl :: .ref bSc :: .ref bHn :: .int tr :: [])), (bZs, .inl (cI, 4, .inl mZs)), (bZl, .inl (cI, 4, .inl mZl))]) [2, 0, 1] rfl
          have hD := hD.sub (ws' := [(bM, .inr (5, .int (nI 4) :: .int (nI np) :: .ref bKk :: .ref bKs :: .int (nI hm) :: .int (nI nw) :: .ref bWf :: .ref bWt :: .ref bWl :: .int (nI lw) :: .ref bFo :: .int (nI qa) :: .int (nI qp_) :: .int (nI qw_) :: .ref bRk :: .ref bRs :: .ref bRf :: .ref bRo :: .ref bRl :: .int (nI nt) :: .ref bTp :: .ref bTt :: .ref bTd :: .ref bHd :: .ref bFn :: .int (nI nr) :: .ref bRp :: .ref bRt :: .ref bRe :: .ref bRh :: .ref bZs :: .ref bZl :: .ref bSc :: .ref bHn :: .int tr :: [])), (bZs, .inl (cI, 4, .inl mZs)), (bZl, .inl (cI, 4, .inl mZl))]) [2, 0, 1] (by decide) rfl
          have hr_6 : r_6 = (-10) - nI 4 := hr_6
          rw [hr_6]
          refine hret 52 _ ((-10) - nI 4) 4 _ _ dX5_cellsBarred_52 hS (fun t ht _ => by rw [ht]; exact hP) ?_
          exact cBar_f (kfc_4 h3 c16 hmz) (by decide)
      · exact absurd ((zsz_ge hle).mpr (by omega)) c31
    · refine lv_aload_n hx hb dX5_cellsBarred_19 rfl (lv_at hl 0 rfl) ?_
      refine lv_iconst (v := nI 2) hx hb dX5_cellsBarred_20 (by decide) ?_
      refine kc_i (wr := [(bZs, .inl (cI, 4, .inl mZs)), (bZl, .inl (cI, 4, .inl mZl))]) (va_runV (As := [.int (nI 2)]) (rest := []) ⟨hx, hb, hml, hown, hts⟩ (kX5_failed bM fa np bKk bKs hm nw bWf bWt bWl lw bFo qa qp_ qw_ bRk bRs bRf bRo bRl nt bTp bTt bTd bHd bFn nr bRp bRt bRe bRh bZs bZl bSc bHn tr 2 ) (cwV 1 hts gX5_cellsBarred_X5_failed rfl rfl rfl hvX5_failed ⟨Nat.le_of_ble_eq_true rfl, Nat.le_of_ble_eq_true rfl⟩) (kpreV hN (q := (RX5, TX5, 35)) (ci := 5) hK (hP.sub [0] rfl) (hD.sub [0] (by decide) rfl) 0 rfl rfl) rfl rfl hl.1 rfl (lv_room (Nat.le_of_ble_eq_true rfl)) dX5_cellsBarred_21 ⟨Nat.zero_le _, Nat.zero_le _⟩) (fun _ => by simp only [List.map]) hP hD hS hA [0] [1, 2] rfl rfl (by decide) (by decide) (by decide) (fun r_8 _ H_9 locs hr_8 hP hD hS => ?_)
      have hP : va_P (dC, dI) vwCl [(bZs, .inl (cI, 4, .inl mZs)), (bZl, .inl (cI, 4, .inl mZl)), (bM, .inr (5, .int (nI 2) :: .int (nI np) :: .ref bKk :: .ref bKs :: .int (nI hm) :: .int (nI nw) :: .ref bWf :: .ref bWt :: .ref bWl :: .int (nI lw) :: .ref bFo :: .int (nI qa) :: .int (nI qp_) :: .int (nI qw_) :: .ref bRk :: .ref bRs :: .ref bRf :: .ref bRo :: .ref bRl :: .int (nI nt) :: .ref bTp :: .ref bTt :: .ref bTd :: .ref bHd :: .ref bFn :: .int (nI nr) :: .ref bRp :: .ref bRt :: .ref bRe :: .ref bRh :: .ref bZs :: .ref bZl :: .ref bSc :: .ref bHn :: .int tr :: []))] H_9 := hP
      have hD : va_D zA [(bZs, .inl (cI, 4, .inl mZs)), (bZl, .inl (cI, 4, .inl mZl)), (bM, .inr (5, .int (nI 2) :: .int (nI np) :: .ref bKk :: .ref bKs :: .int (nI hm) :: .int (nI nw) :: .ref bWf :: .ref bWt :: .ref bWl :: .int (nI lw) :: .ref bFo :: .int (nI qa) :: .int (nI qp_) :: .int (nI qw_) :: .ref bRk :: .ref bRs :: .ref bRf :: .ref bRo :: .ref bRl :: .int (nI nt) :: .ref bTp :: .ref bTt :: .ref bTd :: .ref bHd :: .ref bFn :: .int (nI nr) :: .ref bRp :: .ref bRt :: .ref bRe :: .ref bRh :: .ref bZs :: .ref bZl :: .ref bSc :: .ref bHn :: .int tr :: []))] := hD
      have hP := hP.sub (ws' := [(bM, .inr (5, .int (nI 2) :: .int (nI np) :: .ref bKk :: .ref bKs :: .int (nI hm) :: .int (nI nw) :: .ref bWf :: .ref bWt :: .ref bWl :: .int (nI lw) :: .ref bFo :: .int (nI qa) :: .int (nI qp_) :: .int (nI qw_) :: .ref bRk :: .ref bRs :: .ref bRf :: .ref bRo :: .ref bRl :: .int (nI nt) :: .ref bTp :: .ref bTt :: .ref bTd :: .ref bHd :: .ref bFn :: .int (nI nr) :: .ref bRp :: .ref bRt :: .ref bRe :: .ref bRh :: .ref bZs :: .ref bZl :: .ref bSc :: .ref bHn :: .int tr :: [])), (bZs, .inl (cI, 4, .inl mZs)), (bZl, .inl (cI, 4, .inl mZl))]) [2, 0, 1] rfl
      have hD := hD.sub (ws' := [(bM, .inr (5, .int (nI 2) :: .int (nI np) :: .ref bKk :: .ref bKs :: .int (nI hm) :: .int (nI nw) :: .ref bWf :: .ref bWt :: .ref bWl :: .int (nI lw) :: .ref bFo :: .int (nI qa) :: .int (nI qp_) :: .int (nI qw_) :: .ref bRk :: .ref bRs :: .ref bRf :: .ref bRo :: .ref bRl :: .int (nI nt) :: .ref bTp :: .ref bTt :: .ref bTd :: .ref bHd :: .ref bFn :: .int (nI nr) :: .ref bRp :: .ref bRt :: .ref bRe :: .ref bRh :: .ref bZs :: .ref bZl :: .ref bSc :: .ref bHn :: .int tr :: [])), (bZs, .inl (cI, 4, .inl mZs)), (bZl, .inl (cI, 4, .inl mZl))]) [2, 0, 1] (by decide) rfl
      have hr_8 : r_8 = (-10) - nI 2 := hr_8
      rw [hr_8]
      refine hret 24 _ ((-10) - nI 2) 2 _ _ dX5_cellsBarred_24 hS (fun t ht _ => by rw [ht]; exact hP) ?_
      exact cBar_f (kfc_2 h3 c16) (by decide)

set_option maxHeartbeats 800000 in
set_option maxRecDepth 100000 in
theorem kX5_noCell {zl : Launch} {dC : Nat → ClassId} {dI : Nat → Nat → Nat} {cI cJ cZ cS : ClassId} (bM : Nat) (fa : Nat) (np : Nat) (bKk : Nat) (bKs : Nat) (hm : Nat) (nw : Nat) (bWf : Nat) (bWt : Nat) (bWl : Nat) (lw : Nat) (bFo : Nat) (qa : Nat) (qp_ : Nat) (qw_ : Nat) (bRk : Nat) (bRs : Nat) (bRf : Nat) (bRo : Nat) (bRl : Nat) (nt : Nat) (bTp : Nat) (bTt : Nat) (bTd : Nat) (bHd : Nat) (bFn : Nat) (nr : Nat) (bRp : Nat) (bRt : Nat) (bRe : Nat) (bRh : Nat) (bZs : Nat) (bZl : Nat) (bSc : Nat) (bHn : Nat) (tr : Int32) (mZs : Nat → Int32) (k : Nat) (i : Int32) (La : Nat) (le : Nat) (hk : k < 4) (hz : mZs k = zsz La le) (hLa : La ≤ 3) (hle : le ≤ 60) : Met zl yX5_noCell wsX5_noCell ({ frames := 1, cells := 0, slots := 0, locals := 25 } : Room) (va_Pc [.ref bM, .int (nI k), .int i] (rPre (dC, dI) (kT cI cJ cZ cS) [(bM, .inr (5, .int (nI fa) :: .int (nI np) :: .ref bKk :: .ref bKs :: .int (nI hm) :: .int (nI nw) :: .ref bWf :: .ref bWt :: .ref bWl :: .int (nI lw) :: .ref bFo :: .int (nI qa) :: .int (nI qp_) :: .int (nI qw_) :: .ref bRk :: .ref bRs :: .ref bRf :: .ref bRo :: .ref bRl :: .int (nI nt) :: .ref bTp :: .ref bTt :: .ref bTd :: .ref bHd :: .ref bFn :: .int (nI nr) :: .ref bRp :: .ref bRt :: .ref bRe :: .ref bRh :: .ref bZs :: .ref bZl :: .ref bSc :: .ref bHn :: .int tr :: [])), (bZs, .inl (cI, 4, .inl mZs))])) (vp_Si (fun r : Int32 => r = nI (nCell La le i))) 0 0 (fun _ => False) := by
  refine kstartR_i (cc := cX5_noCell) (maxL := 3) rfl rfl (Nat.le_of_ble_eq_true rfl) ?_
  intro zp ze zs zm zb zt zc za zQ hx hb hml hts hown hN hK hP hret ls hl
  have hl : lv_has ls 3 [(0, .ref bM), (1, .int (nI k)), (2, .int i)] := hl
  have hinX5 : ∀ w ∈ wsX50, w ∈ wsX5_noCell := fun _ h => List.mem_cons_of_mem _ (List.mem_append_right _ h)
  have lk71 := hts (.fieldLink RX5 71 "IronRumoursModel" "sheetSize" "[I") (List.mem_of_getElem? (i := 1) rfl)
  refine lv_aload_n hx hb dX5_noCell_0 rfl (lv_at hl 0 rfl) ?_
  refine va_get (D := (dC, dI)) (ci := 5) (v := .ref bZs) (C := RX5) (T := TX5) (N := 35) hx hb hts hinX5 hown hK hP 0 rfl rfl 30 (by decide) lk71 (fun _ h9 => h9) rfl dX5_noCell_1 ?_
  refine lv_iload_n hx hb dX5_noCell_4 rfl (lv_at hl 1 rfl) ?_
  refine k_iald hx hb hK hP 1 0 rfl rfl (n := 4) (v := zsz La le) (by omega) (by decide) (hz) dX5_noCell_5 ?_
  refine lv_if_ge (tgt := 13) hx hb dX5_noCell_6 (by decide) (fun c6 => ?_) (fun c6 => ?_)
  · have h3 := (zsz_ge hle).mp c6
    refine lv_iload_n hx hb dX5_noCell_13 rfl (lv_at hl 2 rfl) ?_
    refine lv_i2l hx hb dX5_noCell_14 rfl ?_
    refine lv_lconst (v := 0) hx hb dX5_noCell_15 (by decide) ?_
    refine lv_aload_n hx hb dX5_noCell_16 rfl (lv_at hl 0 rfl) ?_
    refine va_get (D := (dC, dI)) (ci := 5) (v := .ref bZs) (C := RX5) (T := TX5) (N := 35) hx hb hts hinX5 hown hK hP 0 rfl rfl 30 (by decide) lk71 (fun _ h9 => h9) rfl dX5_noCell_17 ?_
    refine lv_iload_n hx hb dX5_noCell_20 rfl (lv_at hl 1 rfl) ?_
    refine k_iald hx hb hK hP 1 0 rfl rfl (n := 4) (v := nI le) (by omega) (by decide) (hz.trans (zsz_n h3)) dX5_noCell_21 ?_
    refine lv_i2l hx hb dX5_noCell_22 rfl ?_
    refine lv_lconst (v := 1) hx hb dX5_noCell_23 (by decide) ?_
    refine lv_lsub hx hb dX5_noCell_24 ?_
    refine rc_i (va_runS (As := [.long i.toInt64, .long 0, .long (((nI le).toInt64) - 1)]) (rest := []) ⟨hx, hb, hml, hown, hts⟩ (kX5_in i.toInt64 0 (((nI le).toInt64) - 1) ) (va_cwS 3 hts gX5_noCell_X5_in rfl rfl rfl hvX5_in ⟨Nat.le_of_ble_eq_true rfl, Nat.le_of_ble_eq_true rfl⟩) (rpreS hN hK (hP.sub [] rfl)) rfl rfl hl.1 rfl (lv_room (Nat.le_of_ble_eq_true rfl)) dX5_noCell_25 ⟨Nat.zero_le _, Nat.zero_le _⟩) (fun r_1 hr_1 => ?_)
    have hr_1 : r_1 = kb (in64 i.toInt64 0 (((nI le).toInt64) - 1)) := hr_1
    rw [hr_1]
    refine k_cast (y := kb (blw i le)) (congrArg kb (in64_np (by omega))) ?_
    refine k_if_eqb (tgt := 35) hx hb dX5_noCell_28 (by decide) (fun c28 => ?_) (fun c28 => ?_)
    · refine lv_iconst (v := nI 3) hx hb dX5_noCell_35 (by decide) ?_
      refine hret 36 _ (nI 3) dX5_noCell_36 ?_
      unfold nCell
      rw [if_neg h3, if_neg (by rw [c28]; decide)]
    · refine lv_iconst (v := nI 0) hx hb dX5_noCell_31 (by decide) ?_
      refine lv_goto (tgt := 36) hx hb dX5_noCell_32 (by decide) ?_
      refine hret 36 _ (nI 0) dX5_noCell_36 ?_
      unfold nCell
      rw [if_neg h3, if_pos c28]
  · have h3 : La = 3 := Decidable.not_not.mp ((not_congr (zsz_ge (La := La) hle)).mp c6)
    refine lv_iconst (v := nI 1) hx hb dX5_noCell_9 (by decide) ?_
    refine lv_goto (tgt := 36) hx hb dX5_noCell_10 (by decide) ?_
    refine hret 36 _ (nI 1) dX5_noCell_36 ?_
    unfold nCell
    rw [if_pos h3]

set_option maxHeartbeats 800000 in
set_option maxRecDepth 100000 in
theorem kX5_traced {zl : Launch} {dC : Nat → ClassId} {dI : Nat → Nat → Nat} {cI cJ cZ cS : ClassId} {sz : Nat} (bM : Nat) (fa : Nat) (np : Nat) (bKk : Nat) (bKs : Nat) (hm : Nat) (nw : Nat) (bWf : Nat) (bWt : Nat) (bWl : Nat) (lw : Nat) (bFo : Nat) (qa : Nat) (qp_ : Nat) (qw_ : Nat) (bRk : Nat) (bRs : Nat) (bRf : Nat) (bRo : Nat) (bRl : Nat) (nt : Nat) (bTp : Nat) (bTt : Nat) (bTd : Nat) (bHd : Nat) (bFn : Nat) (nr : Nat) (bRp : Nat) (bRt : Nat) (bRe : Nat) (bRh : Nat) (bZs : Nat) (bZl : Nat) (bSc : Nat) (bHn : Nat) (tr : Int32) (n : Nat) : Met zl yX5_traced wsX5_traced ({ frames := 0, cells := 0, slots := 0, locals := 0 } : Room) (va_Pc [.ref bM, .int (nI n)] (kPre (dC, dI) (kT cI cJ cZ cS) [(bM, .inr (5, .int (nI fa) :: .int (nI np) :: .ref bKk :: .ref bKs :: .int (nI hm) :: .int (nI nw) :: .ref bWf :: .ref bWt :: .ref bWl :: .int (nI lw) :: .ref bFo :: .int (nI qa) :: .int (nI qp_) :: .int (nI qw_) :: .ref bRk :: .ref bRs :: .ref bRf :: .ref bRo :: .ref bRl :: .int (nI nt) :: .ref bTp :: .ref bTt :: .ref bTd :: .ref bHd :: .ref bFn :: .int (nI nr) :: .ref bRp :: .ref bRt :: .ref bRe :: .ref bRh :: .ref bZs :: .ref bZl :: .ref bSc :: .ref bHn :: .int tr :: []))] sz)) (va_Qv (fun (_ : Unit) => True) (fun (_ : Unit) (zU : State) => va_P (dC, dI) vwCl [(bM, .inr (5, .int (nI fa) :: .int (nI np) :: .ref bKk :: .ref bKs :: .int (nI hm) :: .int (nI nw) :: .ref bWf :: .ref bWt :: .ref bWl :: .int (nI lw) :: .ref bFo :: .int (nI qa) :: .int (nI qp_) :: .int (nI qw_) :: .ref bRk :: .ref bRs :: .ref bRf :: .ref bRo :: .ref bRl :: .int (nI nt) :: .ref bTp :: .ref bTt :: .ref bTd :: .ref bHd :: .ref bFn :: .int (nI nr) :: .ref bRp :: .ref bRt :: .ref bRe :: .ref bRh :: .ref bZs :: .ref bZl :: .ref bSc :: .ref bHn :: .int (ktr tr n) :: []))] zU.heap) (va_A [(bM, .inr (5, .int (nI fa) :: .int (nI np) :: .ref bKk :: .ref bKs :: .int (nI hm) :: .int (nI nw) :: .ref bWf :: .ref bWt :: .ref bWl :: .int (nI lw) :: .ref bFo :: .int (nI qa) :: .int (nI qp_) :: .int (nI qw_) :: .ref bRk :: .ref bRs :: .ref bRf :: .ref bRo :: .ref bRl :: .int (nI nt) :: .ref bTp :: .ref bTt :: .ref bTd :: .ref bHd :: .ref bFn :: .int (nI nr) :: .ref bRp :: .ref bRt :: .ref bRe :: .ref bRh :: .ref bZs :: .ref bZl :: .ref bSc :: .ref bHn :: .int tr :: []))] sz)) 0 0 (va_A [(bM, .inr (5, .int (nI fa) :: .int (nI np) :: .ref bKk :: .ref bKs :: .int (nI hm) :: .int (nI nw) :: .ref bWf :: .ref bWt :: .ref bWl :: .int (nI lw) :: .ref bFo :: .int (nI qa) :: .int (nI qp_) :: .int (nI qw_) :: .ref bRk :: .ref bRs :: .ref bRf :: .ref bRo :: .ref bRl :: .int (nI nt) :: .ref bTp :: .ref bTt :: .ref bTd :: .ref bHd :: .ref bFn :: .int (nI nr) :: .ref bRp :: .ref bRt :: .ref bRe :: .ref bRh :: .ref bZs :: .ref bZl :: .ref bSc :: .ref bHn :: .int tr :: []))] sz) := by
  refine kstartW_v (cc := cX5_traced) (maxL := 2) rfl rfl (Nat.le_of_ble_eq_true rfl) ?_
  intro zp ze zs zm zb zt zc za zQ zA hx hb hml hts hown hN hK hP hD hS hA zin hret ls hl
  have hl : lv_has ls 2 [(0, .ref bM), (1, .int (nI n))] := hl
  have hinX5 : ∀ w ∈ wsX50, w ∈ wsX5_traced := fun _ h => List.mem_cons_of_mem _ (List.mem_append_right _ h)
  have lk247 := hts (.fieldLink RX5 247 "IronRumoursModel" "traceNow" "I") (List.mem_of_getElem? (i := 1) rfl)
  refine lv_aload_n hx hb dX5_traced_0 rfl (lv_at hl 0 rfl) ?_
  refine lv_bipush (v := nI 31) hx hb dX5_traced_1 (by decide) ?_
  refine lv_aload_n hx hb dX5_traced_3 rfl (lv_at hl 0 rfl) ?_
  refine va_get (D := (dC, dI)) (ci := 5) (v := .int tr) (C := RX5) (T := TX5) (N := 35) hx hb hts hinX5 hown hK hP 0 rfl rfl 34 (by decide) lk247 (fun _ h9 => h9) rfl dX5_traced_4 ?_
  refine lv_imul hx hb dX5_traced_7 ?_
  refine lv_iload_n hx hb dX5_traced_8 rfl (lv_at hl 1 rfl) ?_
  refine lv_iadd hx hb dX5_traced_9 ?_
  refine va_put (D := (dC, dI)) (ci := 5) (v := .int (((nI 31) * tr) + (nI n))) (ty := .int) (C := RX5) (T := TX5) (N := 35) hx hb hts hinX5 tyX5 tyX5_ok nmX5 hown hK hP hD hS 0 rfl rfl 34 (by decide) lk247 (fun _ h9 => h9) rfl (tyX5_ok 34 (by decide)) rfl rfl (Nat.le_of_ble_eq_true rfl) dX5_traced_10 (fun H_1 locs hP hD hS => ?_)
  have hP : va_P (dC, dI) vwCl [(bM, .inr (5, .int (nI fa) :: .int (nI np) :: .ref bKk :: .ref bKs :: .int (nI hm) :: .int (nI nw) :: .ref bWf :: .ref bWt :: .ref bWl :: .int (nI lw) :: .ref bFo :: .int (nI qa) :: .int (nI qp_) :: .int (nI qw_) :: .ref bRk :: .ref bRs :: .ref bRf :: .ref bRo :: .ref bRl :: .int (nI nt) :: .ref bTp :: .ref bTt :: .ref bTd :: .ref bHd :: .ref bFn :: .int (nI nr) :: .ref bRp :: .ref bRt :: .ref bRe :: .ref bRh :: .ref bZs :: .ref bZl :: .ref bSc :: .ref bHn :: .int (((nI 31) * tr) + (nI n)) :: []))] H_1 := hP
  have hD : va_D zA [(bM, .inr (5, .int (nI fa) :: .int (nI np) :: .ref bKk :: .ref bKs :: .int (nI hm) :: .int (nI nw) :: .ref bWf :: .ref bWt :: .ref bWl :: .int (nI lw) :: .ref bFo :: .int (nI qa) :: .int (nI qp_) :: .int (nI qw_) :: .ref bRk :: .ref bRs :: .ref bRf :: .ref bRo :: .ref bRl :: .int (nI nt) :: .ref bTp :: .ref bTt :: .ref bTd :: .ref bHd :: .ref bFn :: .int (nI nr) :: .ref bRp :: .ref bRt :: .ref bRe :: .ref bRh :: .ref bZs :: .ref bZl :: .ref bSc :: .ref bHn :: .int (((nI 31) * tr) + (nI n)) :: []))] := hD
  refine hret 13 _ () _ _ dX5_traced_13 hS (fun t ht _ => by rw [ht]; exact hP) ?_
  trivial

set_option maxHeartbeats 800000 in
set_option maxRecDepth 100000 in
theorem kX5_comesBy {zl : Launch} {dC : Nat → ClassId} {dI : Nat → Nat → Nat} {cI cJ cZ cS : ClassId} (bM : Nat) (fa : Nat) (np : Nat) (bKk : Nat) (bKs : Nat) (hm : Nat) (nw : Nat) (bWf : Nat) (bWt : Nat) (bWl : Nat) (lw : Nat) (bFo : Nat) (qa : Nat) (qp_ : Nat) (qw_ : Nat) (bRk : Nat) (bRs : Nat) (bRf : Nat) (bRo : Nat) (bRl : Nat) (nt : Nat) (bTp : Nat) (bTt : Nat) (bTd : Nat) (bHd : Nat) (bFn : Nat) (nr : Nat) (bRp : Nat) (bRt : Nat) (bRe : Nat) (bRh : Nat) (bZs : Nat) (bZl : Nat) (bSc : Nat) (bHn : Nat) (tr : Int32) (mKk : Nat → Int32) (mWf : Nat → Int32) (mWt : Nat → Int32) (mWl : Nat → Int32) (mHd : Nat → Int32) (kd : Nat → Nat) (wf : Nat → Nat) (wt : Nat → Nat) (wd : Nat → Nat) (H : Nat → Nat → Nat → Prop) (w : Nat) (p : Nat) (t : Nat) (o : Nat) (d : Nat) (hT : finR H mHd) (hw : waysOk np nw wf wt wd kd) (hpA : pplA np nw kd wf wt wd mKk mWf mWt mWl) (hwn : w < nw) (hp : p < 6) (ht : t < 4) (ho : o < 15) (hd : d < 60) (hd9 : mHd (15 * (4 * p + t) + o) = nI d) (hhm : hm < 64) : Met zl yX5_comesBy wsX5_comesBy ({ frames := 1, cells := 0, slots := 0, locals := 22 } : Room) (va_Pc [.ref bM, .int (nI w), .int (nI p), .int (nI t), .int (nI o)] (rPre (dC, dI) (kT cI cJ cZ cS) [(bM, .inr (5, .int (nI fa) :: .int (nI np) :: .ref bKk :: .ref bKs :: .int (nI hm) :: .int (nI nw) :: .ref bWf :: .ref bWt :: .ref bWl :: .int (nI lw) :: .ref bFo :: .int (nI qa) :: .int (nI qp_) :: .int (nI qw_) :: .ref bRk :: .ref bRs :: .ref bRf :: .ref bRo :: .ref bRl :: .int (nI nt) :: .ref bTp :: .ref bTt :: .ref bTd :: .ref bHd :: .ref bFn :: .int (nI nr) :: .ref bRp :: .ref bRt :: .ref bRe :: .ref bRh :: .ref bZs :: .ref bZl :: .ref bSc :: .ref bHn :: .int tr :: [])), (bKk, .inl (cI, 6, .inl mKk)), (bWf, .inl (cI, 9, .inl mWf)), (bWt, .inl (cI, 9, .inl mWt)), (bWl, .inl (cI, 9, .inl mWl)), (bHd, .inl (cI, 360, .inl mHd))])) (vp_Si (fun r : Int32 => r = kb (wayH H nw wf wt wd kd hm p d (t * 15 + o) w))) 0 0 (fun _ => False) := by
  refine kstartR_z (cc := cX5_comesBy) (maxL := 10) rfl rfl (Nat.le_of_ble_eq_true rfl) ?_
  intro zp ze zs zm zb zt zc za zQ hx hb hml hts hown hN hK hP hret ls hl
  have hl : lv_has ls 10 [(0, .ref bM), (1, .int (nI w)), (2, .int (nI p)), (3, .int (nI t)), (4, .int (nI o))] := hl
  obtain ⟨g, hgf, hgF⟩ := hT
  have h6 := hw.1
  have h9 := hw.2.1
  have hww := hw.2.2.2 w hwn
  have hk3 := hw.2.2.1 (wf w) hww.1
  have hinX5 : ∀ w ∈ wsX50, w ∈ wsX5_comesBy := fun _ h => List.mem_cons_of_mem _ (List.mem_append_right _ h)
  have lk17 := hts (.fieldLink RX5 17 "IronRumoursModel" "fromOf" "[I") (List.mem_of_getElem? (i := 1) rfl)
  have lk20 := hts (.fieldLink RX5 20 "IronRumoursModel" "toOf" "[I") (List.mem_of_getElem? (i := 4) rfl)
  have lk23 := hts (.fieldLink RX5 23 "IronRumoursModel" "longOf" "[I") (List.mem_of_getElem? (i := 3) rfl)
  have lk53 := hts (.fieldLink RX5 53 "IronRumoursModel" "heard" "[I") (List.mem_of_getElem? (i := 2) rfl)
  have lk155 := hts (.fieldLink RX5 155 "IronRumoursModel" "hushedNow" "I") (List.mem_of_getElem? (i := 5) rfl)
  refine lv_aload_n hx hb dX5_comesBy_0 rfl (lv_at hl 0 rfl) ?_
  refine va_get (D := (dC, dI)) (ci := 5) (v := .ref bWf) (C := RX5) (T := TX5) (N := 35) hx hb hts hinX5 hown hK hP 0 rfl rfl 6 (by decide) lk17 (fun _ h9 => h9) rfl dX5_comesBy_1 ?_
  refine lv_iload_n hx hb dX5_comesBy_4 rfl (lv_at hl 1 rfl) ?_
  refine k_iald hx hb hK hP 2 0 rfl rfl (n := 9) (v := nI (wf w)) (by omega) (by decide) ((hpA.2 w hwn).1) dX5_comesBy_5 ?_
  refine lv_istore (lv' := [(5, .int (nI (wf w))), (0, .ref bM), (1, .int (nI w)), (2, .int (nI p)), (3, .int (nI t)), (4, .int (nI o))]) hx hb dX5_comesBy_6 hl (by decide) rfl (fun ls hl => ?_)
  refine lv_aload_n hx hb dX5_comesBy_8 rfl (lv_at hl 1 rfl) ?_
  refine va_get (D := (dC, dI)) (ci := 5) (v := .ref bHd) (C := RX5) (T := TX5) (N := 35) hx hb hts hinX5 hown hK hP 0 rfl rfl 23 (by decide) lk53 (fun _ h9 => h9) rfl dX5_comesBy_9 ?_
  refine lv_iload_n hx hb dX5_comesBy_12 rfl (lv_at hl 3 rfl) ?_
  refine lv_iload_n hx hb dX5_comesBy_13 rfl (lv_at hl 4 rfl) ?_
  refine lv_iload hx hb dX5_comesBy_14 (lv_at hl 5 rfl) ?_
  refine rc_i (va_runS (As := [.int (nI p), .int (nI t), .int (nI o)]) (rest := [.ref bHd]) ⟨hx, hb, hml, hown, hts⟩ (kX5_placeOf p t o ) (va_cwS 3 hts gX5_comesBy_X5_placeOf rfl rfl rfl hvX5_placeOf ⟨Nat.le_of_ble_eq_true rfl, Nat.le_of_ble_eq_true rfl⟩) (rpreS hN hK (hP.sub [] rfl)) rfl rfl hl.1 rfl (lv_room (Nat.le_of_ble_eq_true rfl)) dX5_comesBy_16 ⟨Nat.zero_le _, Nat.zero_le _⟩) (fun r_1 hr_1 => ?_)
  have hr_1 : r_1 = nI (15 * (4 * p + t) + o) := hr_1
  rw [hr_1]
  refine k_iald hx hb hK hP 5 0 rfl rfl (n := 360) (v := nI d) (by omega) (by decide) (hd9) dX5_comesBy_19 ?_
  refine lv_istore (lv' := [(6, .int (nI d)), (5, .int (nI (wf w))), (0, .ref bM), (1, .int (nI w)), (2, .int (nI p)), (3, .int (nI t)), (4, .int (nI o))]) hx hb dX5_comesBy_20 hl (by decide) rfl (fun ls hl => ?_)
  refine lv_iconst (v := nI 0) hx hb dX5_comesBy_22 (by decide) ?_
  refine lv_istore (lv' := [(7, .int (nI 0)), (6, .int (nI d)), (5, .int (nI (wf w))), (0, .ref bM), (1, .int (nI w)), (2, .int (nI p)), (3, .int (nI t)), (4, .int (nI o))]) hx hb dX5_comesBy_23 hl (by decide) rfl (fun ls hl => ?_)
  refine lv_iconst (v := nI 0) hx hb dX5_comesBy_25 (by decide) ?_
  refine lv_istore (lv' := [(8, .int (nI 0)), (7, .int (nI 0)), (6, .int (nI d)), (5, .int (nI (wf w))), (0, .ref bM), (1, .int (nI w)), (2, .int (nI p)), (3, .int (nI t)), (4, .int (nI o))]) hx hb dX5_comesBy_26 hl (by decide) rfl (fun ls hl => ?_)
  have loop28 : ∀ (n28 : Nat) (x : Nat) (b : Bool), (x ≤ 60) → (b = pB (∃ z, z < x ∧ (chg (kd (wf w)) (wf w) z = t * 15 + o ∧ g (60 * wf w + z) + wd w = d))) → (60 - x < n28) → ∀ (ls : Array Slot), lv_has ls 10 [(0, .ref bM), (1, .int (nI w)), (2, .int (nI p)), (3, .int (nI t)), (4, .int (nI o)), (5, .int (nI (wf w))), (6, .int (nI d)), (7, .int (kb b)), (8, .int (nI x))] → W zp zl ze ({ frames := 1, cells := 0, slots := 0, locals := 22 } : Room) zs zm za zb zt zc zs.heap [] 0 0 zQ (F0 zm 28 ls []) := by
    intro n28
    induction n28 with
    | zero => intro x b hx0 hb9 hme; exact absurd hme (Nat.not_lt_zero _)
    | succ n28 ih28 =>
      intro x b hx0 hb9 hme ls hl
      refine lv_iload hx hb dX5_comesBy_28 (lv_at hl 8 rfl) ?_
      refine lv_bipush (v := nI 60) hx hb dX5_comesBy_30 (by decide) ?_
      refine k_icmp_ge (tgt := 128) hx hb dX5_comesBy_32 (by decide) (by omega) (by omega) (fun c32 => ?_) (fun c32 => ?_)
      · refine lv_iload hx hb dX5_comesBy_128 (lv_at hl 7 rfl) ?_
        refine k_if_eqb (tgt := 159) hx hb dX5_comesBy_130 (by decide) (fun c130 => ?_) (fun c130 => ?_)
        · refine lv_iconst (v := nI 0) hx hb dX5_comesBy_159 (by decide) ?_
          refine k_cast (y := kb false) (rfl) ?_
          refine hret 160 _ false dX5_comesBy_160 ?_
          have e : x = 60 := by omega
          subst e
          rw [wayH_eq hw hgF hd hwn, ← hb9]
          rw [c130]; simp
        · refine lv_aload_n hx hb dX5_comesBy_133 rfl (lv_at hl 0 rfl) ?_
          refine va_get (D := (dC, dI)) (ci := 5) (v := .ref bWt) (C := RX5) (T := TX5) (N := 35) hx hb hts hinX5 hown hK hP 0 rfl rfl 7 (by decide) lk20 (fun _ h9 => h9) rfl dX5_comesBy_134 ?_
          refine lv_iload_n hx hb dX5_comesBy_137 rfl (lv_at hl 1 rfl) ?_
          refine k_iald hx hb hK hP 3 0 rfl rfl (n := 9) (v := nI (wt w)) (by omega) (by decide) ((hpA.2 w hwn).2.1) dX5_comesBy_138 ?_
          refine lv_iload_n hx hb dX5_comesBy_139 rfl (lv_at hl 2 rfl) ?_
          refine k_icmp_ne (tgt := 159) hx hb dX5_comesBy_140 (by decide) (by omega) (by omega) (fun c140 => ?_) (fun c140 => ?_)
          · refine lv_iconst (v := nI 0) hx hb dX5_comesBy_159 (by decide) ?_
            refine k_cast (y := kb false) (rfl) ?_
            refine hret 160 _ false dX5_comesBy_160 ?_
            have e : x = 60 := by omega
            subst e
            rw [wayH_eq hw hgF hd hwn, ← hb9]
            rw [decide_eq_false c140]; rfl
          · refine lv_aload_n hx hb dX5_comesBy_143 rfl (lv_at hl 0 rfl) ?_
            refine va_get (D := (dC, dI)) (ci := 5) (v := .int (nI hm)) (C := RX5) (T := TX5) (N := 35) hx hb hts hinX5 hown hK hP 0 rfl rfl 4 (by decide) lk155 (fun _ h9 => h9) rfl dX5_comesBy_144 ?_
            refine lv_iload hx hb dX5_comesBy_147 (lv_at hl 5 rfl) ?_
            refine rc_i (va_runS (As := [.int (nI hm), .int (nI (wf w))]) (rest := []) ⟨hx, hb, hml, hown, hts⟩ (kX5_isIn hm (wf w) hhm (by omega)) (va_cwS 2 hts gX5_comesBy_X5_isIn rfl rfl rfl hvX5_isIn ⟨Nat.le_of_ble_eq_true rfl, Nat.le_of_ble_eq_true rfl⟩) (rpreS hN hK (hP.sub [] rfl)) rfl rfl hl.1 rfl (lv_room (Nat.le_of_ble_eq_true rfl)) dX5_comesBy_149 ⟨Nat.zero_le _, Nat.zero_le _⟩) (fun r_2 hr_2 => ?_)
            have hr_2 : r_2 = kb (hm.testBit (wf w)) := hr_2
            rw [hr_2]
            refine k_if_neb (tgt := 159) hx hb dX5_comesBy_152 (by decide) (fun c152 => ?_) (fun c152 => ?_)
            · refine lv_iconst (v := nI 0) hx hb dX5_comesBy_159 (by decide) ?_
              refine k_cast (y := kb false) (rfl) ?_
              refine hret 160 _ false dX5_comesBy_160 ?_
              have e : x = 60 := by omega
              subst e
              rw [wayH_eq hw hgF hd hwn, ← hb9]
              rw [c152]; simp
            · refine lv_iconst (v := nI 1) hx hb dX5_comesBy_155 (by decide) ?_
              refine lv_goto (tgt := 160) hx hb dX5_comesBy_156 (by decide) ?_
              refine k_cast (y := kb true) (rfl) ?_
              refine hret 160 _ true dX5_comesBy_160 ?_
              have e : x = 60 := by omega
              subst e
              rw [wayH_eq hw hgF hd hwn, ← hb9]
              rw [c130, c152, decide_eq_true c140]; rfl
      · have hci := chg_is (k := kd (wf w)) (p := wf w) (x := x) hk3 (by omega) c32
        have hgl := hd_lt hgF.1 (show 60 * wf w + x < 360 by omega)
        have hA4 : (if kd (wf w) = 0 then x / 15 else (x / 15 + 1) % 4) < 4 := by split <;> omega
        have hB5 : (if kd (wf w) = 2 then 8 + wf w else x % 15) < 15 := by split <;> omega
        refine lv_aload_n hx hb dX5_comesBy_35 rfl (lv_at hl 0 rfl) ?_
        refine lv_iload hx hb dX5_comesBy_36 (lv_at hl 5 rfl) ?_
        refine lv_iload hx hb dX5_comesBy_38 (lv_at hl 8 rfl) ?_
        refine lv_bipush (v := nI 15) hx hb dX5_comesBy_40 (by decide) ?_
        refine k_idiv hx hb (by omega) (by omega) (by omega) dX5_comesBy_42 ?_
        refine rc_i (va_runV (As := [.int (nI (wf w)), .int (nI (x / 15))]) (rest := []) ⟨hx, hb, hml, hown, hts⟩ (kX5_thingBy bM fa np bKk bKs hm nw bWf bWt bWl lw bFo qa qp_ qw_ bRk bRs bRf bRo bRl nt bTp bTt bTd bHd bFn nr bRp bRt bRe bRh bZs bZl bSc bHn tr mKk kd (wf w) (x / 15) (hpA.1 (wf w) hww.1) (by omega) (by omega) (by omega)) (cwV 2 hts gX5_comesBy_X5_thingBy rfl rfl rfl hvX5_thingBy ⟨Nat.le_of_ble_eq_true rfl, Nat.le_of_ble_eq_true rfl⟩) (rpreV hN (q := (RX5, TX5, 35)) (ci := 5) hK (hP.sub [0, 1] rfl) 0 rfl rfl) rfl rfl hl.1 rfl (lv_room (Nat.le_of_ble_eq_true rfl)) dX5_comesBy_43 ⟨Nat.zero_le _, Nat.zero_le _⟩) (fun r_3 hr_3 => ?_)
        have hr_3 : r_3 = nI (if kd (wf w) = 0 then (x / 15) else ((x / 15) + 1) % 4) := hr_3
        rw [hr_3]
        refine lv_iload_n hx hb dX5_comesBy_46 rfl (lv_at hl 3 rfl) ?_
        refine k_icmp_ne (tgt := 70) hx hb dX5_comesBy_47 (by decide) (by omega) (by omega) (fun c47 => ?_) (fun c47 => ?_)
        · refine lv_iconst (v := nI 0) hx hb dX5_comesBy_70 (by decide) ?_
          refine lv_istore (lv' := [(9, .int (nI 0)), (0, .ref bM), (1, .int (nI w)), (2, .int (nI p)), (3, .int (nI t)), (4, .int (nI o)), (5, .int (nI (wf w))), (6, .int (nI d)), (7, .int (kb b)), (8, .int (nI x))]) hx hb dX5_comesBy_71 hl (by decide) rfl (fun ls hl => ?_)
          refine lv_iload hx hb dX5_comesBy_73 (lv_at hl 8 rfl) ?_
          refine k_if_neb (tgt := 115) hx hb dX5_comesBy_75 (by decide) (fun c75 => ?_) (fun c75 => ?_)
          · refine lv_iconst (v := nI 1) hx hb dX5_comesBy_115 (by decide) ?_
            refine lv_goto (tgt := 120) hx hb dX5_comesBy_116 (by decide) ?_
            refine lv_istore (lv' := [(7, .int (nI 1)), (9, .int (nI 0)), (0, .ref bM), (1, .int (nI w)), (2, .int (nI p)), (3, .int (nI t)), (4, .int (nI o)), (5, .int (nI (wf w))), (6, .int (nI d)), (8, .int (nI x))]) hx hb dX5_comesBy_120 hl (by decide) rfl (fun ls hl => ?_)
            refine lv_iinc (v := nI (x + 1)) (lv' := [(8, .int (nI (x + 1))), (7, .int (nI 1)), (9, .int (nI 0)), (0, .ref bM), (1, .int (nI w)), (2, .int (nI p)), (3, .int (nI t)), (4, .int (nI o)), (5, .int (nI (wf w))), (6, .int (nI d))]) hx hb dX5_comesBy_122 hl (k := 9) rfl (nI_add _ _) (by decide) rfl (fun ls hl => ?_)
            refine lv_goto (tgt := 28) hx hb dX5_comesBy_125 (by decide) ?_
            exact ih28 (x + 1) true (by omega) (by exact cb_old (P := (fun z => chg (kd (wf w)) (wf w) z = t * 15 + o ∧ g (60 * wf w + z) + wd w = d)) hb9 c75) (by omega) _ (lv_sub hl [3, 4, 5, 6, 7, 8, 9, 1, 0] rfl)
          · refine lv_iload hx hb dX5_comesBy_78 (lv_at hl 0 rfl) ?_
            refine lv_if_eq (tgt := 119) hx hb dX5_comesBy_80 (by decide) (fun c80 => ?_) (fun c80 => absurd (by decide) c80)
            refine lv_iconst (v := nI 0) hx hb dX5_comesBy_119 (by decide) ?_
            refine lv_istore (lv' := [(7, .int (nI 0)), (9, .int (nI 0)), (0, .ref bM), (1, .int (nI w)), (2, .int (nI p)), (3, .int (nI t)), (4, .int (nI o)), (5, .int (nI (wf w))), (6, .int (nI d)), (8, .int (nI x))]) hx hb dX5_comesBy_120 hl (by decide) rfl (fun ls hl => ?_)
            refine lv_iinc (v := nI (x + 1)) (lv' := [(8, .int (nI (x + 1))), (7, .int (nI 0)), (9, .int (nI 0)), (0, .ref bM), (1, .int (nI w)), (2, .int (nI p)), (3, .int (nI t)), (4, .int (nI o)), (5, .int (nI (wf w))), (6, .int (nI d))]) hx hb dX5_comesBy_122 hl (k := 9) rfl (nI_add _ _) (by decide) rfl (fun ls hl => ?_)
            refine lv_goto (tgt := 28) hx hb dX5_comesBy_125 (by decide) ?_
            exact ih28 (x + 1) false (by omega) (by exact cb_no (P := (fun z => chg (kd (wf w)) (wf w) z = t * 15 + o ∧ g (60 * wf w + z) + wd w = d)) hb9 c75 (fun z => by have := z.1; omega)) (by omega) _ (lv_sub hl [3, 4, 5, 6, 7, 8, 9, 1, 0] rfl)
        · refine lv_aload_n hx hb dX5_comesBy_50 rfl (lv_at hl 0 rfl) ?_
          refine lv_iload hx hb dX5_comesBy_51 (lv_at hl 5 rfl) ?_
          refine lv_iload hx hb dX5_comesBy_53 (lv_at hl 8 rfl) ?_
          refine lv_bipush (v := nI 15) hx hb dX5_comesBy_55 (by decide) ?_
          refine k_irem hx hb (by omega) (by omega) (by omega) dX5_comesBy_57 ?_
          refine rc_i (va_runV (As := [.int (nI (wf w)), .int (nI (x % 15))]) (rest := []) ⟨hx, hb, hml, hown, hts⟩ (kX5_originBy bM fa np bKk bKs hm nw bWf bWt bWl lw bFo qa qp_ qw_ bRk bRs bRf bRo bRl nt bTp bTt bTd bHd bFn nr bRp bRt bRe bRh bZs bZl bSc bHn tr mKk kd (wf w) (x % 15) (hpA.1 (wf w) hww.1) (by omega) (by omega) (by omega)) (cwV 2 hts gX5_comesBy_X5_originBy rfl rfl rfl hvX5_originBy ⟨Nat.le_of_ble_eq_true rfl, Nat.le_of_ble_eq_true rfl⟩) (rpreV hN (q := (RX5, TX5, 35)) (ci := 5) hK (hP.sub [0, 1] rfl) 0 rfl rfl) rfl rfl hl.1 rfl (lv_room (Nat.le_of_ble_eq_true rfl)) dX5_comesBy_58 ⟨Nat.zero_le _, Nat.zero_le _⟩) (fun r_4 hr_4 => ?_)
          have hr_4 : r_4 = nI (if kd (wf w) = 2 then 8 + (wf w) else (x % 15)) := hr_4
          rw [hr_4]
          refine lv_iload hx hb dX5_comesBy_61 (lv_at hl 4 rfl) ?_
          refine k_icmp_ne (tgt := 70) hx hb dX5_comesBy_63 (by decide) (by omega) (by omega) (fun c63 => ?_) (fun c63 => ?_)
          · refine lv_iconst (v := nI 0) hx hb dX5_comesBy_70 (by decide) ?_
            refine lv_istore (lv' := [(9, .int (nI 0)), (0, .ref bM), (1, .int (nI w)), (2, .int (nI p)), (3, .int (nI t)), (4, .int (nI o)), (5, .int (nI (wf w))), (6, .int (nI d)), (7, .int (kb b)), (8, .int (nI x))]) hx hb dX5_comesBy_71 hl (by decide) rfl (fun ls hl => ?_)
            refine lv_iload hx hb dX5_comesBy_73 (lv_at hl 8 rfl) ?_
            refine k_if_neb (tgt := 115) hx hb dX5_comesBy_75 (by decide) (fun c75 => ?_) (fun c75 => ?_)
            · refine lv_iconst (v := nI 1) hx hb dX5_comesBy_115 (by decide) ?_
              refine lv_goto (tgt := 120) hx hb dX5_comesBy_116 (by decide) ?_
              refine lv_istore (lv' := [(7, .int (nI 1)), (9, .int (nI 0)), (0, .ref bM), (1, .int (nI w)), (2, .int (nI p)), (3, .int (nI t)), (4, .int (nI o)), (5, .int (nI (wf w))), (6, .int (nI d)), (8, .int (nI x))]) hx hb dX5_comesBy_120 hl (by decide) rfl (fun ls hl => ?_)
              refine lv_iinc (v := nI (x + 1)) (lv' := [(8, .int (nI (x + 1))), (7, .int (nI 1)), (9, .int (nI 0)), (0, .ref bM), (1, .int (nI w)), (2, .int (nI p)), (3, .int (nI t)), (4, .int (nI o)), (5, .int (nI (wf w))), (6, .int (nI d))]) hx hb dX5_comesBy_122 hl (k := 9) rfl (nI_add _ _) (by decide) rfl (fun ls hl => ?_)
              refine lv_goto (tgt := 28) hx hb dX5_comesBy_125 (by decide) ?_
              exact ih28 (x + 1) true (by omega) (by exact cb_old (P := (fun z => chg (kd (wf w)) (wf w) z = t * 15 + o ∧ g (60 * wf w + z) + wd w = d)) hb9 c75) (by omega) _ (lv_sub hl [3, 4, 5, 6, 7, 8, 9, 1, 0] rfl)
            · refine lv_iload hx hb dX5_comesBy_78 (lv_at hl 0 rfl) ?_
              refine lv_if_eq (tgt := 119) hx hb dX5_comesBy_80 (by decide) (fun c80 => ?_) (fun c80 => absurd (by decide) c80)
              refine lv_iconst (v := nI 0) hx hb dX5_comesBy_119 (by decide) ?_
              refine lv_istore (lv' := [(7, .int (nI 0)), (9, .int (nI 0)), (0, .ref bM), (1, .int (nI w)), (2, .int (nI p)), (3, .int (nI t)), (4, .int (nI o)), (5, .int (nI (wf w))), (6, .int (nI d)), (8, .int (nI x))]) hx hb dX5_comesBy_120 hl (by decide) rfl (fun ls hl => ?_)
              refine lv_iinc (v := nI (x + 1)) (lv' := [(8, .int (nI (x + 1))), (7, .int (nI 0)), (9, .int (nI 0)), (0, .ref bM), (1, .int (nI w)), (2, .int (nI p)), (3, .int (nI t)), (4, .int (nI o)), (5, .int (nI (wf w))), (6, .int (nI d))]) hx hb dX5_comesBy_122 hl (k := 9) rfl (nI_add _ _) (by decide) rfl (fun ls hl => ?_)
              refine lv_goto (tgt := 28) hx hb dX5_comesBy_125 (by decide) ?_
              exact ih28 (x + 1) false (by omega) (by exact cb_no (P := (fun z => chg (kd (wf w)) (wf w) z = t * 15 + o ∧ g (60 * wf w + z) + wd w = d)) hb9 c75 (fun z => by have := z.1; omega)) (by omega) _ (lv_sub hl [3, 4, 5, 6, 7, 8, 9, 1, 0] rfl)
          · refine lv_iconst (v := nI 1) hx hb dX5_comesBy_66 (by decide) ?_
            refine lv_goto (tgt := 71) hx hb dX5_comesBy_67 (by decide) ?_
            refine lv_istore (lv' := [(9, .int (nI 1)), (0, .ref bM), (1, .int (nI w)), (2, .int (nI p)), (3, .int (nI t)), (4, .int (nI o)), (5, .int (nI (wf w))), (6, .int (nI d)), (7, .int (kb b)), (8, .int (nI x))]) hx hb dX5_comesBy_71 hl (by decide) rfl (fun ls hl => ?_)
            refine lv_iload hx hb dX5_comesBy_73 (lv_at hl 8 rfl) ?_
            refine k_if_neb (tgt := 115) hx hb dX5_comesBy_75 (by decide) (fun c75 => ?_) (fun c75 => ?_)
            · refine lv_iconst (v := nI 1) hx hb dX5_comesBy_115 (by decide) ?_
              refine lv_goto (tgt := 120) hx hb dX5_comesBy_116 (by decide) ?_
              refine lv_istore (lv' := [(7, .int (nI 1)), (9, .int (nI 1)), (0, .ref bM), (1, .int (nI w)), (2, .int (nI p)), (3, .int (nI t)), (4, .int (nI o)), (5, .int (nI (wf w))), (6, .int (nI d)), (8, .int (nI x))]) hx hb dX5_comesBy_120 hl (by decide) rfl (fun ls hl => ?_)
              refine lv_iinc (v := nI (x + 1)) (lv' := [(8, .int (nI (x + 1))), (7, .int (nI 1)), (9, .int (nI 1)), (0, .ref bM), (1, .int (nI w)), (2, .int (nI p)), (3, .int (nI t)), (4, .int (nI o)), (5, .int (nI (wf w))), (6, .int (nI d))]) hx hb dX5_comesBy_122 hl (k := 9) rfl (nI_add _ _) (by decide) rfl (fun ls hl => ?_)
              refine lv_goto (tgt := 28) hx hb dX5_comesBy_125 (by decide) ?_
              exact ih28 (x + 1) true (by omega) (by exact cb_old (P := (fun z => chg (kd (wf w)) (wf w) z = t * 15 + o ∧ g (60 * wf w + z) + wd w = d)) hb9 c75) (by omega) _ (lv_sub hl [3, 4, 5, 6, 7, 8, 9, 1, 0] rfl)
            · refine lv_iload hx hb dX5_comesBy_78 (lv_at hl 0 rfl) ?_
              refine lv_if_eq (tgt := 119) hx hb dX5_comesBy_80 (by decide) (fun c80 => absurd c80 (by decide)) (fun c80 => ?_)
              refine lv_aload_n hx hb dX5_comesBy_83 rfl (lv_at hl 1 rfl) ?_
              refine va_get (D := (dC, dI)) (ci := 5) (v := .ref bHd) (C := RX5) (T := TX5) (N := 35) hx hb hts hinX5 hown hK hP 0 rfl rfl 23 (by decide) lk53 (fun _ h9 => h9) rfl dX5_comesBy_84 ?_
              refine lv_iload hx hb dX5_comesBy_87 (lv_at hl 6 rfl) ?_
              refine lv_iload hx hb dX5_comesBy_89 (lv_at hl 9 rfl) ?_
              refine lv_bipush (v := nI 15) hx hb dX5_comesBy_91 (by decide) ?_
              refine k_idiv hx hb (by omega) (by omega) (by omega) dX5_comesBy_93 ?_
              refine lv_iload hx hb dX5_comesBy_94 (lv_at hl 9 rfl) ?_
              refine lv_bipush (v := nI 15) hx hb dX5_comesBy_96 (by decide) ?_
              refine k_irem hx hb (by omega) (by omega) (by omega) dX5_comesBy_98 ?_
              refine rc_i (va_runS (As := [.int (nI (wf w)), .int (nI (x / 15)), .int (nI (x % 15))]) (rest := [.ref bHd]) ⟨hx, hb, hml, hown, hts⟩ (kX5_placeOf (wf w) (x / 15) (x % 15) ) (va_cwS 3 hts gX5_comesBy_X5_placeOf rfl rfl rfl hvX5_placeOf ⟨Nat.le_of_ble_eq_true rfl, Nat.le_of_ble_eq_true rfl⟩) (rpreS hN hK (hP.sub [] rfl)) rfl rfl hl.1 rfl (lv_room (Nat.le_of_ble_eq_true rfl)) dX5_comesBy_99 ⟨Nat.zero_le _, Nat.zero_le _⟩) (fun r_5 hr_5 => ?_)
              have hr_5 : r_5 = nI (15 * (4 * (wf w) + (x / 15)) + (x % 15)) := hr_5
              rw [hr_5]
              refine k_iald hx hb hK hP 5 0 rfl rfl (n := 360) (v := nI (g (60 * wf w + x))) (by omega) (by decide) (ldx hgf (by omega) (by omega)) dX5_comesBy_102 ?_
              refine lv_aload_n hx hb dX5_comesBy_103 rfl (lv_at hl 1 rfl) ?_
              refine va_get (D := (dC, dI)) (ci := 5) (v := .ref bWl) (C := RX5) (T := TX5) (N := 35) hx hb hts hinX5 hown hK hP 0 rfl rfl 8 (by decide) lk23 (fun _ h9 => h9) rfl dX5_comesBy_104 ?_
              refine lv_iload_n hx hb dX5_comesBy_107 rfl (lv_at hl 2 rfl) ?_
              refine k_iald hx hb hK hP 4 0 rfl rfl (n := 9) (v := nI (wd w)) (by omega) (by decide) ((hpA.2 w hwn).2.2) dX5_comesBy_108 ?_
              refine k_iadd hx hb dX5_comesBy_109 ?_
              refine lv_iload hx hb dX5_comesBy_110 (lv_at hl 7 rfl) ?_
              refine k_icmp_ne (tgt := 119) hx hb dX5_comesBy_112 (by decide) (by omega) (by omega) (fun c112 => ?_) (fun c112 => ?_)
              · refine lv_iconst (v := nI 0) hx hb dX5_comesBy_119 (by decide) ?_
                refine lv_istore (lv' := [(7, .int (nI 0)), (9, .int (nI 1)), (0, .ref bM), (1, .int (nI w)), (2, .int (nI p)), (3, .int (nI t)), (4, .int (nI o)), (5, .int (nI (wf w))), (6, .int (nI d)), (8, .int (nI x))]) hx hb dX5_comesBy_120 hl (by decide) rfl (fun ls hl => ?_)
                refine lv_iinc (v := nI (x + 1)) (lv' := [(8, .int (nI (x + 1))), (7, .int (nI 0)), (9, .int (nI 1)), (0, .ref bM), (1, .int (nI w)), (2, .int (nI p)), (3, .int (nI t)), (4, .int (nI o)), (5, .int (nI (wf w))), (6, .int (nI d))]) hx hb dX5_comesBy_122 hl (k := 9) rfl (nI_add _ _) (by decide) rfl (fun ls hl => ?_)
                refine lv_goto (tgt := 28) hx hb dX5_comesBy_125 (by decide) ?_
                exact ih28 (x + 1) false (by omega) (by exact cb_no (P := (fun z => chg (kd (wf w)) (wf w) z = t * 15 + o ∧ g (60 * wf w + z) + wd w = d)) hb9 c75 (fun z => by have := z.2; omega)) (by omega) _ (lv_sub hl [3, 4, 5, 6, 7, 8, 9, 1, 0] rfl)
              · refine lv_iconst (v := nI 1) hx hb dX5_comesBy_115 (by decide) ?_
                refine lv_goto (tgt := 120) hx hb dX5_comesBy_116 (by decide) ?_
                refine lv_istore (lv' := [(7, .int (nI 1)), (9, .int (nI 1)), (0, .ref bM), (1, .int (nI w)), (2, .int (nI p)), (3, .int (nI t)), (4, .int (nI o)), (5, .int (nI (wf w))), (6, .int (nI d)), (8, .int (nI x))]) hx hb dX5_comesBy_120 hl (by decide) rfl (fun ls hl => ?_)
                refine lv_iinc (v := nI (x + 1)) (lv' := [(8, .int (nI (x + 1))), (7, .int (nI 1)), (9, .int (nI 1)), (0, .ref bM), (1, .int (nI w)), (2, .int (nI p)), (3, .int (nI t)), (4, .int (nI o)), (5, .int (nI (wf w))), (6, .int (nI d))]) hx hb dX5_comesBy_122 hl (k := 9) rfl (nI_add _ _) (by decide) rfl (fun ls hl => ?_)
                refine lv_goto (tgt := 28) hx hb dX5_comesBy_125 (by decide) ?_
                exact ih28 (x + 1) true (by omega) (by exact cb_yes (P := (fun z => chg (kd (wf w)) (wf w) z = t * 15 + o ∧ g (60 * wf w + z) + wd w = d)) (show chg (kd (wf w)) (wf w) x = t * 15 + o ∧ g (60 * wf w + x) + wd w = d from ⟨by omega, by omega⟩)) (by omega) _ (lv_sub hl [3, 4, 5, 6, 7, 8, 9, 1, 0] rfl)
  exact loop28 ((60 - 0) + 1) 0 false (by omega) (by exact cb_0 _) (by exact Nat.lt_succ_self _) _ (lv_sub hl [4, 5, 6, 7, 8, 3, 2, 1, 0] rfl)
