/-! plain facts for the sheets' calls -/
theorem kla_n {z : Nat} (h : z ≤ 3) : kla z = (-1) ↔ z = 3 := by
  rcases (show z = 0 ∨ z = 1 ∨ z = 2 ∨ z = 3 by omega) with rfl | rfl | rfl | rfl <;> decide
theorem kla_lt {z : Nat} (h : z < 3) : kla z = nI z := by unfold kla; rw [if_neg (by omega)]
theorem kla_inj {a b : Nat} (ha : a ≤ 3) (hb : b ≤ 3) : kla a = kla b ↔ a = b := by
  rcases (show a = 0 ∨ a = 1 ∨ a = 2 ∨ a = 3 by omega) with rfl | rfl | rfl | rfl <;> rcases (show b = 0 ∨ b = 1 ∨ b = 2 ∨ b = 3 by omega) with rfl | rfl | rfl | rfl <;> decide
theorem shs_up {L sn : Nat → Nat} {k a b : Nat} (h : shsOk L sn) (ha : a ≤ 3) (hb : b ≤ 60) (hc : a = 3 → b = 0) : shsOk (upN L k a) (upN sn k b) := fun j hj => by
  unfold upN
  by_cases z : j = k
  · rw [if_pos z, if_pos z]; exact ⟨ha, hb, hc⟩
  · rw [if_neg z, if_neg z]; exact h j hj
theorem put_rel {f c f1 : Nat → Int32} {n i : Nat} {v : Int32} (h : ∀ j, j < n → f j = c j) (e : f1 = upd f i v) : ∀ j, j < n → f1 j = upd c i v j := fun j hj => by
  rw [e]
  by_cases z : j = i
  · subst z; rw [pk_us, pk_us]
  · rw [pk_un z, pk_un z]; exact h j hj
theorem le_of {x : Int32} (h : x ≤ nI 60) (h0 : 0 ≤ x) : ∃ j, j ≤ 60 ∧ x = nI j := by
  obtain ⟨j, hj, rfl⟩ := nI_of (Int32.not_lt.mpr h0)
  exact ⟨j, (nI_leI hj (by omega)).mp h, rfl⟩
theorem kcells_of {le : Nat} {i n : Int32} (hle : le ≤ 60) (h : kcells le i n = true) (hn : ¬ n < 0) : ∃ a b, i = nI a ∧ n = nI b ∧ a + b ≤ le := by
  unfold kcells at h
  rw [decide_eq_true_iff] at h
  have hi : ¬ i < 0 := fun z => by
    have := Int32.lt_iff_toInt_lt.mp z
    rw [show (0 : Int32).toInt = 0 from rfl] at this
    omega
  obtain ⟨a, ha, rfl⟩ := nI_of hi
  obtain ⟨b, hb, rfl⟩ := nI_of hn
  rw [nI_toInt ha, nI_toInt hb] at h
  exact ⟨a, b, rfl, rfl, by omega⟩
theorem kf0 {la : Int32} {le : Nat} {z i n : Int32} (hle : le ≤ 60) (h : kfcells la le z i n = 0) : ∃ a b, i = nI a ∧ n = nI b ∧ a + b ≤ le := by
  unfold kfcells at h
  by_cases h1 : kfrow la z ≠ 0
  · rw [if_pos h1] at h; exact absurd h h1
  · rw [if_neg h1] at h
    by_cases h2 : n < 0
    · rw [if_pos h2] at h; exact absurd h (by decide)
    · rw [if_neg h2] at h
      by_cases h3 : kcells le i n = true
      · exact kcells_of hle h3 h2
      · rw [if_neg h3] at h; exact absurd h (by decide)
theorem rows_cells {f c : Nat → Int32} {i n m np : Nat} (h : ∀ j, j < m → f j = c j) (hin : i + n ≤ m) : allN (fun k => blw (f (i + k)) np) n = allN (fun k => blw (c (i + k)) np) n := allN_cong fun k hk => by rw [h _ (by omega)]
theorem rowS_cells {f c : Nat → Int32} {i n m t : Nat} (h : ∀ j, j < m → f j = c j) (hin : i + n ≤ m) : rowS (fun k => f (i + k)) t n = rowS (fun k => c (i + k)) t n := by
  funext d p r
  refine propext ⟨fun ⟨a, b, e⟩ => ⟨a, ?_, e⟩, fun ⟨a, b, e⟩ => ⟨a, ?_, e⟩⟩
  · show (c (i + d)).toNatClampNeg = p
    rw [← h (i + d) (by omega)]; exact b
  · show (f (i + d)).toNatClampNeg = p
    rw [h (i + d) (by omega)]; exact b
theorem kcode_cells {f c : Nat → Int32} {i n m : Nat} (h : ∀ j, j < m → f j = c j) (hin : i + n ≤ m) : kcode f i n = kcode c i n := by
  funext q
  unfold kcode
  by_cases z : q < n
  · rw [if_pos z, if_pos z, h _ (by omega)]
  · rw [if_neg z, if_neg z]
theorem cpy_rel {f g c e : Nat → Int32} {a b i j n : Nat} (hf : ∀ k, k < a → f k = c k) (hg : ∀ k, k < b → g k = e k) (hi : i + n ≤ a) : ∀ k, k < b → va_cpy f g i j n k = va_cpy c e i j n k := fun k hk => by
  unfold va_cpy
  by_cases z : j ≤ k ∧ k < j + n
  · rw [if_pos z, if_pos z, hf _ (by omega)]
  · rw [if_neg z, if_neg z, hg k hk]
theorem iteO {p : Prop} [Decidable p] {a b : Nat} (ha : a = 999 ∨ a < 900) (hb : b = 999 ∨ b < 900) : (if p then a else b) = 999 ∨ (if p then a else b) < 900 := by
  split
  · exact ha
  · exact hb
theorem pFlt_lt (c : Nat → Int32) (n : Nat) (hn : n ≤ 60) : pFlt c n = 999 ∨ pFlt c n < 900 := by
  have h1 := nPer_le c
  have h2 := nWay_le c (nPer c)
  have h3 : wPl (nPer c) (nWay c (nPer c)) ≤ 49 := by unfold wPl; omega
  have h4 : pFltP c = 999 ∨ pFltP c < 900 := by
    rcases pFltP_lt (c := c) with z | z
    · left; exact z
    · right; omega
  have h5 : pFltW c (nPer c) n = 999 ∨ pFltW c (nPer c) n < 900 := by
    unfold pFltW
    exact iteO (iteO (Or.inr (by omega)) (iteO (Or.inr (by omega)) (Or.inr (by omega)))) (iteO (Or.inl (Eq.refl 999)) (Or.inr (by omega)))
  unfold pFlt
  exact iteO (iteO h5 h4) (Or.inr (by omega))
theorem kSound_i {v : Nat} (hv : v = 999 ∨ v < 900) : kSound v = (-1) ↔ v = 999 := by
  constructor
  · intro h
    rcases hv with z | z
    · exact z
    · unfold kSound at h
      rw [if_neg (by omega)] at h
      have h3 := congrArg Int32.toInt h
      rw [nI_toInt (by omega), show (-1 : Int32).toInt = -1 from rfl] at h3
      omega
  · intro h; rw [h]; rfl
theorem talk_hi {H : Nat → Nat → Nat → Prop} {f : Nat → Int64} (h : talked H f) : ∀ day p i, day < 60 → p < 6 → 60 ≤ i → hbit f day p i = false := fun day p i h1 h2 h3 => by
  rcases Nat.lt_or_ge i 64 with q | q
  · cases hb : hbit f day p i
    · rfl
    · have := ((h day p i h1 h2 q).mp hb).1
      omega
  · exact bl_big q
theorem pass_s {c : Nat → Int32} (K : Nat) (h : K ≤ 6) : mskN (aB c) K < 64 := Nat.lt_of_lt_of_le (mskN_lt _ _) (pw64 h)
theorem pFlt_ok {c : Nat → Int32} {n : Nat} (h : pFlt c n = 999) : pFltP c = 999 := by
  unfold pFlt at h
  by_cases h1 : c 0 = nI 105
  · rw [if_pos h1] at h
    by_cases h2 : pFltP c = 999
    · exact h2
    · rw [if_neg h2] at h; exact h
  · rw [if_neg h1] at h; exact absurd h (by decide)
theorem wOK_s {c : Nat → Int32} {K w : Nat} (h : wOK c K w = true) : dFr c K w ≠ 999 ∧ dTo c K w ≠ 999 ∧ dDa c K w ≠ 999 := by
  unfold wOK at h
  simp only [Bool.and_eq_true, decide_eq_true_eq] at h
  exact ⟨h.2.1, h.2.2.1, h.2.2.2⟩
theorem pass_w {c : Nat → Int32} {n : Nat} (h : pFlt c n = 999) : waysOk (nPer c) (nWay c (nPer c)) (dFr c (nPer c)) (dTo c (nPer c)) (dDa c (nPer c)) (fun k => kindN (c (1 + 2 * k))) := by
  have h1 := nPer_le c
  have h2 := nPer_ge2 (pFlt_ok h)
  refine ⟨h1, nWay_le _ _, fun j hj => ?_, fun w hw => ?_⟩
  · have := upto_t (P := pOK c) hj
    unfold pOK kOK at this
    simp only [Bool.and_eq_true, decide_eq_true_eq] at this
    rcases kindN_lt (c (1 + 2 * j)) with z | z
    · exact absurd z this.1
    · exact z
  · have := wOK_s (upto_t (P := wOK c (nPer c)) hw)
    have a1 : dFr c (nPer c) w = 999 ∨ (0 ≤ dFr c (nPer c) w ∧ dFr c (nPer c) w ≤ nPer c - 1) := digN_lt
    have a2 : dTo c (nPer c) w = 999 ∨ (0 ≤ dTo c (nPer c) w ∧ dTo c (nPer c) w ≤ nPer c - 1) := digN_lt
    have a3 : dDa c (nPer c) w = 999 ∨ (1 ≤ dDa c (nPer c) w ∧ dDa c (nPer c) w ≤ 9) := digN_lt
    omega
theorem pass_p {c : Nat → Int32} {f0 f1 f2 f3 : Nat → Int32} (h0 : ∀ j, j < nPer c → f0 j = nI (kindN (c (1 + 2 * j)))) (h1 : ∀ j, j < nWay c (nPer c) → f1 j = nI (dFr c (nPer c) j)) (h2 : ∀ j, j < nWay c (nPer c) → f2 j = nI (dTo c (nPer c) j)) (h3 : ∀ j, j < nWay c (nPer c) → f3 j = nI (dDa c (nPer c) j)) : pplA (nPer c) (nWay c (nPer c)) (fun k => kindN (c (1 + 2 * k))) (dFr c (nPer c)) (dTo c (nPer c)) (dDa c (nPer c)) f0 f1 f2 f3 :=
  ⟨h0, fun w hw => ⟨h1 w hw, h2 w hw, h3 w hw⟩⟩
theorem andFl {a b : Bool} (h : a = false) : (a && b) = false := by rw [h]; rfl
theorem andFr {a b : Bool} (h : b = false) : (a && b) = false := by rw [h]; simp
theorem kcells_of2 {le n : Nat} {i : Int32} (hn : n < 2 ^ 31) (h : kcells le i (nI n) = true) : ∃ a, i = nI a ∧ a + n ≤ le := by
  unfold kcells at h
  rw [decide_eq_true_iff] at h
  have hi : ¬ i < 0 := fun z => by
    have := Int32.lt_iff_toInt_lt.mp z
    rw [show (0 : Int32).toInt = 0 from rfl] at this
    omega
  obtain ⟨a, ha, rfl⟩ := nI_of hi
  rw [nI_toInt ha, nI_toInt hn] at h
  exact ⟨a, rfl, by omega⟩
section KCP
variable {p : Program} {l : Launch} {e : Env} {R : Room} {s : State} {m : MethodId} {args : Array Value} {below : List Frame} {meth : Method} {c : Code} {H : Heap} {locs : List Loc} {cells slots : Nat} {Q : State → Prop}
variable {cc : ByteArray} {pc : Nat} {ls : Array Slot} {rest : List Value} {A0 : Nat → Prop} {H0 : Heap}
variable {D : va_G} {tys : List (ClassId × FieldType)} {ws : va_W}
theorem k_copy (hexec : p.tables.exec = Jvm.exec) (hb : c.code = cc) (hml : c.maxLocals = ls.size) {own : String} {index : Nat} (hown : s.vm.findClass own = some m.cls) (hlink : (Cond.methodLink own index arraycopyName).before args s = true) (hnat : (Cond.native arraycopyName).before args s = true) (hstat : (Cond.static arraycopyName).before args s = true) (hini : (Cond.initialized "java/lang/System").before args s = true)
    (hK : va_K D vwCl tys s) (hP : va_P D vwCl ws H) (hD : va_D A0 ws) (hS : va_S A0 H0 H locs) (q0 q1 t0 : Nat) {a0 a1 : Nat} {cA : ClassId} {n0 n1 : Nat} {f g : Nat → Int32} (ha0 : ws[q0]? = some (a0, .inl (cA, n0, .inl f))) (ha1 : ws[q1]? = some (a1, .inl (cA, n1, .inl g))) (ht : tys[t0]? = some (cA, .int))
    {sp dp n : Nat} (h4 : sp + n ≤ n0) (h5 : dp + n ≤ n1) (hn0 : n0 < 2 ^ 31) (hn1 : n1 < 2 ^ 31) (hframes : 1 ≤ R.frames) (hlocals : (rest.map fun v => v.category).sum + (nativeFrameWords "java/lang/System" "arraycopy" 5 + 11) ≤ R.locals) (hdg : decode cc pc = .ok (.invokestatic index, 3))
    (kk : ∀ (f1 : Nat → Int32) (H1 : Heap) (locs1 : List Loc), f1 = va_cpy f g sp dp n → va_P D vwCl (ws.set q1 (a1, .inl (cA, n1, .inl f1))) H1 → va_D A0 (ws.set q1 (a1, .inl (cA, n1, .inl f1))) → va_S A0 H0 H1 locs1 → W p l e R s m args below meth c H1 locs1 cells slots Q (F0 m (pc + 3) ls rest)) : W p l e R s m args below meth c H locs cells slots Q (F0 m pc ls (.int (nI n) :: .int (nI dp) :: .ref a1 :: .int (nI sp) :: .ref a0 :: rest)) := by
  have e1 : (nI sp).toNatClampNeg = sp := nI_clamp (by omega)
  have e2 : (nI dp).toNatClampNeg = dp := nI_clamp (by omega)
  have e3 : (nI n).toNatClampNeg = n := nI_clamp (by omega)
  refine va_copyi hexec hb hml hown hlink hnat hstat hini hK hP hD hS q0 q1 t0 t0 ha0 ha1 ht ht rfl (nI_pos (by omega)) (nI_pos (by omega)) (nI_pos (by omega)) (by rw [e1, e3]; exact h4) (by rw [e2, e3]; exact h5) (fun _ _ => rfl) hframes hlocals hdg (fun H1 locs1 hP1 hD1 hS1 => ?_)
  rw [e1, e2, e3] at hP1 hD1
  exact kk _ H1 locs1 rfl hP1 hD1 hS1
end KCP
theorem pathN_t (np : Nat) (kd : Nat → Nat) (sm : Nat) (hm : Nat) (nw : Nat) (wf : Nat → Nat) (wt : Nat → Nat) (wd : Nat → Nat) (lw : Nat) (fg : Nat → Bool) (nt : Nat) (tp : Nat → Nat) (tt : Nat → Nat) (td : Nat → Nat) (nr : Nat) (rp : Nat → Nat) (rt : Nat → Nat) (rd : Nat → Nat) (rh : Nat → Bool) (tr : Int32) (fa : Nat) (L : Nat → Nat) (sn : Nat → Nat) (sc : Nat → Nat → Int32) (p t o : Nat) : pathN (np, kd, sm, hm, nw, wf, wt, wd, lw, fg, nt, tp, tt, td, nr, rp, rt, rd, rh, tr, fa, L, sn, sc) p t o = if (fstN (fun d => pB ((hrd nw wf wt wd kd (actW hm (-1) wf) (tellS tp tt td nt (-1))) d p (t * 15 + o))) 60) = 999 then (-9) else if o < nt ∧ tp o = p ∧ tt o = t then nI (90 + o) else kNone (fstN (wayH (hrd nw wf wt wd kd (actW hm (-1) wf) (tellS tp tt td nt (-1))) nw wf wt wd kd hm p (fstN (fun d => pB ((hrd nw wf wt wd kd (actW hm (-1) wf) (tellS tp tt td nt (-1))) d p (t * 15 + o))) 60) (t * 15 + o)) nw) := by
  unfold pathN sH
  simp only [s_np, s_kd, s_sm, s_hm, s_nw, s_wf, s_wt, s_wd, s_lw, s_fg, s_nt, s_tp, s_tt, s_td, s_nr, s_rp, s_rt, s_rd, s_rh, s_tr, s_fa, s_L, s_sn, s_sc]
  congr
theorem rowsH_t (np : Nat) (kd : Nat → Nat) (sm : Nat) (hm : Nat) (nw : Nat) (wf : Nat → Nat) (wt : Nat → Nat) (wd : Nat → Nat) (lw : Nat) (fg : Nat → Bool) (nt : Nat) (tp : Nat → Nat) (tt : Nat → Nat) (td : Nat → Nat) (nr : Nat) (rp : Nat → Nat) (rt : Nat → Nat) (rd : Nat → Nat) (rh : Nat → Bool) (tr : Int32) (fa : Nat) (L : Nat → Nat) (sn : Nat → Nat) (sc : Nat → Nat → Int32) (t k i n : Nat) : rowsH (np, kd, sm, hm, nw, wf, wt, wd, lw, fg, nt, tp, tt, td, nr, rp, rt, rd, rh, tr, fa, L, sn, sc) t k i n = if allN (fun m => blw (sc k (i + m)) np) n = true then nI (wrk (hrd nw wf wt wd kd (actW hm (-1) wf) (rowS (fun m => sc k (i + m)) t n)) lw fg sm np 59) else (-1) := by
  unfold rowsH sWrk
  simp only [s_np, s_kd, s_sm, s_hm, s_nw, s_wf, s_wt, s_wd, s_lw, s_fg, s_nt, s_tp, s_tt, s_td, s_nr, s_rp, s_rt, s_rd, s_rh, s_tr, s_fa, s_L, s_sn, s_sc]
  congr
