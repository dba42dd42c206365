/-! counts of bits, as the JDK counts them -/
theorem andI (a b : Nat) : nI a &&& nI b = nI (a &&& b) := by
  apply Int32.toBitVec_inj.1
  show BitVec.ofNat 32 a &&& BitVec.ofNat 32 b = BitVec.ofNat 32 (a &&& b)
  apply BitVec.eq_of_getLsbD_eq
  intro i hi
  simp [hi]
theorem orI (a b : Nat) : nI a ||| nI b = nI (a ||| b) := by
  apply Int32.toBitVec_inj.1
  show BitVec.ofNat 32 a ||| BitVec.ofNat 32 b = BitVec.ofNat 32 (a ||| b)
  apply BitVec.eq_of_getLsbD_eq
  intro i hi
  simp [hi]
theorem lush : ∀ k, k < 64 → (((nI k).toInt64.toUInt64 &&& Int64.toUInt64 63).toNat % 64) = k := by decide +kernel
theorem lushN {a : Nat} (ha : a < 2 ^ 64) {k : Nat} (hk : k < 64) : ((lN a).toUInt64 >>> ((nI k).toInt64.toUInt64 &&& Int64.toUInt64 63)).toInt64 = lN (a >>> k) := by
  apply Int64.toBitVec_inj.1
  apply BitVec.eq_of_toNat_eq
  show ((lN a).toUInt64 >>> ((nI k).toInt64.toUInt64 &&& Int64.toUInt64 63)).toNat = (BitVec.ofNat 64 (a >>> k)).toNat
  rw [UInt64.toNat_shiftRight, lush k hk]
  have e : (lN a).toUInt64.toNat = a := by
    show (BitVec.ofNat 64 a).toNat = a
    rw [BitVec.toNat_ofNat, Nat.mod_eq_of_lt ha]
  rw [e, BitVec.toNat_ofNat, Nat.mod_eq_of_lt (Nat.lt_of_le_of_lt (Nat.shiftRight_le a k) ha)]
def sw1 (n : Nat) : Nat := n - (n >>> 1 &&& 6148914691236517205)
def sw2 (n : Nat) : Nat := (n &&& 3689348814741910323) + (n >>> 2 &&& 3689348814741910323)
def sw3 (n : Nat) : Nat := n + n >>> 4 &&& 1085102592571150095
def sw4 (n : Nat) : Nat := n + n >>> 8
def sw5 (n : Nat) : Nat := n + n >>> 16
def sw6 (n : Nat) : Nat := n + n >>> 32
def swar (n : Nat) : Nat := sw6 (sw5 (sw4 (sw3 (sw2 (sw1 n))))) &&& 127
theorem land_split {a b x y k : Nat} (ha : a < 2 ^ k) (hx : x < 2 ^ k) : (2 ^ k * b + a) &&& (2 ^ k * y + x) = 2 ^ k * (b &&& y) + (a &&& x) := by
  apply Nat.eq_of_testBit_eq
  intro j
  rw [Nat.testBit_and, Nat.testBit_two_pow_mul_add _ ha, Nat.testBit_two_pow_mul_add _ hx, Nat.testBit_two_pow_mul_add _ (Nat.and_lt_two_pow _ hx)]
  split <;> rw [Nat.testBit_and]
theorem land8 {a b x y : Nat} (ha : a < 256) (hx : x < 256) : (256 * b + a) &&& (256 * y + x) = 256 * (b &&& y) + (a &&& x) := land_split (k := 8) ha hx
def tb1 (x : Nat) : Nat := x - (x / 2 &&& 85)
def tb2 (x : Nat) : Nat := (x &&& 51) + (x / 4 &&& 51)
def tb3 (x : Nat) : Nat := (x + x / 16) % 16
theorem tc1 : ∀ x, x < 256 → ∀ b, b < 2 → (b * 128 + x / 2) &&& 85 = x / 2 &&& 85 := by decide +kernel
theorem tc2 : ∀ x, x < 128 → x / 2 &&& 24019198012642645 = x / 2 &&& 85 := by decide +kernel
theorem tc3 : ∀ x, x < 256 → ∀ b, b < 4 → (b * 64 + x / 4) &&& 51 = x / 4 &&& 51 := by decide +kernel
theorem tc4 : ∀ x, x < 256 → x &&& 14411518807585587 = x &&& 51 := by decide +kernel
theorem tc5 : ∀ x, x < 256 → x &&& 4238682002231055 = x % 16 := by decide +kernel
theorem tc6 : ∀ x, x < 256 → x &&& 15 = x % 16 := by decide +kernel
theorem tc7 : ∀ a, a < 256 → tb2 (tb1 a) ≤ 68 ∧ tb2 (tb1 a) % 16 ≤ 4 := by decide +kernel
theorem tc8 : ∀ a, a < 256 → tb3 (tb2 (tb1 a)) = fb_ct (fun i => a.testBit i) 8 := by decide +kernel
theorem tc9 : ∀ a, a < 128 → tb3 (tb2 (tb1 a)) = fb_ct (fun i => a.testBit i) 7 := by decide +kernel
theorem tc10 : ∀ x, x < 16 → ∀ y, y < 16 → sw6 (sw5 (sw4 (256 * y + x))) &&& 127 = x + y := by decide +kernel
theorem sw1_2 {a b : Nat} (ha : a < 256) (hb : b < 128) : sw1 (256 * b + a) = 256 * tb1 b + tb1 a := by
  unfold sw1 tb1
  have e : (256 * b + a) >>> 1 = 256 * (b / 2) + (b % 2 * 128 + a / 2) := by
    rw [Nat.shiftRight_eq_div_pow]
    omega
  rw [e, show 6148914691236517205 = 256 * 24019198012642645 + 85 from rfl, land8 (by omega) (by omega), tc1 a ha _ (by omega), tc2 b hb]
  have h1 : a / 2 &&& 85 ≤ a / 2 := Nat.and_le_left
  have h2 : b / 2 &&& 85 ≤ b / 2 := Nat.and_le_left
  omega
theorem sw2_2 {x y : Nat} (hx : x < 256) (hy : y < 256) : sw2 (256 * y + x) = 256 * tb2 y + tb2 x := by
  unfold sw2 tb2
  have e : (256 * y + x) >>> 2 = 256 * (y / 4) + (y % 4 * 64 + x / 4) := by
    rw [Nat.shiftRight_eq_div_pow]
    omega
  rw [e, show 3689348814741910323 = 256 * 14411518807585587 + 51 from rfl, land8 hx (by omega), land8 (by omega) (by omega), tc3 x hx _ (by omega), tc4 y hy, tc4 (y / 4) (by omega)]
  omega
theorem sw3_2 {x y : Nat} (hx : x ≤ 68) (hy : y ≤ 68) (hy2 : y % 16 ≤ 4) : sw3 (256 * y + x) = 256 * tb3 y + tb3 x := by
  unfold sw3 tb3
  have e : 256 * y + x + (256 * y + x) >>> 4 = 256 * (y + y / 16) + (x + x / 16 + 16 * (y % 16)) := by
    rw [Nat.shiftRight_eq_div_pow]
    omega
  rw [e, show 1085102592571150095 = 256 * 4238682002231055 + 15 from rfl, land8 (by omega) (by omega), tc5 _ (by omega), tc6 _ (by omega)]
  omega
theorem swar_ok {n : Nat} (h : n < 32768) : swar n = fb_ct (fun i => n.testBit i) 15 := by
  have ha : n % 256 < 256 := by omega
  have hb : n / 256 < 128 := by omega
  have e : n = 256 * (n / 256) + n % 256 := by omega
  have hs : swar (256 * (n / 256) + n % 256) = tb3 (tb2 (tb1 (n % 256))) + tb3 (tb2 (tb1 (n / 256))) := by
    unfold swar
    have l1 : tb1 (n % 256) ≤ n % 256 := Nat.sub_le _ _
    have l2 : tb1 (n / 256) ≤ n / 256 := Nat.sub_le _ _
    have a1 := tc7 (n % 256) ha
    have a2 := tc7 (n / 256) (by omega)
    rw [sw1_2 ha hb, sw2_2 (by omega) (by omega), sw3_2 a1.1 a2.1 a2.2]
    exact tc10 _ (Nat.mod_lt _ (by omega)) _ (Nat.mod_lt _ (by omega))
  have hc : fb_ct (fun i => n.testBit i) 15 = fb_ct (fun i => (n % 256).testBit i) 8 + fb_ct (fun i => (n / 256).testBit i) 7 := by
    rw [show (15 : Nat) = 8 + 7 from rfl, fb_ct_split]
    congr 1
    · refine fb_ct_cong fun k hk => ?_
      have := Nat.testBit_two_pow_mul_add (n / 256) (i := 8) (show n % 256 < 2 ^ 8 from ha) k
      rw [show 2 ^ 8 * (n / 256) + n % 256 = n by omega, if_pos hk] at this
      exact this
    · refine fb_ct_cong fun k hk => ?_
      have := Nat.testBit_two_pow_mul_add (n / 256) (i := 8) (show n % 256 < 2 ^ 8 from ha) (8 + k)
      rw [show 2 ^ 8 * (n / 256) + n % 256 = n by omega, if_neg (by omega), show 8 + k - 8 = k by omega] at this
      exact this
  rw [hc, ← tc8 _ ha, ← tc9 _ hb, ← hs, ← e]
def popc (s : Nat) : Nat := fb_ct (fun i => s.testBit i) 6
theorem popc_le (s : Nat) : popc s ≤ 6 := fb_ct_le _ _
theorem pw_shl : ∀ n, n < 12 → nI 1 <<< (nI n &&& 31) = nI (2 ^ n) := by decide +kernel
section KN
variable {p : Program} {l : Launch} {e : Env} {R : Room} {s : State} {m : MethodId} {args : Array Value} {below : List Frame} {meth : Method} {c : Code} {H : Heap} {locs : List Loc} {cells slots : Nat} {Q : State → Prop}
variable {cc : ByteArray} {pc : Nat} {ls : Array Slot} {rest : List Value}
theorem k_nameL {x : Nat} (k : ∀ a : Nat, a = x → W p l e R s m args below meth c H locs cells slots Q (F0 m pc ls (.long (lN a) :: rest))) : W p l e R s m args below meth c H locs cells slots Q (F0 m pc ls (.long (lN x) :: rest)) := k x rfl
theorem k_nameI {x : Nat} (k : ∀ a : Nat, a = x → W p l e R s m args below meth c H locs cells slots Q (F0 m pc ls (.int (nI a) :: rest))) : W p l e R s m args below meth c H locs cells slots Q (F0 m pc ls (.int (nI x) :: rest)) := k x rfl
end KN
/-- the masked bits of a thing as a small number -/
def mskOf (x : Int64) (t : Nat) : Nat := ((x >>> ((nI (t * 15)).toInt64 &&& 63)) &&& 32767).toBitVec.toNat
theorem mskOf_eq (x : Int64) (t : Nat) : (x >>> ((nI (t * 15)).toInt64 &&& 63)) &&& 32767 = lN (mskOf x t) := by
  apply Int64.toBitVec_inj.1
  apply BitVec.eq_of_toNat_eq
  show _ = (BitVec.ofNat 64 (mskOf x t)).toNat
  rw [BitVec.toNat_ofNat]
  exact (Nat.mod_eq_of_lt (show mskOf x t < 2 ^ 64 from BitVec.isLt _)).symm
theorem mskOf_bit {x : Int64} {t i : Nat} (ht : t < 4) (hi : i < 15) : (mskOf x t).testBit i = bl x (t * 15 + i) := by
  have h : bl ((x >>> ((nI (t * 15)).toInt64 &&& 63)) &&& 32767) i = bl x (t * 15 + i) := by
    rw [bl_and, bl_shr _ (by omega) x (by omega), bl_one _ (by omega), if_pos (by omega)]
    simp [hi]
  rw [← h]
  unfold mskOf bl
  rw [BitVec.testBit_toNat]
theorem mskOf_lt (x : Int64) (t : Nat) : mskOf x t < 32768 := by
  have e : mskOf x t = (x >>> ((nI (t * 15)).toInt64 &&& 63)).toBitVec.toNat % 2 ^ 15 := by
    unfold mskOf
    rw [Int64.toBitVec_and, BitVec.toNat_and, show (32767 : Int64).toBitVec.toNat = 2 ^ 15 - 1 from rfl, Nat.and_two_pow_sub_one_eq_mod]
  rw [e]
  exact Nat.mod_lt _ (by decide)
theorem mskOf_cnt {f : Nat → Int64} {d q t : Nat} (ht : t < 4) : fb_ct (fun i => (mskOf (f (d * 6 + q)) t).testBit i) 15 = cntO f d q t := fb_ct_cong fun k hk => mskOf_bit ht hk
theorem cntO_le (f : Nat → Int64) (d q t : Nat) : cntO f d q t ≤ 15 := fb_ct_le _ _
/-- fog -/
theorem fog_b {x : Int64} {d : Nat} (hd : d < 64) : (x >>> ((nI d).toInt64 &&& 63)) &&& 1 = 0 ↔ bl x d = false := by
  have h0 : bl ((x >>> ((nI d).toInt64 &&& 63)) &&& 1) 0 = bl x d := by
    rw [bl_and, bl_shr d hd x (by omega), bl_1 0 (by omega), if_pos (by omega)]
    simp
  constructor
  · intro h
    rw [← h0, h, bl_0]
  · intro h
    refine bl_ext fun i hi => ?_
    rw [bl_0]
    by_cases e : i = 0
    · subst e; rw [h0, h]
    · rw [bl_and, bl_1 i hi, decide_eq_false e, Bool.and_false]
/-! what is planted -/
theorem planted_0 {f : Nat → Int64} (h : ∀ j, j < 360 → f j = 0) : planted (fun _ _ _ => False) f := fun day p i h1 h2 h3 => by
  unfold hbit
  rw [h _ (by omega), bl_0]
  constructor
  · intro z; cases z
  · rintro ⟨-, z⟩; exact z.elim
theorem planted_put {S S2 : Nat → Nat → Nat → Prop} {g g2 : Nat → Int64} {d q r : Nat} (h : planted S g) (hd : d < 60) (hq : q < 6) (hr : r < 60) (e : g2 = vp_updL g (d * 6 + q) (g (d * 6 + q) ||| rum r)) (hS : ∀ d1 p1 r1, S2 d1 p1 r1 ↔ S d1 p1 r1 ∨ (d1 = d ∧ p1 = q ∧ r1 = r)) : planted S2 g2 := fun day p i h1 h2 h3 => by
  rw [e, hbit_upd hq h2, hS]
  by_cases z : day = d ∧ p = q
  · obtain ⟨rfl, rfl⟩ := z
    rw [if_pos ⟨rfl, rfl⟩, bl_or, Bool.or_eq_true, show bl (g (day * 6 + p)) i = hbit g day p i from rfl, h day p i h1 h2 h3, bl_rum (by omega) h3, decide_eq_true_iff]
    constructor
    · rintro (⟨a, b⟩ | rfl)
      · exact ⟨a, Or.inl b⟩
      · exact ⟨hr, Or.inr ⟨rfl, rfl, rfl⟩⟩
    · rintro ⟨a, b | ⟨-, -, b⟩⟩
      · exact Or.inl ⟨a, b⟩
      · exact Or.inr b
  · rw [if_neg z, h day p i h1 h2 h3]
    constructor
    · rintro ⟨a, b⟩; exact ⟨a, Or.inl b⟩
    · rintro ⟨a, b | ⟨b, c, -⟩⟩
      · exact ⟨a, b⟩
      · exact absurd ⟨b, c⟩ z
theorem planted_cong {S S2 : Nat → Nat → Nat → Prop} {g : Nat → Int64} (h : planted S g) (hS : ∀ d p r, S2 d p r ↔ S d p r) : planted S2 g := fun day p i h1 h2 h3 => by rw [h day p i h1 h2 h3, hS]
/-- what the tellings tell, but for one -/
def tellS (tp tt td : Nat → Nat) (nt : Nat) (wo : Int32) : Nat → Nat → Nat → Prop := fun d p r => ∃ k, k < nt ∧ ¬ nI k = wo ∧ td k = d ∧ tp k = p ∧ tt k * 15 + k = r
theorem tellS_0 (tp tt td : Nat → Nat) (wo : Int32) : ∀ d p r, tellS tp tt td 0 wo d p r ↔ False := fun d p r => ⟨fun ⟨k, h, _⟩ => absurd h (Nat.not_lt_zero k), fun h => h.elim⟩
theorem tellS_no {tp tt td : Nat → Nat} {k : Nat} {wo : Int32} (h : nI k = wo) : ∀ d p r, tellS tp tt td (k + 1) wo d p r ↔ tellS tp tt td k wo d p r := fun d p r => by
  constructor
  · rintro ⟨j, a, b, c⟩
    refine ⟨j, ?_, b, c⟩
    have : j ≠ k := fun e => b (e ▸ h)
    omega
  · rintro ⟨j, a, b, c⟩; exact ⟨j, by omega, b, c⟩
theorem tellS_yes {tp tt td : Nat → Nat} {k : Nat} {wo : Int32} (h : ¬ nI k = wo) : ∀ d p r, tellS tp tt td (k + 1) wo d p r ↔ tellS tp tt td k wo d p r ∨ (d = td k ∧ p = tp k ∧ r = tt k * 15 + k) := fun d p r => by
  constructor
  · rintro ⟨j, a, b, c1, c2, c3⟩
    by_cases e : j = k
    · subst e; exact Or.inr ⟨c1.symm, c2.symm, c3.symm⟩
    · exact Or.inl ⟨j, by omega, b, c1, c2, c3⟩
  · rintro (⟨j, a, b, c⟩ | ⟨c1, c2, c3⟩)
    · exact ⟨j, by omega, b, c⟩
    · exact ⟨k, by omega, h, c1.symm, c2.symm, c3.symm⟩
def tellA (np nt : Nat) (tp tt td : Nat → Nat) (fTp fTt fTd : Nat → Int32) : Prop := nt ≤ 8 ∧ ∀ k, k < nt → (fTp k = nI (tp k) ∧ tp k < np) ∧ (fTt k = nI (tt k) ∧ tt k < 4) ∧ fTd k = nI (td k) ∧ td k < 60
/-- each of a set of persons told on day 0 -/
def setS (st t : Nat) (n : Nat) : Nat → Nat → Nat → Prop := fun d p r => d = 0 ∧ p < n ∧ st.testBit p = true ∧ r = t * 15 + p
theorem setS_0 (st t : Nat) : ∀ d p r, setS st t 0 d p r ↔ False := fun d p r => ⟨fun h => absurd h.2.1 (Nat.not_lt_zero p), fun h => h.elim⟩
theorem setS_no {st t k : Nat} (h : st.testBit k = false) : ∀ d p r, setS st t (k + 1) d p r ↔ setS st t k d p r := fun d p r => by
  constructor
  · rintro ⟨a, b, c, e⟩
    have : p ≠ k := fun z => by rw [z, h] at c; cases c
    exact ⟨a, by omega, c, e⟩
  · rintro ⟨a, b, c, e⟩; exact ⟨a, by omega, c, e⟩
theorem setS_yes {st t k : Nat} (h : st.testBit k = true) : ∀ d p r, setS st t (k + 1) d p r ↔ setS st t k d p r ∨ (d = 0 ∧ p = k ∧ r = t * 15 + k) := fun d p r => by
  constructor
  · rintro ⟨a, b, c, e⟩
    by_cases z : p = k
    · subst z; exact Or.inr ⟨a, rfl, e⟩
    · exact Or.inl ⟨a, by omega, c, e⟩
  · rintro (⟨a, b, c, e⟩ | ⟨a, rfl, e⟩)
    · exact ⟨a, by omega, c, e⟩
    · exact ⟨a, by omega, h, e⟩
/-! what is forged -/
noncomputable def cntH (H : Nat → Nat → Nat → Prop) (d p t : Nat) : Nat := fb_ct (fun o => pB (H d p (t * 15 + o))) 15
noncomputable def fday (H : Nat → Nat → Nat → Prop) (lw : Nat) (fg : Nat → Bool) (p t : Nat) : Nat := fstN (fun d => !fg d && decide (lw ≤ cntH H d p t)) 60
noncomputable def wrkB (H : Nat → Nat → Nat → Prop) (lw : Nat) (fg : Nat → Bool) (sm d i : Nat) : Bool := sm.testBit (i / 4) && decide (fday H lw fg (i / 4) (i % 4) ≤ d)
noncomputable def wrk (H : Nat → Nat → Nat → Prop) (lw : Nat) (fg : Nat → Bool) (sm np d : Nat) : Nat := fb_ct (wrkB H lw fg sm d) (4 * np)
theorem cnt_talked {H : Nat → Nat → Nat → Prop} {f : Nat → Int64} (h : talked H f) {d p t : Nat} (hd : d < 60) (hp : p < 6) (ht : t < 4) : cntO f d p t = cntH H d p t := fb_ct_cong fun o ho => by
  have := h d p (t * 15 + o) hd hp (by omega)
  cases hb : hbit f d p (t * 15 + o)
  · symm
    rw [pB_f]
    intro z
    rw [this.mpr ⟨by omega, z⟩] at hb
    cases hb
  · symm
    rw [pB_t]
    exact (this.mp hb).2
theorem cntH_mono {H H2 : Nat → Nat → Nat → Prop} {d d2 p t : Nat} (h : ∀ r, r < 60 → H d p r → H2 d2 p r) (ht : t < 4) : cntH H d p t ≤ cntH H2 d2 p t := fb_ct_sub fun k hk hb => pB_t.mpr (h _ (by omega) (pB_t.mp hb))
def upH (H : Nat → Nat → Nat → Prop) : Prop := ∀ d d2 p r, d ≤ d2 → H d p r → H d2 p r
theorem upH_hrd {nw : Nat} {wf wt wd kd : Nat → Nat} {act : Nat → Prop} {S : Nat → Nat → Nat → Prop} : upH (hrd nw wf wt wd kd act S) := fun _ _ _ _ h z => hrd_le z h
theorem fday_low {H : Nat → Nat → Nat → Prop} (hu : upH H) {lw : Nat} {fg : Nat → Bool} {p t : Nat} (ht : t < 4) (h : cntH H 59 p t < lw) : fday H lw fg p t = 999 := (fstN_none (by omega)).mpr fun d hd => by
  have := cntH_mono (d := d) (d2 := 59) (p := p) (fun r _ z => hu d 59 p r (by omega) z) ht
  have : ¬ lw ≤ cntH H d p t := by omega
  simp [this]
theorem fday_lt {H : Nat → Nat → Nat → Prop} {lw : Nat} {fg : Nat → Bool} {p t : Nat} : fday H lw fg p t = 999 ∨ fday H lw fg p t < 60 := by
  rcases fstN_lt (P := fun d => !fg d && decide (lw ≤ cntH H d p t)) (n := 60) with h | h
  · exact Or.inl h
  · exact Or.inr h.1
theorem kNone_ne {H : Nat → Nat → Nat → Prop} {lw : Nat} {fg : Nat → Bool} {p t : Nat} (h : ¬ kNone (fday H lw fg p t) = (-9)) : kNone (fday H lw fg p t) = nI (fday H lw fg p t) ∧ fday H lw fg p t < 60 := by
  rcases fday_lt (H := H) (lw := lw) (fg := fg) (p := p) (t := t) with z | z
  · exact absurd (by unfold kNone; rw [if_pos z]) h
  · exact ⟨by unfold kNone; rw [if_neg (by omega)], z⟩
theorem kNone_eq {H : Nat → Nat → Nat → Prop} {lw : Nat} {fg : Nat → Bool} {p t : Nat} (h : kNone (fday H lw fg p t) = (-9)) : fday H lw fg p t = 999 := by
  rcases fday_lt (H := H) (lw := lw) (fg := fg) (p := p) (t := t) with z | z
  · exact z
  · unfold kNone at h
    rw [if_neg (by omega)] at h
    have : (nI (fday H lw fg p t)).toInt = (-9 : Int32).toInt := by rw [h]
    rw [nI_toInt (by omega), show (-9 : Int32).toInt = -9 from rfl] at this
    omega
/-- a set as a sum of its bits -/
def mskN (P : Nat → Bool) : Nat → Nat
  | 0 => 0
  | n + 1 => mskN P n + (if P n = true then 2 ^ n else 0)
theorem mskN_lt (P : Nat → Bool) : ∀ n, mskN P n < 2 ^ n
  | 0 => Nat.one_pos
  | n + 1 => by
    have h := mskN_lt P n
    show mskN P n + (if P n = true then 2 ^ n else 0) < 2 ^ (n + 1)
    rw [Nat.pow_succ]
    split <;> omega
theorem mskN_or {P : Nat → Bool} {n : Nat} (hn : n < 12) (h : P n = true) : nI (mskN P n) ||| (nI 1 <<< (nI n &&& 31)) = nI (mskN P (n + 1)) := by
  rw [pw_shl n hn, orI]
  show nI _ = nI (mskN P n + (if P n = true then 2 ^ n else 0))
  rw [if_pos h, Nat.or_comm, ← Nat.mul_one (2 ^ n), Nat.two_pow_add_eq_or_of_lt (mskN_lt P n) 1 |>.symm, Nat.add_comm]
theorem mskN_no {P : Nat → Bool} {n : Nat} (h : P n = false) : mskN P (n + 1) = mskN P n := by
  show mskN P n + (if P n = true then 2 ^ n else 0) = mskN P n
  rw [h]; rfl
theorem mskN_yes {P : Nat → Bool} {n : Nat} (h : P n = true) : mskN P (n + 1) = mskN P n + 2 ^ n := by
  show mskN P n + (if P n = true then 2 ^ n else 0) = mskN P n + 2 ^ n
  rw [h]; rfl
theorem mskN_cong {P Q : Nat → Bool} : ∀ {n : Nat}, (∀ k, k < n → P k = Q k) → mskN P n = mskN Q n
  | 0, _ => rfl
  | n + 1, h => by
    show mskN P n + (if P n = true then 2 ^ n else 0) = mskN Q n + (if Q n = true then 2 ^ n else 0)
    rw [mskN_cong (fun k hk => h k (by omega)), h n (by omega)]
/-- works, person by person -/
theorem wrk_no {H : Nat → Nat → Nat → Prop} {lw : Nat} {fg : Nat → Bool} {sm d p : Nat} (h : sm.testBit p = false) : fb_ct (wrkB H lw fg sm d) (4 * (p + 1)) = fb_ct (wrkB H lw fg sm d) (4 * p) := by
  have e : 4 * (p + 1) = 4 * p + 4 := by omega
  rw [e, fb_ct_split]
  have : fb_ct (fun k => wrkB H lw fg sm d (4 * p + k)) 4 = 0 := fb_ct_zero.mpr fun k hk => by
    unfold wrkB
    rw [show (4 * p + k) / 4 = p by omega, h]
    rfl
  omega
theorem wrk_one {H : Nat → Nat → Nat → Prop} {lw : Nat} {fg : Nat → Bool} {sm d p t : Nat} (ht : t < 4) (h : sm.testBit p = true) : wrkB H lw fg sm d (4 * p + t) = decide (fday H lw fg p t ≤ d) := by
  unfold wrkB
  rw [show (4 * p + t) / 4 = p by omega, show (4 * p + t) % 4 = t by omega, h]
  exact Bool.true_and _
