/-! plain facts for what is asked -/
theorem fst_foundN {P : Nat → Bool} {d n : Nat} (h0 : fstN P d = 999) (hP : P d = true) (hd : d < n) (hn : n < 999) : nI d = kNone (fstN P n) := by
  rw [fstN_hit h0 hP (by omega) hd]
  unfold kNone
  rw [if_neg (by omega)]
noncomputable def wayP (nw : Nat) (wf wt wd kd : Nat → Nat) (hm : Nat) (f : Nat → Int64) (q d n w : Nat) : Bool := decide (wt w = q) && pB (broughtB nw wf wd kd hm f w d n)
theorem wayP_ne {nw : Nat} {wf wt wd kd : Nat → Nat} {hm : Nat} {f : Nat → Int64} {q d n w : Nat} (h : wt w ≠ q) : wayP nw wf wt wd kd hm f q d n w = false := by
  unfold wayP; simp [h]
theorem wayP_no {nw : Nat} {wf wt wd kd : Nat → Nat} {hm : Nat} {f : Nat → Int64} {q d n w : Nat} {r : Int64} (hn : n < 60) (hr : ∀ i, i < 64 → (bl r i = true ↔ i < 60 ∧ broughtB nw wf wd kd hm f w d i)) (h : r &&& rum n = 0) : wayP nw wf wt wd kd hm f q d n w = false := by
  have h1 := (rum_and (by omega)).mp h
  have : pB (broughtB nw wf wd kd hm f w d n) = false := pB_f.mpr fun z => by
    rw [(hr n (by omega)).mpr ⟨hn, z⟩] at h1; cases h1
  unfold wayP
  rw [this, Bool.and_false]
theorem wayP_yes {nw : Nat} {wf wt wd kd : Nat → Nat} {hm : Nat} {f : Nat → Int64} {q d n w : Nat} {r : Int64} (hn : n < 60) (e : wt w = q) (hr : ∀ i, i < 64 → (bl r i = true ↔ i < 60 ∧ broughtB nw wf wd kd hm f w d i)) (h : ¬ r &&& rum n = 0) : wayP nw wf wt wd kd hm f q d n w = true := by
  have h1 : bl r n = true := by
    cases hb : bl r n
    · exact absurd ((rum_and (by omega)).mpr hb) h
    · rfl
  unfold wayP
  rw [pB_t.mpr ((hr n (by omega)).mp h1).2, e]
  simp
def krefS (np sm : Nat) (x y z : Int32) : Int32 := if blw x np = true then (if (blw y 4 && blw z 60) = true then (if sm.testBit x.toNatClampNeg = true then nI 0 else (-3)) else (-2)) else (-1)
def allN (P : Nat → Bool) : Nat → Bool
  | 0 => true
  | n + 1 => allN P n && P n
theorem allN_t {P : Nat → Bool} : ∀ {n : Nat}, allN P n = true ↔ ∀ k, k < n → P k = true
  | 0 => ⟨fun _ k h => absurd h (Nat.not_lt_zero k), fun _ => rfl⟩
  | n + 1 => by
    show (allN P n && P n) = true ↔ _
    rw [Bool.and_eq_true, allN_t (n := n)]
    constructor
    · rintro ⟨a, b⟩ k hk
      rcases Nat.lt_or_ge k n with q | q
      · exact a k q
      · have : k = n := by omega
        rw [this]; exact b
    · intro h
      exact ⟨fun k hk => h k (by omega), h n (by omega)⟩
theorem allN_f {P : Nat → Bool} {k n : Nat} (hk : k < n) (h : P k = false) : allN P n = false := by
  cases ha : allN P n
  · rfl
  · rw [allN_t.mp ha k hk] at h; cases h
theorem allN_s {P : Nat → Bool} {n : Nat} (h : allN P n = true) (h2 : P n = true) : allN P (n + 1) = true := by
  show (allN P n && P n) = true
  rw [h, h2]; rfl
theorem allN_cong {P Q : Nat → Bool} : ∀ {n : Nat}, (∀ k, k < n → P k = Q k) → allN P n = allN Q n
  | 0, _ => rfl
  | n + 1, h => by
    show (allN P n && P n) = (allN Q n && Q n)
    rw [allN_cong (fun k hk => h k (by omega)), h n (by omega)]
noncomputable def rdP (H : Nat → Nat → Nat → Prop) (lw : Nat) (fg : Nat → Bool) (rp rt rd : Nat → Nat) (rh : Nat → Bool) (k : Nat) : Bool := decide (fday H lw fg (rp k) (rt k) ≤ rd k) == rh k
def readA (np nr : Nat) (rp rt rd : Nat → Nat) (rh : Nat → Bool) (fRp fRt fRd fRF : Nat → Int32) : Prop := nr ≤ 6 ∧ ∀ k, k < nr → (fRp k = nI (rp k) ∧ rp k < np) ∧ (fRt k = nI (rt k) ∧ rt k < 4) ∧ (fRd k = nI (rd k) ∧ rd k < 60) ∧ fRF k = kb (rh k)
theorem bne_eq {a b : Bool} (h : a ≠ b) : (a == b) = false := by cases a <;> cases b <;> simp_all
theorem beq_eq {a b : Bool} (h : a = b) : (a == b) = true := by rw [h]; cases b <;> rfl
theorem kNone_inj {a b : Nat} (ha : a = 999 ∨ a < 60) (hb : b = 999 ∨ b < 60) : kNone a = kNone b ↔ a = b := by
  constructor
  · intro h
    unfold kNone at h
    have e9 : (-9 : Int32).toInt = -9 := rfl
    by_cases h1 : a = 999 <;> by_cases h2 : b = 999
    · rw [h1, h2]
    · rw [if_pos h1, if_neg h2] at h
      have h3 := congrArg Int32.toInt h
      rw [nI_toInt (by omega), e9] at h3
      omega
    · rw [if_neg h1, if_pos h2] at h
      have h3 := congrArg Int32.toInt h
      rw [nI_toInt (by omega), e9] at h3
      omega
    · rw [if_neg h1, if_neg h2] at h
      exact (nI_eq (by omega) (by omega)).mp h
  · intro h; rw [h]
def keptP (sm : Nat) (a b : Nat → Nat → Nat) (i : Nat) : Bool := !sm.testBit (i / 4) || decide (a (i / 4) (i % 4) = b (i / 4) (i % 4))
theorem keptP_at {sm q t : Nat} {a b : Nat → Nat → Nat} (ht : t < 4) (h : sm.testBit q = true) : keptP sm a b (4 * q + t) = decide (a q t = b q t) := by
  unfold keptP
  rw [show (4 * q + t) / 4 = q by omega, show (4 * q + t) % 4 = t by omega, h]
  exact Bool.false_or _
theorem keptP_no {sm q t : Nat} {a b : Nat → Nat → Nat} (ht : t < 4) (h : sm.testBit q = false) : keptP sm a b (4 * q + t) = true := by
  unfold keptP
  rw [show (4 * q + t) / 4 = q by omega, h]
  exact Bool.true_or _
theorem kept_skip {sm q t : Nat} {a b : Nat → Nat → Nat} (hs : sm.testBit q = true ∨ t = 0) (h : sm.testBit q = false) (hi : allN (keptP sm a b) (4 * q + t) = true) : allN (keptP sm a b) (4 * (q + 1)) = true := by
  rcases hs with z | z
  · rw [h] at z; cases z
  · subst z
    rw [allN_t] at hi ⊢
    intro k hk
    rcases Nat.lt_or_ge k (4 * q) with y | y
    · exact hi k (by omega)
    · have e : k = 4 * q + (k - 4 * q) := by omega
      rw [e]; exact keptP_no (by omega) h
/-- the set's persons told, or hushed: does it come off -/
noncomputable def rch (np nw : Nat) (wf wt wd kd : Nat → Nat) (hm : Nat) (tp tt td : Nat → Nat) (nt lw : Nat) (fg : Nat → Bool) (b : Bool) (q t d s : Nat) : Bool :=
  if b = true then decide (fday (hrd nw wf wt wd kd (actW hm (-1) wf) (setS s t np)) lw fg q t ≤ d) else !decide (fday (hrd nw wf wt wd kd (actW (hm ||| s) (-1) wf) (tellS tp tt td nt (-1))) lw fg q t ≤ d)
def sizP (P : Nat → Bool) (k s : Nat) : Bool := decide (popc s = k) && P s
def anyP (P : Nat → Bool) (all k : Nat) : Bool := decide (¬ fstN (sizP P k) all = 999)
/-- the least of the fewest; 999: not by all -/
def lsx (P : Nat → Bool) (np : Nat) : Nat := if P (2 ^ np - 1) = true then (if fstN (anyP P (2 ^ np - 1)) np = 999 then 2 ^ np - 1 else fstN (sizP P (fstN (anyP P (2 ^ np - 1)) np)) (2 ^ np - 1)) else 999
theorem anyP_no {P : Nat → Bool} {all k : Nat} (h : fstN (sizP P k) all = 999) : anyP P all k = false := by unfold anyP; simp [h]
theorem pw64 {np : Nat} (h : np ≤ 6) : 2 ^ np ≤ 64 := by
  have : 2 ^ np ≤ 2 ^ 6 := Nat.pow_le_pow_right (by omega) h
  simpa using this
theorem pw1 (np : Nat) : 1 ≤ 2 ^ np := Nat.one_le_two_pow
theorem lsx_found {P : Nat → Bool} {np k s : Nat} (hnp : np ≤ 6) (hall : P (2 ^ np - 1) = true) (hk : k < np) (h0 : fstN (anyP P (2 ^ np - 1)) k = 999) (hs : s < 2 ^ np - 1) (h1 : fstN (sizP P k) s = 999) (h2 : popc s = k) (h3 : P s = true) : nI s = kNone (lsx P np) := by
  have hp := pw64 hnp
  have e1 : fstN (sizP P k) (2 ^ np - 1) = s := fstN_hit h1 (by unfold sizP; simp [h2, h3]) (by omega) hs
  have e2 : anyP P (2 ^ np - 1) k = true := by unfold anyP; rw [e1]; simp; omega
  have e3 : fstN (anyP P (2 ^ np - 1)) np = k := fstN_hit h0 e2 (by omega) hk
  unfold lsx
  rw [if_pos hall, e3, if_neg (by omega), e1]
  unfold kNone
  rw [if_neg (by omega)]
theorem lsx_all {P : Nat → Bool} {np : Nat} (hnp : np ≤ 6) (hall : P (2 ^ np - 1) = true) (h0 : fstN (anyP P (2 ^ np - 1)) np = 999) : nI (2 ^ np - 1) = kNone (lsx P np) := by
  have hp := pw64 hnp
  unfold lsx
  rw [if_pos hall, if_pos h0]
  unfold kNone
  rw [if_neg (by omega)]
theorem lsx_none {P : Nat → Bool} {np : Nat} (hall : P (2 ^ np - 1) = false) : (-9) = kNone (lsx P np) := by
  unfold lsx
  rw [if_neg (by rw [hall]; decide)]
  rfl
theorem or64 {a b : Nat} (ha : a < 64) (hb : b < 64) : a ||| b < 64 := Nat.or_lt_two_pow (n := 6) ha hb
/-- rows of tellings -/
def rowS (c : Nat → Int32) (t n : Nat) : Nat → Nat → Nat → Prop := fun d p r => d < n ∧ (c d).toNatClampNeg = p ∧ t * 15 + d = r
theorem rowS_0 (c : Nat → Int32) (t : Nat) : ∀ d p r, rowS c t 0 d p r ↔ False := fun d p r => ⟨fun h => absurd h.1 (Nat.not_lt_zero d), fun h => h.elim⟩
theorem rowS_s {c : Nat → Int32} {t k q : Nat} (h : (c k).toNatClampNeg = q) : ∀ d p r, rowS c t (k + 1) d p r ↔ rowS c t k d p r ∨ (d = k ∧ p = q ∧ r = t * 15 + k) := fun d p r => by
  constructor
  · rintro ⟨a, b, e⟩
    by_cases z : d = k
    · subst z; exact Or.inr ⟨rfl, by rw [← b, h], e.symm⟩
    · exact Or.inl ⟨by omega, b, e⟩
  · rintro (⟨a, b, e⟩ | ⟨rfl, b, e⟩)
    · exact ⟨by omega, b, e⟩
    · exact ⟨by omega, by rw [h, b], e.symm⟩
def ktr (tr : Int32) (k : Nat) : Int32 := nI 31 * tr + nI k
/-! the text -/
def kcode (f : Nat → Int32) (i n q : Nat) : Int32 := if q < n then f (i + q) else nI 0
def kindN (x : Int32) : Nat := if x = nI 116 then 0 else if x = nI 106 then 1 else if x = nI 108 then 2 else 999
def digN (x : Int32) (lo hi : Nat) : Nat := if 48 + (lo : Int) ≤ x.toInt ∧ x.toInt ≤ 48 + (hi : Int) then x.toNatClampNeg - 48 else 999
def kSound (v : Nat) : Int32 := if v = 999 then (-1) else nI v
theorem digN_lo {x : Int32} {lo hi : Nat} (hlo : lo < 1000) (h : x < nI (48 + lo)) : digN x lo hi = 999 := by
  have h1 := Int32.lt_iff_toInt_lt.mp h
  rw [nI_toInt (by omega)] at h1
  unfold digN
  rw [if_neg (by omega)]
theorem digN_hi {x : Int32} {lo hi : Nat} (hhi : hi < 1000) (h : nI (48 + hi) < x) : digN x lo hi = 999 := by
  have h1 := Int32.lt_iff_toInt_lt.mp h
  rw [nI_toInt (by omega)] at h1
  unfold digN
  rw [if_neg (by omega)]
theorem digN_in {x : Int32} {lo hi : Nat} (hlo : lo < 1000) (hhi : hi < 900) (h : ¬ x < nI (48 + lo)) (h2 : ¬ nI (48 + hi) < x) : x - nI 48 = kNone (digN x lo hi) := by
  have h1 : ¬ x.toInt < (nI (48 + lo)).toInt := fun z => h (Int32.lt_iff_toInt_lt.mpr z)
  have h3 : ¬ (nI (48 + hi)).toInt < x.toInt := fun z => h2 (Int32.lt_iff_toInt_lt.mpr z)
  rw [nI_toInt (by omega)] at h1 h3
  have hx : ¬ x < 0 := fun z => by
    have := Int32.lt_iff_toInt_lt.mp z
    rw [show (0 : Int32).toInt = 0 from rfl] at this
    omega
  obtain ⟨j, hj, rfl⟩ := nI_of hx
  rw [nI_toInt hj] at h1 h3
  unfold digN
  rw [nI_toInt hj, if_pos (by omega), nI_clamp hj, pk_sub (by omega)]
  unfold kNone
  rw [if_neg (by omega)]
theorem digN_lt {x : Int32} {lo hi : Nat} : digN x lo hi = 999 ∨ (lo ≤ digN x lo hi ∧ digN x lo hi ≤ hi) := by
  unfold digN
  by_cases h : 48 + (lo : Int) ≤ x.toInt ∧ x.toInt ≤ 48 + (hi : Int)
  · rw [if_pos h]
    right
    have hx : ¬ x < 0 := fun z => by
      have := Int32.lt_iff_toInt_lt.mp z
      rw [show (0 : Int32).toInt = 0 from rfl] at this
      omega
    obtain ⟨j, hj, rfl⟩ := nI_of hx
    rw [nI_toInt hj] at h
    rw [nI_clamp hj]
    omega
  · rw [if_neg h]; exact Or.inl rfl
theorem kindN_lt (x : Int32) : kindN x = 999 ∨ kindN x < 3 := by
  unfold kindN
  split
  · right; omega
  · split
    · right; omega
    · split
      · right; omega
      · left; rfl
theorem fd_put {H : Nat → Nat → Nat → Prop} {lw : Nat} {fg : Nat → Bool} {g : Nat → Int32} {q t : Nat} (hg : ∀ i, i < 4 * q + t → g i = kNone (fday H lw fg (i / 4) (i % 4))) (ht : t < 4) : ∀ i, i < 4 * q + (t + 1) → upd g (q * 4 + t) (kNone (fday H lw fg q t)) i = kNone (fday H lw fg (i / 4) (i % 4)) := by
  intro i hi
  by_cases z : i = q * 4 + t
  · subst z
    rw [pk_us, show (q * 4 + t) / 4 = q by omega, show (q * 4 + t) % 4 = t by omega]
  · rw [pk_un z]
    exact hg i (by omega)
theorem b_nf {b : Bool} (h : b ≠ false) : b = true := by cases b <;> simp_all
theorem b_nt {b : Bool} (h : b ≠ true) : b = false := by cases b <;> simp_all
theorem rdP_t {H : Nat → Nat → Nat → Prop} {lw : Nat} {fg : Nat → Bool} {rp rt rd : Nat → Nat} {rh : Nat → Bool} {k : Nat} (h : decide (fday H lw fg (rp k) (rt k) ≤ rd k) = rh k) : rdP H lw fg rp rt rd rh k = true := by
  unfold rdP
  exact beq_eq h
theorem rdP_f {H : Nat → Nat → Nat → Prop} {lw : Nat} {fg : Nat → Bool} {rp rt rd : Nat → Nat} {rh : Nat → Bool} {k : Nat} (h : decide (fday H lw fg (rp k) (rt k) ≤ rd k) ≠ rh k) : rdP H lw fg rp rt rd rh k = false := by
  unfold rdP
  exact bne_eq h
