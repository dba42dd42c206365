/-! plain facts for the talk -/
def keepI (f g : Nat → Int64) (d k : Nat) : Prop := ∀ day p i, day < 60 → p < 6 → hbit g day p i = (hbit f day p i || (decide (day = d ∧ p < k) && hbit f (d - 1) p i))
theorem keepI_0 (f : Nat → Int64) (d : Nat) : keepI f f d 0 := fun day p i _ _ => by simp
theorem keepI_step {f g g2 : Nat → Int64} {d k : Nat} (h0 : 0 < d) (hk : k < 6) (e : g2 = vp_updL g (d * 6 + k) (g (d * 6 + k) ||| g ((d - 1) * 6 + k))) (hd : d < 60) (hg : keepI f g d k) : keepI f g2 d (k + 1) := by
  intro day p i h1 h2
  rw [e, hbit_upd hk h2]
  by_cases q : day = d ∧ p = k
  · obtain ⟨rfl, rfl⟩ := q
    have a := hg day p i hd hk
    have b := hg (day - 1) p i (by omega) hk
    have n1 : ¬ (day - 1 = day ∧ p < p) := by omega
    have n2 : ¬ (day = day ∧ p < p) := by omega
    rw [decide_eq_false n1] at b
    rw [decide_eq_false n2] at a
    rw [if_pos ⟨rfl, rfl⟩, bl_or, show bl (g (day * 6 + p)) i = hbit g day p i from rfl, show bl (g ((day - 1) * 6 + p)) i = hbit g (day - 1) p i from rfl, a, b]
    simp
  · rw [if_neg q, hg day p i h1 h2]
    have : (day = d ∧ p < k) ↔ (day = d ∧ p < k + 1) := by omega
    rw [decide_eq_decide.mpr this]
theorem keepI_end {f g : Nat → Int64} {d k : Nat} (hg : keepI f g d k) (h : (d = 0 ∧ k = 0) ∨ (0 < d ∧ 6 ≤ k)) : keptF f g d := by
  intro day p i h1 h2
  rw [hg day p i h1 h2]
  have : (day = d ∧ p < k) ↔ (day = d ∧ 0 < d) := by omega
  rw [decide_eq_decide.mpr this]
def ownI (x : Int64) (p sh : Nat) (own : Int64) : Prop := ∀ i, i < 64 → (bl own i = true ↔ ∃ q, q < 60 ∧ bl x q = true ∧ q / 15 * 15 < sh ∧ q / 15 * 15 + 8 + p = i)
theorem ownI_0 (x : Int64) (p : Nat) : ownI x p 0 0 := fun i _ => by
  rw [bl_0]
  constructor
  · intro h; cases h
  · rintro ⟨q, -, -, h, -⟩; omega
theorem ownI_no {x own : Int64} {p sh : Nat} (hx : ∀ i, 60 ≤ i → bl x i = false) (h1 : sh % 15 = 0) (h2 : sh < 60) (hz : (x >>> ((nI sh).toInt64 &&& 63)) &&& 32767 = 0) (h : ownI x p sh own) : ownI x p (sh + 15) own := by
  have hn : ¬ ∃ q, q < 60 ∧ bl x q = true ∧ q / 15 = sh / 15 := fun z => by
    have := (bl_some hx (a := sh / 15) (by omega)).mpr z
    rw [show sh / 15 * 15 = sh by omega] at this
    exact this hz
  intro i hi
  rw [h i hi]
  constructor
  · rintro ⟨q, a, b, c, d⟩; exact ⟨q, a, b, by omega, d⟩
  · rintro ⟨q, a, b, c, d⟩
    refine ⟨q, a, b, ?_, d⟩
    rcases Nat.lt_or_ge (q / 15 * 15) sh with z | z
    · exact z
    · exact absurd ⟨q, a, b, by omega⟩ hn
theorem ownI_yes {x own : Int64} {p sh : Nat} (hx : ∀ i, 60 ≤ i → bl x i = false) (hp : p < 6) (h1 : sh % 15 = 0) (h2 : sh < 60) (hz : ¬ (x >>> ((nI sh).toInt64 &&& 63)) &&& 32767 = 0) (h : ownI x p sh own) : ownI x p (sh + 15) (own ||| 1 <<< ((nI (sh + 8 + p)).toInt64 &&& 63)) := by
  have hy : ∃ q, q < 60 ∧ bl x q = true ∧ q / 15 = sh / 15 := (bl_some hx (a := sh / 15) (by omega)).mp (by rw [show sh / 15 * 15 = sh by omega]; exact hz)
  intro i hi
  rw [bl_or, Bool.or_eq_true, h i hi, show bl (1 <<< ((nI (sh + 8 + p)).toInt64 &&& 63)) i = bl (rum (sh + 8 + p)) i from rfl, bl_rum (by omega) hi, decide_eq_true_iff]
  constructor
  · rintro (⟨q, a, b, c, d⟩ | e)
    · exact ⟨q, a, b, by omega, d⟩
    · obtain ⟨q, a, b, c⟩ := hy
      exact ⟨q, a, b, by omega, by omega⟩
  · rintro ⟨q, a, b, c, d⟩
    rcases Nat.lt_or_ge (q / 15 * 15) sh with z | z
    · exact Or.inl ⟨q, a, b, z, d⟩
    · right; omega
/-- how it goes on, as a row of bits -/
def chgB (k p : Nat) (x r : Int64) : Prop := ∀ i, i < 64 → (bl r i = true ↔ i < 60 ∧ ∃ q, q < 60 ∧ bl x q = true ∧ chg k p q = i)
theorem chgB_0 {x : Int64} {p : Nat} (hx : ∀ i, 60 ≤ i → bl x i = false) : chgB 0 p x x := fun i hi => by
  constructor
  · intro h
    rcases Nat.lt_or_ge i 60 with q | q
    · exact ⟨q, i, q, h, rfl⟩
    · rw [hx i q] at h; cases h
  · rintro ⟨a, q, b, c, d⟩
    have : q = i := d
    rw [← this]; exact c
def nextB (x n : Int64) : Prop := ∀ i, i < 64 → (bl n i = true ↔ i < 60 ∧ ∃ q, q < 60 ∧ bl x q = true ∧ (q + 15) % 60 = i)
theorem nextB_hi {x n : Int64} (h : nextB x n) : ∀ i, 60 ≤ i → bl n i = false := fun i hi => by
  rcases Nat.lt_or_ge i 64 with q | q
  · cases hb : bl n i
    · rfl
    · have := (h i q).mp hb; omega
  · exact bl_big q
theorem chgB_1 {x n : Int64} {p : Nat} (h : nextB x n) : chgB 1 p x n := fun i hi => by
  rw [h i hi]
  rfl
theorem chgB_2 {x n r : Int64} {k p : Nat} (hp : p < 6) (h0 : k ≠ 0) (h1 : k ≠ 1) (hn : nextB x n) (hr : ownI n p 60 r) : chgB k p x r := fun i hi => by
  have hc : ∀ q, chg k p q = (q / 15 + 1) % 4 * 15 + 8 + p := fun q => by unfold chg; rw [if_neg h0, if_neg h1]
  rw [hr i hi]
  constructor
  · rintro ⟨q, a, b, c, d⟩
    obtain ⟨e, z, f, g, w⟩ := (hn q (by omega)).mp b
    refine ⟨by omega, z, f, g, ?_⟩
    rw [hc]; omega
  · rintro ⟨a, z, f, g, w⟩
    rw [hc] at w
    exact ⟨(z + 15) % 60, by omega, (hn _ (by omega)).mpr ⟨by omega, z, f, g, rfl⟩, by omega, by omega⟩
theorem ownI_60 {x own : Int64} {p sh : Nat} (h : 60 ≤ sh) (ho : ownI x p sh own) : ownI x p 60 own := fun i hi => by
  rw [ho i hi]
  constructor
  · rintro ⟨q, a, b, c, d⟩; exact ⟨q, a, b, by omega, d⟩
  · rintro ⟨q, a, b, c, d⟩; exact ⟨q, a, b, by omega, d⟩
theorem sub_lt {a b : Nat} (ha : a < 2 ^ 30) (hb : b < 2 ^ 30) : nI a - nI b < 0 ↔ a < b := by
  constructor
  · intro h
    rcases Nat.lt_or_ge a b with q | q
    · exact q
    · rw [pk_sub q] at h
      exact absurd h (nI_pos (by omega))
  · exact fun h => pk_sneg hb h
/-- the first of n days, 999: none -/
def fstN (P : Nat → Bool) : Nat → Nat
  | 0 => 999
  | n + 1 => if fstN P n ≠ 999 then fstN P n else if P n = true then n else 999
def kNone (n : Nat) : Int32 := if n = 999 then (-9) else nI n
theorem fstN_hit {P : Nat → Bool} {d : Nat} (h0 : fstN P d = 999) (hP : P d = true) (hd : d < 999) : ∀ {n : Nat}, d < n → fstN P n = d
  | 0, h => absurd h (Nat.not_lt_zero _)
  | n + 1, h => by
    rcases Nat.lt_or_ge d n with q | q
    · have := fstN_hit h0 hP hd q
      show (if fstN P n ≠ 999 then fstN P n else _) = d
      rw [this, if_pos (by omega)]
    · have e : n = d := by omega
      subst e
      show (if fstN P n ≠ 999 then fstN P n else if P n = true then n else 999) = n
      rw [h0, if_neg (by simp), if_pos hP]
theorem fstN_miss {P : Nat → Bool} {d : Nat} (h0 : fstN P d = 999) (hP : P d = false) : fstN P (d + 1) = 999 := by
  show (if fstN P d ≠ 999 then fstN P d else if P d = true then d else 999) = 999
  rw [h0, hP]
  simp
theorem fstN_cong {P Q : Nat → Bool} : ∀ {n : Nat}, (∀ d, d < n → P d = Q d) → fstN P n = fstN Q n
  | 0, _ => rfl
  | n + 1, h => by
    have h1 := fstN_cong (n := n) (fun d hd => h d (by omega))
    show (if fstN P n ≠ 999 then fstN P n else if P n = true then n else 999) = (if fstN Q n ≠ 999 then fstN Q n else if Q n = true then n else 999)
    rw [h1, h n (by omega)]
theorem fstN_lt {P : Nat → Bool} : ∀ {n : Nat}, fstN P n = 999 ∨ (fstN P n < n ∧ P (fstN P n) = true)
  | 0 => Or.inl rfl
  | n + 1 => by
    have h := fstN_lt (P := P) (n := n)
    show (if fstN P n ≠ 999 then fstN P n else if P n = true then n else 999) = 999 ∨ ((if fstN P n ≠ 999 then fstN P n else if P n = true then n else 999) < n + 1 ∧ P (if fstN P n ≠ 999 then fstN P n else if P n = true then n else 999) = true)
    by_cases h1 : fstN P n = 999
    · rw [if_neg (by simpa using h1)]
      by_cases h2 : P n = true
      · rw [if_pos h2]; right; exact ⟨by omega, h2⟩
      · rw [if_neg h2]; left; rfl
    · rw [if_pos h1]
      rcases h with h | h
      · exact absurd h h1
      · right; exact ⟨by omega, h.2⟩
theorem fstN_none {P : Nat → Bool} {n : Nat} (hn : n ≤ 999) : fstN P n = 999 ↔ ∀ d, d < n → P d = false := by
  constructor
  · intro h d hd
    induction n with
    | zero => omega
    | succ n ih =>
      have h1 : fstN P n = 999 := by
        refine Classical.byContradiction fun q => ?_
        have : fstN P (n + 1) = fstN P n := by
          show (if fstN P n ≠ 999 then fstN P n else _) = fstN P n
          rw [if_pos q]
        exact q (this ▸ h)
      rcases Nat.lt_or_ge d n with q | q
      · exact ih (by omega) h1 q
      · have e : d = n := by omega
        subst e
        cases hb : P d
        · rfl
        · have h7 : fstN P (d + 1) = d := fstN_hit h1 hb (by omega) (Nat.lt_succ_self d)
          rw [h7] at h
          omega
  · intro h
    rcases fstN_lt (P := P) (n := n) with q | q
    · exact q
    · rw [h _ q.1] at q
      cases q.2
theorem rum_and {x : Int64} {n : Nat} (hn : n < 64) : x &&& rum n = 0 ↔ bl x n = false := by
  constructor
  · intro h
    have h1 : bl (x &&& rum n) n = false := by rw [h, bl_0]
    rw [bl_and, bl_rum hn hn] at h1
    simpa using h1
  · intro h
    refine bl_ext fun i hi => ?_
    rw [bl_and, bl_rum hn hi, bl_0]
    by_cases e : i = n
    · subst e; rw [h]; rfl
    · simp [e]
/-- how many unlike origins -/
def cntO (f : Nat → Int64) (d p t : Nat) : Nat := fb_ct (fun o => hbit f d p (t * 15 + o)) 15
def pplA (np nw : Nat) (kd wf wt wd : Nat → Nat) (fKi fFr fTo fDa : Nat → Int32) : Prop := (∀ j, j < np → fKi j = nI (kd j)) ∧ ∀ w, w < nw → fFr w = nI (wf w) ∧ fTo w = nI (wt w) ∧ fDa w = nI (wd w)
theorem brought_0 {nw : Nat} {wf wd kd : Nat → Nat} {ms w d : Nat} {f : Nat → Int64} (h : d < wd w ∨ ms.testBit (wf w) = true) : ∀ i, i < 64 → (bl 0 i = true ↔ i < 60 ∧ broughtB nw wf wd kd ms f w d i) := fun i _ => by
  rw [bl_0]
  constructor
  · intro z; cases z
  · rintro ⟨-, a, b, -⟩
    rcases h with h | h
    · omega
    · rw [h] at b; cases b
theorem brought_1 {nw : Nat} {wf wd kd : Nat → Nat} {ms w d : Nat} {f : Nat → Int64} {x : Int64} (hx : ∀ i, i < 64 → bl x i = hfirst f (d - wd w) (wf w) i) (h : x = 0) : ∀ i, i < 64 → (bl 0 i = true ↔ i < 60 ∧ broughtB nw wf wd kd ms f w d i) := fun i _ => by
  rw [bl_0]
  constructor
  · intro z; cases z
  · rintro ⟨-, a, b, q, hq, hf, -⟩
    rw [← hx q (by omega), h, bl_0] at hf
    cases hf
theorem brought_2 {nw : Nat} {wf wd kd : Nat → Nat} {ms w d : Nat} {f : Nat → Int64} {x r : Int64} (hge : wd w ≤ d) (hm : ms.testBit (wf w) = false) (hx : ∀ i, i < 64 → bl x i = hfirst f (d - wd w) (wf w) i) (hr : chgB (kd (wf w)) (wf w) x r) : ∀ i, i < 64 → (bl r i = true ↔ i < 60 ∧ broughtB nw wf wd kd ms f w d i) := fun i hi => by
  rw [hr i hi]
  constructor
  · rintro ⟨a, q, b, c, e⟩
    exact ⟨a, hge, hm, q, b, by rw [← hx q (by omega)]; exact c, e⟩
  · rintro ⟨a, -, -, q, b, c, e⟩
    exact ⟨a, q, b, by rw [hx q (by omega)]; exact c, e⟩
theorem hbit_yes {f : Nat → Int64} {d q n : Nat} (hn : n < 64) (h : ¬ f (d * 6 + q) &&& rum n = 0) : hbit f d q n = true := by
  cases h8 : hbit f d q n
  · exact absurd ((rum_and hn).mpr h8) h
  · rfl
theorem fst_found {P : Nat → Bool} {d : Nat} (h0 : fstN P d = 999) (hP : P d = true) (hd : d < 60) : nI d = kNone (fstN P 60) := by
  rw [fstN_hit h0 hP (by omega) hd]
  unfold kNone
  rw [if_neg (by omega)]
theorem first_hi {f : Nat → Int64} {d q : Nat} {x : Int64} (hxb : ∀ day p i, day < 60 → p < 6 → 60 ≤ i → hbit f day p i = false) (hd : d < 60) (hq : q < 6) (h : ∀ i, i < 64 → bl x i = hfirst f d q i) : ∀ i, 60 ≤ i → bl x i = false := fun i hi => by
  rcases Nat.lt_or_ge i 64 with z | z
  · rw [h i z]
    unfold hfirst
    rw [hxb d q i hd hq hi]
    rfl
  · exact bl_big z
