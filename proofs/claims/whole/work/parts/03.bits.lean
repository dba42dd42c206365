/-! bits of a long -/
def bl (x : Int64) (i : Nat) : Bool := x.toBitVec.getLsbD i
theorem bl_ext {x y : Int64} (h : ∀ i, i < 64 → bl x i = bl y i) : x = y := Int64.toBitVec_inj.mp (BitVec.eq_of_getLsbD_eq (fun i hi => h i hi))
theorem bl_or (x y : Int64) (i : Nat) : bl (x ||| y) i = (bl x i || bl y i) := by unfold bl; rw [Int64.toBitVec_or, BitVec.getLsbD_or]
theorem bl_and (x y : Int64) (i : Nat) : bl (x &&& y) i = (bl x i && bl y i) := by unfold bl; rw [Int64.toBitVec_and, BitVec.getLsbD_and]
theorem bl_xor (x y : Int64) (i : Nat) : bl (x ^^^ y) i = (bl x i ^^ bl y i) := by unfold bl; rw [Int64.toBitVec_xor, BitVec.getLsbD_xor]
theorem bl_big {x : Int64} {i : Nat} (h : 64 ≤ i) : bl x i = false := BitVec.getLsbD_of_ge _ _ h
theorem bl_0 (i : Nat) : bl 0 i = false := BitVec.getLsbD_zero
theorem bl_m1 : ∀ i, i < 64 → bl (-1) i = true := by decide +kernel
theorem bl_1 : ∀ i, i < 64 → bl 1 i = decide (i = 0) := by decide +kernel
theorem bl_all : ∀ i, i < 64 → bl 1152921504606846975 i = decide (i < 60) := by decide +kernel
theorem bl_one : ∀ i, i < 64 → bl 32767 i = decide (i < 15) := by decide +kernel
theorem sl64 : ∀ n, n < 64 → (((nI n).toInt64 &&& 63).toBitVec.smod 64).toNat = n := by decide +kernel
theorem bl_shl (n : Nat) (hn : n < 64) (x : Int64) {i : Nat} (hi : i < 64) : bl (x <<< ((nI n).toInt64 &&& 63)) i = (decide (n ≤ i) && bl x (i - n)) := by
  unfold bl
  rw [Int64.toBitVec_shiftLeft]
  show (x.toBitVec <<< (((nI n).toInt64 &&& 63).toBitVec.smod 64).toNat).getLsbD i = _
  rw [sl64 n hn, BitVec.getLsbD_shiftLeft]
  rcases Nat.lt_or_ge i n with h | h
  · simp [h, Nat.not_le.mpr h]
  · simp [hi, h, Nat.not_lt.mpr h]
theorem bl_shr (n : Nat) (hn : n < 64) (x : Int64) {i : Nat} (hi : i < 64) : bl (x >>> ((nI n).toInt64 &&& 63)) i = if n + i < 64 then bl x (n + i) else bl x 63 := by
  unfold bl
  rw [Int64.toBitVec_shiftRight]
  show (x.toBitVec.sshiftRight (((nI n).toInt64 &&& 63).toBitVec.smod 64).toNat).getLsbD i = _
  rw [sl64 n hn, BitVec.getLsbD_sshiftRight, BitVec.msb_eq_getLsbD_last]
  simp [hi]
theorem bl_ne0 {x : Int64} (h : ¬ x = 0) : ∃ i, i < 64 ∧ bl x i = true := by
  refine Classical.byContradiction fun hx => h (bl_ext fun i hi => ?_)
  rw [bl_0]
  cases hb : bl x i
  · rfl
  · exact absurd ⟨i, hi, hb⟩ hx
def rum (n : Nat) : Int64 := 1 <<< ((nI n).toInt64 &&& 63)
theorem bl_rum {n i : Nat} (hn : n < 64) (hi : i < 64) : bl (rum n) i = decide (i = n) := by
  unfold rum
  rw [bl_shl n hn 1 hi, bl_1 _ (by omega)]
  by_cases h : i = n
  · subst h; simp
  · by_cases h2 : n ≤ i
    · have h3 : ¬ i - n = 0 := by omega
      simp [h, h2, h3]
    · simp [h, h2]
/-- a rumour told on: 15 times the thing, and the origin -/
def chg (k p r : Nat) : Nat := if k = 0 then r else if k = 1 then (r + 15) % 60 else (r / 15 + 1) % 4 * 15 + 8 + p
theorem chg_lt {k p r : Nat} (hp : p < 6) (hr : r < 60) : chg k p r < 60 := by
  unfold chg
  split
  · exact hr
  · split <;> omega
/-- the next thing, bit by bit -/
theorem bl_next {x : Int64} (hx : ∀ i, 60 ≤ i → bl x i = false) {i : Nat} (hi : i < 64) : bl ((x <<< ((nI 15).toInt64 &&& 63) ||| x >>> ((nI 45).toInt64 &&& 63)) &&& 1152921504606846975) i = true ↔ i < 60 ∧ ∃ q, q < 60 ∧ bl x q = true ∧ (q + 15) % 60 = i := by
  rw [bl_and, bl_or, bl_shl 15 (by omega) x hi, bl_shr 45 (by omega) x hi, bl_all i hi]
  constructor
  · intro h
    simp only [Bool.and_eq_true, Bool.or_eq_true, decide_eq_true_eq] at h
    obtain ⟨h, h60⟩ := h
    refine ⟨h60, ?_⟩
    rcases h with ⟨h1, h2⟩ | h
    · exact ⟨i - 15, by omega, h2, by omega⟩
    · by_cases q : 45 + i < 64
      · rw [if_pos q] at h
        have q2 : 45 + i < 60 := by
          rcases Nat.lt_or_ge (45 + i) 60 with z | z
          · exact z
          · rw [hx _ z] at h; cases h
        exact ⟨45 + i, q2, h, by omega⟩
      · rw [if_neg q, hx 63 (by omega)] at h
        cases h
  · rintro ⟨h60, q, hq, hb, e⟩
    simp only [Bool.and_eq_true, Bool.or_eq_true, decide_eq_true_eq]
    refine ⟨?_, h60⟩
    by_cases z : q < 45
    · left
      have : i - 15 = q := by omega
      rw [this]
      exact ⟨by omega, hb⟩
    · right
      rw [if_pos (by omega)]
      have : 45 + i = q := by omega
      rw [this]
      exact hb
/-- is there any of a thing -/
theorem bl_some {x : Int64} (hx : ∀ i, 60 ≤ i → bl x i = false) {a : Nat} (ha : a < 4) : (¬ (x >>> ((nI (a * 15)).toInt64 &&& 63)) &&& 32767 = 0) ↔ ∃ q, q < 60 ∧ bl x q = true ∧ q / 15 = a := by
  constructor
  · intro h
    obtain ⟨i, hi, hb⟩ := bl_ne0 h
    rw [bl_and, bl_shr _ (by omega) x hi, bl_one i hi] at hb
    simp only [Bool.and_eq_true, decide_eq_true_eq] at hb
    obtain ⟨hb, h15⟩ := hb
    rw [if_pos (by omega)] at hb
    refine ⟨a * 15 + i, ?_, hb, by omega⟩
    omega
  · rintro ⟨q, hq, hb, e⟩ h
    have h1 : bl ((x >>> ((nI (a * 15)).toInt64 &&& 63)) &&& 32767) (q - a * 15) = true := by
      rw [bl_and, bl_shr _ (by omega) x (by omega), bl_one _ (by omega), if_pos (by omega)]
      have : a * 15 + (q - a * 15) = q := by omega
      rw [this, hb]
      simp; omega
    rw [h, bl_0] at h1
    cases h1
/-- rows of what was heard: a day's row of six -/
def hbit (f : Nat → Int64) (d p i : Nat) : Bool := bl (f (d * 6 + p)) i
def hfirst (f : Nat → Int64) (d p i : Nat) : Bool := hbit f d p i && !(decide (0 < d) && hbit f (d - 1) p i)
theorem hfirst_sub {f : Nat → Int64} {d p i : Nat} (h : hfirst f d p i = true) : hbit f d p i = true := by
  unfold hfirst at h
  simp only [Bool.and_eq_true] at h
  exact h.1
theorem hfirst_ex {f : Nat → Int64} {p i : Nat} : ∀ {d : Nat}, hbit f d p i = true → ∃ d0, d0 ≤ d ∧ hfirst f d0 p i = true
  | 0, h => ⟨0, Nat.le_refl _, by unfold hfirst; simp [h]⟩
  | d + 1, h => by
    cases h2 : hbit f d p i
    · exact ⟨d + 1, Nat.le_refl _, by unfold hfirst; simp [h, h2]⟩
    · obtain ⟨d0, a, b⟩ := hfirst_ex h2
      exact ⟨d0, by omega, b⟩
theorem hbit_upd {f : Nat → Int64} {d d2 p p2 i : Nat} {x : Int64} (hp : p < 6) (hp2 : p2 < 6) : hbit (vp_updL f (d * 6 + p) x) d2 p2 i = if d2 = d ∧ p2 = p then bl x i else hbit f d2 p2 i := by
  unfold hbit vp_updL
  by_cases h : d2 = d ∧ p2 = p
  · obtain ⟨rfl, rfl⟩ := h
    simp
  · have : ¬ d2 * 6 + p2 = d * 6 + p := by omega
    rw [if_neg this, if_neg h]
/-- THE RUMOURS: by the end of day d person p has heard r: the least of all that hold what is told and go on along the ways -/
def hrd (nw : Nat) (wf wt wd kd : Nat → Nat) (act : Nat → Prop) (S : Nat → Nat → Nat → Prop) (d p r : Nat) : Prop :=
  ∀ X : Nat → Nat → Nat → Prop, (∀ d p r, S d p r → X d p r) → (∀ d p r, X d p r → X (d + 1) p r) → (∀ w d r, w < nw → act w → r < 60 → X d (wf w) r → X (d + wd w) (wt w) (chg (kd (wf w)) (wf w) r)) → X d p r
section HRD
variable {nw : Nat} {wf wt wd kd : Nat → Nat} {act act2 : Nat → Prop} {S S2 : Nat → Nat → Nat → Prop}
theorem hrd_S {d p r : Nat} (h : S d p r) : hrd nw wf wt wd kd act S d p r := fun _ h1 _ _ => h1 _ _ _ h
theorem hrd_up {d p r : Nat} (h : hrd nw wf wt wd kd act S d p r) : hrd nw wf wt wd kd act S (d + 1) p r := fun X h1 h2 h3 => h2 _ _ _ (h X h1 h2 h3)
theorem hrd_le {d p r : Nat} (h : hrd nw wf wt wd kd act S d p r) : ∀ {d2 : Nat}, d ≤ d2 → hrd nw wf wt wd kd act S d2 p r := by
  intro d2 hd
  obtain ⟨k, rfl⟩ := Nat.exists_eq_add_of_le hd
  clear hd
  induction k with
  | zero => exact h
  | succ k ih => exact hrd_up ih
theorem hrd_way {w d r : Nat} (hw : w < nw) (ha : act w) (hr : r < 60) (h : hrd nw wf wt wd kd act S d (wf w) r) : hrd nw wf wt wd kd act S (d + wd w) (wt w) (chg (kd (wf w)) (wf w) r) := fun X h1 h2 h3 => h3 _ _ _ hw ha hr (h X h1 h2 h3)
theorem hrd_mono {d p r : Nat} (ha : ∀ w, w < nw → act w → act2 w) (hS : ∀ d p r, S d p r → S2 d p r) (h : hrd nw wf wt wd kd act S d p r) : hrd nw wf wt wd kd act2 S2 d p r := h _ (fun _ _ _ q => hrd_S (hS _ _ _ q)) (fun _ _ _ q => hrd_up q) (fun _ _ _ q1 q2 q3 q4 => hrd_way q1 (ha _ q1 q2) q3 q4)
/-- what it comes from -/
theorem hrd_inv {d p r : Nat} (h : hrd nw wf wt wd kd act S d p r) : (∃ d0, d0 ≤ d ∧ S d0 p r) ∨ ∃ w q, w < nw ∧ act w ∧ q < 60 ∧ wt w = p ∧ chg (kd (wf w)) (wf w) q = r ∧ wd w ≤ d ∧ hrd nw wf wt wd kd act S (d - wd w) (wf w) q := by
  have key := h (fun d p r => hrd nw wf wt wd kd act S d p r ∧ ((∃ d0, d0 ≤ d ∧ S d0 p r) ∨ ∃ w q, w < nw ∧ act w ∧ q < 60 ∧ wt w = p ∧ chg (kd (wf w)) (wf w) q = r ∧ wd w ≤ d ∧ hrd nw wf wt wd kd act S (d - wd w) (wf w) q)) (fun d p r q => ⟨hrd_S q, Or.inl ⟨d, Nat.le_refl _, q⟩⟩) (fun d p r q => ⟨hrd_up q.1, ?_⟩) (fun w d r q1 q2 q3 q4 => ⟨hrd_way q1 q2 q3 q4.1, Or.inr ⟨w, r, q1, q2, q3, rfl, rfl, by omega, by rw [Nat.add_sub_cancel]; exact q4.1⟩⟩)
  · exact key.2
  · rcases q.2 with ⟨d0, a, b⟩ | ⟨w, z, a1, a2, a3, a4, a5, a6, a7⟩
    · exact Or.inl ⟨d0, by omega, b⟩
    · exact Or.inr ⟨w, z, a1, a2, a3, a4, a5, by omega, by
        have := hrd_up a7
        rwa [show d - wd w + 1 = d + 1 - wd w by omega] at this⟩
end HRD
