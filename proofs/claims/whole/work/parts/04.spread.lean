/-! the day by day talk: what holds of the rows while it goes on -/
def actW (hs : Nat) (wo : Int32) (wf : Nat → Nat) (w : Nat) : Prop := ¬ nI w = wo ∧ hs.testBit (wf w) = false
def spG (nw : Nat) (wf wt wd kd : Nat → Nat) (hs : Nat) (wo : Int32) (S : Nat → Nat → Nat → Prop) (c d j : Nat) (h : Nat → Int64) : Prop :=
  (∀ day p i, day < 60 → p < 6 → 60 ≤ i → hbit h day p i = false) ∧
  (∀ day p r, day < 60 → p < 6 → hbit h day p r = true → hrd nw wf wt wd kd (actW hs wo wf) S day p r) ∧
  (∀ day p r, day < 60 → p < 6 → r < 60 → S day p r → hbit h day p r = true) ∧
  (∀ day p r, day + 1 ≤ c → day + 1 < 60 → p < 6 → hbit h day p r = true → hbit h (day + 1) p r = true) ∧
  (∀ w day q, w < nw → actW hs wo wf w → (day < d ∨ day = d ∧ w < j) → q < 60 → hfirst h day (wf w) q = true → day + wd w < 60 → hbit h (day + wd w) (wt w) (chg (kd (wf w)) (wf w) q) = true)
/-- the data of the ways -/
def waysOk (np nw : Nat) (wf wt wd kd : Nat → Nat) : Prop := np ≤ 6 ∧ nw ≤ 9 ∧ (∀ j, j < np → kd j < 3) ∧ ∀ w, w < nw → wf w < np ∧ wt w < np ∧ 1 ≤ wd w ∧ wd w ≤ 9
/-- rows that hold what is told, and nothing else -/
def planted (S : Nat → Nat → Nat → Prop) (h : Nat → Int64) : Prop := ∀ day p i, day < 60 → p < 6 → i < 64 → (hbit h day p i = true ↔ i < 60 ∧ S day p i)
/-- rows that hold the rumours -/
def talked (H : Nat → Nat → Nat → Prop) (h : Nat → Int64) : Prop := ∀ day p i, day < 60 → p < 6 → i < 64 → (hbit h day p i = true ↔ i < 60 ∧ H day p i)
def keptF (f f1 : Nat → Int64) (d : Nat) : Prop := ∀ day p i, day < 60 → p < 6 → hbit f1 day p i = (hbit f day p i || (decide (day = d ∧ 0 < d) && hbit f (d - 1) p i))
def broughtB (nw : Nat) (wf wd kd : Nat → Nat) (hs : Nat) (h : Nat → Int64) (w day i : Nat) : Prop := wd w ≤ day ∧ hs.testBit (wf w) = false ∧ ∃ q, q < 60 ∧ hfirst h (day - wd w) (wf w) q = true ∧ chg (kd (wf w)) (wf w) q = i
section SPG
variable {np nw : Nat} {wf wt wd kd : Nat → Nat} {hs : Nat} {wo : Int32} {S : Nat → Nat → Nat → Prop}
theorem spG_start {h : Nat → Int64} (hp : planted S h) : spG nw wf wt wd kd hs wo S 0 0 0 h := by
  refine ⟨fun day p i hd hp6 hi => ?_, fun day p r hd hp6 hb => ?_, fun day p r hd hp6 hr hs => ?_, fun day p r h1 => by omega, fun w day q _ _ h1 => by omega⟩
  · rcases Nat.lt_or_ge i 64 with q | q
    · cases hb : hbit h day p i
      · rfl
      · have := (hp day p i hd hp6 q).mp hb
        omega
    · exact bl_big q
  · rcases Nat.lt_or_ge r 64 with q | q
    · exact hrd_S ((hp day p r hd hp6 q).mp hb).2
    · have : hbit h day p r = false := bl_big q
      rw [this] at hb
      cases hb
  · exact (hp day p r hd hp6 (by omega)).mpr ⟨hr, hs⟩
theorem spG_keep {d : Nat} {f f1 : Nat → Int64} (hw : waysOk np nw wf wt wd kd) (hd : d < 60) (hk : keptF f f1 d) (h : spG nw wf wt wd kd hs wo S (d - 1) d 0 f) : spG nw wf wt wd kd hs wo S d d 0 f1 := by
  obtain ⟨i0, i1, i2, i3, i4⟩ := h
  have same : ∀ day p i, day < 60 → p < 6 → day ≠ d → hbit f1 day p i = hbit f day p i := fun day p i h1 h2 h3 => by
    rw [hk day p i h1 h2]
    simp [h3]
  have more : ∀ day p i, day < 60 → p < 6 → hbit f day p i = true → hbit f1 day p i = true := fun day p i h1 h2 h3 => by
    rw [hk day p i h1 h2, h3]
    rfl
  refine ⟨fun day p i h1 h2 h3 => ?_, fun day p r h1 h2 h3 => ?_, fun day p r h1 h2 h3 h4 => more _ _ _ h1 h2 (i2 day p r h1 h2 h3 h4), fun day p r h1 h2 h3 h4 => ?_, fun w day q h1 h2 h3 h4 h5 h6 => ?_⟩
  · rw [hk day p i h1 h2, i0 day p i h1 h2 h3, i0 (d - 1) p i (by omega) h2 h3]
    simp
  · rw [hk day p r h1 h2] at h3
    simp only [Bool.or_eq_true, Bool.and_eq_true, decide_eq_true_eq] at h3
    rcases h3 with h3 | ⟨⟨e, h0⟩, h3⟩
    · exact i1 day p r h1 h2 h3
    · have := hrd_up (i1 (d - 1) p r (by omega) h2 h3)
      rwa [show d - 1 + 1 = day by omega] at this
  · rw [same day p r (by omega) h3 (by omega)] at h4
    rcases Nat.lt_or_ge (day + 1) d with q | q
    · exact more _ _ _ h2 h3 (i3 day p r (by omega) h2 h3 h4)
    · have e : day + 1 = d := by omega
      rw [e, hk d p r hd h3]
      have e2 : d - 1 = day := by omega
      rw [e2, h4]
      simp; right; omega
  · have hlt := hw.2.2.2 w h1
    have hdy : day < d := by omega
    have e : hfirst f day (wf w) q = true := by
      have : hfirst f1 day (wf w) q = hfirst f day (wf w) q := by
        unfold hfirst
        rw [same day _ _ (by omega) (by have := hw.1; omega) (by omega), same (day - 1) _ _ (by omega) (by have := hw.1; omega) (by omega)]
      rw [← this]; exact h5
    exact more _ _ _ h6 (by have := hw.1; omega) (i4 w day q h1 h2 (Or.inl hdy) h4 e h6)
theorem spG_skip {d j : Nat} {h : Nat → Int64} (hs1 : ¬ actW hs wo wf j ∨ 60 ≤ d + wd j) (hh : spG nw wf wt wd kd hs wo S d d j h) : spG nw wf wt wd kd hs wo S d d (j + 1) h := by
  obtain ⟨i0, i1, i2, i3, i4⟩ := hh
  refine ⟨i0, i1, i2, i3, fun w day q h1 h2 h3 h4 h5 h6 => ?_⟩
  by_cases e : day < d ∨ day = d ∧ w < j
  · exact i4 w day q h1 h2 e h4 h5 h6
  · have e1 : w = j := by omega
    have e2 : day = d := by omega
    subst e1; subst e2
    rcases hs1 with z | z
    · exact absurd h2 z
    · omega
theorem spG_push {d j : Nat} {h f2 : Nat → Int64} {r : Int64} (hw : waysOk np nw wf wt wd kd) (hj : j < nw) (hd : d + wd j < 60) (hwo : ¬ nI j = wo) (hr : ∀ i, i < 64 → (bl r i = true ↔ i < 60 ∧ broughtB nw wf wd kd hs h j (d + wd j) i))
    (hf : f2 = vp_updL h ((d + wd j) * 6 + wt j) (h ((d + wd j) * 6 + wt j) ||| r)) (hh : spG nw wf wt wd kd hs wo S d d j h) : spG nw wf wt wd kd hs wo S d d (j + 1) f2 := by
  obtain ⟨i0, i1, i2, i3, i4⟩ := hh
  have hwj := hw.2.2.2 j hj
  have h6 := hw.1
  have key : ∀ day p i, p < 6 → (hbit f2 day p i = true ↔ hbit h day p i = true ∨ (day = d + wd j ∧ p = wt j ∧ bl r i = true)) := fun day p i hp => by
    rw [hf, hbit_upd (by omega) hp]
    by_cases e : day = d + wd j ∧ p = wt j
    · obtain ⟨rfl, rfl⟩ := e
      simp [bl_or, hbit]
    · rw [if_neg e]
      constructor
      · exact Or.inl
      · rintro (z | ⟨z1, z2, -⟩)
        · exact z
        · exact absurd ⟨z1, z2⟩ e
  have same : ∀ day p i, p < 6 → day ≤ d → hbit f2 day p i = hbit h day p i := fun day p i hp hdd => by
    rw [hf, hbit_upd (by omega) hp, if_neg (by omega)]
  have hbr : ∀ i, bl r i = true → i < 60 ∧ broughtB nw wf wd kd hs h j (d + wd j) i := fun i hb => by
    rcases Nat.lt_or_ge i 64 with q | q
    · exact (hr i q).mp hb
    · rw [bl_big q] at hb; cases hb
  refine ⟨fun day p i h1 h2 h3 => ?_, fun day p i h1 h2 h3 => ?_, fun day p i h1 h2 h3 h4 => (key day p i h2).mpr (Or.inl (i2 day p i h1 h2 h3 h4)), fun day p i h1 h2 h3 h4 => ?_, fun w day q h1 h2 h3 h4 h5 h7 => ?_⟩
  · cases hb : hbit f2 day p i
    · rfl
    · rcases (key day p i h2).mp hb with z | ⟨-, -, z⟩
      · rw [i0 day p i h1 h2 h3] at z; cases z
      · have := (hbr i z).1
        omega
  · rcases (key day p i h2).mp h3 with z | ⟨e1, e2, z⟩
    · exact i1 day p i h1 h2 z
    · obtain ⟨-, -, hh2, q, hq, hf1, hc⟩ := hbr i z
      rw [Nat.add_sub_cancel] at hf1
      rw [e1, e2, ← hc]
      exact hrd_way hj ⟨hwo, hh2⟩ hq (i1 d (wf j) q (by omega) (by omega) (hfirst_sub hf1))
  · rw [same day p i h3 (by omega)] at h4
    exact (key (day + 1) p i h3).mpr (Or.inl (i3 day p i h1 h2 h3 h4))
  · have hww := hw.2.2.2 w h1
    have e : hfirst f2 day (wf w) q = hfirst h day (wf w) q := by
      unfold hfirst
      rw [same day _ _ (by omega) (by omega), same (day - 1) _ _ (by omega) (by omega)]
    rw [e] at h5
    by_cases e2 : day < d ∨ day = d ∧ w < j
    · exact (key _ _ _ (by omega)).mpr (Or.inl (i4 w day q h1 h2 e2 h4 h5 h7))
    · have e3 : w = j := by omega
      have e4 : day = d := by omega
      subst e3; subst e4
      refine (key _ _ _ (by omega)).mpr (Or.inr ⟨rfl, rfl, ?_⟩)
      have hlt : chg (kd (wf w)) (wf w) q < 60 := chg_lt (by omega) h4
      exact (hr _ (by omega)).mpr ⟨hlt, by omega, h2.2, q, h4, by rw [Nat.add_sub_cancel]; exact h5, rfl⟩
theorem spG_next {d : Nat} {h : Nat → Int64} (hh : spG nw wf wt wd kd hs wo S d d nw h) : spG nw wf wt wd kd hs wo S (d + 1 - 1) (d + 1) 0 h := by
  obtain ⟨i0, i1, i2, i3, i4⟩ := hh
  refine ⟨i0, i1, i2, by rw [Nat.add_sub_cancel]; exact i3, fun w day q h1 h2 h3 h4 h5 h6 => i4 w day q h1 h2 ?_ h4 h5 h6⟩
  omega
theorem spG_end {h : Nat → Int64} (hw : waysOk np nw wf wt wd kd) (hh : spG nw wf wt wd kd hs wo S (60 - 1) 60 0 h) : talked (hrd nw wf wt wd kd (actW hs wo wf) S) h := by
  obtain ⟨i0, i1, i2, i3, i4⟩ := hh
  have h6 := hw.1
  have up : ∀ k day p r, day + k < 60 → p < 6 → hbit h day p r = true → hbit h (day + k) p r = true := by
    intro k
    induction k with
    | zero => intro day p r _ _ hb; exact hb
    | succ k ih => intro day p r h1 h2 hb; exact i3 (day + k) p r (by omega) (by omega) h2 (ih day p r (by omega) h2 hb)
  intro day p i h1 h2 h3
  constructor
  · intro hb
    rcases Nat.lt_or_ge i 60 with q | q
    · exact ⟨q, i1 day p i h1 h2 hb⟩
    · rw [i0 day p i h1 h2 q] at hb; cases hb
  · rintro ⟨hi, hH⟩
    have key := hH (fun d p r => d < 60 → p < 6 → r < 60 → hbit h d p r = true) (fun d p r hs1 a b c => i2 d p r a b c hs1) (fun d p r hx a b c => i3 d p r (by omega) a b (hx (by omega) b c)) (fun w d r hw1 ha hr hx a b c => by
      have hww := hw.2.2.2 w hw1
      obtain ⟨d0, hd0, hf⟩ := hfirst_ex (hx (by omega) (by omega) hr)
      have h4 := i4 w d0 r hw1 ha (Or.inl (by omega)) hr hf (by omega)
      have := up (d - d0) _ _ _ (by omega) (by omega) h4
      rwa [show d0 + wd w + (d - d0) = d + wd w by omega] at this)
    exact key h1 h2 hi
end SPG
