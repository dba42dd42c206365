theorem andL {a b : Bool} (h : a = false) : ¬ (a && b) = true := by rw [h]; simp
theorem andR {a b : Bool} (h : b = false) : ¬ (a && b) = true := by rw [h]; simp
theorem andT {a b : Bool} (h : a = true) (h2 : b = true) : (a && b) = true := by rw [h, h2]; rfl
theorem andS {a b : Bool} (h : (a && b) = true) : a = true ∧ b = true := by rwa [Bool.and_eq_true] at h
theorem xorI_ (a j : Nat) (hj : j < 12) : nI a ^^^ (nI 1 <<< (nI j &&& 31)) = nI (a ^^^ 2 ^ j) := by rw [pw_shl j hj, fb_xorI]
theorem xor64 {a j : Nat} (ha : a < 64) (hj : j < 6) : a ^^^ 2 ^ j < 64 := Nat.xor_lt_two_pow (n := 6) ha (by
  have : 2 ^ j ≤ 2 ^ 5 := Nat.pow_le_pow_right (by omega) (by omega)
  have e : (2 : Nat) ^ 6 = 64 := rfl
  have e2 : (2 : Nat) ^ 5 = 32 := rfl
  omega)
theorem fog_flip {fo : Int64} {fg : Nat → Bool} {j : Nat} {z : Bool} (h : ∀ d, d < 60 → bl fo d = fg d) (hj : j < 60) (hz : fg j ≠ z) : ∀ d, d < 60 → bl (fo ^^^ (1 <<< ((nI j).toInt64 &&& 63))) d = upB fg j z d := fun d hd => by
  rw [bl_xor, show bl (1 <<< ((nI j).toInt64 &&& 63)) d = bl (rum j) d from rfl, bl_rum (by omega) (by omega), h d hd]
  unfold upB
  by_cases e : d = j
  · subst e
    rw [if_pos rfl]
    cases h1 : fg d <;> cases z <;> simp_all
  · rw [if_neg e]
    simp [e]
theorem kin_lo {x : Int32} (h : x < nI 1) : kin x 1 4 = false := by
  have h1 := Int32.lt_iff_toInt_lt.mp h
  rw [nI_toInt (by omega)] at h1
  unfold kin
  rw [decide_eq_false_iff_not]
  omega
theorem kin_hi {x : Int32} (h : ¬ x ≤ nI 4) : kin x 1 4 = false := by
  have h1 : ¬ x.toInt ≤ (nI 4).toInt := fun z => h (Int32.le_iff_toInt_le.mpr z)
  rw [nI_toInt (by omega)] at h1
  unfold kin
  rw [decide_eq_false_iff_not]
  omega
theorem kin_in {x : Int32} (h : ¬ x < nI 1) (h2 : x ≤ nI 4) : kin x 1 4 = true := by
  have h1 : ¬ x.toInt < (nI 1).toInt := fun z => h (Int32.lt_iff_toInt_lt.mpr z)
  have h3 := Int32.le_iff_toInt_le.mp h2
  rw [nI_toInt (by omega)] at h1 h3
  unfold kin
  rw [decide_eq_true_iff]
  omega
theorem kin_of {x : Int32} (h : kin x 1 4 = true) : ∃ j, j ≤ 4 ∧ x = nI j := by
  unfold kin at h
  rw [decide_eq_true_iff] at h
  have hx : ¬ x < 0 := fun z => by
    have := Int32.lt_iff_toInt_lt.mp z
    rw [show (0 : Int32).toInt = 0 from rfl] at this
    omega
  obtain ⟨j, hj, rfl⟩ := nI_of hx
  rw [nI_toInt hj] at h
  exact ⟨j, by omega, rfl⟩
theorem fst_talked {H : Nat → Nat → Nat → Prop} {f : Nat → Int64} (h : talked H f) {q n : Nat} (hq : q < 6) (hn : n < 60) : fstN (fun d => pB (H d q n)) 60 = fstN (fun d => hbit f d q n) 60 := fstN_cong fun d hd => by
  have := h d q n hd hq (by omega)
  cases hb : hbit f d q n
  · rw [pB_f]
    intro z
    rw [this.mpr ⟨hn, z⟩] at hb; cases hb
  · rw [pB_t]; exact (this.mp hb).2
theorem pub_end {α S : Type} {x : α × S} {v : α} {s1 : S} {R : S → Prop} (e : x = (v, s1)) (h : R s1) : v = x.1 ∧ R x.2 := by
  subst e
  exact ⟨rfl, h⟩
theorem pub_P {α : Type} {D : va_G} {cI cJ cZ cS : ClassId} {x : α × SSt} {v : α} {s1 : SSt} {u : XV} {H : Heap} {s : State} (e : x = (v, s1)) (h : va_P D vwCl (xC cI cJ cZ cS u s1) H) : ∀ t : State, t.heap = H → s.WarmedH t.vm → va_P D vwCl (xC cI cJ cZ cS u x.2) t.heap := by
  intro t ht _
  subst e
  rw [ht]
  exact h
