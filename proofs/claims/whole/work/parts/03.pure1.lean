/-! plain facts for the small methods -/
theorem blw_lt0 {x : Int32} {n : Nat} (h : x < 0) : blw x n = false := by
  have h1 : x.toInt < 0 := Int32.lt_iff_toInt_lt.mp h
  unfold blw
  rw [decide_eq_false_iff_not]
  omega
theorem blw_ge {x : Int32} {n : Nat} (hn : n < 2 ^ 31) (h : nI n ≤ x) : blw x n = false := by
  have h1 : (nI n).toInt ≤ x.toInt := Int32.le_iff_toInt_le.mp h
  rw [nI_toInt hn] at h1
  unfold blw
  rw [decide_eq_false_iff_not]
  omega
theorem blw_tt {x : Int32} {n : Nat} (hn : n < 2 ^ 31) (h0 : ¬ x < 0) (h : ¬ nI n ≤ x) : blw x n = true := by
  have h1 : ¬ x.toInt < 0 := fun q => h0 (Int32.lt_iff_toInt_lt.mpr q)
  have h2 : ¬ (nI n).toInt ≤ x.toInt := fun q => h (Int32.le_iff_toInt_le.mpr q)
  rw [nI_toInt hn] at h2
  unfold blw
  rw [decide_eq_true_iff]
  omega
set_option maxRecDepth 100000 in
theorem holds_b : ∀ s, s < 64 → ∀ p, p < 6 → (nI s >>> (nI p &&& 31)) &&& nI 1 = kb (s.testBit p) := by decide +kernel
def kcut (la v : Int32) : Int32 := if la = 0 then v.toInt8.toInt32 else if la = nI 1 then v.toInt16.toInt32 else v
def kcells (le : Nat) (i n : Int32) : Bool := decide (0 ≤ i.toInt ∧ i.toInt ≤ (le : Int) ∧ n.toInt ≤ (le : Int) - i.toInt)
theorem kcells_0 {le : Nat} {i n : Int32} (h : i < 0) : kcells le i n = false := by
  have h1 : i.toInt < 0 := Int32.lt_iff_toInt_lt.mp h
  unfold kcells
  rw [decide_eq_false_iff_not]
  omega
theorem kcells_1 {le : Nat} {i n : Int32} (hle : le ≤ 60) (h : nI le < i) : kcells le i n = false := by
  have h1 := Int32.lt_iff_toInt_lt.mp h
  rw [nI_toInt (by omega)] at h1
  unfold kcells
  rw [decide_eq_false_iff_not]
  omega
theorem kcells_s {le : Nat} {i : Int32} (hle : le ≤ 60) (h0 : ¬ i < 0) (h : ¬ nI le < i) : (nI le - i).toInt = (le : Int) - i.toInt ∧ 0 ≤ i.toInt ∧ i.toInt ≤ (le : Int) := by
  have h1 : ¬ i.toInt < 0 := fun q => h0 (Int32.lt_iff_toInt_lt.mpr q)
  have h2 : ¬ (nI le).toInt < i.toInt := fun q => h (Int32.lt_iff_toInt_lt.mpr q)
  rw [nI_toInt (by omega)] at h2
  refine ⟨?_, by omega, by omega⟩
  rw [Int32.toInt_sub, nI_toInt (by omega)]
  exact Int.bmod_eq_of_le (by omega) (by omega)
theorem kcells_2 {le : Nat} {i n : Int32} (hle : le ≤ 60) (h0 : ¬ i < 0) (h : ¬ nI le < i) (h2 : nI le - i < n) : kcells le i n = false := by
  obtain ⟨a, b, c⟩ := kcells_s hle h0 h
  have h3 := Int32.lt_iff_toInt_lt.mp h2
  rw [a] at h3
  unfold kcells
  rw [decide_eq_false_iff_not]
  omega
theorem kcells_3 {le : Nat} {i n : Int32} (hle : le ≤ 60) (h0 : ¬ i < 0) (h : ¬ nI le < i) (h2 : ¬ nI le - i < n) : kcells le i n = true := by
  obtain ⟨a, b, c⟩ := kcells_s hle h0 h
  have h3 : ¬ (nI le - i).toInt < n.toInt := fun q => h2 (Int32.lt_iff_toInt_lt.mpr q)
  rw [a] at h3
  unfold kcells
  rw [decide_eq_true_iff]
  omega
def kfrow (la z : Int32) : Nat := if la = (-1) then 1 else if la = z then 0 else 2
theorem kfrow_lt (la z : Int32) : kfrow la z < 3 := by
  unfold kfrow
  split
  · omega
  · split <;> omega
def kfcells (la : Int32) (le : Nat) (z i n : Int32) : Nat := if kfrow la z ≠ 0 then kfrow la z else if n < 0 then 4 else if kcells le i n = true then 0 else 3
theorem kfcells_lt (la : Int32) (le : Nat) (z i n : Int32) : kfcells la le z i n < 5 := by
  have := kfrow_lt la z
  unfold kfcells
  split
  · omega
  · split
    · omega
    · split <;> omega
def ktake (many : Nat) (k : Int32) : Nat := many - k.toNatClampNeg
theorem ktake_sub {many : Nat} {k : Int32} (hm : many ≤ 8) (h0 : ¬ k < 0) (h1 : k ≤ nI many) : nI many - k = nI (ktake many k) ∧ blw k (many + 1) = true := by
  obtain ⟨j, hj, rfl⟩ := nI_of h0
  have h2 : j ≤ many := (nI_leI hj (by omega)).mp h1
  unfold ktake
  rw [nI_clamp hj]
  refine ⟨pk_sub h2, ?_⟩
  rw [blw_nI hj]
  simpa using (by omega : j < many + 1)
theorem ktake_out {many : Nat} {k : Int32} (hm : many ≤ 8) (h1 : ¬ k ≤ nI many) : blw k (many + 1) = false := by
  have h2 : ¬ k.toInt ≤ (nI many).toInt := fun q => h1 (Int32.le_iff_toInt_le.mpr q)
  rw [nI_toInt (by omega)] at h2
  unfold blw
  rw [decide_eq_false_iff_not]
  omega
theorem upd_lt {g : Nat → Int32} {i : Nat} {v : Int32} (h : ∀ j, j < i → g j = v) : ∀ j, j < i + 1 → upd g i v j = v := by
  intro j hj
  by_cases q : j = i
  · rw [q]; exact pk_us
  · rw [pk_un q]; exact h j (by omega)
theorem updL_lt {g : Nat → Int64} {i : Nat} {v : Int64} (h : ∀ j, j < i → g j = v) : ∀ j, j < i + 1 → vp_updL g i v j = v := by
  intro j hj
  by_cases q : j = i
  · rw [q]; exact pk_uLs
  · rw [pk_uLn q]; exact h j (by omega)
