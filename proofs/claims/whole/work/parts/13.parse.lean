/-! the text of a pass, code by code -/
def upto (P : Nat → Bool) : Nat → Nat
  | 0 => 0
  | n + 1 => if upto P n = n then (if P n = true then n + 1 else n) else upto P n
theorem upto_le (P : Nat → Bool) : ∀ n, upto P n ≤ n
  | 0 => Nat.le_refl _
  | n + 1 => by
    have h := upto_le P n
    show (if upto P n = n then (if P n = true then n + 1 else n) else upto P n) ≤ n + 1
    split
    · split <;> omega
    · omega
theorem upto_all {P : Nat → Bool} : ∀ {n : Nat}, allN P n = true → upto P n = n
  | 0, _ => rfl
  | n + 1, h => by
    have h0 : allN P n = true ∧ P n = true := by
      have : (allN P n && P n) = true := h
      rwa [Bool.and_eq_true] at this
    show (if upto P n = n then (if P n = true then n + 1 else n) else upto P n) = n + 1
    rw [upto_all h0.1, if_pos rfl, if_pos h0.2]
theorem upto_hit {P : Nat → Bool} {k : Nat} (h : allN P k = true) (hk : P k = false) : ∀ {n : Nat}, k < n → upto P n = k
  | 0, hn => absurd hn (Nat.not_lt_zero _)
  | n + 1, hn => by
    show (if upto P n = n then (if P n = true then n + 1 else n) else upto P n) = k
    rcases Nat.lt_or_ge k n with q | q
    · rw [upto_hit h hk q, if_neg (by omega)]
    · have e : n = k := by omega
      subst e
      rw [upto_all h, if_pos rfl, if_neg (by rw [hk]; decide)]
theorem upto_t {P : Nat → Bool} : ∀ {n k : Nat}, k < upto P n → P k = true
  | 0, k, h => absurd h (Nat.not_lt_zero _)
  | n + 1, k, h => by
    have h1 : k < (if upto P n = n then (if P n = true then n + 1 else n) else upto P n) := h
    by_cases q : upto P n = n
    · rw [if_pos q] at h1
      by_cases z : P n = true
      · rw [if_pos z] at h1
        rcases Nat.lt_or_ge k n with y | y
        · exact upto_t (n := n) (by omega)
        · have : k = n := by omega
          rw [this]; exact z
      · rw [if_neg z] at h1
        exact upto_t (n := n) (by omega)
    · rw [if_neg q] at h1
      exact upto_t (n := n) h1
def kOK (c : Nat → Int32) (k : Nat) : Bool := decide (kindN (c (1 + 2 * k)) ≠ 999)
def aNum (c : Nat → Int32) (k : Nat) : Nat := digN (c (1 + 2 * k + 1)) 0 1
def pOK (c : Nat → Int32) (k : Nat) : Bool := kOK c k && decide (aNum c k ≠ 999)
def aB (c : Nat → Int32) (k : Nat) : Bool := decide (aNum c k = 1)
def nPer (c : Nat → Int32) : Nat := upto (pOK c) 6
def wPl (K w : Nat) : Nat := 1 + 2 * K + 4 * w
def dFr (c : Nat → Int32) (K w : Nat) : Nat := digN (c (wPl K w + 1)) 0 (K - 1)
def dTo (c : Nat → Int32) (K w : Nat) : Nat := digN (c (wPl K w + 2)) 0 (K - 1)
def dDa (c : Nat → Int32) (K w : Nat) : Nat := digN (c (wPl K w + 3)) 1 9
def wOK (c : Nat → Int32) (K w : Nat) : Bool := decide (c (wPl K w) = nI 59) && (decide (dFr c K w ≠ 999) && (decide (dTo c K w ≠ 999) && decide (dDa c K w ≠ 999)))
def nWay (c : Nat → Int32) (K : Nat) : Nat := upto (wOK c K) 9
def pFltP (c : Nat → Int32) : Nat := if nPer c < 6 then (if kOK c (nPer c) = true then 1 + 2 * nPer c + 1 else if nPer c < 2 then 1 + 2 * nPer c else 999) else 999
def pFltW (c : Nat → Int32) (K n : Nat) : Nat := if nWay c K < 9 ∧ c (wPl K (nWay c K)) = nI 59 then (if dFr c K (nWay c K) = 999 then wPl K (nWay c K) + 1 else if dTo c K (nWay c K) = 999 then wPl K (nWay c K) + 2 else wPl K (nWay c K) + 3) else if wPl K (nWay c K) = n then 999 else wPl K (nWay c K)
def pFlt (c : Nat → Int32) (n : Nat) : Nat := if c 0 = nI 105 then (if pFltP c = 999 then pFltW c (nPer c) n else pFltP c) else 0
theorem kNone_9 {v : Nat} (hv : v = 999 ∨ v < 60) : kNone v = (-9) ↔ v = 999 := by
  have := kNone_inj (a := v) (b := 999) hv (Or.inl rfl)
  rw [← this]
  rfl
theorem kNone_n {v : Nat} (h : v ≠ 999) : kNone v = nI v := by unfold kNone; rw [if_neg h]
theorem kind_9 {x : Int32} (h : ¬ kNone (kindN x) = (-9)) : kNone (kindN x) = nI (kindN x) ∧ kindN x ≠ 999 ∧ kindN x < 3 := by
  rcases kindN_lt x with z | z
  · exact absurd ((kNone_9 (Or.inl z)).mpr z) h
  · exact ⟨kNone_n (by omega), by omega, z⟩
theorem kind_e {x : Int32} (h : kNone (kindN x) = (-9)) : kindN x = 999 := (kNone_9 (by rcases kindN_lt x with z | z; exact Or.inl z; exact Or.inr (by omega))).mp h
theorem dig_9 {x : Int32} {lo hi : Nat} (hh : hi < 60) (h : ¬ kNone (digN x lo hi) = (-9)) : kNone (digN x lo hi) = nI (digN x lo hi) ∧ digN x lo hi ≠ 999 ∧ lo ≤ digN x lo hi ∧ digN x lo hi ≤ hi := by
  rcases digN_lt (x := x) (lo := lo) (hi := hi) with z | z
  · exact absurd ((kNone_9 (Or.inl z)).mpr z) h
  · exact ⟨kNone_n (by omega), by omega, z⟩
theorem dig_e {x : Int32} {lo hi : Nat} (hh : hi < 60) (h : kNone (digN x lo hi) = (-9)) : digN x lo hi = 999 := (kNone_9 (by rcases digN_lt (x := x) (lo := lo) (hi := hi) with z | z; exact Or.inl z; exact Or.inr (by omega))).mp h
theorem smk_or {P : Nat → Bool} {k g : Nat} (hk : k < 6) (hg : g ≤ 1) (hP : P k = decide (g = 1)) : nI (mskN P k) ||| (nI g <<< (nI k &&& 31)) = nI (mskN P (k + 1)) := by
  rcases (show g = 0 ∨ g = 1 by omega) with rfl | rfl
  · have e : nI 0 <<< (nI k &&& 31) = nI 0 := (by decide +kernel : ∀ k, k < 6 → nI 0 <<< (nI k &&& 31) = nI 0) k hk
    rw [e, orI, Nat.or_zero, mskN_no (by rw [hP]; rfl)]
  · exact mskN_or (by omega) (by rw [hP]; rfl)
theorem per_kind {c : Nat → Int32} {k : Nat} (hk : k < 6) (h : allN (pOK c) k = true) (hb : kindN (c (1 + 2 * k)) = 999) : nPer c = k ∧ pFltP c = (if k < 2 then 1 + 2 * k else 999) := by
  have h0 : kOK c k = false := by unfold kOK; simp [hb]
  have e : nPer c = k := upto_hit h (by unfold pOK; rw [h0]; rfl) hk
  refine ⟨e, ?_⟩
  unfold pFltP
  rw [e, if_pos hk, if_neg (by rw [h0]; decide)]
theorem per_anvil {c : Nat → Int32} {k : Nat} (hk : k < 6) (h : allN (pOK c) k = true) (hb : kindN (c (1 + 2 * k)) ≠ 999) (ha : aNum c k = 999) : nPer c = k ∧ pFltP c = 1 + 2 * k + 1 := by
  have h0 : kOK c k = true := by unfold kOK; simp [hb]
  have e : nPer c = k := upto_hit h (by unfold pOK; simp [ha]) hk
  refine ⟨e, ?_⟩
  unfold pFltP
  rw [e, if_pos hk, if_pos h0]
theorem per_all {c : Nat → Int32} (h : allN (pOK c) 6 = true) : nPer c = 6 ∧ pFltP c = 999 := by
  have e : nPer c = 6 := upto_all h
  refine ⟨e, ?_⟩
  unfold pFltP
  rw [e, if_neg (by omega)]
theorem per_step {c : Nat → Int32} {k : Nat} (h : allN (pOK c) k = true) (hb : kindN (c (1 + 2 * k)) ≠ 999) (ha : aNum c k ≠ 999) : allN (pOK c) (k + 1) = true := allN_s h (by unfold pOK kOK; simp [hb, ha])
theorem way_end {c : Nat → Int32} {K w n : Nat} (hw : w ≤ 9) (h : allN (wOK c K) w = true) (hx : 9 ≤ w ∨ ¬ c (wPl K w) = nI 59) : nWay c K = w ∧ pFltW c K n = (if wPl K w = n then 999 else wPl K w) := by
  have e : nWay c K = w := by
    rcases Nat.lt_or_ge w 9 with q | q
    · refine upto_hit h ?_ q
      unfold wOK
      rw [decide_eq_false (by rcases hx with z | z; omega; exact z)]
      rfl
    · have e9 : w = 9 := by omega
      subst e9
      exact upto_all h
  refine ⟨e, ?_⟩
  unfold pFltW
  rw [e, if_neg (fun z => by rcases hx with y | y; omega; exact y z.2)]
theorem way_bad {c : Nat → Int32} {K w n : Nat} (hw : w < 9) (h : allN (wOK c K) w = true) (hc : c (wPl K w) = nI 59) (hb : dFr c K w = 999 ∨ dTo c K w = 999 ∨ dDa c K w = 999) : nWay c K = w ∧ pFltW c K n = (if dFr c K w = 999 then wPl K w + 1 else if dTo c K w = 999 then wPl K w + 2 else wPl K w + 3) := by
  have e : nWay c K = w := by
    refine upto_hit h ?_ hw
    unfold wOK
    rcases hb with z | z | z <;> simp [z]
  refine ⟨e, ?_⟩
  unfold pFltW
  rw [e, if_pos ⟨hw, hc⟩]
theorem way_step {c : Nat → Int32} {K w : Nat} (h : allN (wOK c K) w = true) (hc : c (wPl K w) = nI 59) (h1 : dFr c K w ≠ 999) (h2 : dTo c K w ≠ 999) (h3 : dDa c K w ≠ 999) : allN (wOK c K) (w + 1) = true := allN_s h (by unfold wOK; simp [hc, h1, h2, h3])
theorem kSound_n {v : Nat} (h : v < 999) : kSound v = nI v := by unfold kSound; rw [if_neg (by omega)]
theorem kSound_s : kSound 999 = (-1) := rfl
theorem upd_row {P : Nat → Nat} {g : Nat → Int32} {k : Nat} (h : ∀ j, j < k → g j = nI (P j)) {v : Int32} (hv : v = nI (P k)) : ∀ j, j < k + 1 → upd g k v j = nI (P j) := fun j hj => by
  by_cases z : j = k
  · subst z; rw [pk_us, hv]
  · rw [pk_un z]; exact h j (by omega)
theorem upd_keep {P : Nat → Nat} {g : Nat → Int32} {k : Nat} (h : ∀ j, j < k → g j = nI (P j)) (v : Int32) : ∀ j, j < k → upd g k v j = nI (P j) := fun j hj => by
  rw [pk_un (by omega)]; exact h j hj
theorem nPer_le (c : Nat → Int32) : nPer c ≤ 6 := upto_le _ _
theorem nWay_le (c : Nat → Int32) (K : Nat) : nWay c K ≤ 9 := upto_le _ _
theorem pFltP_lt {c : Nat → Int32} : pFltP c = 999 ∨ pFltP c < 60 := by
  have := nPer_le c
  unfold pFltP
  split
  · split
    · right; omega
    · split
      · right; omega
      · left; rfl
  · left; rfl
theorem nPer_2 {c : Nat → Int32} (h : pFltP c = 999) : 1 ≤ nPer c := by
  unfold pFltP at h
  have := nPer_le c
  by_cases h1 : nPer c < 6
  · rw [if_pos h1] at h
    by_cases h2 : kOK c (nPer c) = true
    · rw [if_pos h2] at h; omega
    · rw [if_neg h2] at h
      by_cases h3 : nPer c < 2
      · rw [if_pos h3] at h; omega
      · omega
  · omega
theorem nPer_ge2 {c : Nat → Int32} (h : pFltP c = 999) : 2 ≤ nPer c := by
  unfold pFltP at h
  have := nPer_le c
  by_cases h1 : nPer c < 6
  · rw [if_pos h1] at h
    by_cases h2 : kOK c (nPer c) = true
    · rw [if_pos h2] at h; omega
    · rw [if_neg h2] at h
      by_cases h3 : nPer c < 2
      · rw [if_pos h3] at h; omega
      · omega
  · omega
theorem kSound_e {v : Nat} (hv : v = 999 ∨ v < 60) (h : kSound v = (-1)) : v = 999 := by
  rcases hv with z | z
  · exact z
  · unfold kSound at h
    rw [if_neg (by omega)] at h
    have h3 := congrArg Int32.toInt h
    rw [nI_toInt (by omega), show (-1 : Int32).toInt = -1 from rfl] at h3
    omega
