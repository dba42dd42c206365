/-! the best set, found one by one -/
def bstN (P : Nat → Bool) : Nat → Nat
  | 0 => 999
  | n + 1 => if (bstN P n = 999 ∨ popc n < popc (bstN P n)) ∧ P n = true then n else bstN P n
def isB (P : Nat → Bool) (n b : Nat) : Prop := b < n ∧ P b = true ∧ ∀ s, s < n → P s = true → popc b < popc s ∨ (popc b = popc s ∧ b ≤ s)
theorem bstN_is {P : Nat → Bool} : ∀ {n : Nat}, n ≤ 64 → (bstN P n = 999 ∧ ∀ s, s < n → P s = false) ∨ isB P n (bstN P n)
  | 0, _ => Or.inl ⟨rfl, fun s hs => absurd hs (Nat.not_lt_zero s)⟩
  | n + 1, hn => by
    have ih := bstN_is (P := P) (n := n) (by omega)
    by_cases hc : (bstN P n = 999 ∨ popc n < popc (bstN P n)) ∧ P n = true
    · have e : bstN P (n + 1) = n := if_pos hc
      rw [e]
      right
      refine ⟨by omega, hc.2, fun s hs hp => ?_⟩
      by_cases hsn : s = n
      · subst hsn; exact Or.inr ⟨rfl, Nat.le_refl _⟩
      · rcases ih with ⟨_, h0⟩ | ⟨h1, h2, h3⟩
        · rw [h0 s (by omega)] at hp; cases hp
        · rcases hc.1 with z | z
          · omega
          · rcases h3 s (by omega) hp with y | y
            · left; omega
            · left; omega
    · have e : bstN P (n + 1) = bstN P n := if_neg hc
      rw [e]
      rcases ih with ⟨h0, h1⟩ | ⟨h1, h2, h3⟩
      · left
        refine ⟨h0, fun s hs => ?_⟩
        by_cases hsn : s = n
        · subst hsn
          cases hb : P s
          · rfl
          · exact absurd ⟨Or.inl h0, hb⟩ hc
        · exact h1 s (by omega)
      · right
        refine ⟨by omega, h2, fun s hs hp => ?_⟩
        by_cases hsn : s = n
        · subst hsn
          have hn2 : ¬ popc s < popc (bstN P s) := fun z => hc ⟨Or.inr z, hp⟩
          by_cases hq : popc (bstN P s) < popc s
          · exact Or.inl hq
          · exact Or.inr ⟨by omega, by omega⟩
        · exact h3 s (by omega) hp
theorem isB_uni {P : Nat → Bool} {n a b : Nat} (ha : isB P n a) (hb : isB P n b) : a = b := by
  have h1 := ha.2.2 b hb.1 hb.2.1
  have h2 := hb.2.2 a ha.1 ha.2.1
  omega
theorem popc_full : ∀ np, np < 7 → popc (2 ^ np - 1) = np ∧ ∀ s, s < 2 ^ np - 1 → popc s < np := by decide +kernel
theorem fstN_le {Q : Nat → Bool} {k n : Nat} (hk : k < n) (hn : n ≤ 999) (h : Q k = true) : fstN Q n ≤ k := by
  rcases Nat.lt_or_ge k (fstN Q n) with z | z
  · exfalso
    have hm : ∀ m, m ≤ n → m ≤ fstN Q n → fstN Q m = 999 := fun m hm hm2 => (fstN_none (by omega)).mpr fun d hd => by
      cases hb : Q d
      · rfl
      · exfalso
        obtain ⟨d0, ⟨hq, hl⟩⟩ : ∃ d0, (d0 ≤ d ∧ Q d0 = true) ∧ ∀ j, j < d0 → Q j = false := by
          obtain ⟨k0, h1, h2⟩ := pk_least (fun j => Q j = true) ⟨d, hb⟩
          refine ⟨k0, ⟨?_, h1⟩, fun j hj => ?_⟩
          · rcases Nat.lt_or_ge d k0 with y | y
            · exact absurd hb (h2 d y)
            · exact y
          · cases hc : Q j
            · rfl
            · exact absurd hc (h2 j hj)
        have := fstN_hit (P := Q) (d := d0) ((fstN_none (by omega)).mpr hl) hq.2 (by omega) (n := n) (by omega)
        omega
    have h1 := hm (k + 1) (by omega) (by omega)
    have := (fstN_none (by omega)).mp h1 k (by omega)
    rw [h] at this; cases this
  · exact z
theorem anyP_t {P : Nat → Bool} {all k : Nat} (h : anyP P all k = true) : ¬ fstN (sizP P k) all = 999 := of_decide_eq_true h
theorem sizP_t {P : Nat → Bool} {k s : Nat} (h : sizP P k s = true) : popc s = k ∧ P s = true := ⟨of_decide_eq_true (andS h).1, (andS h).2⟩
theorem lsx_isB {P : Nat → Bool} {np : Nat} (hnp : np ≤ 6) (hall : P (2 ^ np - 1) = true) : isB P (2 ^ np) (lsx P np) := by
  have hp := pw64 hnp
  have hp1 := pw1 np
  have hf := popc_full np (by omega)
  unfold lsx
  rw [if_pos hall]
  by_cases hk : fstN (anyP P (2 ^ np - 1)) np = 999
  · rw [if_pos hk]
    refine ⟨by omega, hall, fun s hs hps => ?_⟩
    by_cases he : s = 2 ^ np - 1
    · subst he; exact Or.inr ⟨rfl, Nat.le_refl _⟩
    · exfalso
      have h1 := hf.2 s (by omega)
      have h2 := (fstN_none (by omega)).mp hk (popc s) h1
      unfold anyP at h2
      have h3 : fstN (sizP P (popc s)) (2 ^ np - 1) = 999 := by simpa using h2
      have h4 := (fstN_none (by omega)).mp h3 s (by omega)
      unfold sizP at h4
      simp [hps] at h4
  · rw [if_neg hk]
    have hk2 := (fstN_lt (P := anyP P (2 ^ np - 1)) (n := np)).resolve_left hk
    have hs0 : ¬ fstN (sizP P (fstN (anyP P (2 ^ np - 1)) np)) (2 ^ np - 1) = 999 := anyP_t hk2.2
    have hs1 := (fstN_lt (P := sizP P (fstN (anyP P (2 ^ np - 1)) np)) (n := 2 ^ np - 1)).resolve_left hs0
    have hs2 : popc (fstN (sizP P (fstN (anyP P (2 ^ np - 1)) np)) (2 ^ np - 1)) = fstN (anyP P (2 ^ np - 1)) np ∧ P (fstN (sizP P (fstN (anyP P (2 ^ np - 1)) np)) (2 ^ np - 1)) = true := sizP_t hs1.2
    refine ⟨by omega, hs2.2, fun s hs hps => ?_⟩
    rw [hs2.1]
    by_cases he : s = 2 ^ np - 1
    · left; rw [he, hf.1]; exact hk2.1
    · rcases Nat.lt_trichotomy (fstN (anyP P (2 ^ np - 1)) np) (popc s) with z | z | z
      · exact Or.inl z
      · right
        refine ⟨z, ?_⟩
        exact fstN_le (by omega) (by omega) (by unfold sizP; simp [z, hps])
      · exfalso
        have h5 : anyP P (2 ^ np - 1) (popc s) = true := by
          unfold anyP
          have h6 : ¬ fstN (sizP P (popc s)) (2 ^ np - 1) = 999 := fun y => by
            have := (fstN_none (by omega)).mp y s (by omega)
            unfold sizP at this
            simp [hps] at this
          simpa using h6
        have := fstN_le (Q := anyP P (2 ^ np - 1)) (n := np) (k := popc s) (by omega) (by omega) h5
        omega
/-- one by one is by number, if all is the most -/
theorem bst_lsx {P : Nat → Bool} {np : Nat} (hnp : np ≤ 6) (hm : ∀ s, s < 2 ^ np → P s = true → P (2 ^ np - 1) = true) : bstN P (2 ^ np) = lsx P np := by
  have hp := pw64 hnp
  have hp1 := pw1 np
  rcases bstN_is (P := P) hp with ⟨h0, h1⟩ | h
  · rw [h0]; unfold lsx; rw [if_neg (by rw [h1 _ (by omega)]; decide)]
  · exact isB_uni h (lsx_isB hnp (hm _ h.1 h.2.1))
theorem bst_dis {P : Nat → Bool} {np hm : Nat} (hnp : np ≤ 6) (hmo : ∀ s, s < 2 ^ np → P s = true → P (2 ^ np - 1) = true) (heq : ∀ s s2, hm ||| s = hm ||| s2 → P s = P s2) : bstN (fun s => decide (s &&& hm = 0) && P s) (2 ^ np) = lsx P np := by
  have hp := pw64 hnp
  have hp1 := pw1 np
  have red : ∀ s, s < 2 ^ np → P s = true → ∃ s2, s2 ≤ s ∧ popc s2 ≤ popc s ∧ s2 &&& hm = 0 ∧ P s2 = true := fun s hs hps => by
    refine ⟨s &&& (63 ^^^ hm), Nat.and_le_left, fb_ct_sub fun k hk hb => ?_, ?_, ?_⟩
    · rw [Nat.testBit_and] at hb; simp at hb; exact hb.1
    · refine Nat.eq_of_testBit_eq fun i => ?_
      rw [Nat.testBit_and, Nat.testBit_and, Nat.testBit_xor, Nat.zero_testBit]
      by_cases hi : i < 6
      · have : Nat.testBit 63 i = true := by
          have h7 : ∀ i, i < 6 → Nat.testBit 63 i = true := by decide
          exact h7 i hi
        rw [this]; cases s.testBit i <;> cases hm.testBit i <;> rfl
      · have : s.testBit i = false := Nat.testBit_lt_two_pow (Nat.lt_of_lt_of_le (Nat.lt_of_lt_of_le hs hp) (by
          have : 2 ^ 6 ≤ 2 ^ i := Nat.pow_le_pow_right (by omega) (by omega)
          omega))
        rw [this]; rfl
    · rw [← hps]
      refine heq _ _ (Nat.eq_of_testBit_eq fun i => ?_)
      rw [Nat.testBit_or, Nat.testBit_or, Nat.testBit_and, Nat.testBit_xor]
      by_cases hi : i < 6
      · have : Nat.testBit 63 i = true := by
          have h7 : ∀ i, i < 6 → Nat.testBit 63 i = true := by decide
          exact h7 i hi
        rw [this]; cases s.testBit i <;> cases hm.testBit i <;> rfl
      · have : s.testBit i = false := Nat.testBit_lt_two_pow (Nat.lt_of_lt_of_le (Nat.lt_of_lt_of_le hs hp) (by
          have : 2 ^ 6 ≤ 2 ^ i := Nat.pow_le_pow_right (by omega) (by omega)
          omega))
        rw [this]; cases hm.testBit i <;> rfl
  rcases bstN_is (P := fun s => decide (s &&& hm = 0) && P s) hp with ⟨h0, h1⟩ | h
  · rw [h0]; unfold lsx
    rw [if_neg]
    intro hf
    obtain ⟨s2, h2, _, h4, h5⟩ := red _ (by omega) hf
    have := h1 s2 (by omega)
    simp [h4, h5] at this
  · have hb := h.2.1
    have hb2 : P (bstN (fun s => decide (s &&& hm = 0) && P s) (2 ^ np)) = true := by
      have := andS hb; exact this.2
    have h9 : isB P (2 ^ np) (bstN (fun s => decide (s &&& hm = 0) && P s) (2 ^ np)) := ⟨h.1, hb2, fun s hs hps => by
      obtain ⟨s2, h2, h3, h4, h5⟩ := red s hs hps
      have := h.2.2 s2 (by omega) (by simp [h4, h5])
      omega⟩
    exact isB_uni h9 (lsx_isB hnp (hmo _ h.1 hb2))
theorem fday_mono {H H2 : Nat → Nat → Nat → Prop} {lw : Nat} {fg : Nat → Bool} {p t : Nat} (ht : t < 4) (h : ∀ d r, H d p r → H2 d p r) : fday H2 lw fg p t ≤ fday H lw fg p t := by
  rcases fstN_lt (P := fun d => !fg d && decide (lw ≤ cntH H d p t)) (n := 60) with z | z
  · have h1 : fday H lw fg p t = 999 := z
    rw [h1]
    rcases @fday_lt H2 lw fg p t with y | y <;> omega
  · have h2 : fday H lw fg p t = fstN (fun d => !fg d && decide (lw ≤ cntH H d p t)) 60 := rfl
    rw [h2]
    refine fstN_le (Q := fun d => !fg d && decide (lw ≤ cntH H2 d p t)) z.1 (by omega) ?_
    have h3 := andS z.2
    have h4 := of_decide_eq_true h3.2
    have h5 := cntH_mono (H := H) (H2 := H2) (d := fstN (fun d => !fg d && decide (lw ≤ cntH H d p t)) 60) (d2 := fstN (fun d => !fg d && decide (lw ≤ cntH H d p t)) 60) (p := p) (t := t) (fun r _ hr => h _ r hr) ht
    exact andT h3.1 (decide_eq_true (by omega))
theorem rch_tell {np nw : Nat} {wf wt wd kd : Nat → Nat} {hm : Nat} {tp tt td : Nat → Nat} {nt lw : Nat} {fg : Nat → Bool} {q t d : Nat} (ht : t < 4) : ∀ s, s < 2 ^ np → rch np nw wf wt wd kd hm tp tt td nt lw fg true q t d s = true → rch np nw wf wt wd kd hm tp tt td nt lw fg true q t d (2 ^ np - 1) = true := fun s hs h => by
  unfold rch at h ⊢
  rw [if_pos rfl] at h ⊢
  have h1 := of_decide_eq_true h
  refine decide_eq_true (Nat.le_trans (fday_mono ht fun d r hr => ?_) h1)
  refine hrd_mono (fun _ _ z => z) (fun d p r hq => ?_) hr
  obtain ⟨a, b, c, e⟩ := hq
  refine ⟨a, b, ?_, e⟩
  rw [Nat.testBit_two_pow_sub_one]
  exact decide_eq_true b
theorem rch_hush {np nw : Nat} {wf wt wd kd : Nat → Nat} {hm : Nat} {tp tt td : Nat → Nat} {nt lw : Nat} {fg : Nat → Bool} {q t d : Nat} (hw : waysOk np nw wf wt wd kd) (ht : t < 4) : ∀ s, s < 2 ^ np → rch np nw wf wt wd kd hm tp tt td nt lw fg false q t d s = true → rch np nw wf wt wd kd hm tp tt td nt lw fg false q t d (2 ^ np - 1) = true := fun s hs h => by
  unfold rch at h ⊢
  rw [if_neg (by decide)] at h ⊢
  have h1 : ¬ fday (hrd nw wf wt wd kd (actW (hm ||| s) (-1) wf) (tellS tp tt td nt (-1))) lw fg q t ≤ d := by simpa using h
  have h2 : ¬ fday (hrd nw wf wt wd kd (actW (hm ||| (2 ^ np - 1)) (-1) wf) (tellS tp tt td nt (-1))) lw fg q t ≤ d := fun z => h1 (Nat.le_trans (fday_mono ht fun d r hr => hrd_mono (fun w hw1 ha => by
    exfalso
    have h3 := ha.2
    rw [Nat.testBit_or, Nat.testBit_two_pow_sub_one, decide_eq_true (hw.2.2.2 w hw1).1] at h3
    simp at h3) (fun _ _ _ hq => hq) hr) z)
  simpa using h2
theorem rch_or {np nw : Nat} {wf wt wd kd : Nat → Nat} {hm : Nat} {tp tt td : Nat → Nat} {nt lw : Nat} {fg : Nat → Bool} {q t d : Nat} : ∀ s s2, hm ||| s = hm ||| s2 → rch np nw wf wt wd kd hm tp tt td nt lw fg false q t d s = rch np nw wf wt wd kd hm tp tt td nt lw fg false q t d s2 := fun s s2 e => by
  unfold rch
  rw [if_neg (by decide), if_neg (by decide), e]
/-! tellings numbered by rank -/
def rnk (st : Nat) (n : Nat) : Nat := fb_ct (fun i => st.testBit i) n
def setR (st t n : Nat) : Nat → Nat → Nat → Prop := fun d p r => d = 0 ∧ p < n ∧ st.testBit p = true ∧ r = t * 15 + rnk st p
theorem rnk_le (st n : Nat) : rnk st n ≤ n := fb_ct_le _ _
theorem rnk_y {st n : Nat} (h : st.testBit n = true) : rnk st n + 1 = rnk st (n + 1) := ct_y (P := fun i => st.testBit i) h
theorem rnk_n {st n : Nat} (h : st.testBit n = false) : rnk st n = rnk st (n + 1) := ct_n (P := fun i => st.testBit i) h
theorem setR_0 (st t : Nat) : ∀ d p r, setR st t 0 d p r ↔ False := fun d p r => ⟨fun h => absurd h.2.1 (Nat.not_lt_zero p), fun h => h.elim⟩
theorem setR_no {st t k : Nat} (h : st.testBit k = false) : ∀ d p r, setR st t (k + 1) d p r ↔ setR st t k d p r := fun d p r => by
  constructor
  · rintro ⟨a, b, c, e⟩
    refine ⟨a, ?_, c, e⟩
    rcases Nat.lt_or_ge p k with z | z
    · exact z
    · have : p = k := by omega
      subst this; rw [h] at c; cases c
  · rintro ⟨a, b, c, e⟩; exact ⟨a, by omega, c, e⟩
theorem setR_yes {st t k : Nat} (h : st.testBit k = true) : ∀ d p r, setR st t (k + 1) d p r ↔ setR st t k d p r ∨ (d = 0 ∧ p = k ∧ r = t * 15 + rnk st k) := fun d p r => by
  constructor
  · rintro ⟨a, b, c, e⟩
    by_cases z : p = k
    · subst z; exact Or.inr ⟨a, rfl, e⟩
    · exact Or.inl ⟨a, by omega, c, e⟩
  · rintro (⟨a, b, c, e⟩ | ⟨a, rfl, e⟩)
    · exact ⟨a, by omega, c, e⟩
    · exact ⟨a, by omega, h, e⟩
def rho (st o : Nat) : Nat := if o < 6 then rnk st o else o
def phi (st r : Nat) : Nat := r / 15 * 15 + rho st (r % 15)
def vis (st r : Nat) : Prop := r < 60 ∧ (r % 15 < 6 → st.testBit (r % 15) = true)
theorem rho_lt {st o : Nat} (h : o < 15) : rho st o < 15 := by
  unfold rho
  have := rnk_le st o
  by_cases h6 : o < 6
  · rw [if_pos h6]; omega
  · rw [if_neg h6]; exact h
theorem phi_lt {st r : Nat} (h : r < 60) : phi st r < 60 := by
  have := rho_lt (st := st) (o := r % 15) (by omega)
  unfold phi; omega
theorem phi_chg {st k p r : Nat} (hp : p < 6) (hr : r < 60) : phi st (chg k p r) = chg k p (phi st r) := by
  have h1 := rho_lt (st := st) (o := r % 15) (by omega)
  have hd : phi st r / 15 = r / 15 := by unfold phi; omega
  unfold chg
  by_cases h0 : k = 0
  · rw [if_pos h0, if_pos h0]
  · rw [if_neg h0, if_neg h0]
    by_cases h2 : k = 1
    · rw [if_pos h2, if_pos h2]
      have e1 : (r + 15) % 60 % 15 = r % 15 := by omega
      have e2 : (r + 15) % 60 / 15 = (r / 15 + 1) % 4 := by omega
      unfold phi
      rw [e1, e2]
      omega
    · rw [if_neg h2, if_neg h2, hd]
      have e1 : ((r / 15 + 1) % 4 * 15 + 8 + p) % 15 = 8 + p := by omega
      have e2 : ((r / 15 + 1) % 4 * 15 + 8 + p) / 15 = (r / 15 + 1) % 4 := by omega
      unfold phi rho
      rw [e1, e2, if_neg (by omega)]
      omega
theorem vis_chg {st k p r : Nat} (hp : p < 6) (h : vis st r) : vis st (chg k p r) := by
  refine ⟨chg_lt hp h.1, ?_⟩
  unfold chg
  by_cases h0 : k = 0
  · rw [if_pos h0]; exact h.2
  · rw [if_neg h0]
    by_cases h2 : k = 1
    · rw [if_pos h2]
      have hr := h.1
      have e1 : (r + 15) % 60 % 15 = r % 15 := by omega
      rw [e1]; exact h.2
    · rw [if_neg h2]
      intro hq
      omega
theorem rnk_lt {st a b : Nat} (hab : a < b) (h : st.testBit a = true) : rnk st a < rnk st b := by
  have h1 := rnk_y h
  have h2 : rnk st (a + 1) ≤ rnk st b := fb_ct_mono _ (by omega)
  omega
theorem rnk_ct (st : Nat) (c : Nat → Bool) (hc : ∀ o, c o = true → st.testBit o = true) : ∀ n m, rnk st n ≤ m → fb_ct (fun o2 => pB (∃ o, o < n ∧ c o = true ∧ rnk st o = o2)) m = fb_ct c n
  | 0, m, _ => by
    rw [show fb_ct c 0 = 0 from rfl]
    refine fb_ct_zero.mpr fun k hk => ?_
    cases hb : pB (∃ o, o < 0 ∧ c o = true ∧ rnk st o = k)
    · rfl
    · obtain ⟨o, ho, _⟩ := pB_t.mp hb; omega
  | n + 1, m, hm => by
    have hle : rnk st n ≤ rnk st (n + 1) := fb_ct_mono _ (by omega)
    have ih := rnk_ct st c hc n m (by omega)
    cases hb : c n
    · rw [← ct_n hb, ← ih]
      refine fb_ct_cong fun k hk => ?_
      have e : (∃ o, o < n + 1 ∧ c o = true ∧ rnk st o = k) ↔ (∃ o, o < n ∧ c o = true ∧ rnk st o = k) := by
        constructor
        · rintro ⟨o, h1, h2, h3⟩
          refine ⟨o, ?_, h2, h3⟩
          rcases Nat.lt_or_ge o n with z | z
          · exact z
          · have : o = n := by omega
            subst this; rw [hb] at h2; cases h2
        · rintro ⟨o, h1, h2, h3⟩; exact ⟨o, by omega, h2, h3⟩
      show pB _ = pB _
      rw [propext e]
    · have hbit := hc n hb
      have h1 := rnk_y hbit
      rw [← ct_y hb, ← ih]
      have hu := fb_ct_upd (fun o2 => pB (∃ o, o < n ∧ c o = true ∧ rnk st o = o2)) true (i := rnk st n) (n := m) (by omega)
      have hz : pB (∃ o, o < n ∧ c o = true ∧ rnk st o = rnk st n) = false := by
        cases hq : pB (∃ o, o < n ∧ c o = true ∧ rnk st o = rnk st n)
        · rfl
        · obtain ⟨o, h2, h3, h4⟩ := pB_t.mp hq
          have := rnk_lt h2 (hc o h3)
          omega
      simp only [hz, Bool.false_eq_true, if_false, if_true, Nat.add_zero] at hu
      have hcg : fb_ct (fun o2 => pB (∃ o, o < n + 1 ∧ c o = true ∧ rnk st o = o2)) m = fb_ct (fun k => if k = rnk st n then true else pB (∃ o, o < n ∧ c o = true ∧ rnk st o = k)) m := fb_ct_cong fun k hk => by
        show pB _ = _
        by_cases hk2 : k = rnk st n
        · rw [if_pos hk2]; exact pB_t.mpr ⟨n, by omega, hb, hk2.symm⟩
        · rw [if_neg hk2]
          have e : (∃ o, o < n + 1 ∧ c o = true ∧ rnk st o = k) ↔ (∃ o, o < n ∧ c o = true ∧ rnk st o = k) := by
            constructor
            · rintro ⟨o, h2, h3, h4⟩
              refine ⟨o, ?_, h3, h4⟩
              rcases Nat.lt_or_ge o n with z | z
              · exact z
              · have : o = n := by omega
                subst this; exact absurd h4.symm hk2
            · rintro ⟨o, h2, h3, h4⟩; exact ⟨o, by omega, h3, h4⟩
          rw [propext e]
      rw [hcg]
      exact hu
section
variable {nw : Nat} {wf wt wd kd : Nat → Nat} {act : Nat → Prop} {st t np : Nat}
theorem rk_SR (hw : ∀ w, w < nw → wf w < 6 ∧ wt w < 6) (hnp : np ≤ 6) {d p r : Nat} (h : hrd nw wf wt wd kd act (setS st t np) d p r) : hrd nw wf wt wd kd act (setR st t np) d p (phi st r) := by
  refine h (fun d p r => hrd nw wf wt wd kd act (setR st t np) d p (phi st r)) (fun d p r hq => ?_) (fun d p r hq => hrd_up hq) (fun w d r h1 h2 h3 h4 => ?_)
  · refine hrd_S ?_
    obtain ⟨a, b, c, e⟩ := hq
    refine ⟨a, b, c, ?_⟩
    subst e
    unfold phi rho
    have e1 : (t * 15 + p) / 15 = t := by omega
    have e2 : (t * 15 + p) % 15 = p := by omega
    rw [e1, e2, if_pos (by omega)]
  · show hrd nw wf wt wd kd act (setR st t np) _ _ (phi st (chg _ _ _))
    rw [phi_chg (hw w h1).1 h3]
    exact hrd_way h1 h2 (phi_lt h3) h4
theorem rk_vis (hw : ∀ w, w < nw → wf w < 6 ∧ wt w < 6) (hnp : np ≤ 6) (ht : t < 4) {d p r : Nat} (h : hrd nw wf wt wd kd act (setS st t np) d p r) : vis st r := by
  refine h (fun d p r => vis st r) (fun d p r hq => ?_) (fun d p r hq => hq) (fun w d r h1 h2 h3 h4 => vis_chg (hw w h1).1 h4)
  obtain ⟨a, b, c, e⟩ := hq
  subst e
  refine ⟨by omega, fun _ => ?_⟩
  have e2 : (t * 15 + p) % 15 = p := by omega
  rw [e2]; exact c
theorem rk_RS (hw : ∀ w, w < nw → wf w < 6 ∧ wt w < 6) (hnp : np ≤ 6) (ht : t < 4) {d p r2 : Nat} (h : hrd nw wf wt wd kd act (setR st t np) d p r2) : ∃ r, r < 60 ∧ phi st r = r2 ∧ hrd nw wf wt wd kd act (setS st t np) d p r := by
  refine h (fun d p r2 => ∃ r, r < 60 ∧ phi st r = r2 ∧ hrd nw wf wt wd kd act (setS st t np) d p r) (fun d p r2 hq => ?_) (fun d p r hq => ?_) (fun w d r2 h1 h2 h3 h4 => ?_)
  · obtain ⟨a, b, c, e⟩ := hq
    refine ⟨t * 15 + p, by omega, ?_, hrd_S ⟨a, b, c, rfl⟩⟩
    subst e
    unfold phi rho
    have e1 : (t * 15 + p) / 15 = t := by omega
    have e2 : (t * 15 + p) % 15 = p := by omega
    rw [e1, e2, if_pos (by omega)]
  · obtain ⟨r, h1, h2, h3⟩ := hq
    exact ⟨r, h1, h2, hrd_up h3⟩
  · obtain ⟨r, q1, q2, q3⟩ := h4
    refine ⟨chg (kd (wf w)) (wf w) r, chg_lt (hw w h1).1 q1, ?_, hrd_way h1 h2 q1 q3⟩
    rw [phi_chg (hw w h1).1 q1, q2]
theorem rk_cnt (hw : ∀ w, w < nw → wf w < 6 ∧ wt w < 6) (hnp : np ≤ 6) (ht : t < 4) {d p t2 : Nat} (ht2 : t2 < 4) : cntH (hrd nw wf wt wd kd act (setR st t np)) d p t2 = cntH (hrd nw wf wt wd kd act (setS st t np)) d p t2 := by
  unfold cntH
  have e15 : ∀ P : Nat → Bool, fb_ct P 15 = fb_ct P 6 + fb_ct (fun k => P (6 + k)) 9 := fun P => fb_ct_split P 6 9
  rw [e15, e15]
  have key : ∀ o2, o2 < 15 → (hrd nw wf wt wd kd act (setR st t np) d p (t2 * 15 + o2) ↔ ∃ o, o < 15 ∧ rho st o = o2 ∧ hrd nw wf wt wd kd act (setS st t np) d p (t2 * 15 + o)) := fun o2 ho2 => by
    constructor
    · intro h
      obtain ⟨r, h1, h2, h3⟩ := rk_RS hw hnp ht h
      have h4 := rho_lt (st := st) (o := r % 15) (by omega)
      unfold phi at h2
      refine ⟨r % 15, by omega, by omega, ?_⟩
      have : t2 * 15 + r % 15 = r := by omega
      rw [this]; exact h3
    · rintro ⟨o, h1, h2, h3⟩
      have h4 := rk_SR hw hnp h3
      have e : phi st (t2 * 15 + o) = t2 * 15 + o2 := by
        unfold phi
        have e1 : (t2 * 15 + o) / 15 = t2 := by omega
        have e2 : (t2 * 15 + o) % 15 = o := by omega
        rw [e1, e2, h2]
      rw [e] at h4; exact h4
  have hA : fb_ct (fun o => pB (hrd nw wf wt wd kd act (setR st t np) d p (t2 * 15 + o))) 6 = fb_ct (fun o => pB (hrd nw wf wt wd kd act (setS st t np) d p (t2 * 15 + o))) 6 := by
    have h0 := rnk_ct st (fun o => decide (o < 6) && pB (hrd nw wf wt wd kd act (setS st t np) d p (t2 * 15 + o))) (fun o ho => by
      have h1 := andS ho
      have h2 := rk_vis hw hnp ht (pB_t.mp h1.2)
      have h3 := h2.2
      have e2 : (t2 * 15 + o) % 15 = o := by have := of_decide_eq_true h1.1; omega
      rw [e2] at h3
      exact h3 (of_decide_eq_true h1.1)) 6 6 (rnk_le st 6)
    have h1 : fb_ct (fun o => decide (o < 6) && pB (hrd nw wf wt wd kd act (setS st t np) d p (t2 * 15 + o))) 6 = fb_ct (fun o => pB (hrd nw wf wt wd kd act (setS st t np) d p (t2 * 15 + o))) 6 := fb_ct_cong fun k hk => by rw [decide_eq_true hk]; rfl
    rw [← h1, ← h0]
    refine fb_ct_cong fun k hk => ?_
    show pB _ = pB _
    congr 1
    refine propext ?_
    rw [key k (by omega)]
    constructor
    · rintro ⟨o, a, b, c⟩
      have : o < 6 := by
        rcases Nat.lt_or_ge o 6 with z | z
        · exact z
        · unfold rho at b; rw [if_neg (by omega)] at b; omega
      refine ⟨o, this, andT (decide_eq_true this) (pB_t.mpr c), ?_⟩
      unfold rho at b; rwa [if_pos this] at b
    · rintro ⟨o, a, b, c⟩
      refine ⟨o, by omega, ?_, pB_t.mp (andS b).2⟩
      unfold rho; rw [if_pos a]; exact c
  have hB : fb_ct (fun k => pB (hrd nw wf wt wd kd act (setR st t np) d p (t2 * 15 + (6 + k)))) 9 = fb_ct (fun k => pB (hrd nw wf wt wd kd act (setS st t np) d p (t2 * 15 + (6 + k)))) 9 := by
    refine fb_ct_cong fun k hk => ?_
    congr 1
    refine propext ?_
    rw [key (6 + k) (by omega)]
    constructor
    · rintro ⟨o, a, b, c⟩
      have : o = 6 + k := by
        unfold rho at b
        by_cases h6 : o < 6
        · rw [if_pos h6] at b; have := rnk_le st o; omega
        · rw [if_neg h6] at b; exact b
      rw [← this]; exact c
    · intro h
      exact ⟨6 + k, by omega, by unfold rho; rw [if_neg (by omega)], h⟩
  omega
theorem rk_fday (hw : ∀ w, w < nw → wf w < 6 ∧ wt w < 6) (hnp : np ≤ 6) (ht : t < 4) {lw : Nat} {fg : Nat → Bool} {p t2 : Nat} (ht2 : t2 < 4) : fday (hrd nw wf wt wd kd act (setR st t np)) lw fg p t2 = fday (hrd nw wf wt wd kd act (setS st t np)) lw fg p t2 := by
  unfold fday
  refine fstN_cong fun d hd => ?_
  show (!fg d && decide (lw ≤ cntH _ d p t2)) = (!fg d && decide (lw ≤ cntH _ d p t2))
  rw [rk_cnt hw hnp ht ht2]
end
/-! the reference's reading of a text -/
def rc9 (c : Nat → Int32) (n q : Nat) : Int32 := if q < n then c q else (-9)
theorem kc_out {f : Nat → Int32} {i n q : Nat} (h : ¬ q < n) : kcode f i n q = nI 0 := by unfold kcode; rw [if_neg h]
theorem rc_val {f : Nat → Int32} {i n q : Nat} {v : Int32} (h0 : v ≠ nI 0) (h9 : v ≠ (-9)) : rc9 (kcode f i n) n q = v ↔ kcode f i n q = v := by
  unfold rc9
  by_cases h : q < n
  · rw [if_pos h]
  · rw [if_neg h, kc_out h]; exact ⟨fun z => absurd z.symm h9, fun z => absurd z.symm h0⟩
theorem rc_in {f : Nat → Int32} {i n q : Nat} {v : Int32} (h0 : v ≠ nI 0) (h : kcode f i n q = v) : q < n := by
  rcases Nat.lt_or_ge q n with z | z
  · exact z
  · rw [kc_out (by omega)] at h; exact absurd h.symm h0
theorem rc_kd {f : Nat → Int32} {i n q : Nat} (h1 : ¬ rc9 (kcode f i n) n q = nI 116) (h2 : ¬ rc9 (kcode f i n) n q = nI 106) (h3 : ¬ rc9 (kcode f i n) n q = nI 108) : kindN (kcode f i n q) = 999 := by
  rw [rc_val (by decide) (by decide)] at h1 h2 h3
  unfold kindN
  rw [if_neg h1, if_neg h2, if_neg h3]
theorem rc_k0 {f : Nat → Int32} {i n q : Nat} (h1 : rc9 (kcode f i n) n q = nI 116) : kindN (kcode f i n q) = 0 := by
  rw [rc_val (by decide) (by decide)] at h1
  unfold kindN; rw [if_pos h1]
theorem rc_k1 {f : Nat → Int32} {i n q : Nat} (h0 : ¬ rc9 (kcode f i n) n q = nI 116) (h1 : rc9 (kcode f i n) n q = nI 106) : kindN (kcode f i n q) = 1 := by
  rw [rc_val (by decide) (by decide)] at h0 h1
  unfold kindN; rw [if_neg h0, if_pos h1]
theorem rc_k2 {f : Nat → Int32} {i n q : Nat} (h0 : ¬ rc9 (kcode f i n) n q = nI 116) (h1 : ¬ rc9 (kcode f i n) n q = nI 106) (h2 : rc9 (kcode f i n) n q = nI 108) : kindN (kcode f i n q) = 2 := by
  rw [rc_val (by decide) (by decide)] at h0 h1 h2
  unfold kindN; rw [if_neg h0, if_neg h1, if_pos h2]
def isDg (x : Int32) (lo hi : Nat) : Bool := decide (digN x lo hi ≠ 999)
theorem dig_out {x : Int32} {lo hi : Nat} (h : ¬ (48 + (lo : Int) ≤ x.toInt ∧ x.toInt ≤ 48 + (hi : Int))) : digN x lo hi = 999 := by unfold digN; rw [if_neg h]
theorem dig_val {x : Int32} {lo hi : Nat} (hh : hi < 900) (h : 48 + (lo : Int) ≤ x.toInt ∧ x.toInt ≤ 48 + (hi : Int)) : digN x lo hi ≠ 999 ∧ x - nI 48 = nI (digN x lo hi) := by
  have h0 : ¬ x < nI (48 + lo) := fun z => by
    have := Int32.lt_iff_toInt_lt.mp z
    have hlo : (lo : Int) ≤ hi := by omega
    rw [nI_toInt (by omega)] at this
    omega
  have h2 : ¬ nI (48 + hi) < x := fun z => by
    have := Int32.lt_iff_toInt_lt.mp z
    rw [nI_toInt (by omega)] at this
    omega
  have h3 := digN_in (x := x) (lo := lo) (hi := hi) (by omega) hh h0 h2
  have h4 : digN x lo hi ≠ 999 := by
    unfold digN
    rw [if_pos h]
    have hx : ¬ x < 0 := fun z => by
      have := Int32.lt_iff_toInt_lt.mp z
      rw [show (0 : Int32).toInt = 0 from rfl] at this
      omega
    obtain ⟨j, hj, rfl⟩ := nI_of hx
    rw [nI_toInt hj] at h
    rw [nI_clamp hj]
    omega
  exact ⟨h4, by rw [h3, kNone_n h4]⟩
theorem sub48 (x : Int32) : (x - nI 48).toInt = x.toInt - 48 ∨ (x.toInt < -2147483600 ∧ (x - nI 48).toInt = x.toInt - 48 + 4294967296) := by
  have h1 := Int32.toInt_sub x (nI 48)
  rw [show (nI 48).toInt = 48 from by decide] at h1
  have h2 := Int32.le_toInt x
  have h3 := Int32.toInt_lt x
  rw [h1]
  by_cases h : -2147483648 ≤ x.toInt - 48
  · left; exact Int.bmod_eq_of_le (by omega) (by omega)
  · right
    refine ⟨by omega, ?_⟩
    have e : x.toInt - 48 = (x.toInt - 48 + 4294967296) - (2 ^ 32 : Nat) := by omega
    have e2 : (x.toInt - 48).bmod (2 ^ 32) = (x.toInt - 48 + (2 ^ 32 : Nat)).bmod (2 ^ 32) := (Int.add_bmod_right ..).symm
    rw [e2]
    exact Int.bmod_eq_of_le (by omega) (by omega)
theorem fig_in {f : Nat → Int32} {i n q lo hi : Nat} (hlo : lo < 900) (hh : hi < 900) : in64 (rc9 (kcode f i n) n q - nI 48).toInt64 (nI lo).toInt64 (nI hi).toInt64 = isDg (kcode f i n q) lo hi := by
  unfold in64
  have hx : (decide ((nI lo).toInt64 ≤ (rc9 (kcode f i n) n q - nI 48).toInt64 ∧ (rc9 (kcode f i n) n q - nI 48).toInt64 ≤ (nI hi).toInt64)) = decide ((lo : Int) ≤ (rc9 (kcode f i n) n q - nI 48).toInt ∧ (rc9 (kcode f i n) n q - nI 48).toInt ≤ (hi : Int)) := by
    refine decide_eq_decide.mpr ?_
    rw [Int64.le_iff_toInt_le, Int64.le_iff_toInt_le, Int32.toInt_toInt64, Int32.toInt_toInt64, Int32.toInt_toInt64, nI_toInt (by omega), nI_toInt (by omega)]
  rw [hx]
  unfold isDg
  refine decide_eq_decide.mpr ?_
  by_cases hq : q < n
  · have e : rc9 (kcode f i n) n q = kcode f i n q := by unfold rc9; rw [if_pos hq]
    rw [e]
    have h4 := sub48 (kcode f i n q)
    have h5 := Int32.le_toInt (kcode f i n q)
    constructor
    · intro h
      refine (dig_val hh ?_).1
      rcases h4 with z | z <;> omega
    · intro h
      by_cases hd : 48 + (lo : Int) ≤ (kcode f i n q).toInt ∧ (kcode f i n q).toInt ≤ 48 + (hi : Int)
      · rcases h4 with z | z <;> omega
      · exact absurd (dig_out hd) h
  · have e : rc9 (kcode f i n) n q = (-9) := by unfold rc9; rw [if_neg hq]
    rw [e, kc_out hq]
    have e1 : ((-9 : Int32) - nI 48).toInt = -57 := by decide
    rw [e1]
    constructor
    · intro h; omega
    · intro h
      refine absurd (dig_out ?_) h
      rw [show (nI 0).toInt = 0 from by decide]
      omega
theorem isDg_lt {f : Nat → Int32} {i n q lo hi : Nat} (h : digN (kcode f i n q) lo hi ≠ 999) : q < n := by
  rcases Nat.lt_or_ge q n with z | z
  · exact z
  · exfalso
    refine h (dig_out ?_)
    rw [kc_out (by omega), show (nI 0).toInt = 0 from by decide]
    omega
theorem fig_v {f : Nat → Int32} {i n q lo hi : Nat} (hh : hi < 900) (h : isDg (kcode f i n q) lo hi = true) : rc9 (kcode f i n) n q - nI 48 = kNone (digN (kcode f i n q) lo hi) := by
  have h1 := of_decide_eq_true h
  have h2 := isDg_lt h1
  have e : rc9 (kcode f i n) n q = kcode f i n q := by unfold rc9; rw [if_pos h2]
  rw [e]
  by_cases hd : 48 + (lo : Int) ≤ (kcode f i n q).toInt ∧ (kcode f i n q).toInt ≤ 48 + (hi : Int)
  · rw [(dig_val hh hd).2, kNone_n h1]
  · exact absurd (dig_out hd) h1
theorem fig_t {x : Int32} {lo hi : Nat} (h : isDg x lo hi = true) : digN x lo hi ≠ 999 := of_decide_eq_true h
theorem fig_f {x : Int32} {lo hi : Nat} (h : isDg x lo hi = false) : digN x lo hi = 999 := by have := of_decide_eq_false h; simpa using this
theorem kn_ge {x : Int32} {lo hi : Nat} (hh : hi < 60) (h : 0 ≤ kNone (digN x lo hi)) : kNone (digN x lo hi) = nI (digN x lo hi) ∧ digN x lo hi ≠ 999 ∧ lo ≤ digN x lo hi ∧ digN x lo hi ≤ hi := dig_9 hh (fun z => by rw [z] at h; exact absurd h (by decide))
theorem kn_lt {x : Int32} {lo hi : Nat} (hh : hi < 60) (h : ¬ 0 ≤ kNone (digN x lo hi)) : digN x lo hi = 999 := by
  rcases digN_lt (x := x) (lo := lo) (hi := hi) with z | z
  · exact z
  · exfalso
    refine h ?_
    rw [kNone_n (by omega)]
    exact nI_pos' (by omega)
def pFail (c : Nat → Int32) (k : Nat) : Nat := if k < 6 ∧ kOK c k = true then 1 + 2 * k + 1 else 1 + 2 * k
def wFail (c : Nat → Int32) (K w : Nat) : Nat := if w < 9 ∧ c (wPl K w) = nI 59 then (if dFr c K w = 999 then wPl K w + 1 else if dTo c K w = 999 then wPl K w + 2 else wPl K w + 3) else wPl K w
def pGo (c : Nat → Int32) (k : Nat) : Bool := decide (k < 6) && pOK c k
def wGo (c : Nat → Int32) (K w : Nat) : Bool := decide (w < 9) && wOK c K w
def pPost (c : Nat → Int32) (k : Nat) (f g f1 f2 : Nat → Int32) (a1 k1 : Nat) : Prop := if pGo c k = true then a1 = 1 + 2 * (k + 1) ∧ k1 = k + 1 ∧ f1 = upd f k (nI (kindN (c (1 + 2 * k)))) ∧ f2 = upd g k (kb (aB c k)) else a1 = pFail c k ∧ k1 = k ∧ f1 = f ∧ f2 = g
def wPost (c : Nat → Int32) (K w : Nat) (f g h f1 f2 f3 : Nat → Int32) (a1 w1 : Nat) : Prop := if wGo c K w = true then a1 = wPl K (w + 1) ∧ w1 = w + 1 ∧ f1 = upd f w (nI (dFr c K w)) ∧ f2 = upd g w (nI (dTo c K w)) ∧ f3 = upd h w (nI (dDa c K w)) else a1 = wFail c K w ∧ w1 = w ∧ f1 = f ∧ f2 = g ∧ f3 = h
/-- what stands while persons are read -/
def PI (c : Nat → Int32) (n : Nat) (b : Bool) (k a : Nat) (g0 g4 : Nat → Int32) : Prop := k ≤ 6 ∧ (if b = true then a = 1 + 2 * k ∧ a ≤ n ∧ allN (pOK c) k = true ∧ c 0 = nI 105 else pFlt c n = a ∧ a < 999) ∧ (∀ j, j < k → g0 j = nI (kindN (c (1 + 2 * j)))) ∧ ∀ j, j < k → g4 j = kb (aB c j)
def WI (c : Nat → Int32) (n : Nat) (b : Bool) (K w a : Nat) (g1 g2 g3 : Nat → Int32) : Prop := w ≤ 9 ∧ (if b = true then a = wPl K w ∧ a ≤ n ∧ allN (wOK c K) w = true ∧ c 0 = nI 105 ∧ pFltP c = 999 ∧ nPer c = K ∧ 1 ≤ K ∧ K ≤ 6 else pFlt c n = a ∧ a < 999) ∧ (∀ j, j < w → g1 j = nI (dFr c K j)) ∧ (∀ j, j < w → g2 j = nI (dTo c K j)) ∧ ∀ j, j < w → g3 j = nI (dDa c K j)
theorem upd_kb {P : Nat → Bool} {g g1 : Nat → Int32} {k : Nat} (h : ∀ j, j < k → g j = kb (P j)) (e : g1 = upd g k (kb (P k))) : ∀ j, j < k + 1 → g1 j = kb (P j) := fun j hj => by
  subst e
  by_cases hk : j = k
  · subst hk; exact pk_us
  · exact (pk_un hk).trans (h j (by omega))
theorem pFlt_P {c : Nat → Int32} {n v : Nat} (h0 : c 0 = nI 105) (h : pFltP c = v) (hv : v ≠ 999) : pFlt c n = v := by unfold pFlt; rw [if_pos h0, if_neg (by rw [h]; exact hv), h]
theorem pFlt_W {c : Nat → Int32} {n K : Nat} (h0 : c 0 = nI 105) (h : pFltP c = 999) (hK : nPer c = K) : pFlt c n = pFltW c K n := by unfold pFlt; rw [if_pos h0, if_pos h, hK]
theorem PI_0 {c : Nat → Int32} {n : Nat} {g0 g4 : Nat → Int32} (hn : 0 < n) (h : c 0 = nI 105) : PI c n true 0 1 g0 g4 := ⟨by omega, by rw [if_pos rfl]; exact ⟨rfl, by omega, rfl, h⟩, fun j hj => absurd hj (Nat.not_lt_zero j), fun j hj => absurd hj (Nat.not_lt_zero j)⟩
theorem PI_no {c : Nat → Int32} {n : Nat} {g0 g4 : Nat → Int32} (h : ¬ c 0 = nI 105) : PI c n false 0 0 g0 g4 := ⟨by omega, by rw [if_neg (by decide)]; exact ⟨by unfold pFlt; rw [if_neg h], by omega⟩, fun j hj => absurd hj (Nat.not_lt_zero j), fun j hj => absurd hj (Nat.not_lt_zero j)⟩
theorem wPl0 (K : Nat) : wPl K 0 = 1 + 2 * K := by unfold wPl; omega
theorem PI_step {f : Nat → Int32} {i n k a1 k1 : Nat} {g0 g4 f1 f2 : Nat → Int32} (h : PI (kcode f i n) n true k (1 + 2 * k) g0 g4) (hc : k < 2 ∨ (1 + 2 * k < n ∧ ¬ kcode f i n (1 + 2 * k) = nI 59)) (hp : pPost (kcode f i n) k g0 g4 f1 f2 a1 k1) : PI (kcode f i n) n (pGo (kcode f i n) k) k1 a1 f1 f2 := by
  obtain ⟨h6, hb, r0, r4⟩ := h
  rw [if_pos rfl] at hb
  obtain ⟨_, han, hall, h105⟩ := hb
  unfold pPost at hp
  by_cases hg : pGo (kcode f i n) k = true
  · rw [if_pos hg] at hp
    obtain ⟨e1, e2, e3, e4⟩ := hp
    have hg2 := andS hg
    have hk6 := of_decide_eq_true hg2.1
    have hg3 := andS hg2.2
    have ha := of_decide_eq_true hg3.2
    have hlt := isDg_lt (lo := 0) (hi := 1) (q := 1 + 2 * k + 1) ha
    subst e2
    refine ⟨by omega, ?_, ?_, upd_kb r4 e4⟩
    · rw [if_pos hg]
      exact ⟨e1, by omega, allN_s hall hg2.2, h105⟩
    · rw [e3]; exact upd_row r0 rfl
  · rw [if_neg hg] at hp
    obtain ⟨e1, e2, e3, e4⟩ := hp
    subst e2
    refine ⟨h6, ?_, by rw [e3]; exact r0, by rw [e4]; exact r4⟩
    rw [if_neg hg, e1]
    unfold pFail
    by_cases hk6 : k1 < 6
    · cases hk : kOK (kcode f i n) k1
      · rw [if_neg (by simp)]
        have hz : kindN (kcode f i n (1 + 2 * k1)) = 999 := by unfold kOK at hk; simpa using hk
        have hx := per_kind hk6 hall hz
        refine ⟨?_, by omega⟩
        by_cases h2 : k1 < 2
        · rw [if_pos h2] at hx
          exact pFlt_P h105 hx.2 (by omega)
        · rw [if_neg h2] at hx
          have hc2 := hc.resolve_left h2
          rw [pFlt_W h105 hx.2 hx.1]
          have hy := way_end (c := kcode f i n) (K := k1) (w := 0) (n := n) (by omega) rfl (Or.inr (by rw [wPl0]; exact hc2.2))
          rw [hy.2, wPl0, if_neg (by omega)]
      · rw [if_pos ⟨hk6, rfl⟩]
        have hz : kindN (kcode f i n (1 + 2 * k1)) ≠ 999 := by unfold kOK at hk; simpa using hk
        have ha : aNum (kcode f i n) k1 = 999 := by
          unfold pGo pOK at hg
          rw [decide_eq_true hk6, hk] at hg
          simpa using hg
        have hx := per_anvil hk6 hall hz ha
        exact ⟨pFlt_P h105 hx.2 (by omega), by omega⟩
    · have e6 : k1 = 6 := by omega
      subst e6
      rw [if_neg (by omega)]
      have hx := per_all hall
      have hc2 := hc.resolve_left (by omega)
      refine ⟨?_, by omega⟩
      rw [pFlt_W h105 hx.2 hx.1]
      have hy := way_end (c := kcode f i n) (K := 6) (w := 0) (n := n) (by omega) rfl (Or.inr (by rw [wPl0]; exact hc2.2))
      rw [hy.2, wPl0, if_neg (by omega)]
theorem PI_end {f : Nat → Int32} {i n k : Nat} {g0 g4 g1 g2 g3 : Nat → Int32} (h : PI (kcode f i n) n true k (1 + 2 * k) g0 g4) (h2 : ¬ k < 2) (hc : n ≤ 1 + 2 * k ∨ kcode f i n (1 + 2 * k) = nI 59) : WI (kcode f i n) n true k 0 (1 + 2 * k) g1 g2 g3 := by
  obtain ⟨h6, hb, r0, r4⟩ := h
  rw [if_pos rfl] at hb
  obtain ⟨_, han, hall, h105⟩ := hb
  have hx : nPer (kcode f i n) = k ∧ pFltP (kcode f i n) = 999 := by
    by_cases hk : k < 6
    · have hz : kindN (kcode f i n (1 + 2 * k)) = 999 := by
        rcases hc with z | z
        · rw [kc_out (by omega)]; decide
        · rw [z]; decide
      have := per_kind hk hall hz
      rwa [if_neg h2] at this
    · have e6 : k = 6 := by omega
      subst e6
      exact per_all hall
  exact ⟨by omega, by rw [if_pos rfl]; exact ⟨(wPl0 k).symm, han, rfl, h105, hx.2, hx.1, by omega, h6⟩, fun j hj => absurd hj (Nat.not_lt_zero j), fun j hj => absurd hj (Nat.not_lt_zero j), fun j hj => absurd hj (Nat.not_lt_zero j)⟩
theorem WI_f {c : Nat → Int32} {n K a : Nat} {b : Bool} {g0 g4 g1 g2 g3 : Nat → Int32} (h : PI c n b K a g0 g4) (hb : b = false) : WI c n b K 0 a g1 g2 g3 := by
  have h1 := h.2.1
  subst hb
  rw [if_neg (by decide)] at h1
  exact ⟨by omega, by rw [if_neg (by decide)]; exact h1, fun j hj => absurd hj (Nat.not_lt_zero j), fun j hj => absurd hj (Nat.not_lt_zero j), fun j hj => absurd hj (Nat.not_lt_zero j)⟩
theorem WI_step {f : Nat → Int32} {i n K w a1 w1 : Nat} {g1 g2 g3 f1 f2 f3 : Nat → Int32} (h : WI (kcode f i n) n true K w (wPl K w) g1 g2 g3) (hn : wPl K w < n) (hp : wPost (kcode f i n) K w g1 g2 g3 f1 f2 f3 a1 w1) : WI (kcode f i n) n (wGo (kcode f i n) K w) K w1 a1 f1 f2 f3 := by
  obtain ⟨h9, hb, r1, r2, r3⟩ := h
  rw [if_pos rfl] at hb
  obtain ⟨_, han, hall, h105, hP, hK, hK1, hK6⟩ := hb
  unfold wPost at hp
  by_cases hg : wGo (kcode f i n) K w = true
  · rw [if_pos hg] at hp
    obtain ⟨e1, e2, e3, e4, e5⟩ := hp
    have hg2 := andS hg
    have hw9 := of_decide_eq_true hg2.1
    have hd := (wOK_s hg2.2).2.2
    have hlt := isDg_lt (lo := 1) (hi := 9) (q := wPl K w + 3) hd
    subst e2
    refine ⟨by omega, ?_, by rw [e3]; exact upd_row r1 rfl, by rw [e4]; exact upd_row r2 rfl, by rw [e5]; exact upd_row r3 rfl⟩
    rw [if_pos hg]
    exact ⟨e1, by rw [e1]; unfold wPl at hlt ⊢; omega, allN_s hall hg2.2, h105, hP, hK, hK1, hK6⟩
  · rw [if_neg hg] at hp
    obtain ⟨e1, e2, e3, e4, e5⟩ := hp
    subst e2
    refine ⟨h9, ?_, by rw [e3]; exact r1, by rw [e4]; exact r2, by rw [e5]; exact r3⟩
    rw [if_neg hg, e1, pFlt_W h105 hP hK]
    unfold wFail
    by_cases hx : w1 < 9 ∧ kcode f i n (wPl K w1) = nI 59
    · rw [if_pos hx]
      have hb : dFr (kcode f i n) K w1 = 999 ∨ dTo (kcode f i n) K w1 = 999 ∨ dDa (kcode f i n) K w1 = 999 := by
        by_cases q1 : dFr (kcode f i n) K w1 = 999
        · exact Or.inl q1
        · by_cases q2 : dTo (kcode f i n) K w1 = 999
          · exact Or.inr (Or.inl q2)
          · by_cases q3 : dDa (kcode f i n) K w1 = 999
            · exact Or.inr (Or.inr q3)
            · exfalso
              refine hg ?_
              unfold wGo wOK
              simp [hx.1, hx.2, q1, q2, q3]
      have hy := way_bad (n := n) hx.1 hall hx.2 hb
      refine ⟨hy.2, ?_⟩
      unfold wPl
      split
      · omega
      · split <;> omega
    · rw [if_neg hx]
      have hy := way_end (n := n) h9 hall (by
        by_cases q : 9 ≤ w1
        · exact Or.inl q
        · exact Or.inr (fun z => hx ⟨by omega, z⟩))
      rw [hy.2, if_neg (by omega)]
      refine ⟨rfl, ?_⟩
      unfold wPl; omega
theorem WI_end {f : Nat → Int32} {i n K w : Nat} {g1 g2 g3 : Nat → Int32} (h : WI (kcode f i n) n true K w (wPl K w) g1 g2 g3) (hn : n ≤ wPl K w) : pFlt (kcode f i n) n = 999 ∧ K = nPer (kcode f i n) ∧ w = nWay (kcode f i n) K := by
  obtain ⟨h9, hb, r1, r2, r3⟩ := h
  rw [if_pos rfl] at hb
  obtain ⟨_, han, hall, h105, hP, hK, hK1, hK6⟩ := hb
  have hy := way_end (n := n) h9 hall (Or.inr (by rw [kc_out (by omega)]; decide))
  refine ⟨?_, hK.symm, hy.1.symm⟩
  rw [pFlt_W h105 hP hK, hy.2, if_pos (by omega)]
def rdPost (c : Nat → Int32) (n : Nat) (f0 f4 f1 f2 f3 : Nat → Int32) (a1 K U : Nat) : Prop := if pFlt c n = 999 then K = nPer c ∧ U = nWay c K ∧ (∀ j, j < K → f0 j = nI (kindN (c (1 + 2 * j)))) ∧ (∀ j, j < K → f4 j = kb (aB c j)) ∧ (∀ j, j < U → f1 j = nI (dFr c K j)) ∧ (∀ j, j < U → f2 j = nI (dTo c K j)) ∧ ∀ j, j < U → f3 j = nI (dDa c K j) else a1 = pFlt c n
/-! sheets -/
def zsz (La le : Nat) : Int32 := if La = 3 then (-1) else nI le
theorem zsz_lt {La le : Nat} (hle : le ≤ 60) : zsz La le < 0 ↔ La = 3 := by
  unfold zsz
  by_cases h : La = 3
  · rw [if_pos h]; exact ⟨fun _ => h, fun _ => by decide⟩
  · rw [if_neg h]; exact ⟨fun z => absurd z (nI_pos (by omega)), fun z => absurd z h⟩
theorem zsz_ge {La le : Nat} (hle : le ≤ 60) : 0 ≤ zsz La le ↔ La ≠ 3 := by
  rw [← Int32.not_lt, zsz_lt hle]
theorem zsz_n {La le : Nat} (h : La ≠ 3) : zsz La le = nI le := by unfold zsz; rw [if_neg h]
theorem beyond_i {le : Nat} {i m : Int32} (h : i < 0) : kcells le i m = false := kcells_0 h
theorem in64_m (m : Int32) : m.toInt64 < 0 ↔ m < 0 := by
  rw [Int64.lt_iff_toInt_lt, Int32.lt_iff_toInt_lt, Int32.toInt_toInt64]; exact Iff.rfl
theorem beyond_s {le : Nat} {i m : Int32} (hle : le ≤ 60) (h0 : ¬ i < 0) (h1 : ¬ m < 0) : i.toInt64 + m.toInt64 ≤ (nI le).toInt64 ↔ kcells le i m = true := by
  have a := Int32.toInt_lt i; have b := Int32.toInt_lt m
  have c : 0 ≤ i.toInt := by
    rcases (show i.toInt < 0 ∨ 0 ≤ i.toInt by omega) with z | z
    · exact absurd (Int32.lt_iff_toInt_lt.mpr (by rw [show (0 : Int32).toInt = 0 from rfl]; exact z)) h0
    · exact z
  have d : 0 ≤ m.toInt := by
    rcases (show m.toInt < 0 ∨ 0 ≤ m.toInt by omega) with z | z
    · exact absurd (Int32.lt_iff_toInt_lt.mpr (by rw [show (0 : Int32).toInt = 0 from rfl]; exact z)) h1
    · exact z
  have e : (i.toInt64 + m.toInt64).toInt = i.toInt + m.toInt := by
    rw [Int64.toInt_add, Int32.toInt_toInt64, Int32.toInt_toInt64]
    exact Int.bmod_eq_of_le (by omega) (by omega)
  rw [Int64.le_iff_toInt_le, e, Int32.toInt_toInt64, nI_toInt (by omega)]
  unfold kcells
  rw [decide_eq_true_iff]
  omega
def cBar (La le : Nat) (z i m : Int32) : Int32 := if kfcells (kla La) le z i m = 0 then nI 0 else (-10) - nI (kfcells (kla La) le z i m)
def cBarF (La le : Nat) (z i m : Int32) (fa : Nat) : Nat := if kfcells (kla La) le z i m = 0 then fa else kfcells (kla La) le z i m
theorem cBar_f {La le : Nat} {z i m : Int32} {fa v : Nat} (h : kfcells (kla La) le z i m = v) (hv : v ≠ 0) : (-10) - nI v = cBar La le z i m ∧ v = cBarF La le z i m fa := by
  unfold cBar cBarF
  rw [if_neg (by omega), if_neg (by omega), h]; exact ⟨rfl, rfl⟩
theorem cBar_0 {La le : Nat} {z i m : Int32} {fa : Nat} (h : kfcells (kla La) le z i m = 0) : nI 0 = cBar La le z i m ∧ fa = cBarF La le z i m fa := by
  unfold cBar cBarF
  rw [if_pos h, if_pos h]; exact ⟨rfl, rfl⟩
theorem kfc_3 {La le : Nat} {z i m : Int32} (h : La = 3) : kfcells (kla La) le z i m = 1 := by
  subst h
  have e : kfrow (kla 3) z = 1 := by unfold kfrow; rw [if_pos (show kla 3 = (-1) from rfl)]
  unfold kfcells; rw [e]; rfl
theorem kfr_no {La : Nat} {z : Int32} (h : La < 3) (hz : ¬ nI La = z) : kfrow (kla La) z = 2 := by
  unfold kfrow
  rw [if_neg (fun y => by have := (kla_n (z := La) (by omega)).mp y; omega), kla_lt h, if_neg hz]
theorem kfr_yes {La : Nat} {z : Int32} (h : La < 3) (hz : nI La = z) : kfrow (kla La) z = 0 := by
  unfold kfrow
  rw [if_neg (fun y => by have := (kla_n (z := La) (by omega)).mp y; omega), kla_lt h, if_pos hz]
theorem kfc_2 {La le : Nat} {z i m : Int32} (h : La < 3) (hz : ¬ nI La = z) : kfcells (kla La) le z i m = 2 := by
  unfold kfcells; rw [kfr_no h hz]; rfl
theorem kfc_4 {La le : Nat} {z i m : Int32} (h : La < 3) (hz : nI La = z) (hm : m < 0) : kfcells (kla La) le z i m = 4 := by
  unfold kfcells; rw [kfr_yes h hz, if_neg (by decide), if_pos hm]
theorem kfc_c {La le : Nat} {z i m : Int32} (h : La < 3) (hz : nI La = z) (hm : ¬ m < 0) : kfcells (kla La) le z i m = if kcells le i m = true then 0 else 3 := by
  unfold kfcells; rw [kfr_yes h hz, if_neg (by decide), if_neg hm]
def nCell (La le : Nat) (i : Int32) : Nat := if La = 3 then 1 else if blw i le = true then 0 else 3
theorem nCell_lt (La le : Nat) (i : Int32) : nCell La le i < 4 := by
  unfold nCell
  split
  · omega
  · split <;> omega
theorem PI_me {c : Nat → Int32} {k a1 k1 n9 : Nat} {f g f1 f2 : Nat → Int32} (hp : pPost c k f g f1 f2 a1 k1) (h : 2 * (6 - k) + (if true = true then 1 else 0) < n9 + 1) (hk : k ≤ 6) : 2 * (6 - k1) + (if pGo c k = true then 1 else 0) < n9 := by
  unfold pPost at hp
  rw [if_pos rfl] at h
  by_cases hg : pGo c k = true
  · rw [if_pos hg] at hp ⊢
    have := of_decide_eq_true (andS hg).1
    omega
  · rw [if_neg hg] at hp ⊢
    omega
theorem WI_me {c : Nat → Int32} {K k a1 k1 n9 : Nat} {f g h' f1 f2 f3 : Nat → Int32} (hp : wPost c K k f g h' f1 f2 f3 a1 k1) (h : 2 * (9 - k) + (if true = true then 1 else 0) < n9 + 1) (hk : k ≤ 9) : 2 * (9 - k1) + (if wGo c K k = true then 1 else 0) < n9 := by
  unfold wPost at hp
  rw [if_pos rfl] at h
  by_cases hg : wGo c K k = true
  · rw [if_pos hg] at hp ⊢
    have := of_decide_eq_true (andS hg).1
    omega
  · rw [if_neg hg] at hp ⊢
    omega
/-! the ways by which a rumour comes -/
theorem chg_is {k p x : Nat} (hk : k < 3) (hp : p < 6) (hx : x < 60) : chg k p x = (if k = 0 then x / 15 else (x / 15 + 1) % 4) * 15 + (if k = 2 then 8 + p else x % 15) := by
  have h := chg_place hk hp hx 0
  omega
theorem cb_old {P : Nat → Prop} {x : Nat} {b : Bool} (h : b = pB (∃ z, z < x ∧ P z)) (hb : b = true) : true = pB (∃ z, z < x + 1 ∧ P z) := by
  obtain ⟨z, h1, h2⟩ := pB_t.mp (h.symm.trans hb)
  exact (pB_t.mpr ⟨z, by omega, h2⟩).symm
theorem cb_yes {P : Nat → Prop} {x : Nat} (h : P x) : true = pB (∃ z, z < x + 1 ∧ P z) := (pB_t.mpr ⟨x, by omega, h⟩).symm
theorem cb_no {P : Nat → Prop} {x : Nat} {b : Bool} (h : b = pB (∃ z, z < x ∧ P z)) (hb : b = false) (hx : ¬ P x) : false = pB (∃ z, z < x + 1 ∧ P z) := by
  symm
  cases hq : pB (∃ z, z < x + 1 ∧ P z)
  · rfl
  · obtain ⟨z, h1, h2⟩ := pB_t.mp hq
    have hz : z < x := by
      rcases Nat.lt_or_ge z x with y | y
      · exact y
      · have : z = x := by omega
        subst this; exact absurd h2 hx
    have := pB_t.mpr (show ∃ z, z < x ∧ P z from ⟨z, hz, h2⟩)
    rw [← h, hb] at this; cases this
theorem way_one {H : Nat → Nat → Nat → Prop} {g : Nat → Nat} (h : gFin H g) {d e a z : Nat} (hd : d < 60) (ha : a < 6) (hz : z < 60) (he : 1 ≤ e) : (e ≤ d ∧ (H (d - e) a z ∧ ¬ (0 < d - e ∧ H (d - e - 1) a z))) ↔ g (60 * a + z) + e = d := by
  have h1 := h.2 (d - e) a z (by omega) ha hz
  have h2 := h.2 (d - e - 1) a z (by omega) ha hz
  rw [← h1, ← h2]
  constructor
  · rintro ⟨q1, q2, q3⟩
    by_cases q : 0 < d - e
    · have : ¬ g (60 * a + z) ≤ d - e - 1 := fun y => q3 ⟨q, y⟩
      omega
    · omega
  · intro q
    refine ⟨by omega, by omega, fun y => ?_⟩
    omega
theorem wayH_eq {np nw : Nat} {wf wt wd kd : Nat → Nat} {hm q d n w : Nat} {H : Nat → Nat → Nat → Prop} {g : Nat → Nat} (hw : waysOk np nw wf wt wd kd) (h : gFin H g) (hd : d < 60) (hwn : w < nw) : wayH H nw wf wt wd kd hm q d n w = (decide (wt w = q) && (!hm.testBit (wf w) && pB (∃ z, z < 60 ∧ (chg (kd (wf w)) (wf w) z = n ∧ g (60 * wf w + z) + wd w = d)))) := by
  unfold wayH
  have h6 := hw.1
  have hww := hw.2.2.2 w hwn
  congr 1
  cases hb : hm.testBit (wf w)
  · show pB _ = pB _
    congr 1
    refine propext ⟨?_, ?_⟩
    · rintro ⟨q1, _, z, q2, q3, q4⟩
      exact ⟨z, q2, q4, (way_one h hd (by omega) q2 hww.2.2.1).mp ⟨q1, q3⟩⟩
    · rintro ⟨z, q1, q2, q3⟩
      have := (way_one h hd (a := wf w) (by omega) q1 hww.2.2.1).mpr q3
      exact ⟨this.1, rfl, z, q1, this.2, q2⟩
  · show pB _ = false
    cases hq : pB (wd w ≤ d ∧ true = false ∧ ∃ z, z < 60 ∧ (H (d - wd w) (wf w) z ∧ ¬ (0 < d - wd w ∧ H (d - wd w - 1) (wf w) z)) ∧ chg (kd (wf w)) (wf w) z = n)
    · rfl
    · have := (pB_t.mp hq).2.1
      cases this
theorem way_ex {np nw : Nat} {wf wt wd kd : Nat → Nat} {hm nt p t o : Nat} {tp tt td : Nat → Nat} {g : Nat → Nat} (hw : waysOk np nw wf wt wd kd) (htt : ∀ k, k < nt → tt k < 4) (hnt : nt ≤ 8) (hp : p < 6) (ht : t < 4) (ho : o < 15) (h : gFin (hrd nw wf wt wd kd (actW hm (-1) wf) (tellS tp tt td nt (-1))) g) (hg : g (60 * p + (t * 15 + o)) < 60) (hn : ¬ (o < nt ∧ tp o = p ∧ tt o = t)) : fstN (wayH (hrd nw wf wt wd kd (actW hm (-1) wf) (tellS tp tt td nt (-1))) nw wf wt wd kd hm p (g (60 * p + (t * 15 + o))) (t * 15 + o)) nw ≠ 999 := by
  intro hz
  have h6 := hw.1
  have h9 := hw.2.1
  have hH := (h.2 (g (60 * p + (t * 15 + o))) p (t * 15 + o) (by omega) hp (by omega)).mp (Nat.le_refl _)
  have hmin : ∀ e, e < g (60 * p + (t * 15 + o)) → ¬ hrd nw wf wt wd kd (actW hm (-1) wf) (tellS tp tt td nt (-1)) e p (t * 15 + o) := fun e he hh => by
    have := (h.2 e p (t * 15 + o) (by omega) hp (by omega)).mpr hh
    omega
  rcases hrd_inv hH with ⟨d0, h1, k, hk, _, e1, e2, e3⟩ | ⟨w, q, h1, h2, h3, h4, h5, h7, h8⟩
  · have hk4 := htt k hk
    have : k = o := by omega
    subst this
    exact hn ⟨hk, e2, by omega⟩
  · have hww := hw.2.2.2 w h1
    have := (fstN_none (by omega)).mp hz w h1
    rw [wayH_eq hw h (by omega) h1, h4, decide_eq_true rfl, h2.2] at this
    have hx : pB (∃ z, z < 60 ∧ (chg (kd (wf w)) (wf w) z = t * 15 + o ∧ g (60 * wf w + z) + wd w = g (60 * p + (t * 15 + o)))) = true := by
      refine pB_t.mpr ⟨q, h3, h5, ?_⟩
      refine (way_one h (by omega) (by omega) h3 hww.2.2.1).mp ⟨h7, h8, fun ⟨y1, y2⟩ => ?_⟩
      have hc := hrd_way h1 h2 h3 y2
      rw [h4, h5] at hc
      exact hmin _ (by omega) hc
    rw [hx] at this
    cases this
theorem in64_m0 (m : Int32) : 0 ≤ m.toInt64 ↔ ¬ m < 0 := by
  rw [← in64_m, Int64.not_lt]
theorem day_g {H : Nat → Nat → Nat → Prop} {g : Nat → Nat} (h : gFin H g) {p t o : Nat} (hp : p < 6) (ht : t < 4) (ho : o < 15) : fstN (fun d => pB (H d p (t * 15 + o))) 60 = g (60 * p + (t * 15 + o)) := (gFin_day h hp (by omega)).symm
theorem cb_0 (P : Nat → Prop) : false = pB (∃ z, z < 0 ∧ P z) := by
  symm
  cases hq : pB (∃ z, z < 0 ∧ P z)
  · rfl
  · obtain ⟨z, h, _⟩ := pB_t.mp hq; omega
theorem fog_set {f f1 : Nat → Int32} {fg : Nat → Bool} {j : Nat} {z : Bool} (h : ∀ d, d < 60 → f d = kb (fg d)) (e : f1 = upd f j (kb z)) : ∀ d, d < 60 → f1 d = kb (upB fg j z d) := fun d hd => by
  subst e
  unfold upB
  by_cases hk : d = j
  · subst hk; rw [if_pos rfl]; exact pk_us
  · rw [if_neg hk]; exact (pk_un hk).trans (h d hd)
theorem fog_same {f f1 : Nat → Int32} {fg : Nat → Bool} {j : Nat} {z : Bool} (h : ∀ d, d < 60 → f d = kb (fg d)) (e : f1 = upd f j (kb z)) (hz : fg j = z) : ∀ d, d < 60 → f1 d = kb (fg d) := fun d hd => by
  subst e
  by_cases hk : d = j
  · subst hk; rw [hz]; exact pk_us
  · exact (pk_un hk).trans (h d hd)
theorem hush_or : ∀ a, a < 64 → ∀ j, j < 6 → nI a ||| (nI 1 <<< (nI j &&& 31)) = nI (if a.testBit j = true then a else a ^^^ 2 ^ j) := by decide +kernel
theorem hush_and : ∀ a, a < 64 → ∀ j, j < 6 → nI a &&& ((nI 1 <<< (nI j &&& 31)) ^^^ (-1)) = nI (if a.testBit j = true then a ^^^ 2 ^ j else a) := by decide +kernel
theorem hush_o {a j : Nat} (ha : a < 64) (hj : j < 6) : (if a.testBit j = true then a else a ^^^ 2 ^ j) < 64 := by
  split
  · exact ha
  · exact xor64 ha hj
theorem hush_a {a j : Nat} (ha : a < 64) (hj : j < 6) : (if a.testBit j = true then a ^^^ 2 ^ j else a) < 64 := by
  split
  · exact xor64 ha hj
  · exact ha
theorem kref_ge {np sm : Nat} {x y z : Int32} (h : 0 ≤ krefS np sm x y z) : krefS np sm x y z = 0 := by
  unfold krefS at h ⊢
  split at h
  · rename_i h1
    rw [if_pos h1]
    split at h
    · rename_i h2
      rw [if_pos h2]
      split at h
      · rename_i h3; rw [if_pos h3]; rfl
      · exact absurd h (by decide)
    · exact absurd h (by decide)
  · exact absurd h (by decide)
theorem mskN_or0 {P : Nat → Bool} {n : Nat} (h : P n = false) : nI (mskN P n) ||| nI 0 = nI (mskN P (n + 1)) := by
  rw [orI, Nat.or_zero, mskN_no h]
theorem fd_putM {H : Nat → Nat → Nat → Prop} {lw : Nat} {fg : Nat → Bool} {x : Nat} {g g1 : Nat → Int32} (h : ∀ i, i < x → g i = nI (fday H lw fg (i / 4) (i % 4))) (e : g1 = upd g x (nI (fday H lw fg (x / 4) (x % 4)))) : ∀ i, i < x + 1 → g1 i = nI (fday H lw fg (i / 4) (i % 4)) := fun i hi => by
  subst e
  by_cases hk : i = x
  · subst hk; exact pk_us
  · exact (pk_un hk).trans (h i (by omega))
theorem kept_no {P : Nat → Bool} {x : Nat} {b : Bool} (h : b = allN P x) (hb : b = false) : false = allN P (x + 1) := so_no0 (h.symm.trans hb)
theorem kept_sm {sm x : Nat} {a b : Nat → Nat → Nat} {c : Bool} (h : c = allN (keptP sm a b) x) (hc : c = true) (hs : sm.testBit (x / 4) = false) : true = allN (keptP sm a b) (x + 1) := so_yes (h.symm.trans hc) (by unfold keptP; rw [hs]; rfl)
theorem kept_eq {sm x : Nat} {a b : Nat → Nat → Nat} {c : Bool} (h : c = allN (keptP sm a b) x) (hc : c = true) (he : a (x / 4) (x % 4) = b (x / 4) (x % 4)) : true = allN (keptP sm a b) (x + 1) := so_yes (h.symm.trans hc) (by unfold keptP; rw [decide_eq_true he]; simp)
theorem kept_ne {sm x : Nat} {a b : Nat → Nat → Nat} (hs : sm.testBit (x / 4) = true) (he : ¬ a (x / 4) (x % 4) = b (x / 4) (x % 4)) : false = allN (keptP sm a b) (x + 1) := so_no (by unfold keptP; rw [decide_eq_false he, hs]; rfl)
theorem bst_yes {P : Nat → Bool} {n : Nat} (h : bstN P n = 999 ∨ popc n < popc (bstN P n)) (hp : P n = true) : bstN P (n + 1) = n := if_pos ⟨h, hp⟩
theorem bst_no {P : Nat → Bool} {n : Nat} (h : ¬ ((bstN P n = 999 ∨ popc n < popc (bstN P n)) ∧ P n = true)) : bstN P (n + 1) = bstN P n := if_neg h
theorem bst_lt {P : Nat → Bool} : ∀ n, bstN P n = 999 ∨ bstN P n < n
  | 0 => Or.inl rfl
  | n + 1 => by
    have ih := bst_lt (P := P) n
    by_cases h : (bstN P n = 999 ∨ popc n < popc (bstN P n)) ∧ P n = true
    · rw [show bstN P (n + 1) = n from if_pos h]; right; omega
    · rw [show bstN P (n + 1) = bstN P n from if_neg h]; omega
theorem kNb_lt {n : Nat} (h : n = 999 ∨ n < 64) : kNone n < 0 ↔ n = 999 := by
  rcases h with z | z
  · rw [z]; exact ⟨fun _ => rfl, fun _ => by decide⟩
  · rw [kNone_n (by omega)]; exact ⟨fun y => absurd y (nI_pos (by omega)), fun y => by omega⟩
theorem rnk6 {st n : Nat} (h : n ≤ 6) : rnk st n ≤ 6 := Nat.le_trans (rnk_le st n) h
theorem rch_rank {np nw : Nat} {wf wt wd kd : Nat → Nat} {hm : Nat} {tp tt td : Nat → Nat} {nt lw : Nat} {fg : Nat → Bool} {q t d s : Nat} (hw : waysOk np nw wf wt wd kd) (ht : t < 4) : decide (fday (hrd nw wf wt wd kd (actW hm (-1) wf) (setR s t np)) lw fg q t ≤ d) = rch np nw wf wt wd kd hm tp tt td nt lw fg true q t d s := by
  unfold rch
  rw [if_pos rfl, rk_fday (ways6 hw) hw.1 ht ht]
theorem rch_hushM {np nw : Nat} {wf wt wd kd : Nat → Nat} {hm : Nat} {tp tt td : Nat → Nat} {nt lw : Nat} {fg : Nat → Bool} {q t d s : Nat} : (!decide (fday (hrd nw wf wt wd kd (actW (hm ||| s) (-1) wf) (tellS tp tt td nt (-1))) lw fg q t ≤ d)) = rch np nw wf wt wd kd hm tp tt td nt lw fg false q t d s := by
  unfold rch
  rw [if_neg (by decide)]
theorem fin_m {nw nt hm : Nat} {wf wt wd kd tp tt td : Nat → Nat} {d p r : Nat} {f : Nat → Int32} (hn : nw ≤ 9) (ht : nt ≤ 8) (h : finR (hrd nw wf wt wd kd (actW hm (-9) wf) (moreS (tellS tp tt td nt (-9)) d p r)) f) : finR (hrd nw wf wt wd kd (actW hm (-1) wf) (moreS (tellS tp tt td nt (-1)) d p r)) f := by
  rwa [hrd_ext (fun w hw => act_9 (by omega)) (fun d2 p2 r2 => show moreS _ _ _ _ _ _ _ ↔ moreS _ _ _ _ _ _ _ from or_congr (tell_9 ht d2 p2 r2) Iff.rfl)] at h
theorem rch_hushT {np nw : Nat} {wf wt wd kd : Nat → Nat} {hm : Nat} {tp tt td : Nat → Nat} {nt lw : Nat} {fg : Nat → Bool} {q t d s : Nat} (h : ¬ fday (hrd nw wf wt wd kd (actW (hm ||| s) (-1) wf) (tellS tp tt td nt (-1))) lw fg q t ≤ d) : rch np nw wf wt wd kd hm tp tt td nt lw fg false q t d s = true := by
  rw [← rch_hushM, decide_eq_false h]; rfl
theorem rch_hushF {np nw : Nat} {wf wt wd kd : Nat → Nat} {hm : Nat} {tp tt td : Nat → Nat} {nt lw : Nat} {fg : Nat → Bool} {q t d s : Nat} (h : fday (hrd nw wf wt wd kd (actW (hm ||| s) (-1) wf) (tellS tp tt td nt (-1))) lw fg q t ≤ d) : rch np nw wf wt wd kd hm tp tt td nt lw fg false q t d s = false := by
  rw [← rch_hushM, decide_eq_true h]; rfl
/-! sheets of the reference -/
theorem zs_up {f f1 : Nat → Int32} {L sn : Nat → Nat} {j a b : Nat} {v : Int32} (h : ∀ k, k < 4 → f k = if L k = 3 then (-1) else nI (sn k)) (e : f1 = upd f j v) (hv : v = zsz a b) : ∀ k, k < 4 → f1 k = if upN L j a k = 3 then (-1) else nI (upN sn j b k) := fun k hk => by
  subst e
  unfold upN
  by_cases z : k = j
  · subst z; simp only [if_pos]; rw [pk_us, hv]; rfl
  · simp only [if_neg z]; exact (pk_un z).trans (h k hk)
theorem zs_same {f f1 : Nat → Int32} {L sn : Nat → Nat} {j : Nat} {v : Int32} (h : ∀ k, k < 4 → f k = if L k = 3 then (-1) else nI (sn k)) (e : f1 = upd f j v) (hv : v = zsz (L j) (sn j)) : ∀ k, k < 4 → f1 k = if L k = 3 then (-1) else nI (sn k) := fun k hk => by
  subst e
  by_cases z : k = j
  · subst z; rw [pk_us, hv]; rfl
  · exact (pk_un z).trans (h k hk)
theorem zl_up {f f1 : Nat → Int32} {L : Nat → Nat} {j a : Nat} (h : ∀ k, k < 4 → L k < 3 → f k = nI (L k)) (e : f1 = upd f j (nI a)) : ∀ k, k < 4 → upN L j a k < 3 → f1 k = nI (upN L j a k) := fun k hk hl => by
  subst e
  unfold upN at hl ⊢
  by_cases z : k = j
  · subst z; rw [if_pos rfl]; exact pk_us
  · rw [if_neg z] at hl ⊢; exact (pk_un z).trans (h k hk hl)
theorem zl_lose {f : Nat → Int32} {L : Nat → Nat} {j : Nat} (h : ∀ k, k < 4 → L k < 3 → f k = nI (L k)) : ∀ k, k < 4 → upN L j 3 k < 3 → f k = nI (upN L j 3 k) := fun k hk hl => by
  unfold upN at hl ⊢
  by_cases z : k = j
  · rw [if_pos z] at hl; omega
  · rw [if_neg z] at hl ⊢; exact h k hk hl
theorem sc_lose {f : Nat → Int32} {sn : Nat → Nat} {sc : Nat → Nat → Int32} {k0 : Nat} (h : ∀ k, k < 4 → ∀ j, j < sn k → f (60 * k + j) = sc k j) : ∀ k, k < 4 → ∀ j, j < upN sn k0 0 k → f (60 * k + j) = sc k j := fun k hk j hj => by
  unfold upN at hj
  by_cases z : k = k0
  · rw [if_pos z] at hj; omega
  · rw [if_neg z] at hj; exact h k hk j hj
theorem sc_new {f f1 : Nat → Int32} {L sn : Nat → Nat} {sc : Nat → Nat → Int32} {k0 n : Nat} (h : ∀ k, k < 4 → ∀ j, j < sn k → f (60 * k + j) = sc k j) (hs : shsOk L sn) (hn : n ≤ 60) (h0 : ∀ i, i < n → f1 (60 * k0 + i) = nI 0) (ho : ∀ m, m < 60 * k0 ∨ 60 * k0 + 60 ≤ m → f1 m = f m) : ∀ k, k < 4 → ∀ j, j < upN sn k0 n k → f1 (60 * k + j) = (if k = k0 then (fun _ => nI 0) else sc k) j := fun k hk j hj => by
  unfold upN at hj
  have h6 := (hs k hk).2.1
  by_cases z : k = k0
  · subst z; rw [if_pos rfl] at hj ⊢; exact h0 j hj
  · rw [if_neg z] at hj ⊢
    rw [ho _ (by omega)]; exact h k hk j hj
theorem sc_put {f f1 : Nat → Int32} {L sn : Nat → Nat} {sc : Nat → Nat → Int32} {k0 i : Nat} {v v2 : Int32} (h : ∀ k, k < 4 → ∀ j, j < sn k → f (60 * k + j) = sc k j) (hs : shsOk L sn) (hk0 : k0 < 4) (hi : i < sn k0) (e : f1 = upd f (60 * k0 + i) v) (hv : v = v2) : ∀ k, k < 4 → ∀ j, j < sn k → f1 (60 * k + j) = (if k = k0 then upd (sc k0) i v2 else sc k) j := fun k hk j hj => by
  subst e; subst hv
  have h6 := (hs k hk).2.1
  have h7 := (hs k0 hk0).2.1
  by_cases z : k = k0
  · subst z; rw [if_pos rfl]
    by_cases y : j = i
    · subst y; rw [pk_us, pk_us]
    · rw [pk_un y, pk_un (by omega)]; exact h k hk j hj
  · rw [if_neg z, pk_un (by omega)]; exact h k hk j hj
theorem kcut_0 {La : Nat} {v : Int32} (h : La = 0) : v.toInt8.toInt32 = kcut (kla La) v := by
  subst h; unfold kcut; rw [if_pos (show kla 0 = 0 from rfl)]
theorem kcut_1 {La : Nat} {v : Int32} (h : La = 1) : v.toInt16.toInt32 = kcut (kla La) v := by
  subst h; unfold kcut; rw [if_neg (show ¬ kla 1 = 0 by decide), if_pos (show kla 1 = nI 1 from rfl)]
theorem kcut_2 {La : Nat} {v : Int32} (h3 : La < 3) (h0 : La ≠ 0) (h1 : La ≠ 1) : v = kcut (kla La) v := by
  have : La = 2 := by omega
  subst this; unfold kcut; rw [if_neg (show ¬ kla 2 = 0 by decide), if_neg (show ¬ kla 2 = nI 1 by decide)]
theorem nCell_0 {La le : Nat} {i : Int32} (h : nCell La le i = 0) : La ≠ 3 ∧ blw i le = true := by
  unfold nCell at h
  split at h
  · omega
  · split at h
    · rename_i h1 h2; exact ⟨h1, h2⟩
    · omega
theorem nCell_n {La le : Nat} {i : Int32} (h : 0 < nCell La le i) : (nCell La le i = 1 ∧ La = 3) ∨ (nCell La le i = 3 ∧ ¬ La = 3 ∧ ¬ blw i le = true) := by
  unfold nCell at h ⊢
  by_cases h1 : La = 3
  · rw [if_pos h1]; exact Or.inl ⟨rfl, h1⟩
  · rw [if_neg h1] at h ⊢
    by_cases h2 : blw i le = true
    · rw [if_pos h2] at h; omega
    · rw [if_neg h2]; exact Or.inr ⟨rfl, h1, h2⟩
theorem kfr_3 {La : Nat} {z : Int32} (h : La = 3) : kfrow (kla La) z = 1 := by
  subst h; unfold kfrow; rw [if_pos (show kla 3 = (-1) from rfl)]
theorem cBar_ge {La le : Nat} {z i m : Int32} (h : 0 ≤ cBar La le z i m) : kfcells (kla La) le z i m = 0 := by
  unfold cBar at h
  by_cases q : kfcells (kla La) le z i m = 0
  · exact q
  · rw [if_neg q] at h
    have h5 := kfcells_lt (kla La) le z i m
    have h4 : ∀ n, n < 5 → ¬ 0 ≤ (-10 : Int32) - nI n := by decide
    exact absurd h (h4 _ h5)
theorem cBar_lt {La le : Nat} {z i m : Int32} (h : ¬ 0 ≤ cBar La le z i m) : ¬ kfcells (kla La) le z i m = 0 := fun q => by
  unfold cBar at h; rw [if_pos q] at h; exact h (by decide)
theorem cBar_n {La le : Nat} {z i m : Int32} (h : ¬ kfcells (kla La) le z i m = 0) : cBar La le z i m = (-10) - nI (kfcells (kla La) le z i m) := if_neg h
theorem cBarF_n {La le : Nat} {z i m : Int32} {fa : Nat} (h : ¬ kfcells (kla La) le z i m = 0) : cBarF La le z i m fa = kfcells (kla La) le z i m := if_neg h
theorem cBarF_z {La le : Nat} {z i m : Int32} {fa : Nat} (h : kfcells (kla La) le z i m = 0) : cBarF La le z i m fa = fa := if_pos h
theorem cpyA {m : Int32} {a b : Bool} (h : (!(decide (¬ m < 0) && a)) = true) : ¬ (decide (¬ m < 0) && (a && b)) = true := by
  cases hd : decide (¬ m < 0) <;> cases a <;> cases b <;> simp_all
theorem cpyB {m : Int32} {a b : Bool} (h : (!(decide (¬ m < 0) && b)) = true) : ¬ (decide (¬ m < 0) && (a && b)) = true := by
  cases hd : decide (¬ m < 0) <;> cases a <;> cases b <;> simp_all
theorem cpyC {m : Int32} {a : Bool} (h : (!(decide (¬ m < 0) && a)) = false) : ¬ m < 0 ∧ a = true := by
  have h1 : (decide (¬ m < 0) && a) = true := by cases hq : (decide (¬ m < 0) && a); rw [hq] at h; cases h; rfl
  have h2 := andS h1
  exact ⟨of_decide_eq_true h2.1, h2.2⟩
theorem sc_cpy {f f1 : Nat → Int32} {L sn : Nat → Nat} {sc : Nat → Nat → Int32} {a i b j n : Nat} (h : ∀ k, k < 4 → ∀ j, j < sn k → f (60 * k + j) = sc k j) (hs : shsOk L sn) (ha : a < 4) (hb : b < 4) (hi : i + n ≤ sn a) (hj : j + n ≤ sn b) (h0 : ∀ x, x < n → f1 (60 * b + j + x) = f (60 * a + i + x)) (ho : ∀ m, m < 60 * b + j ∨ 60 * b + j + n ≤ m → f1 m = f m) : ∀ k, k < 4 → ∀ z, z < sn k → f1 (60 * k + z) = (if k = b then va_cpy (sc a) (sc b) i j n else sc k) z := fun k hk z hz => by
  have h6 := (hs k hk).2.1
  have h7 := (hs b hb).2.1
  by_cases y : k = b
  · subst y; rw [if_pos rfl]
    by_cases hin : j ≤ z ∧ z < j + n
    · rw [pk_cpy_in hin.1 hin.2]
      have e1 : 60 * k + z = 60 * k + j + (z - j) := by omega
      rw [e1, h0 (z - j) (by omega), Nat.add_assoc]
      exact h a ha (i + (z - j)) (by omega)
    · rw [pk_cpy_out (by omega), ho _ (by omega)]; exact h k hk z hz
  · rw [if_neg y, ho _ (by omega)]; exact h k hk z hz
theorem kc_sc {f : Nat → Int32} {c : Nat → Int32} {a i n m : Nat} (h : ∀ j, j < m → f (a + j) = c j) (hin : i + n ≤ m) : kcode f (a + i) n = kcode c i n := funext fun q => by
  unfold kcode
  by_cases hq : q < n
  · rw [if_pos hq, if_pos hq, Nat.add_assoc]; exact h (i + q) (by omega)
  · rw [if_neg hq, if_neg hq]
theorem mskN_bit {P : Nat → Bool} : ∀ {n j : Nat}, j < n → (mskN P n).testBit j = P j
  | 0, j, h => absurd h (Nat.not_lt_zero j)
  | n + 1, j, h => by
    have hl := mskN_lt P n
    cases hp : P n
    · rw [mskN_no hp]
      by_cases z : j = n
      · subst z; rw [hp]; exact Nat.testBit_lt_two_pow hl
      · exact mskN_bit (by omega)
    · rw [mskN_yes hp, Nat.add_comm]
      by_cases z : j = n
      · subst z; rw [hp, Nat.testBit_two_pow_add_eq, Nat.testBit_lt_two_pow hl]; rfl
      · rw [Nat.testBit_two_pow_add_gt (by omega)]; exact mskN_bit (by omega)
theorem row_n {f f1 : Nat → Int32} {P : Nat → Nat} {k : Nat} {v : Int32} (h : ∀ j, j < k → f j = nI (P j)) (e : f1 = upd f k v) (hv : v = nI (P k)) : ∀ j, j < k + 1 → f1 j = nI (P j) := e ▸ upd_row h hv
theorem fl_in {f f1 : Nat → Int32} {a x : Nat} (e : f1 = upd f (a + x) (nI 0)) (h : ∀ i, i < x → f (a + i) = nI 0) : ∀ i, i < x + 1 → f1 (a + i) = nI 0 := fun i hi => by
  subst e
  by_cases z : i = x
  · subst z; exact pk_us
  · rw [pk_un (by omega)]; exact h i (by omega)
theorem cp_in {f f1 g : Nat → Int32} {a x : Nat} (e : f1 = upd f x (g (a + x))) (h : ∀ i, i < x → f i = g (a + i)) : ∀ i, i < x + 1 → f1 i = g (a + i) := fun i hi => by
  subst e
  by_cases z : i = x
  · subst z; exact pk_us
  · rw [pk_un z]; exact h i (by omega)
theorem cp_out {f f1 g : Nat → Int32} {a b x : Nat} (e : f1 = upd f (b + x) (g (a + x))) (h : ∀ i, i < x → f (b + i) = g (a + i)) : ∀ i, i < x + 1 → f1 (b + i) = g (a + i) := fun i hi => by
  subst e
  by_cases z : i = x
  · subst z; exact pk_us
  · rw [pk_un (by omega)]; exact h i (by omega)
