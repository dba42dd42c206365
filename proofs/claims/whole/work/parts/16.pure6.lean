theorem andL {a b : Bool} (h : a = false) : ¬ (a && b) = true := by rw [h]; simp
theorem andR {a b : Bool} (h : b = false) : ¬ (a && b) = true := by rw [h]; simp
theorem andT {a b : Bool} (h : a = true) (h2 : b = true) : (a && b) = true := by rw [h, h2]; rfl
theorem andS {a b : Bool} (h : (a && b) = true) : a = true ∧ b = true := by rwa [Bool.and_eq_true] at h
theorem xorI_ (a j : Nat) (hj : j < 12) : nI a ^^^ (nI 1 <<< (nI j &&& 31)) = nI (a ^^^ 2 ^ j) := by rw [pw_shl j hj, fb_xorI]
theorem xor64 {a j : Nat} (ha : a < 64) (hj : j < 6) : a ^^^ 2 ^ j < 64 := Nat.xor_lt_two_pow (n := 6) ha (by
  have : 2 ^ j ≤ 2 ^ 5 := Nat.pow_le_pow_right (by omega) (by omega)
  have e : (2 : Nat) ^ 6 = 64 := rfl
  have e2 : (2 : Nat) ^ 5 = 32 := rfl
  omega)
theorem fog_flip {fo : Int64} {fg : Nat → Bool} {j : Nat} {z : Bool} (h : ∀ d, d < 60 → bl fo d = fg d) (hj : j < 60) (hz : fg j ≠ z) : ∀ d, d < 60 → bl (fo ^^^ (1 <<< ((nI j).toInt64 &&& 63))) d = upB fg j z d := fun d hd => by
  rw [bl_xor, show bl (1 <<< ((nI j).toInt64 &&& 63)) d = bl (rum j) d from rfl, bl_rum (by omega) (by omega), h d hd]
  unfold upB
  by_cases e : d = j
  · subst e
    rw [if_pos rfl]
    cases h1 : fg d <;> cases z <;> simp_all
  · rw [if_neg e]
    simp [e]
theorem kin_lo {x : Int32} (h : x < nI 1) : kin x 1 4 = false := by
  have h1 := Int32.lt_iff_toInt_lt.mp h
  rw [nI_toInt (by omega)] at h1
  unfold kin
  rw [decide_eq_false_iff_not]
  omega
theorem kin_hi {x : Int32} (h : ¬ x ≤ nI 4) : kin x 1 4 = false := by
  have h1 : ¬ x.toInt ≤ (nI 4).toInt := fun z => h (Int32.le_iff_toInt_le.mpr z)
  rw [nI_toInt (by omega)] at h1
  unfold kin
  rw [decide_eq_false_iff_not]
  omega
theorem kin_in {x : Int32} (h : ¬ x < nI 1) (h2 : x ≤ nI 4) : kin x 1 4 = true := by
  have h1 : ¬ x.toInt < (nI 1).toInt := fun z => h (Int32.lt_iff_toInt_lt.mpr z)
  have h3 := Int32.le_iff_toInt_le.mp h2
  rw [nI_toInt (by omega)] at h1 h3
  unfold kin
  rw [decide_eq_true_iff]
  omega
theorem kin_of {x : Int32} (h : kin x 1 4 = true) : ∃ j, j ≤ 4 ∧ x = nI j := by
  unfold kin at h
  rw [decide_eq_true_iff] at h
  have hx : ¬ x < 0 := fun z => by
    have := Int32.lt_iff_toInt_lt.mp z
    rw [show (0 : Int32).toInt = 0 from rfl] at this
    omega
  obtain ⟨j, hj, rfl⟩ := nI_of hx
  rw [nI_toInt hj] at h
  exact ⟨j, by omega, rfl⟩
theorem fst_talked {H : Nat → Nat → Nat → Prop} {f : Nat → Int64} (h : talked H f) {q n : Nat} (hq : q < 6) (hn : n < 60) : fstN (fun d => pB (H d q n)) 60 = fstN (fun d => hbit f d q n) 60 := fstN_cong fun d hd => by
  have := h d q n hd hq (by omega)
  cases hb : hbit f d q n
  · rw [pB_f]
    intro z
    rw [this.mpr ⟨hn, z⟩] at hb; cases hb
  · rw [pB_t]; exact (this.mp hb).2
theorem pub_end {α S : Type} {x : α × S} {v : α} {s1 : S} {R : S → Prop} (e : x = (v, s1)) (h : R s1) : v = x.1 ∧ R x.2 := by
  subst e
  exact ⟨rfl, h⟩
theorem pub_P {α : Type} {D : va_G} {cI cJ cZ cS : ClassId} {x : α × SSt} {v : α} {s1 : SSt} {u : XV} {H : Heap} {s : State} (e : x = (v, s1)) (h : va_P D vwCl (xC cI cJ cZ cS u s1) H) : ∀ t : State, t.heap = H → s.WarmedH t.vm → va_P D vwCl (xC cI cJ cZ cS u x.2) t.heap := by
  intro t ht _
  subst e
  rw [ht]
  exact h
theorem tellA_take {np nt m : Nat} {tp tt td : Nat → Nat} {fTp fTt fTd : Nat → Int32} (h : tellA np nt tp tt td fTp fTt fTd) (hm : m ≤ nt) : tellA np m tp tt td fTp fTt fTd := ⟨Nat.le_trans hm h.1, fun k hk => h.2 k (by omega)⟩
theorem readA_take {np nr m : Nat} {rp rt rd : Nat → Nat} {rh : Nat → Bool} {fRp fRt fRd fRF : Nat → Int32} (h : readA np nr rp rt rd rh fRp fRt fRd fRF) (hm : m ≤ nr) : readA np m rp rt rd rh fRp fRt fRd fRF := ⟨Nat.le_trans hm h.1, fun k hk => h.2 k (by omega)⟩
theorem take_le {k : Int32} {n m : Nat} (h : m = (if blw k (n + 1) = true then ktake n k else n)) : m ≤ n := by
  rw [h]
  split
  · unfold ktake; omega
  · omega
theorem upd_at {P : Nat → Nat} {f : Nat → Int32} {n b v : Nat} (h : ∀ k, k < n → f k = nI (P k) ∧ P k < b) (hv : v < b) {f1 : Nat → Int32} (e : f1 = upd f n (nI v)) : ∀ k, k < n + 1 → f1 k = nI (upN P n v k) ∧ upN P n v k < b := fun k hk => by
  rw [e]
  unfold upN
  by_cases z : k = n
  · subst z; rw [pk_us, if_pos rfl]; exact ⟨rfl, hv⟩
  · rw [pk_un z, if_neg z]; exact h k (by omega)
theorem tellA_add {np nt a b c : Nat} {tp tt td : Nat → Nat} {fTp fTt fTd f1 f2 f3 : Nat → Int32} (h : tellA np nt tp tt td fTp fTt fTd) (hn : ¬ 8 ≤ nt) (ha : a < np) (hb : b < 4) (hc : c < 60) (hf : f1 = upd fTp nt (nI a) ∧ f2 = upd fTt nt (nI b) ∧ f3 = upd fTd nt (nI c)) : tellA np (nt + 1) (upN tp nt a) (upN tt nt b) (upN td nt c) f1 f2 f3 :=
  ⟨by omega, fun k hk => ⟨upd_at (fun k hk => (h.2 k hk).1) ha hf.1 k hk, upd_at (fun k hk => (h.2 k hk).2.1) hb hf.2.1 k hk, upd_at (fun k hk => (h.2 k hk).2.2) hc hf.2.2 k hk⟩⟩
theorem readA_add {np nr a b c : Nat} {z : Bool} {rp rt rd : Nat → Nat} {rh : Nat → Bool} {fRp fRt fRd fRF f1 f2 f3 f4 : Nat → Int32} (h : readA np nr rp rt rd rh fRp fRt fRd fRF) (hn : ¬ 6 ≤ nr) (ha : a < np) (hb : b < 4) (hc : c < 60) (hf : f1 = upd fRp nr (nI a) ∧ f2 = upd fRt nr (nI b) ∧ f3 = upd fRd nr (nI c)) (hg : f4 = upd fRF nr (kb z)) : readA np (nr + 1) (upN rp nr a) (upN rt nr b) (upN rd nr c) (upB rh nr z) f1 f2 f3 f4 :=
  ⟨by omega, fun k hk => ⟨upd_at (fun k hk => (h.2 k hk).1) ha hf.1 k hk, upd_at (fun k hk => (h.2 k hk).2.1) hb hf.2.1 k hk, upd_at (fun k hk => (h.2 k hk).2.2.1) hc hf.2.2 k hk, by
    rw [hg]
    unfold upB
    by_cases y : k = nr
    · subst y; rw [pk_us, if_pos rfl]
    · rw [pk_un y, if_neg y]; exact (h.2 k (by omega)).2.2.2⟩⟩
theorem kref_0 {np sm : Nat} {x y z : Int32} (hnp : np ≤ 6) (h : krefS np sm x y z = 0) : ∃ a b c, a < np ∧ b < 4 ∧ c < 60 ∧ x = nI a ∧ y = nI b ∧ z = nI c ∧ sm.testBit a = true := by
  unfold krefS at h
  by_cases h1 : blw x np = true
  · rw [if_pos h1] at h
    by_cases h2 : (blw y 4 && blw z 60) = true
    · rw [if_pos h2] at h
      obtain ⟨a, ha, rfl⟩ := blw_of (by omega) h1
      obtain ⟨h3, h4⟩ := andS h2
      obtain ⟨b, hb, rfl⟩ := blw_of (by omega) h3
      obtain ⟨c, hc, rfl⟩ := blw_of (by omega) h4
      by_cases h5 : sm.testBit (nI a).toNatClampNeg = true
      · rw [nI_clamp (by omega)] at h5
        exact ⟨a, b, c, ha, hb, hc, rfl, rfl, rfl, h5⟩
      · rw [if_neg h5] at h
        exact absurd h (by decide)
    · rw [if_neg h2] at h
      exact absurd h (by decide)
  · rw [if_neg h1] at h
    exact absurd h (by decide)
theorem moreS_put {S : Nat → Nat → Nat → Prop} {g g2 : Nat → Int64} {d q r : Nat} (h : planted S g) (hd : d < 60) (hq : q < 6) (hr : r < 60) (e : g2 = vp_updL g (d * 6 + q) (g (d * 6 + q) ||| rum r)) : planted (moreS S d q r) g2 := planted_put h hd hq hr e (fun _ _ _ => Iff.rfl)
theorem or_pw (a j : Nat) (hj : j < 12) : nI a ||| (nI 1 <<< (nI j &&& 31)) = nI (a ||| 2 ^ j) := by rw [pw_shl j hj, orI]
theorem pw64j {j : Nat} (hj : j < 6) : 2 ^ j < 64 := by
  have : 2 ^ j ≤ 2 ^ 5 := Nat.pow_le_pow_right (by omega) (by omega)
  have e2 : (2 : Nat) ^ 5 = 32 := rfl
  omega
theorem first_talked {H : Nat → Nat → Nat → Prop} {f : Nat → Int64} (h : talked H f) {d q n : Nat} (hd : d < 60) (hq : q < 6) (hn : n < 60) : hfirst f d q n = true ↔ H d q n ∧ ¬ (0 < d ∧ H (d - 1) q n) := by
  have h1 := h d q n hd hq (by omega)
  have h2 := h (d - 1) q n (by omega) hq (by omega)
  have e : hfirst f d q n = true ↔ hbit f d q n = true ∧ ¬ (0 < d ∧ hbit f (d - 1) q n = true) := by
    unfold hfirst
    by_cases z : 0 < d
    · cases hbit f d q n <;> cases hbit f (d - 1) q n <;> simp [z]
    · cases hbit f d q n <;> simp [z]
  rw [e, h1, h2]
  constructor
  · rintro ⟨⟨_, a⟩, b⟩
    exact ⟨a, fun ⟨c, x⟩ => b ⟨c, hn, x⟩⟩
  · rintro ⟨a, b⟩
    exact ⟨⟨hn, a⟩, fun ⟨c, _, x⟩ => b ⟨c, x⟩⟩
theorem way_talked {np nw : Nat} {wf wt wd kd : Nat → Nat} {hm q d n : Nat} {H : Nat → Nat → Nat → Prop} {f : Nat → Int64} (hw : waysOk np nw wf wt wd kd) (h : talked H f) (hd : d < 60) : fstN (wayP nw wf wt wd kd hm f q d n) nw = fstN (wayH H nw wf wt wd kd hm q d n) nw := fstN_cong fun w hwn => by
  have h6 := hw.1
  have hww := hw.2.2.2 w hwn
  unfold wayP wayH
  have : broughtB nw wf wd kd hm f w d n ↔ (wd w ≤ d ∧ hm.testBit (wf w) = false ∧ ∃ z, z < 60 ∧ (H (d - wd w) (wf w) z ∧ ¬ (0 < d - wd w ∧ H (d - wd w - 1) (wf w) z)) ∧ chg (kd (wf w)) (wf w) z = n) := by
    constructor
    · rintro ⟨a, b, z, c1, c2, c3⟩
      exact ⟨a, b, z, c1, (first_talked h (by omega) (by omega) c1).mp c2, c3⟩
    · rintro ⟨a, b, z, c1, c2, c3⟩
      exact ⟨a, b, z, c1, (first_talked h (by omega) (by omega) c1).mpr c2, c3⟩
  rw [pB_cong this]
