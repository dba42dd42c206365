/-! the reference's search: the earliest day in each place, by relaxing the ways until none brings it sooner -/
def gOk (g : Nat → Nat) : Prop := ∀ i, i < 360 → g i ≤ 59 ∨ g i = 999
def gSnd (H : Nat → Nat → Nat → Prop) (g : Nat → Nat) : Prop := ∀ p r, p < 6 → r < 60 → g (60 * p + r) ≤ 59 → H (g (60 * p + r)) p r
def gIni (S : Nat → Nat → Nat → Prop) (g : Nat → Nat) : Prop := ∀ d p r, p < 6 → r < 60 → S d p r → d ≤ 59 → g (60 * p + r) ≤ d
def gFixW (wf wt wd kd : Nat → Nat) (g : Nat → Nat) (w : Nat) (x : Nat) : Prop := ∀ r, r < x → g (60 * wf w + r) + wd w ≤ 59 → g (60 * wt w + chg (kd (wf w)) (wf w) r) ≤ g (60 * wf w + r) + wd w
def gFix (wf wt wd kd : Nat → Nat) (act : Nat → Prop) (g : Nat → Nat) (n : Nat) : Prop := ∀ w, w < n → act w → gFixW wf wt wd kd g w 60
def gFin (H : Nat → Nat → Nat → Prop) (g : Nat → Nat) : Prop := gOk g ∧ ∀ d p r, d ≤ 59 → p < 6 → r < 60 → (g (60 * p + r) ≤ d ↔ H d p r)
def sIn (S : Nat → Nat → Nat → Prop) : Prop := ∀ d p r, S d p r → p < 6 ∧ r < 60
def gsum (g : Nat → Nat) : Nat → Nat
  | 0 => 0
  | n + 1 => gsum g n + g n
theorem gsum_cong {g g2 : Nat → Nat} : ∀ {n : Nat}, (∀ i, i < n → g i = g2 i) → gsum g n = gsum g2 n
  | 0, _ => rfl
  | n + 1, h => by
    show gsum g n + g n = gsum g2 n + g2 n
    rw [gsum_cong (fun i hi => h i (by omega)), h n (by omega)]
theorem gsum_up {g : Nat → Nat} {k v : Nat} : ∀ {n : Nat}, k < n → v < g k → gsum (upN g k v) n < gsum g n
  | 0, h, _ => absurd h (Nat.not_lt_zero k)
  | n + 1, h, hv => by
    show gsum (upN g k v) n + upN g k v n < gsum g n + g n
    rcases Nat.lt_or_ge k n with q | q
    · have a := gsum_up q hv
      have b : upN g k v n = g n := if_neg (by omega)
      omega
    · have e : k = n := by omega
      have a : gsum (upN g k v) n = gsum g n := gsum_cong (fun i hi => if_neg (by omega))
      have b : upN g k v n = v := if_pos e.symm
      rw [e] at hv
      omega
theorem gOk_up {g : Nat → Nat} {k v : Nat} (h : gOk g) (hv : v ≤ 59) : gOk (upN g k v) := fun i hi => by
  by_cases e : i = k
  · left; show (if i = k then v else g i) ≤ 59; rw [if_pos e]; exact hv
  · show (if i = k then v else g i) ≤ 59 ∨ (if i = k then v else g i) = 999; rw [if_neg e]; exact h i hi
theorem gIni_up {S : Nat → Nat → Nat → Prop} {g : Nat → Nat} {k v : Nat} (h : gIni S g) (hv : v ≤ g k) : gIni S (upN g k v) := fun d p r hp hr hs hd => by
  have a := h d p r hp hr hs hd
  by_cases e : 60 * p + r = k
  · show (if 60 * p + r = k then v else g (60 * p + r)) ≤ d
    rw [if_pos e]; rw [e] at a; omega
  · show (if 60 * p + r = k then v else g (60 * p + r)) ≤ d
    rw [if_neg e]; exact a
theorem gSnd_up {H : Nat → Nat → Nat → Prop} {g : Nat → Nat} {p r v : Nat} (hp : p < 6) (hr : r < 60) (h : gSnd H g) (hv : H v p r) : gSnd H (upN g (60 * p + r) v) := fun p2 r2 hp2 hr2 => by
  by_cases e : 60 * p2 + r2 = 60 * p + r
  · have e1 : p2 = p := by omega
    have e2 : r2 = r := by omega
    have : upN g (60 * p + r) v (60 * p2 + r2) = v := if_pos e
    rw [this, e1, e2]; exact fun _ => hv
  · have : upN g (60 * p + r) v (60 * p2 + r2) = g (60 * p2 + r2) := if_neg e
    rw [this]; exact h p2 r2 hp2 hr2
theorem gFin_of {nw : Nat} {wf wt wd kd : Nat → Nat} {act : Nat → Prop} {S : Nat → Nat → Nat → Prop} {g : Nat → Nat} (hw : ∀ w, w < nw → wf w < 6 ∧ wt w < 6) (hS : sIn S) (h0 : gOk g) (h1 : gSnd (hrd nw wf wt wd kd act S) g) (h2 : gIni S g) (h3 : gFix wf wt wd kd act g nw) : gFin (hrd nw wf wt wd kd act S) g := by
  refine ⟨h0, fun d p r hd hp hr => ⟨fun h => ?_, fun h => ?_⟩⟩
  · exact hrd_le (h1 p r hp hr (by omega)) h
  · have key := h (fun d p r => (p < 6 ∧ r < 60) ∧ (d ≤ 59 → g (60 * p + r) ≤ d)) (fun d p r q => ⟨hS d p r q, fun q2 => h2 d p r (hS d p r q).1 (hS d p r q).2 q q2⟩) (fun d p r q => ⟨q.1, fun q2 => by have := q.2 (by omega); omega⟩) (fun w d r q1 q2 q3 q4 => ⟨⟨(hw w q1).2, chg_lt (hw w q1).1 q3⟩, fun q5 => by
      have a := q4.2 (by omega)
      have b := h3 w q1 q2 r q3 (by omega)
      omega⟩)
    exact key.2 hd
/-- one way relaxed in one place -/
theorem chg_place {k p x : Nat} (hk : k < 3) (hp : p < 6) (hx : x < 60) (q : Nat) : 15 * (4 * q + (if k = 0 then x / 15 else (x / 15 + 1) % 4)) + (if k = 2 then 8 + p else x % 15) = 60 * q + chg k p x := by
  unfold chg
  have : k = 0 ∨ k = 1 ∨ k = 2 := by omega
  rcases this with e | e | e
  · subst e; simp; omega
  · subst e; simp; omega
  · subst e; simp; omega
theorem gFixW_no {wf wt wd kd : Nat → Nat} {g : Nat → Nat} {w x : Nat} (h : gFixW wf wt wd kd g w x) (hn : ¬ (g (60 * wf w + x) + wd w ≤ 59 ∧ g (60 * wf w + x) + wd w < g (60 * wt w + chg (kd (wf w)) (wf w) x))) : gFixW wf wt wd kd g w (x + 1) := fun r hr q => by
  rcases Nat.lt_or_ge r x with z | z
  · exact h r z q
  · have e : r = x := by omega
    subst e; omega
theorem gFix_ok {wf wt wd kd : Nat → Nat} {act : Nat → Prop} {g : Nat → Nat} {n : Nat} (h : gFix wf wt wd kd act g n) (h2 : act n → gFixW wf wt wd kd g n 60) : gFix wf wt wd kd act g (n + 1) := fun w hw ha => by
  rcases Nat.lt_or_ge w n with z | z
  · exact h w z ha
  · have e : w = n := by omega
    subst e; exact h2 ha
theorem gFix_cong {wf wt wd kd : Nat → Nat} {act : Nat → Prop} {g g2 : Nat → Nat} {n : Nat} (hw : ∀ w, w < n → wf w < 6 ∧ wt w < 6) (e : ∀ i, i < 360 → g i = g2 i) (h : gFix wf wt wd kd act g n) : gFix wf wt wd kd act g2 n := fun w hl ha r hr => by
  have b1 := (hw w hl).1
  have b2 := (hw w hl).2
  have b3 := chg_lt (k := kd (wf w)) b1 hr
  rw [← e (60 * wf w + r) (by omega), ← e (60 * wt w + chg (kd (wf w)) (wf w) r) (by omega)]
  exact h w hl ha r hr
/-- counts and first days out of a search that is at its end -/
theorem gFin_cnt {H : Nat → Nat → Nat → Prop} {g : Nat → Nat} (h : gFin H g) {d p t : Nat} (hd : d ≤ 59) (hp : p < 6) (ht : t < 4) : fb_ct (fun o => decide (g (15 * (4 * p + t) + o) ≤ d)) 15 = cntH H d p t := fb_ct_cong fun o ho => by
  have a := h.2 d p (t * 15 + o) hd hp (by omega)
  rw [show 60 * p + (t * 15 + o) = 15 * (4 * p + t) + o by omega] at a
  by_cases q : g (15 * (4 * p + t) + o) ≤ d
  · rw [decide_eq_true q]; symm; exact pB_t.mpr (a.mp q)
  · rw [decide_eq_false q]; symm; exact pB_f.mpr (fun z => q (a.mpr z))
theorem gFin_day {H : Nat → Nat → Nat → Prop} {g : Nat → Nat} (h : gFin H g) {p r : Nat} (hp : p < 6) (hr : r < 60) : g (60 * p + r) = fstN (fun d => pB (H d p r)) 60 := by
  rcases h.1 (60 * p + r) (by omega) with q | q
  · have h0 : fstN (fun d => pB (H d p r)) (g (60 * p + r)) = 999 := (fstN_none (n := g (60 * p + r)) (Nat.le_trans q (Nat.le_of_ble_eq_true rfl))).mpr fun d hd => pB_f.mpr fun z => by
      have := (h.2 d p r (by omega) hp hr).mpr z
      omega
    have h1 : pB (H (g (60 * p + r)) p r) = true := pB_t.mpr ((h.2 _ p r q hp hr).mp (Nat.le_refl _))
    exact (fstN_hit (P := fun d => pB (H d p r)) h0 h1 (Nat.lt_of_le_of_lt q (by decide)) (Nat.lt_succ_of_le q)).symm
  · rw [q]
    refine ((fstN_none (n := 60) (Nat.le_of_ble_eq_true rfl)).mpr fun d hd => pB_f.mpr fun z => ?_).symm
    have := (h.2 d p r (by omega) hp hr).mpr z
    omega
