/-! the reference's cells and what they mean (printed by wip/whole/gen/mbase.py) -/
abbrev MV : Type := Nat × Nat × Nat × Nat × Nat × Nat × Nat × Nat × Nat × Nat × Nat × Nat × Nat × Nat × Nat × Nat × Nat × Nat × Nat × Nat × Nat × Nat × Nat × Nat × Nat × (Nat → Int32) × (Nat → Int32) × (Nat → Int32) × (Nat → Int32) × (Nat → Int32) × (Nat → Int32) × (Nat → Int32) × (Nat → Int32) × (Nat → Int32) × (Nat → Int32) × (Nat → Int32) × (Nat → Int32) × (Nat → Int32) × (Nat → Int32) × (Nat → Int32) × (Nat → Int32) × (Nat → Int32) × (Nat → Int32) × (Nat → Int32) × (Nat → Int32) × (Nat → Int32) × (Nat → Int32) × (Nat → Int32) × (Nat → Int32) × Nat × Nat × Nat
def mAdr : MV → Nat | (bM, _, _, _, _, _, _, _, _, _, _, _, _, _, _, _, _, _, _, _, _, _, _, _, _, _, _, _, _, _, _, _, _, _, _, _, _, _, _, _, _, _, _, _, _, _, _, _, _, _, _, _) => bM
def mC (cI cZ : ClassId) : MV → SSt → va_W | (bM, bKk, bKs, bWf, bWt, bWl, bFo, bRk, bRs, bRf, bRo, bRl, bTp, bTt, bTd, bHd, bFn, bRp, bRt, bRe, bRh, bZs, bZl, bSc, bHn, mKk, mKs, mWf, mWt, mWl, mFo, mRk, mRs, mRf, mRo, mRl, mTp, mTt, mTd, mHd, mFn, mRp, mRt, mRe, mRh, mZs, mZl, mSc, mHn, qa, qp_, qw_), (np, kd, sm, hm, nw, wf, wt, wd, lw, fg, nt, tp, tt, td, nr, rp, rt, rd, rh, tr, fa, L, sn, sc) => [(bM, .inr (5, .int (nI fa) :: .int (nI np) :: .ref bKk :: .ref bKs :: .int (nI hm) :: .int (nI nw) :: .ref bWf :: .ref bWt :: .ref bWl :: .int (nI lw) :: .ref bFo :: .int (nI qa) :: .int (nI qp_) :: .int (nI qw_) :: .ref bRk :: .ref bRs :: .ref bRf :: .ref bRo :: .ref bRl :: .int (nI nt) :: .ref bTp :: .ref bTt :: .ref bTd :: .ref bHd :: .ref bFn :: .int (nI nr) :: .ref bRp :: .ref bRt :: .ref bRe :: .ref bRh :: .ref bZs :: .ref bZl :: .ref bSc :: .ref bHn :: .int tr :: [])), (bKk, .inl (cI, 6, .inl mKk)), (bKs, .inl (cZ, 6, .inl mKs)), (bWf, .inl (cI, 9, .inl mWf)), (bWt, .inl (cI, 9, .inl mWt)), (bWl, .inl (cI, 9, .inl mWl)), (bFo, .inl (cZ, 60, .inl mFo)), (bRk, .inl (cI, 6, .inl mRk)), (bRs, .inl (cZ, 6, .inl mRs)), (bRf, .inl (cI, 9, .inl mRf)), (bRo, .inl (cI, 9, .inl mRo)), (bRl, .inl (cI, 9, .inl mRl)), (bTp, .inl (cI, 8, .inl mTp)), (bTt, .inl (cI, 8, .inl mTt)), (bTd, .inl (cI, 8, .inl mTd)), (bHd, .inl (cI, 360, .inl mHd)), (bFn, .inl (cI, 24, .inl mFn)), (bRp, .inl (cI, 6, .inl mRp)), (bRt, .inl (cI, 6, .inl mRt)), (bRe, .inl (cI, 6, .inl mRe)), (bRh, .inl (cZ, 6, .inl mRh)), (bZs, .inl (cI, 4, .inl mZs)), (bZl, .inl (cI, 4, .inl mZl)), (bSc, .inl (cI, 240, .inl mSc)), (bHn, .inl (cI, 60, .inl mHn))]
def MRel : MV → SSt → Prop | (bM, bKk, bKs, bWf, bWt, bWl, bFo, bRk, bRs, bRf, bRo, bRl, bTp, bTt, bTd, bHd, bFn, bRp, bRt, bRe, bRh, bZs, bZl, bSc, bHn, mKk, mKs, mWf, mWt, mWl, mFo, mRk, mRs, mRf, mRo, mRl, mTp, mTt, mTd, mHd, mFn, mRp, mRt, mRe, mRh, mZs, mZl, mSc, mHn, qa, qp_, qw_), (np, kd, sm, hm, nw, wf, wt, wd, lw, fg, nt, tp, tt, td, nr, rp, rt, rd, rh, tr, fa, L, sn, sc) => waysOk np nw wf wt wd kd ∧ pplA np nw kd wf wt wd mKk mWf mWt mWl ∧ tellA np nt tp tt td mTp mTt mTd ∧ readA np nr rp rt rd rh mRp mRt mRe mRh ∧ (∀ j, j < np → mKs j = kb (sm.testBit j)) ∧ sm < 64 ∧ hm < 64 ∧ lw ≤ 4 ∧ (∀ d, d < 60 → mFo d = kb (fg d)) ∧ shsOk L sn ∧ (∀ k, k < 4 → mZs k = if L k = 3 then (-1) else nI (sn k)) ∧ (∀ k, k < 4 → L k < 3 → mZl k = nI (L k)) ∧ (∀ k, k < 4 → ∀ j, j < sn k → mSc (60 * k + j) = sc k j)
theorem mpub_PD {α : Type} {D : va_G} {cI cZ : ClassId} {x : α × SSt} {v : α} {s1 : SSt} {u : MV} {H : Heap} {s : State} {zA zB : Nat → Prop} (e : x = (v, s1)) (h : va_P D vwCl (mC cI cZ u s1) H) (hD : va_D zA (mC cI cZ u s1)) (hA : ∀ q, zA q → zB q) : ∀ t : State, t.heap = H → s.WarmedH t.vm → va_P D vwCl (mC cI cZ u x.2) t.heap ∧ va_D zB (mC cI cZ u x.2) := by
  intro t ht _; rw [ht, e]; exact ⟨h, hD.weaken (fun _ q _ h9 => hA _ h9)⟩
/-! the reference's search: what the array holds -/
def hdR (f : Nat → Int32) (g : Nat → Nat) : Prop := gOk g ∧ ∀ i, i < 360 → f i = nI (g i)
def plantM (S : Nat → Nat → Nat → Prop) (f : Nat → Int32) : Prop := ∃ g, hdR f g ∧ gSnd S g ∧ gIni S g ∧ sIn S
def finR (H : Nat → Nat → Nat → Prop) (f : Nat → Int32) : Prop := ∃ g, (∀ i, i < 360 → f i = nI (g i)) ∧ gFin H g
theorem hd_lt {g : Nat → Nat} (h : gOk g) {i : Nat} (hi : i < 360) : g i < 1000 := by rcases h i hi with z | z <;> omega
theorem ldx {f : Nat → Int32} {g : Nat → Nat} (h : ∀ i, i < 360 → f i = nI (g i)) {i j : Nat} (e : i = j) (hj : j < 360) : f i = nI (g j) := by rw [e]; exact h j hj
theorem plantM_0 {f : Nat → Int32} (h : ∀ i, i < 360 → f i = nI 999) : plantM (fun _ _ _ => False) f := ⟨fun _ => 999, ⟨fun _ _ => Or.inr rfl, h⟩, fun p r _ _ hq => absurd (show (999 : Nat) ≤ 59 from hq) (by decide), fun _ _ _ _ _ hq _ => hq.elim, fun _ _ _ hq => hq.elim⟩
theorem plantM_cong {S S2 : Nat → Nat → Nat → Prop} {f : Nat → Int32} (h : plantM S f) (hS : ∀ d p r, S2 d p r ↔ S d p r) : plantM S2 f := by
  have e : S2 = S := funext fun d => funext fun p => funext fun r => propext (hS d p r)
  rw [e]; exact h
theorem hdR_up {f f1 : Nat → Int32} {g : Nat → Nat} {k v : Nat} (h : hdR f g) (hv : v ≤ 59) (e : f1 = upd f k (nI v)) : hdR f1 (upN g k v) := ⟨gOk_up h.1 hv, fun i hi => by
  subst e
  unfold upN
  by_cases hk : i = k
  · subst hk; rw [if_pos rfl]; exact pk_us
  · rw [if_neg hk]; exact (pk_un hk).trans (h.2 i hi)⟩
theorem hdR_same {f f1 : Nat → Int32} {g : Nat → Nat} {k : Nat} (h : hdR f g) (e : f1 = upd f k (f k)) : hdR f1 g := ⟨h.1, fun i hi => by
  subst e
  by_cases hk : i = k
  · subst hk; exact pk_us.trans (h.2 i hi)
  · exact (pk_un hk).trans (h.2 i hi)⟩
theorem moreS_in {S : Nat → Nat → Nat → Prop} {d p r : Nat} (h : sIn S) (hp : p < 6) (hr : r < 60) : sIn (moreS S d p r) := fun _ _ _ hq => by
  rcases hq with z | ⟨_, e1, e2⟩
  · exact h _ _ _ z
  · rw [e1, e2]; exact ⟨hp, hr⟩
theorem plantM_put {S : Nat → Nat → Nat → Prop} {f f1 : Nat → Int32} {d p r : Nat} (hd : d ≤ 59) (hp : p < 6) (hr : r < 60) {g : Nat → Nat} (h : hdR f g) (h1 : gSnd S g) (h2 : gIni S g) (h3 : sIn S) (hlt : d < g (60 * p + r)) (e : f1 = upd f (60 * p + r) (nI d)) : plantM (moreS S d p r) f1 :=
  ⟨upN g (60 * p + r) d, hdR_up h hd e, gSnd_up (H := moreS S d p r) hp hr (fun p2 r2 hp2 hr2 hq => Or.inl (h1 p2 r2 hp2 hr2 hq)) (Or.inr ⟨rfl, rfl, rfl⟩), fun d2 p2 r2 hp2 hr2 hq hd2 => by
    rcases hq with z | ⟨e0, e1, e2⟩
    · exact gIni_up h2 (Nat.le_of_lt hlt) d2 p2 r2 hp2 hr2 z hd2
    · rw [e0, e1, e2]; unfold upN; rw [if_pos rfl]; exact Nat.le_refl _, moreS_in h3 hp hr⟩
theorem plantM_not {S : Nat → Nat → Nat → Prop} {f f1 : Nat → Int32} {d p r k : Nat} (hp : p < 6) (hr : r < 60) {g : Nat → Nat} (h : hdR f g) (h1 : gSnd S g) (h2 : gIni S g) (h3 : sIn S) (hge : g (60 * p + r) ≤ d) (e : f1 = upd f k (f k)) : plantM (moreS S d p r) f1 :=
  ⟨g, hdR_same h e, fun p2 r2 hp2 hr2 hq => Or.inl (h1 p2 r2 hp2 hr2 hq), fun d2 p2 r2 hp2 hr2 hq hd2 => by
    rcases hq with z | ⟨e0, e1, e2⟩
    · exact h2 d2 p2 r2 hp2 hr2 z hd2
    · rw [e0, e1, e2]; exact hge, moreS_in h3 hp hr⟩
theorem hear_at (p t o : Nat) : 15 * (4 * p + t) + o = 60 * p + (t * 15 + o) := by omega
/-- along one way -/
def goesI (wf wt wd kd : Nat → Nat) (w : Nat) (g : Nat → Nat) (x : Nat) (g2 : Nat → Nat) (b : Bool) : Prop := if b = true then gsum g2 360 < gsum g 360 else (∀ i, i < 360 → g2 i = g i) ∧ gFixW wf wt wd kd g2 w x
def goesQ (H S : Nat → Nat → Nat → Prop) (wf wt wd kd : Nat → Nat) (w : Nat) (g : Nat → Nat) (r : Int32) (f1 : Nat → Int32) : Prop := ∃ g2 b, r = kb b ∧ hdR f1 g2 ∧ gSnd H g2 ∧ gIni S g2 ∧ goesI wf wt wd kd w g 60 g2 b
theorem goesI_0 {wf wt wd kd : Nat → Nat} {w : Nat} {g : Nat → Nat} : goesI wf wt wd kd w g 0 g false := by
  unfold goesI; rw [if_neg (by decide)]; exact ⟨fun _ _ => rfl, fun r hr => absurd hr (Nat.not_lt_zero r)⟩
theorem goesI_no {wf wt wd kd : Nat → Nat} {w x : Nat} {g g2 : Nat → Nat} {b : Bool} (h : goesI wf wt wd kd w g x g2 b) (hn : ¬ (g2 (60 * wf w + x) + wd w ≤ 59 ∧ g2 (60 * wf w + x) + wd w < g2 (60 * wt w + chg (kd (wf w)) (wf w) x))) : goesI wf wt wd kd w g (x + 1) g2 b := by
  unfold goesI at h ⊢
  by_cases hb : b = true
  · rw [if_pos hb] at h ⊢; exact h
  · rw [if_neg hb] at h ⊢; exact ⟨h.1, gFixW_no h.2 hn⟩
theorem goesI_le {wf wt wd kd : Nat → Nat} {w x : Nat} {g g2 : Nat → Nat} {b : Bool} (h : goesI wf wt wd kd w g x g2 b) : gsum g2 360 ≤ gsum g 360 := by
  unfold goesI at h
  by_cases hb : b = true
  · rw [if_pos hb] at h; exact Nat.le_of_lt h
  · rw [if_neg hb] at h; exact Nat.le_of_eq (gsum_cong h.1)
theorem goesI_yes {wf wt wd kd : Nat → Nat} {w x k v : Nat} {g g2 : Nat → Nat} {b : Bool} (h : goesI wf wt wd kd w g x g2 b) (hk : k < 360) (hv : v < g2 k) : goesI wf wt wd kd w g (x + 1) (upN g2 k v) true := by
  have h1 := goesI_le h
  have h2 := gsum_up hk hv
  unfold goesI; rw [if_pos rfl]; omega
theorem gSnd_way {nw : Nat} {wf wt wd kd : Nat → Nat} {act : Nat → Prop} {S : Nat → Nat → Nat → Prop} {g : Nat → Nat} {w x : Nat} (hw : w < nw) (ha : act w) (hf : wf w < 6) (ht : wt w < 6) (hx : x < 60) (h : gSnd (hrd nw wf wt wd kd act S) g) (hv : g (60 * wf w + x) + wd w ≤ 59) : gSnd (hrd nw wf wt wd kd act S) (upN g (60 * wt w + chg (kd (wf w)) (wf w) x) (g (60 * wf w + x) + wd w)) :=
  gSnd_up ht (chg_lt hf hx) h (hrd_way hw ha hx (h (wf w) x hf hx (by omega)))
/-- along all ways -/
def sprI (wf wt wd kd : Nat → Nat) (act : Nat → Prop) (g : Nat → Nat) (n : Nat) (g2 : Nat → Nat) (b : Bool) : Prop := if b = true then gsum g2 360 < gsum g 360 else (∀ i, i < 360 → g2 i = g i) ∧ gFix wf wt wd kd act g2 n
def sprM (g : Nat → Nat) (b : Bool) : Nat := 2 * gsum g 360 + (if b = true then 1 else 0)
theorem sprI_0 {wf wt wd kd : Nat → Nat} {act : Nat → Prop} {g : Nat → Nat} : sprI wf wt wd kd act g 0 g false := by
  unfold sprI; rw [if_neg (by decide)]; exact ⟨fun _ _ => rfl, fun w hw => absurd hw (Nat.not_lt_zero w)⟩
theorem sprI_skip {wf wt wd kd : Nat → Nat} {act : Nat → Prop} {g g2 : Nat → Nat} {n : Nat} {b : Bool} (h : sprI wf wt wd kd act g n g2 b) (ha : ¬ act n) : sprI wf wt wd kd act g (n + 1) g2 b := by
  unfold sprI at h ⊢
  by_cases hb : b = true
  · rw [if_pos hb] at h ⊢; exact h
  · rw [if_neg hb] at h ⊢; exact ⟨h.1, gFix_ok h.2 (fun z => absurd z ha)⟩
theorem sprI_le {wf wt wd kd : Nat → Nat} {act : Nat → Prop} {g g2 : Nat → Nat} {n : Nat} {b : Bool} (h : sprI wf wt wd kd act g n g2 b) : gsum g2 360 ≤ gsum g 360 := by
  unfold sprI at h
  by_cases hb : b = true
  · rw [if_pos hb] at h; exact Nat.le_of_lt h
  · rw [if_neg hb] at h; exact Nat.le_of_eq (gsum_cong h.1)
theorem sprI_yes {wf wt wd kd : Nat → Nat} {act : Nat → Prop} {g g2 g3 : Nat → Nat} {n x : Nat} {b : Bool} (h : sprI wf wt wd kd act g n g2 b) (h2 : goesI wf wt wd kd n g2 x g3 true) : sprI wf wt wd kd act g (n + 1) g3 true := by
  have h1 := sprI_le h
  unfold goesI at h2; rw [if_pos rfl] at h2
  unfold sprI; rw [if_pos rfl]; omega
theorem sprI_no {wf wt wd kd : Nat → Nat} {act : Nat → Prop} {g g2 g3 : Nat → Nat} {n : Nat} {b : Bool} (hw : ∀ w, w < n → wf w < 6 ∧ wt w < 6) (h : sprI wf wt wd kd act g n g2 b) (h2 : goesI wf wt wd kd n g2 60 g3 false) : sprI wf wt wd kd act g (n + 1) g3 b := by
  unfold goesI at h2; rw [if_neg (by decide)] at h2
  unfold sprI at h ⊢
  by_cases hb : b = true
  · rw [if_pos hb] at h ⊢; rw [gsum_cong h2.1]; exact h
  · rw [if_neg hb] at h ⊢; exact ⟨fun i hi => (h2.1 i hi).trans (h.1 i hi), gFix_ok (gFix_cong hw (fun i hi => (h2.1 i hi).symm) h.2) (fun _ => h2.2)⟩
theorem sprM_lt {wf wt wd kd : Nat → Nat} {act : Nat → Prop} {g g2 : Nat → Nat} {n : Nat} {b : Bool} (h : sprI wf wt wd kd act g n g2 b) : sprM g2 b < sprM g true := by
  unfold sprM
  rw [if_pos (show true = true from rfl)]
  by_cases hb : b = true
  · unfold sprI at h; rw [if_pos hb] at h; rw [if_pos hb]; omega
  · rw [if_neg hb]; have := sprI_le h; omega
theorem sprI_f {wf wt wd kd : Nat → Nat} {act : Nat → Prop} {g g2 : Nat → Nat} {n : Nat} {b : Bool} (h : sprI wf wt wd kd act g n g2 b) : b = false → gFix wf wt wd kd act g2 n := fun hb => by
  unfold sprI at h; rw [if_neg (by rw [hb]; decide)] at h; exact h.2
theorem ways6 {np nw : Nat} {wf wt wd kd : Nat → Nat} (h : waysOk np nw wf wt wd kd) : ∀ w, w < nw → wf w < 6 ∧ wt w < 6 := fun w hw => by
  have h1 := h.1; have h2 := h.2.2.2 w hw; omega
theorem spr_end {np nw : Nat} {wf wt wd kd : Nat → Nat} {act : Nat → Prop} {S : Nat → Nat → Nat → Prop} {f : Nat → Int32} {g : Nat → Nat} (hw : waysOk np nw wf wt wd kd) (hS : sIn S) (h0 : hdR f g) (h1 : gSnd (hrd nw wf wt wd kd act S) g) (h2 : gIni S g) (h3 : gFix wf wt wd kd act g nw) : finR (hrd nw wf wt wd kd act S) f := ⟨g, h0.2, gFin_of (ways6 hw) hS h0.1 h1 h2 h3⟩
theorem hrd_ext {nw : Nat} {wf wt wd kd : Nat → Nat} {act act2 : Nat → Prop} {S S2 : Nat → Nat → Nat → Prop} (ha : ∀ w, w < nw → (act w ↔ act2 w)) (hS : ∀ d p r, S d p r ↔ S2 d p r) : hrd nw wf wt wd kd act S = hrd nw wf wt wd kd act2 S2 :=
  funext fun _ => funext fun _ => funext fun _ => propext ⟨hrd_mono (fun w hw => (ha w hw).mp) (fun d p r => (hS d p r).mp), hrd_mono (fun w hw => (ha w hw).mpr) (fun d p r => (hS d p r).mpr)⟩
theorem nI_neg9 {k : Nat} (h : k < 1000) : ¬ nI k = (-9) ∧ ¬ nI k = (-1) := by
  have h2 := nI_toInt (show k < 2 ^ 31 by omega)
  refine ⟨fun z => ?_, fun z => ?_⟩ <;> (rw [z] at h2; have e9 : (-9 : Int32).toInt = -9 := by decide
                                         have e1 : (-1 : Int32).toInt = -1 := by decide
                                         omega)
theorem act_9 {hm : Nat} {wf : Nat → Nat} {w : Nat} (h : w < 1000) : actW hm (-9) wf w ↔ actW hm (-1) wf w := by
  unfold actW
  have := nI_neg9 h
  simp [this.1, this.2]
theorem tell_9 {tp tt td : Nat → Nat} {nt : Nat} (h : nt ≤ 8) (d p r : Nat) : tellS tp tt td nt (-9) d p r ↔ tellS tp tt td nt (-1) d p r := by
  constructor
  · rintro ⟨k, hk, _, h2⟩; exact ⟨k, hk, (nI_neg9 (by omega)).2, h2⟩
  · rintro ⟨k, hk, _, h2⟩; exact ⟨k, hk, (nI_neg9 (by omega)).1, h2⟩
theorem fin_9 {nw nt hm : Nat} {wf wt wd kd tp tt td : Nat → Nat} {f : Nat → Int32} (hn : nw ≤ 9) (ht : nt ≤ 8) (h : finR (hrd nw wf wt wd kd (actW hm (-9) wf) (tellS tp tt td nt (-9))) f) : finR (hrd nw wf wt wd kd (actW hm (-1) wf) (tellS tp tt td nt (-1))) f := by
  rwa [hrd_ext (fun w hw => act_9 (by omega)) (fun d p r => tell_9 ht d p r)] at h
theorem fin_9a {nw hm : Nat} {wf wt wd kd : Nat → Nat} {S : Nat → Nat → Nat → Prop} {f : Nat → Int32} (hn : nw ≤ 9) (h : finR (hrd nw wf wt wd kd (actW hm (-9) wf) S) f) : finR (hrd nw wf wt wd kd (actW hm (-1) wf) S) f := by
  rwa [hrd_ext (fun w hw => act_9 (by omega)) (fun d p r => Iff.rfl)] at h
theorem fin_9t {nw nt : Nat} {act : Nat → Prop} {wf wt wd kd tp tt td : Nat → Nat} {f : Nat → Int32} (ht : nt ≤ 8) (h : finR (hrd nw wf wt wd kd act (tellS tp tt td nt (-9))) f) : finR (hrd nw wf wt wd kd act (tellS tp tt td nt (-1))) f := by
  rwa [hrd_ext (fun w hw => Iff.rfl) (fun d p r => tell_9 ht d p r)] at h
/-! reading the array -/
theorem fin_cnt {H : Nat → Nat → Nat → Prop} {g : Nat → Nat} (h : gFin H g) {d p t o : Nat} (hd : d ≤ 59) (hp : p < 6) (ht : t < 4) (ho : o < 15) : (decide (g (60 * p + (t * 15 + o)) ≤ d)) = pB (H d p (t * 15 + o)) := by
  have := h.2 d p (t * 15 + o) hd hp (by omega)
  by_cases hq : g (60 * p + (t * 15 + o)) ≤ d
  · rw [decide_eq_true hq, pB_t.mpr (this.mp hq)]
  · rw [decide_eq_false hq]; cases hb : pB (H d p (t * 15 + o))
    · rfl
    · exact absurd (this.mpr (pB_t.mp hb)) hq
theorem ct_y {P : Nat → Bool} {n : Nat} (h : P n = true) : fb_ct P n + 1 = fb_ct P (n + 1) := by simp [fb_ct, h]
theorem ct_n {P : Nat → Bool} {n : Nat} (h : P n = false) : fb_ct P n = fb_ct P (n + 1) := by simp [fb_ct, h]
theorem fday_n {H : Nat → Nat → Nat → Prop} {lw : Nat} {fg : Nat → Bool} {p t : Nat} : fday H lw fg p t < 1000 := by rcases @fday_lt H lw fg p t with h | h <;> omega
theorem fst_hitN {P : Nat → Bool} {d : Nat} (h0 : fstN P d = 999) (hP : P d = true) (hd : d < 60) : nI d = nI (fstN P 60) := by rw [fstN_hit h0 hP (by omega) hd]
/-! numbers -/
def in64 (v a b : Int64) : Bool := decide (a ≤ v ∧ v ≤ b)
theorem in64_np {x : Int32} {n : Nat} (hn : n < 2 ^ 31) : in64 x.toInt64 0 ((nI n).toInt64 - 1) = blw x n := by
  have e : (nI n).toInt64 - 1 = lN n - 1 := by rw [nI_l hn]
  have e2 : ((nI n).toInt64 - 1).toInt = (n : Int) - 1 := by
    rw [Int64.toInt_sub, Int32.toInt_toInt64, nI_toInt hn]
    have e1 : (1 : Int64).toInt = 1 := by decide
    rw [e1]
    exact Int.bmod_eq_of_le (by omega) (by omega)
  unfold in64 blw
  refine decide_eq_decide.mpr ?_
  rw [Int64.le_iff_toInt_le, Int64.le_iff_toInt_le, e2, Int32.toInt_toInt64]
  have e0 : (0 : Int64).toInt = 0 := by decide
  omega
theorem in64_n {x : Int32} {n : Nat} {c : Int64} (hc : c.toInt = (n : Int) - 1) : in64 x.toInt64 0 c = blw x n := by
  unfold in64 blw
  refine decide_eq_decide.mpr ?_
  rw [Int64.le_iff_toInt_le, Int64.le_iff_toInt_le, hc, Int32.toInt_toInt64]
  have e0 : (0 : Int64).toInt = 0 := by decide
  omega
theorem in64_i {x : Int32} {n : Nat} (hn : n < 2 ^ 31) : in64 x.toInt64 0 (nI n).toInt64 = blw x (n + 1) := by
  unfold in64 blw
  refine decide_eq_decide.mpr ?_
  rw [Int64.le_iff_toInt_le, Int64.le_iff_toInt_le, Int32.toInt_toInt64, Int32.toInt_toInt64, nI_toInt hn]
  have e0 : (0 : Int64).toInt = 0 := by decide
  omega
theorem in64_k {x : Int32} {lo hi : Nat} {a b : Int64} (ha : a.toInt = (lo : Int)) (hb : b.toInt = (hi : Int)) : in64 x.toInt64 a b = kin x lo hi := by
  unfold in64 kin
  refine decide_eq_decide.mpr ?_
  rw [Int64.le_iff_toInt_le, Int64.le_iff_toInt_le, ha, hb, Int32.toInt_toInt64]
/-! bits -/
theorem sh1 {n : Nat} (h : n < 64) : nI n >>> (nI 1 &&& 31) = nI (n / 2) := (pk_shrN (k := 1) (by omega) _ (by decide))
theorem an1 {n : Nat} (h : n < 64) : nI n &&& nI 1 = nI (n % 2) := (pk_andN (k := 1) (by omega) (by decide))
theorem popc2 : ∀ n, n < 64 → popc n = n % 2 + popc (n / 2) := by decide +kernel
theorem popc00 : popc 0 = 0 := by decide
theorem so_no0 {P : Nat → Bool} {k : Nat} (h : allN P k = false) : false = allN P (k + 1) := by
  symm
  cases hb : allN P (k + 1)
  · rfl
  · have := allN_t.mp hb
    rw [allN_t.mpr (fun j hj => this j (by omega))] at h
    cases h
theorem so_no {P : Nat → Bool} {k : Nat} (h : P k = false) : false = allN P (k + 1) := (allN_f (Nat.lt_succ_self k) h).symm
theorem so_yes {P : Nat → Bool} {k : Nat} (h : allN P k = true) (h2 : P k = true) : true = allN P (k + 1) := (allN_s h h2).symm
