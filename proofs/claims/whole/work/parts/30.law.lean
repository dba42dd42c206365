/-! the law's world: two blocks of cells -/
theorem va_nd_of : ∀ {t : List Nat}, t.Nodup → va_nd t = true
  | [], _ => rfl
  | a :: t, h => by
    have h1 := List.nodup_cons.mp h
    show (decide (a ∉ t) && va_nd t) = true
    rw [decide_eq_true h1.1, va_nd_of h1.2]; rfl
theorem blk_R (wr wc : va_W) : (List.range wr.length).map (fun i => (wr ++ wc)[i]?) = wr.map some := by
  apply List.ext_getElem
  · simp
  · intro k h1 h2
    simp at h1 h2 ⊢
    rw [List.getElem?_append_left h2]
    simp [h2]
theorem blk_C (wr wc : va_W) : (List.range' wr.length wc.length).map (fun i => (wr ++ wc)[i]?) = wc.map some := by
  apply List.ext_getElem
  · simp
  · intro k h1 h2
    simp at h1 h2 ⊢
    rw [List.getElem?_append_right (by omega)]
    simp [h2]
theorem blk_dis (wr wc : va_W) : ∀ i ∈ List.range wr.length, i ∉ List.range' wr.length wc.length := fun i hi hj => by
  have h1 := List.mem_range.mp hi
  have h2 := (List.mem_range'_1.mp hj).1
  omega
theorem va_P_r {D : va_G} {wr wc : va_W} {H : Heap} (h : va_P D vwCl (wr ++ wc) H) : va_P D vwCl wc H := fun k q hk => h (wr.length + k) q (by rw [List.getElem?_append_right (by omega)]; simpa using hk)
theorem va_P_l {D : va_G} {wr wc : va_W} {H : Heap} (h : va_P D vwCl (wr ++ wc) H) : va_P D vwCl wr H := fun k q hk => h k q (by rw [List.getElem?_append_left ((List.getElem?_eq_some_iff.mp hk).1)]; exact hk)
theorem va_P_sw {D : va_G} {wr wc : va_W} {H : Heap} (h : va_P D vwCl (wr ++ wc) H) : va_P D vwCl (wc ++ wr) H := (va_P_r h).app (va_P_l h)
theorem va_D_r {A : Nat → Prop} {wr wc : va_W} (h : va_D A (wr ++ wc)) : va_D A wc := h.sub _ (va_nd_of List.nodup_range') (blk_C wr wc)
theorem va_D_sw {A : Nat → Prop} {wr wc : va_W} (h : va_D A (wr ++ wc)) : va_D A (wc ++ wr) := h.sub (List.range' wr.length wc.length ++ List.range wr.length) (va_nd_of (List.nodup_append.mpr ⟨List.nodup_range', List.nodup_range, fun a ha b hb => by
    intro e; subst e; exact blk_dis wr wc _ hb ha⟩)) (by rw [List.map_append, blk_C, blk_R, List.map_append])
section KB
variable {p : Program} {l : Launch} {e : Env} {R : Room} {s : State} {m : MethodId} {args : Array Value} {below : List Frame} {meth : Method} {c : Code} {H : Heap} {locs : List Loc} {cells slots : Nat} {Q : State → Prop}
variable {cc : ByteArray} {pc : Nat} {ls : Array Slot} {rest st0 : List Value} {a : Array Value} {A0 : Nat → Prop} {H0 : Heap}
variable {D : va_G} {wc wr : va_W}
theorem kb_i {S : Type} {post : Int32 → S → Prop} {w1 : S → va_W} (hr : va_Run p l e R s m args below meth c H locs cells slots 0 0 (F0 m pc ls st0) rest (va_Qi post (fun u t => va_P D vwCl (w1 u) t.heap ∧ va_D (va_A wc H.size) (w1 u)) (va_A wc H.size) a) (va_A wc H.size)) (hP : va_P D vwCl (wr ++ wc) H) (hD : va_D A0 (wr ++ wc)) (hS : va_S A0 H0 H locs) (hA : ∀ q, H0.size ≤ q → A0 q)
    (kk : ∀ (r : Int32) (u : S) (H1 : Heap) (locs1 : List Loc), post r u → va_P D vwCl (wr ++ w1 u) H1 → va_D A0 (wr ++ w1 u) → va_S A0 H0 H1 locs1 → W p l e R s m args below meth c H1 locs1 cells slots Q (F0 m (pc + 3) ls (.int r :: rest))) : W p l e R s m args below meth c H locs cells slots Q (F0 m pc ls st0) := by
  have hF := va_free hD hS hA _ (blk_C wr wc)
  refine va_calli hr hS (fun q _ h => hF q h) hF (fun r u t H1 locs1 ht hvm hp hB hz hk hS1 => ?_)
  rw [ht] at hB
  obtain ⟨hP2, hD2⟩ := va_join hP hD _ _ (blk_C wr wc) (blk_R wr wc) (va_nd_of List.nodup_range) (blk_dis wr wc) hk hF hB.1 hB.2
  exact kk r u H1 locs1 hp hP2 hD2 hS1
theorem kb_l {S : Type} {post : Int64 → S → Prop} {w1 : S → va_W} (hr : va_Run p l e R s m args below meth c H locs cells slots 0 0 (F0 m pc ls st0) rest (va_Ql post (fun u t => va_P D vwCl (w1 u) t.heap ∧ va_D (va_A wc H.size) (w1 u)) (va_A wc H.size) a) (va_A wc H.size)) (hP : va_P D vwCl (wr ++ wc) H) (hD : va_D A0 (wr ++ wc)) (hS : va_S A0 H0 H locs) (hA : ∀ q, H0.size ≤ q → A0 q)
    (kk : ∀ (r : Int64) (u : S) (H1 : Heap) (locs1 : List Loc), post r u → va_P D vwCl (wr ++ w1 u) H1 → va_D A0 (wr ++ w1 u) → va_S A0 H0 H1 locs1 → W p l e R s m args below meth c H1 locs1 cells slots Q (F0 m (pc + 3) ls (.long r :: rest))) : W p l e R s m args below meth c H locs cells slots Q (F0 m pc ls st0) := by
  have hF := va_free hD hS hA _ (blk_C wr wc)
  refine va_calll hr hS (fun q _ h => hF q h) hF (fun r u t H1 locs1 ht hvm hp hB hz hk hS1 => ?_)
  rw [ht] at hB
  obtain ⟨hP2, hD2⟩ := va_join hP hD _ _ (blk_C wr wc) (blk_R wr wc) (va_nd_of List.nodup_range) (blk_dis wr wc) hk hF hB.1 hB.2
  exact kk r u H1 locs1 hp hP2 hD2 hS1
theorem k_sld (hexec : p.tables.exec = Jvm.exec) (hb : c.code = cc) {b L : Nat} {xs : Nat → Int32} (hX : va_X b L xs s H0) (hbl : b < H0.size) (hbA : ¬ A0 b) (hS : va_S A0 H0 H locs) {k : Nat} (hk : k < L) (hL : L < 2 ^ 31) (hdg : decode cc pc = .ok (.iaload, 1))
    (kk : W p l e R s m args below meth c H locs cells slots Q (F0 m (pc + 1) ls (.int (xs k) :: rest))) : W p l e R s m args below meth c H locs cells slots Q (F0 m pc ls (.int (nI k) :: .ref b :: rest)) := by
  refine va_sld hexec hb hX hbl hbA hS (vp_in_nI hk hL) hdg ?_
  rw [nI_clamp (by omega)]
  exact kk
end KB
theorem xC_0 (cI cJ cZ cS : ClassId) (v : XV) (s : SSt) : ∃ fs, (xC cI cJ cZ cS v s)[0]? = some (xAdr v, .inr (4, fs)) := by
  obtain ⟨_, _⟩ := v; obtain ⟨_, _⟩ := s; exact ⟨_, rfl⟩
theorem mC_0 (cI cZ : ClassId) (v : MV) (s : SSt) : ∃ fs, (mC cI cZ v s)[0]? = some (mAdr v, .inr (5, fs)) := by
  obtain ⟨_, _⟩ := v; obtain ⟨_, _⟩ := s; exact ⟨_, rfl⟩
/-- what the law's walk stands on -/
def LawF (p : Program) (s : State) (m : MethodId) (c : Code) (b L : Nat) (xs : Nat → Int32) : Prop :=
  p.tables.exec = Jvm.exec ∧ c.code = cL_law ∧ c.maxLocals = 4 ∧ s.vm.findClass RL = some m.cls ∧ (∀ w ∈ wsL_law, w.before #[Value.ref b] s = true) ∧ va_X b L xs s s.heap ∧ b < s.heap.size ∧ L ≤ 384
abbrev lawA (s : State) : Nat → Prop := fun q => s.heap.size ≤ q
def LawK (p : Program) (l : Launch) (e : Env) (s : State) (m : MethodId) (below : List Frame) (meth : Method) (c : Code) (dC : Nat → ClassId) (dI : Nat → Nat → Nat) (cI cJ cZ cS : ClassId) (b a1 a2 i CC SS : Nat) (Q : State → Prop) : Prop :=
  ∀ (v : XV) (u : MV) (σ : SSt) (H : Heap) (locs : List Loc) (ls : Array Slot), XRel v σ → MRel u σ → xAdr v = a1 → mAdr u = a2 → va_P (dC, dI) vwCl (mC cI cZ u σ ++ xC cI cJ cZ cS v σ) H → va_D (lawA s) (mC cI cZ u σ ++ xC cI cJ cZ cS v σ) → va_S (lawA s) s.heap H locs → lv_has ls 4 [(0, .ref b), (1, .ref a1), (2, .ref a2), (3, .int (nI i))] → W p l e room_1 s m #[Value.ref b] below meth c H locs CC SS Q (F0 m 1338 ls [])
set_option maxHeartbeats 1000000 in
set_option maxRecDepth 100000 in
theorem law_c0 {p : Program} {l : Launch} {e : Env} {s : State} {m : MethodId} {below : List Frame} {meth : Method} {c : Code} {dC : Nat → ClassId} {dI : Nat → Nat → Nat} {cI cJ cZ cS : ClassId} {b L : Nat} {xs : Nat → Int32} (F : LawF p s m c b L xs) (hN : kN s) (hK : va_K (dC, dI) vwCl (kT cI cJ cZ cS) s) {i CC SS : Nat} {Q : State → Prop} (hC : CC + 0 ≤ room_1.cells) (hSS : SS + 0 ≤ room_1.slots) (hi : i + 6 ≤ L) (v : XV) (u : MV) (σ : SSt) (hv : XRel v σ) (hu : MRel u σ) {H : Heap} {locs : List Loc} (hP : va_P (dC, dI) vwCl (mC cI cZ u σ ++ xC cI cJ cZ cS v σ) H) (hD : va_D (lawA s) (mC cI cZ u σ ++ xC cI cJ cZ cS v σ)) (hS : va_S (lawA s) s.heap H locs) {ls : Array Slot} (hl : lv_has ls 4 [(0, .ref b), (1, .ref (xAdr v)), (2, .ref (mAdr u)), (3, .int (nI i))]) (hk : LawK p l e s m below meth c dC dI cI cJ cZ cS b (xAdr v) (mAdr u) i CC SS Q) : W p l e room_1 s m #[Value.ref b] below meth c H locs CC SS Q (F0 m 180 ls []) := by
  obtain ⟨hx, hb, hml, hown, hts, hX, hbl, hL⟩ := F
  have hA : ∀ q : Nat, s.heap.size ≤ q → lawA s q := fun _ h => h
  have hbA : ¬ lawA s b := Nat.not_le.mpr hbl
  obtain ⟨fx, hxc⟩ := xC_0 cI cJ cZ cS v σ
  obtain ⟨fm, hmc⟩ := mC_0 cI cZ u σ
  refine lv_aload_n hx hb dL_law_180 rfl (lv_at hl 1 rfl) ?_
  refine lv_aload_n hx hb dL_law_181 rfl (lv_at hl 0 rfl) ?_
  refine lv_iload_n hx hb dL_law_182 rfl (lv_at hl 3 rfl) ?_
  refine lv_iconst (v := nI 1) hx hb dL_law_183 (by decide) ?_
  refine k_iadd hx hb dL_law_184 ?_
  refine k_sld hx hb hX hbl hbA hS (by omega) (by omega) dL_law_185 ?_
  refine lv_aload_n hx hb dL_law_186 rfl (lv_at hl 0 rfl) ?_
  refine lv_iload_n hx hb dL_law_187 rfl (lv_at hl 3 rfl) ?_
  refine lv_iconst (v := nI 2) hx hb dL_law_188 (by decide) ?_
  refine k_iadd hx hb dL_law_189 ?_
  refine k_sld hx hb hX hbl hbA hS (by omega) (by omega) dL_law_190 ?_
  refine lv_aload_n hx hb dL_law_191 rfl (lv_at hl 0 rfl) ?_
  refine lv_iload_n hx hb dL_law_192 rfl (lv_at hl 3 rfl) ?_
  refine lv_iconst (v := nI 3) hx hb dL_law_193 (by decide) ?_
  refine k_iadd hx hb dL_law_194 ?_
  refine k_sld hx hb hX hbl hbA hS (by omega) (by omega) dL_law_195 ?_
  refine lv_aload_n hx hb dL_law_196 rfl (lv_at hl 0 rfl) ?_
  refine lv_iload_n hx hb dL_law_197 rfl (lv_at hl 3 rfl) ?_
  refine lv_iconst (v := nI 4) hx hb dL_law_198 (by decide) ?_
  refine k_iadd hx hb dL_law_199 ?_
  refine k_sld hx hb hX hbl hbA hS (by omega) (by omega) dL_law_200 ?_
  refine kb_i (va_runV (As := [.int (xs (i + 1)), .int (xs (i + 2)), .int (xs (i + 3)), .int (xs (i + 4))]) (rest := []) ⟨hx, hb, hml, hown, hts⟩ (qX4_pass v σ (xs (i + 1)) (xs (i + 2)) (xs (i + 3)) (xs (i + 4)) hv) (cwV 4 hts gL_law_X4_pass rfl rfl rfl hvX4_pass ⟨Nat.le_of_ble_eq_true rfl, Nat.le_of_ble_eq_true rfl⟩) (kpreV hN (q := (RX4, TX4, 13)) (ci := 4) hK (va_P_r hP) (va_D_r hD) 0 rfl hxc) rfl rfl hl.1 rfl (lv_room (Nat.le_of_ble_eq_true rfl)) dL_law_201 ⟨hC, hSS⟩) hP hD hS hA (fun r1 v1 H locs hr1 hP hD hS => ?_)
  replace hP := va_P_sw hP
  replace hD := va_D_sw hD
  refine lv_aload_n hx hb dL_law_204 rfl (lv_at hl 2 rfl) ?_
  refine lv_aload_n hx hb dL_law_205 rfl (lv_at hl 0 rfl) ?_
  refine lv_iload_n hx hb dL_law_206 rfl (lv_at hl 3 rfl) ?_
  refine lv_iconst (v := nI 1) hx hb dL_law_207 (by decide) ?_
  refine k_iadd hx hb dL_law_208 ?_
  refine k_sld hx hb hX hbl hbA hS (by omega) (by omega) dL_law_209 ?_
  refine lv_aload_n hx hb dL_law_210 rfl (lv_at hl 0 rfl) ?_
  refine lv_iload_n hx hb dL_law_211 rfl (lv_at hl 3 rfl) ?_
  refine lv_iconst (v := nI 2) hx hb dL_law_212 (by decide) ?_
  refine k_iadd hx hb dL_law_213 ?_
  refine k_sld hx hb hX hbl hbA hS (by omega) (by omega) dL_law_214 ?_
  refine lv_aload_n hx hb dL_law_215 rfl (lv_at hl 0 rfl) ?_
  refine lv_iload_n hx hb dL_law_216 rfl (lv_at hl 3 rfl) ?_
  refine lv_iconst (v := nI 3) hx hb dL_law_217 (by decide) ?_
  refine k_iadd hx hb dL_law_218 ?_
  refine k_sld hx hb hX hbl hbA hS (by omega) (by omega) dL_law_219 ?_
  refine lv_aload_n hx hb dL_law_220 rfl (lv_at hl 0 rfl) ?_
  refine lv_iload_n hx hb dL_law_221 rfl (lv_at hl 3 rfl) ?_
  refine lv_iconst (v := nI 4) hx hb dL_law_222 (by decide) ?_
  refine k_iadd hx hb dL_law_223 ?_
  refine k_sld hx hb hX hbl hbA hS (by omega) (by omega) dL_law_224 ?_
  refine kb_i (va_runV (As := [.int (xs (i + 1)), .int (xs (i + 2)), .int (xs (i + 3)), .int (xs (i + 4))]) (rest := [.int r1]) ⟨hx, hb, hml, hown, hts⟩ (qX5_pass u σ (xs (i + 1)) (xs (i + 2)) (xs (i + 3)) (xs (i + 4)) hu) (cwV 4 hts gL_law_X5_pass rfl rfl rfl hvX5_pass ⟨Nat.le_of_ble_eq_true rfl, Nat.le_of_ble_eq_true rfl⟩) (kpreV hN (q := (RX5, TX5, 35)) (ci := 5) hK (va_P_r hP) (va_D_r hD) 0 rfl hmc) rfl rfl hl.1 rfl (lv_room (Nat.le_of_ble_eq_true rfl)) dL_law_225 ⟨hC, hSS⟩) hP hD hS hA (fun r2 u1 H locs hr2 hP hD hS => ?_)
  replace hP := va_P_sw hP
  replace hD := va_D_sw hD
  refine lv_icmp_eq (tgt := 1338) hx hb dL_law_228 (by decide) (fun _ => ?_) (fun c9 => absurd (hr1.1.trans hr2.1.symm) c9)
  exact hk v1 u1 _ H locs ls hr1.2.1 hr2.2.1 hr1.2.2 hr2.2.2 hP hD hS hl

set_option maxHeartbeats 1000000 in
set_option maxRecDepth 100000 in
theorem law_c1 {p : Program} {l : Launch} {e : Env} {s : State} {m : MethodId} {below : List Frame} {meth : Method} {c : Code} {dC : Nat → ClassId} {dI : Nat → Nat → Nat} {cI cJ cZ cS : ClassId} {b L : Nat} {xs : Nat → Int32} (F : LawF p s m c b L xs) (hN : kN s) (hK : va_K (dC, dI) vwCl (kT cI cJ cZ cS) s) {i CC SS : Nat} {Q : State → Prop} (hC : CC + 0 ≤ room_1.cells) (hSS : SS + 0 ≤ room_1.slots) (hi : i + 6 ≤ L) (v : XV) (u : MV) (σ : SSt) (hv : XRel v σ) (hu : MRel u σ) {H : Heap} {locs : List Loc} (hP : va_P (dC, dI) vwCl (mC cI cZ u σ ++ xC cI cJ cZ cS v σ) H) (hD : va_D (lawA s) (mC cI cZ u σ ++ xC cI cJ cZ cS v σ)) (hS : va_S (lawA s) s.heap H locs) {ls : Array Slot} (hl : lv_has ls 4 [(0, .ref b), (1, .ref (xAdr v)), (2, .ref (mAdr u)), (3, .int (nI i))]) (hk : LawK p l e s m below meth c dC dI cI cJ cZ cS b (xAdr v) (mAdr u) i CC SS Q) : W p l e room_1 s m #[Value.ref b] below meth c H locs CC SS Q (F0 m 233 ls []) := by
  obtain ⟨hx, hb, hml, hown, hts, hX, hbl, hL⟩ := F
  have hA : ∀ q : Nat, s.heap.size ≤ q → lawA s q := fun _ h => h
  have hbA : ¬ lawA s b := Nat.not_le.mpr hbl
  obtain ⟨fx, hxc⟩ := xC_0 cI cJ cZ cS v σ
  obtain ⟨fm, hmc⟩ := mC_0 cI cZ u σ
  refine lv_aload_n hx hb dL_law_233 rfl (lv_at hl 1 rfl) ?_
  refine lv_aload_n hx hb dL_law_234 rfl (lv_at hl 0 rfl) ?_
  refine lv_iload_n hx hb dL_law_235 rfl (lv_at hl 3 rfl) ?_
  refine lv_iconst (v := nI 1) hx hb dL_law_236 (by decide) ?_
  refine k_iadd hx hb dL_law_237 ?_
  refine k_sld hx hb hX hbl hbA hS (by omega) (by omega) dL_law_238 ?_
  refine lv_aload_n hx hb dL_law_239 rfl (lv_at hl 0 rfl) ?_
  refine lv_iload_n hx hb dL_law_240 rfl (lv_at hl 3 rfl) ?_
  refine lv_iconst (v := nI 2) hx hb dL_law_241 (by decide) ?_
  refine k_iadd hx hb dL_law_242 ?_
  refine k_sld hx hb hX hbl hbA hS (by omega) (by omega) dL_law_243 ?_
  refine kb_i (va_runV (As := [.int (xs (i + 1)), .int (xs (i + 2))]) (rest := []) ⟨hx, hb, hml, hown, hts⟩ (qX4_ofPerson v σ (xs (i + 1)) (xs (i + 2)) hv) (cwV 2 hts gL_law_X4_ofPerson rfl rfl rfl hvX4_ofPerson ⟨Nat.le_of_ble_eq_true rfl, Nat.le_of_ble_eq_true rfl⟩) (kpreV hN (q := (RX4, TX4, 13)) (ci := 4) hK (va_P_r hP) (va_D_r hD) 0 rfl hxc) rfl rfl hl.1 rfl (lv_room (Nat.le_of_ble_eq_true rfl)) dL_law_244 ⟨hC, hSS⟩) hP hD hS hA (fun r1 v1 H locs hr1 hP hD hS => ?_)
  replace hP := va_P_sw hP
  replace hD := va_D_sw hD
  refine lv_aload_n hx hb dL_law_247 rfl (lv_at hl 2 rfl) ?_
  refine lv_aload_n hx hb dL_law_248 rfl (lv_at hl 0 rfl) ?_
  refine lv_iload_n hx hb dL_law_249 rfl (lv_at hl 3 rfl) ?_
  refine lv_iconst (v := nI 1) hx hb dL_law_250 (by decide) ?_
  refine k_iadd hx hb dL_law_251 ?_
  refine k_sld hx hb hX hbl hbA hS (by omega) (by omega) dL_law_252 ?_
  refine lv_aload_n hx hb dL_law_253 rfl (lv_at hl 0 rfl) ?_
  refine lv_iload_n hx hb dL_law_254 rfl (lv_at hl 3 rfl) ?_
  refine lv_iconst (v := nI 2) hx hb dL_law_255 (by decide) ?_
  refine k_iadd hx hb dL_law_256 ?_
  refine k_sld hx hb hX hbl hbA hS (by omega) (by omega) dL_law_257 ?_
  refine kb_i (va_runV (As := [.int (xs (i + 1)), .int (xs (i + 2))]) (rest := [.int r1]) ⟨hx, hb, hml, hown, hts⟩ (qX5_ofPerson u σ (xs (i + 1)) (xs (i + 2)) hu) (cwV 2 hts gL_law_X5_ofPerson rfl rfl rfl hvX5_ofPerson ⟨Nat.le_of_ble_eq_true rfl, Nat.le_of_ble_eq_true rfl⟩) (kpreV hN (q := (RX5, TX5, 35)) (ci := 5) hK (va_P_r hP) (va_D_r hD) 0 rfl hmc) rfl rfl hl.1 rfl (lv_room (Nat.le_of_ble_eq_true rfl)) dL_law_258 ⟨hC, hSS⟩) hP hD hS hA (fun r2 u1 H locs hr2 hP hD hS => ?_)
  replace hP := va_P_sw hP
  replace hD := va_D_sw hD
  refine lv_icmp_eq (tgt := 1338) hx hb dL_law_261 (by decide) (fun _ => ?_) (fun c9 => absurd (hr1.1.trans hr2.1.symm) c9)
  exact hk v1 u1 _ H locs ls hr1.2.1 hr2.2.1 hr1.2.2 hr2.2.2 hP hD hS hl

set_option maxHeartbeats 1000000 in
set_option maxRecDepth 100000 in
theorem law_c2 {p : Program} {l : Launch} {e : Env} {s : State} {m : MethodId} {below : List Frame} {meth : Method} {c : Code} {dC : Nat → ClassId} {dI : Nat → Nat → Nat} {cI cJ cZ cS : ClassId} {b L : Nat} {xs : Nat → Int32} (F : LawF p s m c b L xs) (hN : kN s) (hK : va_K (dC, dI) vwCl (kT cI cJ cZ cS) s) {i CC SS : Nat} {Q : State → Prop} (hC : CC + 0 ≤ room_1.cells) (hSS : SS + 0 ≤ room_1.slots) (hi : i + 6 ≤ L) (v : XV) (u : MV) (σ : SSt) (hv : XRel v σ) (hu : MRel u σ) {H : Heap} {locs : List Loc} (hP : va_P (dC, dI) vwCl (mC cI cZ u σ ++ xC cI cJ cZ cS v σ) H) (hD : va_D (lawA s) (mC cI cZ u σ ++ xC cI cJ cZ cS v σ)) (hS : va_S (lawA s) s.heap H locs) {ls : Array Slot} (hl : lv_has ls 4 [(0, .ref b), (1, .ref (xAdr v)), (2, .ref (mAdr u)), (3, .int (nI i))]) (hk : LawK p l e s m below meth c dC dI cI cJ cZ cS b (xAdr v) (mAdr u) i CC SS Q) : W p l e room_1 s m #[Value.ref b] below meth c H locs CC SS Q (F0 m 266 ls []) := by
  obtain ⟨hx, hb, hml, hown, hts, hX, hbl, hL⟩ := F
  have hA : ∀ q : Nat, s.heap.size ≤ q → lawA s q := fun _ h => h
  have hbA : ¬ lawA s b := Nat.not_le.mpr hbl
  obtain ⟨fx, hxc⟩ := xC_0 cI cJ cZ cS v σ
  obtain ⟨fm, hmc⟩ := mC_0 cI cZ u σ
  refine lv_aload_n hx hb dL_law_266 rfl (lv_at hl 1 rfl) ?_
  refine lv_aload_n hx hb dL_law_267 rfl (lv_at hl 0 rfl) ?_
  refine lv_iload_n hx hb dL_law_268 rfl (lv_at hl 3 rfl) ?_
  refine lv_iconst (v := nI 1) hx hb dL_law_269 (by decide) ?_
  refine k_iadd hx hb dL_law_270 ?_
  refine k_sld hx hb hX hbl hbA hS (by omega) (by omega) dL_law_271 ?_
  refine lv_aload_n hx hb dL_law_272 rfl (lv_at hl 0 rfl) ?_
  refine lv_iload_n hx hb dL_law_273 rfl (lv_at hl 3 rfl) ?_
  refine lv_iconst (v := nI 2) hx hb dL_law_274 (by decide) ?_
  refine k_iadd hx hb dL_law_275 ?_
  refine k_sld hx hb hX hbl hbA hS (by omega) (by omega) dL_law_276 ?_
  refine kb_i (va_runV (As := [.int (xs (i + 1)), .int (xs (i + 2))]) (rest := []) ⟨hx, hb, hml, hown, hts⟩ (qX4_ofWay v σ (xs (i + 1)) (xs (i + 2)) hv) (cwV 2 hts gL_law_X4_ofWay rfl rfl rfl hvX4_ofWay ⟨Nat.le_of_ble_eq_true rfl, Nat.le_of_ble_eq_true rfl⟩) (kpreV hN (q := (RX4, TX4, 13)) (ci := 4) hK (va_P_r hP) (va_D_r hD) 0 rfl hxc) rfl rfl hl.1 rfl (lv_room (Nat.le_of_ble_eq_true rfl)) dL_law_277 ⟨hC, hSS⟩) hP hD hS hA (fun r1 v1 H locs hr1 hP hD hS => ?_)
  replace hP := va_P_sw hP
  replace hD := va_D_sw hD
  refine lv_aload_n hx hb dL_law_280 rfl (lv_at hl 2 rfl) ?_
  refine lv_aload_n hx hb dL_law_281 rfl (lv_at hl 0 rfl) ?_
  refine lv_iload_n hx hb dL_law_282 rfl (lv_at hl 3 rfl) ?_
  refine lv_iconst (v := nI 1) hx hb dL_law_283 (by decide) ?_
  refine k_iadd hx hb dL_law_284 ?_
  refine k_sld hx hb hX hbl hbA hS (by omega) (by omega) dL_law_285 ?_
  refine lv_aload_n hx hb dL_law_286 rfl (lv_at hl 0 rfl) ?_
  refine lv_iload_n hx hb dL_law_287 rfl (lv_at hl 3 rfl) ?_
  refine lv_iconst (v := nI 2) hx hb dL_law_288 (by decide) ?_
  refine k_iadd hx hb dL_law_289 ?_
  refine k_sld hx hb hX hbl hbA hS (by omega) (by omega) dL_law_290 ?_
  refine kb_i (va_runV (As := [.int (xs (i + 1)), .int (xs (i + 2))]) (rest := [.int r1]) ⟨hx, hb, hml, hown, hts⟩ (qX5_ofWay u σ (xs (i + 1)) (xs (i + 2)) hu) (cwV 2 hts gL_law_X5_ofWay rfl rfl rfl hvX5_ofWay ⟨Nat.le_of_ble_eq_true rfl, Nat.le_of_ble_eq_true rfl⟩) (kpreV hN (q := (RX5, TX5, 35)) (ci := 5) hK (va_P_r hP) (va_D_r hD) 0 rfl hmc) rfl rfl hl.1 rfl (lv_room (Nat.le_of_ble_eq_true rfl)) dL_law_291 ⟨hC, hSS⟩) hP hD hS hA (fun r2 u1 H locs hr2 hP hD hS => ?_)
  replace hP := va_P_sw hP
  replace hD := va_D_sw hD
  refine lv_icmp_eq (tgt := 1338) hx hb dL_law_294 (by decide) (fun _ => ?_) (fun c9 => absurd (hr1.1.trans hr2.1.symm) c9)
  exact hk v1 u1 _ H locs ls hr1.2.1 hr2.2.1 hr1.2.2 hr2.2.2 hP hD hS hl

set_option maxHeartbeats 1000000 in
set_option maxRecDepth 100000 in
theorem law_c3 {p : Program} {l : Launch} {e : Env} {s : State} {m : MethodId} {below : List Frame} {meth : Method} {c : Code} {dC : Nat → ClassId} {dI : Nat → Nat → Nat} {cI cJ cZ cS : ClassId} {b L : Nat} {xs : Nat → Int32} (F : LawF p s m c b L xs) (hN : kN s) (hK : va_K (dC, dI) vwCl (kT cI cJ cZ cS) s) {i CC SS : Nat} {Q : State → Prop} (hC : CC + 0 ≤ room_1.cells) (hSS : SS + 0 ≤ room_1.slots) (hi : i + 6 ≤ L) (v : XV) (u : MV) (σ : SSt) (hv : XRel v σ) (hu : MRel u σ) {H : Heap} {locs : List Loc} (hP : va_P (dC, dI) vwCl (mC cI cZ u σ ++ xC cI cJ cZ cS v σ) H) (hD : va_D (lawA s) (mC cI cZ u σ ++ xC cI cJ cZ cS v σ)) (hS : va_S (lawA s) s.heap H locs) {ls : Array Slot} (hl : lv_has ls 4 [(0, .ref b), (1, .ref (xAdr v)), (2, .ref (mAdr u)), (3, .int (nI i))]) (hk : LawK p l e s m below meth c dC dI cI cJ cZ cS b (xAdr v) (mAdr u) i CC SS Q) : W p l e room_1 s m #[Value.ref b] below meth c H locs CC SS Q (F0 m 299 ls []) := by
  obtain ⟨hx, hb, hml, hown, hts, hX, hbl, hL⟩ := F
  have hA : ∀ q : Nat, s.heap.size ≤ q → lawA s q := fun _ h => h
  have hbA : ¬ lawA s b := Nat.not_le.mpr hbl
  obtain ⟨fx, hxc⟩ := xC_0 cI cJ cZ cS v σ
  obtain ⟨fm, hmc⟩ := mC_0 cI cZ u σ
  refine lv_aload_n hx hb dL_law_299 rfl (lv_at hl 1 rfl) ?_
  refine lv_aload_n hx hb dL_law_300 rfl (lv_at hl 0 rfl) ?_
  refine lv_iload_n hx hb dL_law_301 rfl (lv_at hl 3 rfl) ?_
  refine lv_iconst (v := nI 1) hx hb dL_law_302 (by decide) ?_
  refine k_iadd hx hb dL_law_303 ?_
  refine k_sld hx hb hX hbl hbA hS (by omega) (by omega) dL_law_304 ?_
  refine lv_aload_n hx hb dL_law_305 rfl (lv_at hl 0 rfl) ?_
  refine lv_iload_n hx hb dL_law_306 rfl (lv_at hl 3 rfl) ?_
  refine lv_iconst (v := nI 2) hx hb dL_law_307 (by decide) ?_
  refine k_iadd hx hb dL_law_308 ?_
  refine k_sld hx hb hX hbl hbA hS (by omega) (by omega) dL_law_309 ?_
  refine lv_aload_n hx hb dL_law_310 rfl (lv_at hl 0 rfl) ?_
  refine lv_iload_n hx hb dL_law_311 rfl (lv_at hl 3 rfl) ?_
  refine lv_iconst (v := nI 3) hx hb dL_law_312 (by decide) ?_
  refine k_iadd hx hb dL_law_313 ?_
  refine k_sld hx hb hX hbl hbA hS (by omega) (by omega) dL_law_314 ?_
  refine kb_i (va_runV (As := [.int (xs (i + 1)), .int (xs (i + 2)), .int (xs (i + 3))]) (rest := []) ⟨hx, hb, hml, hown, hts⟩ (qX4_telling v σ (xs (i + 1)) (xs (i + 2)) (xs (i + 3)) hv) (cwV 3 hts gL_law_X4_telling rfl rfl rfl hvX4_telling ⟨Nat.le_of_ble_eq_true rfl, Nat.le_of_ble_eq_true rfl⟩) (kpreV hN (q := (RX4, TX4, 13)) (ci := 4) hK (va_P_r hP) (va_D_r hD) 0 rfl hxc) rfl rfl hl.1 rfl (lv_room (Nat.le_of_ble_eq_true rfl)) dL_law_315 ⟨hC, hSS⟩) hP hD hS hA (fun r1 v1 H locs hr1 hP hD hS => ?_)
  replace hP := va_P_sw hP
  replace hD := va_D_sw hD
  refine lv_aload_n hx hb dL_law_318 rfl (lv_at hl 2 rfl) ?_
  refine lv_aload_n hx hb dL_law_319 rfl (lv_at hl 0 rfl) ?_
  refine lv_iload_n hx hb dL_law_320 rfl (lv_at hl 3 rfl) ?_
  refine lv_iconst (v := nI 1) hx hb dL_law_321 (by decide) ?_
  refine k_iadd hx hb dL_law_322 ?_
  refine k_sld hx hb hX hbl hbA hS (by omega) (by omega) dL_law_323 ?_
  refine lv_aload_n hx hb dL_law_324 rfl (lv_at hl 0 rfl) ?_
  refine lv_iload_n hx hb dL_law_325 rfl (lv_at hl 3 rfl) ?_
  refine lv_iconst (v := nI 2) hx hb dL_law_326 (by decide) ?_
  refine k_iadd hx hb dL_law_327 ?_
  refine k_sld hx hb hX hbl hbA hS (by omega) (by omega) dL_law_328 ?_
  refine lv_aload_n hx hb dL_law_329 rfl (lv_at hl 0 rfl) ?_
  refine lv_iload_n hx hb dL_law_330 rfl (lv_at hl 3 rfl) ?_
  refine lv_iconst (v := nI 3) hx hb dL_law_331 (by decide) ?_
  refine k_iadd hx hb dL_law_332 ?_
  refine k_sld hx hb hX hbl hbA hS (by omega) (by omega) dL_law_333 ?_
  refine kb_i (va_runV (As := [.int (xs (i + 1)), .int (xs (i + 2)), .int (xs (i + 3))]) (rest := [.int r1]) ⟨hx, hb, hml, hown, hts⟩ (qX5_telling u σ (xs (i + 1)) (xs (i + 2)) (xs (i + 3)) hu) (cwV 3 hts gL_law_X5_telling rfl rfl rfl hvX5_telling ⟨Nat.le_of_ble_eq_true rfl, Nat.le_of_ble_eq_true rfl⟩) (kpreV hN (q := (RX5, TX5, 35)) (ci := 5) hK (va_P_r hP) (va_D_r hD) 0 rfl hmc) rfl rfl hl.1 rfl (lv_room (Nat.le_of_ble_eq_true rfl)) dL_law_334 ⟨hC, hSS⟩) hP hD hS hA (fun r2 u1 H locs hr2 hP hD hS => ?_)
  replace hP := va_P_sw hP
  replace hD := va_D_sw hD
  refine lv_icmp_eq (tgt := 1338) hx hb dL_law_337 (by decide) (fun _ => ?_) (fun c9 => absurd (hr1.1.trans hr2.1.symm) c9)
  exact hk v1 u1 _ H locs ls hr1.2.1 hr2.2.1 hr1.2.2 hr2.2.2 hP hD hS hl

set_option maxHeartbeats 1000000 in
set_option maxRecDepth 100000 in
theorem law_c4 {p : Program} {l : Launch} {e : Env} {s : State} {m : MethodId} {below : List Frame} {meth : Method} {c : Code} {dC : Nat → ClassId} {dI : Nat → Nat → Nat} {cI cJ cZ cS : ClassId} {b L : Nat} {xs : Nat → Int32} (F : LawF p s m c b L xs) (hN : kN s) (hK : va_K (dC, dI) vwCl (kT cI cJ cZ cS) s) {i CC SS : Nat} {Q : State → Prop} (hC : CC + 0 ≤ room_1.cells) (hSS : SS + 0 ≤ room_1.slots) (hi : i + 6 ≤ L) (v : XV) (u : MV) (σ : SSt) (hv : XRel v σ) (hu : MRel u σ) {H : Heap} {locs : List Loc} (hP : va_P (dC, dI) vwCl (mC cI cZ u σ ++ xC cI cJ cZ cS v σ) H) (hD : va_D (lawA s) (mC cI cZ u σ ++ xC cI cJ cZ cS v σ)) (hS : va_S (lawA s) s.heap H locs) {ls : Array Slot} (hl : lv_has ls 4 [(0, .ref b), (1, .ref (xAdr v)), (2, .ref (mAdr u)), (3, .int (nI i))]) (hk : LawK p l e s m below meth c dC dI cI cJ cZ cS b (xAdr v) (mAdr u) i CC SS Q) : W p l e room_1 s m #[Value.ref b] below meth c H locs CC SS Q (F0 m 342 ls []) := by
  obtain ⟨hx, hb, hml, hown, hts, hX, hbl, hL⟩ := F
  have hA : ∀ q : Nat, s.heap.size ≤ q → lawA s q := fun _ h => h
  have hbA : ¬ lawA s b := Nat.not_le.mpr hbl
  obtain ⟨fx, hxc⟩ := xC_0 cI cJ cZ cS v σ
  obtain ⟨fm, hmc⟩ := mC_0 cI cZ u σ
  refine lv_aload_n hx hb dL_law_342 rfl (lv_at hl 1 rfl) ?_
  refine lv_aload_n hx hb dL_law_343 rfl (lv_at hl 0 rfl) ?_
  refine lv_iload_n hx hb dL_law_344 rfl (lv_at hl 3 rfl) ?_
  refine lv_iconst (v := nI 1) hx hb dL_law_345 (by decide) ?_
  refine k_iadd hx hb dL_law_346 ?_
  refine k_sld hx hb hX hbl hbA hS (by omega) (by omega) dL_law_347 ?_
  refine kb_i (va_runV (As := [.int (xs (i + 1))]) (rest := []) ⟨hx, hb, hml, hown, hts⟩ (qX4_undo v σ (xs (i + 1)) hv) (cwV 1 hts gL_law_X4_undo rfl rfl rfl hvX4_undo ⟨Nat.le_of_ble_eq_true rfl, Nat.le_of_ble_eq_true rfl⟩) (kpreV hN (q := (RX4, TX4, 13)) (ci := 4) hK (va_P_r hP) (va_D_r hD) 0 rfl hxc) rfl rfl hl.1 rfl (lv_room (Nat.le_of_ble_eq_true rfl)) dL_law_348 ⟨hC, hSS⟩) hP hD hS hA (fun r1 v1 H locs hr1 hP hD hS => ?_)
  replace hP := va_P_sw hP
  replace hD := va_D_sw hD
  refine lv_aload_n hx hb dL_law_351 rfl (lv_at hl 2 rfl) ?_
  refine lv_aload_n hx hb dL_law_352 rfl (lv_at hl 0 rfl) ?_
  refine lv_iload_n hx hb dL_law_353 rfl (lv_at hl 3 rfl) ?_
  refine lv_iconst (v := nI 1) hx hb dL_law_354 (by decide) ?_
  refine k_iadd hx hb dL_law_355 ?_
  refine k_sld hx hb hX hbl hbA hS (by omega) (by omega) dL_law_356 ?_
  refine kb_i (va_runV (As := [.int (xs (i + 1))]) (rest := [.int r1]) ⟨hx, hb, hml, hown, hts⟩ (qX5_undo u σ (xs (i + 1)) hu) (cwV 1 hts gL_law_X5_undo rfl rfl rfl hvX5_undo ⟨Nat.le_of_ble_eq_true rfl, Nat.le_of_ble_eq_true rfl⟩) (kpreV hN (q := (RX5, TX5, 35)) (ci := 5) hK (va_P_r hP) (va_D_r hD) 0 rfl hmc) rfl rfl hl.1 rfl (lv_room (Nat.le_of_ble_eq_true rfl)) dL_law_357 ⟨hC, hSS⟩) hP hD hS hA (fun r2 u1 H locs hr2 hP hD hS => ?_)
  replace hP := va_P_sw hP
  replace hD := va_D_sw hD
  refine lv_icmp_eq (tgt := 1338) hx hb dL_law_360 (by decide) (fun _ => ?_) (fun c9 => absurd (hr1.1.trans hr2.1.symm) c9)
  exact hk v1 u1 _ H locs ls hr1.2.1 hr2.2.1 hr1.2.2 hr2.2.2 hP hD hS hl

set_option maxHeartbeats 1000000 in
set_option maxRecDepth 100000 in
theorem law_c5 {p : Program} {l : Launch} {e : Env} {s : State} {m : MethodId} {below : List Frame} {meth : Method} {c : Code} {dC : Nat → ClassId} {dI : Nat → Nat → Nat} {cI cJ cZ cS : ClassId} {b L : Nat} {xs : Nat → Int32} (F : LawF p s m c b L xs) (hN : kN s) (hK : va_K (dC, dI) vwCl (kT cI cJ cZ cS) s) {i CC SS : Nat} {Q : State → Prop} (hC : CC + 0 ≤ room_1.cells) (hSS : SS + 0 ≤ room_1.slots) (hi : i + 6 ≤ L) (v : XV) (u : MV) (σ : SSt) (hv : XRel v σ) (hu : MRel u σ) {H : Heap} {locs : List Loc} (hP : va_P (dC, dI) vwCl (mC cI cZ u σ ++ xC cI cJ cZ cS v σ) H) (hD : va_D (lawA s) (mC cI cZ u σ ++ xC cI cJ cZ cS v σ)) (hS : va_S (lawA s) s.heap H locs) {ls : Array Slot} (hl : lv_has ls 4 [(0, .ref b), (1, .ref (xAdr v)), (2, .ref (mAdr u)), (3, .int (nI i))]) (hk : LawK p l e s m below meth c dC dI cI cJ cZ cS b (xAdr v) (mAdr u) i CC SS Q) : W p l e room_1 s m #[Value.ref b] below meth c H locs CC SS Q (F0 m 365 ls []) := by
  obtain ⟨hx, hb, hml, hown, hts, hX, hbl, hL⟩ := F
  have hA : ∀ q : Nat, s.heap.size ≤ q → lawA s q := fun _ h => h
  have hbA : ¬ lawA s b := Nat.not_le.mpr hbl
  obtain ⟨fx, hxc⟩ := xC_0 cI cJ cZ cS v σ
  obtain ⟨fm, hmc⟩ := mC_0 cI cZ u σ
  refine lv_aload_n hx hb dL_law_365 rfl (lv_at hl 1 rfl) ?_
  refine lv_aload_n hx hb dL_law_366 rfl (lv_at hl 0 rfl) ?_
  refine lv_iload_n hx hb dL_law_367 rfl (lv_at hl 3 rfl) ?_
  refine lv_iconst (v := nI 1) hx hb dL_law_368 (by decide) ?_
  refine k_iadd hx hb dL_law_369 ?_
  refine k_sld hx hb hX hbl hbA hS (by omega) (by omega) dL_law_370 ?_
  refine kb_i (va_runV (As := [.int (xs (i + 1))]) (rest := []) ⟨hx, hb, hml, hown, hts⟩ (qX4_law v σ (xs (i + 1)) hv) (cwV 1 hts gL_law_X4_law rfl rfl rfl hvX4_law ⟨Nat.le_of_ble_eq_true rfl, Nat.le_of_ble_eq_true rfl⟩) (kpreV hN (q := (RX4, TX4, 13)) (ci := 4) hK (va_P_r hP) (va_D_r hD) 0 rfl hxc) rfl rfl hl.1 rfl (lv_room (Nat.le_of_ble_eq_true rfl)) dL_law_371 ⟨hC, hSS⟩) hP hD hS hA (fun r1 v1 H locs hr1 hP hD hS => ?_)
  replace hP := va_P_sw hP
  replace hD := va_D_sw hD
  refine lv_aload_n hx hb dL_law_374 rfl (lv_at hl 2 rfl) ?_
  refine lv_aload_n hx hb dL_law_375 rfl (lv_at hl 0 rfl) ?_
  refine lv_iload_n hx hb dL_law_376 rfl (lv_at hl 3 rfl) ?_
  refine lv_iconst (v := nI 1) hx hb dL_law_377 (by decide) ?_
  refine k_iadd hx hb dL_law_378 ?_
  refine k_sld hx hb hX hbl hbA hS (by omega) (by omega) dL_law_379 ?_
  refine kb_i (va_runV (As := [.int (xs (i + 1))]) (rest := [.int r1]) ⟨hx, hb, hml, hown, hts⟩ (qX5_law u σ (xs (i + 1)) hu) (cwV 1 hts gL_law_X5_law rfl rfl rfl hvX5_law ⟨Nat.le_of_ble_eq_true rfl, Nat.le_of_ble_eq_true rfl⟩) (kpreV hN (q := (RX5, TX5, 35)) (ci := 5) hK (va_P_r hP) (va_D_r hD) 0 rfl hmc) rfl rfl hl.1 rfl (lv_room (Nat.le_of_ble_eq_true rfl)) dL_law_380 ⟨hC, hSS⟩) hP hD hS hA (fun r2 u1 H locs hr2 hP hD hS => ?_)
  replace hP := va_P_sw hP
  replace hD := va_D_sw hD
  refine lv_icmp_eq (tgt := 1338) hx hb dL_law_383 (by decide) (fun _ => ?_) (fun c9 => absurd (hr1.1.trans hr2.1.symm) c9)
  exact hk v1 u1 _ H locs ls hr1.2.1 hr2.2.1 hr1.2.2 hr2.2.2 hP hD hS hl

set_option maxHeartbeats 1000000 in
set_option maxRecDepth 100000 in
theorem law_c6 {p : Program} {l : Launch} {e : Env} {s : State} {m : MethodId} {below : List Frame} {meth : Method} {c : Code} {dC : Nat → ClassId} {dI : Nat → Nat → Nat} {cI cJ cZ cS : ClassId} {b L : Nat} {xs : Nat → Int32} (F : LawF p s m c b L xs) (hN : kN s) (hK : va_K (dC, dI) vwCl (kT cI cJ cZ cS) s) {i CC SS : Nat} {Q : State → Prop} (hC : CC + 0 ≤ room_1.cells) (hSS : SS + 0 ≤ room_1.slots) (hi : i + 6 ≤ L) (v : XV) (u : MV) (σ : SSt) (hv : XRel v σ) (hu : MRel u σ) {H : Heap} {locs : List Loc} (hP : va_P (dC, dI) vwCl (mC cI cZ u σ ++ xC cI cJ cZ cS v σ) H) (hD : va_D (lawA s) (mC cI cZ u σ ++ xC cI cJ cZ cS v σ)) (hS : va_S (lawA s) s.heap H locs) {ls : Array Slot} (hl : lv_has ls 4 [(0, .ref b), (1, .ref (xAdr v)), (2, .ref (mAdr u)), (3, .int (nI i))]) (hk : LawK p l e s m below meth c dC dI cI cJ cZ cS b (xAdr v) (mAdr u) i CC SS Q) : W p l e room_1 s m #[Value.ref b] below meth c H locs CC SS Q (F0 m 388 ls []) := by
  obtain ⟨hx, hb, hml, hown, hts, hX, hbl, hL⟩ := F
  have hA : ∀ q : Nat, s.heap.size ≤ q → lawA s q := fun _ h => h
  have hbA : ¬ lawA s b := Nat.not_le.mpr hbl
  obtain ⟨fx, hxc⟩ := xC_0 cI cJ cZ cS v σ
  obtain ⟨fm, hmc⟩ := mC_0 cI cZ u σ
  refine lv_aload_n hx hb dL_law_388 rfl (lv_at hl 1 rfl) ?_
  refine lv_aload_n hx hb dL_law_389 rfl (lv_at hl 0 rfl) ?_
  refine lv_iload_n hx hb dL_law_390 rfl (lv_at hl 3 rfl) ?_
  refine lv_iconst (v := nI 1) hx hb dL_law_391 (by decide) ?_
  refine k_iadd hx hb dL_law_392 ?_
  refine k_sld hx hb hX hbl hbA hS (by omega) (by omega) dL_law_393 ?_
  refine lv_aload_n hx hb dL_law_394 rfl (lv_at hl 0 rfl) ?_
  refine lv_iload_n hx hb dL_law_395 rfl (lv_at hl 3 rfl) ?_
  refine lv_iconst (v := nI 2) hx hb dL_law_396 (by decide) ?_
  refine k_iadd hx hb dL_law_397 ?_
  refine k_sld hx hb hX hbl hbA hS (by omega) (by omega) dL_law_398 ?_
  refine lv_if_eq (tgt := 406) hx hb dL_law_399 (by decide) (fun c1 => ?_) (fun c1 => ?_)
  · refine lv_iconst (v := nI 0) hx hb dL_law_406 (by decide) ?_
    refine k_cast (y := kb false) rfl ?_
    refine kb_i (va_runV (As := [.int (xs (i + 1)), .int (kb false)]) (rest := []) ⟨hx, hb, hml, hown, hts⟩ (qX4_fog v σ (xs (i + 1)) false hv) (cwV 2 hts gL_law_X4_fog rfl rfl rfl hvX4_fog ⟨Nat.le_of_ble_eq_true rfl, Nat.le_of_ble_eq_true rfl⟩) (kpreV hN (q := (RX4, TX4, 13)) (ci := 4) hK (va_P_r hP) (va_D_r hD) 0 rfl hxc) rfl rfl hl.1 rfl (lv_room (Nat.le_of_ble_eq_true rfl)) dL_law_407 ⟨hC, hSS⟩) hP hD hS hA (fun r1 v1 H locs hr1 hP hD hS => ?_)
    replace hP := va_P_sw hP
    replace hD := va_D_sw hD
    refine lv_aload_n hx hb dL_law_410 rfl (lv_at hl 2 rfl) ?_
    refine lv_aload_n hx hb dL_law_411 rfl (lv_at hl 0 rfl) ?_
    refine lv_iload_n hx hb dL_law_412 rfl (lv_at hl 3 rfl) ?_
    refine lv_iconst (v := nI 1) hx hb dL_law_413 (by decide) ?_
    refine k_iadd hx hb dL_law_414 ?_
    refine k_sld hx hb hX hbl hbA hS (by omega) (by omega) dL_law_415 ?_
    refine lv_aload_n hx hb dL_law_416 rfl (lv_at hl 0 rfl) ?_
    refine lv_iload_n hx hb dL_law_417 rfl (lv_at hl 3 rfl) ?_
    refine lv_iconst (v := nI 2) hx hb dL_law_418 (by decide) ?_
    refine k_iadd hx hb dL_law_419 ?_
    refine k_sld hx hb hX hbl hbA hS (by omega) (by omega) dL_law_420 ?_
    refine lv_if_eq (tgt := 428) hx hb dL_law_421 (by decide) (fun _ => ?_) (fun c2 => absurd c1 c2)
    refine lv_iconst (v := nI 0) hx hb dL_law_428 (by decide) ?_
    refine k_cast (y := kb false) rfl ?_
    refine kb_i (va_runV (As := [.int (xs (i + 1)), .int (kb false)]) (rest := [.int r1]) ⟨hx, hb, hml, hown, hts⟩ (qX5_fog u σ (xs (i + 1)) false hu) (cwV 2 hts gL_law_X5_fog rfl rfl rfl hvX5_fog ⟨Nat.le_of_ble_eq_true rfl, Nat.le_of_ble_eq_true rfl⟩) (kpreV hN (q := (RX5, TX5, 35)) (ci := 5) hK (va_P_r hP) (va_D_r hD) 0 rfl hmc) rfl rfl hl.1 rfl (lv_room (Nat.le_of_ble_eq_true rfl)) dL_law_429 ⟨hC, hSS⟩) hP hD hS hA (fun r2 u1 H locs hr2 hP hD hS => ?_)
    replace hP := va_P_sw hP
    replace hD := va_D_sw hD
    refine lv_icmp_eq (tgt := 1338) hx hb dL_law_432 (by decide) (fun _ => ?_) (fun c9 => absurd (hr1.1.trans hr2.1.symm) c9)
    exact hk v1 u1 _ H locs ls hr1.2.1 hr2.2.1 hr1.2.2 hr2.2.2 hP hD hS hl
  · refine lv_iconst (v := nI 1) hx hb dL_law_402 (by decide) ?_
    refine lv_goto (tgt := 407) hx hb dL_law_403 (by decide) ?_
    refine k_cast (y := kb true) rfl ?_
    refine kb_i (va_runV (As := [.int (xs (i + 1)), .int (kb true)]) (rest := []) ⟨hx, hb, hml, hown, hts⟩ (qX4_fog v σ (xs (i + 1)) true hv) (cwV 2 hts gL_law_X4_fog rfl rfl rfl hvX4_fog ⟨Nat.le_of_ble_eq_true rfl, Nat.le_of_ble_eq_true rfl⟩) (kpreV hN (q := (RX4, TX4, 13)) (ci := 4) hK (va_P_r hP) (va_D_r hD) 0 rfl hxc) rfl rfl hl.1 rfl (lv_room (Nat.le_of_ble_eq_true rfl)) dL_law_407 ⟨hC, hSS⟩) hP hD hS hA (fun r1 v1 H locs hr1 hP hD hS => ?_)
    replace hP := va_P_sw hP
    replace hD := va_D_sw hD
    refine lv_aload_n hx hb dL_law_410 rfl (lv_at hl 2 rfl) ?_
    refine lv_aload_n hx hb dL_law_411 rfl (lv_at hl 0 rfl) ?_
    refine lv_iload_n hx hb dL_law_412 rfl (lv_at hl 3 rfl) ?_
    refine lv_iconst (v := nI 1) hx hb dL_law_413 (by decide) ?_
    refine k_iadd hx hb dL_law_414 ?_
    refine k_sld hx hb hX hbl hbA hS (by omega) (by omega) dL_law_415 ?_
    refine lv_aload_n hx hb dL_law_416 rfl (lv_at hl 0 rfl) ?_
    refine lv_iload_n hx hb dL_law_417 rfl (lv_at hl 3 rfl) ?_
    refine lv_iconst (v := nI 2) hx hb dL_law_418 (by decide) ?_
    refine k_iadd hx hb dL_law_419 ?_
    refine k_sld hx hb hX hbl hbA hS (by omega) (by omega) dL_law_420 ?_
    refine lv_if_eq (tgt := 428) hx hb dL_law_421 (by decide) (fun c2 => absurd c2 c1) (fun _ => ?_)
    refine lv_iconst (v := nI 1) hx hb dL_law_424 (by decide) ?_
    refine lv_goto (tgt := 429) hx hb dL_law_425 (by decide) ?_
    refine k_cast (y := kb true) rfl ?_
    refine kb_i (va_runV (As := [.int (xs (i + 1)), .int (kb true)]) (rest := [.int r1]) ⟨hx, hb, hml, hown, hts⟩ (qX5_fog u σ (xs (i + 1)) true hu) (cwV 2 hts gL_law_X5_fog rfl rfl rfl hvX5_fog ⟨Nat.le_of_ble_eq_true rfl, Nat.le_of_ble_eq_true rfl⟩) (kpreV hN (q := (RX5, TX5, 35)) (ci := 5) hK (va_P_r hP) (va_D_r hD) 0 rfl hmc) rfl rfl hl.1 rfl (lv_room (Nat.le_of_ble_eq_true rfl)) dL_law_429 ⟨hC, hSS⟩) hP hD hS hA (fun r2 u1 H locs hr2 hP hD hS => ?_)
    replace hP := va_P_sw hP
    replace hD := va_D_sw hD
    refine lv_icmp_eq (tgt := 1338) hx hb dL_law_432 (by decide) (fun _ => ?_) (fun c9 => absurd (hr1.1.trans hr2.1.symm) c9)
    exact hk v1 u1 _ H locs ls hr1.2.1 hr2.2.1 hr1.2.2 hr2.2.2 hP hD hS hl

set_option maxHeartbeats 1000000 in
set_option maxRecDepth 100000 in
theorem law_c7 {p : Program} {l : Launch} {e : Env} {s : State} {m : MethodId} {below : List Frame} {meth : Method} {c : Code} {dC : Nat → ClassId} {dI : Nat → Nat → Nat} {cI cJ cZ cS : ClassId} {b L : Nat} {xs : Nat → Int32} (F : LawF p s m c b L xs) (hN : kN s) (hK : va_K (dC, dI) vwCl (kT cI cJ cZ cS) s) {i CC SS : Nat} {Q : State → Prop} (hC : CC + 0 ≤ room_1.cells) (hSS : SS + 0 ≤ room_1.slots) (hi : i + 6 ≤ L) (v : XV) (u : MV) (σ : SSt) (hv : XRel v σ) (hu : MRel u σ) {H : Heap} {locs : List Loc} (hP : va_P (dC, dI) vwCl (mC cI cZ u σ ++ xC cI cJ cZ cS v σ) H) (hD : va_D (lawA s) (mC cI cZ u σ ++ xC cI cJ cZ cS v σ)) (hS : va_S (lawA s) s.heap H locs) {ls : Array Slot} (hl : lv_has ls 4 [(0, .ref b), (1, .ref (xAdr v)), (2, .ref (mAdr u)), (3, .int (nI i))]) (hk : LawK p l e s m below meth c dC dI cI cJ cZ cS b (xAdr v) (mAdr u) i CC SS Q) : W p l e room_1 s m #[Value.ref b] below meth c H locs CC SS Q (F0 m 437 ls []) := by
  obtain ⟨hx, hb, hml, hown, hts, hX, hbl, hL⟩ := F
  have hA : ∀ q : Nat, s.heap.size ≤ q → lawA s q := fun _ h => h
  have hbA : ¬ lawA s b := Nat.not_le.mpr hbl
  obtain ⟨fx, hxc⟩ := xC_0 cI cJ cZ cS v σ
  obtain ⟨fm, hmc⟩ := mC_0 cI cZ u σ
  refine lv_aload_n hx hb dL_law_437 rfl (lv_at hl 1 rfl) ?_
  refine lv_aload_n hx hb dL_law_438 rfl (lv_at hl 0 rfl) ?_
  refine lv_iload_n hx hb dL_law_439 rfl (lv_at hl 3 rfl) ?_
  refine lv_iconst (v := nI 1) hx hb dL_law_440 (by decide) ?_
  refine k_iadd hx hb dL_law_441 ?_
  refine k_sld hx hb hX hbl hbA hS (by omega) (by omega) dL_law_442 ?_
  refine lv_aload_n hx hb dL_law_443 rfl (lv_at hl 0 rfl) ?_
  refine lv_iload_n hx hb dL_law_444 rfl (lv_at hl 3 rfl) ?_
  refine lv_iconst (v := nI 2) hx hb dL_law_445 (by decide) ?_
  refine k_iadd hx hb dL_law_446 ?_
  refine k_sld hx hb hX hbl hbA hS (by omega) (by omega) dL_law_447 ?_
  refine lv_if_eq (tgt := 455) hx hb dL_law_448 (by decide) (fun c1 => ?_) (fun c1 => ?_)
  · refine lv_iconst (v := nI 0) hx hb dL_law_455 (by decide) ?_
    refine k_cast (y := kb false) rfl ?_
    refine kb_i (va_runV (As := [.int (xs (i + 1)), .int (kb false)]) (rest := []) ⟨hx, hb, hml, hown, hts⟩ (qX4_hush v σ (xs (i + 1)) false hv) (cwV 2 hts gL_law_X4_hush rfl rfl rfl hvX4_hush ⟨Nat.le_of_ble_eq_true rfl, Nat.le_of_ble_eq_true rfl⟩) (kpreV hN (q := (RX4, TX4, 13)) (ci := 4) hK (va_P_r hP) (va_D_r hD) 0 rfl hxc) rfl rfl hl.1 rfl (lv_room (Nat.le_of_ble_eq_true rfl)) dL_law_456 ⟨hC, hSS⟩) hP hD hS hA (fun r1 v1 H locs hr1 hP hD hS => ?_)
    replace hP := va_P_sw hP
    replace hD := va_D_sw hD
    refine lv_aload_n hx hb dL_law_459 rfl (lv_at hl 2 rfl) ?_
    refine lv_aload_n hx hb dL_law_460 rfl (lv_at hl 0 rfl) ?_
    refine lv_iload_n hx hb dL_law_461 rfl (lv_at hl 3 rfl) ?_
    refine lv_iconst (v := nI 1) hx hb dL_law_462 (by decide) ?_
    refine k_iadd hx hb dL_law_463 ?_
    refine k_sld hx hb hX hbl hbA hS (by omega) (by omega) dL_law_464 ?_
    refine lv_aload_n hx hb dL_law_465 rfl (lv_at hl 0 rfl) ?_
    refine lv_iload_n hx hb dL_law_466 rfl (lv_at hl 3 rfl) ?_
    refine lv_iconst (v := nI 2) hx hb dL_law_467 (by decide) ?_
    refine k_iadd hx hb dL_law_468 ?_
    refine k_sld hx hb hX hbl hbA hS (by omega) (by omega) dL_law_469 ?_
    refine lv_if_eq (tgt := 477) hx hb dL_law_470 (by decide) (fun _ => ?_) (fun c2 => absurd c1 c2)
    refine lv_iconst (v := nI 0) hx hb dL_law_477 (by decide) ?_
    refine k_cast (y := kb false) rfl ?_
    refine kb_i (va_runV (As := [.int (xs (i + 1)), .int (kb false)]) (rest := [.int r1]) ⟨hx, hb, hml, hown, hts⟩ (qX5_hush u σ (xs (i + 1)) false hu) (cwV 2 hts gL_law_X5_hush rfl rfl rfl hvX5_hush ⟨Nat.le_of_ble_eq_true rfl, Nat.le_of_ble_eq_true rfl⟩) (kpreV hN (q := (RX5, TX5, 35)) (ci := 5) hK (va_P_r hP) (va_D_r hD) 0 rfl hmc) rfl rfl hl.1 rfl (lv_room (Nat.le_of_ble_eq_true rfl)) dL_law_478 ⟨hC, hSS⟩) hP hD hS hA (fun r2 u1 H locs hr2 hP hD hS => ?_)
    replace hP := va_P_sw hP
    replace hD := va_D_sw hD
    refine lv_icmp_eq (tgt := 1338) hx hb dL_law_481 (by decide) (fun _ => ?_) (fun c9 => absurd (hr1.1.trans hr2.1.symm) c9)
    exact hk v1 u1 _ H locs ls hr1.2.1 hr2.2.1 hr1.2.2 hr2.2.2 hP hD hS hl
  · refine lv_iconst (v := nI 1) hx hb dL_law_451 (by decide) ?_
    refine lv_goto (tgt := 456) hx hb dL_law_452 (by decide) ?_
    refine k_cast (y := kb true) rfl ?_
    refine kb_i (va_runV (As := [.int (xs (i + 1)), .int (kb true)]) (rest := []) ⟨hx, hb, hml, hown, hts⟩ (qX4_hush v σ (xs (i + 1)) true hv) (cwV 2 hts gL_law_X4_hush rfl rfl rfl hvX4_hush ⟨Nat.le_of_ble_eq_true rfl, Nat.le_of_ble_eq_true rfl⟩) (kpreV hN (q := (RX4, TX4, 13)) (ci := 4) hK (va_P_r hP) (va_D_r hD) 0 rfl hxc) rfl rfl hl.1 rfl (lv_room (Nat.le_of_ble_eq_true rfl)) dL_law_456 ⟨hC, hSS⟩) hP hD hS hA (fun r1 v1 H locs hr1 hP hD hS => ?_)
    replace hP := va_P_sw hP
    replace hD := va_D_sw hD
    refine lv_aload_n hx hb dL_law_459 rfl (lv_at hl 2 rfl) ?_
    refine lv_aload_n hx hb dL_law_460 rfl (lv_at hl 0 rfl) ?_
    refine lv_iload_n hx hb dL_law_461 rfl (lv_at hl 3 rfl) ?_
    refine lv_iconst (v := nI 1) hx hb dL_law_462 (by decide) ?_
    refine k_iadd hx hb dL_law_463 ?_
    refine k_sld hx hb hX hbl hbA hS (by omega) (by omega) dL_law_464 ?_
    refine lv_aload_n hx hb dL_law_465 rfl (lv_at hl 0 rfl) ?_
    refine lv_iload_n hx hb dL_law_466 rfl (lv_at hl 3 rfl) ?_
    refine lv_iconst (v := nI 2) hx hb dL_law_467 (by decide) ?_
    refine k_iadd hx hb dL_law_468 ?_
    refine k_sld hx hb hX hbl hbA hS (by omega) (by omega) dL_law_469 ?_
    refine lv_if_eq (tgt := 477) hx hb dL_law_470 (by decide) (fun c2 => absurd c2 c1) (fun _ => ?_)
    refine lv_iconst (v := nI 1) hx hb dL_law_473 (by decide) ?_
    refine lv_goto (tgt := 478) hx hb dL_law_474 (by decide) ?_
    refine k_cast (y := kb true) rfl ?_
    refine kb_i (va_runV (As := [.int (xs (i + 1)), .int (kb true)]) (rest := [.int r1]) ⟨hx, hb, hml, hown, hts⟩ (qX5_hush u σ (xs (i + 1)) true hu) (cwV 2 hts gL_law_X5_hush rfl rfl rfl hvX5_hush ⟨Nat.le_of_ble_eq_true rfl, Nat.le_of_ble_eq_true rfl⟩) (kpreV hN (q := (RX5, TX5, 35)) (ci := 5) hK (va_P_r hP) (va_D_r hD) 0 rfl hmc) rfl rfl hl.1 rfl (lv_room (Nat.le_of_ble_eq_true rfl)) dL_law_478 ⟨hC, hSS⟩) hP hD hS hA (fun r2 u1 H locs hr2 hP hD hS => ?_)
    replace hP := va_P_sw hP
    replace hD := va_D_sw hD
    refine lv_icmp_eq (tgt := 1338) hx hb dL_law_481 (by decide) (fun _ => ?_) (fun c9 => absurd (hr1.1.trans hr2.1.symm) c9)
    exact hk v1 u1 _ H locs ls hr1.2.1 hr2.2.1 hr1.2.2 hr2.2.2 hP hD hS hl

set_option maxHeartbeats 1000000 in
set_option maxRecDepth 100000 in
theorem law_c8 {p : Program} {l : Launch} {e : Env} {s : State} {m : MethodId} {below : List Frame} {meth : Method} {c : Code} {dC : Nat → ClassId} {dI : Nat → Nat → Nat} {cI cJ cZ cS : ClassId} {b L : Nat} {xs : Nat → Int32} (F : LawF p s m c b L xs) (hN : kN s) (hK : va_K (dC, dI) vwCl (kT cI cJ cZ cS) s) {i CC SS : Nat} {Q : State → Prop} (hC : CC + 0 ≤ room_1.cells) (hSS : SS + 0 ≤ room_1.slots) (hi : i + 6 ≤ L) (v : XV) (u : MV) (σ : SSt) (hv : XRel v σ) (hu : MRel u σ) {H : Heap} {locs : List Loc} (hP : va_P (dC, dI) vwCl (mC cI cZ u σ ++ xC cI cJ cZ cS v σ) H) (hD : va_D (lawA s) (mC cI cZ u σ ++ xC cI cJ cZ cS v σ)) (hS : va_S (lawA s) s.heap H locs) {ls : Array Slot} (hl : lv_has ls 4 [(0, .ref b), (1, .ref (xAdr v)), (2, .ref (mAdr u)), (3, .int (nI i))]) (hk : LawK p l e s m below meth c dC dI cI cJ cZ cS b (xAdr v) (mAdr u) i CC SS Q) : W p l e room_1 s m #[Value.ref b] below meth c H locs CC SS Q (F0 m 486 ls []) := by
  obtain ⟨hx, hb, hml, hown, hts, hX, hbl, hL⟩ := F
  have hA : ∀ q : Nat, s.heap.size ≤ q → lawA s q := fun _ h => h
  have hbA : ¬ lawA s b := Nat.not_le.mpr hbl
  obtain ⟨fx, hxc⟩ := xC_0 cI cJ cZ cS v σ
  obtain ⟨fm, hmc⟩ := mC_0 cI cZ u σ
  refine lv_aload_n hx hb dL_law_486 rfl (lv_at hl 1 rfl) ?_
  refine lv_aload_n hx hb dL_law_487 rfl (lv_at hl 0 rfl) ?_
  refine lv_iload_n hx hb dL_law_488 rfl (lv_at hl 3 rfl) ?_
  refine lv_iconst (v := nI 1) hx hb dL_law_489 (by decide) ?_
  refine k_iadd hx hb dL_law_490 ?_
  refine k_sld hx hb hX hbl hbA hS (by omega) (by omega) dL_law_491 ?_
  refine lv_aload_n hx hb dL_law_492 rfl (lv_at hl 0 rfl) ?_
  refine lv_iload_n hx hb dL_law_493 rfl (lv_at hl 3 rfl) ?_
  refine lv_iconst (v := nI 2) hx hb dL_law_494 (by decide) ?_
  refine k_iadd hx hb dL_law_495 ?_
  refine k_sld hx hb hX hbl hbA hS (by omega) (by omega) dL_law_496 ?_
  refine lv_aload_n hx hb dL_law_497 rfl (lv_at hl 0 rfl) ?_
  refine lv_iload_n hx hb dL_law_498 rfl (lv_at hl 3 rfl) ?_
  refine lv_iconst (v := nI 3) hx hb dL_law_499 (by decide) ?_
  refine k_iadd hx hb dL_law_500 ?_
  refine k_sld hx hb hX hbl hbA hS (by omega) (by omega) dL_law_501 ?_
  refine kb_i (va_runV (As := [.int (xs (i + 1)), .int (xs (i + 2)), .int (xs (i + 3))]) (rest := []) ⟨hx, hb, hml, hown, hts⟩ (qX4_hears v σ (xs (i + 1)) (xs (i + 2)) (xs (i + 3)) hv) (cwV 3 hts gL_law_X4_hears rfl rfl rfl hvX4_hears ⟨Nat.le_of_ble_eq_true rfl, Nat.le_of_ble_eq_true rfl⟩) (kpreV hN (q := (RX4, TX4, 13)) (ci := 4) hK (va_P_r hP) (va_D_r hD) 0 rfl hxc) rfl rfl hl.1 rfl (lv_room (Nat.le_of_ble_eq_true rfl)) dL_law_502 ⟨hC, hSS⟩) hP hD hS hA (fun r1 v1 H locs hr1 hP hD hS => ?_)
  replace hP := va_P_sw hP
  replace hD := va_D_sw hD
  refine lv_aload_n hx hb dL_law_505 rfl (lv_at hl 2 rfl) ?_
  refine lv_aload_n hx hb dL_law_506 rfl (lv_at hl 0 rfl) ?_
  refine lv_iload_n hx hb dL_law_507 rfl (lv_at hl 3 rfl) ?_
  refine lv_iconst (v := nI 1) hx hb dL_law_508 (by decide) ?_
  refine k_iadd hx hb dL_law_509 ?_
  refine k_sld hx hb hX hbl hbA hS (by omega) (by omega) dL_law_510 ?_
  refine lv_aload_n hx hb dL_law_511 rfl (lv_at hl 0 rfl) ?_
  refine lv_iload_n hx hb dL_law_512 rfl (lv_at hl 3 rfl) ?_
  refine lv_iconst (v := nI 2) hx hb dL_law_513 (by decide) ?_
  refine k_iadd hx hb dL_law_514 ?_
  refine k_sld hx hb hX hbl hbA hS (by omega) (by omega) dL_law_515 ?_
  refine lv_aload_n hx hb dL_law_516 rfl (lv_at hl 0 rfl) ?_
  refine lv_iload_n hx hb dL_law_517 rfl (lv_at hl 3 rfl) ?_
  refine lv_iconst (v := nI 3) hx hb dL_law_518 (by decide) ?_
  refine k_iadd hx hb dL_law_519 ?_
  refine k_sld hx hb hX hbl hbA hS (by omega) (by omega) dL_law_520 ?_
  refine kb_i (va_runV (As := [.int (xs (i + 1)), .int (xs (i + 2)), .int (xs (i + 3))]) (rest := [.int r1]) ⟨hx, hb, hml, hown, hts⟩ (qX5_hears u σ (xs (i + 1)) (xs (i + 2)) (xs (i + 3)) hu) (cwV 3 hts gL_law_X5_hears rfl rfl rfl hvX5_hears ⟨Nat.le_of_ble_eq_true rfl, Nat.le_of_ble_eq_true rfl⟩) (kpreV hN (q := (RX5, TX5, 35)) (ci := 5) hK (va_P_r hP) (va_D_r hD) 0 rfl hmc) rfl rfl hl.1 rfl (lv_room (Nat.le_of_ble_eq_true rfl)) dL_law_521 ⟨hC, hSS⟩) hP hD hS hA (fun r2 u1 H locs hr2 hP hD hS => ?_)
  replace hP := va_P_sw hP
  replace hD := va_D_sw hD
  refine lv_icmp_eq (tgt := 1338) hx hb dL_law_524 (by decide) (fun _ => ?_) (fun c9 => absurd (hr1.1.trans hr2.1.symm) c9)
  exact hk v1 u1 _ H locs ls hr1.2.1 hr2.2.1 hr1.2.2 hr2.2.2 hP hD hS hl

set_option maxHeartbeats 1000000 in
set_option maxRecDepth 100000 in
theorem law_c9 {p : Program} {l : Launch} {e : Env} {s : State} {m : MethodId} {below : List Frame} {meth : Method} {c : Code} {dC : Nat → ClassId} {dI : Nat → Nat → Nat} {cI cJ cZ cS : ClassId} {b L : Nat} {xs : Nat → Int32} (F : LawF p s m c b L xs) (hN : kN s) (hK : va_K (dC, dI) vwCl (kT cI cJ cZ cS) s) {i CC SS : Nat} {Q : State → Prop} (hC : CC + 0 ≤ room_1.cells) (hSS : SS + 0 ≤ room_1.slots) (hi : i + 6 ≤ L) (v : XV) (u : MV) (σ : SSt) (hv : XRel v σ) (hu : MRel u σ) {H : Heap} {locs : List Loc} (hP : va_P (dC, dI) vwCl (mC cI cZ u σ ++ xC cI cJ cZ cS v σ) H) (hD : va_D (lawA s) (mC cI cZ u σ ++ xC cI cJ cZ cS v σ)) (hS : va_S (lawA s) s.heap H locs) {ls : Array Slot} (hl : lv_has ls 4 [(0, .ref b), (1, .ref (xAdr v)), (2, .ref (mAdr u)), (3, .int (nI i))]) (hk : LawK p l e s m below meth c dC dI cI cJ cZ cS b (xAdr v) (mAdr u) i CC SS Q) : W p l e room_1 s m #[Value.ref b] below meth c H locs CC SS Q (F0 m 529 ls []) := by
  obtain ⟨hx, hb, hml, hown, hts, hX, hbl, hL⟩ := F
  have hA : ∀ q : Nat, s.heap.size ≤ q → lawA s q := fun _ h => h
  have hbA : ¬ lawA s b := Nat.not_le.mpr hbl
  obtain ⟨fx, hxc⟩ := xC_0 cI cJ cZ cS v σ
  obtain ⟨fm, hmc⟩ := mC_0 cI cZ u σ
  refine lv_aload_n hx hb dL_law_529 rfl (lv_at hl 1 rfl) ?_
  refine lv_aload_n hx hb dL_law_530 rfl (lv_at hl 0 rfl) ?_
  refine lv_iload_n hx hb dL_law_531 rfl (lv_at hl 3 rfl) ?_
  refine lv_iconst (v := nI 1) hx hb dL_law_532 (by decide) ?_
  refine k_iadd hx hb dL_law_533 ?_
  refine k_sld hx hb hX hbl hbA hS (by omega) (by omega) dL_law_534 ?_
  refine lv_aload_n hx hb dL_law_535 rfl (lv_at hl 0 rfl) ?_
  refine lv_iload_n hx hb dL_law_536 rfl (lv_at hl 3 rfl) ?_
  refine lv_iconst (v := nI 2) hx hb dL_law_537 (by decide) ?_
  refine k_iadd hx hb dL_law_538 ?_
  refine k_sld hx hb hX hbl hbA hS (by omega) (by omega) dL_law_539 ?_
  refine lv_aload_n hx hb dL_law_540 rfl (lv_at hl 0 rfl) ?_
  refine lv_iload_n hx hb dL_law_541 rfl (lv_at hl 3 rfl) ?_
  refine lv_iconst (v := nI 3) hx hb dL_law_542 (by decide) ?_
  refine k_iadd hx hb dL_law_543 ?_
  refine k_sld hx hb hX hbl hbA hS (by omega) (by omega) dL_law_544 ?_
  refine kb_i (va_runV (As := [.int (xs (i + 1)), .int (xs (i + 2)), .int (xs (i + 3))]) (rest := []) ⟨hx, hb, hml, hown, hts⟩ (qX4_count v σ (xs (i + 1)) (xs (i + 2)) (xs (i + 3)) hv) (cwV 3 hts gL_law_X4_count rfl rfl rfl hvX4_count ⟨Nat.le_of_ble_eq_true rfl, Nat.le_of_ble_eq_true rfl⟩) (kpreV hN (q := (RX4, TX4, 13)) (ci := 4) hK (va_P_r hP) (va_D_r hD) 0 rfl hxc) rfl rfl hl.1 rfl (lv_room (Nat.le_of_ble_eq_true rfl)) dL_law_545 ⟨hC, hSS⟩) hP hD hS hA (fun r1 v1 H locs hr1 hP hD hS => ?_)
  replace hP := va_P_sw hP
  replace hD := va_D_sw hD
  refine lv_aload_n hx hb dL_law_548 rfl (lv_at hl 2 rfl) ?_
  refine lv_aload_n hx hb dL_law_549 rfl (lv_at hl 0 rfl) ?_
  refine lv_iload_n hx hb dL_law_550 rfl (lv_at hl 3 rfl) ?_
  refine lv_iconst (v := nI 1) hx hb dL_law_551 (by decide) ?_
  refine k_iadd hx hb dL_law_552 ?_
  refine k_sld hx hb hX hbl hbA hS (by omega) (by omega) dL_law_553 ?_
  refine lv_aload_n hx hb dL_law_554 rfl (lv_at hl 0 rfl) ?_
  refine lv_iload_n hx hb dL_law_555 rfl (lv_at hl 3 rfl) ?_
  refine lv_iconst (v := nI 2) hx hb dL_law_556 (by decide) ?_
  refine k_iadd hx hb dL_law_557 ?_
  refine k_sld hx hb hX hbl hbA hS (by omega) (by omega) dL_law_558 ?_
  refine lv_aload_n hx hb dL_law_559 rfl (lv_at hl 0 rfl) ?_
  refine lv_iload_n hx hb dL_law_560 rfl (lv_at hl 3 rfl) ?_
  refine lv_iconst (v := nI 3) hx hb dL_law_561 (by decide) ?_
  refine k_iadd hx hb dL_law_562 ?_
  refine k_sld hx hb hX hbl hbA hS (by omega) (by omega) dL_law_563 ?_
  refine kb_i (va_runV (As := [.int (xs (i + 1)), .int (xs (i + 2)), .int (xs (i + 3))]) (rest := [.int r1]) ⟨hx, hb, hml, hown, hts⟩ (qX5_count u σ (xs (i + 1)) (xs (i + 2)) (xs (i + 3)) hu) (cwV 3 hts gL_law_X5_count rfl rfl rfl hvX5_count ⟨Nat.le_of_ble_eq_true rfl, Nat.le_of_ble_eq_true rfl⟩) (kpreV hN (q := (RX5, TX5, 35)) (ci := 5) hK (va_P_r hP) (va_D_r hD) 0 rfl hmc) rfl rfl hl.1 rfl (lv_room (Nat.le_of_ble_eq_true rfl)) dL_law_564 ⟨hC, hSS⟩) hP hD hS hA (fun r2 u1 H locs hr2 hP hD hS => ?_)
  replace hP := va_P_sw hP
  replace hD := va_D_sw hD
  refine lv_icmp_eq (tgt := 1338) hx hb dL_law_567 (by decide) (fun _ => ?_) (fun c9 => absurd (hr1.1.trans hr2.1.symm) c9)
  exact hk v1 u1 _ H locs ls hr1.2.1 hr2.2.1 hr1.2.2 hr2.2.2 hP hD hS hl

set_option maxHeartbeats 1000000 in
set_option maxRecDepth 100000 in
theorem law_c10 {p : Program} {l : Launch} {e : Env} {s : State} {m : MethodId} {below : List Frame} {meth : Method} {c : Code} {dC : Nat → ClassId} {dI : Nat → Nat → Nat} {cI cJ cZ cS : ClassId} {b L : Nat} {xs : Nat → Int32} (F : LawF p s m c b L xs) (hN : kN s) (hK : va_K (dC, dI) vwCl (kT cI cJ cZ cS) s) {i CC SS : Nat} {Q : State → Prop} (hC : CC + 0 ≤ room_1.cells) (hSS : SS + 0 ≤ room_1.slots) (hi : i + 6 ≤ L) (v : XV) (u : MV) (σ : SSt) (hv : XRel v σ) (hu : MRel u σ) {H : Heap} {locs : List Loc} (hP : va_P (dC, dI) vwCl (mC cI cZ u σ ++ xC cI cJ cZ cS v σ) H) (hD : va_D (lawA s) (mC cI cZ u σ ++ xC cI cJ cZ cS v σ)) (hS : va_S (lawA s) s.heap H locs) {ls : Array Slot} (hl : lv_has ls 4 [(0, .ref b), (1, .ref (xAdr v)), (2, .ref (mAdr u)), (3, .int (nI i))]) (hk : LawK p l e s m below meth c dC dI cI cJ cZ cS b (xAdr v) (mAdr u) i CC SS Q) : W p l e room_1 s m #[Value.ref b] below meth c H locs CC SS Q (F0 m 572 ls []) := by
  obtain ⟨hx, hb, hml, hown, hts, hX, hbl, hL⟩ := F
  have hA : ∀ q : Nat, s.heap.size ≤ q → lawA s q := fun _ h => h
  have hbA : ¬ lawA s b := Nat.not_le.mpr hbl
  obtain ⟨fx, hxc⟩ := xC_0 cI cJ cZ cS v σ
  obtain ⟨fm, hmc⟩ := mC_0 cI cZ u σ
  refine lv_aload_n hx hb dL_law_572 rfl (lv_at hl 1 rfl) ?_
  refine lv_aload_n hx hb dL_law_573 rfl (lv_at hl 0 rfl) ?_
  refine lv_iload_n hx hb dL_law_574 rfl (lv_at hl 3 rfl) ?_
  refine lv_iconst (v := nI 1) hx hb dL_law_575 (by decide) ?_
  refine k_iadd hx hb dL_law_576 ?_
  refine k_sld hx hb hX hbl hbA hS (by omega) (by omega) dL_law_577 ?_
  refine lv_aload_n hx hb dL_law_578 rfl (lv_at hl 0 rfl) ?_
  refine lv_iload_n hx hb dL_law_579 rfl (lv_at hl 3 rfl) ?_
  refine lv_iconst (v := nI 2) hx hb dL_law_580 (by decide) ?_
  refine k_iadd hx hb dL_law_581 ?_
  refine k_sld hx hb hX hbl hbA hS (by omega) (by omega) dL_law_582 ?_
  refine kb_i (va_runV (As := [.int (xs (i + 1)), .int (xs (i + 2))]) (rest := []) ⟨hx, hb, hml, hown, hts⟩ (qX4_forges v σ (xs (i + 1)) (xs (i + 2)) hv) (cwV 2 hts gL_law_X4_forges rfl rfl rfl hvX4_forges ⟨Nat.le_of_ble_eq_true rfl, Nat.le_of_ble_eq_true rfl⟩) (kpreV hN (q := (RX4, TX4, 13)) (ci := 4) hK (va_P_r hP) (va_D_r hD) 0 rfl hxc) rfl rfl hl.1 rfl (lv_room (Nat.le_of_ble_eq_true rfl)) dL_law_583 ⟨hC, hSS⟩) hP hD hS hA (fun r1 v1 H locs hr1 hP hD hS => ?_)
  replace hP := va_P_sw hP
  replace hD := va_D_sw hD
  refine lv_aload_n hx hb dL_law_586 rfl (lv_at hl 2 rfl) ?_
  refine lv_aload_n hx hb dL_law_587 rfl (lv_at hl 0 rfl) ?_
  refine lv_iload_n hx hb dL_law_588 rfl (lv_at hl 3 rfl) ?_
  refine lv_iconst (v := nI 1) hx hb dL_law_589 (by decide) ?_
  refine k_iadd hx hb dL_law_590 ?_
  refine k_sld hx hb hX hbl hbA hS (by omega) (by omega) dL_law_591 ?_
  refine lv_aload_n hx hb dL_law_592 rfl (lv_at hl 0 rfl) ?_
  refine lv_iload_n hx hb dL_law_593 rfl (lv_at hl 3 rfl) ?_
  refine lv_iconst (v := nI 2) hx hb dL_law_594 (by decide) ?_
  refine k_iadd hx hb dL_law_595 ?_
  refine k_sld hx hb hX hbl hbA hS (by omega) (by omega) dL_law_596 ?_
  refine kb_i (va_runV (As := [.int (xs (i + 1)), .int (xs (i + 2))]) (rest := [.int r1]) ⟨hx, hb, hml, hown, hts⟩ (qX5_forges u σ (xs (i + 1)) (xs (i + 2)) hu) (cwV 2 hts gL_law_X5_forges rfl rfl rfl hvX5_forges ⟨Nat.le_of_ble_eq_true rfl, Nat.le_of_ble_eq_true rfl⟩) (kpreV hN (q := (RX5, TX5, 35)) (ci := 5) hK (va_P_r hP) (va_D_r hD) 0 rfl hmc) rfl rfl hl.1 rfl (lv_room (Nat.le_of_ble_eq_true rfl)) dL_law_597 ⟨hC, hSS⟩) hP hD hS hA (fun r2 u1 H locs hr2 hP hD hS => ?_)
  replace hP := va_P_sw hP
  replace hD := va_D_sw hD
  refine lv_icmp_eq (tgt := 1338) hx hb dL_law_600 (by decide) (fun _ => ?_) (fun c9 => absurd (hr1.1.trans hr2.1.symm) c9)
  exact hk v1 u1 _ H locs ls hr1.2.1 hr2.2.1 hr1.2.2 hr2.2.2 hP hD hS hl

set_option maxHeartbeats 1000000 in
set_option maxRecDepth 100000 in
theorem law_c11 {p : Program} {l : Launch} {e : Env} {s : State} {m : MethodId} {below : List Frame} {meth : Method} {c : Code} {dC : Nat → ClassId} {dI : Nat → Nat → Nat} {cI cJ cZ cS : ClassId} {b L : Nat} {xs : Nat → Int32} (F : LawF p s m c b L xs) (hN : kN s) (hK : va_K (dC, dI) vwCl (kT cI cJ cZ cS) s) {i CC SS : Nat} {Q : State → Prop} (hC : CC + 0 ≤ room_1.cells) (hSS : SS + 0 ≤ room_1.slots) (hi : i + 6 ≤ L) (v : XV) (u : MV) (σ : SSt) (hv : XRel v σ) (hu : MRel u σ) {H : Heap} {locs : List Loc} (hP : va_P (dC, dI) vwCl (mC cI cZ u σ ++ xC cI cJ cZ cS v σ) H) (hD : va_D (lawA s) (mC cI cZ u σ ++ xC cI cJ cZ cS v σ)) (hS : va_S (lawA s) s.heap H locs) {ls : Array Slot} (hl : lv_has ls 4 [(0, .ref b), (1, .ref (xAdr v)), (2, .ref (mAdr u)), (3, .int (nI i))]) (hk : LawK p l e s m below meth c dC dI cI cJ cZ cS b (xAdr v) (mAdr u) i CC SS Q) : W p l e room_1 s m #[Value.ref b] below meth c H locs CC SS Q (F0 m 605 ls []) := by
  obtain ⟨hx, hb, hml, hown, hts, hX, hbl, hL⟩ := F
  have hA : ∀ q : Nat, s.heap.size ≤ q → lawA s q := fun _ h => h
  have hbA : ¬ lawA s b := Nat.not_le.mpr hbl
  obtain ⟨fx, hxc⟩ := xC_0 cI cJ cZ cS v σ
  obtain ⟨fm, hmc⟩ := mC_0 cI cZ u σ
  refine lv_aload_n hx hb dL_law_605 rfl (lv_at hl 1 rfl) ?_
  refine lv_aload_n hx hb dL_law_606 rfl (lv_at hl 0 rfl) ?_
  refine lv_iload_n hx hb dL_law_607 rfl (lv_at hl 3 rfl) ?_
  refine lv_iconst (v := nI 1) hx hb dL_law_608 (by decide) ?_
  refine k_iadd hx hb dL_law_609 ?_
  refine k_sld hx hb hX hbl hbA hS (by omega) (by omega) dL_law_610 ?_
  refine kb_i (va_runV (As := [.int (xs (i + 1))]) (rest := []) ⟨hx, hb, hml, hown, hts⟩ (qX4_works v σ (xs (i + 1)) hv) (cwV 1 hts gL_law_X4_works rfl rfl rfl hvX4_works ⟨Nat.le_of_ble_eq_true rfl, Nat.le_of_ble_eq_true rfl⟩) (kpreV hN (q := (RX4, TX4, 13)) (ci := 4) hK (va_P_r hP) (va_D_r hD) 0 rfl hxc) rfl rfl hl.1 rfl (lv_room (Nat.le_of_ble_eq_true rfl)) dL_law_611 ⟨hC, hSS⟩) hP hD hS hA (fun r1 v1 H locs hr1 hP hD hS => ?_)
  replace hP := va_P_sw hP
  replace hD := va_D_sw hD
  refine lv_aload_n hx hb dL_law_614 rfl (lv_at hl 2 rfl) ?_
  refine lv_aload_n hx hb dL_law_615 rfl (lv_at hl 0 rfl) ?_
  refine lv_iload_n hx hb dL_law_616 rfl (lv_at hl 3 rfl) ?_
  refine lv_iconst (v := nI 1) hx hb dL_law_617 (by decide) ?_
  refine k_iadd hx hb dL_law_618 ?_
  refine k_sld hx hb hX hbl hbA hS (by omega) (by omega) dL_law_619 ?_
  refine kb_i (va_runV (As := [.int (xs (i + 1))]) (rest := [.int r1]) ⟨hx, hb, hml, hown, hts⟩ (qX5_works u σ (xs (i + 1)) hu) (cwV 1 hts gL_law_X5_works rfl rfl rfl hvX5_works ⟨Nat.le_of_ble_eq_true rfl, Nat.le_of_ble_eq_true rfl⟩) (kpreV hN (q := (RX5, TX5, 35)) (ci := 5) hK (va_P_r hP) (va_D_r hD) 0 rfl hmc) rfl rfl hl.1 rfl (lv_room (Nat.le_of_ble_eq_true rfl)) dL_law_620 ⟨hC, hSS⟩) hP hD hS hA (fun r2 u1 H locs hr2 hP hD hS => ?_)
  replace hP := va_P_sw hP
  replace hD := va_D_sw hD
  refine lv_icmp_eq (tgt := 1338) hx hb dL_law_623 (by decide) (fun _ => ?_) (fun c9 => absurd (hr1.1.trans hr2.1.symm) c9)
  exact hk v1 u1 _ H locs ls hr1.2.1 hr2.2.1 hr1.2.2 hr2.2.2 hP hD hS hl

set_option maxHeartbeats 1000000 in
set_option maxRecDepth 100000 in
theorem law_c12 {p : Program} {l : Launch} {e : Env} {s : State} {m : MethodId} {below : List Frame} {meth : Method} {c : Code} {dC : Nat → ClassId} {dI : Nat → Nat → Nat} {cI cJ cZ cS : ClassId} {b L : Nat} {xs : Nat → Int32} (F : LawF p s m c b L xs) (hN : kN s) (hK : va_K (dC, dI) vwCl (kT cI cJ cZ cS) s) {i CC SS : Nat} {Q : State → Prop} (hC : CC + 0 ≤ room_1.cells) (hSS : SS + 0 ≤ room_1.slots) (hi : i + 6 ≤ L) (v : XV) (u : MV) (σ : SSt) (hv : XRel v σ) (hu : MRel u σ) {H : Heap} {locs : List Loc} (hP : va_P (dC, dI) vwCl (mC cI cZ u σ ++ xC cI cJ cZ cS v σ) H) (hD : va_D (lawA s) (mC cI cZ u σ ++ xC cI cJ cZ cS v σ)) (hS : va_S (lawA s) s.heap H locs) {ls : Array Slot} (hl : lv_has ls 4 [(0, .ref b), (1, .ref (xAdr v)), (2, .ref (mAdr u)), (3, .int (nI i))]) (hk : LawK p l e s m below meth c dC dI cI cJ cZ cS b (xAdr v) (mAdr u) i CC SS Q) : W p l e room_1 s m #[Value.ref b] below meth c H locs CC SS Q (F0 m 628 ls []) := by
  obtain ⟨hx, hb, hml, hown, hts, hX, hbl, hL⟩ := F
  have hA : ∀ q : Nat, s.heap.size ≤ q → lawA s q := fun _ h => h
  have hbA : ¬ lawA s b := Nat.not_le.mpr hbl
  obtain ⟨fx, hxc⟩ := xC_0 cI cJ cZ cS v σ
  obtain ⟨fm, hmc⟩ := mC_0 cI cZ u σ
  refine lv_aload_n hx hb dL_law_628 rfl (lv_at hl 1 rfl) ?_
  refine lv_aload_n hx hb dL_law_629 rfl (lv_at hl 0 rfl) ?_
  refine lv_iload_n hx hb dL_law_630 rfl (lv_at hl 3 rfl) ?_
  refine lv_iconst (v := nI 1) hx hb dL_law_631 (by decide) ?_
  refine k_iadd hx hb dL_law_632 ?_
  refine k_sld hx hb hX hbl hbA hS (by omega) (by omega) dL_law_633 ?_
  refine lv_aload_n hx hb dL_law_634 rfl (lv_at hl 0 rfl) ?_
  refine lv_iload_n hx hb dL_law_635 rfl (lv_at hl 3 rfl) ?_
  refine lv_iconst (v := nI 2) hx hb dL_law_636 (by decide) ?_
  refine k_iadd hx hb dL_law_637 ?_
  refine k_sld hx hb hX hbl hbA hS (by omega) (by omega) dL_law_638 ?_
  refine lv_aload_n hx hb dL_law_639 rfl (lv_at hl 0 rfl) ?_
  refine lv_iload_n hx hb dL_law_640 rfl (lv_at hl 3 rfl) ?_
  refine lv_iconst (v := nI 3) hx hb dL_law_641 (by decide) ?_
  refine k_iadd hx hb dL_law_642 ?_
  refine k_sld hx hb hX hbl hbA hS (by omega) (by omega) dL_law_643 ?_
  refine kb_i (va_runV (As := [.int (xs (i + 1)), .int (xs (i + 2)), .int (xs (i + 3))]) (rest := []) ⟨hx, hb, hml, hown, hts⟩ (qX4_path v σ (xs (i + 1)) (xs (i + 2)) (xs (i + 3)) hv) (cwV 3 hts gL_law_X4_path rfl rfl rfl hvX4_path ⟨Nat.le_of_ble_eq_true rfl, Nat.le_of_ble_eq_true rfl⟩) (kpreV hN (q := (RX4, TX4, 13)) (ci := 4) hK (va_P_r hP) (va_D_r hD) 0 rfl hxc) rfl rfl hl.1 rfl (lv_room (Nat.le_of_ble_eq_true rfl)) dL_law_644 ⟨hC, hSS⟩) hP hD hS hA (fun r1 v1 H locs hr1 hP hD hS => ?_)
  replace hP := va_P_sw hP
  replace hD := va_D_sw hD
  refine lv_aload_n hx hb dL_law_647 rfl (lv_at hl 2 rfl) ?_
  refine lv_aload_n hx hb dL_law_648 rfl (lv_at hl 0 rfl) ?_
  refine lv_iload_n hx hb dL_law_649 rfl (lv_at hl 3 rfl) ?_
  refine lv_iconst (v := nI 1) hx hb dL_law_650 (by decide) ?_
  refine k_iadd hx hb dL_law_651 ?_
  refine k_sld hx hb hX hbl hbA hS (by omega) (by omega) dL_law_652 ?_
  refine lv_aload_n hx hb dL_law_653 rfl (lv_at hl 0 rfl) ?_
  refine lv_iload_n hx hb dL_law_654 rfl (lv_at hl 3 rfl) ?_
  refine lv_iconst (v := nI 2) hx hb dL_law_655 (by decide) ?_
  refine k_iadd hx hb dL_law_656 ?_
  refine k_sld hx hb hX hbl hbA hS (by omega) (by omega) dL_law_657 ?_
  refine lv_aload_n hx hb dL_law_658 rfl (lv_at hl 0 rfl) ?_
  refine lv_iload_n hx hb dL_law_659 rfl (lv_at hl 3 rfl) ?_
  refine lv_iconst (v := nI 3) hx hb dL_law_660 (by decide) ?_
  refine k_iadd hx hb dL_law_661 ?_
  refine k_sld hx hb hX hbl hbA hS (by omega) (by omega) dL_law_662 ?_
  refine kb_i (va_runV (As := [.int (xs (i + 1)), .int (xs (i + 2)), .int (xs (i + 3))]) (rest := [.int r1]) ⟨hx, hb, hml, hown, hts⟩ (qX5_path u σ (xs (i + 1)) (xs (i + 2)) (xs (i + 3)) hu) (cwV 3 hts gL_law_X5_path rfl rfl rfl hvX5_path ⟨Nat.le_of_ble_eq_true rfl, Nat.le_of_ble_eq_true rfl⟩) (kpreV hN (q := (RX5, TX5, 35)) (ci := 5) hK (va_P_r hP) (va_D_r hD) 0 rfl hmc) rfl rfl hl.1 rfl (lv_room (Nat.le_of_ble_eq_true rfl)) dL_law_663 ⟨hC, hSS⟩) hP hD hS hA (fun r2 u1 H locs hr2 hP hD hS => ?_)
  replace hP := va_P_sw hP
  replace hD := va_D_sw hD
  refine lv_icmp_eq (tgt := 1338) hx hb dL_law_666 (by decide) (fun _ => ?_) (fun c9 => absurd (hr1.1.trans hr2.1.symm) c9)
  exact hk v1 u1 _ H locs ls hr1.2.1 hr2.2.1 hr1.2.2 hr2.2.2 hP hD hS hl

set_option maxHeartbeats 1000000 in
set_option maxRecDepth 100000 in
theorem law_c13 {p : Program} {l : Launch} {e : Env} {s : State} {m : MethodId} {below : List Frame} {meth : Method} {c : Code} {dC : Nat → ClassId} {dI : Nat → Nat → Nat} {cI cJ cZ cS : ClassId} {b L : Nat} {xs : Nat → Int32} (F : LawF p s m c b L xs) (hN : kN s) (hK : va_K (dC, dI) vwCl (kT cI cJ cZ cS) s) {i CC SS : Nat} {Q : State → Prop} (hC : CC + 0 ≤ room_1.cells) (hSS : SS + 0 ≤ room_1.slots) (hi : i + 6 ≤ L) (v : XV) (u : MV) (σ : SSt) (hv : XRel v σ) (hu : MRel u σ) {H : Heap} {locs : List Loc} (hP : va_P (dC, dI) vwCl (mC cI cZ u σ ++ xC cI cJ cZ cS v σ) H) (hD : va_D (lawA s) (mC cI cZ u σ ++ xC cI cJ cZ cS v σ)) (hS : va_S (lawA s) s.heap H locs) {ls : Array Slot} (hl : lv_has ls 4 [(0, .ref b), (1, .ref (xAdr v)), (2, .ref (mAdr u)), (3, .int (nI i))]) (hk : LawK p l e s m below meth c dC dI cI cJ cZ cS b (xAdr v) (mAdr u) i CC SS Q) : W p l e room_1 s m #[Value.ref b] below meth c H locs CC SS Q (F0 m 671 ls []) := by
  obtain ⟨hx, hb, hml, hown, hts, hX, hbl, hL⟩ := F
  have hA : ∀ q : Nat, s.heap.size ≤ q → lawA s q := fun _ h => h
  have hbA : ¬ lawA s b := Nat.not_le.mpr hbl
  obtain ⟨fx, hxc⟩ := xC_0 cI cJ cZ cS v σ
  obtain ⟨fm, hmc⟩ := mC_0 cI cZ u σ
  refine lv_aload_n hx hb dL_law_671 rfl (lv_at hl 1 rfl) ?_
  refine lv_aload_n hx hb dL_law_672 rfl (lv_at hl 0 rfl) ?_
  refine lv_iload_n hx hb dL_law_673 rfl (lv_at hl 3 rfl) ?_
  refine lv_iconst (v := nI 1) hx hb dL_law_674 (by decide) ?_
  refine k_iadd hx hb dL_law_675 ?_
  refine k_sld hx hb hX hbl hbA hS (by omega) (by omega) dL_law_676 ?_
  refine lv_aload_n hx hb dL_law_677 rfl (lv_at hl 0 rfl) ?_
  refine lv_iload_n hx hb dL_law_678 rfl (lv_at hl 3 rfl) ?_
  refine lv_iconst (v := nI 2) hx hb dL_law_679 (by decide) ?_
  refine k_iadd hx hb dL_law_680 ?_
  refine k_sld hx hb hX hbl hbA hS (by omega) (by omega) dL_law_681 ?_
  refine lv_aload_n hx hb dL_law_682 rfl (lv_at hl 0 rfl) ?_
  refine lv_iload_n hx hb dL_law_683 rfl (lv_at hl 3 rfl) ?_
  refine lv_iconst (v := nI 3) hx hb dL_law_684 (by decide) ?_
  refine k_iadd hx hb dL_law_685 ?_
  refine k_sld hx hb hX hbl hbA hS (by omega) (by omega) dL_law_686 ?_
  refine kb_i (va_runV (As := [.int (xs (i + 1)), .int (xs (i + 2)), .int (xs (i + 3))]) (rest := []) ⟨hx, hb, hml, hown, hts⟩ (qX4_fewest v σ (xs (i + 1)) (xs (i + 2)) (xs (i + 3)) hv) (cwV 3 hts gL_law_X4_fewest rfl rfl rfl hvX4_fewest ⟨Nat.le_of_ble_eq_true rfl, Nat.le_of_ble_eq_true rfl⟩) (kpreV hN (q := (RX4, TX4, 13)) (ci := 4) hK (va_P_r hP) (va_D_r hD) 0 rfl hxc) rfl rfl hl.1 rfl (lv_room (Nat.le_of_ble_eq_true rfl)) dL_law_687 ⟨hC, hSS⟩) hP hD hS hA (fun r1 v1 H locs hr1 hP hD hS => ?_)
  replace hP := va_P_sw hP
  replace hD := va_D_sw hD
  refine lv_aload_n hx hb dL_law_690 rfl (lv_at hl 2 rfl) ?_
  refine lv_aload_n hx hb dL_law_691 rfl (lv_at hl 0 rfl) ?_
  refine lv_iload_n hx hb dL_law_692 rfl (lv_at hl 3 rfl) ?_
  refine lv_iconst (v := nI 1) hx hb dL_law_693 (by decide) ?_
  refine k_iadd hx hb dL_law_694 ?_
  refine k_sld hx hb hX hbl hbA hS (by omega) (by omega) dL_law_695 ?_
  refine lv_aload_n hx hb dL_law_696 rfl (lv_at hl 0 rfl) ?_
  refine lv_iload_n hx hb dL_law_697 rfl (lv_at hl 3 rfl) ?_
  refine lv_iconst (v := nI 2) hx hb dL_law_698 (by decide) ?_
  refine k_iadd hx hb dL_law_699 ?_
  refine k_sld hx hb hX hbl hbA hS (by omega) (by omega) dL_law_700 ?_
  refine lv_aload_n hx hb dL_law_701 rfl (lv_at hl 0 rfl) ?_
  refine lv_iload_n hx hb dL_law_702 rfl (lv_at hl 3 rfl) ?_
  refine lv_iconst (v := nI 3) hx hb dL_law_703 (by decide) ?_
  refine k_iadd hx hb dL_law_704 ?_
  refine k_sld hx hb hX hbl hbA hS (by omega) (by omega) dL_law_705 ?_
  refine kb_i (va_runV (As := [.int (xs (i + 1)), .int (xs (i + 2)), .int (xs (i + 3))]) (rest := [.int r1]) ⟨hx, hb, hml, hown, hts⟩ (qX5_fewest u σ (xs (i + 1)) (xs (i + 2)) (xs (i + 3)) hu) (cwV 3 hts gL_law_X5_fewest rfl rfl rfl hvX5_fewest ⟨Nat.le_of_ble_eq_true rfl, Nat.le_of_ble_eq_true rfl⟩) (kpreV hN (q := (RX5, TX5, 35)) (ci := 5) hK (va_P_r hP) (va_D_r hD) 0 rfl hmc) rfl rfl hl.1 rfl (lv_room (Nat.le_of_ble_eq_true rfl)) dL_law_706 ⟨hC, hSS⟩) hP hD hS hA (fun r2 u1 H locs hr2 hP hD hS => ?_)
  replace hP := va_P_sw hP
  replace hD := va_D_sw hD
  refine lv_icmp_eq (tgt := 1338) hx hb dL_law_709 (by decide) (fun _ => ?_) (fun c9 => absurd (hr1.1.trans hr2.1.symm) c9)
  exact hk v1 u1 _ H locs ls hr1.2.1 hr2.2.1 hr1.2.2 hr2.2.2 hP hD hS hl

set_option maxHeartbeats 1000000 in
set_option maxRecDepth 100000 in
theorem law_c14 {p : Program} {l : Launch} {e : Env} {s : State} {m : MethodId} {below : List Frame} {meth : Method} {c : Code} {dC : Nat → ClassId} {dI : Nat → Nat → Nat} {cI cJ cZ cS : ClassId} {b L : Nat} {xs : Nat → Int32} (F : LawF p s m c b L xs) (hN : kN s) (hK : va_K (dC, dI) vwCl (kT cI cJ cZ cS) s) {i CC SS : Nat} {Q : State → Prop} (hC : CC + 0 ≤ room_1.cells) (hSS : SS + 0 ≤ room_1.slots) (hi : i + 6 ≤ L) (v : XV) (u : MV) (σ : SSt) (hv : XRel v σ) (hu : MRel u σ) {H : Heap} {locs : List Loc} (hP : va_P (dC, dI) vwCl (mC cI cZ u σ ++ xC cI cJ cZ cS v σ) H) (hD : va_D (lawA s) (mC cI cZ u σ ++ xC cI cJ cZ cS v σ)) (hS : va_S (lawA s) s.heap H locs) {ls : Array Slot} (hl : lv_has ls 4 [(0, .ref b), (1, .ref (xAdr v)), (2, .ref (mAdr u)), (3, .int (nI i))]) (hk : LawK p l e s m below meth c dC dI cI cJ cZ cS b (xAdr v) (mAdr u) i CC SS Q) : W p l e room_1 s m #[Value.ref b] below meth c H locs CC SS Q (F0 m 714 ls []) := by
  obtain ⟨hx, hb, hml, hown, hts, hX, hbl, hL⟩ := F
  have hA : ∀ q : Nat, s.heap.size ≤ q → lawA s q := fun _ h => h
  have hbA : ¬ lawA s b := Nat.not_le.mpr hbl
  obtain ⟨fx, hxc⟩ := xC_0 cI cJ cZ cS v σ
  obtain ⟨fm, hmc⟩ := mC_0 cI cZ u σ
  refine lv_aload_n hx hb dL_law_714 rfl (lv_at hl 1 rfl) ?_
  refine lv_aload_n hx hb dL_law_715 rfl (lv_at hl 0 rfl) ?_
  refine lv_iload_n hx hb dL_law_716 rfl (lv_at hl 3 rfl) ?_
  refine lv_iconst (v := nI 1) hx hb dL_law_717 (by decide) ?_
  refine k_iadd hx hb dL_law_718 ?_
  refine k_sld hx hb hX hbl hbA hS (by omega) (by omega) dL_law_719 ?_
  refine lv_aload_n hx hb dL_law_720 rfl (lv_at hl 0 rfl) ?_
  refine lv_iload_n hx hb dL_law_721 rfl (lv_at hl 3 rfl) ?_
  refine lv_iconst (v := nI 2) hx hb dL_law_722 (by decide) ?_
  refine k_iadd hx hb dL_law_723 ?_
  refine k_sld hx hb hX hbl hbA hS (by omega) (by omega) dL_law_724 ?_
  refine lv_aload_n hx hb dL_law_725 rfl (lv_at hl 0 rfl) ?_
  refine lv_iload_n hx hb dL_law_726 rfl (lv_at hl 3 rfl) ?_
  refine lv_iconst (v := nI 3) hx hb dL_law_727 (by decide) ?_
  refine k_iadd hx hb dL_law_728 ?_
  refine k_sld hx hb hX hbl hbA hS (by omega) (by omega) dL_law_729 ?_
  refine kb_i (va_runV (As := [.int (xs (i + 1)), .int (xs (i + 2)), .int (xs (i + 3))]) (rest := []) ⟨hx, hb, hml, hown, hts⟩ (qX4_hushed v σ (xs (i + 1)) (xs (i + 2)) (xs (i + 3)) hv) (cwV 3 hts gL_law_X4_hushed rfl rfl rfl hvX4_hushed ⟨Nat.le_of_ble_eq_true rfl, Nat.le_of_ble_eq_true rfl⟩) (kpreV hN (q := (RX4, TX4, 13)) (ci := 4) hK (va_P_r hP) (va_D_r hD) 0 rfl hxc) rfl rfl hl.1 rfl (lv_room (Nat.le_of_ble_eq_true rfl)) dL_law_730 ⟨hC, hSS⟩) hP hD hS hA (fun r1 v1 H locs hr1 hP hD hS => ?_)
  replace hP := va_P_sw hP
  replace hD := va_D_sw hD
  refine lv_aload_n hx hb dL_law_733 rfl (lv_at hl 2 rfl) ?_
  refine lv_aload_n hx hb dL_law_734 rfl (lv_at hl 0 rfl) ?_
  refine lv_iload_n hx hb dL_law_735 rfl (lv_at hl 3 rfl) ?_
  refine lv_iconst (v := nI 1) hx hb dL_law_736 (by decide) ?_
  refine k_iadd hx hb dL_law_737 ?_
  refine k_sld hx hb hX hbl hbA hS (by omega) (by omega) dL_law_738 ?_
  refine lv_aload_n hx hb dL_law_739 rfl (lv_at hl 0 rfl) ?_
  refine lv_iload_n hx hb dL_law_740 rfl (lv_at hl 3 rfl) ?_
  refine lv_iconst (v := nI 2) hx hb dL_law_741 (by decide) ?_
  refine k_iadd hx hb dL_law_742 ?_
  refine k_sld hx hb hX hbl hbA hS (by omega) (by omega) dL_law_743 ?_
  refine lv_aload_n hx hb dL_law_744 rfl (lv_at hl 0 rfl) ?_
  refine lv_iload_n hx hb dL_law_745 rfl (lv_at hl 3 rfl) ?_
  refine lv_iconst (v := nI 3) hx hb dL_law_746 (by decide) ?_
  refine k_iadd hx hb dL_law_747 ?_
  refine k_sld hx hb hX hbl hbA hS (by omega) (by omega) dL_law_748 ?_
  refine kb_i (va_runV (As := [.int (xs (i + 1)), .int (xs (i + 2)), .int (xs (i + 3))]) (rest := [.int r1]) ⟨hx, hb, hml, hown, hts⟩ (qX5_hushed u σ (xs (i + 1)) (xs (i + 2)) (xs (i + 3)) hu) (cwV 3 hts gL_law_X5_hushed rfl rfl rfl hvX5_hushed ⟨Nat.le_of_ble_eq_true rfl, Nat.le_of_ble_eq_true rfl⟩) (kpreV hN (q := (RX5, TX5, 35)) (ci := 5) hK (va_P_r hP) (va_D_r hD) 0 rfl hmc) rfl rfl hl.1 rfl (lv_room (Nat.le_of_ble_eq_true rfl)) dL_law_749 ⟨hC, hSS⟩) hP hD hS hA (fun r2 u1 H locs hr2 hP hD hS => ?_)
  replace hP := va_P_sw hP
  replace hD := va_D_sw hD
  refine lv_icmp_eq (tgt := 1338) hx hb dL_law_752 (by decide) (fun _ => ?_) (fun c9 => absurd (hr1.1.trans hr2.1.symm) c9)
  exact hk v1 u1 _ H locs ls hr1.2.1 hr2.2.1 hr1.2.2 hr2.2.2 hP hD hS hl

set_option maxHeartbeats 1000000 in
set_option maxRecDepth 100000 in
theorem law_c15 {p : Program} {l : Launch} {e : Env} {s : State} {m : MethodId} {below : List Frame} {meth : Method} {c : Code} {dC : Nat → ClassId} {dI : Nat → Nat → Nat} {cI cJ cZ cS : ClassId} {b L : Nat} {xs : Nat → Int32} (F : LawF p s m c b L xs) (hN : kN s) (hK : va_K (dC, dI) vwCl (kT cI cJ cZ cS) s) {i CC SS : Nat} {Q : State → Prop} (hC : CC + 0 ≤ room_1.cells) (hSS : SS + 0 ≤ room_1.slots) (hi : i + 6 ≤ L) (v : XV) (u : MV) (σ : SSt) (hv : XRel v σ) (hu : MRel u σ) {H : Heap} {locs : List Loc} (hP : va_P (dC, dI) vwCl (mC cI cZ u σ ++ xC cI cJ cZ cS v σ) H) (hD : va_D (lawA s) (mC cI cZ u σ ++ xC cI cJ cZ cS v σ)) (hS : va_S (lawA s) s.heap H locs) {ls : Array Slot} (hl : lv_has ls 4 [(0, .ref b), (1, .ref (xAdr v)), (2, .ref (mAdr u)), (3, .int (nI i))]) (hk : LawK p l e s m below meth c dC dI cI cJ cZ cS b (xAdr v) (mAdr u) i CC SS Q) : W p l e room_1 s m #[Value.ref b] below meth c H locs CC SS Q (F0 m 757 ls []) := by
  obtain ⟨hx, hb, hml, hown, hts, hX, hbl, hL⟩ := F
  have hA : ∀ q : Nat, s.heap.size ≤ q → lawA s q := fun _ h => h
  have hbA : ¬ lawA s b := Nat.not_le.mpr hbl
  obtain ⟨fx, hxc⟩ := xC_0 cI cJ cZ cS v σ
  obtain ⟨fm, hmc⟩ := mC_0 cI cZ u σ
  refine lv_aload_n hx hb dL_law_757 rfl (lv_at hl 1 rfl) ?_
  refine lv_aload_n hx hb dL_law_758 rfl (lv_at hl 0 rfl) ?_
  refine lv_iload_n hx hb dL_law_759 rfl (lv_at hl 3 rfl) ?_
  refine lv_iconst (v := nI 1) hx hb dL_law_760 (by decide) ?_
  refine k_iadd hx hb dL_law_761 ?_
  refine k_sld hx hb hX hbl hbA hS (by omega) (by omega) dL_law_762 ?_
  refine kb_i (va_runV (As := [.int (xs (i + 1))]) (rest := []) ⟨hx, hb, hml, hown, hts⟩ (qX4_worth v σ (xs (i + 1)) hv) (cwV 1 hts gL_law_X4_worth rfl rfl rfl hvX4_worth ⟨Nat.le_of_ble_eq_true rfl, Nat.le_of_ble_eq_true rfl⟩) (kpreV hN (q := (RX4, TX4, 13)) (ci := 4) hK (va_P_r hP) (va_D_r hD) 0 rfl hxc) rfl rfl hl.1 rfl (lv_room (Nat.le_of_ble_eq_true rfl)) dL_law_763 ⟨hC, hSS⟩) hP hD hS hA (fun r1 v1 H locs hr1 hP hD hS => ?_)
  replace hP := va_P_sw hP
  replace hD := va_D_sw hD
  refine lv_aload_n hx hb dL_law_766 rfl (lv_at hl 2 rfl) ?_
  refine lv_aload_n hx hb dL_law_767 rfl (lv_at hl 0 rfl) ?_
  refine lv_iload_n hx hb dL_law_768 rfl (lv_at hl 3 rfl) ?_
  refine lv_iconst (v := nI 1) hx hb dL_law_769 (by decide) ?_
  refine k_iadd hx hb dL_law_770 ?_
  refine k_sld hx hb hX hbl hbA hS (by omega) (by omega) dL_law_771 ?_
  refine kb_i (va_runV (As := [.int (xs (i + 1))]) (rest := [.int r1]) ⟨hx, hb, hml, hown, hts⟩ (qX5_worth u σ (xs (i + 1)) hu) (cwV 1 hts gL_law_X5_worth rfl rfl rfl hvX5_worth ⟨Nat.le_of_ble_eq_true rfl, Nat.le_of_ble_eq_true rfl⟩) (kpreV hN (q := (RX5, TX5, 35)) (ci := 5) hK (va_P_r hP) (va_D_r hD) 0 rfl hmc) rfl rfl hl.1 rfl (lv_room (Nat.le_of_ble_eq_true rfl)) dL_law_772 ⟨hC, hSS⟩) hP hD hS hA (fun r2 u1 H locs hr2 hP hD hS => ?_)
  replace hP := va_P_sw hP
  replace hD := va_D_sw hD
  refine lv_icmp_eq (tgt := 1338) hx hb dL_law_775 (by decide) (fun _ => ?_) (fun c9 => absurd (hr1.1.trans hr2.1.symm) c9)
  exact hk v1 u1 _ H locs ls hr1.2.1 hr2.2.1 hr1.2.2 hr2.2.2 hP hD hS hl

set_option maxHeartbeats 1000000 in
set_option maxRecDepth 100000 in
theorem law_c16 {p : Program} {l : Launch} {e : Env} {s : State} {m : MethodId} {below : List Frame} {meth : Method} {c : Code} {dC : Nat → ClassId} {dI : Nat → Nat → Nat} {cI cJ cZ cS : ClassId} {b L : Nat} {xs : Nat → Int32} (F : LawF p s m c b L xs) (hN : kN s) (hK : va_K (dC, dI) vwCl (kT cI cJ cZ cS) s) {i CC SS : Nat} {Q : State → Prop} (hC : CC + 0 ≤ room_1.cells) (hSS : SS + 0 ≤ room_1.slots) (hi : i + 6 ≤ L) (v : XV) (u : MV) (σ : SSt) (hv : XRel v σ) (hu : MRel u σ) {H : Heap} {locs : List Loc} (hP : va_P (dC, dI) vwCl (mC cI cZ u σ ++ xC cI cJ cZ cS v σ) H) (hD : va_D (lawA s) (mC cI cZ u σ ++ xC cI cJ cZ cS v σ)) (hS : va_S (lawA s) s.heap H locs) {ls : Array Slot} (hl : lv_has ls 4 [(0, .ref b), (1, .ref (xAdr v)), (2, .ref (mAdr u)), (3, .int (nI i))]) (hk : LawK p l e s m below meth c dC dI cI cJ cZ cS b (xAdr v) (mAdr u) i CC SS Q) : W p l e room_1 s m #[Value.ref b] below meth c H locs CC SS Q (F0 m 780 ls []) := by
  obtain ⟨hx, hb, hml, hown, hts, hX, hbl, hL⟩ := F
  have hA : ∀ q : Nat, s.heap.size ≤ q → lawA s q := fun _ h => h
  have hbA : ¬ lawA s b := Nat.not_le.mpr hbl
  obtain ⟨fx, hxc⟩ := xC_0 cI cJ cZ cS v σ
  obtain ⟨fm, hmc⟩ := mC_0 cI cZ u σ
  refine lv_aload_n hx hb dL_law_780 rfl (lv_at hl 1 rfl) ?_
  refine kb_i (va_runV (As := []) (rest := []) ⟨hx, hb, hml, hown, hts⟩ (qX4_spare v σ  hv) (cwV 0 hts gL_law_X4_spare rfl rfl rfl hvX4_spare ⟨Nat.le_of_ble_eq_true rfl, Nat.le_of_ble_eq_true rfl⟩) (kpreV hN (q := (RX4, TX4, 13)) (ci := 4) hK (va_P_r hP) (va_D_r hD) 0 rfl hxc) rfl rfl hl.1 rfl (lv_room (Nat.le_of_ble_eq_true rfl)) dL_law_781 ⟨hC, hSS⟩) hP hD hS hA (fun r1 v1 H locs hr1 hP hD hS => ?_)
  replace hP := va_P_sw hP
  replace hD := va_D_sw hD
  refine lv_aload_n hx hb dL_law_784 rfl (lv_at hl 2 rfl) ?_
  refine kb_i (va_runV (As := []) (rest := [.int r1]) ⟨hx, hb, hml, hown, hts⟩ (qX5_spare u σ  hu) (cwV 0 hts gL_law_X5_spare rfl rfl rfl hvX5_spare ⟨Nat.le_of_ble_eq_true rfl, Nat.le_of_ble_eq_true rfl⟩) (kpreV hN (q := (RX5, TX5, 35)) (ci := 5) hK (va_P_r hP) (va_D_r hD) 0 rfl hmc) rfl rfl hl.1 rfl (lv_room (Nat.le_of_ble_eq_true rfl)) dL_law_785 ⟨hC, hSS⟩) hP hD hS hA (fun r2 u1 H locs hr2 hP hD hS => ?_)
  replace hP := va_P_sw hP
  replace hD := va_D_sw hD
  refine lv_icmp_eq (tgt := 1338) hx hb dL_law_788 (by decide) (fun _ => ?_) (fun c9 => absurd (hr1.1.trans hr2.1.symm) c9)
  exact hk v1 u1 _ H locs ls hr1.2.1 hr2.2.1 hr1.2.2 hr2.2.2 hP hD hS hl

set_option maxHeartbeats 1000000 in
set_option maxRecDepth 100000 in
theorem law_c17 {p : Program} {l : Launch} {e : Env} {s : State} {m : MethodId} {below : List Frame} {meth : Method} {c : Code} {dC : Nat → ClassId} {dI : Nat → Nat → Nat} {cI cJ cZ cS : ClassId} {b L : Nat} {xs : Nat → Int32} (F : LawF p s m c b L xs) (hN : kN s) (hK : va_K (dC, dI) vwCl (kT cI cJ cZ cS) s) {i CC SS : Nat} {Q : State → Prop} (hC : CC + 0 ≤ room_1.cells) (hSS : SS + 0 ≤ room_1.slots) (hi : i + 6 ≤ L) (v : XV) (u : MV) (σ : SSt) (hv : XRel v σ) (hu : MRel u σ) {H : Heap} {locs : List Loc} (hP : va_P (dC, dI) vwCl (mC cI cZ u σ ++ xC cI cJ cZ cS v σ) H) (hD : va_D (lawA s) (mC cI cZ u σ ++ xC cI cJ cZ cS v σ)) (hS : va_S (lawA s) s.heap H locs) {ls : Array Slot} (hl : lv_has ls 4 [(0, .ref b), (1, .ref (xAdr v)), (2, .ref (mAdr u)), (3, .int (nI i))]) (hk : LawK p l e s m below meth c dC dI cI cJ cZ cS b (xAdr v) (mAdr u) i CC SS Q) : W p l e room_1 s m #[Value.ref b] below meth c H locs CC SS Q (F0 m 793 ls []) := by
  obtain ⟨hx, hb, hml, hown, hts, hX, hbl, hL⟩ := F
  have hA : ∀ q : Nat, s.heap.size ≤ q → lawA s q := fun _ h => h
  have hbA : ¬ lawA s b := Nat.not_le.mpr hbl
  obtain ⟨fx, hxc⟩ := xC_0 cI cJ cZ cS v σ
  obtain ⟨fm, hmc⟩ := mC_0 cI cZ u σ
  refine lv_aload_n hx hb dL_law_793 rfl (lv_at hl 1 rfl) ?_
  refine lv_aload_n hx hb dL_law_794 rfl (lv_at hl 0 rfl) ?_
  refine lv_iload_n hx hb dL_law_795 rfl (lv_at hl 3 rfl) ?_
  refine lv_iconst (v := nI 1) hx hb dL_law_796 (by decide) ?_
  refine k_iadd hx hb dL_law_797 ?_
  refine k_sld hx hb hX hbl hbA hS (by omega) (by omega) dL_law_798 ?_
  refine lv_aload_n hx hb dL_law_799 rfl (lv_at hl 0 rfl) ?_
  refine lv_iload_n hx hb dL_law_800 rfl (lv_at hl 3 rfl) ?_
  refine lv_iconst (v := nI 2) hx hb dL_law_801 (by decide) ?_
  refine k_iadd hx hb dL_law_802 ?_
  refine k_sld hx hb hX hbl hbA hS (by omega) (by omega) dL_law_803 ?_
  refine lv_aload_n hx hb dL_law_804 rfl (lv_at hl 0 rfl) ?_
  refine lv_iload_n hx hb dL_law_805 rfl (lv_at hl 3 rfl) ?_
  refine lv_iconst (v := nI 3) hx hb dL_law_806 (by decide) ?_
  refine k_iadd hx hb dL_law_807 ?_
  refine k_sld hx hb hX hbl hbA hS (by omega) (by omega) dL_law_808 ?_
  refine lv_aload_n hx hb dL_law_809 rfl (lv_at hl 0 rfl) ?_
  refine lv_iload_n hx hb dL_law_810 rfl (lv_at hl 3 rfl) ?_
  refine lv_iconst (v := nI 4) hx hb dL_law_811 (by decide) ?_
  refine k_iadd hx hb dL_law_812 ?_
  refine k_sld hx hb hX hbl hbA hS (by omega) (by omega) dL_law_813 ?_
  refine lv_if_eq (tgt := 821) hx hb dL_law_814 (by decide) (fun c1 => ?_) (fun c1 => ?_)
  · refine lv_iconst (v := nI 0) hx hb dL_law_821 (by decide) ?_
    refine k_cast (y := kb false) rfl ?_
    refine kb_i (va_runV (As := [.int (xs (i + 1)), .int (xs (i + 2)), .int (xs (i + 3)), .int (kb false)]) (rest := []) ⟨hx, hb, hml, hown, hts⟩ (qX4_reading v σ (xs (i + 1)) (xs (i + 2)) (xs (i + 3)) false hv) (cwV 4 hts gL_law_X4_reading rfl rfl rfl hvX4_reading ⟨Nat.le_of_ble_eq_true rfl, Nat.le_of_ble_eq_true rfl⟩) (kpreV hN (q := (RX4, TX4, 13)) (ci := 4) hK (va_P_r hP) (va_D_r hD) 0 rfl hxc) rfl rfl hl.1 rfl (lv_room (Nat.le_of_ble_eq_true rfl)) dL_law_822 ⟨hC, hSS⟩) hP hD hS hA (fun r1 v1 H locs hr1 hP hD hS => ?_)
    replace hP := va_P_sw hP
    replace hD := va_D_sw hD
    refine lv_aload_n hx hb dL_law_825 rfl (lv_at hl 2 rfl) ?_
    refine lv_aload_n hx hb dL_law_826 rfl (lv_at hl 0 rfl) ?_
    refine lv_iload_n hx hb dL_law_827 rfl (lv_at hl 3 rfl) ?_
    refine lv_iconst (v := nI 1) hx hb dL_law_828 (by decide) ?_
    refine k_iadd hx hb dL_law_829 ?_
    refine k_sld hx hb hX hbl hbA hS (by omega) (by omega) dL_law_830 ?_
    refine lv_aload_n hx hb dL_law_831 rfl (lv_at hl 0 rfl) ?_
    refine lv_iload_n hx hb dL_law_832 rfl (lv_at hl 3 rfl) ?_
    refine lv_iconst (v := nI 2) hx hb dL_law_833 (by decide) ?_
    refine k_iadd hx hb dL_law_834 ?_
    refine k_sld hx hb hX hbl hbA hS (by omega) (by omega) dL_law_835 ?_
    refine lv_aload_n hx hb dL_law_836 rfl (lv_at hl 0 rfl) ?_
    refine lv_iload_n hx hb dL_law_837 rfl (lv_at hl 3 rfl) ?_
    refine lv_iconst (v := nI 3) hx hb dL_law_838 (by decide) ?_
    refine k_iadd hx hb dL_law_839 ?_
    refine k_sld hx hb hX hbl hbA hS (by omega) (by omega) dL_law_840 ?_
    refine lv_aload_n hx hb dL_law_841 rfl (lv_at hl 0 rfl) ?_
    refine lv_iload_n hx hb dL_law_842 rfl (lv_at hl 3 rfl) ?_
    refine lv_iconst (v := nI 4) hx hb dL_law_843 (by decide) ?_
    refine k_iadd hx hb dL_law_844 ?_
    refine k_sld hx hb hX hbl hbA hS (by omega) (by omega) dL_law_845 ?_
    refine lv_if_eq (tgt := 853) hx hb dL_law_846 (by decide) (fun _ => ?_) (fun c2 => absurd c1 c2)
    refine lv_iconst (v := nI 0) hx hb dL_law_853 (by decide) ?_
    refine k_cast (y := kb false) rfl ?_
    refine kb_i (va_runV (As := [.int (xs (i + 1)), .int (xs (i + 2)), .int (xs (i + 3)), .int (kb false)]) (rest := [.int r1]) ⟨hx, hb, hml, hown, hts⟩ (qX5_reading u σ (xs (i + 1)) (xs (i + 2)) (xs (i + 3)) false hu) (cwV 4 hts gL_law_X5_reading rfl rfl rfl hvX5_reading ⟨Nat.le_of_ble_eq_true rfl, Nat.le_of_ble_eq_true rfl⟩) (kpreV hN (q := (RX5, TX5, 35)) (ci := 5) hK (va_P_r hP) (va_D_r hD) 0 rfl hmc) rfl rfl hl.1 rfl (lv_room (Nat.le_of_ble_eq_true rfl)) dL_law_854 ⟨hC, hSS⟩) hP hD hS hA (fun r2 u1 H locs hr2 hP hD hS => ?_)
    replace hP := va_P_sw hP
    replace hD := va_D_sw hD
    refine lv_icmp_eq (tgt := 1338) hx hb dL_law_857 (by decide) (fun _ => ?_) (fun c9 => absurd (hr1.1.trans hr2.1.symm) c9)
    exact hk v1 u1 _ H locs ls hr1.2.1 hr2.2.1 hr1.2.2 hr2.2.2 hP hD hS hl
  · refine lv_iconst (v := nI 1) hx hb dL_law_817 (by decide) ?_
    refine lv_goto (tgt := 822) hx hb dL_law_818 (by decide) ?_
    refine k_cast (y := kb true) rfl ?_
    refine kb_i (va_runV (As := [.int (xs (i + 1)), .int (xs (i + 2)), .int (xs (i + 3)), .int (kb true)]) (rest := []) ⟨hx, hb, hml, hown, hts⟩ (qX4_reading v σ (xs (i + 1)) (xs (i + 2)) (xs (i + 3)) true hv) (cwV 4 hts gL_law_X4_reading rfl rfl rfl hvX4_reading ⟨Nat.le_of_ble_eq_true rfl, Nat.le_of_ble_eq_true rfl⟩) (kpreV hN (q := (RX4, TX4, 13)) (ci := 4) hK (va_P_r hP) (va_D_r hD) 0 rfl hxc) rfl rfl hl.1 rfl (lv_room (Nat.le_of_ble_eq_true rfl)) dL_law_822 ⟨hC, hSS⟩) hP hD hS hA (fun r1 v1 H locs hr1 hP hD hS => ?_)
    replace hP := va_P_sw hP
    replace hD := va_D_sw hD
    refine lv_aload_n hx hb dL_law_825 rfl (lv_at hl 2 rfl) ?_
    refine lv_aload_n hx hb dL_law_826 rfl (lv_at hl 0 rfl) ?_
    refine lv_iload_n hx hb dL_law_827 rfl (lv_at hl 3 rfl) ?_
    refine lv_iconst (v := nI 1) hx hb dL_law_828 (by decide) ?_
    refine k_iadd hx hb dL_law_829 ?_
    refine k_sld hx hb hX hbl hbA hS (by omega) (by omega) dL_law_830 ?_
    refine lv_aload_n hx hb dL_law_831 rfl (lv_at hl 0 rfl) ?_
    refine lv_iload_n hx hb dL_law_832 rfl (lv_at hl 3 rfl) ?_
    refine lv_iconst (v := nI 2) hx hb dL_law_833 (by decide) ?_
    refine k_iadd hx hb dL_law_834 ?_
    refine k_sld hx hb hX hbl hbA hS (by omega) (by omega) dL_law_835 ?_
    refine lv_aload_n hx hb dL_law_836 rfl (lv_at hl 0 rfl) ?_
    refine lv_iload_n hx hb dL_law_837 rfl (lv_at hl 3 rfl) ?_
    refine lv_iconst (v := nI 3) hx hb dL_law_838 (by decide) ?_
    refine k_iadd hx hb dL_law_839 ?_
    refine k_sld hx hb hX hbl hbA hS (by omega) (by omega) dL_law_840 ?_
    refine lv_aload_n hx hb dL_law_841 rfl (lv_at hl 0 rfl) ?_
    refine lv_iload_n hx hb dL_law_842 rfl (lv_at hl 3 rfl) ?_
    refine lv_iconst (v := nI 4) hx hb dL_law_843 (by decide) ?_
    refine k_iadd hx hb dL_law_844 ?_
    refine k_sld hx hb hX hbl hbA hS (by omega) (by omega) dL_law_845 ?_
    refine lv_if_eq (tgt := 853) hx hb dL_law_846 (by decide) (fun c2 => absurd c2 c1) (fun _ => ?_)
    refine lv_iconst (v := nI 1) hx hb dL_law_849 (by decide) ?_
    refine lv_goto (tgt := 854) hx hb dL_law_850 (by decide) ?_
    refine k_cast (y := kb true) rfl ?_
    refine kb_i (va_runV (As := [.int (xs (i + 1)), .int (xs (i + 2)), .int (xs (i + 3)), .int (kb true)]) (rest := [.int r1]) ⟨hx, hb, hml, hown, hts⟩ (qX5_reading u σ (xs (i + 1)) (xs (i + 2)) (xs (i + 3)) true hu) (cwV 4 hts gL_law_X5_reading rfl rfl rfl hvX5_reading ⟨Nat.le_of_ble_eq_true rfl, Nat.le_of_ble_eq_true rfl⟩) (kpreV hN (q := (RX5, TX5, 35)) (ci := 5) hK (va_P_r hP) (va_D_r hD) 0 rfl hmc) rfl rfl hl.1 rfl (lv_room (Nat.le_of_ble_eq_true rfl)) dL_law_854 ⟨hC, hSS⟩) hP hD hS hA (fun r2 u1 H locs hr2 hP hD hS => ?_)
    replace hP := va_P_sw hP
    replace hD := va_D_sw hD
    refine lv_icmp_eq (tgt := 1338) hx hb dL_law_857 (by decide) (fun _ => ?_) (fun c9 => absurd (hr1.1.trans hr2.1.symm) c9)
    exact hk v1 u1 _ H locs ls hr1.2.1 hr2.2.1 hr1.2.2 hr2.2.2 hP hD hS hl

set_option maxHeartbeats 1000000 in
set_option maxRecDepth 100000 in
theorem law_c18 {p : Program} {l : Launch} {e : Env} {s : State} {m : MethodId} {below : List Frame} {meth : Method} {c : Code} {dC : Nat → ClassId} {dI : Nat → Nat → Nat} {cI cJ cZ cS : ClassId} {b L : Nat} {xs : Nat → Int32} (F : LawF p s m c b L xs) (hN : kN s) (hK : va_K (dC, dI) vwCl (kT cI cJ cZ cS) s) {i CC SS : Nat} {Q : State → Prop} (hC : CC + 0 ≤ room_1.cells) (hSS : SS + 0 ≤ room_1.slots) (hi : i + 6 ≤ L) (v : XV) (u : MV) (σ : SSt) (hv : XRel v σ) (hu : MRel u σ) {H : Heap} {locs : List Loc} (hP : va_P (dC, dI) vwCl (mC cI cZ u σ ++ xC cI cJ cZ cS v σ) H) (hD : va_D (lawA s) (mC cI cZ u σ ++ xC cI cJ cZ cS v σ)) (hS : va_S (lawA s) s.heap H locs) {ls : Array Slot} (hl : lv_has ls 4 [(0, .ref b), (1, .ref (xAdr v)), (2, .ref (mAdr u)), (3, .int (nI i))]) (hk : LawK p l e s m below meth c dC dI cI cJ cZ cS b (xAdr v) (mAdr u) i CC SS Q) : W p l e room_1 s m #[Value.ref b] below meth c H locs CC SS Q (F0 m 862 ls []) := by
  obtain ⟨hx, hb, hml, hown, hts, hX, hbl, hL⟩ := F
  have hA : ∀ q : Nat, s.heap.size ≤ q → lawA s q := fun _ h => h
  have hbA : ¬ lawA s b := Nat.not_le.mpr hbl
  obtain ⟨fx, hxc⟩ := xC_0 cI cJ cZ cS v σ
  obtain ⟨fm, hmc⟩ := mC_0 cI cZ u σ
  refine lv_aload_n hx hb dL_law_862 rfl (lv_at hl 1 rfl) ?_
  refine lv_aload_n hx hb dL_law_863 rfl (lv_at hl 0 rfl) ?_
  refine lv_iload_n hx hb dL_law_864 rfl (lv_at hl 3 rfl) ?_
  refine lv_iconst (v := nI 1) hx hb dL_law_865 (by decide) ?_
  refine k_iadd hx hb dL_law_866 ?_
  refine k_sld hx hb hX hbl hbA hS (by omega) (by omega) dL_law_867 ?_
  refine kb_i (va_runV (As := [.int (xs (i + 1))]) (rest := []) ⟨hx, hb, hml, hown, hts⟩ (qX4_back v σ (xs (i + 1)) hv) (cwV 1 hts gL_law_X4_back rfl rfl rfl hvX4_back ⟨Nat.le_of_ble_eq_true rfl, Nat.le_of_ble_eq_true rfl⟩) (kpreV hN (q := (RX4, TX4, 13)) (ci := 4) hK (va_P_r hP) (va_D_r hD) 0 rfl hxc) rfl rfl hl.1 rfl (lv_room (Nat.le_of_ble_eq_true rfl)) dL_law_868 ⟨hC, hSS⟩) hP hD hS hA (fun r1 v1 H locs hr1 hP hD hS => ?_)
  replace hP := va_P_sw hP
  replace hD := va_D_sw hD
  refine lv_aload_n hx hb dL_law_871 rfl (lv_at hl 2 rfl) ?_
  refine lv_aload_n hx hb dL_law_872 rfl (lv_at hl 0 rfl) ?_
  refine lv_iload_n hx hb dL_law_873 rfl (lv_at hl 3 rfl) ?_
  refine lv_iconst (v := nI 1) hx hb dL_law_874 (by decide) ?_
  refine k_iadd hx hb dL_law_875 ?_
  refine k_sld hx hb hX hbl hbA hS (by omega) (by omega) dL_law_876 ?_
  refine kb_i (va_runV (As := [.int (xs (i + 1))]) (rest := [.int r1]) ⟨hx, hb, hml, hown, hts⟩ (qX5_back u σ (xs (i + 1)) hu) (cwV 1 hts gL_law_X5_back rfl rfl rfl hvX5_back ⟨Nat.le_of_ble_eq_true rfl, Nat.le_of_ble_eq_true rfl⟩) (kpreV hN (q := (RX5, TX5, 35)) (ci := 5) hK (va_P_r hP) (va_D_r hD) 0 rfl hmc) rfl rfl hl.1 rfl (lv_room (Nat.le_of_ble_eq_true rfl)) dL_law_877 ⟨hC, hSS⟩) hP hD hS hA (fun r2 u1 H locs hr2 hP hD hS => ?_)
  replace hP := va_P_sw hP
  replace hD := va_D_sw hD
  refine lv_icmp_eq (tgt := 1338) hx hb dL_law_880 (by decide) (fun _ => ?_) (fun c9 => absurd (hr1.1.trans hr2.1.symm) c9)
  exact hk v1 u1 _ H locs ls hr1.2.1 hr2.2.1 hr1.2.2 hr2.2.2 hP hD hS hl

set_option maxHeartbeats 1000000 in
set_option maxRecDepth 100000 in
theorem law_c19 {p : Program} {l : Launch} {e : Env} {s : State} {m : MethodId} {below : List Frame} {meth : Method} {c : Code} {dC : Nat → ClassId} {dI : Nat → Nat → Nat} {cI cJ cZ cS : ClassId} {b L : Nat} {xs : Nat → Int32} (F : LawF p s m c b L xs) (hN : kN s) (hK : va_K (dC, dI) vwCl (kT cI cJ cZ cS) s) {i CC SS : Nat} {Q : State → Prop} (hC : CC + 0 ≤ room_1.cells) (hSS : SS + 0 ≤ room_1.slots) (hi : i + 6 ≤ L) (v : XV) (u : MV) (σ : SSt) (hv : XRel v σ) (hu : MRel u σ) {H : Heap} {locs : List Loc} (hP : va_P (dC, dI) vwCl (mC cI cZ u σ ++ xC cI cJ cZ cS v σ) H) (hD : va_D (lawA s) (mC cI cZ u σ ++ xC cI cJ cZ cS v σ)) (hS : va_S (lawA s) s.heap H locs) {ls : Array Slot} (hl : lv_has ls 4 [(0, .ref b), (1, .ref (xAdr v)), (2, .ref (mAdr u)), (3, .int (nI i))]) (hk : LawK p l e s m below meth c dC dI cI cJ cZ cS b (xAdr v) (mAdr u) i CC SS Q) : W p l e room_1 s m #[Value.ref b] below meth c H locs CC SS Q (F0 m 885 ls []) := by
  obtain ⟨hx, hb, hml, hown, hts, hX, hbl, hL⟩ := F
  have hA : ∀ q : Nat, s.heap.size ≤ q → lawA s q := fun _ h => h
  have hbA : ¬ lawA s b := Nat.not_le.mpr hbl
  obtain ⟨fx, hxc⟩ := xC_0 cI cJ cZ cS v σ
  obtain ⟨fm, hmc⟩ := mC_0 cI cZ u σ
  refine lv_aload_n hx hb dL_law_885 rfl (lv_at hl 1 rfl) ?_
  refine lv_aload_n hx hb dL_law_886 rfl (lv_at hl 0 rfl) ?_
  refine lv_iload_n hx hb dL_law_887 rfl (lv_at hl 3 rfl) ?_
  refine lv_iconst (v := nI 1) hx hb dL_law_888 (by decide) ?_
  refine k_iadd hx hb dL_law_889 ?_
  refine k_sld hx hb hX hbl hbA hS (by omega) (by omega) dL_law_890 ?_
  refine lv_aload_n hx hb dL_law_891 rfl (lv_at hl 0 rfl) ?_
  refine lv_iload_n hx hb dL_law_892 rfl (lv_at hl 3 rfl) ?_
  refine lv_iconst (v := nI 2) hx hb dL_law_893 (by decide) ?_
  refine k_iadd hx hb dL_law_894 ?_
  refine k_sld hx hb hX hbl hbA hS (by omega) (by omega) dL_law_895 ?_
  refine kb_i (va_runV (As := [.int (xs (i + 1)), .int (xs (i + 2))]) (rest := []) ⟨hx, hb, hml, hown, hts⟩ (qX4_told v σ (xs (i + 1)) (xs (i + 2)) hv) (cwV 2 hts gL_law_X4_told rfl rfl rfl hvX4_told ⟨Nat.le_of_ble_eq_true rfl, Nat.le_of_ble_eq_true rfl⟩) (kpreV hN (q := (RX4, TX4, 13)) (ci := 4) hK (va_P_r hP) (va_D_r hD) 0 rfl hxc) rfl rfl hl.1 rfl (lv_room (Nat.le_of_ble_eq_true rfl)) dL_law_896 ⟨hC, hSS⟩) hP hD hS hA (fun r1 v1 H locs hr1 hP hD hS => ?_)
  replace hP := va_P_sw hP
  replace hD := va_D_sw hD
  refine lv_aload_n hx hb dL_law_899 rfl (lv_at hl 2 rfl) ?_
  refine lv_aload_n hx hb dL_law_900 rfl (lv_at hl 0 rfl) ?_
  refine lv_iload_n hx hb dL_law_901 rfl (lv_at hl 3 rfl) ?_
  refine lv_iconst (v := nI 1) hx hb dL_law_902 (by decide) ?_
  refine k_iadd hx hb dL_law_903 ?_
  refine k_sld hx hb hX hbl hbA hS (by omega) (by omega) dL_law_904 ?_
  refine lv_aload_n hx hb dL_law_905 rfl (lv_at hl 0 rfl) ?_
  refine lv_iload_n hx hb dL_law_906 rfl (lv_at hl 3 rfl) ?_
  refine lv_iconst (v := nI 2) hx hb dL_law_907 (by decide) ?_
  refine k_iadd hx hb dL_law_908 ?_
  refine k_sld hx hb hX hbl hbA hS (by omega) (by omega) dL_law_909 ?_
  refine kb_i (va_runV (As := [.int (xs (i + 1)), .int (xs (i + 2))]) (rest := [.int r1]) ⟨hx, hb, hml, hown, hts⟩ (qX5_told u σ (xs (i + 1)) (xs (i + 2)) hu) (cwV 2 hts gL_law_X5_told rfl rfl rfl hvX5_told ⟨Nat.le_of_ble_eq_true rfl, Nat.le_of_ble_eq_true rfl⟩) (kpreV hN (q := (RX5, TX5, 35)) (ci := 5) hK (va_P_r hP) (va_D_r hD) 0 rfl hmc) rfl rfl hl.1 rfl (lv_room (Nat.le_of_ble_eq_true rfl)) dL_law_910 ⟨hC, hSS⟩) hP hD hS hA (fun r2 u1 H locs hr2 hP hD hS => ?_)
  replace hP := va_P_sw hP
  replace hD := va_D_sw hD
  refine lv_icmp_eq (tgt := 1338) hx hb dL_law_913 (by decide) (fun _ => ?_) (fun c9 => absurd (hr1.1.trans hr2.1.symm) c9)
  exact hk v1 u1 _ H locs ls hr1.2.1 hr2.2.1 hr1.2.2 hr2.2.2 hP hD hS hl

set_option maxHeartbeats 1000000 in
set_option maxRecDepth 100000 in
theorem law_c20 {p : Program} {l : Launch} {e : Env} {s : State} {m : MethodId} {below : List Frame} {meth : Method} {c : Code} {dC : Nat → ClassId} {dI : Nat → Nat → Nat} {cI cJ cZ cS : ClassId} {b L : Nat} {xs : Nat → Int32} (F : LawF p s m c b L xs) (hN : kN s) (hK : va_K (dC, dI) vwCl (kT cI cJ cZ cS) s) {i CC SS : Nat} {Q : State → Prop} (hC : CC + 0 ≤ room_1.cells) (hSS : SS + 0 ≤ room_1.slots) (hi : i + 6 ≤ L) (v : XV) (u : MV) (σ : SSt) (hv : XRel v σ) (hu : MRel u σ) {H : Heap} {locs : List Loc} (hP : va_P (dC, dI) vwCl (mC cI cZ u σ ++ xC cI cJ cZ cS v σ) H) (hD : va_D (lawA s) (mC cI cZ u σ ++ xC cI cJ cZ cS v σ)) (hS : va_S (lawA s) s.heap H locs) {ls : Array Slot} (hl : lv_has ls 4 [(0, .ref b), (1, .ref (xAdr v)), (2, .ref (mAdr u)), (3, .int (nI i))]) (hk : LawK p l e s m below meth c dC dI cI cJ cZ cS b (xAdr v) (mAdr u) i CC SS Q) : W p l e room_1 s m #[Value.ref b] below meth c H locs CC SS Q (F0 m 918 ls []) := by
  obtain ⟨hx, hb, hml, hown, hts, hX, hbl, hL⟩ := F
  have hA : ∀ q : Nat, s.heap.size ≤ q → lawA s q := fun _ h => h
  have hbA : ¬ lawA s b := Nat.not_le.mpr hbl
  obtain ⟨fx, hxc⟩ := xC_0 cI cJ cZ cS v σ
  obtain ⟨fm, hmc⟩ := mC_0 cI cZ u σ
  refine lv_aload_n hx hb dL_law_918 rfl (lv_at hl 1 rfl) ?_
  refine kb_i (va_runV (As := []) (rest := []) ⟨hx, hb, hml, hown, hts⟩ (qX4_mute v σ  hv) (cwV 0 hts gL_law_X4_mute rfl rfl rfl hvX4_mute ⟨Nat.le_of_ble_eq_true rfl, Nat.le_of_ble_eq_true rfl⟩) (kpreV hN (q := (RX4, TX4, 13)) (ci := 4) hK (va_P_r hP) (va_D_r hD) 0 rfl hxc) rfl rfl hl.1 rfl (lv_room (Nat.le_of_ble_eq_true rfl)) dL_law_919 ⟨hC, hSS⟩) hP hD hS hA (fun r1 v1 H locs hr1 hP hD hS => ?_)
  replace hP := va_P_sw hP
  replace hD := va_D_sw hD
  refine lv_aload_n hx hb dL_law_922 rfl (lv_at hl 2 rfl) ?_
  refine kb_i (va_runV (As := []) (rest := [.int r1]) ⟨hx, hb, hml, hown, hts⟩ (qX5_mute u σ  hu) (cwV 0 hts gL_law_X5_mute rfl rfl rfl hvX5_mute ⟨Nat.le_of_ble_eq_true rfl, Nat.le_of_ble_eq_true rfl⟩) (kpreV hN (q := (RX5, TX5, 35)) (ci := 5) hK (va_P_r hP) (va_D_r hD) 0 rfl hmc) rfl rfl hl.1 rfl (lv_room (Nat.le_of_ble_eq_true rfl)) dL_law_923 ⟨hC, hSS⟩) hP hD hS hA (fun r2 u1 H locs hr2 hP hD hS => ?_)
  replace hP := va_P_sw hP
  replace hD := va_D_sw hD
  refine lv_icmp_eq (tgt := 1338) hx hb dL_law_926 (by decide) (fun _ => ?_) (fun c9 => absurd (hr1.1.trans hr2.1.symm) c9)
  exact hk v1 u1 _ H locs ls hr1.2.1 hr2.2.1 hr1.2.2 hr2.2.2 hP hD hS hl

set_option maxHeartbeats 1000000 in
set_option maxRecDepth 100000 in
theorem law_c21 {p : Program} {l : Launch} {e : Env} {s : State} {m : MethodId} {below : List Frame} {meth : Method} {c : Code} {dC : Nat → ClassId} {dI : Nat → Nat → Nat} {cI cJ cZ cS : ClassId} {b L : Nat} {xs : Nat → Int32} (F : LawF p s m c b L xs) (hN : kN s) (hK : va_K (dC, dI) vwCl (kT cI cJ cZ cS) s) {i CC SS : Nat} {Q : State → Prop} (hC : CC + 0 ≤ room_1.cells) (hSS : SS + 0 ≤ room_1.slots) (hi : i + 6 ≤ L) (v : XV) (u : MV) (σ : SSt) (hv : XRel v σ) (hu : MRel u σ) {H : Heap} {locs : List Loc} (hP : va_P (dC, dI) vwCl (mC cI cZ u σ ++ xC cI cJ cZ cS v σ) H) (hD : va_D (lawA s) (mC cI cZ u σ ++ xC cI cJ cZ cS v σ)) (hS : va_S (lawA s) s.heap H locs) {ls : Array Slot} (hl : lv_has ls 4 [(0, .ref b), (1, .ref (xAdr v)), (2, .ref (mAdr u)), (3, .int (nI i))]) (hk : LawK p l e s m below meth c dC dI cI cJ cZ cS b (xAdr v) (mAdr u) i CC SS Q) : W p l e room_1 s m #[Value.ref b] below meth c H locs CC SS Q (F0 m 931 ls []) := by
  obtain ⟨hx, hb, hml, hown, hts, hX, hbl, hL⟩ := F
  have hA : ∀ q : Nat, s.heap.size ≤ q → lawA s q := fun _ h => h
  have hbA : ¬ lawA s b := Nat.not_le.mpr hbl
  obtain ⟨fx, hxc⟩ := xC_0 cI cJ cZ cS v σ
  obtain ⟨fm, hmc⟩ := mC_0 cI cZ u σ
  refine lv_aload_n hx hb dL_law_931 rfl (lv_at hl 1 rfl) ?_
  refine lv_aload_n hx hb dL_law_932 rfl (lv_at hl 0 rfl) ?_
  refine lv_iload_n hx hb dL_law_933 rfl (lv_at hl 3 rfl) ?_
  refine lv_iconst (v := nI 1) hx hb dL_law_934 (by decide) ?_
  refine k_iadd hx hb dL_law_935 ?_
  refine k_sld hx hb hX hbl hbA hS (by omega) (by omega) dL_law_936 ?_
  refine lv_aload_n hx hb dL_law_937 rfl (lv_at hl 0 rfl) ?_
  refine lv_iload_n hx hb dL_law_938 rfl (lv_at hl 3 rfl) ?_
  refine lv_iconst (v := nI 2) hx hb dL_law_939 (by decide) ?_
  refine k_iadd hx hb dL_law_940 ?_
  refine k_sld hx hb hX hbl hbA hS (by omega) (by omega) dL_law_941 ?_
  refine lv_aload_n hx hb dL_law_942 rfl (lv_at hl 0 rfl) ?_
  refine lv_iload_n hx hb dL_law_943 rfl (lv_at hl 3 rfl) ?_
  refine lv_iconst (v := nI 3) hx hb dL_law_944 (by decide) ?_
  refine k_iadd hx hb dL_law_945 ?_
  refine k_sld hx hb hX hbl hbA hS (by omega) (by omega) dL_law_946 ?_
  refine lv_aload_n hx hb dL_law_947 rfl (lv_at hl 0 rfl) ?_
  refine lv_iload_n hx hb dL_law_948 rfl (lv_at hl 3 rfl) ?_
  refine lv_iconst (v := nI 4) hx hb dL_law_949 (by decide) ?_
  refine k_iadd hx hb dL_law_950 ?_
  refine k_sld hx hb hX hbl hbA hS (by omega) (by omega) dL_law_951 ?_
  refine lv_aload_n hx hb dL_law_952 rfl (lv_at hl 0 rfl) ?_
  refine lv_iload_n hx hb dL_law_953 rfl (lv_at hl 3 rfl) ?_
  refine lv_iconst (v := nI 5) hx hb dL_law_954 (by decide) ?_
  refine k_iadd hx hb dL_law_955 ?_
  refine k_sld hx hb hX hbl hbA hS (by omega) (by omega) dL_law_956 ?_
  refine kb_i (va_runV (As := [.int (xs (i + 1)), .int (xs (i + 2)), .int (xs (i + 3)), .int (xs (i + 4)), .int (xs (i + 5))]) (rest := []) ⟨hx, hb, hml, hown, hts⟩ (qX4_rows v σ (xs (i + 1)) (xs (i + 2)) (xs (i + 3)) (xs (i + 4)) (xs (i + 5)) hv) (cwV 5 hts gL_law_X4_rows rfl rfl rfl hvX4_rows ⟨Nat.le_of_ble_eq_true rfl, Nat.le_of_ble_eq_true rfl⟩) (kpreV hN (q := (RX4, TX4, 13)) (ci := 4) hK (va_P_r hP) (va_D_r hD) 0 rfl hxc) rfl rfl hl.1 rfl (lv_room (Nat.le_of_ble_eq_true rfl)) dL_law_957 ⟨hC, hSS⟩) hP hD hS hA (fun r1 v1 H locs hr1 hP hD hS => ?_)
  replace hP := va_P_sw hP
  replace hD := va_D_sw hD
  refine lv_aload_n hx hb dL_law_960 rfl (lv_at hl 2 rfl) ?_
  refine lv_aload_n hx hb dL_law_961 rfl (lv_at hl 0 rfl) ?_
  refine lv_iload_n hx hb dL_law_962 rfl (lv_at hl 3 rfl) ?_
  refine lv_iconst (v := nI 1) hx hb dL_law_963 (by decide) ?_
  refine k_iadd hx hb dL_law_964 ?_
  refine k_sld hx hb hX hbl hbA hS (by omega) (by omega) dL_law_965 ?_
  refine lv_aload_n hx hb dL_law_966 rfl (lv_at hl 0 rfl) ?_
  refine lv_iload_n hx hb dL_law_967 rfl (lv_at hl 3 rfl) ?_
  refine lv_iconst (v := nI 2) hx hb dL_law_968 (by decide) ?_
  refine k_iadd hx hb dL_law_969 ?_
  refine k_sld hx hb hX hbl hbA hS (by omega) (by omega) dL_law_970 ?_
  refine lv_aload_n hx hb dL_law_971 rfl (lv_at hl 0 rfl) ?_
  refine lv_iload_n hx hb dL_law_972 rfl (lv_at hl 3 rfl) ?_
  refine lv_iconst (v := nI 3) hx hb dL_law_973 (by decide) ?_
  refine k_iadd hx hb dL_law_974 ?_
  refine k_sld hx hb hX hbl hbA hS (by omega) (by omega) dL_law_975 ?_
  refine lv_aload_n hx hb dL_law_976 rfl (lv_at hl 0 rfl) ?_
  refine lv_iload_n hx hb dL_law_977 rfl (lv_at hl 3 rfl) ?_
  refine lv_iconst (v := nI 4) hx hb dL_law_978 (by decide) ?_
  refine k_iadd hx hb dL_law_979 ?_
  refine k_sld hx hb hX hbl hbA hS (by omega) (by omega) dL_law_980 ?_
  refine lv_aload_n hx hb dL_law_981 rfl (lv_at hl 0 rfl) ?_
  refine lv_iload_n hx hb dL_law_982 rfl (lv_at hl 3 rfl) ?_
  refine lv_iconst (v := nI 5) hx hb dL_law_983 (by decide) ?_
  refine k_iadd hx hb dL_law_984 ?_
  refine k_sld hx hb hX hbl hbA hS (by omega) (by omega) dL_law_985 ?_
  refine kb_i (va_runV (As := [.int (xs (i + 1)), .int (xs (i + 2)), .int (xs (i + 3)), .int (xs (i + 4)), .int (xs (i + 5))]) (rest := [.int r1]) ⟨hx, hb, hml, hown, hts⟩ (qX5_rows u σ (xs (i + 1)) (xs (i + 2)) (xs (i + 3)) (xs (i + 4)) (xs (i + 5)) hu) (cwV 5 hts gL_law_X5_rows rfl rfl rfl hvX5_rows ⟨Nat.le_of_ble_eq_true rfl, Nat.le_of_ble_eq_true rfl⟩) (kpreV hN (q := (RX5, TX5, 35)) (ci := 5) hK (va_P_r hP) (va_D_r hD) 0 rfl hmc) rfl rfl hl.1 rfl (lv_room (Nat.le_of_ble_eq_true rfl)) dL_law_986 ⟨hC, hSS⟩) hP hD hS hA (fun r2 u1 H locs hr2 hP hD hS => ?_)
  replace hP := va_P_sw hP
  replace hD := va_D_sw hD
  refine lv_icmp_eq (tgt := 1338) hx hb dL_law_989 (by decide) (fun _ => ?_) (fun c9 => absurd (hr1.1.trans hr2.1.symm) c9)
  exact hk v1 u1 _ H locs ls hr1.2.1 hr2.2.1 hr1.2.2 hr2.2.2 hP hD hS hl

set_option maxHeartbeats 1000000 in
set_option maxRecDepth 100000 in
theorem law_c22 {p : Program} {l : Launch} {e : Env} {s : State} {m : MethodId} {below : List Frame} {meth : Method} {c : Code} {dC : Nat → ClassId} {dI : Nat → Nat → Nat} {cI cJ cZ cS : ClassId} {b L : Nat} {xs : Nat → Int32} (F : LawF p s m c b L xs) (hN : kN s) (hK : va_K (dC, dI) vwCl (kT cI cJ cZ cS) s) {i CC SS : Nat} {Q : State → Prop} (hC : CC + 0 ≤ room_1.cells) (hSS : SS + 0 ≤ room_1.slots) (hi : i + 6 ≤ L) (v : XV) (u : MV) (σ : SSt) (hv : XRel v σ) (hu : MRel u σ) {H : Heap} {locs : List Loc} (hP : va_P (dC, dI) vwCl (mC cI cZ u σ ++ xC cI cJ cZ cS v σ) H) (hD : va_D (lawA s) (mC cI cZ u σ ++ xC cI cJ cZ cS v σ)) (hS : va_S (lawA s) s.heap H locs) {ls : Array Slot} (hl : lv_has ls 4 [(0, .ref b), (1, .ref (xAdr v)), (2, .ref (mAdr u)), (3, .int (nI i))]) (hk : LawK p l e s m below meth c dC dI cI cJ cZ cS b (xAdr v) (mAdr u) i CC SS Q) : W p l e room_1 s m #[Value.ref b] below meth c H locs CC SS Q (F0 m 994 ls []) := by
  obtain ⟨hx, hb, hml, hown, hts, hX, hbl, hL⟩ := F
  have hA : ∀ q : Nat, s.heap.size ≤ q → lawA s q := fun _ h => h
  have hbA : ¬ lawA s b := Nat.not_le.mpr hbl
  obtain ⟨fx, hxc⟩ := xC_0 cI cJ cZ cS v σ
  obtain ⟨fm, hmc⟩ := mC_0 cI cZ u σ
  refine lv_aload_n hx hb dL_law_994 rfl (lv_at hl 1 rfl) ?_
  refine lv_aload_n hx hb dL_law_995 rfl (lv_at hl 0 rfl) ?_
  refine lv_iload_n hx hb dL_law_996 rfl (lv_at hl 3 rfl) ?_
  refine lv_iconst (v := nI 1) hx hb dL_law_997 (by decide) ?_
  refine k_iadd hx hb dL_law_998 ?_
  refine k_sld hx hb hX hbl hbA hS (by omega) (by omega) dL_law_999 ?_
  refine lv_aload_n hx hb dL_law_1000 rfl (lv_at hl 0 rfl) ?_
  refine lv_iload_n hx hb dL_law_1001 rfl (lv_at hl 3 rfl) ?_
  refine lv_iconst (v := nI 2) hx hb dL_law_1002 (by decide) ?_
  refine k_iadd hx hb dL_law_1003 ?_
  refine k_sld hx hb hX hbl hbA hS (by omega) (by omega) dL_law_1004 ?_
  refine lv_aload_n hx hb dL_law_1005 rfl (lv_at hl 0 rfl) ?_
  refine lv_iload_n hx hb dL_law_1006 rfl (lv_at hl 3 rfl) ?_
  refine lv_iconst (v := nI 3) hx hb dL_law_1007 (by decide) ?_
  refine k_iadd hx hb dL_law_1008 ?_
  refine k_sld hx hb hX hbl hbA hS (by omega) (by omega) dL_law_1009 ?_
  refine kb_i (va_runV (As := [.int (xs (i + 1)), .int (xs (i + 2)), .int (xs (i + 3))]) (rest := []) ⟨hx, hb, hml, hown, hts⟩ (qX4_sheet v σ (xs (i + 1)) (xs (i + 2)) (xs (i + 3)) hv) (cwV 3 hts gL_law_X4_sheet rfl rfl rfl hvX4_sheet ⟨Nat.le_of_ble_eq_true rfl, Nat.le_of_ble_eq_true rfl⟩) (kpreV hN (q := (RX4, TX4, 13)) (ci := 4) hK (va_P_r hP) (va_D_r hD) 0 rfl hxc) rfl rfl hl.1 rfl (lv_room (Nat.le_of_ble_eq_true rfl)) dL_law_1010 ⟨hC, hSS⟩) hP hD hS hA (fun r1 v1 H locs hr1 hP hD hS => ?_)
  replace hP := va_P_sw hP
  replace hD := va_D_sw hD
  refine lv_aload_n hx hb dL_law_1013 rfl (lv_at hl 2 rfl) ?_
  refine lv_aload_n hx hb dL_law_1014 rfl (lv_at hl 0 rfl) ?_
  refine lv_iload_n hx hb dL_law_1015 rfl (lv_at hl 3 rfl) ?_
  refine lv_iconst (v := nI 1) hx hb dL_law_1016 (by decide) ?_
  refine k_iadd hx hb dL_law_1017 ?_
  refine k_sld hx hb hX hbl hbA hS (by omega) (by omega) dL_law_1018 ?_
  refine lv_aload_n hx hb dL_law_1019 rfl (lv_at hl 0 rfl) ?_
  refine lv_iload_n hx hb dL_law_1020 rfl (lv_at hl 3 rfl) ?_
  refine lv_iconst (v := nI 2) hx hb dL_law_1021 (by decide) ?_
  refine k_iadd hx hb dL_law_1022 ?_
  refine k_sld hx hb hX hbl hbA hS (by omega) (by omega) dL_law_1023 ?_
  refine lv_aload_n hx hb dL_law_1024 rfl (lv_at hl 0 rfl) ?_
  refine lv_iload_n hx hb dL_law_1025 rfl (lv_at hl 3 rfl) ?_
  refine lv_iconst (v := nI 3) hx hb dL_law_1026 (by decide) ?_
  refine k_iadd hx hb dL_law_1027 ?_
  refine k_sld hx hb hX hbl hbA hS (by omega) (by omega) dL_law_1028 ?_
  refine kb_i (va_runV (As := [.int (xs (i + 1)), .int (xs (i + 2)), .int (xs (i + 3))]) (rest := [.int r1]) ⟨hx, hb, hml, hown, hts⟩ (qX5_sheet u σ (xs (i + 1)) (xs (i + 2)) (xs (i + 3)) hu) (cwV 3 hts gL_law_X5_sheet rfl rfl rfl hvX5_sheet ⟨Nat.le_of_ble_eq_true rfl, Nat.le_of_ble_eq_true rfl⟩) (kpreV hN (q := (RX5, TX5, 35)) (ci := 5) hK (va_P_r hP) (va_D_r hD) 0 rfl hmc) rfl rfl hl.1 rfl (lv_room (Nat.le_of_ble_eq_true rfl)) dL_law_1029 ⟨hC, hSS⟩) hP hD hS hA (fun r2 u1 H locs hr2 hP hD hS => ?_)
  replace hP := va_P_sw hP
  replace hD := va_D_sw hD
  refine lv_icmp_eq (tgt := 1338) hx hb dL_law_1032 (by decide) (fun _ => ?_) (fun c9 => absurd (hr1.1.trans hr2.1.symm) c9)
  exact hk v1 u1 _ H locs ls hr1.2.1 hr2.2.1 hr1.2.2 hr2.2.2 hP hD hS hl

set_option maxHeartbeats 1000000 in
set_option maxRecDepth 100000 in
theorem law_c23 {p : Program} {l : Launch} {e : Env} {s : State} {m : MethodId} {below : List Frame} {meth : Method} {c : Code} {dC : Nat → ClassId} {dI : Nat → Nat → Nat} {cI cJ cZ cS : ClassId} {b L : Nat} {xs : Nat → Int32} (F : LawF p s m c b L xs) (hN : kN s) (hK : va_K (dC, dI) vwCl (kT cI cJ cZ cS) s) {i CC SS : Nat} {Q : State → Prop} (hC : CC + 0 ≤ room_1.cells) (hSS : SS + 0 ≤ room_1.slots) (hi : i + 6 ≤ L) (v : XV) (u : MV) (σ : SSt) (hv : XRel v σ) (hu : MRel u σ) {H : Heap} {locs : List Loc} (hP : va_P (dC, dI) vwCl (mC cI cZ u σ ++ xC cI cJ cZ cS v σ) H) (hD : va_D (lawA s) (mC cI cZ u σ ++ xC cI cJ cZ cS v σ)) (hS : va_S (lawA s) s.heap H locs) {ls : Array Slot} (hl : lv_has ls 4 [(0, .ref b), (1, .ref (xAdr v)), (2, .ref (mAdr u)), (3, .int (nI i))]) (hk : LawK p l e s m below meth c dC dI cI cJ cZ cS b (xAdr v) (mAdr u) i CC SS Q) : W p l e room_1 s m #[Value.ref b] below meth c H locs CC SS Q (F0 m 1037 ls []) := by
  obtain ⟨hx, hb, hml, hown, hts, hX, hbl, hL⟩ := F
  have hA : ∀ q : Nat, s.heap.size ≤ q → lawA s q := fun _ h => h
  have hbA : ¬ lawA s b := Nat.not_le.mpr hbl
  obtain ⟨fx, hxc⟩ := xC_0 cI cJ cZ cS v σ
  obtain ⟨fm, hmc⟩ := mC_0 cI cZ u σ
  refine lv_aload_n hx hb dL_law_1037 rfl (lv_at hl 1 rfl) ?_
  refine lv_aload_n hx hb dL_law_1038 rfl (lv_at hl 0 rfl) ?_
  refine lv_iload_n hx hb dL_law_1039 rfl (lv_at hl 3 rfl) ?_
  refine lv_iconst (v := nI 1) hx hb dL_law_1040 (by decide) ?_
  refine k_iadd hx hb dL_law_1041 ?_
  refine k_sld hx hb hX hbl hbA hS (by omega) (by omega) dL_law_1042 ?_
  refine kb_i (va_runV (As := [.int (xs (i + 1))]) (rest := []) ⟨hx, hb, hml, hown, hts⟩ (qX4_lose v σ (xs (i + 1)) hv) (cwV 1 hts gL_law_X4_lose rfl rfl rfl hvX4_lose ⟨Nat.le_of_ble_eq_true rfl, Nat.le_of_ble_eq_true rfl⟩) (kpreV hN (q := (RX4, TX4, 13)) (ci := 4) hK (va_P_r hP) (va_D_r hD) 0 rfl hxc) rfl rfl hl.1 rfl (lv_room (Nat.le_of_ble_eq_true rfl)) dL_law_1043 ⟨hC, hSS⟩) hP hD hS hA (fun r1 v1 H locs hr1 hP hD hS => ?_)
  replace hP := va_P_sw hP
  replace hD := va_D_sw hD
  refine lv_aload_n hx hb dL_law_1046 rfl (lv_at hl 2 rfl) ?_
  refine lv_aload_n hx hb dL_law_1047 rfl (lv_at hl 0 rfl) ?_
  refine lv_iload_n hx hb dL_law_1048 rfl (lv_at hl 3 rfl) ?_
  refine lv_iconst (v := nI 1) hx hb dL_law_1049 (by decide) ?_
  refine k_iadd hx hb dL_law_1050 ?_
  refine k_sld hx hb hX hbl hbA hS (by omega) (by omega) dL_law_1051 ?_
  refine kb_i (va_runV (As := [.int (xs (i + 1))]) (rest := [.int r1]) ⟨hx, hb, hml, hown, hts⟩ (qX5_lose u σ (xs (i + 1)) hu) (cwV 1 hts gL_law_X5_lose rfl rfl rfl hvX5_lose ⟨Nat.le_of_ble_eq_true rfl, Nat.le_of_ble_eq_true rfl⟩) (kpreV hN (q := (RX5, TX5, 35)) (ci := 5) hK (va_P_r hP) (va_D_r hD) 0 rfl hmc) rfl rfl hl.1 rfl (lv_room (Nat.le_of_ble_eq_true rfl)) dL_law_1052 ⟨hC, hSS⟩) hP hD hS hA (fun r2 u1 H locs hr2 hP hD hS => ?_)
  replace hP := va_P_sw hP
  replace hD := va_D_sw hD
  refine lv_icmp_eq (tgt := 1338) hx hb dL_law_1055 (by decide) (fun _ => ?_) (fun c9 => absurd (hr1.1.trans hr2.1.symm) c9)
  exact hk v1 u1 _ H locs ls hr1.2.1 hr2.2.1 hr1.2.2 hr2.2.2 hP hD hS hl

set_option maxHeartbeats 1000000 in
set_option maxRecDepth 100000 in
theorem law_c24 {p : Program} {l : Launch} {e : Env} {s : State} {m : MethodId} {below : List Frame} {meth : Method} {c : Code} {dC : Nat → ClassId} {dI : Nat → Nat → Nat} {cI cJ cZ cS : ClassId} {b L : Nat} {xs : Nat → Int32} (F : LawF p s m c b L xs) (hN : kN s) (hK : va_K (dC, dI) vwCl (kT cI cJ cZ cS) s) {i CC SS : Nat} {Q : State → Prop} (hC : CC + 0 ≤ room_1.cells) (hSS : SS + 0 ≤ room_1.slots) (hi : i + 6 ≤ L) (v : XV) (u : MV) (σ : SSt) (hv : XRel v σ) (hu : MRel u σ) {H : Heap} {locs : List Loc} (hP : va_P (dC, dI) vwCl (mC cI cZ u σ ++ xC cI cJ cZ cS v σ) H) (hD : va_D (lawA s) (mC cI cZ u σ ++ xC cI cJ cZ cS v σ)) (hS : va_S (lawA s) s.heap H locs) {ls : Array Slot} (hl : lv_has ls 4 [(0, .ref b), (1, .ref (xAdr v)), (2, .ref (mAdr u)), (3, .int (nI i))]) (hk : LawK p l e s m below meth c dC dI cI cJ cZ cS b (xAdr v) (mAdr u) i CC SS Q) : W p l e room_1 s m #[Value.ref b] below meth c H locs CC SS Q (F0 m 1060 ls []) := by
  obtain ⟨hx, hb, hml, hown, hts, hX, hbl, hL⟩ := F
  have hA : ∀ q : Nat, s.heap.size ≤ q → lawA s q := fun _ h => h
  have hbA : ¬ lawA s b := Nat.not_le.mpr hbl
  obtain ⟨fx, hxc⟩ := xC_0 cI cJ cZ cS v σ
  obtain ⟨fm, hmc⟩ := mC_0 cI cZ u σ
  refine lv_aload_n hx hb dL_law_1060 rfl (lv_at hl 1 rfl) ?_
  refine lv_aload_n hx hb dL_law_1061 rfl (lv_at hl 0 rfl) ?_
  refine lv_iload_n hx hb dL_law_1062 rfl (lv_at hl 3 rfl) ?_
  refine lv_iconst (v := nI 1) hx hb dL_law_1063 (by decide) ?_
  refine k_iadd hx hb dL_law_1064 ?_
  refine k_sld hx hb hX hbl hbA hS (by omega) (by omega) dL_law_1065 ?_
  refine lv_aload_n hx hb dL_law_1066 rfl (lv_at hl 0 rfl) ?_
  refine lv_iload_n hx hb dL_law_1067 rfl (lv_at hl 3 rfl) ?_
  refine lv_iconst (v := nI 2) hx hb dL_law_1068 (by decide) ?_
  refine k_iadd hx hb dL_law_1069 ?_
  refine k_sld hx hb hX hbl hbA hS (by omega) (by omega) dL_law_1070 ?_
  refine lv_aload_n hx hb dL_law_1071 rfl (lv_at hl 0 rfl) ?_
  refine lv_iload_n hx hb dL_law_1072 rfl (lv_at hl 3 rfl) ?_
  refine lv_iconst (v := nI 3) hx hb dL_law_1073 (by decide) ?_
  refine k_iadd hx hb dL_law_1074 ?_
  refine k_sld hx hb hX hbl hbA hS (by omega) (by omega) dL_law_1075 ?_
  refine kb_i (va_runV (As := [.int (xs (i + 1)), .int (xs (i + 2)), .int (xs (i + 3))]) (rest := []) ⟨hx, hb, hml, hown, hts⟩ (qX4_put v σ (xs (i + 1)) (xs (i + 2)) (xs (i + 3)) hv) (cwV 3 hts gL_law_X4_put rfl rfl rfl hvX4_put ⟨Nat.le_of_ble_eq_true rfl, Nat.le_of_ble_eq_true rfl⟩) (kpreV hN (q := (RX4, TX4, 13)) (ci := 4) hK (va_P_r hP) (va_D_r hD) 0 rfl hxc) rfl rfl hl.1 rfl (lv_room (Nat.le_of_ble_eq_true rfl)) dL_law_1076 ⟨hC, hSS⟩) hP hD hS hA (fun r1 v1 H locs hr1 hP hD hS => ?_)
  replace hP := va_P_sw hP
  replace hD := va_D_sw hD
  refine lv_aload_n hx hb dL_law_1079 rfl (lv_at hl 2 rfl) ?_
  refine lv_aload_n hx hb dL_law_1080 rfl (lv_at hl 0 rfl) ?_
  refine lv_iload_n hx hb dL_law_1081 rfl (lv_at hl 3 rfl) ?_
  refine lv_iconst (v := nI 1) hx hb dL_law_1082 (by decide) ?_
  refine k_iadd hx hb dL_law_1083 ?_
  refine k_sld hx hb hX hbl hbA hS (by omega) (by omega) dL_law_1084 ?_
  refine lv_aload_n hx hb dL_law_1085 rfl (lv_at hl 0 rfl) ?_
  refine lv_iload_n hx hb dL_law_1086 rfl (lv_at hl 3 rfl) ?_
  refine lv_iconst (v := nI 2) hx hb dL_law_1087 (by decide) ?_
  refine k_iadd hx hb dL_law_1088 ?_
  refine k_sld hx hb hX hbl hbA hS (by omega) (by omega) dL_law_1089 ?_
  refine lv_aload_n hx hb dL_law_1090 rfl (lv_at hl 0 rfl) ?_
  refine lv_iload_n hx hb dL_law_1091 rfl (lv_at hl 3 rfl) ?_
  refine lv_iconst (v := nI 3) hx hb dL_law_1092 (by decide) ?_
  refine k_iadd hx hb dL_law_1093 ?_
  refine k_sld hx hb hX hbl hbA hS (by omega) (by omega) dL_law_1094 ?_
  refine kb_i (va_runV (As := [.int (xs (i + 1)), .int (xs (i + 2)), .int (xs (i + 3))]) (rest := [.int r1]) ⟨hx, hb, hml, hown, hts⟩ (qX5_put u σ (xs (i + 1)) (xs (i + 2)) (xs (i + 3)) hu) (cwV 3 hts gL_law_X5_put rfl rfl rfl hvX5_put ⟨Nat.le_of_ble_eq_true rfl, Nat.le_of_ble_eq_true rfl⟩) (kpreV hN (q := (RX5, TX5, 35)) (ci := 5) hK (va_P_r hP) (va_D_r hD) 0 rfl hmc) rfl rfl hl.1 rfl (lv_room (Nat.le_of_ble_eq_true rfl)) dL_law_1095 ⟨hC, hSS⟩) hP hD hS hA (fun r2 u1 H locs hr2 hP hD hS => ?_)
  replace hP := va_P_sw hP
  replace hD := va_D_sw hD
  refine lv_icmp_eq (tgt := 1338) hx hb dL_law_1098 (by decide) (fun _ => ?_) (fun c9 => absurd (hr1.1.trans hr2.1.symm) c9)
  exact hk v1 u1 _ H locs ls hr1.2.1 hr2.2.1 hr1.2.2 hr2.2.2 hP hD hS hl

set_option maxHeartbeats 1000000 in
set_option maxRecDepth 100000 in
theorem law_c25 {p : Program} {l : Launch} {e : Env} {s : State} {m : MethodId} {below : List Frame} {meth : Method} {c : Code} {dC : Nat → ClassId} {dI : Nat → Nat → Nat} {cI cJ cZ cS : ClassId} {b L : Nat} {xs : Nat → Int32} (F : LawF p s m c b L xs) (hN : kN s) (hK : va_K (dC, dI) vwCl (kT cI cJ cZ cS) s) {i CC SS : Nat} {Q : State → Prop} (hC : CC + 0 ≤ room_1.cells) (hSS : SS + 0 ≤ room_1.slots) (hi : i + 6 ≤ L) (v : XV) (u : MV) (σ : SSt) (hv : XRel v σ) (hu : MRel u σ) {H : Heap} {locs : List Loc} (hP : va_P (dC, dI) vwCl (mC cI cZ u σ ++ xC cI cJ cZ cS v σ) H) (hD : va_D (lawA s) (mC cI cZ u σ ++ xC cI cJ cZ cS v σ)) (hS : va_S (lawA s) s.heap H locs) {ls : Array Slot} (hl : lv_has ls 4 [(0, .ref b), (1, .ref (xAdr v)), (2, .ref (mAdr u)), (3, .int (nI i))]) (hk : LawK p l e s m below meth c dC dI cI cJ cZ cS b (xAdr v) (mAdr u) i CC SS Q) : W p l e room_1 s m #[Value.ref b] below meth c H locs CC SS Q (F0 m 1103 ls []) := by
  obtain ⟨hx, hb, hml, hown, hts, hX, hbl, hL⟩ := F
  have hA : ∀ q : Nat, s.heap.size ≤ q → lawA s q := fun _ h => h
  have hbA : ¬ lawA s b := Nat.not_le.mpr hbl
  obtain ⟨fx, hxc⟩ := xC_0 cI cJ cZ cS v σ
  obtain ⟨fm, hmc⟩ := mC_0 cI cZ u σ
  refine lv_aload_n hx hb dL_law_1103 rfl (lv_at hl 1 rfl) ?_
  refine lv_aload_n hx hb dL_law_1104 rfl (lv_at hl 0 rfl) ?_
  refine lv_iload_n hx hb dL_law_1105 rfl (lv_at hl 3 rfl) ?_
  refine lv_iconst (v := nI 1) hx hb dL_law_1106 (by decide) ?_
  refine k_iadd hx hb dL_law_1107 ?_
  refine k_sld hx hb hX hbl hbA hS (by omega) (by omega) dL_law_1108 ?_
  refine lv_aload_n hx hb dL_law_1109 rfl (lv_at hl 0 rfl) ?_
  refine lv_iload_n hx hb dL_law_1110 rfl (lv_at hl 3 rfl) ?_
  refine lv_iconst (v := nI 2) hx hb dL_law_1111 (by decide) ?_
  refine k_iadd hx hb dL_law_1112 ?_
  refine k_sld hx hb hX hbl hbA hS (by omega) (by omega) dL_law_1113 ?_
  refine lv_aload_n hx hb dL_law_1114 rfl (lv_at hl 0 rfl) ?_
  refine lv_iload_n hx hb dL_law_1115 rfl (lv_at hl 3 rfl) ?_
  refine lv_iconst (v := nI 3) hx hb dL_law_1116 (by decide) ?_
  refine k_iadd hx hb dL_law_1117 ?_
  refine k_sld hx hb hX hbl hbA hS (by omega) (by omega) dL_law_1118 ?_
  refine kb_l (va_runV (As := [.int (xs (i + 1)), .int (xs (i + 2)), .int (xs (i + 3))]) (rest := []) ⟨hx, hb, hml, hown, hts⟩ (qX4_cell v σ (xs (i + 1)) (xs (i + 2)) (xs (i + 3)) hv) (cwV 3 hts gL_law_X4_cell rfl rfl rfl hvX4_cell ⟨Nat.le_of_ble_eq_true rfl, Nat.le_of_ble_eq_true rfl⟩) (kpreV hN (q := (RX4, TX4, 13)) (ci := 4) hK (va_P_r hP) (va_D_r hD) 0 rfl hxc) rfl rfl hl.1 rfl (lv_room (Nat.le_of_ble_eq_true rfl)) dL_law_1119 ⟨hC, hSS⟩) hP hD hS hA (fun r1 v1 H locs hr1 hP hD hS => ?_)
  replace hP := va_P_sw hP
  replace hD := va_D_sw hD
  refine lv_aload_n hx hb dL_law_1122 rfl (lv_at hl 2 rfl) ?_
  refine lv_aload_n hx hb dL_law_1123 rfl (lv_at hl 0 rfl) ?_
  refine lv_iload_n hx hb dL_law_1124 rfl (lv_at hl 3 rfl) ?_
  refine lv_iconst (v := nI 1) hx hb dL_law_1125 (by decide) ?_
  refine k_iadd hx hb dL_law_1126 ?_
  refine k_sld hx hb hX hbl hbA hS (by omega) (by omega) dL_law_1127 ?_
  refine lv_aload_n hx hb dL_law_1128 rfl (lv_at hl 0 rfl) ?_
  refine lv_iload_n hx hb dL_law_1129 rfl (lv_at hl 3 rfl) ?_
  refine lv_iconst (v := nI 2) hx hb dL_law_1130 (by decide) ?_
  refine k_iadd hx hb dL_law_1131 ?_
  refine k_sld hx hb hX hbl hbA hS (by omega) (by omega) dL_law_1132 ?_
  refine lv_aload_n hx hb dL_law_1133 rfl (lv_at hl 0 rfl) ?_
  refine lv_iload_n hx hb dL_law_1134 rfl (lv_at hl 3 rfl) ?_
  refine lv_iconst (v := nI 3) hx hb dL_law_1135 (by decide) ?_
  refine k_iadd hx hb dL_law_1136 ?_
  refine k_sld hx hb hX hbl hbA hS (by omega) (by omega) dL_law_1137 ?_
  refine kb_l (va_runV (As := [.int (xs (i + 1)), .int (xs (i + 2)), .int (xs (i + 3))]) (rest := [.long r1]) ⟨hx, hb, hml, hown, hts⟩ (qX5_cell u σ (xs (i + 1)) (xs (i + 2)) (xs (i + 3)) hu) (cwV 3 hts gL_law_X5_cell rfl rfl rfl hvX5_cell ⟨Nat.le_of_ble_eq_true rfl, Nat.le_of_ble_eq_true rfl⟩) (kpreV hN (q := (RX5, TX5, 35)) (ci := 5) hK (va_P_r hP) (va_D_r hD) 0 rfl hmc) rfl rfl hl.1 rfl (lv_room (Nat.le_of_ble_eq_true rfl)) dL_law_1138 ⟨hC, hSS⟩) hP hD hS hA (fun r2 u1 H locs hr2 hP hD hS => ?_)
  replace hP := va_P_sw hP
  replace hD := va_D_sw hD
  refine k_lcmp_eq (tgt := 1338) hx hb dL_law_1141 dL_law_1142 (by decide) (fun _ => ?_) (fun c9 => absurd (hr1.1.trans hr2.1.symm) c9)
  exact hk v1 u1 _ H locs ls hr1.2.1 hr2.2.1 hr1.2.2 hr2.2.2 hP hD hS hl

set_option maxHeartbeats 1000000 in
set_option maxRecDepth 100000 in
theorem law_c26 {p : Program} {l : Launch} {e : Env} {s : State} {m : MethodId} {below : List Frame} {meth : Method} {c : Code} {dC : Nat → ClassId} {dI : Nat → Nat → Nat} {cI cJ cZ cS : ClassId} {b L : Nat} {xs : Nat → Int32} (F : LawF p s m c b L xs) (hN : kN s) (hK : va_K (dC, dI) vwCl (kT cI cJ cZ cS) s) {i CC SS : Nat} {Q : State → Prop} (hC : CC + 0 ≤ room_1.cells) (hSS : SS + 0 ≤ room_1.slots) (hi : i + 6 ≤ L) (v : XV) (u : MV) (σ : SSt) (hv : XRel v σ) (hu : MRel u σ) {H : Heap} {locs : List Loc} (hP : va_P (dC, dI) vwCl (mC cI cZ u σ ++ xC cI cJ cZ cS v σ) H) (hD : va_D (lawA s) (mC cI cZ u σ ++ xC cI cJ cZ cS v σ)) (hS : va_S (lawA s) s.heap H locs) {ls : Array Slot} (hl : lv_has ls 4 [(0, .ref b), (1, .ref (xAdr v)), (2, .ref (mAdr u)), (3, .int (nI i))]) (hk : LawK p l e s m below meth c dC dI cI cJ cZ cS b (xAdr v) (mAdr u) i CC SS Q) : W p l e room_1 s m #[Value.ref b] below meth c H locs CC SS Q (F0 m 1147 ls []) := by
  obtain ⟨hx, hb, hml, hown, hts, hX, hbl, hL⟩ := F
  have hA : ∀ q : Nat, s.heap.size ≤ q → lawA s q := fun _ h => h
  have hbA : ¬ lawA s b := Nat.not_le.mpr hbl
  obtain ⟨fx, hxc⟩ := xC_0 cI cJ cZ cS v σ
  obtain ⟨fm, hmc⟩ := mC_0 cI cZ u σ
  refine lv_aload_n hx hb dL_law_1147 rfl (lv_at hl 1 rfl) ?_
  refine lv_aload_n hx hb dL_law_1148 rfl (lv_at hl 0 rfl) ?_
  refine lv_iload_n hx hb dL_law_1149 rfl (lv_at hl 3 rfl) ?_
  refine lv_iconst (v := nI 1) hx hb dL_law_1150 (by decide) ?_
  refine k_iadd hx hb dL_law_1151 ?_
  refine k_sld hx hb hX hbl hbA hS (by omega) (by omega) dL_law_1152 ?_
  refine lv_aload_n hx hb dL_law_1153 rfl (lv_at hl 0 rfl) ?_
  refine lv_iload_n hx hb dL_law_1154 rfl (lv_at hl 3 rfl) ?_
  refine lv_iconst (v := nI 2) hx hb dL_law_1155 (by decide) ?_
  refine k_iadd hx hb dL_law_1156 ?_
  refine k_sld hx hb hX hbl hbA hS (by omega) (by omega) dL_law_1157 ?_
  refine lv_aload_n hx hb dL_law_1158 rfl (lv_at hl 0 rfl) ?_
  refine lv_iload_n hx hb dL_law_1159 rfl (lv_at hl 3 rfl) ?_
  refine lv_iconst (v := nI 3) hx hb dL_law_1160 (by decide) ?_
  refine k_iadd hx hb dL_law_1161 ?_
  refine k_sld hx hb hX hbl hbA hS (by omega) (by omega) dL_law_1162 ?_
  refine lv_aload_n hx hb dL_law_1163 rfl (lv_at hl 0 rfl) ?_
  refine lv_iload_n hx hb dL_law_1164 rfl (lv_at hl 3 rfl) ?_
  refine lv_iconst (v := nI 4) hx hb dL_law_1165 (by decide) ?_
  refine k_iadd hx hb dL_law_1166 ?_
  refine k_sld hx hb hX hbl hbA hS (by omega) (by omega) dL_law_1167 ?_
  refine lv_aload_n hx hb dL_law_1168 rfl (lv_at hl 0 rfl) ?_
  refine lv_iload_n hx hb dL_law_1169 rfl (lv_at hl 3 rfl) ?_
  refine lv_iconst (v := nI 5) hx hb dL_law_1170 (by decide) ?_
  refine k_iadd hx hb dL_law_1171 ?_
  refine k_sld hx hb hX hbl hbA hS (by omega) (by omega) dL_law_1172 ?_
  refine kb_i (va_runV (As := [.int (xs (i + 1)), .int (xs (i + 2)), .int (xs (i + 3)), .int (xs (i + 4)), .int (xs (i + 5))]) (rest := []) ⟨hx, hb, hml, hown, hts⟩ (qX4_copy v σ (xs (i + 1)) (xs (i + 2)) (xs (i + 3)) (xs (i + 4)) (xs (i + 5)) hv) (cwV 5 hts gL_law_X4_copy rfl rfl rfl hvX4_copy ⟨Nat.le_of_ble_eq_true rfl, Nat.le_of_ble_eq_true rfl⟩) (kpreV hN (q := (RX4, TX4, 13)) (ci := 4) hK (va_P_r hP) (va_D_r hD) 0 rfl hxc) rfl rfl hl.1 rfl (lv_room (Nat.le_of_ble_eq_true rfl)) dL_law_1173 ⟨hC, hSS⟩) hP hD hS hA (fun r1 v1 H locs hr1 hP hD hS => ?_)
  replace hP := va_P_sw hP
  replace hD := va_D_sw hD
  refine lv_aload_n hx hb dL_law_1176 rfl (lv_at hl 2 rfl) ?_
  refine lv_aload_n hx hb dL_law_1177 rfl (lv_at hl 0 rfl) ?_
  refine lv_iload_n hx hb dL_law_1178 rfl (lv_at hl 3 rfl) ?_
  refine lv_iconst (v := nI 1) hx hb dL_law_1179 (by decide) ?_
  refine k_iadd hx hb dL_law_1180 ?_
  refine k_sld hx hb hX hbl hbA hS (by omega) (by omega) dL_law_1181 ?_
  refine lv_aload_n hx hb dL_law_1182 rfl (lv_at hl 0 rfl) ?_
  refine lv_iload_n hx hb dL_law_1183 rfl (lv_at hl 3 rfl) ?_
  refine lv_iconst (v := nI 2) hx hb dL_law_1184 (by decide) ?_
  refine k_iadd hx hb dL_law_1185 ?_
  refine k_sld hx hb hX hbl hbA hS (by omega) (by omega) dL_law_1186 ?_
  refine lv_aload_n hx hb dL_law_1187 rfl (lv_at hl 0 rfl) ?_
  refine lv_iload_n hx hb dL_law_1188 rfl (lv_at hl 3 rfl) ?_
  refine lv_iconst (v := nI 3) hx hb dL_law_1189 (by decide) ?_
  refine k_iadd hx hb dL_law_1190 ?_
  refine k_sld hx hb hX hbl hbA hS (by omega) (by omega) dL_law_1191 ?_
  refine lv_aload_n hx hb dL_law_1192 rfl (lv_at hl 0 rfl) ?_
  refine lv_iload_n hx hb dL_law_1193 rfl (lv_at hl 3 rfl) ?_
  refine lv_iconst (v := nI 4) hx hb dL_law_1194 (by decide) ?_
  refine k_iadd hx hb dL_law_1195 ?_
  refine k_sld hx hb hX hbl hbA hS (by omega) (by omega) dL_law_1196 ?_
  refine lv_aload_n hx hb dL_law_1197 rfl (lv_at hl 0 rfl) ?_
  refine lv_iload_n hx hb dL_law_1198 rfl (lv_at hl 3 rfl) ?_
  refine lv_iconst (v := nI 5) hx hb dL_law_1199 (by decide) ?_
  refine k_iadd hx hb dL_law_1200 ?_
  refine k_sld hx hb hX hbl hbA hS (by omega) (by omega) dL_law_1201 ?_
  refine kb_i (va_runV (As := [.int (xs (i + 1)), .int (xs (i + 2)), .int (xs (i + 3)), .int (xs (i + 4)), .int (xs (i + 5))]) (rest := [.int r1]) ⟨hx, hb, hml, hown, hts⟩ (qX5_copy u σ (xs (i + 1)) (xs (i + 2)) (xs (i + 3)) (xs (i + 4)) (xs (i + 5)) hu) (cwV 5 hts gL_law_X5_copy rfl rfl rfl hvX5_copy ⟨Nat.le_of_ble_eq_true rfl, Nat.le_of_ble_eq_true rfl⟩) (kpreV hN (q := (RX5, TX5, 35)) (ci := 5) hK (va_P_r hP) (va_D_r hD) 0 rfl hmc) rfl rfl hl.1 rfl (lv_room (Nat.le_of_ble_eq_true rfl)) dL_law_1202 ⟨hC, hSS⟩) hP hD hS hA (fun r2 u1 H locs hr2 hP hD hS => ?_)
  replace hP := va_P_sw hP
  replace hD := va_D_sw hD
  refine lv_icmp_eq (tgt := 1338) hx hb dL_law_1205 (by decide) (fun _ => ?_) (fun c9 => absurd (hr1.1.trans hr2.1.symm) c9)
  exact hk v1 u1 _ H locs ls hr1.2.1 hr2.2.1 hr1.2.2 hr2.2.2 hP hD hS hl

set_option maxHeartbeats 1000000 in
set_option maxRecDepth 100000 in
theorem law_c27 {p : Program} {l : Launch} {e : Env} {s : State} {m : MethodId} {below : List Frame} {meth : Method} {c : Code} {dC : Nat → ClassId} {dI : Nat → Nat → Nat} {cI cJ cZ cS : ClassId} {b L : Nat} {xs : Nat → Int32} (F : LawF p s m c b L xs) (hN : kN s) (hK : va_K (dC, dI) vwCl (kT cI cJ cZ cS) s) {i CC SS : Nat} {Q : State → Prop} (hC : CC + 0 ≤ room_1.cells) (hSS : SS + 0 ≤ room_1.slots) (hi : i + 6 ≤ L) (v : XV) (u : MV) (σ : SSt) (hv : XRel v σ) (hu : MRel u σ) {H : Heap} {locs : List Loc} (hP : va_P (dC, dI) vwCl (mC cI cZ u σ ++ xC cI cJ cZ cS v σ) H) (hD : va_D (lawA s) (mC cI cZ u σ ++ xC cI cJ cZ cS v σ)) (hS : va_S (lawA s) s.heap H locs) {ls : Array Slot} (hl : lv_has ls 4 [(0, .ref b), (1, .ref (xAdr v)), (2, .ref (mAdr u)), (3, .int (nI i))]) (hk : LawK p l e s m below meth c dC dI cI cJ cZ cS b (xAdr v) (mAdr u) i CC SS Q) : W p l e room_1 s m #[Value.ref b] below meth c H locs CC SS Q (F0 m 1210 ls []) := by
  obtain ⟨hx, hb, hml, hown, hts, hX, hbl, hL⟩ := F
  have hA : ∀ q : Nat, s.heap.size ≤ q → lawA s q := fun _ h => h
  have hbA : ¬ lawA s b := Nat.not_le.mpr hbl
  obtain ⟨fx, hxc⟩ := xC_0 cI cJ cZ cS v σ
  obtain ⟨fm, hmc⟩ := mC_0 cI cZ u σ
  refine lv_aload_n hx hb dL_law_1210 rfl (lv_at hl 1 rfl) ?_
  refine lv_aload_n hx hb dL_law_1211 rfl (lv_at hl 0 rfl) ?_
  refine lv_iload_n hx hb dL_law_1212 rfl (lv_at hl 3 rfl) ?_
  refine lv_iconst (v := nI 1) hx hb dL_law_1213 (by decide) ?_
  refine k_iadd hx hb dL_law_1214 ?_
  refine k_sld hx hb hX hbl hbA hS (by omega) (by omega) dL_law_1215 ?_
  refine kb_i (va_runV (As := [.int (xs (i + 1))]) (rest := []) ⟨hx, hb, hml, hown, hts⟩ (qX4_tell v σ (xs (i + 1)) hv) (cwV 1 hts gL_law_X4_tell rfl rfl rfl hvX4_tell ⟨Nat.le_of_ble_eq_true rfl, Nat.le_of_ble_eq_true rfl⟩) (kpreV hN (q := (RX4, TX4, 13)) (ci := 4) hK (va_P_r hP) (va_D_r hD) 0 rfl hxc) rfl rfl hl.1 rfl (lv_room (Nat.le_of_ble_eq_true rfl)) dL_law_1216 ⟨hC, hSS⟩) hP hD hS hA (fun r1 v1 H locs hr1 hP hD hS => ?_)
  replace hP := va_P_sw hP
  replace hD := va_D_sw hD
  refine lv_aload_n hx hb dL_law_1219 rfl (lv_at hl 2 rfl) ?_
  refine lv_aload_n hx hb dL_law_1220 rfl (lv_at hl 0 rfl) ?_
  refine lv_iload_n hx hb dL_law_1221 rfl (lv_at hl 3 rfl) ?_
  refine lv_iconst (v := nI 1) hx hb dL_law_1222 (by decide) ?_
  refine k_iadd hx hb dL_law_1223 ?_
  refine k_sld hx hb hX hbl hbA hS (by omega) (by omega) dL_law_1224 ?_
  refine kb_i (va_runV (As := [.int (xs (i + 1))]) (rest := [.int r1]) ⟨hx, hb, hml, hown, hts⟩ (qX5_tell u σ (xs (i + 1)) hu) (cwV 1 hts gL_law_X5_tell rfl rfl rfl hvX5_tell ⟨Nat.le_of_ble_eq_true rfl, Nat.le_of_ble_eq_true rfl⟩) (kpreV hN (q := (RX5, TX5, 35)) (ci := 5) hK (va_P_r hP) (va_D_r hD) 0 rfl hmc) rfl rfl hl.1 rfl (lv_room (Nat.le_of_ble_eq_true rfl)) dL_law_1225 ⟨hC, hSS⟩) hP hD hS hA (fun r2 u1 H locs hr2 hP hD hS => ?_)
  replace hP := va_P_sw hP
  replace hD := va_D_sw hD
  refine lv_icmp_eq (tgt := 1338) hx hb dL_law_1228 (by decide) (fun _ => ?_) (fun c9 => absurd (hr1.1.trans hr2.1.symm) c9)
  exact hk v1 u1 _ H locs ls hr1.2.1 hr2.2.1 hr1.2.2 hr2.2.2 hP hD hS hl

set_option maxHeartbeats 1000000 in
set_option maxRecDepth 100000 in
theorem law_c28 {p : Program} {l : Launch} {e : Env} {s : State} {m : MethodId} {below : List Frame} {meth : Method} {c : Code} {dC : Nat → ClassId} {dI : Nat → Nat → Nat} {cI cJ cZ cS : ClassId} {b L : Nat} {xs : Nat → Int32} (F : LawF p s m c b L xs) (hN : kN s) (hK : va_K (dC, dI) vwCl (kT cI cJ cZ cS) s) {i CC SS : Nat} {Q : State → Prop} (hC : CC + 0 ≤ room_1.cells) (hSS : SS + 0 ≤ room_1.slots) (hi : i + 6 ≤ L) (v : XV) (u : MV) (σ : SSt) (hv : XRel v σ) (hu : MRel u σ) {H : Heap} {locs : List Loc} (hP : va_P (dC, dI) vwCl (mC cI cZ u σ ++ xC cI cJ cZ cS v σ) H) (hD : va_D (lawA s) (mC cI cZ u σ ++ xC cI cJ cZ cS v σ)) (hS : va_S (lawA s) s.heap H locs) {ls : Array Slot} (hl : lv_has ls 4 [(0, .ref b), (1, .ref (xAdr v)), (2, .ref (mAdr u)), (3, .int (nI i))]) (hk : LawK p l e s m below meth c dC dI cI cJ cZ cS b (xAdr v) (mAdr u) i CC SS Q) : W p l e room_1 s m #[Value.ref b] below meth c H locs CC SS Q (F0 m 1233 ls []) := by
  obtain ⟨hx, hb, hml, hown, hts, hX, hbl, hL⟩ := F
  have hA : ∀ q : Nat, s.heap.size ≤ q → lawA s q := fun _ h => h
  have hbA : ¬ lawA s b := Nat.not_le.mpr hbl
  obtain ⟨fx, hxc⟩ := xC_0 cI cJ cZ cS v σ
  obtain ⟨fm, hmc⟩ := mC_0 cI cZ u σ
  refine lv_aload_n hx hb dL_law_1233 rfl (lv_at hl 1 rfl) ?_
  refine lv_aload_n hx hb dL_law_1234 rfl (lv_at hl 0 rfl) ?_
  refine lv_iload_n hx hb dL_law_1235 rfl (lv_at hl 3 rfl) ?_
  refine lv_iconst (v := nI 1) hx hb dL_law_1236 (by decide) ?_
  refine k_iadd hx hb dL_law_1237 ?_
  refine k_sld hx hb hX hbl hbA hS (by omega) (by omega) dL_law_1238 ?_
  refine kb_i (va_runV (As := [.int (xs (i + 1))]) (rest := []) ⟨hx, hb, hml, hown, hts⟩ (qX4_greet v σ (xs (i + 1)) hv) (cwV 1 hts gL_law_X4_greet rfl rfl rfl hvX4_greet ⟨Nat.le_of_ble_eq_true rfl, Nat.le_of_ble_eq_true rfl⟩) (kpreV hN (q := (RX4, TX4, 13)) (ci := 4) hK (va_P_r hP) (va_D_r hD) 0 rfl hxc) rfl rfl hl.1 rfl (lv_room (Nat.le_of_ble_eq_true rfl)) dL_law_1239 ⟨hC, hSS⟩) hP hD hS hA (fun r1 v1 H locs hr1 hP hD hS => ?_)
  replace hP := va_P_sw hP
  replace hD := va_D_sw hD
  refine lv_aload_n hx hb dL_law_1242 rfl (lv_at hl 2 rfl) ?_
  refine lv_aload_n hx hb dL_law_1243 rfl (lv_at hl 0 rfl) ?_
  refine lv_iload_n hx hb dL_law_1244 rfl (lv_at hl 3 rfl) ?_
  refine lv_iconst (v := nI 1) hx hb dL_law_1245 (by decide) ?_
  refine k_iadd hx hb dL_law_1246 ?_
  refine k_sld hx hb hX hbl hbA hS (by omega) (by omega) dL_law_1247 ?_
  refine kb_i (va_runV (As := [.int (xs (i + 1))]) (rest := [.int r1]) ⟨hx, hb, hml, hown, hts⟩ (qX5_greet u σ (xs (i + 1)) hu) (cwV 1 hts gL_law_X5_greet rfl rfl rfl hvX5_greet ⟨Nat.le_of_ble_eq_true rfl, Nat.le_of_ble_eq_true rfl⟩) (kpreV hN (q := (RX5, TX5, 35)) (ci := 5) hK (va_P_r hP) (va_D_r hD) 0 rfl hmc) rfl rfl hl.1 rfl (lv_room (Nat.le_of_ble_eq_true rfl)) dL_law_1248 ⟨hC, hSS⟩) hP hD hS hA (fun r2 u1 H locs hr2 hP hD hS => ?_)
  replace hP := va_P_sw hP
  replace hD := va_D_sw hD
  refine lv_icmp_eq (tgt := 1338) hx hb dL_law_1251 (by decide) (fun _ => ?_) (fun c9 => absurd (hr1.1.trans hr2.1.symm) c9)
  exact hk v1 u1 _ H locs ls hr1.2.1 hr2.2.1 hr1.2.2 hr2.2.2 hP hD hS hl

set_option maxHeartbeats 1000000 in
set_option maxRecDepth 100000 in
theorem law_c29 {p : Program} {l : Launch} {e : Env} {s : State} {m : MethodId} {below : List Frame} {meth : Method} {c : Code} {dC : Nat → ClassId} {dI : Nat → Nat → Nat} {cI cJ cZ cS : ClassId} {b L : Nat} {xs : Nat → Int32} (F : LawF p s m c b L xs) (hN : kN s) (hK : va_K (dC, dI) vwCl (kT cI cJ cZ cS) s) {i CC SS : Nat} {Q : State → Prop} (hC : CC + 0 ≤ room_1.cells) (hSS : SS + 0 ≤ room_1.slots) (hi : i + 6 ≤ L) (v : XV) (u : MV) (σ : SSt) (hv : XRel v σ) (hu : MRel u σ) {H : Heap} {locs : List Loc} (hP : va_P (dC, dI) vwCl (mC cI cZ u σ ++ xC cI cJ cZ cS v σ) H) (hD : va_D (lawA s) (mC cI cZ u σ ++ xC cI cJ cZ cS v σ)) (hS : va_S (lawA s) s.heap H locs) {ls : Array Slot} (hl : lv_has ls 4 [(0, .ref b), (1, .ref (xAdr v)), (2, .ref (mAdr u)), (3, .int (nI i))]) (hk : LawK p l e s m below meth c dC dI cI cJ cZ cS b (xAdr v) (mAdr u) i CC SS Q) : W p l e room_1 s m #[Value.ref b] below meth c H locs CC SS Q (F0 m 1256 ls []) := by
  obtain ⟨hx, hb, hml, hown, hts, hX, hbl, hL⟩ := F
  have hA : ∀ q : Nat, s.heap.size ≤ q → lawA s q := fun _ h => h
  have hbA : ¬ lawA s b := Nat.not_le.mpr hbl
  obtain ⟨fx, hxc⟩ := xC_0 cI cJ cZ cS v σ
  obtain ⟨fm, hmc⟩ := mC_0 cI cZ u σ
  refine lv_aload_n hx hb dL_law_1256 rfl (lv_at hl 1 rfl) ?_
  refine lv_aload_n hx hb dL_law_1257 rfl (lv_at hl 0 rfl) ?_
  refine lv_iload_n hx hb dL_law_1258 rfl (lv_at hl 3 rfl) ?_
  refine lv_iconst (v := nI 1) hx hb dL_law_1259 (by decide) ?_
  refine k_iadd hx hb dL_law_1260 ?_
  refine k_sld hx hb hX hbl hbA hS (by omega) (by omega) dL_law_1261 ?_
  refine lv_aload_n hx hb dL_law_1262 rfl (lv_at hl 0 rfl) ?_
  refine lv_iload_n hx hb dL_law_1263 rfl (lv_at hl 3 rfl) ?_
  refine lv_iconst (v := nI 2) hx hb dL_law_1264 (by decide) ?_
  refine k_iadd hx hb dL_law_1265 ?_
  refine k_sld hx hb hX hbl hbA hS (by omega) (by omega) dL_law_1266 ?_
  refine kb_i (va_runV (As := [.int (xs (i + 1)), .int (xs (i + 2))]) (rest := []) ⟨hx, hb, hml, hown, hts⟩ (qX4_as v σ (xs (i + 1)) (xs (i + 2)) hv) (cwV 2 hts gL_law_X4_as rfl rfl rfl hvX4_as ⟨Nat.le_of_ble_eq_true rfl, Nat.le_of_ble_eq_true rfl⟩) (kpreV hN (q := (RX4, TX4, 13)) (ci := 4) hK (va_P_r hP) (va_D_r hD) 0 rfl hxc) rfl rfl hl.1 rfl (lv_room (Nat.le_of_ble_eq_true rfl)) dL_law_1267 ⟨hC, hSS⟩) hP hD hS hA (fun r1 v1 H locs hr1 hP hD hS => ?_)
  replace hP := va_P_sw hP
  replace hD := va_D_sw hD
  refine lv_aload_n hx hb dL_law_1270 rfl (lv_at hl 2 rfl) ?_
  refine lv_aload_n hx hb dL_law_1271 rfl (lv_at hl 0 rfl) ?_
  refine lv_iload_n hx hb dL_law_1272 rfl (lv_at hl 3 rfl) ?_
  refine lv_iconst (v := nI 1) hx hb dL_law_1273 (by decide) ?_
  refine k_iadd hx hb dL_law_1274 ?_
  refine k_sld hx hb hX hbl hbA hS (by omega) (by omega) dL_law_1275 ?_
  refine lv_aload_n hx hb dL_law_1276 rfl (lv_at hl 0 rfl) ?_
  refine lv_iload_n hx hb dL_law_1277 rfl (lv_at hl 3 rfl) ?_
  refine lv_iconst (v := nI 2) hx hb dL_law_1278 (by decide) ?_
  refine k_iadd hx hb dL_law_1279 ?_
  refine k_sld hx hb hX hbl hbA hS (by omega) (by omega) dL_law_1280 ?_
  refine kb_i (va_runV (As := [.int (xs (i + 1)), .int (xs (i + 2))]) (rest := [.int r1]) ⟨hx, hb, hml, hown, hts⟩ (qX5_as u σ (xs (i + 1)) (xs (i + 2)) hu) (cwV 2 hts gL_law_X5_as rfl rfl rfl hvX5_as ⟨Nat.le_of_ble_eq_true rfl, Nat.le_of_ble_eq_true rfl⟩) (kpreV hN (q := (RX5, TX5, 35)) (ci := 5) hK (va_P_r hP) (va_D_r hD) 0 rfl hmc) rfl rfl hl.1 rfl (lv_room (Nat.le_of_ble_eq_true rfl)) dL_law_1281 ⟨hC, hSS⟩) hP hD hS hA (fun r2 u1 H locs hr2 hP hD hS => ?_)
  replace hP := va_P_sw hP
  replace hD := va_D_sw hD
  refine lv_icmp_eq (tgt := 1338) hx hb dL_law_1284 (by decide) (fun _ => ?_) (fun c9 => absurd (hr1.1.trans hr2.1.symm) c9)
  exact hk v1 u1 _ H locs ls hr1.2.1 hr2.2.1 hr1.2.2 hr2.2.2 hP hD hS hl

set_option maxHeartbeats 1000000 in
set_option maxRecDepth 100000 in
theorem law_c30 {p : Program} {l : Launch} {e : Env} {s : State} {m : MethodId} {below : List Frame} {meth : Method} {c : Code} {dC : Nat → ClassId} {dI : Nat → Nat → Nat} {cI cJ cZ cS : ClassId} {b L : Nat} {xs : Nat → Int32} (F : LawF p s m c b L xs) (hN : kN s) (hK : va_K (dC, dI) vwCl (kT cI cJ cZ cS) s) {i CC SS : Nat} {Q : State → Prop} (hC : CC + 0 ≤ room_1.cells) (hSS : SS + 0 ≤ room_1.slots) (hi : i + 6 ≤ L) (v : XV) (u : MV) (σ : SSt) (hv : XRel v σ) (hu : MRel u σ) {H : Heap} {locs : List Loc} (hP : va_P (dC, dI) vwCl (mC cI cZ u σ ++ xC cI cJ cZ cS v σ) H) (hD : va_D (lawA s) (mC cI cZ u σ ++ xC cI cJ cZ cS v σ)) (hS : va_S (lawA s) s.heap H locs) {ls : Array Slot} (hl : lv_has ls 4 [(0, .ref b), (1, .ref (xAdr v)), (2, .ref (mAdr u)), (3, .int (nI i))]) (hk : LawK p l e s m below meth c dC dI cI cJ cZ cS b (xAdr v) (mAdr u) i CC SS Q) : W p l e room_1 s m #[Value.ref b] below meth c H locs CC SS Q (F0 m 1289 ls []) := by
  obtain ⟨hx, hb, hml, hown, hts, hX, hbl, hL⟩ := F
  have hA : ∀ q : Nat, s.heap.size ≤ q → lawA s q := fun _ h => h
  have hbA : ¬ lawA s b := Nat.not_le.mpr hbl
  obtain ⟨fx, hxc⟩ := xC_0 cI cJ cZ cS v σ
  obtain ⟨fm, hmc⟩ := mC_0 cI cZ u σ
  refine lv_aload_n hx hb dL_law_1289 rfl (lv_at hl 1 rfl) ?_
  refine kb_i (va_runV (As := []) (rest := []) ⟨hx, hb, hml, hown, hts⟩ (qX4_trace v σ  hv) (cwV 0 hts gL_law_X4_trace rfl rfl rfl hvX4_trace ⟨Nat.le_of_ble_eq_true rfl, Nat.le_of_ble_eq_true rfl⟩) (kpreV hN (q := (RX4, TX4, 13)) (ci := 4) hK (va_P_r hP) (va_D_r hD) 0 rfl hxc) rfl rfl hl.1 rfl (lv_room (Nat.le_of_ble_eq_true rfl)) dL_law_1290 ⟨hC, hSS⟩) hP hD hS hA (fun r1 v1 H locs hr1 hP hD hS => ?_)
  replace hP := va_P_sw hP
  replace hD := va_D_sw hD
  refine lv_aload_n hx hb dL_law_1293 rfl (lv_at hl 2 rfl) ?_
  refine kb_i (va_runV (As := []) (rest := [.int r1]) ⟨hx, hb, hml, hown, hts⟩ (qX5_trace u σ  hu) (cwV 0 hts gL_law_X5_trace rfl rfl rfl hvX5_trace ⟨Nat.le_of_ble_eq_true rfl, Nat.le_of_ble_eq_true rfl⟩) (kpreV hN (q := (RX5, TX5, 35)) (ci := 5) hK (va_P_r hP) (va_D_r hD) 0 rfl hmc) rfl rfl hl.1 rfl (lv_room (Nat.le_of_ble_eq_true rfl)) dL_law_1294 ⟨hC, hSS⟩) hP hD hS hA (fun r2 u1 H locs hr2 hP hD hS => ?_)
  replace hP := va_P_sw hP
  replace hD := va_D_sw hD
  refine lv_icmp_eq (tgt := 1338) hx hb dL_law_1297 (by decide) (fun _ => ?_) (fun c9 => absurd (hr1.1.trans hr2.1.symm) c9)
  exact hk v1 u1 _ H locs ls hr1.2.1 hr2.2.1 hr1.2.2 hr2.2.2 hP hD hS hl

set_option maxHeartbeats 1000000 in
set_option maxRecDepth 100000 in
theorem law_c31 {p : Program} {l : Launch} {e : Env} {s : State} {m : MethodId} {below : List Frame} {meth : Method} {c : Code} {dC : Nat → ClassId} {dI : Nat → Nat → Nat} {cI cJ cZ cS : ClassId} {b L : Nat} {xs : Nat → Int32} (F : LawF p s m c b L xs) (hN : kN s) (hK : va_K (dC, dI) vwCl (kT cI cJ cZ cS) s) {i CC SS : Nat} {Q : State → Prop} (hC : CC + 0 ≤ room_1.cells) (hSS : SS + 0 ≤ room_1.slots) (hi : i + 6 ≤ L) (v : XV) (u : MV) (σ : SSt) (hv : XRel v σ) (hu : MRel u σ) {H : Heap} {locs : List Loc} (hP : va_P (dC, dI) vwCl (mC cI cZ u σ ++ xC cI cJ cZ cS v σ) H) (hD : va_D (lawA s) (mC cI cZ u σ ++ xC cI cJ cZ cS v σ)) (hS : va_S (lawA s) s.heap H locs) {ls : Array Slot} (hl : lv_has ls 4 [(0, .ref b), (1, .ref (xAdr v)), (2, .ref (mAdr u)), (3, .int (nI i))]) (hk : LawK p l e s m below meth c dC dI cI cJ cZ cS b (xAdr v) (mAdr u) i CC SS Q) : W p l e room_1 s m #[Value.ref b] below meth c H locs CC SS Q (F0 m 1302 ls []) := by
  obtain ⟨hx, hb, hml, hown, hts, hX, hbl, hL⟩ := F
  have hA : ∀ q : Nat, s.heap.size ≤ q → lawA s q := fun _ h => h
  have hbA : ¬ lawA s b := Nat.not_le.mpr hbl
  obtain ⟨fx, hxc⟩ := xC_0 cI cJ cZ cS v σ
  obtain ⟨fm, hmc⟩ := mC_0 cI cZ u σ
  refine lv_aload_n hx hb dL_law_1302 rfl (lv_at hl 1 rfl) ?_
  refine kb_i (va_runV (As := []) (rest := []) ⟨hx, hb, hml, hown, hts⟩ (qX4_fault v σ  hv) (cwV 0 hts gL_law_X4_fault rfl rfl rfl hvX4_fault ⟨Nat.le_of_ble_eq_true rfl, Nat.le_of_ble_eq_true rfl⟩) (kpreV hN (q := (RX4, TX4, 13)) (ci := 4) hK (va_P_r hP) (va_D_r hD) 0 rfl hxc) rfl rfl hl.1 rfl (lv_room (Nat.le_of_ble_eq_true rfl)) dL_law_1303 ⟨hC, hSS⟩) hP hD hS hA (fun r1 v1 H locs hr1 hP hD hS => ?_)
  replace hP := va_P_sw hP
  replace hD := va_D_sw hD
  refine lv_aload_n hx hb dL_law_1306 rfl (lv_at hl 2 rfl) ?_
  refine kb_i (va_runV (As := []) (rest := [.int r1]) ⟨hx, hb, hml, hown, hts⟩ (qX5_fault u σ  hu) (cwV 0 hts gL_law_X5_fault rfl rfl rfl hvX5_fault ⟨Nat.le_of_ble_eq_true rfl, Nat.le_of_ble_eq_true rfl⟩) (kpreV hN (q := (RX5, TX5, 35)) (ci := 5) hK (va_P_r hP) (va_D_r hD) 0 rfl hmc) rfl rfl hl.1 rfl (lv_room (Nat.le_of_ble_eq_true rfl)) dL_law_1307 ⟨hC, hSS⟩) hP hD hS hA (fun r2 u1 H locs hr2 hP hD hS => ?_)
  replace hP := va_P_sw hP
  replace hD := va_D_sw hD
  refine lv_icmp_eq (tgt := 1338) hx hb dL_law_1310 (by decide) (fun _ => ?_) (fun c9 => absurd (hr1.1.trans hr2.1.symm) c9)
  exact hk v1 u1 _ H locs ls hr1.2.1 hr2.2.1 hr1.2.2 hr2.2.2 hP hD hS hl

set_option maxHeartbeats 1000000 in
set_option maxRecDepth 100000 in
theorem law_c32 {p : Program} {l : Launch} {e : Env} {s : State} {m : MethodId} {below : List Frame} {meth : Method} {c : Code} {dC : Nat → ClassId} {dI : Nat → Nat → Nat} {cI cJ cZ cS : ClassId} {b L : Nat} {xs : Nat → Int32} (F : LawF p s m c b L xs) (hN : kN s) (hK : va_K (dC, dI) vwCl (kT cI cJ cZ cS) s) {i CC SS : Nat} {Q : State → Prop} (hC : CC + 0 ≤ room_1.cells) (hSS : SS + 0 ≤ room_1.slots) (hi : i + 6 ≤ L) (v : XV) (u : MV) (σ : SSt) (hv : XRel v σ) (hu : MRel u σ) {H : Heap} {locs : List Loc} (hP : va_P (dC, dI) vwCl (mC cI cZ u σ ++ xC cI cJ cZ cS v σ) H) (hD : va_D (lawA s) (mC cI cZ u σ ++ xC cI cJ cZ cS v σ)) (hS : va_S (lawA s) s.heap H locs) {ls : Array Slot} (hl : lv_has ls 4 [(0, .ref b), (1, .ref (xAdr v)), (2, .ref (mAdr u)), (3, .int (nI i))]) (hk : LawK p l e s m below meth c dC dI cI cJ cZ cS b (xAdr v) (mAdr u) i CC SS Q) : W p l e room_1 s m #[Value.ref b] below meth c H locs CC SS Q (F0 m 1315 ls []) := by
  obtain ⟨hx, hb, hml, hown, hts, hX, hbl, hL⟩ := F
  have hA : ∀ q : Nat, s.heap.size ≤ q → lawA s q := fun _ h => h
  have hbA : ¬ lawA s b := Nat.not_le.mpr hbl
  obtain ⟨fx, hxc⟩ := xC_0 cI cJ cZ cS v σ
  obtain ⟨fm, hmc⟩ := mC_0 cI cZ u σ
  refine lv_aload_n hx hb dL_law_1315 rfl (lv_at hl 1 rfl) ?_
  refine lv_aload_n hx hb dL_law_1316 rfl (lv_at hl 0 rfl) ?_
  refine lv_iload_n hx hb dL_law_1317 rfl (lv_at hl 3 rfl) ?_
  refine lv_iconst (v := nI 1) hx hb dL_law_1318 (by decide) ?_
  refine k_iadd hx hb dL_law_1319 ?_
  refine k_sld hx hb hX hbl hbA hS (by omega) (by omega) dL_law_1320 ?_
  refine kb_i (va_runV (As := [.int (xs (i + 1))]) (rest := []) ⟨hx, hb, hml, hown, hts⟩ (qX4_many v σ (xs (i + 1)) hv) (cwV 1 hts gL_law_X4_many rfl rfl rfl hvX4_many ⟨Nat.le_of_ble_eq_true rfl, Nat.le_of_ble_eq_true rfl⟩) (kpreV hN (q := (RX4, TX4, 13)) (ci := 4) hK (va_P_r hP) (va_D_r hD) 0 rfl hxc) rfl rfl hl.1 rfl (lv_room (Nat.le_of_ble_eq_true rfl)) dL_law_1321 ⟨hC, hSS⟩) hP hD hS hA (fun r1 v1 H locs hr1 hP hD hS => ?_)
  replace hP := va_P_sw hP
  replace hD := va_D_sw hD
  refine lv_aload_n hx hb dL_law_1324 rfl (lv_at hl 2 rfl) ?_
  refine lv_aload_n hx hb dL_law_1325 rfl (lv_at hl 0 rfl) ?_
  refine lv_iload_n hx hb dL_law_1326 rfl (lv_at hl 3 rfl) ?_
  refine lv_iconst (v := nI 1) hx hb dL_law_1327 (by decide) ?_
  refine k_iadd hx hb dL_law_1328 ?_
  refine k_sld hx hb hX hbl hbA hS (by omega) (by omega) dL_law_1329 ?_
  refine kb_i (va_runV (As := [.int (xs (i + 1))]) (rest := [.int r1]) ⟨hx, hb, hml, hown, hts⟩ (qX5_many u σ (xs (i + 1)) hu) (cwV 1 hts gL_law_X5_many rfl rfl rfl hvX5_many ⟨Nat.le_of_ble_eq_true rfl, Nat.le_of_ble_eq_true rfl⟩) (kpreV hN (q := (RX5, TX5, 35)) (ci := 5) hK (va_P_r hP) (va_D_r hD) 0 rfl hmc) rfl rfl hl.1 rfl (lv_room (Nat.le_of_ble_eq_true rfl)) dL_law_1330 ⟨hC, hSS⟩) hP hD hS hA (fun r2 u1 H locs hr2 hP hD hS => ?_)
  replace hP := va_P_sw hP
  replace hD := va_D_sw hD
  refine lv_icmp_eq (tgt := 1338) hx hb dL_law_1333 (by decide) (fun _ => ?_) (fun c9 => absurd (hr1.1.trans hr2.1.symm) c9)
  exact hk v1 u1 _ H locs ls hr1.2.1 hr2.2.1 hr1.2.2 hr2.2.2 hP hD hS hl
