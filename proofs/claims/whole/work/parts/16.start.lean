/-! starts of the public contracts: as kstartW, with what the method's cells are -/
theorem kstartP_i {l : Launch} {y : MethodName} {wds wds' : List Cond} {rm : Room} {av : List Value} {D : va_G} {tys : List (ClassId × FieldType)} {ws : va_W} {S : Type} {post : Int32 → S → Prop} {B : S → State → Prop} {cc : ByteArray} {maxL mc ms : Nat} {sz : Nat}
    (hy : plainName y.cls = true) (hw : wds = Cond.code y cc maxL (some .int) :: wds') (hlen : (lg_sl av).length ≤ maxL)
    (body : ∀ (p : Program) (e : Env) (s : State) (m : MethodId) (below : List Frame) (meth : Method) (c : Code) (args : Array Value) (Q : State → Prop) (A : Nat → Prop), p.tables.exec = Jvm.exec → c.code = cc → c.maxLocals = maxL → (∀ w ∈ wds, w.before args s = true) → s.vm.findClass y.cls = some m.cls → kN s → va_K D vwCl tys s → va_P D vwCl ws s.heap → va_D A ws → va_S A s.heap s.heap [] → (∀ q : Nat, s.heap.size ≤ q → A q) → (y.name = "<init>" → meth.name = "<init>") → (∀ q, A q → va_A ws sz q) →
      (∀ (pc : Nat) (ls : Array Slot) (v : Int32) (u : S) (H : Heap) (locs : List Loc), decode cc pc = .ok (.ireturn, 1) → va_S A s.heap H locs → (∀ t : State, t.heap = H → s.WarmedH t.vm → B u t) → post v u → W p l e rm s m args below meth c H locs mc ms Q (F0 m pc ls [.int v])) → ∀ ls : Array Slot, lv_has ls maxL (lv_args 0 av) →
      W p l e rm s m args below meth c s.heap [] 0 0 Q (F0 m 0 ls [])) : Met l y wds rm (va_Pc av (kPre D tys ws sz)) (va_Qi post B (va_A ws sz)) mc ms (va_A ws sz) := by
  refine Met.ofW (cc := cc) (maxL := maxL) (ret := some .int) hy hw ?_
  intro p e s m args below meth c s₁ Bd hml hv
  obtain ⟨rfl, hsz, hP, hK, hD0, hN⟩ := hv
  subst hsz
  rw [lg_entry_eq]
  exact body p e s m below meth c _ _ (va_A ws s.heap.size) Bd.exec Bd.bytes hml (atoms_spec (ws := wds) Bd.pre) (findClass_of_methodNamed Bd.named) hN hK hP hD0.self va_S.rf (fun q h => Or.inr h) (fun h => (name_of_methodNamed Bd.named Bd.method).1.trans h) (fun _ h => h) (fun pc ls v u H locs hd hS hB hq => k_iretW u Bd.exec Bd.bytes Bd.returns Bd.notSynchronized hd hS hB hq) _ (lv_entry av hlen)
theorem kstartP_l {l : Launch} {y : MethodName} {wds wds' : List Cond} {rm : Room} {av : List Value} {D : va_G} {tys : List (ClassId × FieldType)} {ws : va_W} {S : Type} {post : Int64 → S → Prop} {B : S → State → Prop} {cc : ByteArray} {maxL mc ms : Nat} {sz : Nat}
    (hy : plainName y.cls = true) (hw : wds = Cond.code y cc maxL (some .long) :: wds') (hlen : (lg_sl av).length ≤ maxL)
    (body : ∀ (p : Program) (e : Env) (s : State) (m : MethodId) (below : List Frame) (meth : Method) (c : Code) (args : Array Value) (Q : State → Prop) (A : Nat → Prop), p.tables.exec = Jvm.exec → c.code = cc → c.maxLocals = maxL → (∀ w ∈ wds, w.before args s = true) → s.vm.findClass y.cls = some m.cls → kN s → va_K D vwCl tys s → va_P D vwCl ws s.heap → va_D A ws → va_S A s.heap s.heap [] → (∀ q : Nat, s.heap.size ≤ q → A q) → (y.name = "<init>" → meth.name = "<init>") → (∀ q, A q → va_A ws sz q) →
      (∀ (pc : Nat) (ls : Array Slot) (v : Int64) (u : S) (H : Heap) (locs : List Loc), decode cc pc = .ok (.lreturn, 1) → va_S A s.heap H locs → (∀ t : State, t.heap = H → s.WarmedH t.vm → B u t) → post v u → W p l e rm s m args below meth c H locs mc ms Q (F0 m pc ls [.long v])) → ∀ ls : Array Slot, lv_has ls maxL (lv_args 0 av) →
      W p l e rm s m args below meth c s.heap [] 0 0 Q (F0 m 0 ls [])) : Met l y wds rm (va_Pc av (kPre D tys ws sz)) (va_Ql post B (va_A ws sz)) mc ms (va_A ws sz) := by
  refine Met.ofW (cc := cc) (maxL := maxL) (ret := some .long) hy hw ?_
  intro p e s m args below meth c s₁ Bd hml hv
  obtain ⟨rfl, hsz, hP, hK, hD0, hN⟩ := hv
  subst hsz
  rw [lg_entry_eq]
  exact body p e s m below meth c _ _ (va_A ws s.heap.size) Bd.exec Bd.bytes hml (atoms_spec (ws := wds) Bd.pre) (findClass_of_methodNamed Bd.named) hN hK hP hD0.self va_S.rf (fun q h => Or.inr h) (fun h => (name_of_methodNamed Bd.named Bd.method).1.trans h) (fun _ h => h) (fun pc ls v u H locs hd hS hB hq => k_lretW u Bd.exec Bd.bytes Bd.returns Bd.notSynchronized hd hS hB hq) _ (lv_entry av hlen)
theorem pub_PD {α : Type} {D : va_G} {cI cJ cZ cS : ClassId} {x : α × SSt} {v : α} {s1 : SSt} {u : XV} {H : Heap} {s : State} {zA zB : Nat → Prop} (e : x = (v, s1)) (h : va_P D vwCl (xC cI cJ cZ cS u s1) H) (hD : va_D zA (xC cI cJ cZ cS u s1)) (hA : ∀ q, zA q → zB q) : ∀ t : State, t.heap = H → s.WarmedH t.vm → va_P D vwCl (xC cI cJ cZ cS u x.2) t.heap ∧ va_D zB (xC cI cJ cZ cS u x.2) := by
  intro t ht _
  subst e
  rw [ht]
  exact ⟨h, hD.weaken (fun _ q _ h9 => hA _ h9)⟩
theorem pub_end3 {α S : Type} {x : α × S} {v : α} {s1 : S} {R : S → Prop} {a b : Nat} (e : x = (v, s1)) (h : R s1) (ha : a = b) : v = x.1 ∧ R x.2 ∧ a = b := by
  subst e
  exact ⟨rfl, h, ha⟩
