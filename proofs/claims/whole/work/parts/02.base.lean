/-! base rows: option terms taken apart; contracts of one form; frames; calls -/
theorem oo_t {α : Type} {c : Prop} [Decidable c] {a b x : α} (h : (if c then a else b) = x) (hc : c) : a = x := (if_pos hc).symm.trans h
theorem oo_f {α : Type} {c : Prop} [Decidable c] {a b x : α} (h : (if c then a else b) = x) (hc : ¬ c) : b = x := (if_neg hc).symm.trans h
theorem oo_g {α : Type} {c : Prop} [Decidable c] {b : Option α} {x : α} (h : (if c then none else b) = some x) : ¬ c ∧ b = some x := by
  by_cases hc : c
  · rw [if_pos hc] at h; cases h
  · rw [if_neg hc] at h; exact ⟨hc, h⟩
theorem oo_b {α β : Type} {a : Option α} {f : α → Option β} {x : β} (h : a.bind f = some x) : ∃ v, a = some v ∧ f v = some x := by
  cases a with
  | none => cases h
  | some v => exact ⟨v, rfl, h⟩
theorem oo_n {α : Type} {a : α} {P : Prop} (h : (none : Option α) = some a) : P := by cases h
theorem oo_s {α : Type} {a b : α} (h : some a = some b) : a = b := Option.some.inj h
theorem fm_of_map {α β : Type} {f : α → Option β} : ∀ {is : List α} {l : List β}, is.map f = l.map some → is.filterMap f = l := by
  intro is
  induction is with
  | nil => intro l h; cases l with
    | nil => rfl
    | cons a l => simp at h
  | cons i is ih => intro l h; cases l with
    | nil => simp at h
    | cons a l =>
      simp only [List.map_cons, List.cons.injEq] at h
      rw [List.filterMap_cons, h.1, ih h.2]
theorem hat {Ts : List Cond} {args : Array Value} {s : State} (hts : ∀ w ∈ Ts, w.before args s = true) (i : Nat) {w : Cond} (h : Ts[i]? = some w) : w.before args s = true := hts w (List.mem_of_getElem? h)
abbrev tyIJ (cI cJ : ClassId) : List (ClassId × FieldType) := [(cI, .int), (cJ, .long)]
/-- the links to private members of nest mates -/
def NSt (U : State) : Prop := va_Nw (.methodLinkNest RX5 39 yX1_init RX5) U ∧ va_Nw (.methodLinkNest RX3 25 yX5_isVariant RX5) U ∧ va_Nw (.methodLinkNest RX0 15 yX5_isPlace RX5) U ∧ va_Nw (.methodLinkNest RX3 29 yX5_isPlace RX5) U
theorem NSt.warm {s U : State} (hW : s.WarmedH U.vm) (h : NSt s) : NSt U := ⟨va_Nw.warmM hW h.1, va_Nw.warmM hW h.2.1, va_Nw.warmM hW h.2.2.1, va_Nw.warmM hW h.2.2.2⟩
theorem NSt.same {u U : State} (e : u.vm = U.vm) (h : NSt u) : NSt U := ⟨va_Nw.same rfl e h.1, va_Nw.same rfl e h.2.1, va_Nw.same rfl e h.2.2.1, va_Nw.same rfl e h.2.2.2⟩
def wPre (D : va_G) (cI cJ : ClassId) (w : va_W) (sz : Nat) (U : State) : Prop := U.heap.size = sz ∧ va_P D vwCl w U.heap ∧ va_K D vwCl (tyIJ cI cJ) U ∧ va_D (fun _ => True) w ∧ NSt U
def wPost (D : va_G) (cI cJ : ClassId) (A : Nat → Prop) (w : va_W) (t : State) : Prop := va_P D vwCl w t.heap ∧ va_K D vwCl (tyIJ cI cJ) t ∧ va_D A w
theorem wPre_blind {av : List Value} {D : va_G} {cI cJ : ClassId} {w : va_W} {sz : Nat} : FrameBlind (va_Pc av (wPre D cI cJ w sz)) := fun a U g mk q => by
  obtain ⟨q0, q1, qP, qK, qD, qN⟩ := q
  exact ⟨q0, q1, qP, va_K.moved (u := U) (U := U.calling g mk a) (Vm.Alike.refl U.vm) qK, qD, NSt.same (u := U) (U := U.calling g mk a) rfl qN⟩
abbrev CtI (l : Launch) (y : MethodName) (ws : List Cond) (rm : Room) (D : va_G) (cI cJ : ClassId) (av : List Value) (w : va_W) (sz : Nat) (res : Int32) (w' : va_W) : Prop := Met l y ws rm (va_Pc av (wPre D cI cJ w sz)) (va_Qi (fun r (_ : Unit) => r = res) (fun _ => wPost D cI cJ (va_A w sz) w') (va_A w sz)) 0 0 (va_A w sz)
abbrev CtZ (l : Launch) (y : MethodName) (ws : List Cond) (rm : Room) (D : va_G) (cI cJ : ClassId) (av : List Value) (w : va_W) (sz : Nat) (res : Int32) (w' : va_W) : Prop := Met l y ws rm (va_Pc av (wPre D cI cJ w sz)) (va_Qi (fun r (_ : Unit) => r = res ∧ (res = 0 ∨ res = 1)) (fun _ => wPost D cI cJ (va_A w sz) w') (va_A w sz)) 0 0 (va_A w sz)
abbrev CtL (l : Launch) (y : MethodName) (ws : List Cond) (rm : Room) (D : va_G) (cI cJ : ClassId) (av : List Value) (w : va_W) (sz : Nat) (res : Int64) (w' : va_W) : Prop := Met l y ws rm (va_Pc av (wPre D cI cJ w sz)) (va_Ql (fun r (_ : Unit) => r = res) (fun _ => wPost D cI cJ (va_A w sz) w') (va_A w sz)) 0 0 (va_A w sz)
abbrev CtV (l : Launch) (y : MethodName) (ws : List Cond) (rm : Room) (D : va_G) (cI cJ : ClassId) (av : List Value) (w : va_W) (sz : Nat) (w' : va_W) : Prop := Met l y ws rm (va_Pc av (wPre D cI cJ w sz)) (va_Qv (fun (_ : Unit) => True) (fun _ => wPost D cI cJ (va_A w sz) w') (va_A w sz)) 0 0 (va_A w sz)
section CT
variable {l : Launch} {y : MethodName} {ws ws' : List Cond} {rm : Room} {D : va_G} {cI cJ : ClassId} {av : List Value} {w w' : va_W} {sz : Nat} {cc : ByteArray} {maxL : Nat}
theorem ctI_of {res : Int32} (hy : plainName y.cls = true) (hw : ws = Cond.code y cc maxL (some .int) :: ws') (hlen : (lg_sl av).length ≤ maxL)
    (body : ∀ (p : Program) (e : Env) (s : State) (m : MethodId) (below : List Frame) (meth : Method) (c : Code) (Q : State → Prop) (A : Nat → Prop), p.tables.exec = Jvm.exec → c.code = cc → c.maxLocals = maxL → s.vm.findClass y.cls = some m.cls → (∀ w ∈ ws, w.before av.toArray s = true) → va_K D vwCl (tyIJ cI cJ) s → NSt s → (∀ q, s.heap.size ≤ q → A q) →
      (∀ (pc : Nat) (ls : Array Slot) (H : Heap) (locs : List Loc), decode cc pc = .ok (.ireturn, 1) → va_P D vwCl w' H → va_D A w' → va_S A s.heap H locs → W p l e rm s m av.toArray below meth c H locs 0 0 Q (F0 m pc ls [.int res])) →
      ∀ ls : Array Slot, lv_has ls maxL (lv_args 0 av) → va_P D vwCl w s.heap → va_D A w → va_S A s.heap s.heap [] → W p l e rm s m av.toArray below meth c s.heap [] 0 0 Q (F0 m 0 ls [])) : CtI l y ws rm D cI cJ av w sz res w' := by
  refine Met.ofW (cc := cc) (maxL := maxL) (ret := some .int) hy hw ?_
  intro p e s m args below meth c s₁ B hml hv
  obtain ⟨rfl, hsz, hP, hK, hD0, hN⟩ := hv
  subst hsz
  rw [lg_entry_eq]
  have hlocks := B.notSynchronized
  exact body p e s m below meth c _ (va_A w s.heap.size) B.exec B.bytes hml (findClass_of_methodNamed B.named) (atoms_spec (ws := ws) B.pre) hK hN (fun q h => Or.inr h)
    (fun pc ls H locs hdg hP hD hS => W.iret (v := res) B.exec B.bytes B.returns (fun t ht hW => ⟨⟨res, (), rfl, rfl, by rw [ht]; exact hP, va_K.moved hW.alike hK, hD⟩, hS.F ht⟩) hS.2.2 hdg) _ (lv_entry av hlen) hP hD0.self va_S.rf
theorem ctZ_of {res : Int32} (hy : plainName y.cls = true) (hw : ws = Cond.code y cc maxL (some .boolean) :: ws') (hlen : (lg_sl av).length ≤ maxL)
    (body : ∀ (p : Program) (e : Env) (s : State) (m : MethodId) (below : List Frame) (meth : Method) (c : Code) (Q : State → Prop) (A : Nat → Prop), p.tables.exec = Jvm.exec → c.code = cc → c.maxLocals = maxL → s.vm.findClass y.cls = some m.cls → (∀ w ∈ ws, w.before av.toArray s = true) → va_K D vwCl (tyIJ cI cJ) s → NSt s → (∀ q, s.heap.size ≤ q → A q) →
      (∀ (pc : Nat) (ls : Array Slot) (H : Heap) (locs : List Loc), (res = 0 ∨ res = 1) → decode cc pc = .ok (.ireturn, 1) → va_P D vwCl w' H → va_D A w' → va_S A s.heap H locs → W p l e rm s m av.toArray below meth c H locs 0 0 Q (F0 m pc ls [.int res])) →
      ∀ ls : Array Slot, lv_has ls maxL (lv_args 0 av) → va_P D vwCl w s.heap → va_D A w → va_S A s.heap s.heap [] → W p l e rm s m av.toArray below meth c s.heap [] 0 0 Q (F0 m 0 ls [])) : CtZ l y ws rm D cI cJ av w sz res w' := by
  refine Met.ofW (cc := cc) (maxL := maxL) (ret := some .boolean) hy hw ?_
  intro p e s m args below meth c s₁ B hml hv
  obtain ⟨rfl, hsz, hP, hK, hD0, hN⟩ := hv
  subst hsz
  rw [lg_entry_eq]
  have hlocks := B.notSynchronized
  exact body p e s m below meth c _ (va_A w s.heap.size) B.exec B.bytes hml (findClass_of_methodNamed B.named) (atoms_spec (ws := ws) B.pre) hK hN (fun q h => Or.inr h)
    (fun pc ls H locs hb hdg hP hD hS => W.zret (v := res) (ty := .boolean) B.exec B.bytes B.returns (by rcases hb with rfl | rfl <;> decide) (fun t ht hW => ⟨⟨res, (), rfl, ⟨rfl, hb⟩, by rw [ht]; exact hP, va_K.moved hW.alike hK, hD⟩, hS.F ht⟩) hS.2.2 hdg) _ (lv_entry av hlen) hP hD0.self va_S.rf
theorem ctL_of {res : Int64} (hy : plainName y.cls = true) (hw : ws = Cond.code y cc maxL (some .long) :: ws') (hlen : (lg_sl av).length ≤ maxL)
    (body : ∀ (p : Program) (e : Env) (s : State) (m : MethodId) (below : List Frame) (meth : Method) (c : Code) (Q : State → Prop) (A : Nat → Prop), p.tables.exec = Jvm.exec → c.code = cc → c.maxLocals = maxL → s.vm.findClass y.cls = some m.cls → (∀ w ∈ ws, w.before av.toArray s = true) → va_K D vwCl (tyIJ cI cJ) s → NSt s → (∀ q, s.heap.size ≤ q → A q) →
      (∀ (pc : Nat) (ls : Array Slot) (H : Heap) (locs : List Loc), decode cc pc = .ok (.lreturn, 1) → va_P D vwCl w' H → va_D A w' → va_S A s.heap H locs → W p l e rm s m av.toArray below meth c H locs 0 0 Q (F0 m pc ls [.long res])) →
      ∀ ls : Array Slot, lv_has ls maxL (lv_args 0 av) → va_P D vwCl w s.heap → va_D A w → va_S A s.heap s.heap [] → W p l e rm s m av.toArray below meth c s.heap [] 0 0 Q (F0 m 0 ls [])) : CtL l y ws rm D cI cJ av w sz res w' := by
  refine Met.ofW (cc := cc) (maxL := maxL) (ret := some .long) hy hw ?_
  intro p e s m args below meth c s₁ B hml hv
  obtain ⟨rfl, hsz, hP, hK, hD0, hN⟩ := hv
  subst hsz
  rw [lg_entry_eq]
  have hlocks := B.notSynchronized
  exact body p e s m below meth c _ (va_A w s.heap.size) B.exec B.bytes hml (findClass_of_methodNamed B.named) (atoms_spec (ws := ws) B.pre) hK hN (fun q h => Or.inr h)
    (fun pc ls H locs hdg hP hD hS => W.lret (v := res) B.exec B.bytes B.returns (fun t ht hW => ⟨⟨res, (), rfl, rfl, by rw [ht]; exact hP, va_K.moved hW.alike hK, hD⟩, hS.F ht⟩) hS.2.2 hdg) _ (lv_entry av hlen) hP hD0.self va_S.rf
theorem ctV_of (hy : plainName y.cls = true) (hw : ws = Cond.code y cc maxL none :: ws') (hlen : (lg_sl av).length ≤ maxL)
    (body : ∀ (p : Program) (e : Env) (s : State) (m : MethodId) (below : List Frame) (meth : Method) (c : Code) (Q : State → Prop) (A : Nat → Prop), p.tables.exec = Jvm.exec → c.code = cc → c.maxLocals = maxL → s.vm.findClass y.cls = some m.cls → (∀ w ∈ ws, w.before av.toArray s = true) → va_K D vwCl (tyIJ cI cJ) s → NSt s → (∀ q, s.heap.size ≤ q → A q) →
      (∀ (pc : Nat) (ls : Array Slot) (H : Heap) (locs : List Loc), decode cc pc = .ok (.return_, 1) → va_P D vwCl w' H → va_D A w' → va_S A s.heap H locs → W p l e rm s m av.toArray below meth c H locs 0 0 Q (F0 m pc ls [])) →
      ∀ ls : Array Slot, lv_has ls maxL (lv_args 0 av) → va_P D vwCl w s.heap → va_D A w → va_S A s.heap s.heap [] → W p l e rm s m av.toArray below meth c s.heap [] 0 0 Q (F0 m 0 ls [])) : CtV l y ws rm D cI cJ av w sz w' := by
  refine Met.ofW (cc := cc) (maxL := maxL) (ret := none) hy hw ?_
  intro p e s m args below meth c s₁ B hml hv
  obtain ⟨rfl, hsz, hP, hK, hD0, hN⟩ := hv
  subst hsz
  rw [lg_entry_eq]
  have hlocks := B.notSynchronized
  exact body p e s m below meth c _ (va_A w s.heap.size) B.exec B.bytes hml (findClass_of_methodNamed B.named) (atoms_spec (ws := ws) B.pre) hK hN (fun q h => Or.inr h)
    (fun pc ls H locs hdg hP hD hS => W.vret B.exec B.bytes B.returns (fun t ht hW => ⟨⟨(), rfl, trivial, by rw [ht]; exact hP, va_K.moved hW.alike hK, hD⟩, hS.F ht⟩) hS.2.2 hdg) _ (lv_entry av hlen) hP hD0.self va_S.rf
end CT
/-- a callee's world cut out of the caller's, and put back -/
def Fr (D : va_G) (A : Nat → Prop) (H : Heap) (wc wc' ws' : va_W) : Prop := va_P D vwCl wc H ∧ va_D A wc ∧ (∀ q, va_A wc H.size q → A q) ∧ ∀ H1 : Heap, (∀ q : Nat, q < H.size → ¬ va_A wc H.size q → H1[q]? = H[q]?) → va_P D vwCl wc' H1 → va_D (va_A wc H.size) wc' → va_P D vwCl ws' H1 ∧ va_D A ws'
theorem fr_of {D : va_G} {A : Nat → Prop} {ws wc wr wc' ws' : va_W} {H H0 : Heap} {locs : List Loc} (hP : va_P D vwCl ws H) (hD : va_D A ws) (hS : va_S A H0 H locs) (hA : ∀ q, H0.size ≤ q → A q) (isC isR perm : List Nat)
    (hC : isC.map (fun i => ws[i]?) = wc.map some) (hCn : va_nd isC = true) (hR : isR.map (fun i => ws[i]?) = wr.map some) (hn : va_nd isR = true) (hdis : ∀ i ∈ isR, i ∉ isC) (hp : perm.map (fun i => (wr ++ wc')[i]?) = ws'.map some) (hpn : va_nd perm = true) : Fr D A H wc wc' ws' := by
  have hF := va_free hD hS hA isC hC
  refine ⟨hP.sub isC (fm_of_map hC), hD.sub isC hCn hC, hF, fun H1 hk hP1 hD1 => ?_⟩
  obtain ⟨h1, h2⟩ := va_join hP hD isC isR hC hR hn hdis hk hF hP1 hD1
  exact ⟨h1.sub perm (fm_of_map hp), h2.sub perm hpn hp⟩
theorem fr_self {D : va_G} {A : Nat → Prop} {ws ws' : va_W} {H H0 : Heap} {locs : List Loc} (hP : va_P D vwCl ws H) (hD : va_D A ws) (hS : va_S A H0 H locs) (hA : ∀ q, H0.size ≤ q → A q) : Fr D A H ws ws' ws' := by
  have hF : ∀ q, va_A ws H.size q → A q := fun q h => by
    rcases h with ⟨k, e, h⟩ | h
    · exact hD.2 k (q, e) h
    · exact hA q (Nat.le_trans hS.1 h)
  exact ⟨hP, hD, hF, fun H1 hk hP1 hD1 => ⟨hP1, hD1.weaken (fun k q _ h => hF q.1 h)⟩⟩
theorem fr_nil {D : va_G} {A : Nat → Prop} {ws : va_W} {H H0 : Heap} {locs : List Loc} (hP : va_P D vwCl ws H) (hD : va_D A ws) (hS : va_S A H0 H locs) (hA : ∀ q, H0.size ≤ q → A q) : Fr D A H [] [] ws := by
  refine ⟨fun k q h => by simp at h, ⟨fun i j p q h => by simp at h, fun k q h => by simp at h⟩, fun q h => ?_, fun H1 hk hP1 hD1 => ⟨fun k q h => ?_, hD⟩⟩
  · rcases h with ⟨k, e, h⟩ | h
    · simp at h
    · exact hA q (Nat.le_trans hS.1 h)
  · have hl := (hP k q h).lt
    refine (hP k q h).kept (hk q.1 hl (fun z => ?_))
    rcases z with ⟨k, e, z⟩ | z
    · simp at z
    · omega
theorem fr_preS {s : State} {H : Heap} {A : Nat → Prop} {D : va_G} {cI cJ : ClassId} {wc : va_W} {av : List Value} (hK : va_K D vwCl (tyIJ cI cJ) s) (hN : NSt s) (hPc : va_P D vwCl wc H) (hDc : va_D A wc) : PreS s H (va_Pc av (wPre D cI cJ wc H.size)) av :=
  ⟨wPre_blind, fun U hU hW => ⟨rfl, by rw [hU], by rw [hU]; exact hPc, va_K.moved hW.alike hK, hDc.weaken (fun _ _ _ _ => trivial), NSt.warm hW hN⟩⟩
theorem fr_preV {s : State} {H : Heap} {A : Nat → Prop} {D : va_G} {cI cJ : ClassId} {wc : va_W} {b : Addr} {As : List Value} {ci : Nat} {fs : List Value} {q : vw_C} (hK : va_K D vwCl (tyIJ cI cJ) s) (hN : NSt s) (hPc : va_P D vwCl wc H) (hDc : va_D A wc) (hc : vwCl[ci]? = some q) (he : wc[0]? = some (b, .inr (ci, fs))) : PreV s H q.1 b (va_Pc (.ref b :: As) (wPre D cI cJ wc H.size)) As :=
  ⟨wPre_blind, va_recv hK hPc hc he, fun U hU hW => ⟨rfl, by rw [hU], by rw [hU]; exact hPc, va_K.moved hW.alike hK, hDc.weaken (fun _ _ _ _ => trivial), NSt.warm hW hN⟩⟩
section CALLS
variable {p : Program} {l : Launch} {e : Env} {R : Room} {s : State} {m : MethodId} {args : Array Value} {below : List Frame} {meth : Method} {c : Code} {H : Heap} {locs : List Loc} {cells slots : Nat} {Q : State → Prop}
variable {pc : Nat} {ls : Array Slot} {rest st0 : List Value} {a : Array Value} {A : Nat → Prop} {H0 : Heap} {D : va_G} {cI cJ : ClassId} {wc wc' ws' : va_W}
theorem kI {res : Int32} (F : Fr D A H wc wc' ws') (hS : va_S A H0 H locs) (hr : va_Run p l e R s m args below meth c H locs cells slots 0 0 (F0 m pc ls st0) rest (va_Qi (fun r (_ : Unit) => r = res) (fun _ => wPost D cI cJ (va_A wc H.size) wc') (va_A wc H.size) a) (va_A wc H.size))
    (kk : ∀ (H1 : Heap) (locs1 : List Loc), va_P D vwCl ws' H1 → va_D A ws' → va_S A H0 H1 locs1 → W p l e R s m args below meth c H1 locs1 cells slots Q (F0 m (pc + 3) ls (.int res :: rest))) : W p l e R s m args below meth c H locs cells slots Q (F0 m pc ls st0) := by
  obtain ⟨hPc, hDc, hFc, hJ⟩ := F
  refine va_calli hr hS (fun q _ h => hFc q h) hFc (fun r u t H1 locs1 ht hvm hw hB hz1 hk1 hS1 => ?_)
  obtain ⟨hP1, hK1, hD1⟩ := hB
  rw [ht] at hP1
  subst hw
  obtain ⟨hP2, hD2⟩ := hJ H1 hk1 hP1 hD1
  exact kk H1 locs1 hP2 hD2 hS1
theorem kZ {res : Int32} (F : Fr D A H wc wc' ws') (hS : va_S A H0 H locs) (hr : va_Run p l e R s m args below meth c H locs cells slots 0 0 (F0 m pc ls st0) rest (va_Qi (fun r (_ : Unit) => r = res ∧ (res = 0 ∨ res = 1)) (fun _ => wPost D cI cJ (va_A wc H.size) wc') (va_A wc H.size) a) (va_A wc H.size))
    (kk : ∀ (H1 : Heap) (locs1 : List Loc), (res = 0 ∨ res = 1) → va_P D vwCl ws' H1 → va_D A ws' → va_S A H0 H1 locs1 → W p l e R s m args below meth c H1 locs1 cells slots Q (F0 m (pc + 3) ls (.int res :: rest))) : W p l e R s m args below meth c H locs cells slots Q (F0 m pc ls st0) := by
  obtain ⟨hPc, hDc, hFc, hJ⟩ := F
  refine va_calli hr hS (fun q _ h => hFc q h) hFc (fun r u t H1 locs1 ht hvm hw hB hz1 hk1 hS1 => ?_)
  obtain ⟨hP1, hK1, hD1⟩ := hB
  rw [ht] at hP1
  obtain ⟨hw, hb⟩ := hw
  subst hw
  obtain ⟨hP2, hD2⟩ := hJ H1 hk1 hP1 hD1
  exact kk H1 locs1 hb hP2 hD2 hS1
theorem kL {res : Int64} (F : Fr D A H wc wc' ws') (hS : va_S A H0 H locs) (hr : va_Run p l e R s m args below meth c H locs cells slots 0 0 (F0 m pc ls st0) rest (va_Ql (fun r (_ : Unit) => r = res) (fun _ => wPost D cI cJ (va_A wc H.size) wc') (va_A wc H.size) a) (va_A wc H.size))
    (kk : ∀ (H1 : Heap) (locs1 : List Loc), va_P D vwCl ws' H1 → va_D A ws' → va_S A H0 H1 locs1 → W p l e R s m args below meth c H1 locs1 cells slots Q (F0 m (pc + 3) ls (.long res :: rest))) : W p l e R s m args below meth c H locs cells slots Q (F0 m pc ls st0) := by
  obtain ⟨hPc, hDc, hFc, hJ⟩ := F
  refine va_calll hr hS (fun q _ h => hFc q h) hFc (fun r u t H1 locs1 ht hvm hw hB hz1 hk1 hS1 => ?_)
  obtain ⟨hP1, hK1, hD1⟩ := hB
  rw [ht] at hP1
  subst hw
  obtain ⟨hP2, hD2⟩ := hJ H1 hk1 hP1 hD1
  exact kk H1 locs1 hP2 hD2 hS1
theorem kV (F : Fr D A H wc wc' ws') (hS : va_S A H0 H locs) (hr : va_Run p l e R s m args below meth c H locs cells slots 0 0 (F0 m pc ls st0) rest (va_Qv (fun (_ : Unit) => True) (fun _ => wPost D cI cJ (va_A wc H.size) wc') (va_A wc H.size) a) (va_A wc H.size))
    (kk : ∀ (H1 : Heap) (locs1 : List Loc), va_P D vwCl ws' H1 → va_D A ws' → va_S A H0 H1 locs1 → W p l e R s m args below meth c H1 locs1 cells slots Q (F0 m (pc + 3) ls rest)) : W p l e R s m args below meth c H locs cells slots Q (F0 m pc ls st0) := by
  obtain ⟨hPc, hDc, hFc, hJ⟩ := F
  refine va_callv hr hS (fun q _ h => hFc q h) hFc (fun u t H1 locs1 ht hvm hw hB hz1 hk1 hS1 => ?_)
  obtain ⟨hP1, hK1, hD1⟩ := hB
  rw [ht] at hP1
  obtain ⟨hP2, hD2⟩ := hJ H1 hk1 hP1 hD1
  exact kk H1 locs1 hP2 hD2 hS1
variable {cc bytes : ByteArray} {nL maxL n index : Nat} {Ts wy : List Cond} {own : String} {y : MethodName} {ret : Option FieldType} {rm : Room} {Qc : Array Value → State → Outcome → State → Prop} {free : Addr → Prop} {As : List Value}
/-- the call of an object's method -/
theorem rV (S : CallFix p m c cc nL s args Ts own) (hK : va_K D vwCl (tyIJ cI cJ) s) (hN : NSt s) (F : Fr D A H wc wc' ws') {b : Addr} {ci : Nat} {fs : List Value} {q : vw_C} (hM : Met l y wy rm (va_Pc (.ref b :: As) (wPre D cI cJ wc H.size)) Qc 0 0 free) (cw : CallW R s args own q.1 index y bytes maxL ret wy rm 0 0 n) (hc : vwCl[ci]? = some q) (he : wc[0]? = some (b, .inr (ci, fs)))
    (hn : As.length = n) (hsize : ls.size = nL) (hst : st0 = As.reverse ++ .ref b :: rest) (hcat : (rest.map fun v => v.category).sum ≤ 8) (hdg : decode cc pc = .ok (.invokevirtual index, 3)) (hcs : cells ≤ R.cells ∧ slots ≤ R.slots) :
    va_Run p l e R s m args below meth c H locs cells slots 0 0 (F0 m pc ls st0) rest (Qc (Value.ref b :: As).toArray) free :=
  va_runV (rest := rest) S hM cw (fr_preV hK hN F.1 F.2.1 hc he) rfl hn hsize hst (lv_room hcat) hdg hcs
theorem rS (S : CallFix p m c cc nL s args Ts own) (hK : va_K D vwCl (tyIJ cI cJ) s) (hN : NSt s) (F : Fr D A H wc wc' ws') (hM : Met l y wy rm (va_Pc As (wPre D cI cJ wc H.size)) Qc 0 0 free) (cw : CallB R s args own index y bytes maxL ret wy rm 0 0 n ∧ (Cond.static y).before args s = true)
    (hn : As.length = n) (hsize : ls.size = nL) (hst : st0 = As.reverse ++ rest) (hcat : (rest.map fun v => v.category).sum ≤ 8) (hdg : decode cc pc = .ok (.invokestatic index, 3)) (hcs : cells ≤ R.cells ∧ slots ≤ R.slots) :
    va_Run p l e R s m args below meth c H locs cells slots 0 0 (F0 m pc ls st0) rest (Qc As.toArray) free :=
  va_runS (rest := rest) S hM cw (fr_preS hK hN F.1 F.2.1) rfl hn hsize hst (lv_room hcat) hdg hcs
theorem rN {host : String} (S : CallFix p m c cc nL s args Ts own) (hK : va_K D vwCl (tyIJ cI cJ) s) (hN : NSt s) (F : Fr D A H wc wc' ws') (hM : Met l y wy rm (va_Pc As (wPre D cI cJ wc H.size)) Qc 0 0 free) (cw : va_CN R s args own index y host bytes maxL ret wy rm 0 0 n ∧ (Cond.static y).before args s = true ∧ True)
    (hn : As.length = n) (hsize : ls.size = nL) (hst : st0 = As.reverse ++ rest) (hcat : (rest.map fun v => v.category).sum ≤ 8) (hdg : decode cc pc = .ok (.invokestatic index, 3)) (hcs : cells ≤ R.cells ∧ slots ≤ R.slots) :
    va_Run p l e R s m args below meth c H locs cells slots 0 0 (F0 m pc ls st0) rest (Qc As.toArray) free :=
  va_runSN (rest := rest) S hM cw (fr_preS hK hN F.1 F.2.1) rfl hn hsize hst (lv_room hcat) hdg hcs
end CALLS
