/-! words of nest mates: what the tables say of calls and fields of one nest -/
def q_nw : List Cond := [.fieldLinkNest RX9 212 "OnlyPrimes$Walk" "soonest" "I" "OnlyPrimes", .fieldLinkNest RX9 218 "OnlyPrimes$Walk" "never" "I" "OnlyPrimes",
  .methodLinkNest RX1 62 yX9_isWithin "OnlyPrimes", .methodLinkNest RX2 35 yX9_isCorner "OnlyPrimes", .methodLinkNest RX2 64 yX9_isWithin "OnlyPrimes", .methodLinkNest RX3 101 yX9_isWithin "OnlyPrimes", .methodLinkNest RX4 43 yX9_isWithin "OnlyPrimes", .methodLinkNest RX8 125 yX9_isWithin "OnlyPrimes"]
def q_N (U : State) : Prop := (va_Nw (.fieldLinkNest RX9 212 "OnlyPrimes$Walk" "soonest" "I" "OnlyPrimes") U ∧ va_Nw (.fieldLinkNest RX9 218 "OnlyPrimes$Walk" "never" "I" "OnlyPrimes") U) ∧ (va_Nw (.methodLinkNest RX1 62 yX9_isWithin "OnlyPrimes") U ∧ va_Nw (.methodLinkNest RX2 35 yX9_isCorner "OnlyPrimes") U ∧ va_Nw (.methodLinkNest RX2 64 yX9_isWithin "OnlyPrimes") U ∧ va_Nw (.methodLinkNest RX3 101 yX9_isWithin "OnlyPrimes") U ∧ va_Nw (.methodLinkNest RX4 43 yX9_isWithin "OnlyPrimes") U ∧ va_Nw (.methodLinkNest RX8 125 yX9_isWithin "OnlyPrimes") U)
theorem q_N.warm {s U : State} (hW : s.WarmedH U.vm) (h : q_N s) : q_N U := ⟨⟨h.1.1.warmF hW, h.1.2.warmF hW⟩, h.2.1.warmM hW, h.2.2.1.warmM hW, h.2.2.2.1.warmM hW, h.2.2.2.2.1.warmM hW, h.2.2.2.2.2.1.warmM hW, h.2.2.2.2.2.2.warmM hW⟩
theorem q_N.same {u U : State} (e : u.vm = U.vm) (h : q_N u) : q_N U := ⟨⟨h.1.1.same rfl e, h.1.2.same rfl e⟩, h.2.1.same rfl e, h.2.2.1.same rfl e, h.2.2.2.1.same rfl e, h.2.2.2.2.1.same rfl e, h.2.2.2.2.2.1.same rfl e, h.2.2.2.2.2.2.same rfl e⟩
/-! what stays: the three words of the reader, String's and Preconditions' statics -/
abbrev q_En : Type := (Nat → Nat) × (Nat → Nat)
def q_len : List Nat := [3, 3, 2]
def q_byt : List (List Int32) := [[119, 97, 121], [111, 110, 101], [103, 111]]
def q_E (E : q_En) (A : Nat → Prop) (U : State) (H : Heap) : Prop := vk_S 3 q_len q_byt E.1 E.2 A U H ∧ (vk_R RX3 112 "way" (E.1 0) U ∧ vk_R RX3 118 "one" (E.1 1) U ∧ vk_R RX3 120 "go" (E.1 2) U) ∧ va_Z "java/lang/String" "COMPACT_STRINGS" "Z" (.int 1) A U H ∧ va_Zq "jdk/internal/util/Preconditions" "SIOOBE_FORMATTER" "Ljava/util/function/BiFunction;" A U H
theorem q_E.warm {E : q_En} {A : Nat → Prop} {s U : State} {H : Heap} (hW : s.WarmedH U.vm) (h : q_E E A s H) : q_E E A U H := ⟨h.1.moved hW.alike, ⟨h.2.1.1.warm hW, h.2.1.2.1.warm hW, h.2.1.2.2.warm hW⟩, h.2.2.1.moved hW.alike, h.2.2.2.moved hW.alike⟩
theorem q_E.same {E : q_En} {A : Nat → Prop} {u U : State} {H : Heap} (e : U.vm = u.vm) (h : q_E E A u H) : q_E E A U H := by
  have ha : u.vm.Alike U.vm := by rw [e]; exact Vm.Alike.refl u.vm
  exact ⟨h.1.moved ha, ⟨h.2.1.1.same e, h.2.1.2.1.same e, h.2.1.2.2.same e⟩, h.2.2.1.moved ha, h.2.2.2.moved ha⟩
theorem q_E.kept {E : q_En} {A : Nat → Prop} {U : State} {H H1 : Heap} (h : q_E E A U H) (hq : ∀ a : Nat, a < H.size → ¬ A a → H1[a]? = H[a]?) : q_E E A U H1 := ⟨h.1.kept hq, h.2.1, h.2.2.1.kept hq, h.2.2.2.kept hq⟩
theorem q_E.narrow {E : q_En} {A B : Nat → Prop} {U : State} {H : Heap} (h : q_E E A U H) (hAB : ∀ q, B q → A q) : q_E E B U H := ⟨h.1.narrow hAB, h.2.1, h.2.2.1.narrow hAB, h.2.2.2.narrow hAB⟩
/-! plain rows -/
def inb (i : Int32) (n : Nat) : Bool := !(decide (i < 0) || decide (n ≤ i.toNatClampNeg))
theorem inb_vp {i : Int32} {n : Nat} (h : inb i n = true) : vp_in i n := by
  intro q
  rcases q with q | q
  · simp [inb, q] at h
  · simp [inb, q] at h
def zb (v : Int32) : Bool := v == 0 || v == 1
theorem zb_nar {v : Int32} (h : zb v = true) : narrow .boolean (.int v) = .int v := by
  simp only [zb, Bool.or_eq_true, beq_iff_eq] at h
  rcases h with rfl | rfl <;> rfl
theorem nar0 : narrow .boolean (.int 0) = .int 0 := rfl
theorem nar1 : narrow .boolean (.int 1) = .int 1 := rfl
theorem q_t {c : Prop} {_ : Decidable c} {α : Type} {a b x : α} (hc : c) (h : (if c then a else b) = x) : a = x := by rw [if_pos hc] at h; exact h
theorem q_f {c : Prop} {_ : Decidable c} {α : Type} {a b x : α} (hc : ¬ c) (h : (if c then a else b) = x) : b = x := by rw [if_neg hc] at h; exact h
theorem q_g {c : Prop} {_ : Decidable c} {α : Type} {a : Option α} {x : α} (h : (if c then a else none) = some x) : c ∧ a = some x := by
  by_cases hc : c
  · rw [if_pos hc] at h; exact ⟨hc, h⟩
  · rw [if_neg hc] at h; cases h
theorem q_b {α β : Type} {o : Option α} {k : α → Option β} {r : β} (h : o.bind k = some r) : ∃ u, o = some u ∧ k u = some r := by
  cases o with
  | none => cases h
  | some u => exact ⟨u, rfl, h⟩
theorem q_inj {α : Type} {a b : α} (h : some a = some b) : a = b := by cases h; rfl
/-! contracts: a world W0 comes back as W1, nothing is made; the answer is r -/
abbrev q_Pre (D : va_G) (E : q_En) (tys : List (ClassId × FieldType)) (avs : List Value) (W0 : va_W) (sz : Nat) : Array Value → State → Prop := va_Pc avs (fun U => U.heap.size = sz ∧ va_P D vwCl W0 U.heap ∧ va_K D vwCl tys U ∧ va_D (fun _ => True) W0 ∧ q_N U ∧ q_E E (va_A W0 sz) U U.heap)
abbrev q_B (D : va_G) (W0 W1 : va_W) (sz : Nat) : Unit → State → Prop := fun _ t => va_P D vwCl W1 t.heap ∧ va_D (va_A W0 sz) W1
def CtI (l : Launch) (D : va_G) (E : q_En) (y : MethodName) (ws : List Cond) (rm : Room) (tys : List (ClassId × FieldType)) (avs : List Value) (W0 W1 : va_W) (r : Int32) : Prop := ∀ sz : Nat, Met l y ws rm (q_Pre D E tys avs W0 sz) (va_Qi (fun (x : Int32) (_ : Unit) => x = r) (q_B D W0 W1 sz) (va_A W0 sz)) 0 0 (va_A W0 sz)
def CtL (l : Launch) (D : va_G) (E : q_En) (y : MethodName) (ws : List Cond) (rm : Room) (tys : List (ClassId × FieldType)) (avs : List Value) (W0 W1 : va_W) (r : Int64) : Prop := ∀ sz : Nat, Met l y ws rm (q_Pre D E tys avs W0 sz) (va_Ql (fun (x : Int64) (_ : Unit) => x = r) (q_B D W0 W1 sz) (va_A W0 sz)) 0 0 (va_A W0 sz)
def CtV (l : Launch) (D : va_G) (E : q_En) (y : MethodName) (ws : List Cond) (rm : Room) (tys : List (ClassId × FieldType)) (avs : List Value) (W0 W1 : va_W) : Prop := ∀ sz : Nat, Met l y ws rm (q_Pre D E tys avs W0 sz) (va_Qv (fun (_ : Unit) => True) (q_B D W0 W1 sz) (va_A W0 sz)) 0 0 (va_A W0 sz)
theorem q_enterI {l : Launch} {D : va_G} {E : q_En} {y : MethodName} {ws ws' : List Cond} {rm : Room} {tys : List (ClassId × FieldType)} {avs : List Value} {W0 W1 : va_W} {r : Int32} (cc : ByteArray) (maxL : Nat) (own : String) (hy : plainName y.cls = true) (hw : ws = Cond.code y cc maxL (some .int) :: ws') (hn : (lg_sl avs).length ≤ maxL) (ho : y.cls = own)
    (body : ∀ (p : Program) (e : Env) (s : State) (m : MethodId) (args : Array Value) (below : List Frame) (meth : Method) (c : Code) (Q : State → Prop) (A : Nat → Prop) (ls : Array Slot) (H : Heap), p.tables.exec = Jvm.exec → c.code = cc → c.maxLocals = maxL → s.vm.findClass own = some m.cls → (∀ w ∈ ws, w.before args s = true) → va_K D vwCl tys s → q_N s → q_E E A s s.heap → (∀ q, s.heap.size ≤ q → A q) → va_P D vwCl W0 H → va_S A s.heap H [] → va_D A W0 → lv_has ls maxL (lv_args 0 avs) → (∀ (H : Heap) (locs : List Loc) (pc : Nat) (ls : Array Slot), va_P D vwCl W1 H → va_D A W1 → va_S A s.heap H locs → decode cc pc = .ok (.ireturn, 1) → W p l e rm s m args below meth c H locs 0 0 Q (F0 m pc ls [.int r])) → W p l e rm s m args below meth c H [] 0 0 Q (F0 m 0 ls [])) : CtI l D E y ws rm tys avs W0 W1 r := by
  intro sz
  refine Met.ofW (cc := cc) (maxL := maxL) (ret := some .int) hy hw ?_
  intro p e s m args below meth c s₁ B hml hv
  obtain ⟨rfl, hsz, hP, hK, hD0, hN, hE⟩ := hv
  subst hsz
  rw [lg_entry_eq]
  refine body p e s m _ below meth c _ (va_A W0 s.heap.size) _ s.heap B.exec B.bytes hml (by rw [← ho]; exact findClass_of_methodNamed B.named) (atoms_spec (ws := ws) B.pre) hK hN hE (fun q h => Or.inr h) hP va_S.rf hD0.self (lv_entry avs hn) (fun H locs pc ls hP1 hD1 hS hdg => ?_)
  exact W.iret (v := r) B.exec B.bytes B.returns (fun t ht hW => ⟨⟨r, (), rfl, rfl, by rw [ht]; exact hP1, hD1⟩, hS.F ht⟩) hS.2.2 hdg B.notSynchronized
theorem q_enterZ {l : Launch} {D : va_G} {E : q_En} {y : MethodName} {ws ws' : List Cond} {rm : Room} {tys : List (ClassId × FieldType)} {avs : List Value} {W0 W1 : va_W} {r : Int32} (cc : ByteArray) (maxL : Nat) (own : String) (hy : plainName y.cls = true) (hw : ws = Cond.code y cc maxL (some .boolean) :: ws') (hn : (lg_sl avs).length ≤ maxL) (ho : y.cls = own)
    (body : ∀ (p : Program) (e : Env) (s : State) (m : MethodId) (args : Array Value) (below : List Frame) (meth : Method) (c : Code) (Q : State → Prop) (A : Nat → Prop) (ls : Array Slot) (H : Heap), p.tables.exec = Jvm.exec → c.code = cc → c.maxLocals = maxL → s.vm.findClass own = some m.cls → (∀ w ∈ ws, w.before args s = true) → va_K D vwCl tys s → q_N s → q_E E A s s.heap → (∀ q, s.heap.size ≤ q → A q) → va_P D vwCl W0 H → va_S A s.heap H [] → va_D A W0 → lv_has ls maxL (lv_args 0 avs) → (∀ (H : Heap) (locs : List Loc) (pc : Nat) (ls : Array Slot), narrow .boolean (.int r) = .int r → va_P D vwCl W1 H → va_D A W1 → va_S A s.heap H locs → decode cc pc = .ok (.ireturn, 1) → W p l e rm s m args below meth c H locs 0 0 Q (F0 m pc ls [.int r])) → W p l e rm s m args below meth c H [] 0 0 Q (F0 m 0 ls [])) : CtI l D E y ws rm tys avs W0 W1 r := by
  intro sz
  refine Met.ofW (cc := cc) (maxL := maxL) (ret := some .boolean) hy hw ?_
  intro p e s m args below meth c s₁ B hml hv
  obtain ⟨rfl, hsz, hP, hK, hD0, hN, hE⟩ := hv
  subst hsz
  rw [lg_entry_eq]
  refine body p e s m _ below meth c _ (va_A W0 s.heap.size) _ s.heap B.exec B.bytes hml (by rw [← ho]; exact findClass_of_methodNamed B.named) (atoms_spec (ws := ws) B.pre) hK hN hE (fun q h => Or.inr h) hP va_S.rf hD0.self (lv_entry avs hn) (fun H locs pc ls hnr hP1 hD1 hS hdg => ?_)
  exact W.zret (v := r) B.exec B.bytes B.returns hnr (fun t ht hW => ⟨⟨r, (), rfl, rfl, by rw [ht]; exact hP1, hD1⟩, hS.F ht⟩) hS.2.2 hdg B.notSynchronized
theorem q_enterL {l : Launch} {D : va_G} {E : q_En} {y : MethodName} {ws ws' : List Cond} {rm : Room} {tys : List (ClassId × FieldType)} {avs : List Value} {W0 W1 : va_W} {r : Int64} (cc : ByteArray) (maxL : Nat) (own : String) (hy : plainName y.cls = true) (hw : ws = Cond.code y cc maxL (some .long) :: ws') (hn : (lg_sl avs).length ≤ maxL) (ho : y.cls = own)
    (body : ∀ (p : Program) (e : Env) (s : State) (m : MethodId) (args : Array Value) (below : List Frame) (meth : Method) (c : Code) (Q : State → Prop) (A : Nat → Prop) (ls : Array Slot) (H : Heap), p.tables.exec = Jvm.exec → c.code = cc → c.maxLocals = maxL → s.vm.findClass own = some m.cls → (∀ w ∈ ws, w.before args s = true) → va_K D vwCl tys s → q_N s → q_E E A s s.heap → (∀ q, s.heap.size ≤ q → A q) → va_P D vwCl W0 H → va_S A s.heap H [] → va_D A W0 → lv_has ls maxL (lv_args 0 avs) → (∀ (H : Heap) (locs : List Loc) (pc : Nat) (ls : Array Slot), va_P D vwCl W1 H → va_D A W1 → va_S A s.heap H locs → decode cc pc = .ok (.lreturn, 1) → W p l e rm s m args below meth c H locs 0 0 Q (F0 m pc ls [.long r])) → W p l e rm s m args below meth c H [] 0 0 Q (F0 m 0 ls [])) : CtL l D E y ws rm tys avs W0 W1 r := by
  intro sz
  refine Met.ofW (cc := cc) (maxL := maxL) (ret := some .long) hy hw ?_
  intro p e s m args below meth c s₁ B hml hv
  obtain ⟨rfl, hsz, hP, hK, hD0, hN, hE⟩ := hv
  subst hsz
  rw [lg_entry_eq]
  refine body p e s m _ below meth c _ (va_A W0 s.heap.size) _ s.heap B.exec B.bytes hml (by rw [← ho]; exact findClass_of_methodNamed B.named) (atoms_spec (ws := ws) B.pre) hK hN hE (fun q h => Or.inr h) hP va_S.rf hD0.self (lv_entry avs hn) (fun H locs pc ls hP1 hD1 hS hdg => ?_)
  exact W.lret (v := r) B.exec B.bytes B.returns (fun t ht hW => ⟨⟨r, (), rfl, rfl, by rw [ht]; exact hP1, hD1⟩, hS.F ht⟩) hS.2.2 hdg B.notSynchronized
theorem q_enterV {l : Launch} {D : va_G} {E : q_En} {y : MethodName} {ws ws' : List Cond} {rm : Room} {tys : List (ClassId × FieldType)} {avs : List Value} {W0 W1 : va_W} (cc : ByteArray) (maxL : Nat) (own : String) (hy : plainName y.cls = true) (hw : ws = Cond.code y cc maxL none :: ws') (hn : (lg_sl avs).length ≤ maxL) (ho : y.cls = own)
    (body : ∀ (p : Program) (e : Env) (s : State) (m : MethodId) (args : Array Value) (below : List Frame) (meth : Method) (c : Code) (Q : State → Prop) (A : Nat → Prop) (ls : Array Slot) (H : Heap), p.tables.exec = Jvm.exec → c.code = cc → c.maxLocals = maxL → s.vm.findClass own = some m.cls → (∀ w ∈ ws, w.before args s = true) → va_K D vwCl tys s → q_N s → q_E E A s s.heap → (∀ q, s.heap.size ≤ q → A q) → va_P D vwCl W0 H → va_S A s.heap H [] → va_D A W0 → lv_has ls maxL (lv_args 0 avs) → (∀ (H : Heap) (locs : List Loc) (pc : Nat) (ls : Array Slot), va_P D vwCl W1 H → va_D A W1 → va_S A s.heap H locs → decode cc pc = .ok (.return_, 1) → W p l e rm s m args below meth c H locs 0 0 Q (F0 m pc ls [])) → W p l e rm s m args below meth c H [] 0 0 Q (F0 m 0 ls [])) : CtV l D E y ws rm tys avs W0 W1 := by
  intro sz
  refine Met.ofW (cc := cc) (maxL := maxL) (ret := none) hy hw ?_
  intro p e s m args below meth c s₁ B hml hv
  obtain ⟨rfl, hsz, hP, hK, hD0, hN, hE⟩ := hv
  subst hsz
  rw [lg_entry_eq]
  refine body p e s m _ below meth c _ (va_A W0 s.heap.size) _ s.heap B.exec B.bytes hml (by rw [← ho]; exact findClass_of_methodNamed B.named) (atoms_spec (ws := ws) B.pre) hK hN hE (fun q h => Or.inr h) hP va_S.rf hD0.self (lv_entry avs hn) (fun H locs pc ls hP1 hD1 hS hdg => ?_)
  exact W.vret B.exec B.bytes B.returns (fun t ht hW => ⟨⟨(), rfl, trivial, by rw [ht]; exact hP1, hD1⟩, hS.F ht⟩) hS.2.2 hdg B.notSynchronized
/-! calls -/
theorem q_blind {D : va_G} {E : q_En} {tys : List (ClassId × FieldType)} {avs : List Value} {W0 : va_W} {sz : Nat} : FrameBlind (q_Pre D E tys avs W0 sz) := fun a U g mk q => by
  obtain ⟨q0, q1, qP, qK, qD, qN, qE⟩ := q
  exact ⟨q0, q1, qP, va_K.moved (u := U) (U := U.calling g mk a) (Vm.Alike.refl U.vm) qK, qD, qN.same (u := U) (U := U.calling g mk a) rfl, qE.same (u := U) (U := U.calling g mk a) rfl⟩
theorem q_pv {D : va_G} {E : q_En} {locs : List Loc} {tys : List (ClassId × FieldType)} {ws W0 : va_W} {A : Nat → Prop} {s : State} {H : Heap} {C : String} {T : u_T} {N ci : Nat} {fs : List Value} {b : Addr} {As : List Value} (hK : va_K D vwCl tys s) (hN : q_N s) (hE : q_E E A s s.heap) (hS : va_S A s.heap H locs) (hA : ∀ q, s.heap.size ≤ q → A q) (hP : va_P D vwCl ws H) (hD : va_D A ws) (isC : List Nat) (hC1 : isC.filterMap (fun i => ws[i]?) = W0) (hnC : va_nd isC = true) (hC2 : isC.map (fun i => ws[i]?) = W0.map some) (q0 : Nat) (hrecv : ws[q0]? = some (b, .inr (ci, fs))) (hci : vwCl[ci]? = some (C, T, N)) : PreV s H C b (q_Pre D E tys (.ref b :: As) W0 H.size) As :=
  ⟨q_blind, va_recv hK hP (ci := ci) (q0 := q0) hci hrecv, fun U hU hW => ⟨rfl, by rw [hU], by rw [hU]; exact hP.sub isC hC1, va_K.moved hW.alike hK, (hD.sub isC hnC hC2).weaken (fun _ _ _ _ => trivial), hN.warm hW, by rw [hU]; exact ((hE.kept hS.2.1).narrow (va_free (wc := W0) hD hS hA isC hC2)).warm hW⟩⟩
theorem q_ps {D : va_G} {E : q_En} {locs : List Loc} {tys : List (ClassId × FieldType)} {ws W0 : va_W} {A : Nat → Prop} {s : State} {H : Heap} {As : List Value} (hK : va_K D vwCl tys s) (hN : q_N s) (hE : q_E E A s s.heap) (hS : va_S A s.heap H locs) (hA : ∀ q, s.heap.size ≤ q → A q) (hP : va_P D vwCl ws H) (hD : va_D A ws) (isC : List Nat) (hC1 : isC.filterMap (fun i => ws[i]?) = W0) (hnC : va_nd isC = true) (hC2 : isC.map (fun i => ws[i]?) = W0.map some) : PreS s H (q_Pre D E tys As W0 H.size) As :=
  ⟨q_blind, fun U hU hW => ⟨rfl, by rw [hU], by rw [hU]; exact hP.sub isC hC1, va_K.moved hW.alike hK, (hD.sub isC hnC hC2).weaken (fun _ _ _ _ => trivial), hN.warm hW, by rw [hU]; exact ((hE.kept hS.2.1).narrow (va_free (wc := W0) hD hS hA isC hC2)).warm hW⟩⟩
theorem q_aI {D : va_G} {p : Program} {l : Launch} {e : Env} {R : Room} {s : State} {m : MethodId} {args : Array Value} {below : List Frame} {meth : Method} {c : Code} {H : Heap} {locs : List Loc} {Q : State → Prop} {A : Nat → Prop} {ws W0 W1 Wr : va_W} {r : Int32} {pc : Nat} {ls : Array Slot} {st0 rest : List Value} {a : Array Value}
    (hr : va_Run p l e R s m args below meth c H locs 0 0 0 0 (F0 m pc ls st0) rest (va_Qi (fun (x : Int32) (_ : Unit) => x = r) (q_B D W0 W1 H.size) (va_A W0 H.size) a) (va_A W0 H.size))
    (hP : va_P D vwCl ws H) (hD : va_D A ws) (hS : va_S A s.heap H locs) (hA : ∀ q, s.heap.size ≤ q → A q) (isC isR : List Nat) (hC : isC.map (fun i => ws[i]?) = W0.map some) (hR : isR.map (fun i => ws[i]?) = Wr.map some) (hn : va_nd isR = true) (hdis : ∀ i ∈ isR, i ∉ isC)
    (kk : ∀ (H1 : Heap) (locs1 : List Loc), va_P D vwCl (Wr ++ W1) H1 → va_D A (Wr ++ W1) → va_S A s.heap H1 locs1 → W p l e R s m args below meth c H1 locs1 0 0 Q (F0 m (pc + 3) ls (.int r :: rest))) : W p l e R s m args below meth c H locs 0 0 Q (F0 m pc ls st0) := by
  have hFc := va_free (wc := W0) hD hS hA isC hC
  refine va_calli hr hS (fun q _ h => hFc q h) hFc (fun r' u t H1 locs1 ht hvm hw hB hz1 hk1 hS1 => ?_)
  subst hw
  obtain ⟨hP1, hD1⟩ := hB
  rw [ht] at hP1
  obtain ⟨hP2, hD2⟩ := va_join hP hD isC isR hC hR hn hdis hk1 hFc hP1 hD1
  exact kk H1 locs1 hP2 hD2 hS1
theorem q_aL {D : va_G} {p : Program} {l : Launch} {e : Env} {R : Room} {s : State} {m : MethodId} {args : Array Value} {below : List Frame} {meth : Method} {c : Code} {H : Heap} {locs : List Loc} {Q : State → Prop} {A : Nat → Prop} {ws W0 W1 Wr : va_W} {r : Int64} {pc : Nat} {ls : Array Slot} {st0 rest : List Value} {a : Array Value}
    (hr : va_Run p l e R s m args below meth c H locs 0 0 0 0 (F0 m pc ls st0) rest (va_Ql (fun (x : Int64) (_ : Unit) => x = r) (q_B D W0 W1 H.size) (va_A W0 H.size) a) (va_A W0 H.size))
    (hP : va_P D vwCl ws H) (hD : va_D A ws) (hS : va_S A s.heap H locs) (hA : ∀ q, s.heap.size ≤ q → A q) (isC isR : List Nat) (hC : isC.map (fun i => ws[i]?) = W0.map some) (hR : isR.map (fun i => ws[i]?) = Wr.map some) (hn : va_nd isR = true) (hdis : ∀ i ∈ isR, i ∉ isC)
    (kk : ∀ (H1 : Heap) (locs1 : List Loc), va_P D vwCl (Wr ++ W1) H1 → va_D A (Wr ++ W1) → va_S A s.heap H1 locs1 → W p l e R s m args below meth c H1 locs1 0 0 Q (F0 m (pc + 3) ls (.long r :: rest))) : W p l e R s m args below meth c H locs 0 0 Q (F0 m pc ls st0) := by
  have hFc := va_free (wc := W0) hD hS hA isC hC
  refine va_calll hr hS (fun q _ h => hFc q h) hFc (fun r' u t H1 locs1 ht hvm hw hB hz1 hk1 hS1 => ?_)
  subst hw
  obtain ⟨hP1, hD1⟩ := hB
  rw [ht] at hP1
  obtain ⟨hP2, hD2⟩ := va_join hP hD isC isR hC hR hn hdis hk1 hFc hP1 hD1
  exact kk H1 locs1 hP2 hD2 hS1
theorem q_aV {D : va_G} {p : Program} {l : Launch} {e : Env} {R : Room} {s : State} {m : MethodId} {args : Array Value} {below : List Frame} {meth : Method} {c : Code} {H : Heap} {locs : List Loc} {Q : State → Prop} {A : Nat → Prop} {ws W0 W1 Wr : va_W} {pc : Nat} {ls : Array Slot} {st0 rest : List Value} {a : Array Value}
    (hr : va_Run p l e R s m args below meth c H locs 0 0 0 0 (F0 m pc ls st0) rest (va_Qv (fun (_ : Unit) => True) (q_B D W0 W1 H.size) (va_A W0 H.size) a) (va_A W0 H.size))
    (hP : va_P D vwCl ws H) (hD : va_D A ws) (hS : va_S A s.heap H locs) (hA : ∀ q, s.heap.size ≤ q → A q) (isC isR : List Nat) (hC : isC.map (fun i => ws[i]?) = W0.map some) (hR : isR.map (fun i => ws[i]?) = Wr.map some) (hn : va_nd isR = true) (hdis : ∀ i ∈ isR, i ∉ isC)
    (kk : ∀ (H1 : Heap) (locs1 : List Loc), va_P D vwCl (Wr ++ W1) H1 → va_D A (Wr ++ W1) → va_S A s.heap H1 locs1 → W p l e R s m args below meth c H1 locs1 0 0 Q (F0 m (pc + 3) ls rest)) : W p l e R s m args below meth c H locs 0 0 Q (F0 m pc ls st0) := by
  have hFc := va_free (wc := W0) hD hS hA isC hC
  refine va_callv hr hS (fun q _ h => hFc q h) hFc (fun u t H1 locs1 ht hvm hw hB hz1 hk1 hS1 => ?_)
  obtain ⟨hP1, hD1⟩ := hB
  rw [ht] at hP1
  obtain ⟨hP2, hD2⟩ := va_join hP hD isC isR hC hR hn hdis hk1 hFc hP1 hD1
  exact kk H1 locs1 hP2 hD2 hS1
/-- a row of a table switch: the case is told as a number -/
theorem q_tabI {x : Int32} {k : Nat} (h : x = nI k) (hk : k < 2147483648) : x.toInt = (k : Int) := by rw [h]; exact nI_toInt hk
theorem q_tabO {x : Int32} {lo n : Nat} (hn : lo + n < 2147483648) (h : ∀ k, k < n → ¬ x = nI (lo + k)) : x.toInt < (lo : Int) ∨ (lo : Int) + (n : Int) - 1 < x.toInt := by
  by_cases q : x.toInt < (lo : Int)
  · exact Or.inl q
  · right
    by_cases r : (lo : Int) + (n : Int) - 1 < x.toInt
    · exact r
    · exfalso
      refine h (x.toInt.toNat - lo) (by omega) ?_
      apply Int32.toInt_inj.mp
      rw [nI_toInt (by omega)]
      omega
/-- an array of two references -/
def q_two (a b : Nat) : Nat → Option Nat := va_up (va_up (fun _ => none) 0 (some a)) 1 (some b)
theorem q_ald {D : va_G} {p : Program} {l : Launch} {e : Env} {R : Room} {s : State} {m : MethodId} {args : Array Value} {below : List Frame} {meth : Method} {c : Code} {H : Heap} {locs : List Loc} {Q : State → Prop} {ws : va_W} {tys : List (ClassId × FieldType)} {cc : ByteArray} {pc : Nat} {ls : Array Slot} {rest : List Value} {a : Nat} {cells slots : Nat} (hexec : p.tables.exec = Jvm.exec) (hb : c.code = cc) (hK : va_K D vwCl tys s) (hP : va_P D vwCl ws H) (q0 t0 : Nat) {cA : ClassId} {C : String} {n : Nat} {f : Nat → Option Nat} (ha : ws[q0]? = some (a, .inl (cA, n, .inr (.inr (.inr (.inr f)))))) (ht : tys[t0]? = some (cA, .object C)) {i : Int32} {v : Value} (hin : inb i n = true) (hv : va_rf (f i.toNatClampNeg) = v) (hdg : decode cc pc = .ok (.aaload, 1))
    (kk : W p l e R s m args below meth c H locs cells slots Q (F0 m (pc + 1) ls (v :: rest))) : W p l e R s m args below meth c H locs cells slots Q (F0 m pc ls (.int i :: .ref a :: rest)) := by
  subst hv
  exact va_aldq hexec hb hK hP q0 t0 ha ht (inb_vp hin) hdg kk
abbrev q_tys (kI kB kQ : ClassId) : List (ClassId × FieldType) := [(kI, .int), (kB, .boolean), (kQ, .object "OnlyPrimes$Kept")]
