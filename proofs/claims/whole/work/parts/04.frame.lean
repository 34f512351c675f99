
/-- the words of the tables that last -/
def gw : List Cond := lw_tbl.filter goodWord
theorem gw_in {w : Cond} (h : w ∈ lw_tbl) (hg : goodWord w = true) : w ∈ gw := List.mem_filter.mpr ⟨h, hg⟩
theorem gw_at {w : Cond} (i : Nat) (h : tables_1[i]? = some w) (hg : goodWord w = true) : w ∈ gw := gw_in (List.mem_append_right _ (List.mem_of_getElem? h)) hg
theorem gw_sel {q : MethodName × Nat} (i : Nat) (h : lw_privs[i]? = some q) (hg : ∀ w ∈ k2_sels [q], goodWord w = true) (w : Cond) (hw : w ∈ k2_sels [q]) : w ∈ k2_sels [q] := hw
theorem gw_good : GoodIn gw gw := fun w h => ⟨h, good_of_word (List.mem_filter.mp h).2⟩
/-- locals: the listed values are held, each of one word -/
def lvh (ls : Array Slot) (nL : Nat) (lv : List (Nat × Value)) : Prop := lv_has ls nL lv ∧ ∀ q ∈ lv, q.2.category = 1
def lins : List (Nat × Value) → Nat → Value → List (Nat × Value)
  | [], i, v => [(i, v)]
  | (j, w) :: t, i, v => if i < j then (i, v) :: (j, w) :: t else (j, w) :: lins t i v
def lset (lv : List (Nat × Value)) (i : Nat) (v : Value) : List (Nat × Value) := lins (lv.filter (fun q => !(q.1 == i))) i v
theorem lins_mem {l : List (Nat × Value)} {i : Nat} {v : Value} {q : Nat × Value} (h : q ∈ lins l i v) : q = (i, v) ∨ q ∈ l := by
  induction l with
  | nil => simp [lins] at h; exact Or.inl h
  | cons a t ih =>
    obtain ⟨j, w⟩ := a
    unfold lins at h
    split at h
    · rcases List.mem_cons.mp h with h | h
      · exact Or.inl h
      · exact Or.inr h
    · rcases List.mem_cons.mp h with h | h
      · exact Or.inr (by rw [h]; exact List.mem_cons_self)
      · rcases ih h with h | h
        · exact Or.inl h
        · exact Or.inr (List.mem_cons_of_mem _ h)
theorem lvh.set {ls ls' : Array Slot} {nL i : Nat} {v : Value} {lv : List (Nat × Value)} (h : lvh ls nL lv) (hc : v.category = 1) (h' : lv_has ls' nL ((i, v) :: lv.filter (fun q => !(q.1 == i) && !(q.1 + 1 == i && q.2.category == 2)))) : lvh ls' nL (lset lv i v) := by
  have hin : ∀ q ∈ lset lv i v, q ∈ ((i, v) :: lv.filter (fun q => !(q.1 == i) && !(q.1 + 1 == i && q.2.category == 2))) ∧ q.2.category = 1 := by
    intro q hq
    rcases lins_mem hq with e | hq
    · subst e
      exact ⟨List.mem_cons_self, hc⟩
    · obtain ⟨h1, h2⟩ := List.mem_filter.mp hq
      refine ⟨List.mem_cons_of_mem _ (List.mem_filter.mpr ⟨h1, ?_⟩), h.2 q h1⟩
      have h3 := h.2 q h1
      simp only [h3, Bool.and_eq_true] at h2 ⊢
      exact ⟨h2, by simp⟩
  exact ⟨⟨h'.1, h'.2.1, fun q hq => h'.2.2 q (hin q hq).1⟩, fun q hq => (hin q hq).2⟩
theorem lvh.sub {ls : Array Slot} {nL : Nat} {lv lv' : List (Nat × Value)} (h : lvh ls nL lv) (ks : List Nat) (hl : lv_pick lv ks = lv') : lvh ls nL lv' := by
  refine ⟨lv_sub h.1 ks hl, fun q hq => ?_⟩
  rw [← hl] at hq
  obtain ⟨k, -, hk⟩ := List.mem_filterMap.mp hq
  exact h.2 q (List.mem_of_getElem? hk)
/-- a kind of world: what the heap holds, what the tables are known to say, cells and slots counted, which cells may change -/
abbrev Ev (X : Type) : Type := (X → Heap → Prop) × (State → Prop) × (X → Nat) × (X → Nat) × (Nat → Prop)
def Ev.ok {X : Type} (E : Ev X) : Prop := ∀ u U : State, u.vm.Alike U.vm → E.2.1 u → E.2.1 U
def Cx {X : Type} (E : Ev X) (own : String) (cc : ByteArray) (nL : Nat) (rt : Option FieldType) (p : Program) (s : State) (m : MethodId) (args : Array Value) (meth : Method) (c : Code) : Prop :=
  p.tables.exec = Jvm.exec ∧ c.code = cc ∧ c.maxLocals = nL ∧ s.vm.findClass own = some m.cls ∧ (∀ w ∈ gw, w.before args s = true) ∧ meth.sig.returnType = rt ∧ meth.locks = false ∧ E.2.1 s
def Qg {X : Type} (E : Ev X) (rv : Option Value) (x' : X) : Array Value → State → Outcome → State → Prop := fun _ st oc t => oc = .returned rv ∧ E.1 x' t.heap ∧ va_F E.2.2.2.2 st t
abbrev Rm (fr lo k n : Nat) : Room := { frames := fr, cells := k, slots := n, locals := lo }
/-- from here the method comes to its end with the answer rv and the world x' -/
def Go {X : Type} (l : Launch) (E : Ev X) (own : String) (cc : ByteArray) (nL : Nat) (rt : Option FieldType) (fr lo n0 u0 : Nat) (rv : Option Value) (x' : X) (pc : Nat) (lv : List (Nat × Value)) (st : List Value) (x : X) : Prop :=
  ∀ (p : Program) (e : Env) (s : State) (m : MethodId) (args : Array Value) (below : List Frame) (meth : Method) (c : Code), Cx E own cc nL rt p s m args meth c →
    ∀ (H : Heap) (locs : List Loc) (ls : Array Slot), lvh ls nL lv → E.1 x H → va_S E.2.2.2.2 s.heap H locs →
      W p l e (Rm fr lo (E.2.2.1 x' - n0) (E.2.2.2.1 x' - u0)) s m args below meth c H locs (E.2.2.1 x - n0) (E.2.2.2.1 x - u0) (MQ below (Qg E rv x') args s (E.2.2.1 x' - n0) (E.2.2.2.1 x' - u0) E.2.2.2.2) (F0 m pc ls st)
/-- a method's contract at one start: the world x, the answer rv, the world x' -/
def Mt {X : Type} (l : Launch) (E : Ev X) (y : MethodName) (cc : ByteArray) (nL : Nat) (rt : Option FieldType) (fr lo : Nat) (av : List Value) (x : X) (rv : Option Value) (x' : X) : Prop :=
  Met l y (.code y cc nL rt :: gw) (Rm fr lo (E.2.2.1 x' - E.2.2.1 x) (E.2.2.2.1 x' - E.2.2.2.1 x)) (va_Pc av (fun U => E.1 x U.heap ∧ E.2.1 U)) (Qg E rv x') (E.2.2.1 x' - E.2.2.1 x) (E.2.2.2.1 x' - E.2.2.2.1 x) E.2.2.2.2
section GO
variable {X : Type} {l : Launch} {E : Ev X} {own : String} {cc : ByteArray} {nL : Nat} {rt : Option FieldType} {fr lo n0 u0 : Nat} {rv : Option Value} {x' : X} {pc : Nat} {lv lv' : List (Nat × Value)} {st rest : List Value} {x : X}
theorem Mt.of {y : MethodName} {av : List Value} (hy : plainName y.cls = true) (hn : (lg_sl av).length ≤ nL) (hc : ∀ q ∈ lv_args 0 av, q.2.category = 1) (h : Go l E y.cls cc nL rt fr lo (E.2.2.1 x) (E.2.2.2.1 x) rv x' 0 (lv_args 0 av) [] x) : Mt l E y cc nL rt fr lo av x rv x' := by
  refine Met.ofW (cc := cc) (maxL := nL) (ret := rt) hy rfl ?_
  intro p e s m args below meth c s₁ B hml hv
  obtain ⟨rfl, hH, hK⟩ := hv
  have hts := atoms_spec B.pre
  have hl := lv_entry av hn
  rw [lg_entry_eq]
  have key := h p e s m av.toArray below meth c ⟨B.exec, B.bytes, hml, findClass_of_methodNamed B.named, fun w hw => hts w (List.mem_cons_of_mem _ hw), B.returns, B.notSynchronized, hK⟩ s.heap [] _ ⟨hl, hc⟩ hH va_S.rf
  rw [Nat.sub_self, Nat.sub_self] at key
  exact key
theorem Go.sub (ks : List Nat) (hl : lv_pick lv ks = lv') (h : Go l E own cc nL rt fr lo n0 u0 rv x' pc lv' st x) : Go l E own cc nL rt fr lo n0 u0 rv x' pc lv st x :=
  fun p e s m args below meth c C H locs ls hl2 hH hS => h p e s m args below meth c C H locs ls (hl2.sub ks hl) hH hS

theorem Go.iconst {n : Int} (v : Int32) (hd : decode cc pc = .ok (.iconst n, 1)) (hv : Int32.ofInt n = v) (k : Go l E own cc nL rt fr lo n0 u0 rv x' (pc + 1) lv (.int v :: st) x) : Go l E own cc nL rt fr lo n0 u0 rv x' pc lv st x := by
  intro p e s m args below meth c C H locs ls hl hH hS
  obtain ⟨hx, hb, hml, ho, hts, hr, hk, hkn⟩ := id C
  exact lv_iconst hx hb hd hv (k p e s m args below meth c C H locs ls hl hH hS)
theorem Go.bipush {n : Int} (v : Int32) (hd : decode cc pc = .ok (.bipush n, 2)) (hv : (Int8.ofInt n).toInt32 = v) (k : Go l E own cc nL rt fr lo n0 u0 rv x' (pc + 2) lv (.int v :: st) x) : Go l E own cc nL rt fr lo n0 u0 rv x' pc lv st x := by
  intro p e s m args below meth c C H locs ls hl hH hS
  obtain ⟨hx, hb, hml, ho, hts, hr, hk, hkn⟩ := id C
  exact lv_bipush hx hb hd hv (k p e s m args below meth c C H locs ls hl hH hS)
theorem Go.sipush {n : Int} (v : Int32) (hd : decode cc pc = .ok (.sipush n, 3)) (hv : (Int16.ofInt n).toInt32 = v) (k : Go l E own cc nL rt fr lo n0 u0 rv x' (pc + 3) lv (.int v :: st) x) : Go l E own cc nL rt fr lo n0 u0 rv x' pc lv st x := by
  intro p e s m args below meth c C H locs ls hl hH hS
  obtain ⟨hx, hb, hml, ho, hts, hr, hk, hkn⟩ := id C
  exact lv_sipush hx hb hd hv (k p e s m args below meth c C H locs ls hl hH hS)
theorem Go.ldc {i : Nat} {v : Int32} (hw : Cond.constant own i v ∈ gw) (hd : decode cc pc = .ok (.ldc i, 2)) (k : Go l E own cc nL rt fr lo n0 u0 rv x' (pc + 2) lv (.int v :: st) x) : Go l E own cc nL rt fr lo n0 u0 rv x' pc lv st x := by
  intro p e s m args below meth c C H locs ls hl hH hS
  obtain ⟨hx, hb, hml, ho, hts, hr, hk, hkn⟩ := id C
  exact lv_ldc hx hb ho (hts _ hw) hd (k p e s m args below meth c C H locs ls hl hH hS)
theorem Go.iload_n {f : Fin 4} {v : Int32} (j : Nat) (hd : decode cc pc = .ok (.iload_n f, 1)) (hv : lv[j]? = some (f.val, .int v)) (k : Go l E own cc nL rt fr lo n0 u0 rv x' (pc + 1) lv (.int v :: st) x) : Go l E own cc nL rt fr lo n0 u0 rv x' pc lv st x := by
  intro p e s m args below meth c C H locs ls hl hH hS
  obtain ⟨hx, hb, hml, ho, hts, hr, hk, hkn⟩ := id C
  exact lv_iload_n hx hb hd rfl (lv_at hl.1 j hv) (k p e s m args below meth c C H locs ls hl hH hS)
theorem Go.iload {i : Nat} {v : Int32} (j : Nat) (hd : decode cc pc = .ok (.iload i, 2)) (hv : lv[j]? = some (i, .int v)) (k : Go l E own cc nL rt fr lo n0 u0 rv x' (pc + 2) lv (.int v :: st) x) : Go l E own cc nL rt fr lo n0 u0 rv x' pc lv st x := by
  intro p e s m args below meth c C H locs ls hl hH hS
  obtain ⟨hx, hb, hml, ho, hts, hr, hk, hkn⟩ := id C
  exact lv_iload hx hb hd (lv_at hl.1 j hv) (k p e s m args below meth c C H locs ls hl hH hS)
theorem Go.aload_n {f : Fin 4} {v : Nat} (j : Nat) (hd : decode cc pc = .ok (.aload_n f, 1)) (hv : lv[j]? = some (f.val, .ref v)) (k : Go l E own cc nL rt fr lo n0 u0 rv x' (pc + 1) lv (.ref v :: st) x) : Go l E own cc nL rt fr lo n0 u0 rv x' pc lv st x := by
  intro p e s m args below meth c C H locs ls hl hH hS
  obtain ⟨hx, hb, hml, ho, hts, hr, hk, hkn⟩ := id C
  exact lv_aload_n hx hb hd rfl (lv_at hl.1 j hv) (k p e s m args below meth c C H locs ls hl hH hS)
theorem Go.aload {i : Nat} {v : Nat} (j : Nat) (hd : decode cc pc = .ok (.aload i, 2)) (hv : lv[j]? = some (i, .ref v)) (k : Go l E own cc nL rt fr lo n0 u0 rv x' (pc + 2) lv (.ref v :: st) x) : Go l E own cc nL rt fr lo n0 u0 rv x' pc lv st x := by
  intro p e s m args below meth c C H locs ls hl hH hS
  obtain ⟨hx, hb, hml, ho, hts, hr, hk, hkn⟩ := id C
  exact lv_aload hx hb hd (lv_at hl.1 j hv) (k p e s m args below meth c C H locs ls hl hH hS)
theorem Go.istore_n {f : Fin 4} {v : Int32} (lv2 : List (Nat × Value)) (hd : decode cc pc = .ok (.istore_n f, 1)) (hn : f.val < nL) (hl2 : lset lv f.val (.int v) = lv2) (k : Go l E own cc nL rt fr lo n0 u0 rv x' (pc + 1) lv2 st x) : Go l E own cc nL rt fr lo n0 u0 rv x' pc lv (.int v :: st) x := by
  intro p e s m args below meth c C H locs ls hl hH hS
  obtain ⟨hx, hb, hml, ho, hts, hr, hk, hkn⟩ := id C
  subst hl2
  exact lv_istore_n hx hb hd rfl hl.1 hn rfl (fun ls2 h2 => k p e s m args below meth c C H locs ls2 (hl.set rfl h2) hH hS)
theorem Go.istore {i : Nat} {v : Int32} (lv2 : List (Nat × Value)) (hd : decode cc pc = .ok (.istore i, 2)) (hn : i < nL) (hl2 : lset lv i (.int v) = lv2) (k : Go l E own cc nL rt fr lo n0 u0 rv x' (pc + 2) lv2 st x) : Go l E own cc nL rt fr lo n0 u0 rv x' pc lv (.int v :: st) x := by
  intro p e s m args below meth c C H locs ls hl hH hS
  obtain ⟨hx, hb, hml, ho, hts, hr, hk, hkn⟩ := id C
  subst hl2
  exact lv_istore hx hb hd hl.1 hn rfl (fun ls2 h2 => k p e s m args below meth c C H locs ls2 (hl.set rfl h2) hH hS)
theorem Go.astore_n {f : Fin 4} {v : Nat} (lv2 : List (Nat × Value)) (hd : decode cc pc = .ok (.astore_n f, 1)) (hn : f.val < nL) (hl2 : lset lv f.val (.ref v) = lv2) (k : Go l E own cc nL rt fr lo n0 u0 rv x' (pc + 1) lv2 st x) : Go l E own cc nL rt fr lo n0 u0 rv x' pc lv (.ref v :: st) x := by
  intro p e s m args below meth c C H locs ls hl hH hS
  obtain ⟨hx, hb, hml, ho, hts, hr, hk, hkn⟩ := id C
  subst hl2
  exact lv_astore_n hx hb hd rfl hl.1 hn rfl (fun ls2 h2 => k p e s m args below meth c C H locs ls2 (hl.set rfl h2) hH hS)
theorem Go.astore {i : Nat} {v : Nat} (lv2 : List (Nat × Value)) (hd : decode cc pc = .ok (.astore i, 2)) (hn : i < nL) (hl2 : lset lv i (.ref v) = lv2) (k : Go l E own cc nL rt fr lo n0 u0 rv x' (pc + 2) lv2 st x) : Go l E own cc nL rt fr lo n0 u0 rv x' pc lv (.ref v :: st) x := by
  intro p e s m args below meth c C H locs ls hl hH hS
  obtain ⟨hx, hb, hml, ho, hts, hr, hk, hkn⟩ := id C
  subst hl2
  exact lv_astore hx hb hd hl.1 hn rfl (fun ls2 h2 => k p e s m args below meth c C H locs ls2 (hl.set rfl h2) hH hS)
theorem Go.iinc {i : Nat} {n : Int} {v w : Int32} (j : Nat) (lv2 : List (Nat × Value)) (hd : decode cc pc = .ok (.iinc i n, 3)) (hv : lv[j]? = some (i, .int v)) (hw : Int32.ofInt n = w) (hn : i < nL) (hl2 : lset lv i (.int (v + w)) = lv2) (k : Go l E own cc nL rt fr lo n0 u0 rv x' (pc + 3) lv2 st x) : Go l E own cc nL rt fr lo n0 u0 rv x' pc lv st x := by
  intro p e s m args below meth c C H locs ls hl hH hS
  obtain ⟨hx, hb, hml, ho, hts, hr, hk, hkn⟩ := id C
  subst hl2
  exact lv_iinc hx hb hd hl.1 hv (by rw [hw]) hn rfl (fun ls2 h2 => k p e s m args below meth c C H locs ls2 (hl.set rfl h2) hH hS)
theorem Go.iadd {a b : Int32} (hd : decode cc pc = .ok (.iadd, 1)) (k : Go l E own cc nL rt fr lo n0 u0 rv x' (pc + 1) lv (.int (a + b) :: st) x) : Go l E own cc nL rt fr lo n0 u0 rv x' pc lv (.int b :: .int a :: st) x := by
  intro p e s m args below meth c C H locs ls hl hH hS
  obtain ⟨hx, hb, hml, ho, hts, hr, hk, hkn⟩ := id C
  exact lv_iadd hx hb hd (k p e s m args below meth c C H locs ls hl hH hS)
theorem Go.isub {a b : Int32} (hd : decode cc pc = .ok (.isub, 1)) (k : Go l E own cc nL rt fr lo n0 u0 rv x' (pc + 1) lv (.int (a - b) :: st) x) : Go l E own cc nL rt fr lo n0 u0 rv x' pc lv (.int b :: .int a :: st) x := by
  intro p e s m args below meth c C H locs ls hl hH hS
  obtain ⟨hx, hb, hml, ho, hts, hr, hk, hkn⟩ := id C
  exact lv_isub hx hb hd (k p e s m args below meth c C H locs ls hl hH hS)
theorem Go.imul {a b : Int32} (hd : decode cc pc = .ok (.imul, 1)) (k : Go l E own cc nL rt fr lo n0 u0 rv x' (pc + 1) lv (.int (a * b) :: st) x) : Go l E own cc nL rt fr lo n0 u0 rv x' pc lv (.int b :: .int a :: st) x := by
  intro p e s m args below meth c C H locs ls hl hH hS
  obtain ⟨hx, hb, hml, ho, hts, hr, hk, hkn⟩ := id C
  exact lv_imul hx hb hd (k p e s m args below meth c C H locs ls hl hH hS)
theorem Go.iand {a b : Int32} (hd : decode cc pc = .ok (.iand, 1)) (k : Go l E own cc nL rt fr lo n0 u0 rv x' (pc + 1) lv (.int (a &&& b) :: st) x) : Go l E own cc nL rt fr lo n0 u0 rv x' pc lv (.int b :: .int a :: st) x := by
  intro p e s m args below meth c C H locs ls hl hH hS
  obtain ⟨hx, hb, hml, ho, hts, hr, hk, hkn⟩ := id C
  exact lv_iand hx hb hd (k p e s m args below meth c C H locs ls hl hH hS)
theorem Go.ishl {a b : Int32} (hd : decode cc pc = .ok (.ishl, 1)) (k : Go l E own cc nL rt fr lo n0 u0 rv x' (pc + 1) lv (.int (a <<< (b &&& 31)) :: st) x) : Go l E own cc nL rt fr lo n0 u0 rv x' pc lv (.int b :: .int a :: st) x := by
  intro p e s m args below meth c C H locs ls hl hH hS
  obtain ⟨hx, hb, hml, ho, hts, hr, hk, hkn⟩ := id C
  exact lv_ishl hx hb hd (k p e s m args below meth c C H locs ls hl hH hS)
theorem Go.ishr {a b : Int32} (hd : decode cc pc = .ok (.ishr, 1)) (k : Go l E own cc nL rt fr lo n0 u0 rv x' (pc + 1) lv (.int (a >>> (b &&& 31)) :: st) x) : Go l E own cc nL rt fr lo n0 u0 rv x' pc lv (.int b :: .int a :: st) x := by
  intro p e s m args below meth c C H locs ls hl hH hS
  obtain ⟨hx, hb, hml, ho, hts, hr, hk, hkn⟩ := id C
  exact lv_ishr hx hb hd (k p e s m args below meth c C H locs ls hl hH hS)
theorem Go.idiv {a b : Int32} (hd : decode cc pc = .ok (.idiv, 1)) (hne : ¬ b = 0) (k : Go l E own cc nL rt fr lo n0 u0 rv x' (pc + 1) lv (.int (a / b) :: st) x) : Go l E own cc nL rt fr lo n0 u0 rv x' pc lv (.int b :: .int a :: st) x := by
  intro p e s m args below meth c C H locs ls hl hH hS
  obtain ⟨hx, hb, hml, ho, hts, hr, hk, hkn⟩ := id C
  exact lv_idiv hx hb hd hne (k p e s m args below meth c C H locs ls hl hH hS)
theorem Go.irem {a b : Int32} (hd : decode cc pc = .ok (.irem, 1)) (hne : ¬ b = 0) (k : Go l E own cc nL rt fr lo n0 u0 rv x' (pc + 1) lv (.int (a - a / b * b) :: st) x) : Go l E own cc nL rt fr lo n0 u0 rv x' pc lv (.int b :: .int a :: st) x := by
  intro p e s m args below meth c C H locs ls hl hH hS
  obtain ⟨hx, hb, hml, ho, hts, hr, hk, hkn⟩ := id C
  exact lv_irem hx hb hd hne (k p e s m args below meth c C H locs ls hl hH hS)
theorem Go.ineg {a : Int32} (hd : decode cc pc = .ok (.ineg, 1)) (k : Go l E own cc nL rt fr lo n0 u0 rv x' (pc + 1) lv (.int (-a) :: st) x) : Go l E own cc nL rt fr lo n0 u0 rv x' pc lv (.int a :: st) x := by
  intro p e s m args below meth c C H locs ls hl hH hS
  obtain ⟨hx, hb, hml, ho, hts, hr, hk, hkn⟩ := id C
  exact lv_ineg hx hb hd (k p e s m args below meth c C H locs ls hl hH hS)
theorem Go.dup {v : Value} (hd : decode cc pc = .ok (.dup, 1)) (hc : v.category = 1) (k : Go l E own cc nL rt fr lo n0 u0 rv x' (pc + 1) lv (v :: v :: st) x) : Go l E own cc nL rt fr lo n0 u0 rv x' pc lv (v :: st) x := by
  intro p e s m args below meth c C H locs ls hl hH hS
  obtain ⟨hx, hb, hml, ho, hts, hr, hk, hkn⟩ := id C
  exact lv_dup hx hb hd hc (k p e s m args below meth c C H locs ls hl hH hS)
theorem Go.dup2 {v w : Value} (hd : decode cc pc = .ok (.dup2, 1)) (hc : v.category = 1) (hc2 : w.category = 1) (k : Go l E own cc nL rt fr lo n0 u0 rv x' (pc + 1) lv (v :: w :: v :: w :: st) x) : Go l E own cc nL rt fr lo n0 u0 rv x' pc lv (v :: w :: st) x := by
  intro p e s m args below meth c C H locs ls hl hH hS
  obtain ⟨hx, hb, hml, ho, hts, hr, hk, hkn⟩ := id C
  exact lv_dup2_11 hx hb hd hc hc2 (k p e s m args below meth c C H locs ls hl hH hS)
theorem Go.pop {v : Value} (hd : decode cc pc = .ok (.pop, 1)) (hc : v.category = 1) (k : Go l E own cc nL rt fr lo n0 u0 rv x' (pc + 1) lv st x) : Go l E own cc nL rt fr lo n0 u0 rv x' pc lv (v :: st) x := by
  intro p e s m args below meth c C H locs ls hl hH hS
  obtain ⟨hx, hb, hml, ho, hts, hr, hk, hkn⟩ := id C
  exact lv_pop hx hb hd hc (k p e s m args below meth c C H locs ls hl hH hS)
theorem Go.goto {off : Int} (tgt : Nat) (hd : decode cc pc = .ok (.goto off, 3)) (ht : (pc : Int) + off = (tgt : Int)) (k : Go l E own cc nL rt fr lo n0 u0 rv x' tgt lv st x) : Go l E own cc nL rt fr lo n0 u0 rv x' pc lv st x := by
  intro p e s m args below meth c C H locs ls hl hH hS
  obtain ⟨hx, hb, hml, ho, hts, hr, hk, hkn⟩ := id C
  exact lv_goto hx hb hd ht (k p e s m args below meth c C H locs ls hl hH hS)
theorem Go.if_eq {Y : Type} {Z : Y} {a : Int32} {off : Int} {A B : Option Y} (tgt : Nat) (hd : decode cc pc = .ok (.ifCond .eq off, 3)) (ht : (pc : Int) + off = (tgt : Int)) (h : (if a = 0 then A else B) = some Z) (kt : A = some Z → Go l E own cc nL rt fr lo n0 u0 rv x' tgt lv st x) (kf : B = some Z → Go l E own cc nL rt fr lo n0 u0 rv x' (pc + 3) lv st x) : Go l E own cc nL rt fr lo n0 u0 rv x' pc lv (.int a :: st) x := by
  intro p e s m args below meth c C H locs ls hl hH hS
  obtain ⟨hx, hb, hml, ho, hts, hr, hk, hkn⟩ := id C
  exact lv_if_eq hx hb hd ht (fun q => kt (by rw [if_pos q] at h; exact h) p e s m args below meth c C H locs ls hl hH hS) (fun q => kf (by rw [if_neg q] at h; exact h) p e s m args below meth c C H locs ls hl hH hS)
theorem Go.icmp_eq {Y : Type} {Z : Y} {a b : Int32} {off : Int} {A B : Option Y} (tgt : Nat) (hd : decode cc pc = .ok (.if_icmp .eq off, 3)) (ht : (pc : Int) + off = (tgt : Int)) (h : (if a = b then A else B) = some Z) (kt : A = some Z → Go l E own cc nL rt fr lo n0 u0 rv x' tgt lv st x) (kf : B = some Z → Go l E own cc nL rt fr lo n0 u0 rv x' (pc + 3) lv st x) : Go l E own cc nL rt fr lo n0 u0 rv x' pc lv (.int b :: .int a :: st) x := by
  intro p e s m args below meth c C H locs ls hl hH hS
  obtain ⟨hx, hb, hml, ho, hts, hr, hk, hkn⟩ := id C
  exact lv_icmp_eq hx hb hd ht (fun q => kt (by rw [if_pos q] at h; exact h) p e s m args below meth c C H locs ls hl hH hS) (fun q => kf (by rw [if_neg q] at h; exact h) p e s m args below meth c C H locs ls hl hH hS)
theorem Go.if_ne {Y : Type} {Z : Y} {a : Int32} {off : Int} {A B : Option Y} (tgt : Nat) (hd : decode cc pc = .ok (.ifCond .ne off, 3)) (ht : (pc : Int) + off = (tgt : Int)) (h : (if a = 0 then B else A) = some Z) (kt : A = some Z → Go l E own cc nL rt fr lo n0 u0 rv x' tgt lv st x) (kf : B = some Z → Go l E own cc nL rt fr lo n0 u0 rv x' (pc + 3) lv st x) : Go l E own cc nL rt fr lo n0 u0 rv x' pc lv (.int a :: st) x := by
  intro p e s m args below meth c C H locs ls hl hH hS
  obtain ⟨hx, hb, hml, ho, hts, hr, hk, hkn⟩ := id C
  exact lv_if_ne hx hb hd ht (fun q => kt (by rw [if_neg q] at h; exact h) p e s m args below meth c C H locs ls hl hH hS) (fun q => kf (by rw [if_pos q] at h; exact h) p e s m args below meth c C H locs ls hl hH hS)
theorem Go.icmp_ne {Y : Type} {Z : Y} {a b : Int32} {off : Int} {A B : Option Y} (tgt : Nat) (hd : decode cc pc = .ok (.if_icmp .ne off, 3)) (ht : (pc : Int) + off = (tgt : Int)) (h : (if a = b then B else A) = some Z) (kt : A = some Z → Go l E own cc nL rt fr lo n0 u0 rv x' tgt lv st x) (kf : B = some Z → Go l E own cc nL rt fr lo n0 u0 rv x' (pc + 3) lv st x) : Go l E own cc nL rt fr lo n0 u0 rv x' pc lv (.int b :: .int a :: st) x := by
  intro p e s m args below meth c C H locs ls hl hH hS
  obtain ⟨hx, hb, hml, ho, hts, hr, hk, hkn⟩ := id C
  exact lv_icmp_ne hx hb hd ht (fun q => kt (by rw [if_neg q] at h; exact h) p e s m args below meth c C H locs ls hl hH hS) (fun q => kf (by rw [if_pos q] at h; exact h) p e s m args below meth c C H locs ls hl hH hS)
theorem Go.if_lt {Y : Type} {Z : Y} {a : Int32} {off : Int} {A B : Option Y} (tgt : Nat) (hd : decode cc pc = .ok (.ifCond .lt off, 3)) (ht : (pc : Int) + off = (tgt : Int)) (h : (if a < 0 then A else B) = some Z) (kt : A = some Z → Go l E own cc nL rt fr lo n0 u0 rv x' tgt lv st x) (kf : B = some Z → Go l E own cc nL rt fr lo n0 u0 rv x' (pc + 3) lv st x) : Go l E own cc nL rt fr lo n0 u0 rv x' pc lv (.int a :: st) x := by
  intro p e s m args below meth c C H locs ls hl hH hS
  obtain ⟨hx, hb, hml, ho, hts, hr, hk, hkn⟩ := id C
  exact lv_if_lt hx hb hd ht (fun q => kt (by rw [if_pos q] at h; exact h) p e s m args below meth c C H locs ls hl hH hS) (fun q => kf (by rw [if_neg q] at h; exact h) p e s m args below meth c C H locs ls hl hH hS)
theorem Go.icmp_lt {Y : Type} {Z : Y} {a b : Int32} {off : Int} {A B : Option Y} (tgt : Nat) (hd : decode cc pc = .ok (.if_icmp .lt off, 3)) (ht : (pc : Int) + off = (tgt : Int)) (h : (if a < b then A else B) = some Z) (kt : A = some Z → Go l E own cc nL rt fr lo n0 u0 rv x' tgt lv st x) (kf : B = some Z → Go l E own cc nL rt fr lo n0 u0 rv x' (pc + 3) lv st x) : Go l E own cc nL rt fr lo n0 u0 rv x' pc lv (.int b :: .int a :: st) x := by
  intro p e s m args below meth c C H locs ls hl hH hS
  obtain ⟨hx, hb, hml, ho, hts, hr, hk, hkn⟩ := id C
  exact lv_icmp_lt hx hb hd ht (fun q => kt (by rw [if_pos q] at h; exact h) p e s m args below meth c C H locs ls hl hH hS) (fun q => kf (by rw [if_neg q] at h; exact h) p e s m args below meth c C H locs ls hl hH hS)
theorem Go.if_ge {Y : Type} {Z : Y} {a : Int32} {off : Int} {A B : Option Y} (tgt : Nat) (hd : decode cc pc = .ok (.ifCond .ge off, 3)) (ht : (pc : Int) + off = (tgt : Int)) (h : (if 0 ≤ a then A else B) = some Z) (kt : A = some Z → Go l E own cc nL rt fr lo n0 u0 rv x' tgt lv st x) (kf : B = some Z → Go l E own cc nL rt fr lo n0 u0 rv x' (pc + 3) lv st x) : Go l E own cc nL rt fr lo n0 u0 rv x' pc lv (.int a :: st) x := by
  intro p e s m args below meth c C H locs ls hl hH hS
  obtain ⟨hx, hb, hml, ho, hts, hr, hk, hkn⟩ := id C
  exact lv_if_ge hx hb hd ht (fun q => kt (by rw [if_pos q] at h; exact h) p e s m args below meth c C H locs ls hl hH hS) (fun q => kf (by rw [if_neg q] at h; exact h) p e s m args below meth c C H locs ls hl hH hS)
theorem Go.icmp_ge {Y : Type} {Z : Y} {a b : Int32} {off : Int} {A B : Option Y} (tgt : Nat) (hd : decode cc pc = .ok (.if_icmp .ge off, 3)) (ht : (pc : Int) + off = (tgt : Int)) (h : (if b ≤ a then A else B) = some Z) (kt : A = some Z → Go l E own cc nL rt fr lo n0 u0 rv x' tgt lv st x) (kf : B = some Z → Go l E own cc nL rt fr lo n0 u0 rv x' (pc + 3) lv st x) : Go l E own cc nL rt fr lo n0 u0 rv x' pc lv (.int b :: .int a :: st) x := by
  intro p e s m args below meth c C H locs ls hl hH hS
  obtain ⟨hx, hb, hml, ho, hts, hr, hk, hkn⟩ := id C
  exact lv_icmp_ge hx hb hd ht (fun q => kt (by rw [if_pos q] at h; exact h) p e s m args below meth c C H locs ls hl hH hS) (fun q => kf (by rw [if_neg q] at h; exact h) p e s m args below meth c C H locs ls hl hH hS)
theorem Go.if_gt {Y : Type} {Z : Y} {a : Int32} {off : Int} {A B : Option Y} (tgt : Nat) (hd : decode cc pc = .ok (.ifCond .gt off, 3)) (ht : (pc : Int) + off = (tgt : Int)) (h : (if 0 < a then A else B) = some Z) (kt : A = some Z → Go l E own cc nL rt fr lo n0 u0 rv x' tgt lv st x) (kf : B = some Z → Go l E own cc nL rt fr lo n0 u0 rv x' (pc + 3) lv st x) : Go l E own cc nL rt fr lo n0 u0 rv x' pc lv (.int a :: st) x := by
  intro p e s m args below meth c C H locs ls hl hH hS
  obtain ⟨hx, hb, hml, ho, hts, hr, hk, hkn⟩ := id C
  exact lv_if_gt hx hb hd ht (fun q => kt (by rw [if_pos q] at h; exact h) p e s m args below meth c C H locs ls hl hH hS) (fun q => kf (by rw [if_neg q] at h; exact h) p e s m args below meth c C H locs ls hl hH hS)
theorem Go.icmp_gt {Y : Type} {Z : Y} {a b : Int32} {off : Int} {A B : Option Y} (tgt : Nat) (hd : decode cc pc = .ok (.if_icmp .gt off, 3)) (ht : (pc : Int) + off = (tgt : Int)) (h : (if b < a then A else B) = some Z) (kt : A = some Z → Go l E own cc nL rt fr lo n0 u0 rv x' tgt lv st x) (kf : B = some Z → Go l E own cc nL rt fr lo n0 u0 rv x' (pc + 3) lv st x) : Go l E own cc nL rt fr lo n0 u0 rv x' pc lv (.int b :: .int a :: st) x := by
  intro p e s m args below meth c C H locs ls hl hH hS
  obtain ⟨hx, hb, hml, ho, hts, hr, hk, hkn⟩ := id C
  exact lv_icmp_gt hx hb hd ht (fun q => kt (by rw [if_pos q] at h; exact h) p e s m args below meth c C H locs ls hl hH hS) (fun q => kf (by rw [if_neg q] at h; exact h) p e s m args below meth c C H locs ls hl hH hS)
theorem Go.if_le {Y : Type} {Z : Y} {a : Int32} {off : Int} {A B : Option Y} (tgt : Nat) (hd : decode cc pc = .ok (.ifCond .le off, 3)) (ht : (pc : Int) + off = (tgt : Int)) (h : (if a ≤ 0 then A else B) = some Z) (kt : A = some Z → Go l E own cc nL rt fr lo n0 u0 rv x' tgt lv st x) (kf : B = some Z → Go l E own cc nL rt fr lo n0 u0 rv x' (pc + 3) lv st x) : Go l E own cc nL rt fr lo n0 u0 rv x' pc lv (.int a :: st) x := by
  intro p e s m args below meth c C H locs ls hl hH hS
  obtain ⟨hx, hb, hml, ho, hts, hr, hk, hkn⟩ := id C
  exact lv_if_le hx hb hd ht (fun q => kt (by rw [if_pos q] at h; exact h) p e s m args below meth c C H locs ls hl hH hS) (fun q => kf (by rw [if_neg q] at h; exact h) p e s m args below meth c C H locs ls hl hH hS)
theorem Go.icmp_le {Y : Type} {Z : Y} {a b : Int32} {off : Int} {A B : Option Y} (tgt : Nat) (hd : decode cc pc = .ok (.if_icmp .le off, 3)) (ht : (pc : Int) + off = (tgt : Int)) (h : (if a ≤ b then A else B) = some Z) (kt : A = some Z → Go l E own cc nL rt fr lo n0 u0 rv x' tgt lv st x) (kf : B = some Z → Go l E own cc nL rt fr lo n0 u0 rv x' (pc + 3) lv st x) : Go l E own cc nL rt fr lo n0 u0 rv x' pc lv (.int b :: .int a :: st) x := by
  intro p e s m args below meth c C H locs ls hl hH hS
  obtain ⟨hx, hb, hml, ho, hts, hr, hk, hkn⟩ := id C
  exact lv_icmp_le hx hb hd ht (fun q => kt (by rw [if_pos q] at h; exact h) p e s m args below meth c C H locs ls hl hH hS) (fun q => kf (by rw [if_neg q] at h; exact h) p e s m args below meth c C H locs ls hl hH hS)
theorem Go.tabIn {dflt lo2 hi : Int} {offs : Array Int} {len : Nat} {a : Int32} {off : Int} (tgt : Nat) (v : Int32) (ha : a = v) (hd : decode cc pc = .ok (.tableswitch dflt lo2 hi offs, len)) (h1 : ¬ v.toInt < lo2) (h2 : ¬ hi < v.toInt) (h3 : offs[(v.toInt - lo2).toNat]? = some off) (ht : (pc : Int) + off = (tgt : Int)) (k : Go l E own cc nL rt fr lo n0 u0 rv x' tgt lv st x) : Go l E own cc nL rt fr lo n0 u0 rv x' pc lv (.int a :: st) x := by
  intro p e s m args below meth c C H locs ls hl hH hS
  obtain ⟨hx, hb, hml, ho, hts, hr, hk, hkn⟩ := id C
  subst ha
  exact lv_tableIn hx hb hd h1 h2 h3 ht (k p e s m args below meth c C H locs ls hl hH hS)
theorem Go.tabOut {dflt lo2 hi : Int} {offs : Array Int} {len : Nat} {a : Int32} (tgt : Nat) (hd : decode cc pc = .ok (.tableswitch dflt lo2 hi offs, len)) (h1 : a.toInt < lo2 ∨ hi < a.toInt) (ht : (pc : Int) + dflt = (tgt : Int)) (k : Go l E own cc nL rt fr lo n0 u0 rv x' tgt lv st x) : Go l E own cc nL rt fr lo n0 u0 rv x' pc lv (.int a :: st) x := by
  intro p e s m args below meth c C H locs ls hl hH hS
  obtain ⟨hx, hb, hml, ho, hts, hr, hk, hkn⟩ := id C
  exact lv_tableOut hx hb hd h1 ht (k p e s m args below meth c C H locs ls hl hH hS)
theorem Go.iret {v : Int32} (hd : decode cc pc = .ok (.ireturn, 1)) (hrt : rt = some .int) : Go l E own cc nL rt fr lo n0 u0 (some (.int v)) x pc lv [.int v] x := by
  intro p e s m args below meth c C H locs ls hl hH hS
  obtain ⟨hx, hb, hml, ho, hts, hr, hk, hkn⟩ := id C
  subst hrt
  exact W.iret hx hb hr (fun t ht hW => ⟨rfl, by rw [ht]; exact hH, hS.F ht⟩) hS.2.2 hd
def zb (v : Int32) : Option Int32 := if v = 0 ∨ v = 1 then some v else none
theorem zb_nar {v w : Int32} (h : zb v = some w) : w = v ∧ narrow .boolean (.int v) = .int v := by
  unfold zb at h
  split at h
  · rename_i q
    refine ⟨(Option.some.inj h).symm, ?_⟩
    rcases q with rfl | rfl <;> rfl
  · cases h
theorem Go.zret {v w : Int32} (hd : decode cc pc = .ok (.ireturn, 1)) (hrt : rt = some .boolean) (h : zb v = some w) : Go l E own cc nL rt fr lo n0 u0 (some (.int w)) x pc lv [.int v] x := by
  intro p e s m args below meth c C H locs ls hl hH hS
  obtain ⟨hx, hb, hml, ho, hts, hr, hk, hkn⟩ := id C
  subst hrt
  obtain ⟨rfl, hn⟩ := zb_nar h
  exact W.zret hx hb hr hn (fun t ht hW => ⟨rfl, by rw [ht]; exact hH, hS.F ht⟩) hS.2.2 hd
theorem Go.vret (hd : decode cc pc = .ok (.return_, 1)) (hrt : rt = none) : Go l E own cc nL rt fr lo n0 u0 none x pc lv [] x := by
  intro p e s m args below meth c C H locs ls hl hH hS
  obtain ⟨hx, hb, hml, ho, hts, hr, hk, hkn⟩ := id C
  subst hrt
  exact W.vret hx hb hr (fun t ht hW => ⟨rfl, by rw [ht]; exact hH, hS.F ht⟩) hS.2.2 hd

/-- behind a call: its answer and world -/
theorem Go.run {own2 : String} {p : Program} {e : Env} {s : State} {m : MethodId} {args : Array Value} {below : List Frame} {meth : Method} {c : Code} {H : Heap} {locs : List Loc} {ls : Array Slot} {a : Array Value} {rest : List Value} {rv1 : Option Value} {x1 : X}
    (C : Cx E own2 cc nL rt p s m args meth c) (hl : lvh ls nL lv) (hS : va_S E.2.2.2.2 s.heap H locs)
    (hm : n0 ≤ E.2.2.1 x ∧ E.2.2.1 x ≤ E.2.2.1 x1 ∧ u0 ≤ E.2.2.2.1 x ∧ E.2.2.2.1 x ≤ E.2.2.2.1 x1)
    (hrun : va_Run p l e (Rm fr lo (E.2.2.1 x' - n0) (E.2.2.2.1 x' - u0)) s m args below meth c H locs (E.2.2.1 x - n0) (E.2.2.2.1 x - u0) (E.2.2.1 x1 - E.2.2.1 x) (E.2.2.2.1 x1 - E.2.2.2.1 x) (F0 m pc ls st) rest (Qg E rv1 x1 a) E.2.2.2.2)
    (k : Go l E own2 cc nL rt fr lo n0 u0 rv x' (pc + 3) lv (rv1.toList ++ rest) x1) :
    W p l e (Rm fr lo (E.2.2.1 x' - n0) (E.2.2.2.1 x' - u0)) s m args below meth c H locs (E.2.2.1 x - n0) (E.2.2.2.1 x - u0) (MQ below (Qg E rv x') args s (E.2.2.1 x' - n0) (E.2.2.2.1 x' - u0) E.2.2.2.2) (F0 m pc ls st) := by
  intro T hT Xs
  obtain ⟨v, st₀, t, T', L, h0, X', hL, e1, e2, ⟨hv, hH1, hz, hkp⟩, stp⟩ := hrun T hT Xs
  cases hv
  rw [h0] at hz hkp
  have hS1 : va_S E.2.2.2.2 s.heap T'.heap (locs ++ L) := by
    refine ⟨Nat.le_trans hS.1 (by rw [e1]; exact hz), fun q h1 h2 => ?_, fun q hq => ?_⟩
    · rw [e1, hkp q (Nat.lt_of_lt_of_le h1 hS.1) h2]
      exact hS.2.1 q h1 h2
    · rcases List.mem_append.mp hq with h | h
      · exact hS.2.2 q h
      · exact hL q h
  have e3 : E.2.2.1 x - n0 + (E.2.2.1 x1 - E.2.2.1 x) = E.2.2.1 x1 - n0 := by omega
  have e4 : E.2.2.2.1 x - u0 + (E.2.2.2.1 x1 - E.2.2.2.1 x) = E.2.2.2.1 x1 - u0 := by omega
  rw [e3, e4] at X'
  obtain ⟨t2, a1, b1⟩ := k p e s m args below meth c C T'.heap (locs ++ L) ls hl (by rw [e1]; exact hH1) hS1 T' rfl X'
  exact ⟨t2, stp t2 a1, b1⟩
/-- the words of a method that is called -/
theorem cb_of {R : Room} {s : State} {args : Array Value} {y : MethodName} {bytes : ByteArray} {maxL : Nat} {ret : Option FieldType} {index fr1 lo1 mc ms n : Nat} (hts : ∀ w ∈ gw, w.before args s = true) (hcode : Cond.code y bytes maxL ret ∈ gw) (hini : Cond.initialized y.cls ∈ gw) (hl : Cond.methodLink own index y ∈ gw)
    (hd : y.cls ≠ "java/lang/invoke/MethodHandle" ∧ y.cls ≠ "java/lang/invoke/VarHandle" ∧ (parseMethodDescriptor y.desc).map (fun d => d.parameters.length) = some n) (hR : fr1 + 1 ≤ R.frames ∧ 8 + (maxL + 11) + lo1 ≤ R.locals) :
    CallB R s args own index y bytes maxL ret (.code y bytes maxL ret :: gw) (Rm fr1 lo1 mc ms) mc ms n :=
  callB_of n hts (fun w hw => by
    rcases List.mem_cons.mp hw with h | h
    · rw [h]; exact gw_good _ hcode
    · exact gw_good _ h) rfl rfl rfl (hts _ hini) (hts _ hl) hd hR
theorem pc_blind {av : List Value} (hE : E.ok) : FrameBlind (va_Pc av (fun U => E.1 x U.heap ∧ E.2.1 U)) := by
  intro a U g mk q
  obtain ⟨q0, q1, q2⟩ := q
  exact ⟨q0, q1, hE U (U.calling g mk a) (Vm.Alike.refl U.vm) q2⟩
/-- what a call site knows of the method that it calls -/
def Ks (own : String) (i : Nat) (y : MethodName) (bytes : ByteArray) (maxL : Nat) (ret : Option FieldType) (n : Nat) : Prop :=
  Cond.code y bytes maxL ret ∈ gw ∧ Cond.initialized y.cls ∈ gw ∧ Cond.methodLink own i y ∈ gw ∧ y.cls ≠ "java/lang/invoke/MethodHandle" ∧ y.cls ≠ "java/lang/invoke/VarHandle" ∧ (parseMethodDescriptor y.desc).map (fun d => d.parameters.length) = some n
theorem Go.calls {i n : Nat} {y : MethodName} {bytes : ByteArray} {maxL fr1 lo1 : Nat} {ret : Option FieldType} {rv1 : Option Value} {x1 : X} (As : List Value) (hE : E.ok) (hd : decode cc pc = .ok (.invokestatic i, 3)) (hK : Ks own i y bytes maxL ret n) (hst : Cond.static y ∈ gw) (hM : Mt l E y bytes maxL ret fr1 lo1 As x rv1 x1)
    (hs : st = As.reverse ++ rest) (hn : As.length = n) (hf : fr1 + 1 ≤ fr) (hlo : 8 + (maxL + 11) + lo1 ≤ lo) (hc : (rest.map fun v => v.category).sum ≤ 8)
    (hm : n0 ≤ E.2.2.1 x ∧ E.2.2.1 x ≤ E.2.2.1 x1 ∧ u0 ≤ E.2.2.2.1 x ∧ E.2.2.2.1 x ≤ E.2.2.2.1 x1) (hm2 : E.2.2.1 x1 ≤ E.2.2.1 x' ∧ E.2.2.2.1 x1 ≤ E.2.2.2.1 x')
    (k : Go l E own cc nL rt fr lo n0 u0 rv x' (pc + 3) lv (rv1.toList ++ rest) x1) : Go l E own cc nL rt fr lo n0 u0 rv x' pc lv st x := by
  intro p e s m args below meth c C H locs ls hl hH hS
  obtain ⟨hx, hb, hml, ho, hts, hr, hk, hkn⟩ := id C
  refine Go.run C hl hS hm (a := As.toArray) (rest := rest) ?_ k
  exact va_runS (Ts := gw) (As := As) (rest := rest) ⟨hx, hb, hml, ho, hts⟩ hM ⟨cb_of hts hK.1 hK.2.1 hK.2.2.1 hK.2.2.2 ⟨hf, hlo⟩, hts _ hst⟩ ⟨pc_blind hE, fun U hU hW => ⟨rfl, by rw [hU]; exact hH, hE s U hW.alike hkn⟩⟩ rfl hn hl.1.1 hs (lv_room hc) hd ⟨by show _ ≤ E.2.2.1 x' - n0; omega, by show _ ≤ E.2.2.2.1 x' - u0; omega⟩
theorem Go.callv {i n b : Nat} {y : MethodName} {bytes : ByteArray} {maxL fr1 lo1 : Nat} {ret : Option FieldType} {rv1 : Option Value} {x1 : X} (As : List Value) (hE : E.ok) (hd : decode cc pc = .ok (.invokevirtual i, 3)) (hK : Ks own i y bytes maxL ret n) (hin : Cond.instanceMethod y ∈ gw) (hse : Cond.selects y.cls y y ∈ gw) (hM : Mt l E y bytes maxL ret fr1 lo1 (.ref b :: As) x rv1 x1)
    (hob : ∀ (s : State) (H : Heap), E.1 x H → E.2.1 s → ∃ cellB : Cell, H[b]? = some cellB ∧ cellB.vm.isStatics = false ∧ s.vm.findClass y.cls = some cellB.cls)
    (hs : st = As.reverse ++ .ref b :: rest) (hn : As.length = n) (hf : fr1 + 1 ≤ fr) (hlo : 8 + (maxL + 11) + lo1 ≤ lo) (hc : (rest.map fun v => v.category).sum ≤ 8)
    (hm : n0 ≤ E.2.2.1 x ∧ E.2.2.1 x ≤ E.2.2.1 x1 ∧ u0 ≤ E.2.2.2.1 x ∧ E.2.2.2.1 x ≤ E.2.2.2.1 x1) (hm2 : E.2.2.1 x1 ≤ E.2.2.1 x' ∧ E.2.2.2.1 x1 ≤ E.2.2.2.1 x')
    (k : Go l E own cc nL rt fr lo n0 u0 rv x' (pc + 3) lv (rv1.toList ++ rest) x1) : Go l E own cc nL rt fr lo n0 u0 rv x' pc lv st x := by
  intro p e s m args below meth c C H locs ls hl hH hS
  obtain ⟨hx, hb, hml, ho, hts, hr, hk, hkn⟩ := id C
  refine Go.run C hl hS hm (a := (Value.ref b :: As).toArray) (rest := rest) ?_ k
  exact va_runV (Ts := gw) (C := y.cls) (As := As) (rest := rest) ⟨hx, hb, hml, ho, hts⟩ hM ⟨cb_of hts hK.1 hK.2.1 hK.2.2.1 hK.2.2.2 ⟨hf, hlo⟩, hts _ hin, hts _ hse⟩ ⟨pc_blind hE, hob s H hH hkn, fun U hU hW => ⟨rfl, by rw [hU]; exact hH, hE s U hW.alike hkn⟩⟩ rfl hn hl.1.1 hs (lv_room hc) hd ⟨by show _ ≤ E.2.2.1 x' - n0; omega, by show _ ≤ E.2.2.2.1 x' - u0; omega⟩

end GO
