def CxN {X : Type} (E : Ev X) (own : String) (cc : ByteArray) (nL : Nat) (rt : Option FieldType) (p : Program) (s : State) (m : MethodId) (args : Array Value) (meth : Method) (c : Code) : Prop :=
  p.tables.exec = Jvm.exec ∧ c.code = cc ∧ c.maxLocals = nL ∧ s.vm.findClass own = some m.cls ∧ (∀ w ∈ gw, w.before args s = true) ∧ meth.sig.returnType = rt ∧ meth.locks = false ∧ (E.2.1 s ∧ meth.name = "<init>")
/-- Go, in a constructor -/
def GoN {X : Type} (l : Launch) (E : Ev X) (own : String) (cc : ByteArray) (nL : Nat) (rt : Option FieldType) (fr lo n0 u0 : Nat) (rv : Option Value) (x' : X) (pc : Nat) (lv : List (Nat × Value)) (st : List Value) (x : X) : Prop :=
  ∀ (p : Program) (e : Env) (s : State) (m : MethodId) (args : Array Value) (below : List Frame) (meth : Method) (c : Code), CxN E own cc nL rt p s m args meth c →
    ∀ (H : Heap) (locs : List Loc) (ls : Array Slot), lvh ls nL lv → E.1 x H → va_S E.2.2.2.2 s.heap H locs →
      W p l e (Rm fr lo (E.2.2.1 x' - n0) (E.2.2.2.1 x' - u0)) s m args below meth c H locs (E.2.2.1 x - n0) (E.2.2.2.1 x - u0) (MQ below (Qg E rv x') args s (E.2.2.1 x' - n0) (E.2.2.2.1 x' - u0) E.2.2.2.2) (F0 m pc ls st)
section GON
variable {X : Type} {l : Launch} {E : Ev X} {own : String} {cc : ByteArray} {nL : Nat} {rt : Option FieldType} {fr lo n0 u0 : Nat} {rv : Option Value} {x' : X} {pc : Nat} {lv lv' : List (Nat × Value)} {st rest : List Value} {x : X}
theorem Mt.ofN {y : MethodName} {av : List Value} (hy : plainName y.cls = true) (hyn : y.name = "<init>") (hn : (lg_sl av).length ≤ nL) (hc : ∀ q ∈ lv_args 0 av, q.2.category = 1) (h : GoN l E y.cls cc nL rt fr lo (E.2.2.1 x) (E.2.2.2.1 x) rv x' 0 (lv_args 0 av) [] x) : Mt l E y cc nL rt fr lo av x rv x' := by
  refine Met.ofW (cc := cc) (maxL := nL) (ret := rt) hy rfl ?_
  intro p e s m args below meth c s₁ B hml hv
  obtain ⟨rfl, hH, hK⟩ := hv
  have hts := atoms_spec B.pre
  have hl := lv_entry av hn
  rw [lg_entry_eq]
  have key := h p e s m av.toArray below meth c ⟨B.exec, B.bytes, hml, findClass_of_methodNamed B.named, fun w hw => hts w (List.mem_cons_of_mem _ hw), B.returns, B.notSynchronized, hK, (name_of_methodNamed B.named B.method).1.trans hyn⟩ s.heap [] _ ⟨hl, hc⟩ hH va_S.rf
  rw [Nat.sub_self, Nat.sub_self] at key
  exact key
theorem GoN.iconst {n : Int} (v : Int32) (hd : decode cc pc = .ok (.iconst n, 1)) (hv : Int32.ofInt n = v) (k : GoN l E own cc nL rt fr lo n0 u0 rv x' (pc + 1) lv (.int v :: st) x) : GoN l E own cc nL rt fr lo n0 u0 rv x' pc lv st x := by
  intro p e s m args below meth c C H locs ls hl hH hS
  obtain ⟨hx, hb, hml, ho, hts, hr, hk, ⟨hkn, hmn⟩⟩ := id C
  exact lv_iconst hx hb hd hv (k p e s m args below meth c C H locs ls hl hH hS)
theorem GoN.bipush {n : Int} (v : Int32) (hd : decode cc pc = .ok (.bipush n, 2)) (hv : (Int8.ofInt n).toInt32 = v) (k : GoN l E own cc nL rt fr lo n0 u0 rv x' (pc + 2) lv (.int v :: st) x) : GoN l E own cc nL rt fr lo n0 u0 rv x' pc lv st x := by
  intro p e s m args below meth c C H locs ls hl hH hS
  obtain ⟨hx, hb, hml, ho, hts, hr, hk, ⟨hkn, hmn⟩⟩ := id C
  exact lv_bipush hx hb hd hv (k p e s m args below meth c C H locs ls hl hH hS)
theorem GoN.sipush {n : Int} (v : Int32) (hd : decode cc pc = .ok (.sipush n, 3)) (hv : (Int16.ofInt n).toInt32 = v) (k : GoN l E own cc nL rt fr lo n0 u0 rv x' (pc + 3) lv (.int v :: st) x) : GoN l E own cc nL rt fr lo n0 u0 rv x' pc lv st x := by
  intro p e s m args below meth c C H locs ls hl hH hS
  obtain ⟨hx, hb, hml, ho, hts, hr, hk, ⟨hkn, hmn⟩⟩ := id C
  exact lv_sipush hx hb hd hv (k p e s m args below meth c C H locs ls hl hH hS)
theorem GoN.ldc {i : Nat} {v : Int32} (hw : Cond.constant own i v ∈ gw) (hd : decode cc pc = .ok (.ldc i, 2)) (k : GoN l E own cc nL rt fr lo n0 u0 rv x' (pc + 2) lv (.int v :: st) x) : GoN l E own cc nL rt fr lo n0 u0 rv x' pc lv st x := by
  intro p e s m args below meth c C H locs ls hl hH hS
  obtain ⟨hx, hb, hml, ho, hts, hr, hk, ⟨hkn, hmn⟩⟩ := id C
  exact lv_ldc hx hb ho (hts _ hw) hd (k p e s m args below meth c C H locs ls hl hH hS)
theorem GoN.aload_n {f : Fin 4} {v : Nat} (j : Nat) (hd : decode cc pc = .ok (.aload_n f, 1)) (hv : lv[j]? = some (f.val, .ref v)) (k : GoN l E own cc nL rt fr lo n0 u0 rv x' (pc + 1) lv (.ref v :: st) x) : GoN l E own cc nL rt fr lo n0 u0 rv x' pc lv st x := by
  intro p e s m args below meth c C H locs ls hl hH hS
  obtain ⟨hx, hb, hml, ho, hts, hr, hk, ⟨hkn, hmn⟩⟩ := id C
  exact lv_aload_n hx hb hd rfl (lv_at hl.1 j hv) (k p e s m args below meth c C H locs ls hl hH hS)
theorem GoN.dup {v : Value} (hd : decode cc pc = .ok (.dup, 1)) (hc : v.category = 1) (k : GoN l E own cc nL rt fr lo n0 u0 rv x' (pc + 1) lv (v :: v :: st) x) : GoN l E own cc nL rt fr lo n0 u0 rv x' pc lv (v :: st) x := by
  intro p e s m args below meth c C H locs ls hl hH hS
  obtain ⟨hx, hb, hml, ho, hts, hr, hk, ⟨hkn, hmn⟩⟩ := id C
  exact lv_dup hx hb hd hc (k p e s m args below meth c C H locs ls hl hH hS)
theorem GoN.vret (hd : decode cc pc = .ok (.return_, 1)) (hrt : rt = none) : GoN l E own cc nL rt fr lo n0 u0 none x pc lv [] x := by
  intro p e s m args below meth c C H locs ls hl hH hS
  obtain ⟨hx, hb, hml, ho, hts, hr, hk, ⟨hkn, hmn⟩⟩ := id C
  subst hrt
  exact W.vret hx hb hr (fun t ht hW => ⟨rfl, by rw [ht]; exact hH, hS.F ht⟩) hS.2.2 hd

theorem GoN.run {own2 : String} {p : Program} {e : Env} {s : State} {m : MethodId} {args : Array Value} {below : List Frame} {meth : Method} {c : Code} {H : Heap} {locs : List Loc} {ls : Array Slot} {a : Array Value} {rest : List Value} {rv1 : Option Value} {x1 : X}
    (C : CxN E own2 cc nL rt p s m args meth c) (hl : lvh ls nL lv) (hS : va_S E.2.2.2.2 s.heap H locs)
    (hm : n0 ≤ E.2.2.1 x ∧ E.2.2.1 x ≤ E.2.2.1 x1 ∧ u0 ≤ E.2.2.2.1 x ∧ E.2.2.2.1 x ≤ E.2.2.2.1 x1)
    (hrun : va_Run p l e (Rm fr lo (E.2.2.1 x' - n0) (E.2.2.2.1 x' - u0)) s m args below meth c H locs (E.2.2.1 x - n0) (E.2.2.2.1 x - u0) (E.2.2.1 x1 - E.2.2.1 x) (E.2.2.2.1 x1 - E.2.2.2.1 x) (F0 m pc ls st) rest (Qg E rv1 x1 a) E.2.2.2.2)
    (k : GoN l E own2 cc nL rt fr lo n0 u0 rv x' (pc + 3) lv (rv1.toList ++ rest) x1) :
    W p l e (Rm fr lo (E.2.2.1 x' - n0) (E.2.2.2.1 x' - u0)) s m args below meth c H locs (E.2.2.1 x - n0) (E.2.2.2.1 x - u0) (MQ below (Qg E rv x') args s (E.2.2.1 x' - n0) (E.2.2.2.1 x' - u0) E.2.2.2.2) (F0 m pc ls st) := by
  intro T hT Xs
  obtain ⟨v, st₀, t, T', L, h0, X', hL, e1, e2, ⟨hv, hH1, hz, hkp⟩, stp⟩ := hrun T hT Xs
  cases hv
  rw [h0] at hz hkp
  have hS1 : va_S E.2.2.2.2 s.heap T'.heap (locs ++ L) := by
    refine ⟨Nat.le_trans hS.1 (by rw [e1]; exact hz), fun q h1 h2 => ?_, fun q hq => ?_⟩
    · rw [e1, hkp q (Nat.lt_of_lt_of_le h1 hS.1) h2]
      exact hS.2.1 q h1 h2
    · rcases List.mem_append.mp hq with h | h
      · exact hS.2.2 q h
      · exact hL q h
  have e3 : E.2.2.1 x - n0 + (E.2.2.1 x1 - E.2.2.1 x) = E.2.2.1 x1 - n0 := by omega
  have e4 : E.2.2.2.1 x - u0 + (E.2.2.2.1 x1 - E.2.2.2.1 x) = E.2.2.2.1 x1 - u0 := by omega
  rw [e3, e4] at X'
  obtain ⟨t2, a1, b1⟩ := k p e s m args below meth c C T'.heap (locs ++ L) ls hl (by rw [e1]; exact hH1) hS1 T' rfl X'
  exact ⟨t2, stp t2 a1, b1⟩
theorem GoN.calls {i n : Nat} {y : MethodName} {bytes : ByteArray} {maxL fr1 lo1 : Nat} {ret : Option FieldType} {rv1 : Option Value} {x1 : X} (As : List Value) (hE : E.ok) (hd : decode cc pc = .ok (.invokestatic i, 3)) (hK : Ks own i y bytes maxL ret n) (hst : Cond.static y ∈ gw) (hM : Mt l E y bytes maxL ret fr1 lo1 As x rv1 x1)
    (hs : st = As.reverse ++ rest) (hn : As.length = n) (hf : fr1 + 1 ≤ fr) (hlo : 8 + (maxL + 11) + lo1 ≤ lo) (hc : (rest.map fun v => v.category).sum ≤ 8)
    (hm : n0 ≤ E.2.2.1 x ∧ E.2.2.1 x ≤ E.2.2.1 x1 ∧ u0 ≤ E.2.2.2.1 x ∧ E.2.2.2.1 x ≤ E.2.2.2.1 x1) (hm2 : E.2.2.1 x1 ≤ E.2.2.1 x' ∧ E.2.2.2.1 x1 ≤ E.2.2.2.1 x')
    (k : GoN l E own cc nL rt fr lo n0 u0 rv x' (pc + 3) lv (rv1.toList ++ rest) x1) : GoN l E own cc nL rt fr lo n0 u0 rv x' pc lv st x := by
  intro p e s m args below meth c C H locs ls hl hH hS
  obtain ⟨hx, hb, hml, ho, hts, hr, hk, ⟨hkn, hmn⟩⟩ := id C
  refine GoN.run C hl hS hm (a := As.toArray) (rest := rest) ?_ k
  exact va_runS (Ts := gw) (As := As) (rest := rest) ⟨hx, hb, hml, ho, hts⟩ hM ⟨cb_of hts hK.1 hK.2.1 hK.2.2.1 hK.2.2.2 ⟨hf, hlo⟩, hts _ hst⟩ ⟨pc_blind hE, fun U hU hW => ⟨rfl, by rw [hU]; exact hH, hE s U hW.alike hkn⟩⟩ rfl hn hl.1.1 hs (lv_room hc) hd ⟨by show _ ≤ E.2.2.1 x' - n0; omega, by show _ ≤ E.2.2.2.1 x' - u0; omega⟩
theorem GoN.callv {i n b : Nat} {y : MethodName} {bytes : ByteArray} {maxL fr1 lo1 : Nat} {ret : Option FieldType} {rv1 : Option Value} {x1 : X} (As : List Value) (hE : E.ok) (hd : decode cc pc = .ok (.invokevirtual i, 3)) (hK : Ks own i y bytes maxL ret n) (hin : Cond.instanceMethod y ∈ gw) (hse : Cond.selects y.cls y y ∈ gw) (hM : Mt l E y bytes maxL ret fr1 lo1 (.ref b :: As) x rv1 x1)
    (hob : ∀ (s : State) (H : Heap), E.1 x H → E.2.1 s → ∃ cellB : Cell, H[b]? = some cellB ∧ cellB.vm.isStatics = false ∧ s.vm.findClass y.cls = some cellB.cls)
    (hs : st = As.reverse ++ .ref b :: rest) (hn : As.length = n) (hf : fr1 + 1 ≤ fr) (hlo : 8 + (maxL + 11) + lo1 ≤ lo) (hc : (rest.map fun v => v.category).sum ≤ 8)
    (hm : n0 ≤ E.2.2.1 x ∧ E.2.2.1 x ≤ E.2.2.1 x1 ∧ u0 ≤ E.2.2.2.1 x ∧ E.2.2.2.1 x ≤ E.2.2.2.1 x1) (hm2 : E.2.2.1 x1 ≤ E.2.2.1 x' ∧ E.2.2.2.1 x1 ≤ E.2.2.2.1 x')
    (k : GoN l E own cc nL rt fr lo n0 u0 rv x' (pc + 3) lv (rv1.toList ++ rest) x1) : GoN l E own cc nL rt fr lo n0 u0 rv x' pc lv st x := by
  intro p e s m args below meth c C H locs ls hl hH hS
  obtain ⟨hx, hb, hml, ho, hts, hr, hk, ⟨hkn, hmn⟩⟩ := id C
  refine GoN.run C hl hS hm (a := (Value.ref b :: As).toArray) (rest := rest) ?_ k
  exact va_runV (Ts := gw) (C := y.cls) (As := As) (rest := rest) ⟨hx, hb, hml, ho, hts⟩ hM ⟨cb_of hts hK.1 hK.2.1 hK.2.2.1 hK.2.2.2 ⟨hf, hlo⟩, hts _ hin, hts _ hse⟩ ⟨pc_blind hE, hob s H hH hkn, fun U hU hW => ⟨rfl, by rw [hU]; exact hH, hE s U hW.alike hkn⟩⟩ rfl hn hl.1.1 hs (lv_room hc) hd ⟨by show _ ≤ E.2.2.1 x' - n0; omega, by show _ ≤ E.2.2.2.1 x' - u0; omega⟩

end GON
theorem Met.conv {l : Launch} {y : MethodName} {ws : List Cond} {rm : Room} {Pc Pc' : Array Value → State → Prop} {Qc Qc' : Array Value → State → Outcome → State → Prop} {mc ms : Nat} {free free' : Addr → Prop} (h : Met l y ws rm Pc Qc mc ms free) (h1 : ∀ a s, Pc' a s → Pc a s) (h2 : ∀ a s o t, Pc' a s → Qc a s o t → Qc' a s o t) (h3 : ∀ q, free q → free' q) : Met l y ws rm Pc' Qc' mc ms free' := by
  intro p e ha hc hk s m args below hf happ hP hK
  obtain ⟨n, oc, g1, g2, g3, g4, L, g5, g6⟩ := h p e ha hc hk s m args below hf happ (h1 _ _ hP) hK
  exact ⟨n, oc, g1, g2, g3, h2 _ _ _ _ hP g4, L, g5, fun q hq => h3 _ (g6 q hq)⟩
def p_fv (o nf : Nat) (F : Nat → Int32) (k : Nat) : Value := match m_af k with
  | some j => if j < nf then .ref (o + 1 + j) else .null
  | none => .int (F k)
def p_sl (na : Nat) : Nat := ((List.range na).map m_len).sum
abbrev PS : Type := Nat × Nat × MS
/-- the reference in the making: nf of its fields are set, na of its rows made -/
def HP (κ : KMt) (x : PS) (H : Heap) : Prop :=
  (H.size = κ.o + 1 + x.2.1 ∧ (H[κ.o]?).map (·.slots.size) = some 53 ∧ ∀ j i, x.2.1 ≤ j → x.2.2.1 j i = 0) ∧ t_OB κ.o κ.1 53 κ.2.1 H (p_fv κ.o x.1 x.2.2.2) ∧ ∀ j, j < x.2.1 → H[κ.o + 1 + j]? = some (arrV (if m_z j = true then κ.2.2.2.1 else κ.2.2.1) (m_len j) (fun i => .int (x.2.2.1 j i)))
def KnP (κ : KMt) (s : State) : Prop := KnM κ s ∧ va_RA s κ.2.2.1 .int ∧ va_RA s κ.2.2.2.1 .boolean
def AP (κ : KMt) : Nat → Prop := fun q => κ.o ≤ q
abbrev EP (κ : KMt) : Ev PS := (HP κ, KnP κ, fun x => x.2.1, fun x => p_sl x.2.1, AP κ)
theorem EP_ok (κ : KMt) : (EP κ).ok := fun u U h q => ⟨EM_ok κ u U h q.1, q.2.1.moved h, q.2.2.moved h⟩
section GP
variable {l : Launch} {κ : KMt} {cc : ByteArray} {nL : Nat} {rt : Option FieldType} {fr lo : Nat} {rv : Option Value} {x' : PS} {pc : Nat} {lv : List (Nat × Value)} {st rest : List Value} {S : MS} {nf na : Nat} {Y : Type} {Z : Y}
theorem GP.oinit {i : Nat} {x : PS} (hw : Cond.methodLink RX12 i objectInit ∈ gw) (hd : decode cc pc = .ok (.invokespecial i, 3)) (hf : 1 ≤ fr) (hcr : cat1 st) (hlo : st.length + 12 ≤ lo) (k : GoN l (EP κ) RX12 cc nL rt fr lo 0 0 rv x' (pc + 3) lv st x) : GoN l (EP κ) RX12 cc nL rt fr lo 0 0 rv x' pc lv (.ref κ.o :: st) x := by
  intro p e s m args below meth c C H locs ls hl hH hS
  obtain ⟨hx, hb, hml, ho, hts, hr, hk, hkn⟩ := id C
  refine W.objInit hx hb ho (hts _ hw) (hts _ oi_inst) (hts _ oi_code) rfl (by rw [hml]; exact hl.1.1) rfl hd hf (by show 2 * 0 + _ + 12 ≤ lo; rw [cat1_sum hcr]; omega) ?_
  exact k p e s m args below meth c C H locs ls hl hH hS

theorem GP.newI {v : Int32} (j : Nat) (hj : j < 30) (hz : m_z j = false) (hv : ¬ v < 0 ∧ v.toNatClampNeg = m_len j) (hb4 : m_len j ≤ 1000000) (hx1 : j + 1 ≤ x'.2.1) (hx2 : p_sl j + m_len j ≤ p_sl x'.2.1) (hd : decode cc pc = .ok (.newarray .int, 2)) (n : GoN l (EP κ) RX12 cc nL rt fr lo 0 0 rv x' (pc + 2) lv (.ref (κ.o + 1 + j) :: st) (nf, j + 1, S)) : GoN l (EP κ) RX12 cc nL rt fr lo 0 0 rv x' pc lv (.int v :: st) (nf, j, S) := by
  intro p e s m args below meth c C H locs ls hl hH hS
  obtain ⟨hx, hb, hml, ho, hts, hr, hk, hkn⟩ := id C
  obtain ⟨⟨hsz, h53, h0⟩, hob, harr⟩ := id hH
  have hsz : H.size = κ.o + 1 + j := hsz
  have hpl : p_sl (j + 1) = p_sl j + m_len j := by simp [p_sl, List.range_succ]
  refine W.newa (atype := .int) hx hb (hts _ ac_int) rfl hd rfl hv.1 (by rw [hv.2]; simp only [newarray.typeOf, componentBytes]; omega) (by show j - 0 + 1 ≤ x'.2.1 - 0; omega) (by show p_sl j - 0 + v.toNatClampNeg ≤ p_sl x'.2.1 - 0; rw [hv.2]; omega) fun cA kA comp f1 f2 f3 => ?_
  have ecA : cA = κ.2.2.1 := Option.some.inj (f1.symm.trans hkn.1.2.1)
  subst ecA
  have hlt : ∀ q, q < H.size → (H.push ({ cls := κ.2.2.1, slots := Array.replicate v.toNatClampNeg (defaultValue (newarray.typeOf .int)), vm := .none } : Cell))[q]? = H[q]? := fun q hq => by rw [Array.getElem?_push_lt hq, ← Array.getElem?_eq_getElem]
  have key := n p e s m args below meth c C (H.push { cls := κ.2.2.1, slots := Array.replicate v.toNatClampNeg (defaultValue (newarray.typeOf .int)), vm := .none }) locs ls hl ?_ ?_
  · have e1 : j - 0 + 1 = (j + 1) - 0 := by omega
    have e2 : p_sl j - 0 + v.toNatClampNeg = p_sl (j + 1) - 0 := by rw [hv.2, hpl]; omega
    have e3 : F0 m (pc + 2) ls (.ref H.size :: st) = F0 m (pc + 2) ls (.ref (κ.o + 1 + j) :: st) := by rw [hsz]
    show W p l e _ s m args below meth c _ locs (j - 0 + 1) (p_sl j - 0 + v.toNatClampNeg) _ (F0 m (pc + 2) ls (.ref H.size :: st))
    rw [e1, e2, e3]
    exact key
  · refine ⟨⟨by rw [Array.size_push, hsz]; rfl, by rw [hlt _ (by omega)]; exact h53, fun j2 i2 h2 => h0 j2 i2 (by show j ≤ j2; have : j + 1 ≤ j2 := h2; omega)⟩, hob.kept (hlt _ (by omega)), fun j2 h2 => ?_⟩
    have h2 : j2 < j + 1 := h2
    by_cases e : j2 = j
    · subst e
      rw [← hsz, Array.getElem?_push_size, arrV_new, hv.2, if_neg (by rw [hz]; decide)]
      congr 2
      funext i2
      have := h0 j2 i2 (Nat.le_refl _)
      show _ = Value.int (S.1 j2 i2)
      have this : S.1 j2 i2 = 0 := this
      rw [this]
      rfl
    · rw [hlt _ (by omega)]
      exact harr j2 (by show j2 < j; omega)
  · exact ⟨by rw [Array.size_push]; have := hS.1; omega, fun q h1 h2 => by rw [hlt q (Nat.lt_of_lt_of_le h1 hS.1)]; exact hS.2.1 q h1 h2, hS.2.2⟩
theorem GP.newZ {v : Int32} (j : Nat) (hj : j < 30) (hz : m_z j = true) (hv : ¬ v < 0 ∧ v.toNatClampNeg = m_len j) (hb4 : m_len j ≤ 1000000) (hx1 : j + 1 ≤ x'.2.1) (hx2 : p_sl j + m_len j ≤ p_sl x'.2.1) (hd : decode cc pc = .ok (.newarray .boolean, 2)) (n : GoN l (EP κ) RX12 cc nL rt fr lo 0 0 rv x' (pc + 2) lv (.ref (κ.o + 1 + j) :: st) (nf, j + 1, S)) : GoN l (EP κ) RX12 cc nL rt fr lo 0 0 rv x' pc lv (.int v :: st) (nf, j, S) := by
  intro p e s m args below meth c C H locs ls hl hH hS
  obtain ⟨hx, hb, hml, ho, hts, hr, hk, hkn⟩ := id C
  obtain ⟨⟨hsz, h53, h0⟩, hob, harr⟩ := id hH
  have hsz : H.size = κ.o + 1 + j := hsz
  have hpl : p_sl (j + 1) = p_sl j + m_len j := by simp [p_sl, List.range_succ]
  refine W.newa (atype := .boolean) hx hb (hts _ ac_bool) rfl hd rfl hv.1 (by rw [hv.2]; simp only [newarray.typeOf, componentBytes]; omega) (by show j - 0 + 1 ≤ x'.2.1 - 0; omega) (by show p_sl j - 0 + v.toNatClampNeg ≤ p_sl x'.2.1 - 0; rw [hv.2]; omega) fun cA kA comp f1 f2 f3 => ?_
  have ecA : cA = κ.2.2.2.1 := Option.some.inj (f1.symm.trans hkn.1.2.2)
  subst ecA
  have hlt : ∀ q, q < H.size → (H.push ({ cls := κ.2.2.2.1, slots := Array.replicate v.toNatClampNeg (defaultValue (newarray.typeOf .boolean)), vm := .none } : Cell))[q]? = H[q]? := fun q hq => by rw [Array.getElem?_push_lt hq, ← Array.getElem?_eq_getElem]
  have key := n p e s m args below meth c C (H.push { cls := κ.2.2.2.1, slots := Array.replicate v.toNatClampNeg (defaultValue (newarray.typeOf .boolean)), vm := .none }) locs ls hl ?_ ?_
  · have e1 : j - 0 + 1 = (j + 1) - 0 := by omega
    have e2 : p_sl j - 0 + v.toNatClampNeg = p_sl (j + 1) - 0 := by rw [hv.2, hpl]; omega
    have e3 : F0 m (pc + 2) ls (.ref H.size :: st) = F0 m (pc + 2) ls (.ref (κ.o + 1 + j) :: st) := by rw [hsz]
    show W p l e _ s m args below meth c _ locs (j - 0 + 1) (p_sl j - 0 + v.toNatClampNeg) _ (F0 m (pc + 2) ls (.ref H.size :: st))
    rw [e1, e2, e3]
    exact key
  · refine ⟨⟨by rw [Array.size_push, hsz]; rfl, by rw [hlt _ (by omega)]; exact h53, fun j2 i2 h2 => h0 j2 i2 (by show j ≤ j2; have : j + 1 ≤ j2 := h2; omega)⟩, hob.kept (hlt _ (by omega)), fun j2 h2 => ?_⟩
    have h2 : j2 < j + 1 := h2
    by_cases e : j2 = j
    · subst e
      rw [← hsz, Array.getElem?_push_size, arrV_new, hv.2, if_pos hz]
      congr 2
      funext i2
      have := h0 j2 i2 (Nat.le_refl _)
      show _ = Value.int (S.1 j2 i2)
      have this : S.1 j2 i2 = 0 := this
      rw [this]
      rfl
    · rw [hlt _ (by omega)]
      exact harr j2 (by show j2 < j; omega)
  · exact ⟨by rw [Array.size_push]; have := hS.1; omega, fun q h1 h2 => by rw [hlt q (Nat.lt_of_lt_of_le h1 hS.1)]; exact hS.2.1 q h1 h2, hS.2.2⟩
theorem GP.putv {i : Nat} {v : Value} {nf2 : Nat} {S2 : MS} (k : Nat) (hk : k < 53) (hw : Cond.fieldLink RX12 i "LikePagesModel" (TX12 k).2.1 (TX12 k).2.2.1 ∈ gw) (hT : (TX12 k).1 = "LikePagesModel") (hn : narrow (tyX12 k) v = v) (hfit : fits (tyX12 k) v = true) (hd : decode cc pc = .ok (.putfield i, 3)) (h1 : S2.1 = S.1) (hV : ∀ q, q < 53 → updV (p_fv κ.o nf S.2) k v q = p_fv κ.o nf2 S2.2 q) (n : GoN l (EP κ) RX12 cc nL rt fr lo 0 0 rv x' (pc + 3) lv st (nf2, na, S2)) : GoN l (EP κ) RX12 cc nL rt fr lo 0 0 rv x' pc lv (v :: .ref κ.o :: st) (nf, na, S) := by
  intro p e s m args below meth c C H locs ls hl hH hS
  obtain ⟨hx, hb, hml, ho, hts, hr, hlk, hkn, hmn⟩ := id C
  obtain ⟨⟨hsz, h53, h0⟩, ⟨cell, q1, q2, q3, q4⟩, hA⟩ := id hH
  have hsz : H.size = κ.o + 1 + na := hsz
  obtain ⟨hSl, hfc, kC, hkC, hkind⟩ := id hkn.1.1
  obtain ⟨cf, kf, fi, f, hi, hsl⟩ := hSl k hk
  have hap := m_apart hts hkn.1.1
  have hlay := hts _ (m_in _ (u_in_lay hk))
  have hst := (u_facts hfc hkC (u_lays hts m_in hk) hi).1
  have fin : ∀ H1 : Heap, H1[κ.o]? = some (cell.setSlot (κ.2.1 k) v) → H1.size = H.size → (∀ q, q ≠ κ.o → H1[q]? = H[q]?) → ∀ locs1, va_S (AP κ) s.heap H1 locs1 → W p l e (Rm fr lo (x'.2.1 - 0) (p_sl x'.2.1 - 0)) s m args below meth c H1 locs1 (na - 0) (p_sl na - 0) (MQ below (Qg (EP κ) rv x') args s (x'.2.1 - 0) (p_sl x'.2.1 - 0) (AP κ)) (F0 m (pc + 3) ls st) := by
    intro H1 e1 e2 e3 locs1 hS1
    refine n p e s m args below meth c C H1 locs1 ls hl ⟨⟨e2.trans hsz, by rw [e1]; rw [q1] at h53; simpa [k2_slotsz] using h53, fun j i h => by show S2.1 j i = 0; rw [h1]; exact h0 j i h⟩, t_OB.to ⟨_, e1, q2, q3, t_set q4 hap hk v⟩ hV, fun j hj2 => ?_⟩ hS1
    rw [e3 _ (by show κ.o + 1 + j ≠ κ.o; omega)]
    show _ = some (arrV _ _ (fun i => .int (S2.1 j i)))
    rw [h1]
    exact hA j hj2
  by_cases hf : (TX12 k).2.2.2 = true
  · unfold u_lay at hlay
    rw [if_pos hf] at hlay
    have hcf : m.cls = cf := by
      obtain ⟨_, _, c', _, _, _, -, -, hf', -, -, -, hown2, -⟩ := Cond.laysFinal_spec hlay
      have e1 : c' = cf := by have := hi.symm.trans hf'; simp at this; exact this.1.symm
      rw [hT] at hown2
      rw [← e1]; exact Option.some.inj (ho.symm.trans hown2)
    have h6 := u_fits hfc hkC hkind (Or.inr hlay) hi (tyX12_ok k hk) hn hfit
    refine W.putFinK hx hb ho (hts _ hw) (by rw [← hT]; exact hi) hst hcf hmn (by rw [q2]; exact h6) q1 q3 (by rw [hsl]; exact k2_hasslot (q4 k hk)) rfl rfl hd fun H1 g1 g2 g3 => ?_
    rw [hsl] at g1 ⊢
    exact fin H1 g1 g2 g3 _ (hS.put g2 g3 (Nat.le_refl _))
  · unfold u_lay at hlay
    rw [if_neg hf] at hlay
    have h6 := u_store hfc hkC hkind hlay hi (tyX12_ok k hk) hn hfit
    refine W.putK hx hb (f := f) ⟨ho, hts _ hw, ⟨_, _, _, by rw [← hT]; exact hi⟩, hst⟩ (by rw [q2]; exact h6) q1 q3 (by rw [hsl]; exact k2_hasslot (q4 k hk)) rfl rfl hd fun H1 g1 g2 g3 => ?_
    rw [hsl] at g1 ⊢
    exact fin H1 g1 g2 g3 _ (hS.put g2 g3 (Nat.le_refl _))
theorem m_uniq : ∀ k, k < 53 → ∀ k2, k2 < 53 → m_af k ≠ none → m_af k = m_af k2 → k = k2 := by decide +kernel
theorem GP.puta {i : Nat} (k j : Nat) (hk : k < 53) (hj : m_af k = some j) (hw : Cond.fieldLink RX12 i "LikePagesModel" (TX12 k).2.1 (TX12 k).2.2.1 ∈ gw) (hT : (TX12 k).1 = "LikePagesModel") (hty : tyX12 k = .array .int ∨ tyX12 k = .array .boolean) (hd : decode cc pc = .ok (.putfield i, 3)) (n : GoN l (EP κ) RX12 cc nL rt fr lo 0 0 rv x' (pc + 3) lv st (j + 1, na, S)) : GoN l (EP κ) RX12 cc nL rt fr lo 0 0 rv x' pc lv (.ref (κ.o + 1 + j) :: .ref κ.o :: st) (j, na, S) := by
  refine GP.putv (S2 := S) k hk hw hT (by rcases hty with e | e <;> rw [e] <;> rfl) (by rcases hty with e | e <;> rw [e] <;> rfl) hd rfl (fun q hq => ?_) n
  by_cases e : q = k
  · subst e
    simp [updV, p_fv, hj]
  · simp only [updV, e, if_false, p_fv]
    cases hq2 : m_af q with
    | none => rfl
    | some j2 =>
      have : j2 ≠ j := fun z => e (m_uniq q hq k hk (by rw [hq2]; exact fun h => by cases h) (by rw [hq2, hj, z]))
      by_cases h1 : j2 < j
      · simp only [h1, if_true, show j2 < j + 1 by omega]
      · simp only [h1, if_false, show ¬ j2 < j + 1 by omega]
theorem GP.puti {i : Nat} {v : Int32} (k : Nat) (hk : k < 53) (hj : m_af k = none) (hw : Cond.fieldLink RX12 i "LikePagesModel" (TX12 k).2.1 (TX12 k).2.2.1 ∈ gw) (hT : (TX12 k).1 = "LikePagesModel") (hty : tyX12 k = .int) (hd : decode cc pc = .ok (.putfield i, 3)) (n : GoN l (EP κ) RX12 cc nL rt fr lo 0 0 rv x' (pc + 3) lv st (nf, na, pf S k v)) : GoN l (EP κ) RX12 cc nL rt fr lo 0 0 rv x' pc lv (.int v :: .ref κ.o :: st) (nf, na, S) := by
  refine GP.putv (S2 := pf S k v) k hk hw hT (by rw [hty]; rfl) (by rw [hty]; rfl) hd rfl (fun q hq => ?_) n
  by_cases e : q = k
  · subst e
    simp [updV, p_fv, hj, pf, upd]
  · simp [updV, p_fv, e, pf, upd]
theorem GP.geta {i : Nat} (k j : Nat) (hk : k < 53) (hj : m_af k = some j) (hjn : j < nf) (hw : Cond.fieldLink RX12 i "LikePagesModel" (TX12 k).2.1 (TX12 k).2.2.1 ∈ gw) (hT : (TX12 k).1 = "LikePagesModel") (hd : decode cc pc = .ok (.getfield i, 3)) (n : GoN l (EP κ) RX12 cc nL rt fr lo 0 0 rv x' (pc + 3) lv (.ref (κ.o + 1 + j) :: st) (nf, na, S)) : GoN l (EP κ) RX12 cc nL rt fr lo 0 0 rv x' pc lv (.ref κ.o :: st) (nf, na, S) := by
  intro p e s m args below meth c C H locs ls hl hH hS
  obtain ⟨hx, hb, hml, ho, hts, hr, hlk, hkn, hmn⟩ := id C
  obtain ⟨-, ⟨cell, q1, q2, q3, q4⟩, -⟩ := id hH
  obtain ⟨hSl, hfc, kC, hkC, hkind⟩ := hkn.1.1
  obtain ⟨cf, kf, fi, f, hi, hsl⟩ := hSl k hk
  refine W.getf hx hb ho (hts _ hw) (by rw [← hT]; exact hi) (u_facts hfc hkC (u_lays hts m_in hk) hi).1 q1 (by rw [q3]; exact fun h => by cases h) (v := .ref (κ.o + 1 + j)) ?_ rfl rfl hd (n p e s m args below meth c C H locs ls hl hH hS)
  rw [hsl, q4 k hk]
  simp [p_fv, hj, hjn]
theorem GP.iast {i v : Int32} {K : MS → Option Y} (j : Nat) (hj : j < na) (hz : m_z j = false) (hd : decode cc pc = .ok (.iastore, 1)) (h : (wr S j i v).bind K = some Z) (n : ∀ S1 : MS, K S1 = some Z → GoN l (EP κ) RX12 cc nL rt fr lo 0 0 rv x' (pc + 1) lv st (nf, na, S1)) : GoN l (EP κ) RX12 cc nL rt fr lo 0 0 rv x' pc lv (.int v :: .int i :: .ref (κ.o + 1 + j) :: st) (nf, na, S) := by
  intro p e s m args below meth c C H locs ls hl hH hS
  obtain ⟨hx, hb, hml, ho, hts, hr, hlk, hkn, hmn⟩ := id C
  unfold wr at h
  split at h
  · rename_i hin
    obtain ⟨⟨hsz, h53, h0⟩, hob, harr⟩ := id hH
    have hc := harr j hj
    refine W.iast hx hb hc (by rw [if_neg (by rw [hz]; decide)]; exact hkn.1.2.1 _ _) (fun q => by cases q) (by rw [arrV_size]; exact hin) rfl rfl hd fun H1 e1 z oq => ?_
    refine n _ h p e s m args below meth c C H1 _ ls hl ⟨⟨z.trans hsz, by rw [oq _ (by show κ.o ≠ κ.o + 1 + j; omega)]; exact h53, fun j2 i2 h2 => ?_⟩, hob.kept (oq _ (by show κ.o ≠ κ.o + 1 + j; omega)), fun j2 h2 => ?_⟩ (hS.put z oq (by show κ.o ≤ κ.o + 1 + j; omega))
    · show up2 S.1 j i.toNatClampNeg v j2 i2 = 0
      have h2 : na ≤ j2 := h2
      have : ¬ (j2 = j) := by omega
      simp only [up2, this, false_and, if_false]
      exact h0 j2 i2 h2
    · by_cases hjj : j2 = j
      · subst hjj
        rw [e1, arrV_store]
        congr 2
        funext q
        by_cases hq : q = i.toNatClampNeg
        · subst hq
          simp [updV, up2]
        · simp [updV, up2, hq]
      · rw [oq _ (by show κ.o + 1 + j2 ≠ κ.o + 1 + j; omega)]
        have := harr j2 h2
        simp only [up2, hjj, false_and, if_false]
        exact this
  · cases h
theorem HP.done {H : Heap} (h : HP κ (30, 30, S) H) (hs : κ.2.2.2.2.2 = κ.o + 31) : HM κ S H := by
  obtain ⟨⟨hsz, h53, h0⟩, hob, harr⟩ := h
  refine ⟨⟨by rw [hs]; exact hsz, h53⟩, hob.to (fun k hk => ?_), harr⟩
  have key : ∀ k, k < 53 → ∀ j, m_af k = some j → j < 30 := by decide +kernel
  unfold p_fv m_fv
  cases hq : m_af k with
  | none => rfl
  | some j => simp only [key k hk j hq, if_true]
theorem HP.of {H : Heap} (h : HM κ S H) (hs : κ.2.2.2.2.2 = κ.o + 31) (h0 : ∀ j i, 30 ≤ j → S.1 j i = 0) : HP κ (30, 30, S) H := by
  obtain ⟨⟨hsz, h53⟩, hob, harr⟩ := h
  refine ⟨⟨by rw [hsz, hs]; rfl, h53, h0⟩, hob.to (fun k hk => ?_), harr⟩
  have key : ∀ k, k < 53 → ∀ j, m_af k = some j → j < 30 := by decide +kernel
  unfold p_fv m_fv
  cases hq : m_af k with
  | none => rfl
  | some j => simp only [key k hk j hq, if_true]
/-- a contract over the whole reference, in the making -/
theorem MtM.toP {y : MethodName} {bytes : ByteArray} {maxL fr1 lo1 : Nat} {ret : Option FieldType} {av : List Value} {S1 : MS} (hM : MtM l κ y bytes maxL ret fr1 lo1 av S none S1) (hs : κ.2.2.2.2.2 = κ.o + 31) (h0 : ∀ j i, 30 ≤ j → S1.1 j i = 0) : Mt l (EP κ) y bytes maxL ret fr1 lo1 av (30, 30, S) none (30, 30, S1) := by
  show Met l y _ (Rm fr1 lo1 (30 - 30) (p_sl 30 - p_sl 30)) _ _ (30 - 30) (p_sl 30 - p_sl 30) (AP κ)
  rw [Nat.sub_self, Nat.sub_self]
  refine Met.conv (show Met l y _ (Rm fr1 lo1 0 0) _ _ 0 0 (AM κ) from hM) (fun a s q => ⟨q.1, q.2.1.done hs, q.2.2.1⟩) (fun a s oc t q r => ⟨r.1, HP.of r.2.1 hs h0, r.2.2.1, fun z h1 h2 => r.2.2.2 z h1 (fun w => h2 w.1)⟩) (fun q h => h.1)
end GP
theorem oi_X12 : Cond.methodLink RX12 1 objectInit ∈ gw := gw_at 1374 (by decide +kernel) rfl
theorem p_slo : ∀ j, j < 30 → p_sl j + m_len j ≤ p_sl 30 := by decide +kernel
def mS0 : MS := (fun _ _ => 0, fun _ => 0)
/-- nothing is written beyond the thirty rows -/
noncomputable def zeroTail (S : MS) : Option Unit := by
  classical
  exact if ∀ j i, 30 ≤ j → S.1 j i = 0 then some () else none
theorem zeroTail_ok {S : MS} {u : Unit} (h : zeroTail S = some u) : ∀ j i, 30 ≤ j → S.1 j i = 0 := by
  unfold zeroTail at h
  split at h
  · assumption
  · cases h
noncomputable def r_init : Option MS := (wr (pf mS0 45 (-1)) 27 0 3).bind (fun T1 => (wr T1 27 1 16).bind (fun T2 => (wr T2 27 2 21).bind (fun T3 => (wr T3 27 3 20).bind (fun T4 => (wr T4 27 4 4).bind (fun T5 => (wr T5 27 5 4).bind (fun T6 => (wr T6 27 6 18).bind (fun T7 => (wr T7 27 7 15).bind (fun T8 => (wr T8 27 8 16).bind (fun T9 => (wr T9 27 9 4).bind (fun T10 => (wr T10 27 10 14).bind (fun T11 => (wr T11 27 11 5).bind (fun T12 => (wr T12 27 12 1).bind (fun T13 => (wr T13 27 13 18).bind (fun T14 => (wr T14 27 14 6).bind (fun T15 => (wr T15 27 15 23).bind (fun T16 => (wr T16 27 16 9).bind (fun T17 => (wr T17 27 17 20).bind (fun T18 => (wr T18 27 18 8).bind (fun T19 => (wr T19 27 19 9).bind (fun T20 => (wr T20 27 20 14).bind (fun T21 => (wr T21 27 21 7).bind (fun T22 => (wr T22 27 22 13).bind (fun T23 => (wr T23 27 23 5).bind (fun T24 => (wr T24 27 24 1).bind (fun T25 => (wr T25 27 25 19).bind (fun T26 => (wr T26 27 26 21).bind (fun T27 => (wr T27 27 27 18).bind (fun T28 => (wr T28 27 28 5).bind (fun T29 => (wr T29 27 29 3).bind (fun T30 => (wr T30 27 30 3).bind (fun T31 => (wr T31 27 31 1).bind (fun T32 => (wr T32 27 32 16).bind (fun T33 => (wr T33 27 33 3).bind (fun T34 => (wr T34 27 34 6).bind (fun T35 => (wr T35 27 35 1).bind (fun T36 => (wr T36 27 36 18).bind (fun T37 => (wr T37 27 37 4).bind (fun T38 => (wr T38 27 38 19).bind (fun T39 => (wr T39 27 39 9).bind (fun T40 => (wr T40 27 40 26).bind (fun T41 => (wr T41 27 41 5).bind (fun T42 => (wr T42 27 42 4).bind (fun T43 => (wr T43 27 43 5).bind (fun T44 => (wr T44 27 44 4).bind (fun T45 => (wr T45 27 45 9).bind (fun T46 => (wr T46 27 46 20).bind (fun T47 => (wr T47 27 47 5).bind (fun T48 => (wr T48 27 48 16).bind (fun T49 => (wr T49 27 49 12).bind (fun T50 => (wr T50 27 50 1).bind (fun T51 => (wr T51 27 51 3).bind (fun T52 => (wr T52 27 52 5).bind (fun T53 => (wr T53 27 53 3).bind (fun T54 => (wr T54 27 54 19).bind (fun T55 => (wr T55 27 55 21).bind (fun T56 => (wr T56 27 56 13).bind (fun T57 => (wr T57 27 57 4).bind (fun T58 => (wr T58 27 58 8).bind (fun T59 => (wr T59 27 59 5).bind (fun T60 => (wr T60 27 60 1).bind (fun T61 => (wr T61 27 61 4).bind (fun T62 => (wr T62 0 4 4).bind (fun T63 => (r_clearTree T63).bind (fun T64 => (zeroTail T64).bind (fun _ => (r_copy T64 0 1).bind (fun T65 => (zeroTail T65).bind (fun _ => some T65)))))))))))))))))))))))))))))))))))))))))))))))))))))))))))))))))))
set_option maxHeartbeats 4000000 in
set_option maxRecDepth 100000 in
theorem rs_init {l : Launch} {κ : KMt} {Z : MS} (hs : κ.2.2.2.2.2 = κ.o + 31) (h : r_init = some Z) : GoN l (EP κ) RX12 cX12_init 1 none 4 87 0 0 none (30, 30, Z) 0 [(0, .ref κ.o)] [] (0, 0, mS0) := by
  unfold r_init at h
  refine GoN.aload_n 0 dX12_init_0 rfl ?_
  refine GP.oinit oi_X12 dX12_init_1 (Nat.le_of_ble_eq_true rfl) trivial (Nat.le_of_ble_eq_true rfl) ?_
  refine GoN.aload_n 0 dX12_init_4 rfl ?_
  refine GoN.ldc (v := 495854) cn_7 dX12_init_5 ?_
  refine GP.newI 0 (by decide) rfl ⟨by decide, by decide +kernel⟩ (Nat.le_of_ble_eq_true rfl) (Nat.le_of_ble_eq_true rfl) (p_slo 0 (by decide)) dX12_init_7 ?_
  refine GP.puta 0 0 (by decide) rfl fl_a rfl (Or.inl rfl) dX12_init_9 ?_
  refine GoN.aload_n 0 dX12_init_12 rfl ?_
  refine GoN.ldc (v := 495854) cn_7 dX12_init_13 ?_
  refine GP.newI 1 (by decide) rfl ⟨by decide, by decide +kernel⟩ (Nat.le_of_ble_eq_true rfl) (Nat.le_of_ble_eq_true rfl) (p_slo 1 (by decide)) dX12_init_15 ?_
  refine GP.puta 1 1 (by decide) rfl fl_image rfl (Or.inl rfl) dX12_init_17 ?_
  refine GoN.aload_n 0 dX12_init_20 rfl ?_
  refine GoN.bipush 7 dX12_init_21 (by decide) ?_
  refine GP.newI 2 (by decide) rfl ⟨by decide, by decide +kernel⟩ (Nat.le_of_ble_eq_true rfl) (Nat.le_of_ble_eq_true rfl) (p_slo 2 (by decide)) dX12_init_23 ?_
  refine GP.puta 2 2 (by decide) rfl fl_now rfl (Or.inl rfl) dX12_init_25 ?_
  refine GoN.aload_n 0 dX12_init_28 rfl ?_
  refine GoN.bipush 7 dX12_init_29 (by decide) ?_
  refine GP.newI 3 (by decide) rfl ⟨by decide, by decide +kernel⟩ (Nat.le_of_ble_eq_true rfl) (Nat.le_of_ble_eq_true rfl) (p_slo 3 (by decide)) dX12_init_31 ?_
  refine GP.puta 3 3 (by decide) rfl fl_ahead rfl (Or.inl rfl) dX12_init_33 ?_
  refine GoN.aload_n 0 dX12_init_36 rfl ?_
  refine GoN.bipush 42 dX12_init_37 (by decide) ?_
  refine GP.newI 4 (by decide) rfl ⟨by decide, by decide +kernel⟩ (Nat.le_of_ble_eq_true rfl) (Nat.le_of_ble_eq_true rfl) (p_slo 4 (by decide)) dX12_init_39 ?_
  refine GP.puta 4 4 (by decide) rfl fl_pathPage rfl (Or.inl rfl) dX12_init_41 ?_
  refine GoN.aload_n 0 dX12_init_44 rfl ?_
  refine GoN.bipush 42 dX12_init_45 (by decide) ?_
  refine GP.newI 5 (by decide) rfl ⟨by decide, by decide +kernel⟩ (Nat.le_of_ble_eq_true rfl) (Nat.le_of_ble_eq_true rfl) (p_slo 5 (by decide)) dX12_init_47 ?_
  refine GP.puta 5 5 (by decide) rfl fl_pathEntry rfl (Or.inl rfl) dX12_init_49 ?_
  refine GoN.aload_n 0 dX12_init_52 rfl ?_
  refine GoN.bipush 7 dX12_init_53 (by decide) ?_
  refine GP.newZ 6 (by decide) rfl ⟨by decide, by decide +kernel⟩ (Nat.le_of_ble_eq_true rfl) (Nat.le_of_ble_eq_true rfl) (p_slo 6 (by decide)) dX12_init_55 ?_
  refine GP.puta 6 6 (by decide) rfl fl_isSecond rfl (Or.inr rfl) dX12_init_57 ?_
  refine GoN.aload_n 0 dX12_init_60 rfl ?_
  refine GoN.bipush 7 dX12_init_61 (by decide) ?_
  refine GP.newZ 7 (by decide) rfl ⟨by decide, by decide +kernel⟩ (Nat.le_of_ble_eq_true rfl) (Nat.le_of_ble_eq_true rfl) (p_slo 7 (by decide)) dX12_init_63 ?_
  refine GP.puta 7 7 (by decide) rfl fl_isSecondBest rfl (Or.inr rfl) dX12_init_65 ?_
  refine GoN.aload_n 0 dX12_init_68 rfl ?_
  refine GoN.bipush 40 dX12_init_69 (by decide) ?_
  refine GP.newI 8 (by decide) rfl ⟨by decide, by decide +kernel⟩ (Nat.le_of_ble_eq_true rfl) (Nat.le_of_ble_eq_true rfl) (p_slo 8 (by decide)) dX12_init_71 ?_
  refine GP.puta 15 8 (by decide) rfl fl_below rfl (Or.inl rfl) dX12_init_73 ?_
  refine GoN.aload_n 0 dX12_init_76 rfl ?_
  refine GoN.sipush 784 dX12_init_77 (by decide) ?_
  refine GP.newI 9 (by decide) rfl ⟨by decide, by decide +kernel⟩ (Nat.le_of_ble_eq_true rfl) (Nat.le_of_ble_eq_true rfl) (p_slo 9 (by decide)) dX12_init_80 ?_
  refine GP.puta 16 9 (by decide) rfl fl_stack rfl (Or.inl rfl) dX12_init_82 ?_
  refine GoN.aload_n 0 dX12_init_85 rfl ?_
  refine GoN.sipush 784 dX12_init_86 (by decide) ?_
  refine GP.newI 10 (by decide) rfl ⟨by decide, by decide +kernel⟩ (Nat.le_of_ble_eq_true rfl) (Nat.le_of_ble_eq_true rfl) (p_slo 10 (by decide)) dX12_init_89 ?_
  refine GP.puta 17 10 (by decide) rfl fl_orderOf rfl (Or.inl rfl) dX12_init_91 ?_
  refine GoN.aload_n 0 dX12_init_94 rfl ?_
  refine GoN.sipush 784 dX12_init_95 (by decide) ?_
  refine GP.newI 11 (by decide) rfl ⟨by decide, by decide +kernel⟩ (Nat.le_of_ble_eq_true rfl) (Nat.le_of_ble_eq_true rfl) (p_slo 11 (by decide)) dX12_init_98 ?_
  refine GP.puta 18 11 (by decide) rfl fl_deepOf rfl (Or.inl rfl) dX12_init_100 ?_
  refine GoN.aload_n 0 dX12_init_103 rfl ?_
  refine GoN.sipush 784 dX12_init_104 (by decide) ?_
  refine GP.newI 12 (by decide) rfl ⟨by decide, by decide +kernel⟩ (Nat.le_of_ble_eq_true rfl) (Nat.le_of_ble_eq_true rfl) (p_slo 12 (by decide)) dX12_init_107 ?_
  refine GP.puta 19 12 (by decide) rfl fl_aboveOf rfl (Or.inl rfl) dX12_init_109 ?_
  refine GoN.aload_n 0 dX12_init_112 rfl ?_
  refine GoN.sipush 784 dX12_init_113 (by decide) ?_
  refine GP.newI 13 (by decide) rfl ⟨by decide, by decide +kernel⟩ (Nat.le_of_ble_eq_true rfl) (Nat.le_of_ble_eq_true rfl) (p_slo 13 (by decide)) dX12_init_116 ?_
  refine GP.puta 20 13 (by decide) rfl fl_whichOf rfl (Or.inl rfl) dX12_init_118 ?_
  refine GoN.aload_n 0 dX12_init_121 rfl ?_
  refine GoN.sipush 784 dX12_init_122 (by decide) ?_
  refine GP.newI 14 (by decide) rfl ⟨by decide, by decide +kernel⟩ (Nat.le_of_ble_eq_true rfl) (Nat.le_of_ble_eq_true rfl) (p_slo 14 (by decide)) dX12_init_125 ?_
  refine GP.puta 21 14 (by decide) rfl fl_waitDeep rfl (Or.inl rfl) dX12_init_127 ?_
  refine GoN.aload_n 0 dX12_init_130 rfl ?_
  refine GoN.sipush 784 dX12_init_131 (by decide) ?_
  refine GP.newI 15 (by decide) rfl ⟨by decide, by decide +kernel⟩ (Nat.le_of_ble_eq_true rfl) (Nat.le_of_ble_eq_true rfl) (p_slo 15 (by decide)) dX12_init_134 ?_
  refine GP.puta 22 15 (by decide) rfl fl_waitAbove rfl (Or.inl rfl) dX12_init_136 ?_
  refine GoN.aload_n 0 dX12_init_139 rfl ?_
  refine GoN.sipush 784 dX12_init_140 (by decide) ?_
  refine GP.newI 16 (by decide) rfl ⟨by decide, by decide +kernel⟩ (Nat.le_of_ble_eq_true rfl) (Nat.le_of_ble_eq_true rfl) (p_slo 16 (by decide)) dX12_init_143 ?_
  refine GP.puta 23 16 (by decide) rfl fl_waitWhich rfl (Or.inl rfl) dX12_init_145 ?_
  refine GoN.aload_n 0 dX12_init_148 rfl ?_
  refine GoN.bipush 40 dX12_init_149 (by decide) ?_
  refine GP.newI 17 (by decide) rfl ⟨by decide, by decide +kernel⟩ (Nat.le_of_ble_eq_true rfl) (Nat.le_of_ble_eq_true rfl) (p_slo 17 (by decide)) dX12_init_151 ?_
  refine GP.puta 24 17 (by decide) rfl fl_measured rfl (Or.inl rfl) dX12_init_153 ?_
  refine GoN.aload_n 0 dX12_init_156 rfl ?_
  refine GoN.bipush 40 dX12_init_157 (by decide) ?_
  refine GP.newI 18 (by decide) rfl ⟨by decide, by decide +kernel⟩ (Nat.le_of_ble_eq_true rfl) (Nat.le_of_ble_eq_true rfl) (p_slo 18 (by decide)) dX12_init_159 ?_
  refine GP.puta 25 18 (by decide) rfl fl_found rfl (Or.inl rfl) dX12_init_161 ?_
  refine GoN.aload_n 0 dX12_init_164 rfl ?_
  refine GoN.sipush 784 dX12_init_165 (by decide) ?_
  refine GP.newI 19 (by decide) rfl ⟨by decide, by decide +kernel⟩ (Nat.le_of_ble_eq_true rfl) (Nat.le_of_ble_eq_true rfl) (p_slo 19 (by decide)) dX12_init_168 ?_
  refine GP.puta 34 19 (by decide) rfl fl_waitPage rfl (Or.inl rfl) dX12_init_170 ?_
  refine GoN.aload_n 0 dX12_init_173 rfl ?_
  refine GoN.sipush 784 dX12_init_174 (by decide) ?_
  refine GP.newI 20 (by decide) rfl ⟨by decide, by decide +kernel⟩ (Nat.le_of_ble_eq_true rfl) (Nat.le_of_ble_eq_true rfl) (p_slo 20 (by decide)) dX12_init_177 ?_
  refine GP.puta 35 20 (by decide) rfl fl_waitBound rfl (Or.inl rfl) dX12_init_179 ?_
  refine GoN.aload_n 0 dX12_init_182 rfl ?_
  refine GoN.sipush 784 dX12_init_183 (by decide) ?_
  refine GP.newI 21 (by decide) rfl ⟨by decide, by decide +kernel⟩ (Nat.le_of_ble_eq_true rfl) (Nat.le_of_ble_eq_true rfl) (p_slo 21 (by decide)) dX12_init_186 ?_
  refine GP.puta 36 21 (by decide) rfl fl_waitFar rfl (Or.inl rfl) dX12_init_188 ?_
  refine GoN.aload_n 0 dX12_init_191 rfl ?_
  refine GoN.iconst 3 dX12_init_192 (by decide) ?_
  refine GP.newI 22 (by decide) rfl ⟨by decide, by decide +kernel⟩ (Nat.le_of_ble_eq_true rfl) (Nat.le_of_ble_eq_true rfl) (p_slo 22 (by decide)) dX12_init_193 ?_
  refine GP.puta 38 22 (by decide) rfl fl_broke rfl (Or.inl rfl) dX12_init_195 ?_
  refine GoN.aload_n 0 dX12_init_198 rfl ?_
  refine GoN.bipush 40 dX12_init_199 (by decide) ?_
  refine GP.newI 23 (by decide) rfl ⟨by decide, by decide +kernel⟩ (Nat.le_of_ble_eq_true rfl) (Nat.le_of_ble_eq_true rfl) (p_slo 23 (by decide)) dX12_init_201 ?_
  refine GP.puta 39 23 (by decide) rfl fl_nearest rfl (Or.inl rfl) dX12_init_203 ?_
  refine GoN.aload_n 0 dX12_init_206 rfl ?_
  refine GoN.bipush 40 dX12_init_207 (by decide) ?_
  refine GP.newI 24 (by decide) rfl ⟨by decide, by decide +kernel⟩ (Nat.le_of_ble_eq_true rfl) (Nat.le_of_ble_eq_true rfl) (p_slo 24 (by decide)) dX12_init_209 ?_
  refine GP.puta 40 24 (by decide) rfl fl_groupOf rfl (Or.inl rfl) dX12_init_211 ?_
  refine GoN.aload_n 0 dX12_init_214 rfl ?_
  refine GoN.bipush 40 dX12_init_215 (by decide) ?_
  refine GP.newI 25 (by decide) rfl ⟨by decide, by decide +kernel⟩ (Nat.le_of_ble_eq_true rfl) (Nat.le_of_ble_eq_true rfl) (p_slo 25 (by decide)) dX12_init_217 ?_
  refine GP.puta 41 25 (by decide) rfl fl_chain rfl (Or.inl rfl) dX12_init_219 ?_
  refine GoN.aload_n 0 dX12_init_222 rfl ?_
  refine GoN.sipush 300 dX12_init_223 (by decide) ?_
  refine GP.newI 26 (by decide) rfl ⟨by decide, by decide +kernel⟩ (Nat.le_of_ble_eq_true rfl) (Nat.le_of_ble_eq_true rfl) (p_slo 26 (by decide)) dX12_init_226 ?_
  refine GP.puta 43 26 (by decide) rfl fl_sheet rfl (Or.inl rfl) dX12_init_228 ?_
  refine GoN.aload_n 0 dX12_init_231 rfl ?_
  refine GoN.iconst (-1) dX12_init_232 (by decide) ?_
  refine GP.puti 45 (by decide) rfl fl_fault rfl rfl dX12_init_233 ?_
  refine GoN.aload_n 0 dX12_init_236 rfl ?_
  refine GoN.bipush 62 dX12_init_237 (by decide) ?_
  refine GP.newI 27 (by decide) rfl ⟨by decide, by decide +kernel⟩ (Nat.le_of_ble_eq_true rfl) (Nat.le_of_ble_eq_true rfl) (p_slo 27 (by decide)) dX12_init_239 ?_
  refine GoN.dup dX12_init_241 rfl ?_
  refine GoN.iconst 0 dX12_init_242 (by decide) ?_
  refine GoN.iconst 3 dX12_init_243 (by decide) ?_
  refine GP.iast 27 (by decide) rfl dX12_init_244 h (fun T1 h => ?_)
  refine GoN.dup dX12_init_245 rfl ?_
  refine GoN.iconst 1 dX12_init_246 (by decide) ?_
  refine GoN.bipush 16 dX12_init_247 (by decide) ?_
  refine GP.iast 27 (by decide) rfl dX12_init_249 h (fun T2 h => ?_)
  refine GoN.dup dX12_init_250 rfl ?_
  refine GoN.iconst 2 dX12_init_251 (by decide) ?_
  refine GoN.bipush 21 dX12_init_252 (by decide) ?_
  refine GP.iast 27 (by decide) rfl dX12_init_254 h (fun T3 h => ?_)
  refine GoN.dup dX12_init_255 rfl ?_
  refine GoN.iconst 3 dX12_init_256 (by decide) ?_
  refine GoN.bipush 20 dX12_init_257 (by decide) ?_
  refine GP.iast 27 (by decide) rfl dX12_init_259 h (fun T4 h => ?_)
  refine GoN.dup dX12_init_260 rfl ?_
  refine GoN.iconst 4 dX12_init_261 (by decide) ?_
  refine GoN.iconst 4 dX12_init_262 (by decide) ?_
  refine GP.iast 27 (by decide) rfl dX12_init_263 h (fun T5 h => ?_)
  refine GoN.dup dX12_init_264 rfl ?_
  refine GoN.iconst 5 dX12_init_265 (by decide) ?_
  refine GoN.iconst 4 dX12_init_266 (by decide) ?_
  refine GP.iast 27 (by decide) rfl dX12_init_267 h (fun T6 h => ?_)
  refine GoN.dup dX12_init_268 rfl ?_
  refine GoN.bipush 6 dX12_init_269 (by decide) ?_
  refine GoN.bipush 18 dX12_init_271 (by decide) ?_
  refine GP.iast 27 (by decide) rfl dX12_init_273 h (fun T7 h => ?_)
  refine GoN.dup dX12_init_274 rfl ?_
  refine GoN.bipush 7 dX12_init_275 (by decide) ?_
  refine GoN.bipush 15 dX12_init_277 (by decide) ?_
  refine GP.iast 27 (by decide) rfl dX12_init_279 h (fun T8 h => ?_)
  refine GoN.dup dX12_init_280 rfl ?_
  refine GoN.bipush 8 dX12_init_281 (by decide) ?_
  refine GoN.bipush 16 dX12_init_283 (by decide) ?_
  refine GP.iast 27 (by decide) rfl dX12_init_285 h (fun T9 h => ?_)
  refine GoN.dup dX12_init_286 rfl ?_
  refine GoN.bipush 9 dX12_init_287 (by decide) ?_
  refine GoN.iconst 4 dX12_init_289 (by decide) ?_
  refine GP.iast 27 (by decide) rfl dX12_init_290 h (fun T10 h => ?_)
  refine GoN.dup dX12_init_291 rfl ?_
  refine GoN.bipush 10 dX12_init_292 (by decide) ?_
  refine GoN.bipush 14 dX12_init_294 (by decide) ?_
  refine GP.iast 27 (by decide) rfl dX12_init_296 h (fun T11 h => ?_)
  refine GoN.dup dX12_init_297 rfl ?_
  refine GoN.bipush 11 dX12_init_298 (by decide) ?_
  refine GoN.iconst 5 dX12_init_300 (by decide) ?_
  refine GP.iast 27 (by decide) rfl dX12_init_301 h (fun T12 h => ?_)
  refine GoN.dup dX12_init_302 rfl ?_
  refine GoN.bipush 12 dX12_init_303 (by decide) ?_
  refine GoN.iconst 1 dX12_init_305 (by decide) ?_
  refine GP.iast 27 (by decide) rfl dX12_init_306 h (fun T13 h => ?_)
  refine GoN.dup dX12_init_307 rfl ?_
  refine GoN.bipush 13 dX12_init_308 (by decide) ?_
  refine GoN.bipush 18 dX12_init_310 (by decide) ?_
  refine GP.iast 27 (by decide) rfl dX12_init_312 h (fun T14 h => ?_)
  refine GoN.dup dX12_init_313 rfl ?_
  refine GoN.bipush 14 dX12_init_314 (by decide) ?_
  refine GoN.bipush 6 dX12_init_316 (by decide) ?_
  refine GP.iast 27 (by decide) rfl dX12_init_318 h (fun T15 h => ?_)
  refine GoN.dup dX12_init_319 rfl ?_
  refine GoN.bipush 15 dX12_init_320 (by decide) ?_
  refine GoN.bipush 23 dX12_init_322 (by decide) ?_
  refine GP.iast 27 (by decide) rfl dX12_init_324 h (fun T16 h => ?_)
  refine GoN.dup dX12_init_325 rfl ?_
  refine GoN.bipush 16 dX12_init_326 (by decide) ?_
  refine GoN.bipush 9 dX12_init_328 (by decide) ?_
  refine GP.iast 27 (by decide) rfl dX12_init_330 h (fun T17 h => ?_)
  refine GoN.dup dX12_init_331 rfl ?_
  refine GoN.bipush 17 dX12_init_332 (by decide) ?_
  refine GoN.bipush 20 dX12_init_334 (by decide) ?_
  refine GP.iast 27 (by decide) rfl dX12_init_336 h (fun T18 h => ?_)
  refine GoN.dup dX12_init_337 rfl ?_
  refine GoN.bipush 18 dX12_init_338 (by decide) ?_
  refine GoN.bipush 8 dX12_init_340 (by decide) ?_
  refine GP.iast 27 (by decide) rfl dX12_init_342 h (fun T19 h => ?_)
  refine GoN.dup dX12_init_343 rfl ?_
  refine GoN.bipush 19 dX12_init_344 (by decide) ?_
  refine GoN.bipush 9 dX12_init_346 (by decide) ?_
  refine GP.iast 27 (by decide) rfl dX12_init_348 h (fun T20 h => ?_)
  refine GoN.dup dX12_init_349 rfl ?_
  refine GoN.bipush 20 dX12_init_350 (by decide) ?_
  refine GoN.bipush 14 dX12_init_352 (by decide) ?_
  refine GP.iast 27 (by decide) rfl dX12_init_354 h (fun T21 h => ?_)
  refine GoN.dup dX12_init_355 rfl ?_
  refine GoN.bipush 21 dX12_init_356 (by decide) ?_
  refine GoN.bipush 7 dX12_init_358 (by decide) ?_
  refine GP.iast 27 (by decide) rfl dX12_init_360 h (fun T22 h => ?_)
  refine GoN.dup dX12_init_361 rfl ?_
  refine GoN.bipush 22 dX12_init_362 (by decide) ?_
  refine GoN.bipush 13 dX12_init_364 (by decide) ?_
  refine GP.iast 27 (by decide) rfl dX12_init_366 h (fun T23 h => ?_)
  refine GoN.dup dX12_init_367 rfl ?_
  refine GoN.bipush 23 dX12_init_368 (by decide) ?_
  refine GoN.iconst 5 dX12_init_370 (by decide) ?_
  refine GP.iast 27 (by decide) rfl dX12_init_371 h (fun T24 h => ?_)
  refine GoN.dup dX12_init_372 rfl ?_
  refine GoN.bipush 24 dX12_init_373 (by decide) ?_
  refine GoN.iconst 1 dX12_init_375 (by decide) ?_
  refine GP.iast 27 (by decide) rfl dX12_init_376 h (fun T25 h => ?_)
  refine GoN.dup dX12_init_377 rfl ?_
  refine GoN.bipush 25 dX12_init_378 (by decide) ?_
  refine GoN.bipush 19 dX12_init_380 (by decide) ?_
  refine GP.iast 27 (by decide) rfl dX12_init_382 h (fun T26 h => ?_)
  refine GoN.dup dX12_init_383 rfl ?_
  refine GoN.bipush 26 dX12_init_384 (by decide) ?_
  refine GoN.bipush 21 dX12_init_386 (by decide) ?_
  refine GP.iast 27 (by decide) rfl dX12_init_388 h (fun T27 h => ?_)
  refine GoN.dup dX12_init_389 rfl ?_
  refine GoN.bipush 27 dX12_init_390 (by decide) ?_
  refine GoN.bipush 18 dX12_init_392 (by decide) ?_
  refine GP.iast 27 (by decide) rfl dX12_init_394 h (fun T28 h => ?_)
  refine GoN.dup dX12_init_395 rfl ?_
  refine GoN.bipush 28 dX12_init_396 (by decide) ?_
  refine GoN.iconst 5 dX12_init_398 (by decide) ?_
  refine GP.iast 27 (by decide) rfl dX12_init_399 h (fun T29 h => ?_)
  refine GoN.dup dX12_init_400 rfl ?_
  refine GoN.bipush 29 dX12_init_401 (by decide) ?_
  refine GoN.iconst 3 dX12_init_403 (by decide) ?_
  refine GP.iast 27 (by decide) rfl dX12_init_404 h (fun T30 h => ?_)
  refine GoN.dup dX12_init_405 rfl ?_
  refine GoN.bipush 30 dX12_init_406 (by decide) ?_
  refine GoN.iconst 3 dX12_init_408 (by decide) ?_
  refine GP.iast 27 (by decide) rfl dX12_init_409 h (fun T31 h => ?_)
  refine GoN.dup dX12_init_410 rfl ?_
  refine GoN.bipush 31 dX12_init_411 (by decide) ?_
  refine GoN.iconst 1 dX12_init_413 (by decide) ?_
  refine GP.iast 27 (by decide) rfl dX12_init_414 h (fun T32 h => ?_)
  refine GoN.dup dX12_init_415 rfl ?_
  refine GoN.bipush 32 dX12_init_416 (by decide) ?_
  refine GoN.bipush 16 dX12_init_418 (by decide) ?_
  refine GP.iast 27 (by decide) rfl dX12_init_420 h (fun T33 h => ?_)
  refine GoN.dup dX12_init_421 rfl ?_
  refine GoN.bipush 33 dX12_init_422 (by decide) ?_
  refine GoN.iconst 3 dX12_init_424 (by decide) ?_
  refine GP.iast 27 (by decide) rfl dX12_init_425 h (fun T34 h => ?_)
  refine GoN.dup dX12_init_426 rfl ?_
  refine GoN.bipush 34 dX12_init_427 (by decide) ?_
  refine GoN.bipush 6 dX12_init_429 (by decide) ?_
  refine GP.iast 27 (by decide) rfl dX12_init_431 h (fun T35 h => ?_)
  refine GoN.dup dX12_init_432 rfl ?_
  refine GoN.bipush 35 dX12_init_433 (by decide) ?_
  refine GoN.iconst 1 dX12_init_435 (by decide) ?_
  refine GP.iast 27 (by decide) rfl dX12_init_436 h (fun T36 h => ?_)
  refine GoN.dup dX12_init_437 rfl ?_
  refine GoN.bipush 36 dX12_init_438 (by decide) ?_
  refine GoN.bipush 18 dX12_init_440 (by decide) ?_
  refine GP.iast 27 (by decide) rfl dX12_init_442 h (fun T37 h => ?_)
  refine GoN.dup dX12_init_443 rfl ?_
  refine GoN.bipush 37 dX12_init_444 (by decide) ?_
  refine GoN.iconst 4 dX12_init_446 (by decide) ?_
  refine GP.iast 27 (by decide) rfl dX12_init_447 h (fun T38 h => ?_)
  refine GoN.dup dX12_init_448 rfl ?_
  refine GoN.bipush 38 dX12_init_449 (by decide) ?_
  refine GoN.bipush 19 dX12_init_451 (by decide) ?_
  refine GP.iast 27 (by decide) rfl dX12_init_453 h (fun T39 h => ?_)
  refine GoN.dup dX12_init_454 rfl ?_
  refine GoN.bipush 39 dX12_init_455 (by decide) ?_
  refine GoN.bipush 9 dX12_init_457 (by decide) ?_
  refine GP.iast 27 (by decide) rfl dX12_init_459 h (fun T40 h => ?_)
  refine GoN.dup dX12_init_460 rfl ?_
  refine GoN.bipush 40 dX12_init_461 (by decide) ?_
  refine GoN.bipush 26 dX12_init_463 (by decide) ?_
  refine GP.iast 27 (by decide) rfl dX12_init_465 h (fun T41 h => ?_)
  refine GoN.dup dX12_init_466 rfl ?_
  refine GoN.bipush 41 dX12_init_467 (by decide) ?_
  refine GoN.iconst 5 dX12_init_469 (by decide) ?_
  refine GP.iast 27 (by decide) rfl dX12_init_470 h (fun T42 h => ?_)
  refine GoN.dup dX12_init_471 rfl ?_
  refine GoN.bipush 42 dX12_init_472 (by decide) ?_
  refine GoN.iconst 4 dX12_init_474 (by decide) ?_
  refine GP.iast 27 (by decide) rfl dX12_init_475 h (fun T43 h => ?_)
  refine GoN.dup dX12_init_476 rfl ?_
  refine GoN.bipush 43 dX12_init_477 (by decide) ?_
  refine GoN.iconst 5 dX12_init_479 (by decide) ?_
  refine GP.iast 27 (by decide) rfl dX12_init_480 h (fun T44 h => ?_)
  refine GoN.dup dX12_init_481 rfl ?_
  refine GoN.bipush 44 dX12_init_482 (by decide) ?_
  refine GoN.iconst 4 dX12_init_484 (by decide) ?_
  refine GP.iast 27 (by decide) rfl dX12_init_485 h (fun T45 h => ?_)
  refine GoN.dup dX12_init_486 rfl ?_
  refine GoN.bipush 45 dX12_init_487 (by decide) ?_
  refine GoN.bipush 9 dX12_init_489 (by decide) ?_
  refine GP.iast 27 (by decide) rfl dX12_init_491 h (fun T46 h => ?_)
  refine GoN.dup dX12_init_492 rfl ?_
  refine GoN.bipush 46 dX12_init_493 (by decide) ?_
  refine GoN.bipush 20 dX12_init_495 (by decide) ?_
  refine GP.iast 27 (by decide) rfl dX12_init_497 h (fun T47 h => ?_)
  refine GoN.dup dX12_init_498 rfl ?_
  refine GoN.bipush 47 dX12_init_499 (by decide) ?_
  refine GoN.iconst 5 dX12_init_501 (by decide) ?_
  refine GP.iast 27 (by decide) rfl dX12_init_502 h (fun T48 h => ?_)
  refine GoN.dup dX12_init_503 rfl ?_
  refine GoN.bipush 48 dX12_init_504 (by decide) ?_
  refine GoN.bipush 16 dX12_init_506 (by decide) ?_
  refine GP.iast 27 (by decide) rfl dX12_init_508 h (fun T49 h => ?_)
  refine GoN.dup dX12_init_509 rfl ?_
  refine GoN.bipush 49 dX12_init_510 (by decide) ?_
  refine GoN.bipush 12 dX12_init_512 (by decide) ?_
  refine GP.iast 27 (by decide) rfl dX12_init_514 h (fun T50 h => ?_)
  refine GoN.dup dX12_init_515 rfl ?_
  refine GoN.bipush 50 dX12_init_516 (by decide) ?_
  refine GoN.iconst 1 dX12_init_518 (by decide) ?_
  refine GP.iast 27 (by decide) rfl dX12_init_519 h (fun T51 h => ?_)
  refine GoN.dup dX12_init_520 rfl ?_
  refine GoN.bipush 51 dX12_init_521 (by decide) ?_
  refine GoN.iconst 3 dX12_init_523 (by decide) ?_
  refine GP.iast 27 (by decide) rfl dX12_init_524 h (fun T52 h => ?_)
  refine GoN.dup dX12_init_525 rfl ?_
  refine GoN.bipush 52 dX12_init_526 (by decide) ?_
  refine GoN.iconst 5 dX12_init_528 (by decide) ?_
  refine GP.iast 27 (by decide) rfl dX12_init_529 h (fun T53 h => ?_)
  refine GoN.dup dX12_init_530 rfl ?_
  refine GoN.bipush 53 dX12_init_531 (by decide) ?_
  refine GoN.iconst 3 dX12_init_533 (by decide) ?_
  refine GP.iast 27 (by decide) rfl dX12_init_534 h (fun T54 h => ?_)
  refine GoN.dup dX12_init_535 rfl ?_
  refine GoN.bipush 54 dX12_init_536 (by decide) ?_
  refine GoN.bipush 19 dX12_init_538 (by decide) ?_
  refine GP.iast 27 (by decide) rfl dX12_init_540 h (fun T55 h => ?_)
  refine GoN.dup dX12_init_541 rfl ?_
  refine GoN.bipush 55 dX12_init_542 (by decide) ?_
  refine GoN.bipush 21 dX12_init_544 (by decide) ?_
  refine GP.iast 27 (by decide) rfl dX12_init_546 h (fun T56 h => ?_)
  refine GoN.dup dX12_init_547 rfl ?_
  refine GoN.bipush 56 dX12_init_548 (by decide) ?_
  refine GoN.bipush 13 dX12_init_550 (by decide) ?_
  refine GP.iast 27 (by decide) rfl dX12_init_552 h (fun T57 h => ?_)
  refine GoN.dup dX12_init_553 rfl ?_
  refine GoN.bipush 57 dX12_init_554 (by decide) ?_
  refine GoN.iconst 4 dX12_init_556 (by decide) ?_
  refine GP.iast 27 (by decide) rfl dX12_init_557 h (fun T58 h => ?_)
  refine GoN.dup dX12_init_558 rfl ?_
  refine GoN.bipush 58 dX12_init_559 (by decide) ?_
  refine GoN.bipush 8 dX12_init_561 (by decide) ?_
  refine GP.iast 27 (by decide) rfl dX12_init_563 h (fun T59 h => ?_)
  refine GoN.dup dX12_init_564 rfl ?_
  refine GoN.bipush 59 dX12_init_565 (by decide) ?_
  refine GoN.iconst 5 dX12_init_567 (by decide) ?_
  refine GP.iast 27 (by decide) rfl dX12_init_568 h (fun T60 h => ?_)
  refine GoN.dup dX12_init_569 rfl ?_
  refine GoN.bipush 60 dX12_init_570 (by decide) ?_
  refine GoN.iconst 1 dX12_init_572 (by decide) ?_
  refine GP.iast 27 (by decide) rfl dX12_init_573 h (fun T61 h => ?_)
  refine GoN.dup dX12_init_574 rfl ?_
  refine GoN.bipush 61 dX12_init_575 (by decide) ?_
  refine GoN.iconst 4 dX12_init_577 (by decide) ?_
  refine GP.iast 27 (by decide) rfl dX12_init_578 h (fun T62 h => ?_)
  refine GP.puta 48 27 (by decide) rfl fl_words rfl (Or.inl rfl) dX12_init_579 ?_
  refine GoN.aload_n 0 dX12_init_582 rfl ?_
  refine GoN.sipush 300 dX12_init_583 (by decide) ?_
  refine GP.newI 28 (by decide) rfl ⟨by decide, by decide +kernel⟩ (Nat.le_of_ble_eq_true rfl) (Nat.le_of_ble_eq_true rfl) (p_slo 28 (by decide)) dX12_init_586 ?_
  refine GP.puta 49 28 (by decide) rfl fl_read rfl (Or.inl rfl) dX12_init_588 ?_
  refine GoN.aload_n 0 dX12_init_591 rfl ?_
  refine GoN.sipush 400 dX12_init_592 (by decide) ?_
  refine GP.newI 29 (by decide) rfl ⟨by decide, by decide +kernel⟩ (Nat.le_of_ble_eq_true rfl) (Nat.le_of_ble_eq_true rfl) (p_slo 29 (by decide)) dX12_init_595 ?_
  refine GP.puta 51 29 (by decide) rfl fl_replies rfl (Or.inl rfl) dX12_init_597 ?_
  refine GoN.aload_n 0 dX12_init_600 rfl ?_
  refine GP.geta 0 0 (by decide) rfl (by decide) fl_a rfl dX12_init_601 ?_
  refine GoN.iconst 4 dX12_init_604 (by decide) ?_
  refine GoN.iconst 4 dX12_init_605 (by decide) ?_
  refine GP.iast 0 (by decide) rfl dX12_init_606 h (fun T63 h => ?_)
  refine GoN.aload_n 0 dX12_init_607 rfl ?_
  obtain ⟨T64, hq, h⟩ := Option.bind_eq_some_iff.mp h
  obtain ⟨_, hz, h⟩ := Option.bind_eq_some_iff.mp h
  refine GoN.callv (rest := []) [] (EP_ok κ) dX12_init_608 ck_clearTree ci_clearTree.1 ci_clearTree.2.1 (MtM.toP (rt_clearTree _ hq) hs (zeroTail_ok hz)) (fun s H a b => EM_ob κ s H (a.done hs) b.1) rfl rfl (Nat.le_of_ble_eq_true rfl) (Nat.le_of_ble_eq_true rfl) (Nat.le_of_ble_eq_true rfl) ⟨Nat.zero_le _, Nat.le_refl _, Nat.zero_le _, Nat.le_refl _⟩ ⟨Nat.le_refl _, Nat.le_refl _⟩ ?_
  refine GoN.aload_n 0 dX12_init_611 rfl ?_
  refine GP.geta 0 0 (by decide) rfl (by decide) fl_a rfl dX12_init_612 ?_
  refine GoN.aload_n 0 dX12_init_615 rfl ?_
  refine GP.geta 1 1 (by decide) rfl (by decide) fl_image rfl dX12_init_616 ?_
  obtain ⟨T65, hq, h⟩ := Option.bind_eq_some_iff.mp h
  obtain ⟨_, hz, h⟩ := Option.bind_eq_some_iff.mp h
  refine GoN.calls (rest := []) [.ref (κ.o + 1 + 0), .ref (κ.o + 1 + 1)] (EP_ok κ) dX12_init_619 ck_copy ci_copy (MtM.toP (rt_copy _ _ _ hq) hs (zeroTail_ok hz)) rfl rfl (Nat.le_of_ble_eq_true rfl) (Nat.le_of_ble_eq_true rfl) (Nat.le_of_ble_eq_true rfl) ⟨Nat.zero_le _, Nat.le_refl _, Nat.zero_le _, Nat.le_refl _⟩ ⟨Nat.le_refl _, Nat.le_refl _⟩ ?_
  cases h
  exact GoN.vret dX12_init_622 rfl
theorem rt_init {l : Launch} {κ : KMt} (hs : κ.2.2.2.2.2 = κ.o + 31) : ∀ Z, r_init = some Z → Mt l (EP κ) yX12_init cX12_init 1 none 4 87 [.ref κ.o] (0, 0, mS0) none (30, 30, Z) := fun Z h => Mt.ofN (by decide +kernel) rfl (Nat.le_of_ble_eq_true rfl) (cat1_args (av := [.ref κ.o]) ⟨rfl, trivial⟩ 0) (rs_init hs h)
