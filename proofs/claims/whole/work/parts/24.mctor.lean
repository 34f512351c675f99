def CxN {X : Type} (E : Ev X) (own : String) (cc : ByteArray) (nL : Nat) (rt : Option FieldType) (p : Program) (s : State) (m : MethodId) (args : Array Value) (meth : Method) (c : Code) : Prop :=
  p.tables.exec = Jvm.exec ∧ c.code = cc ∧ c.maxLocals = nL ∧ s.vm.findClass own = some m.cls ∧ (∀ w ∈ gw, w.before args s = true) ∧ meth.sig.returnType = rt ∧ meth.locks = false ∧ (E.2.1 s ∧ meth.name = "<init>")
/-- Go, in a constructor -/
def GoN {X : Type} (l : Launch) (E : Ev X) (own : String) (cc : ByteArray) (nL : Nat) (rt : Option FieldType) (fr lo n0 u0 : Nat) (rv : Option Value) (x' : X) (pc : Nat) (lv : List (Nat × Value)) (st : List Value) (x : X) : Prop :=
  ∀ (p : Program) (e : Env) (s : State) (m : MethodId) (args : Array Value) (below : List Frame) (meth : Method) (c : Code), CxN E own cc nL rt p s m args meth c →
    ∀ (H : Heap) (locs : List Loc) (ls : Array Slot), lvh ls nL lv → E.1 x H → va_S E.2.2.2.2 s.heap H locs →
      W p l e (Rm fr lo (E.2.2.1 x' - n0) (E.2.2.2.1 x' - u0)) s m args below meth c H locs (E.2.2.1 x - n0) (E.2.2.2.1 x - u0) (MQ below (Qg E rv x') args s (E.2.2.1 x' - n0) (E.2.2.2.1 x' - u0) E.2.2.2.2) (F0 m pc ls st)
section GON
variable {X : Type} {l : Launch} {E : Ev X} {own : String} {cc : ByteArray} {nL : Nat} {rt : Option FieldType} {fr lo n0 u0 : Nat} {rv : Option Value} {x' : X} {pc : Nat} {lv lv' : List (Nat × Value)} {st rest : List Value} {x : X}
theorem Mt.ofN {y : MethodName} {av : List Value} (hy : plainName y.cls = true) (hyn : y.name = "<init>") (hn : (lg_sl av).length ≤ nL) (hc : ∀ q ∈ lv_args 0 av, q.2.category = 1) (h : GoN l E y.cls cc nL rt fr lo (E.2.2.1 x) (E.2.2.2.1 x) rv x' 0 (lv_args 0 av) [] x) : Mt l E y cc nL rt fr lo av x rv x' := by
  refine Met.ofW (cc := cc) (maxL := nL) (ret := rt) hy rfl ?_
  intro p e s m args below meth c s₁ B hml hv
  obtain ⟨rfl, hH, hK⟩ := hv
  have hts := atoms_spec B.pre
  have hl := lv_entry av hn
  rw [lg_entry_eq]
  have key := h p e s m av.toArray below meth c ⟨B.exec, B.bytes, hml, findClass_of_methodNamed B.named, fun w hw => hts w (List.mem_cons_of_mem _ hw), B.returns, B.notSynchronized, hK, (name_of_methodNamed B.named B.method).1.trans hyn⟩ s.heap [] _ ⟨hl, hc⟩ hH va_S.rf
  rw [Nat.sub_self, Nat.sub_self] at key
  exact key
theorem GoN.iconst {n : Int} (v : Int32) (hd : decode cc pc = .ok (.iconst n, 1)) (hv : Int32.ofInt n = v) (k : GoN l E own cc nL rt fr lo n0 u0 rv x' (pc + 1) lv (.int v :: st) x) : GoN l E own cc nL rt fr lo n0 u0 rv x' pc lv st x := by
  intro p e s m args below meth c C H locs ls hl hH hS
  obtain ⟨hx, hb, hml, ho, hts, hr, hk, ⟨hkn, hmn⟩⟩ := id C
  exact lv_iconst hx hb hd hv (k p e s m args below meth c C H locs ls hl hH hS)
theorem GoN.bipush {n : Int} (v : Int32) (hd : decode cc pc = .ok (.bipush n, 2)) (hv : (Int8.ofInt n).toInt32 = v) (k : GoN l E own cc nL rt fr lo n0 u0 rv x' (pc + 2) lv (.int v :: st) x) : GoN l E own cc nL rt fr lo n0 u0 rv x' pc lv st x := by
  intro p e s m args below meth c C H locs ls hl hH hS
  obtain ⟨hx, hb, hml, ho, hts, hr, hk, ⟨hkn, hmn⟩⟩ := id C
  exact lv_bipush hx hb hd hv (k p e s m args below meth c C H locs ls hl hH hS)
theorem GoN.sipush {n : Int} (v : Int32) (hd : decode cc pc = .ok (.sipush n, 3)) (hv : (Int16.ofInt n).toInt32 = v) (k : GoN l E own cc nL rt fr lo n0 u0 rv x' (pc + 3) lv (.int v :: st) x) : GoN l E own cc nL rt fr lo n0 u0 rv x' pc lv st x := by
  intro p e s m args below meth c C H locs ls hl hH hS
  obtain ⟨hx, hb, hml, ho, hts, hr, hk, ⟨hkn, hmn⟩⟩ := id C
  exact lv_sipush hx hb hd hv (k p e s m args below meth c C H locs ls hl hH hS)
theorem GoN.ldc {i : Nat} {v : Int32} (hw : Cond.constant own i v ∈ gw) (hd : decode cc pc = .ok (.ldc i, 2)) (k : GoN l E own cc nL rt fr lo n0 u0 rv x' (pc + 2) lv (.int v :: st) x) : GoN l E own cc nL rt fr lo n0 u0 rv x' pc lv st x := by
  intro p e s m args below meth c C H locs ls hl hH hS
  obtain ⟨hx, hb, hml, ho, hts, hr, hk, ⟨hkn, hmn⟩⟩ := id C
  exact lv_ldc hx hb ho (hts _ hw) hd (k p e s m args below meth c C H locs ls hl hH hS)
theorem GoN.aload_n {f : Fin 4} {v : Nat} (j : Nat) (hd : decode cc pc = .ok (.aload_n f, 1)) (hv : lv[j]? = some (f.val, .ref v)) (k : GoN l E own cc nL rt fr lo n0 u0 rv x' (pc + 1) lv (.ref v :: st) x) : GoN l E own cc nL rt fr lo n0 u0 rv x' pc lv st x := by
  intro p e s m args below meth c C H locs ls hl hH hS
  obtain ⟨hx, hb, hml, ho, hts, hr, hk, ⟨hkn, hmn⟩⟩ := id C
  exact lv_aload_n hx hb hd rfl (lv_at hl.1 j hv) (k p e s m args below meth c C H locs ls hl hH hS)
theorem GoN.dup {v : Value} (hd : decode cc pc = .ok (.dup, 1)) (hc : v.category = 1) (k : GoN l E own cc nL rt fr lo n0 u0 rv x' (pc + 1) lv (v :: v :: st) x) : GoN l E own cc nL rt fr lo n0 u0 rv x' pc lv (v :: st) x := by
  intro p e s m args below meth c C H locs ls hl hH hS
  obtain ⟨hx, hb, hml, ho, hts, hr, hk, ⟨hkn, hmn⟩⟩ := id C
  exact lv_dup hx hb hd hc (k p e s m args below meth c C H locs ls hl hH hS)
theorem GoN.vret (hd : decode cc pc = .ok (.return_, 1)) (hrt : rt = none) : GoN l E own cc nL rt fr lo n0 u0 none x pc lv [] x := by
  intro p e s m args below meth c C H locs ls hl hH hS
  obtain ⟨hx, hb, hml, ho, hts, hr, hk, ⟨hkn, hmn⟩⟩ := id C
  subst hrt
  exact W.vret hx hb hr (fun t ht hW => ⟨rfl, by rw [ht]; exact hH, hS.F ht⟩) hS.2.2 hd

theorem GoN.run {own2 : String} {p : Program} {e : Env} {s : State} {m : MethodId} {args : Array Value} {below : List Frame} {meth : Method} {c : Code} {H : Heap} {locs : List Loc} {ls : Array Slot} {a : Array Value} {rest : List Value} {rv1 : Option Value} {x1 : X}
    (C : CxN E own2 cc nL rt p s m args meth c) (hl : lvh ls nL lv) (hS : va_S E.2.2.2.2 s.heap H locs)
    (hm : n0 ≤ E.2.2.1 x ∧ E.2.2.1 x ≤ E.2.2.1 x1 ∧ u0 ≤ E.2.2.2.1 x ∧ E.2.2.2.1 x ≤ E.2.2.2.1 x1)
    (hrun : va_Run p l e (Rm fr lo (E.2.2.1 x' - n0) (E.2.2.2.1 x' - u0)) s m args below meth c H locs (E.2.2.1 x - n0) (E.2.2.2.1 x - u0) (E.2.2.1 x1 - E.2.2.1 x) (E.2.2.2.1 x1 - E.2.2.2.1 x) (F0 m pc ls st) rest (Qg E rv1 x1 a) E.2.2.2.2)
    (k : GoN l E own2 cc nL rt fr lo n0 u0 rv x' (pc + 3) lv (rv1.toList ++ rest) x1) :
    W p l e (Rm fr lo (E.2.2.1 x' - n0) (E.2.2.2.1 x' - u0)) s m args below meth c H locs (E.2.2.1 x - n0) (E.2.2.2.1 x - u0) (MQ below (Qg E rv x') args s (E.2.2.1 x' - n0) (E.2.2.2.1 x' - u0) E.2.2.2.2) (F0 m pc ls st) := by
  intro T hT Xs
  obtain ⟨v, st₀, t, T', L, h0, X', hL, e1, e2, ⟨hv, hH1, hz, hkp⟩, stp⟩ := hrun T hT Xs
  cases hv
  rw [h0] at hz hkp
  have hS1 : va_S E.2.2.2.2 s.heap T'.heap (locs ++ L) := by
    refine ⟨Nat.le_trans hS.1 (by rw [e1]; exact hz), fun q h1 h2 => ?_, fun q hq => ?_⟩
    · rw [e1, hkp q (Nat.lt_of_lt_of_le h1 hS.1) h2]
      exact hS.2.1 q h1 h2
    · rcases List.mem_append.mp hq with h | h
      · exact hS.2.2 q h
      · exact hL q h
  have e3 : E.2.2.1 x - n0 + (E.2.2.1 x1 - E.2.2.1 x) = E.2.2.1 x1 - n0 := by omega
  have e4 : E.2.2.2.1 x - u0 + (E.2.2.2.1 x1 - E.2.2.2.1 x) = E.2.2.2.1 x1 - u0 := by omega
  rw [e3, e4] at X'
  obtain ⟨t2, a1, b1⟩ := k p e s m args below meth c C T'.heap (locs ++ L) ls hl (by rw [e1]; exact hH1) hS1 T' rfl X'
  exact ⟨t2, stp t2 a1, b1⟩
theorem GoN.calls {i n : Nat} {y : MethodName} {bytes : ByteArray} {maxL fr1 lo1 : Nat} {ret : Option FieldType} {rv1 : Option Value} {x1 : X} (As : List Value) (hE : E.ok) (hd : decode cc pc = .ok (.invokestatic i, 3)) (hK : Ks own i y bytes maxL ret n) (hst : Cond.static y ∈ gw) (hM : Mt l E y bytes maxL ret fr1 lo1 As x rv1 x1)
    (hs : st = As.reverse ++ rest) (hn : As.length = n) (hf : fr1 + 1 ≤ fr) (hlo : 8 + (maxL + 11) + lo1 ≤ lo) (hc : (rest.map fun v => v.category).sum ≤ 8)
    (hm : n0 ≤ E.2.2.1 x ∧ E.2.2.1 x ≤ E.2.2.1 x1 ∧ u0 ≤ E.2.2.2.1 x ∧ E.2.2.2.1 x ≤ E.2.2.2.1 x1) (hm2 : E.2.2.1 x1 ≤ E.2.2.1 x' ∧ E.2.2.2.1 x1 ≤ E.2.2.2.1 x')
    (k : GoN l E own cc nL rt fr lo n0 u0 rv x' (pc + 3) lv (rv1.toList ++ rest) x1) : GoN l E own cc nL rt fr lo n0 u0 rv x' pc lv st x := by
  intro p e s m args below meth c C H locs ls hl hH hS
  obtain ⟨hx, hb, hml, ho, hts, hr, hk, ⟨hkn, hmn⟩⟩ := id C
  refine GoN.run C hl hS hm (a := As.toArray) (rest := rest) ?_ k
  exact va_runS (Ts := gw) (As := As) (rest := rest) ⟨hx, hb, hml, ho, hts⟩ hM ⟨cb_of hts hK.1 hK.2.1 hK.2.2.1 hK.2.2.2 ⟨hf, hlo⟩, hts _ hst⟩ ⟨pc_blind hE, fun U hU hW => ⟨rfl, by rw [hU]; exact hH, hE s U hW.alike hkn⟩⟩ rfl hn hl.1.1 hs (lv_room hc) hd ⟨by show _ ≤ E.2.2.1 x' - n0; omega, by show _ ≤ E.2.2.2.1 x' - u0; omega⟩
theorem GoN.callv {i n b : Nat} {y : MethodName} {bytes : ByteArray} {maxL fr1 lo1 : Nat} {ret : Option FieldType} {rv1 : Option Value} {x1 : X} (As : List Value) (hE : E.ok) (hd : decode cc pc = .ok (.invokevirtual i, 3)) (hK : Ks own i y bytes maxL ret n) (hin : Cond.instanceMethod y ∈ gw) (hse : Cond.selects y.cls y y ∈ gw) (hM : Mt l E y bytes maxL ret fr1 lo1 (.ref b :: As) x rv1 x1)
    (hob : ∀ (s : State) (H : Heap), E.1 x H → E.2.1 s → ∃ cellB : Cell, H[b]? = some cellB ∧ cellB.vm.isStatics = false ∧ s.vm.findClass y.cls = some cellB.cls)
    (hs : st = As.reverse ++ .ref b :: rest) (hn : As.length = n) (hf : fr1 + 1 ≤ fr) (hlo : 8 + (maxL + 11) + lo1 ≤ lo) (hc : (rest.map fun v => v.category).sum ≤ 8)
    (hm : n0 ≤ E.2.2.1 x ∧ E.2.2.1 x ≤ E.2.2.1 x1 ∧ u0 ≤ E.2.2.2.1 x ∧ E.2.2.2.1 x ≤ E.2.2.2.1 x1) (hm2 : E.2.2.1 x1 ≤ E.2.2.1 x' ∧ E.2.2.2.1 x1 ≤ E.2.2.2.1 x')
    (k : GoN l E own cc nL rt fr lo n0 u0 rv x' (pc + 3) lv (rv1.toList ++ rest) x1) : GoN l E own cc nL rt fr lo n0 u0 rv x' pc lv st x := by
  intro p e s m args below meth c C H locs ls hl hH hS
  obtain ⟨hx, hb, hml, ho, hts, hr, hk, ⟨hkn, hmn⟩⟩ := id C
  refine GoN.run C hl hS hm (a := (Value.ref b :: As).toArray) (rest := rest) ?_ k
  exact va_runV (Ts := gw) (C := y.cls) (As := As) (rest := rest) ⟨hx, hb, hml, ho, hts⟩ hM ⟨cb_of hts hK.1 hK.2.1 hK.2.2.1 hK.2.2.2 ⟨hf, hlo⟩, hts _ hin, hts _ hse⟩ ⟨pc_blind hE, hob s H hH hkn, fun U hU hW => ⟨rfl, by rw [hU]; exact hH, hE s U hW.alike hkn⟩⟩ rfl hn hl.1.1 hs (lv_room hc) hd ⟨by show _ ≤ E.2.2.1 x' - n0; omega, by show _ ≤ E.2.2.2.1 x' - u0; omega⟩

end GON
theorem Met.conv {l : Launch} {y : MethodName} {ws : List Cond} {rm : Room} {Pc Pc' : Array Value → State → Prop} {Qc Qc' : Array Value → State → Outcome → State → Prop} {mc ms : Nat} {free free' : Addr → Prop} (h : Met l y ws rm Pc Qc mc ms free) (h1 : ∀ a s, Pc' a s → Pc a s) (h2 : ∀ a s o t, Pc' a s → Qc a s o t → Qc' a s o t) (h3 : ∀ q, free q → free' q) : Met l y ws rm Pc' Qc' mc ms free' := by
  intro p e ha hc hk s m args below hf happ hP hK
  obtain ⟨n, oc, g1, g2, g3, g4, L, g5, g6⟩ := h p e ha hc hk s m args below hf happ (h1 _ _ hP) hK
  exact ⟨n, oc, g1, g2, g3, h2 _ _ _ _ hP g4, L, g5, fun q hq => h3 _ (g6 q hq)⟩
def p_fv (o nf : Nat) (F : Nat → Int32) (k : Nat) : Value := match m_af k with
  | some j => if j < nf then .ref (o + 1 + j) else .null
  | none => .int (F k)
def p_sl (na : Nat) : Nat := ((List.range na).map m_len).sum
abbrev PS : Type := Nat × Nat × MS
/-- the reference in the making: nf of its fields are set, na of its rows made -/
def HP (κ : KMt) (x : PS) (H : Heap) : Prop :=
  (H.size = κ.o + 1 + x.2.1 ∧ (H[κ.o]?).map (·.slots.size) = some 53 ∧ ∀ j i, x.2.1 ≤ j → x.2.2.1 j i = 0) ∧ t_OB κ.o κ.1 53 κ.2.1 H (p_fv κ.o x.1 x.2.2.2) ∧ ∀ j, j < x.2.1 → H[κ.o + 1 + j]? = some (arrV (if m_z j = true then κ.2.2.2.1 else κ.2.2.1) (m_len j) (fun i => .int (x.2.2.1 j i)))
def KnP (κ : KMt) (s : State) : Prop := KnM κ s ∧ va_RA s κ.2.2.1 .int ∧ va_RA s κ.2.2.2.1 .boolean
def AP (κ : KMt) : Nat → Prop := fun q => κ.o ≤ q
abbrev EP (κ : KMt) : Ev PS := (HP κ, KnP κ, fun x => x.2.1, fun x => p_sl x.2.1, AP κ)
theorem EP_ok (κ : KMt) : (EP κ).ok := fun u U h q => ⟨EM_ok κ u U h q.1, q.2.1.moved h, q.2.2.moved h⟩
section GP
variable {l : Launch} {κ : KMt} {cc : ByteArray} {nL : Nat} {rt : Option FieldType} {fr lo : Nat} {rv : Option Value} {x' : PS} {pc : Nat} {lv : List (Nat × Value)} {st rest : List Value} {S : MS} {nf na : Nat} {Y : Type} {Z : Y}
theorem GP.oinit {i : Nat} {x : PS} (hw : Cond.methodLink RX12 i objectInit ∈ gw) (hd : decode cc pc = .ok (.invokespecial i, 3)) (hf : 1 ≤ fr) (hcr : cat1 st) (hlo : st.length + 12 ≤ lo) (k : GoN l (EP κ) RX12 cc nL rt fr lo 0 0 rv x' (pc + 3) lv st x) : GoN l (EP κ) RX12 cc nL rt fr lo 0 0 rv x' pc lv (.ref κ.o :: st) x := by
  intro p e s m args below meth c C H locs ls hl hH hS
  obtain ⟨hx, hb, hml, ho, hts, hr, hk, hkn⟩ := id C
  refine W.objInit hx hb ho (hts _ hw) (hts _ oi_inst) (hts _ oi_code) rfl (by rw [hml]; exact hl.1.1) rfl hd hf (by show 2 * 0 + _ + 12 ≤ lo; rw [cat1_sum hcr]; omega) ?_
  exact k p e s m args below meth c C H locs ls hl hH hS

theorem GP.newI {v : Int32} (j : Nat) (hj : j < 30) (hz : m_z j = false) (hv : ¬ v < 0 ∧ v.toNatClampNeg = m_len j) (hb4 : m_len j ≤ 1000000) (hx1 : j + 1 ≤ x'.2.1) (hx2 : p_sl j + m_len j ≤ p_sl x'.2.1) (hd : decode cc pc = .ok (.newarray .int, 2)) (n : GoN l (EP κ) RX12 cc nL rt fr lo 0 0 rv x' (pc + 2) lv (.ref (κ.o + 1 + j) :: st) (nf, j + 1, S)) : GoN l (EP κ) RX12 cc nL rt fr lo 0 0 rv x' pc lv (.int v :: st) (nf, j, S) := by
  intro p e s m args below meth c C H locs ls hl hH hS
  obtain ⟨hx, hb, hml, ho, hts, hr, hk, hkn⟩ := id C
  obtain ⟨⟨hsz, h53, h0⟩, hob, harr⟩ := id hH
  have hsz : H.size = κ.o + 1 + j := hsz
  have hpl : p_sl (j + 1) = p_sl j + m_len j := by simp [p_sl, List.range_succ]
  refine W.newa (atype := .int) hx hb (hts _ ac_int) rfl hd rfl hv.1 (by rw [hv.2]; simp only [newarray.typeOf, componentBytes]; omega) (by show j - 0 + 1 ≤ x'.2.1 - 0; omega) (by show p_sl j - 0 + v.toNatClampNeg ≤ p_sl x'.2.1 - 0; rw [hv.2]; omega) fun cA kA comp f1 f2 f3 => ?_
  have ecA : cA = κ.2.2.1 := Option.some.inj (f1.symm.trans hkn.2.1)
  subst ecA
  have hlt : ∀ q, q < H.size → (H.push ({ cls := κ.2.2.1, slots := Array.replicate v.toNatClampNeg (defaultValue (newarray.typeOf .int)), vm := .none } : Cell))[q]? = H[q]? := fun q hq => by rw [Array.getElem?_push_lt hq, ← Array.getElem?_eq_getElem]
  have key := n p e s m args below meth c C (H.push { cls := κ.2.2.1, slots := Array.replicate v.toNatClampNeg (defaultValue (newarray.typeOf .int)), vm := .none }) locs ls hl ?_ ?_
  · have e1 : j - 0 + 1 = (j + 1) - 0 := by omega
    have e2 : p_sl j - 0 + v.toNatClampNeg = p_sl (j + 1) - 0 := by rw [hv.2, hpl]; omega
    have e3 : F0 m (pc + 2) ls (.ref H.size :: st) = F0 m (pc + 2) ls (.ref (κ.o + 1 + j) :: st) := by rw [hsz]
    show W p l e _ s m args below meth c _ locs (j - 0 + 1) (p_sl j - 0 + v.toNatClampNeg) _ (F0 m (pc + 2) ls (.ref H.size :: st))
    rw [e1, e2, e3]
    exact key
  · refine ⟨⟨by rw [Array.size_push, hsz]; rfl, by rw [hlt _ (by omega)]; exact h53, fun j2 i2 h2 => h0 j2 i2 (by show j ≤ j2; have : j + 1 ≤ j2 := h2; omega)⟩, hob.kept (hlt _ (by omega)), fun j2 h2 => ?_⟩
    have h2 : j2 < j + 1 := h2
    by_cases e : j2 = j
    · subst e
      rw [← hsz, Array.getElem?_push_size, arrV_new, hv.2, if_neg (by rw [hz]; decide)]
      congr 2
      funext i2
      have := h0 j2 i2 (Nat.le_refl _)
      show _ = Value.int (S.1 j2 i2)
      have this : S.1 j2 i2 = 0 := this
      rw [this]
      rfl
    · rw [hlt _ (by omega)]
      exact harr j2 (by show j2 < j; omega)
  · exact ⟨by rw [Array.size_push]; have := hS.1; omega, fun q h1 h2 => by rw [hlt q (Nat.lt_of_lt_of_le h1 hS.1)]; exact hS.2.1 q h1 h2, hS.2.2⟩
theorem GP.newZ {v : Int32} (j : Nat) (hj : j < 30) (hz : m_z j = true) (hv : ¬ v < 0 ∧ v.toNatClampNeg = m_len j) (hb4 : m_len j ≤ 1000000) (hx1 : j + 1 ≤ x'.2.1) (hx2 : p_sl j + m_len j ≤ p_sl x'.2.1) (hd : decode cc pc = .ok (.newarray .boolean, 2)) (n : GoN l (EP κ) RX12 cc nL rt fr lo 0 0 rv x' (pc + 2) lv (.ref (κ.o + 1 + j) :: st) (nf, j + 1, S)) : GoN l (EP κ) RX12 cc nL rt fr lo 0 0 rv x' pc lv (.int v :: st) (nf, j, S) := by
  intro p e s m args below meth c C H locs ls hl hH hS
  obtain ⟨hx, hb, hml, ho, hts, hr, hk, hkn⟩ := id C
  obtain ⟨⟨hsz, h53, h0⟩, hob, harr⟩ := id hH
  have hsz : H.size = κ.o + 1 + j := hsz
  have hpl : p_sl (j + 1) = p_sl j + m_len j := by simp [p_sl, List.range_succ]
  refine W.newa (atype := .boolean) hx hb (hts _ ac_bool) rfl hd rfl hv.1 (by rw [hv.2]; simp only [newarray.typeOf, componentBytes]; omega) (by show j - 0 + 1 ≤ x'.2.1 - 0; omega) (by show p_sl j - 0 + v.toNatClampNeg ≤ p_sl x'.2.1 - 0; rw [hv.2]; omega) fun cA kA comp f1 f2 f3 => ?_
  have ecA : cA = κ.2.2.2.1 := Option.some.inj (f1.symm.trans hkn.2.2)
  subst ecA
  have hlt : ∀ q, q < H.size → (H.push ({ cls := κ.2.2.2.1, slots := Array.replicate v.toNatClampNeg (defaultValue (newarray.typeOf .boolean)), vm := .none } : Cell))[q]? = H[q]? := fun q hq => by rw [Array.getElem?_push_lt hq, ← Array.getElem?_eq_getElem]
  have key := n p e s m args below meth c C (H.push { cls := κ.2.2.2.1, slots := Array.replicate v.toNatClampNeg (defaultValue (newarray.typeOf .boolean)), vm := .none }) locs ls hl ?_ ?_
  · have e1 : j - 0 + 1 = (j + 1) - 0 := by omega
    have e2 : p_sl j - 0 + v.toNatClampNeg = p_sl (j + 1) - 0 := by rw [hv.2, hpl]; omega
    have e3 : F0 m (pc + 2) ls (.ref H.size :: st) = F0 m (pc + 2) ls (.ref (κ.o + 1 + j) :: st) := by rw [hsz]
    show W p l e _ s m args below meth c _ locs (j - 0 + 1) (p_sl j - 0 + v.toNatClampNeg) _ (F0 m (pc + 2) ls (.ref H.size :: st))
    rw [e1, e2, e3]
    exact key
  · refine ⟨⟨by rw [Array.size_push, hsz]; rfl, by rw [hlt _ (by omega)]; exact h53, fun j2 i2 h2 => h0 j2 i2 (by show j ≤ j2; have : j + 1 ≤ j2 := h2; omega)⟩, hob.kept (hlt _ (by omega)), fun j2 h2 => ?_⟩
    have h2 : j2 < j + 1 := h2
    by_cases e : j2 = j
    · subst e
      rw [← hsz, Array.getElem?_push_size, arrV_new, hv.2, if_pos hz]
      congr 2
      funext i2
      have := h0 j2 i2 (Nat.le_refl _)
      show _ = Value.int (S.1 j2 i2)
      have this : S.1 j2 i2 = 0 := this
      rw [this]
      rfl
    · rw [hlt _ (by omega)]
      exact harr j2 (by show j2 < j; omega)
  · exact ⟨by rw [Array.size_push]; have := hS.1; omega, fun q h1 h2 => by rw [hlt q (Nat.lt_of_lt_of_le h1 hS.1)]; exact hS.2.1 q h1 h2, hS.2.2⟩
theorem GP.putv {i : Nat} {v : Value} {nf2 : Nat} {S2 : MS} (k : Nat) (hk : k < 53) (hw : Cond.fieldLink RX12 i "LikePagesModel" (TX12 k).2.1 (TX12 k).2.2.1 ∈ gw) (hT : (TX12 k).1 = "LikePagesModel") (hn : narrow (tyX12 k) v = v) (hfit : fits (tyX12 k) v = true) (hd : decode cc pc = .ok (.putfield i, 3)) (h1 : S2.1 = S.1) (hV : ∀ q, q < 53 → updV (p_fv κ.o nf S.2) k v q = p_fv κ.o nf2 S2.2 q) (n : GoN l (EP κ) RX12 cc nL rt fr lo 0 0 rv x' (pc + 3) lv st (nf2, na, S2)) : GoN l (EP κ) RX12 cc nL rt fr lo 0 0 rv x' pc lv (v :: .ref κ.o :: st) (nf, na, S) := by
  intro p e s m args below meth c C H locs ls hl hH hS
  obtain ⟨hx, hb, hml, ho, hts, hr, hlk, hkn, hmn⟩ := id C
  obtain ⟨⟨hsz, h53, h0⟩, ⟨cell, q1, q2, q3, q4⟩, hA⟩ := id hH
  have hsz : H.size = κ.o + 1 + na := hsz
  obtain ⟨hSl, hfc, kC, hkC, hkind⟩ := id hkn.1.1
  obtain ⟨cf, kf, fi, f, hi, hsl⟩ := hSl k hk
  have hap := m_apart hts hkn.1.1
  have hlay := hts _ (m_in _ (u_in_lay hk))
  have hst := (u_facts hfc hkC (u_lays hts m_in hk) hi).1
  have fin : ∀ H1 : Heap, H1[κ.o]? = some (cell.setSlot (κ.2.1 k) v) → H1.size = H.size → (∀ q, q ≠ κ.o → H1[q]? = H[q]?) → ∀ locs1, va_S (AP κ) s.heap H1 locs1 → W p l e (Rm fr lo (x'.2.1 - 0) (p_sl x'.2.1 - 0)) s m args below meth c H1 locs1 (na - 0) (p_sl na - 0) (MQ below (Qg (EP κ) rv x') args s (x'.2.1 - 0) (p_sl x'.2.1 - 0) (AP κ)) (F0 m (pc + 3) ls st) := by
    intro H1 e1 e2 e3 locs1 hS1
    refine n p e s m args below meth c C H1 locs1 ls hl ⟨⟨e2.trans hsz, by rw [e1]; rw [q1] at h53; simpa [k2_slotsz] using h53, fun j i h => by show S2.1 j i = 0; rw [h1]; exact h0 j i h⟩, t_OB.to ⟨_, e1, q2, q3, t_set q4 hap hk v⟩ hV, fun j hj2 => ?_⟩ hS1
    rw [e3 _ (by show κ.o + 1 + j ≠ κ.o; omega)]
    show _ = some (arrV _ _ (fun i => .int (S2.1 j i)))
    rw [h1]
    exact hA j hj2
  by_cases hf : (TX12 k).2.2.2 = true
  · unfold u_lay at hlay
    rw [if_pos hf] at hlay
    have hcf : m.cls = cf := by
      obtain ⟨_, _, c', _, _, _, -, -, hf', -, -, -, hown2, -⟩ := Cond.laysFinal_spec hlay
      have e1 : c' = cf := by have := hi.symm.trans hf'; simp at this; exact this.1.symm
      rw [hT] at hown2
      rw [← e1]; exact Option.some.inj (ho.symm.trans hown2)
    have h6 := u_fits hfc hkC hkind (Or.inr hlay) hi (tyX12_ok k hk) hn hfit
    refine W.putFinK hx hb ho (hts _ hw) (by rw [← hT]; exact hi) hst hcf hmn (by rw [q2]; exact h6) q1 q3 (by rw [hsl]; exact k2_hasslot (q4 k hk)) rfl rfl hd fun H1 g1 g2 g3 => ?_
    rw [hsl] at g1 ⊢
    exact fin H1 g1 g2 g3 _ (hS.put g2 g3 (Nat.le_refl _))
  · unfold u_lay at hlay
    rw [if_neg hf] at hlay
    have h6 := u_store hfc hkC hkind hlay hi (tyX12_ok k hk) hn hfit
    refine W.putK hx hb (f := f) ⟨ho, hts _ hw, ⟨_, _, _, by rw [← hT]; exact hi⟩, hst⟩ (by rw [q2]; exact h6) q1 q3 (by rw [hsl]; exact k2_hasslot (q4 k hk)) rfl rfl hd fun H1 g1 g2 g3 => ?_
    rw [hsl] at g1 ⊢
    exact fin H1 g1 g2 g3 _ (hS.put g2 g3 (Nat.le_refl _))
theorem m_uniq : ∀ k, k < 53 → ∀ k2, k2 < 53 → m_af k ≠ none → m_af k = m_af k2 → k = k2 := by decide +kernel
theorem GP.puta {i : Nat} (k j : Nat) (hk : k < 53) (hj : m_af k = some j) (hw : Cond.fieldLink RX12 i "LikePagesModel" (TX12 k).2.1 (TX12 k).2.2.1 ∈ gw) (hT : (TX12 k).1 = "LikePagesModel") (hty : tyX12 k = .array .int ∨ tyX12 k = .array .boolean) (hd : decode cc pc = .ok (.putfield i, 3)) (n : GoN l (EP κ) RX12 cc nL rt fr lo 0 0 rv x' (pc + 3) lv st (j + 1, na, S)) : GoN l (EP κ) RX12 cc nL rt fr lo 0 0 rv x' pc lv (.ref (κ.o + 1 + j) :: .ref κ.o :: st) (j, na, S) := by
  refine GP.putv (S2 := S) k hk hw hT (by rcases hty with e | e <;> rw [e] <;> rfl) (by rcases hty with e | e <;> rw [e] <;> rfl) hd rfl (fun q hq => ?_) n
  by_cases e : q = k
  · subst e
    simp [updV, p_fv, hj]
  · simp only [updV, e, if_false, p_fv]
    cases hq2 : m_af q with
    | none => rfl
    | some j2 =>
      have : j2 ≠ j := fun z => e (m_uniq q hq k hk (by rw [hq2]; exact fun h => by cases h) (by rw [hq2, hj, z]))
      by_cases h1 : j2 < j
      · simp only [h1, if_true, show j2 < j + 1 by omega]
      · simp only [h1, if_false, show ¬ j2 < j + 1 by omega]
theorem GP.puti {i : Nat} {v : Int32} (k : Nat) (hk : k < 53) (hj : m_af k = none) (hw : Cond.fieldLink RX12 i "LikePagesModel" (TX12 k).2.1 (TX12 k).2.2.1 ∈ gw) (hT : (TX12 k).1 = "LikePagesModel") (hty : tyX12 k = .int) (hd : decode cc pc = .ok (.putfield i, 3)) (n : GoN l (EP κ) RX12 cc nL rt fr lo 0 0 rv x' (pc + 3) lv st (nf, na, pf S k v)) : GoN l (EP κ) RX12 cc nL rt fr lo 0 0 rv x' pc lv (.int v :: .ref κ.o :: st) (nf, na, S) := by
  refine GP.putv (S2 := pf S k v) k hk hw hT (by rw [hty]; rfl) (by rw [hty]; rfl) hd rfl (fun q hq => ?_) n
  by_cases e : q = k
  · subst e
    simp [updV, p_fv, hj, pf, upd]
  · simp [updV, p_fv, e, pf, upd]
theorem GP.geta {i : Nat} (k j : Nat) (hk : k < 53) (hj : m_af k = some j) (hjn : j < nf) (hw : Cond.fieldLink RX12 i "LikePagesModel" (TX12 k).2.1 (TX12 k).2.2.1 ∈ gw) (hT : (TX12 k).1 = "LikePagesModel") (hd : decode cc pc = .ok (.getfield i, 3)) (n : GoN l (EP κ) RX12 cc nL rt fr lo 0 0 rv x' (pc + 3) lv (.ref (κ.o + 1 + j) :: st) (nf, na, S)) : GoN l (EP κ) RX12 cc nL rt fr lo 0 0 rv x' pc lv (.ref κ.o :: st) (nf, na, S) := by
  intro p e s m args below meth c C H locs ls hl hH hS
  obtain ⟨hx, hb, hml, ho, hts, hr, hlk, hkn, hmn⟩ := id C
  obtain ⟨-, ⟨cell, q1, q2, q3, q4⟩, -⟩ := id hH
  obtain ⟨hSl, hfc, kC, hkC, hkind⟩ := hkn.1.1
  obtain ⟨cf, kf, fi, f, hi, hsl⟩ := hSl k hk
  refine W.getf hx hb ho (hts _ hw) (by rw [← hT]; exact hi) (u_facts hfc hkC (u_lays hts m_in hk) hi).1 q1 (by rw [q3]; exact fun h => by cases h) (v := .ref (κ.o + 1 + j)) ?_ rfl rfl hd (n p e s m args below meth c C H locs ls hl hH hS)
  rw [hsl, q4 k hk]
  simp [p_fv, hj, hjn]
theorem GP.iast {i v : Int32} {K : MS → Option Y} (j : Nat) (hj : j < na) (hz : m_z j = false) (hd : decode cc pc = .ok (.iastore, 1)) (h : (wr S j i v).bind K = some Z) (n : ∀ S1 : MS, K S1 = some Z → GoN l (EP κ) RX12 cc nL rt fr lo 0 0 rv x' (pc + 1) lv st (nf, na, S1)) : GoN l (EP κ) RX12 cc nL rt fr lo 0 0 rv x' pc lv (.int v :: .int i :: .ref (κ.o + 1 + j) :: st) (nf, na, S) := by
  intro p e s m args below meth c C H locs ls hl hH hS
  obtain ⟨hx, hb, hml, ho, hts, hr, hlk, hkn, hmn⟩ := id C
  unfold wr at h
  split at h
  · rename_i hin
    obtain ⟨⟨hsz, h53, h0⟩, hob, harr⟩ := id hH
    have hc := harr j hj
    refine W.iast hx hb hc (by rw [if_neg (by rw [hz]; decide)]; exact hkn.1.2.1 _ _) (fun q => by cases q) (by rw [arrV_size]; exact hin) rfl rfl hd fun H1 e1 z oq => ?_
    refine n _ h p e s m args below meth c C H1 _ ls hl ⟨⟨z.trans hsz, by rw [oq _ (by show κ.o ≠ κ.o + 1 + j; omega)]; exact h53, fun j2 i2 h2 => ?_⟩, hob.kept (oq _ (by show κ.o ≠ κ.o + 1 + j; omega)), fun j2 h2 => ?_⟩ (hS.put z oq (by show κ.o ≤ κ.o + 1 + j; omega))
    · show up2 S.1 j i.toNatClampNeg v j2 i2 = 0
      have h2 : na ≤ j2 := h2
      have : ¬ (j2 = j) := by omega
      simp only [up2, this, false_and, if_false]
      exact h0 j2 i2 h2
    · by_cases hjj : j2 = j
      · subst hjj
        rw [e1, arrV_store]
        congr 2
        funext q
        by_cases hq : q = i.toNatClampNeg
        · subst hq
          simp [updV, up2]
        · simp [updV, up2, hq]
      · rw [oq _ (by omega)]
        have := harr j2 h2
        simp only [up2, hjj, false_and, if_false]
        exact this
  · cases h
theorem HP.done {H : Heap} (h : HP κ (30, 30, S) H) (hs : κ.2.2.2.2.2 = κ.o + 31) : HM κ S H := by
  obtain ⟨⟨hsz, h53, h0⟩, hob, harr⟩ := h
  refine ⟨⟨by rw [hs]; exact hsz, h53⟩, hob.to (fun k hk => ?_), harr⟩
  have key : ∀ k, k < 53 → ∀ j, m_af k = some j → j < 30 := by decide +kernel
  unfold p_fv m_fv
  cases hq : m_af k with
  | none => rfl
  | some j => simp only [key k hk j hq, if_true]
theorem HP.of {H : Heap} (h : HM κ S H) (hs : κ.2.2.2.2.2 = κ.o + 31) (h0 : ∀ j i, 30 ≤ j → S.1 j i = 0) : HP κ (30, 30, S) H := by
  obtain ⟨⟨hsz, h53⟩, hob, harr⟩ := h
  refine ⟨⟨by rw [hsz, hs], h53, h0⟩, hob.to (fun k hk => ?_), harr⟩
  have key : ∀ k, k < 53 → ∀ j, m_af k = some j → j < 30 := by decide +kernel
  unfold p_fv m_fv
  cases hq : m_af k with
  | none => rfl
  | some j => simp only [key k hk j hq, if_true]
/-- a contract over the whole reference, in the making -/
theorem MtM.toP {y : MethodName} {bytes : ByteArray} {maxL fr1 lo1 : Nat} {ret : Option FieldType} {av : List Value} {S1 : MS} (hM : MtM l κ y bytes maxL ret fr1 lo1 av S none S1) (hs : κ.2.2.2.2.2 = κ.o + 31) (h0 : ∀ j i, 30 ≤ j → S1.1 j i = 0) : Mt l (EP κ) y bytes maxL ret fr1 lo1 av (30, 30, S) none (30, 30, S1) := by
  show Met l y _ (Rm fr1 lo1 (30 - 30) (p_sl 30 - p_sl 30)) _ _ (30 - 30) (p_sl 30 - p_sl 30) (AP κ)
  rw [Nat.sub_self, Nat.sub_self]
  refine Met.conv (show Met l y _ (Rm fr1 lo1 0 0) _ _ 0 0 (AM κ) from hM) (fun a s q => ⟨q.1, q.2.1.done hs, q.2.2.1⟩) (fun a s oc t q r => ⟨r.1, HP.of r.2.1 hs h0, r.2.2.1, fun z h1 h2 => r.2.2.2 z h1 (fun w => h2 w.1)⟩) (fun q h => h.1)
end GP
