def fop (r : UInt32) : Option UInt32 := if r &&& 0x7fffffff ≤ 0x7f800000 then some r else none
section LW
variable {p : Program} {l : Launch} {e : Env} {R : Room} {s : State} {m : MethodId} {args : Array Value} {below : List Frame} {meth : Method} {c : Code} {H : Heap} {locs : List Loc} {cells slots : Nat} {Q : State → Prop} {cc : ByteArray} {pc : Nat} {ls : Array Slot} {rest : List Value}
theorem lw_ldcwF {T : State} (X : Stand p l e R s m args below meth c T locs cells slots) (hexec : p.tables.exec = Jvm.exec) {own : String} {index : Nat} {v : UInt32} (hown : s.vm.findClass own = some m.cls)
    (hconst : (Cond.constantFloat own index v).before args s = true) {g : JFrame} (hg : g.method = m) (hdg : decode c.code g.pc = .ok (.ldc_w index, 3)) :
    ∀ target, Steps p.tables e below (T.setTop { g with pc := g.pc + 3, stack := .float v :: g.stack }) target → Steps p.tables e below (T.setTop g) target := by
  obtain ⟨k, cf, hk, hcf, hcp⟩ := Cond.constantFloat_spec hown hconst
  obtain ⟨k', hk', he⟩ := X.warmed.alike.2.2 _ _ hk
  intro target hrest
  subst hg
  jvm_step X.here [hexec, hdg, ldc_w.wp_float (s := T) (f := g) X.here.top hk' (by rw [he]; exact hcf) hcp]
  exact hrest
theorem lw_ldcwf (hexec : p.tables.exec = Jvm.exec) (hb : c.code = cc) {own : String} {index : Nat} {v : UInt32} (hown : s.vm.findClass own = some m.cls) (hconst : (Jvm.Cond.constantFloat own index v).before args s = true) (hdg : decode cc pc = .ok (.ldc_w index, 3)) (k : W p l e R s m args below meth c H locs cells slots Q (F0 m (pc + 3) ls (.float v :: rest))) : W p l e R s m args below meth c H locs cells slots Q (F0 m pc ls rest) := by
  intro T hT X
  obtain ⟨t, a, b⟩ := k T hT X
  exact ⟨t, lw_ldcwF X hexec hown hconst (g := F0 m pc ls rest) rfl (by rw [hb]; exact hdg) t a, b⟩
end LW
section FLGo
variable {X : Type} {l : Launch} {E : Ev X} {own : String} {cc : ByteArray} {nL : Nat} {rt : Option FieldType} {fr lo n0 u0 : Nat} {rv : Option Value} {x' : X} {pc : Nat} {lv : List (Nat × Value)} {st : List Value} {x : X} {Y : Type} {Z : Y}
theorem Go.fconst0 (hd : decode cc pc = .ok (.fconst 0, 1)) (k : Go l E own cc nL rt fr lo n0 u0 rv x' (pc + 1) lv (.float FP.fconst0 :: st) x) : Go l E own cc nL rt fr lo n0 u0 rv x' pc lv st x := by
  intro p e s m args below meth c C H locs ls hl hH hS
  obtain ⟨hx, hb, hml, ho, hts, hr, hk, hkn⟩ := id C
  exact lv_fconst0 hx hb hd (k p e s m args below meth c C H locs ls hl hH hS)
theorem Go.fconst1 (hd : decode cc pc = .ok (.fconst 1, 1)) (k : Go l E own cc nL rt fr lo n0 u0 rv x' (pc + 1) lv (.float FP.fconst1 :: st) x) : Go l E own cc nL rt fr lo n0 u0 rv x' pc lv st x := by
  intro p e s m args below meth c C H locs ls hl hH hS
  obtain ⟨hx, hb, hml, ho, hts, hr, hk, hkn⟩ := id C
  exact lv_fconst1 hx hb hd (k p e s m args below meth c C H locs ls hl hH hS)
theorem Go.fconst2 (hd : decode cc pc = .ok (.fconst 2, 1)) (k : Go l E own cc nL rt fr lo n0 u0 rv x' (pc + 1) lv (.float FP.fconst2 :: st) x) : Go l E own cc nL rt fr lo n0 u0 rv x' pc lv st x := by
  intro p e s m args below meth c C H locs ls hl hH hS
  obtain ⟨hx, hb, hml, ho, hts, hr, hk, hkn⟩ := id C
  exact lv_fconst2 hx hb hd (k p e s m args below meth c C H locs ls hl hH hS)
theorem Go.fload_n {f : Fin 4} {v : UInt32} (j : Nat) (hd : decode cc pc = .ok (.fload_n f, 1)) (hv : lv[j]? = some (f.val, .float v)) (k : Go l E own cc nL rt fr lo n0 u0 rv x' (pc + 1) lv (.float v :: st) x) : Go l E own cc nL rt fr lo n0 u0 rv x' pc lv st x := by
  intro p e s m args below meth c C H locs ls hl hH hS
  obtain ⟨hx, hb, hml, ho, hts, hr, hk, hkn⟩ := id C
  exact lv_fload_n hx hb hd rfl (lv_at hl.1 j hv) (k p e s m args below meth c C H locs ls hl hH hS)
theorem Go.fstore_n {f : Fin 4} {v : UInt32} (lv2 : List (Nat × Value)) (hd : decode cc pc = .ok (.fstore_n f, 1)) (hn : f.val < nL) (hl2 : lset lv f.val (.float v) = lv2) (k : Go l E own cc nL rt fr lo n0 u0 rv x' (pc + 1) lv2 st x) : Go l E own cc nL rt fr lo n0 u0 rv x' pc lv (.float v :: st) x := by
  intro p e s m args below meth c C H locs ls hl hH hS
  obtain ⟨hx, hb, hml, ho, hts, hr, hk, hkn⟩ := id C
  subst hl2
  exact lv_fstore_n hx hb hd rfl hl.1 hn rfl (fun ls2 h2 => k p e s m args below meth c C H locs ls2 (hl.set rfl h2) hH hS)
theorem Go.i2f {a : Int32} (hd : decode cc pc = .ok (.i2f, 1)) (k : Go l E own cc nL rt fr lo n0 u0 rv x' (pc + 1) lv (.float (FP.i2f a) :: st) x) : Go l E own cc nL rt fr lo n0 u0 rv x' pc lv (.int a :: st) x := by
  intro p e s m args below meth c C H locs ls hl hH hS
  obtain ⟨hx, hb, hml, ho, hts, hr, hk, hkn⟩ := id C
  exact lv_i2f hx hb hd (k p e s m args below meth c C H locs ls hl hH hS)
theorem Go.f2i {a : UInt32} (hd : decode cc pc = .ok (.f2i, 1)) (k : Go l E own cc nL rt fr lo n0 u0 rv x' (pc + 1) lv (.int (FP.f2i a) :: st) x) : Go l E own cc nL rt fr lo n0 u0 rv x' pc lv (.float a :: st) x := by
  intro p e s m args below meth c C H locs ls hl hH hS
  obtain ⟨hx, hb, hml, ho, hts, hr, hk, hkn⟩ := id C
  exact lv_f2i hx hb hd (k p e s m args below meth c C H locs ls hl hH hS)
theorem Go.fcmp {a b : UInt32} {op : CmpOp} (hd : decode cc pc = .ok (.fcmp op, 1)) (k : Go l E own cc nL rt fr lo n0 u0 rv x' (pc + 1) lv (.int (Op.cmpValue (FP.fcmp a b) op) :: st) x) : Go l E own cc nL rt fr lo n0 u0 rv x' pc lv (.float b :: .float a :: st) x := by
  intro p e s m args below meth c C H locs ls hl hH hS
  obtain ⟨hx, hb, hml, ho, hts, hr, hk, hkn⟩ := id C
  exact lv_fcmp hx hb hd (k p e s m args below meth c C H locs ls hl hH hS)
theorem Go.ldcwf {i : Nat} {v : UInt32} (hw : Cond.constantFloat own i v ∈ gw) (hd : decode cc pc = .ok (.ldc_w i, 3)) (k : Go l E own cc nL rt fr lo n0 u0 rv x' (pc + 3) lv (.float v :: st) x) : Go l E own cc nL rt fr lo n0 u0 rv x' pc lv st x := by
  intro p e s m args below meth c C H locs ls hl hH hS
  obtain ⟨hx, hb, hml, ho, hts, hr, hk, hkn⟩ := id C
  exact lw_ldcwf hx hb ho (hts _ hw) hd (k p e s m args below meth c C H locs ls hl hH hS)
theorem Go.fdiv {a b : UInt32} {K : UInt32 → Option Y} (hd : decode cc pc = .ok (.fdiv, 1)) (h : (fop (FP.fdiv a b)).bind K = some Z) (k : ∀ v, K v = some Z → Go l E own cc nL rt fr lo n0 u0 rv x' (pc + 1) lv (.float v :: st) x) : Go l E own cc nL rt fr lo n0 u0 rv x' pc lv (.float b :: .float a :: st) x := by
  intro p e s m args below meth c C H locs ls hl hH hS
  obtain ⟨hx, hb, hml, ho, hts, hr, hk, hkn⟩ := id C
  unfold fop at h
  split at h
  · rename_i q
    exact lv_fdiv hx hb hd q (k _ h p e s m args below meth c C H locs ls hl hH hS)
  · cases h
theorem Go.fmul {a b : UInt32} {K : UInt32 → Option Y} (hd : decode cc pc = .ok (.fmul, 1)) (h : (fop (FP.fmul a b)).bind K = some Z) (k : ∀ v, K v = some Z → Go l E own cc nL rt fr lo n0 u0 rv x' (pc + 1) lv (.float v :: st) x) : Go l E own cc nL rt fr lo n0 u0 rv x' pc lv (.float b :: .float a :: st) x := by
  intro p e s m args below meth c C H locs ls hl hH hS
  obtain ⟨hx, hb, hml, ho, hts, hr, hk, hkn⟩ := id C
  unfold fop at h
  split at h
  · rename_i q
    exact lv_fmul hx hb hd q (k _ h p e s m args below meth c C H locs ls hl hH hS)
  · cases h
theorem Go.fsub {a b : UInt32} {K : UInt32 → Option Y} (hd : decode cc pc = .ok (.fsub, 1)) (h : (fop (FP.fsub a b)).bind K = some Z) (k : ∀ v, K v = some Z → Go l E own cc nL rt fr lo n0 u0 rv x' (pc + 1) lv (.float v :: st) x) : Go l E own cc nL rt fr lo n0 u0 rv x' pc lv (.float b :: .float a :: st) x := by
  intro p e s m args below meth c C H locs ls hl hH hS
  obtain ⟨hx, hb, hml, ho, hts, hr, hk, hkn⟩ := id C
  unfold fop at h
  split at h
  · rename_i q
    exact lv_fsub hx hb hd q (k _ h p e s m args below meth c C H locs ls hl hH hS)
  · cases h
end FLGo
section FLGoC
variable {l : Launch} {G : Gt} {own mn : String} {cc : ByteArray} {nL : Nat} {rt : Option FieldType} {fr lo n0 u0 : Nat} {rv : Option Value} {x' : Hp} {pc : Nat} {lv : List (Nat × Value)} {st : List Value} {x : Hp} {Y : Type} {Z : Y}
theorem GoC.fconst0 (hd : decode cc pc = .ok (.fconst 0, 1)) (k : GoC l G own mn cc nL rt fr lo n0 u0 rv x' (pc + 1) lv (.float FP.fconst0 :: st) x) : GoC l G own mn cc nL rt fr lo n0 u0 rv x' pc lv st x := by
  intro p e s m args below meth c C H locs ls hl hH hS
  obtain ⟨hx, hb, hml, ho, hts, hr, hk, hkn⟩ := id C
  exact lv_fconst0 hx hb hd (k p e s m args below meth c C H locs ls hl hH hS)
theorem GoC.fconst1 (hd : decode cc pc = .ok (.fconst 1, 1)) (k : GoC l G own mn cc nL rt fr lo n0 u0 rv x' (pc + 1) lv (.float FP.fconst1 :: st) x) : GoC l G own mn cc nL rt fr lo n0 u0 rv x' pc lv st x := by
  intro p e s m args below meth c C H locs ls hl hH hS
  obtain ⟨hx, hb, hml, ho, hts, hr, hk, hkn⟩ := id C
  exact lv_fconst1 hx hb hd (k p e s m args below meth c C H locs ls hl hH hS)
theorem GoC.fconst2 (hd : decode cc pc = .ok (.fconst 2, 1)) (k : GoC l G own mn cc nL rt fr lo n0 u0 rv x' (pc + 1) lv (.float FP.fconst2 :: st) x) : GoC l G own mn cc nL rt fr lo n0 u0 rv x' pc lv st x := by
  intro p e s m args below meth c C H locs ls hl hH hS
  obtain ⟨hx, hb, hml, ho, hts, hr, hk, hkn⟩ := id C
  exact lv_fconst2 hx hb hd (k p e s m args below meth c C H locs ls hl hH hS)
theorem GoC.fload_n {f : Fin 4} {v : UInt32} (j : Nat) (hd : decode cc pc = .ok (.fload_n f, 1)) (hv : lv[j]? = some (f.val, .float v)) (k : GoC l G own mn cc nL rt fr lo n0 u0 rv x' (pc + 1) lv (.float v :: st) x) : GoC l G own mn cc nL rt fr lo n0 u0 rv x' pc lv st x := by
  intro p e s m args below meth c C H locs ls hl hH hS
  obtain ⟨hx, hb, hml, ho, hts, hr, hk, hkn⟩ := id C
  exact lv_fload_n hx hb hd rfl (lv_at hl.1 j hv) (k p e s m args below meth c C H locs ls hl hH hS)
theorem GoC.fstore_n {f : Fin 4} {v : UInt32} (lv2 : List (Nat × Value)) (hd : decode cc pc = .ok (.fstore_n f, 1)) (hn : f.val < nL) (hl2 : lset lv f.val (.float v) = lv2) (k : GoC l G own mn cc nL rt fr lo n0 u0 rv x' (pc + 1) lv2 st x) : GoC l G own mn cc nL rt fr lo n0 u0 rv x' pc lv (.float v :: st) x := by
  intro p e s m args below meth c C H locs ls hl hH hS
  obtain ⟨hx, hb, hml, ho, hts, hr, hk, hkn⟩ := id C
  subst hl2
  exact lv_fstore_n hx hb hd rfl hl.1 hn rfl (fun ls2 h2 => k p e s m args below meth c C H locs ls2 (hl.set rfl h2) hH hS)
theorem GoC.i2f {a : Int32} (hd : decode cc pc = .ok (.i2f, 1)) (k : GoC l G own mn cc nL rt fr lo n0 u0 rv x' (pc + 1) lv (.float (FP.i2f a) :: st) x) : GoC l G own mn cc nL rt fr lo n0 u0 rv x' pc lv (.int a :: st) x := by
  intro p e s m args below meth c C H locs ls hl hH hS
  obtain ⟨hx, hb, hml, ho, hts, hr, hk, hkn⟩ := id C
  exact lv_i2f hx hb hd (k p e s m args below meth c C H locs ls hl hH hS)
theorem GoC.f2i {a : UInt32} (hd : decode cc pc = .ok (.f2i, 1)) (k : GoC l G own mn cc nL rt fr lo n0 u0 rv x' (pc + 1) lv (.int (FP.f2i a) :: st) x) : GoC l G own mn cc nL rt fr lo n0 u0 rv x' pc lv (.float a :: st) x := by
  intro p e s m args below meth c C H locs ls hl hH hS
  obtain ⟨hx, hb, hml, ho, hts, hr, hk, hkn⟩ := id C
  exact lv_f2i hx hb hd (k p e s m args below meth c C H locs ls hl hH hS)
theorem GoC.fcmp {a b : UInt32} {op : CmpOp} (hd : decode cc pc = .ok (.fcmp op, 1)) (k : GoC l G own mn cc nL rt fr lo n0 u0 rv x' (pc + 1) lv (.int (Op.cmpValue (FP.fcmp a b) op) :: st) x) : GoC l G own mn cc nL rt fr lo n0 u0 rv x' pc lv (.float b :: .float a :: st) x := by
  intro p e s m args below meth c C H locs ls hl hH hS
  obtain ⟨hx, hb, hml, ho, hts, hr, hk, hkn⟩ := id C
  exact lv_fcmp hx hb hd (k p e s m args below meth c C H locs ls hl hH hS)
theorem GoC.ldcwf {i : Nat} {v : UInt32} (hw : Cond.constantFloat own i v ∈ gw) (hd : decode cc pc = .ok (.ldc_w i, 3)) (k : GoC l G own mn cc nL rt fr lo n0 u0 rv x' (pc + 3) lv (.float v :: st) x) : GoC l G own mn cc nL rt fr lo n0 u0 rv x' pc lv st x := by
  intro p e s m args below meth c C H locs ls hl hH hS
  obtain ⟨hx, hb, hml, ho, hts, hr, hk, hkn⟩ := id C
  exact lw_ldcwf hx hb ho (hts _ hw) hd (k p e s m args below meth c C H locs ls hl hH hS)
theorem GoC.fdiv {a b : UInt32} {K : UInt32 → Option Y} (hd : decode cc pc = .ok (.fdiv, 1)) (h : (fop (FP.fdiv a b)).bind K = some Z) (k : ∀ v, K v = some Z → GoC l G own mn cc nL rt fr lo n0 u0 rv x' (pc + 1) lv (.float v :: st) x) : GoC l G own mn cc nL rt fr lo n0 u0 rv x' pc lv (.float b :: .float a :: st) x := by
  intro p e s m args below meth c C H locs ls hl hH hS
  obtain ⟨hx, hb, hml, ho, hts, hr, hk, hkn⟩ := id C
  unfold fop at h
  split at h
  · rename_i q
    exact lv_fdiv hx hb hd q (k _ h p e s m args below meth c C H locs ls hl hH hS)
  · cases h
theorem GoC.fmul {a b : UInt32} {K : UInt32 → Option Y} (hd : decode cc pc = .ok (.fmul, 1)) (h : (fop (FP.fmul a b)).bind K = some Z) (k : ∀ v, K v = some Z → GoC l G own mn cc nL rt fr lo n0 u0 rv x' (pc + 1) lv (.float v :: st) x) : GoC l G own mn cc nL rt fr lo n0 u0 rv x' pc lv (.float b :: .float a :: st) x := by
  intro p e s m args below meth c C H locs ls hl hH hS
  obtain ⟨hx, hb, hml, ho, hts, hr, hk, hkn⟩ := id C
  unfold fop at h
  split at h
  · rename_i q
    exact lv_fmul hx hb hd q (k _ h p e s m args below meth c C H locs ls hl hH hS)
  · cases h
theorem GoC.fsub {a b : UInt32} {K : UInt32 → Option Y} (hd : decode cc pc = .ok (.fsub, 1)) (h : (fop (FP.fsub a b)).bind K = some Z) (k : ∀ v, K v = some Z → GoC l G own mn cc nL rt fr lo n0 u0 rv x' (pc + 1) lv (.float v :: st) x) : GoC l G own mn cc nL rt fr lo n0 u0 rv x' pc lv (.float b :: .float a :: st) x := by
  intro p e s m args below meth c C H locs ls hl hH hS
  obtain ⟨hx, hb, hml, ho, hts, hr, hk, hkn⟩ := id C
  unfold fop at h
  split at h
  · rename_i q
    exact lv_fsub hx hb hd q (k _ h p e s m args below meth c C H locs ls hl hH hS)
  · cases h
end FLGoC
theorem cf387 : Cond.constantFloat RX11 387 1258291200 ∈ gw := gw_at 1347 (by decide +kernel) rfl
theorem Met.ofWF {l : Launch} {y : MethodName} {ws ws' : List Cond} {rm : Room} {Pc : Array Value → State → Prop} {Qc : Array Value → State → Outcome → State → Prop} {mc ms : Nat} {free : Addr → Prop} {cc : ByteArray} {maxL : Nat} {ret : Option FieldType}
    (hy : plainFor y = true) (hw : ws = Cond.code y cc maxL ret :: ws')
    (body : ∀ p e s m args below meth c s₁, BodyLoose p l y (headSpec ws rm) cc maxL ret e s m args below meth c s₁ → c.maxLocals = maxL → Pc args s →
      W p l e (headSpec ws rm).room s m args below meth c s.heap [] 0 0 (MQ below Qc args s mc ms free) (entryFrame m args maxL)) : Met l y ws rm Pc Qc mc ms free := by
  refine MetFree.of_bodySF (code := cc) (maxLocals := maxL) (ret := ret) hy ?_ ?_
  · intro args s m h hn
    obtain ⟨meth, c, h1, h2, h3, h4, h5, h6, -, -⟩ := Cond.code_spec hn (atoms_spec (ws := ws) h _ (by rw [hw]; exact List.mem_cons_self))
    exact ⟨meth, c, h1, h2, h3, h4, h5, h6⟩
  · intro p e s m args below meth c s₁ B hml hP _
    have hh0 : s₁.heap = s.heap := by rw [B.state]; rfl
    obtain ⟨t, a1, o, b1, b2, b3⟩ := body p e s m args below meth c s₁ B hml hP s₁ hh0 (Stand.of_body B)
    exact ⟨t, o, a1, b1, b2, ⟨b3.1, b3.2⟩⟩
theorem Mt.ofF {X : Type} {l : Launch} {E : Ev X} {cc : ByteArray} {nL : Nat} {rt : Option FieldType} {fr lo : Nat} {rv : Option Value} {x x' : X} {y : MethodName} {av : List Value} (hy : plainFor y = true) (hn : (lg_sl av).length ≤ nL) (hc : ∀ q ∈ lv_args 0 av, q.2.category = 1) (h : Go l E y.cls cc nL rt fr lo (E.2.2.1 x) (E.2.2.2.1 x) rv x' 0 (lv_args 0 av) [] x) : Mt l E y cc nL rt fr lo av x rv x' := by
  refine Met.ofWF (cc := cc) (maxL := nL) (ret := rt) hy rfl ?_
  intro p e s m args below meth c s₁ B hml hv
  obtain ⟨rfl, hH, hK⟩ := hv
  have hts := atoms_spec B.pre
  have hl := lv_entry av hn
  rw [lg_entry_eq]
  have key := h p e s m av.toArray below meth c ⟨B.exec, B.bytes, hml, findClass_of_methodNamed B.named, fun w hw => hts w (List.mem_cons_of_mem _ hw), B.returns, B.notSynchronized, hK⟩ s.heap [] _ ⟨hl, hc⟩ hH va_S.rf
  rw [Nat.sub_self, Nat.sub_self] at key
  exact key
def r_isNaN (b : UInt32) : Option Int32 := if Op.cmpValue (FP.fcmp b b) .l = 0 then zb 0 else zb 1
def r_bits (b : UInt32) : Option Int32 := (r_isNaN b).bind (fun v => if v = 0 then some b.toInt32 else none)
theorem fk_isNaN : Ks RJxf58ca 59 yJxf58ca_isNaN_12338 cJxf58ca_isNaN_12338 1 (some .boolean) 1 := ⟨gw_at 2003 (by decide +kernel) rfl, gw_at 27 (by decide +kernel) rfl, gw_at 2001 (by decide +kernel) rfl, by decide +kernel, by decide +kernel, by decide +kernel⟩
theorem fk_bits : Ks RX12 416 yJxf58ca_floatToIntBits_5c35a cJxf58ca_floatToIntBits_5c35a 1 (some .int) 1 := ⟨gw_at 2000 (by decide +kernel) rfl, gw_at 27 (by decide +kernel) rfl, gw_at 1998 (by decide +kernel) rfl, by decide +kernel, by decide +kernel, by decide +kernel⟩
theorem fs_isNaN : Cond.static yJxf58ca_isNaN_12338 ∈ gw := gw_at 2002 (by decide +kernel) rfl
theorem fs_bits : Cond.static yJxf58ca_floatToIntBits_5c35a ∈ gw := gw_at 1999 (by decide +kernel) rfl
theorem fn_link : Cond.methodLink RJxf58ca 74 ⟨"java/lang/Float", "floatToRawIntBits", "(F)I"⟩ ∈ gw := gw_at 2004 (by decide +kernel) rfl
theorem fn_stat : Cond.static ⟨"java/lang/Float", "floatToRawIntBits", "(F)I"⟩ ∈ gw := gw_at 2005 (by decide +kernel) rfl
theorem fn_nat : Cond.native ⟨"java/lang/Float", "floatToRawIntBits", "(F)I"⟩ ∈ gw := gw_at 2006 (by decide +kernel) rfl
theorem fn_ini : Cond.initialized "java/lang/Float" ∈ gw := gw_at 27 (by decide +kernel) rfl
set_option maxRecDepth 20000 in
theorem rt_isNaN {l : Launch} {κ : KMt} {S : MS} (b : UInt32) : ∀ Z, r_isNaN b = some Z → MtM l κ yJxf58ca_isNaN_12338 cJxf58ca_isNaN_12338 1 (some .boolean) 0 0 [.float b] S (some (.int Z)) S := by
  intro Z h
  refine Mt.ofF (by decide +kernel) (Nat.le_of_ble_eq_true rfl) (cat1_args (av := [.float b]) ⟨rfl, trivial⟩ 0) ?_
  unfold r_isNaN at h
  refine Go.fload_n (lv := [(0, .float b)]) 0 dJxf58ca_isNaN_12338_0 rfl ?_
  refine Go.fload_n 0 dJxf58ca_isNaN_12338_1 rfl ?_
  refine Go.fcmp dJxf58ca_isNaN_12338_2 ?_
  refine Go.if_eq 10 dJxf58ca_isNaN_12338_3 (by decide) h (fun h => ?_) (fun h => ?_)
  · refine Go.iconst 0 dJxf58ca_isNaN_12338_10 (by decide) ?_
    exact Go.zret dJxf58ca_isNaN_12338_11 rfl h
  · refine Go.iconst 1 dJxf58ca_isNaN_12338_6 (by decide) ?_
    refine Go.goto 11 dJxf58ca_isNaN_12338_7 (by decide) ?_
    exact Go.zret dJxf58ca_isNaN_12338_11 rfl h
set_option maxRecDepth 20000 in
theorem rt_bits {l : Launch} {κ : KMt} {S : MS} (b : UInt32) : ∀ Z, r_bits b = some Z → MtM l κ yJxf58ca_floatToIntBits_5c35a cJxf58ca_floatToIntBits_5c35a 1 (some .int) 1 20 [.float b] S (some (.int Z)) S := by
  intro Z h
  refine Mt.ofF (by decide +kernel) (Nat.le_of_ble_eq_true rfl) (cat1_args (av := [.float b]) ⟨rfl, trivial⟩ 0) ?_
  unfold r_bits at h
  obtain ⟨v, hv, h⟩ := Option.bind_eq_some_iff.mp h
  refine Go.fload_n (lv := [(0, .float b)]) 0 dJxf58ca_floatToIntBits_5c35a_0 rfl ?_
  refine Go.calls (rest := []) [.float b] (EM_ok κ) dJxf58ca_floatToIntBits_5c35a_1 fk_isNaN fs_isNaN (rt_isNaN b _ hv) rfl rfl (Nat.le_of_ble_eq_true rfl) (Nat.le_of_ble_eq_true rfl) (Nat.le_of_ble_eq_true rfl) zz ⟨Nat.le_refl 0, Nat.le_refl 0⟩ ?_
  refine Go.if_ne (lv := [(0, .float b)]) (st := []) 12 dJxf58ca_floatToIntBits_5c35a_4 (by decide) h (fun h => by cases h) (fun h => ?_)
  cases h
  refine Go.fload_n 0 dJxf58ca_floatToIntBits_5c35a_7 rfl ?_
  have key : Go l (EM κ) RJxf58ca cJxf58ca_floatToIntBits_5c35a 1 (some .int) 1 20 0 0 (some (.int b.toInt32)) S 11 [(0, .float b)] [.int b.toInt32] S := Go.iret dJxf58ca_floatToIntBits_5c35a_11 rfl
  intro p e s m args below meth c C H locs ls hl hH hS
  obtain ⟨hx, hb, hml, ho, hts, hr, hlk, hkn⟩ := id C
  exact vn_f2i hx hb (by rw [hml]; exact hl.1.1.symm) ho (hts _ fn_link) (hts _ fn_nat) (hts _ fn_stat) (hts _ fn_ini) (Nat.le_of_ble_eq_true rfl) (Nat.le_of_ble_eq_true rfl) dJxf58ca_floatToIntBits_5c35a_8 (key p e s m args below meth c C H locs ls hl hH hS)
