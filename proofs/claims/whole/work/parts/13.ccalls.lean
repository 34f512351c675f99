def ckd {Y : Type} (x : Hp) (b t : Nat) (o : Option Y) : Option Y := if x.kd b = t then o else none
theorem ckd_some {Y : Type} {x : Hp} {b t : Nat} {o : Option Y} {z : Y} (h : ckd x b t o = some z) : x.kd b = t ∧ o = some z := by
  unfold ckd at h
  split at h
  · rename_i q; exact ⟨q, h⟩
  · cases h
theorem cat1_sum {vs : List Value} (h : cat1 vs) : (vs.map fun v => v.category).sum = vs.length := by
  induction vs with
  | nil => rfl
  | cons v t ih =>
    simp only [List.map_cons, List.sum_cons, List.length_cons]
    rw [h.1, ih h.2]; omega
section GC3
variable {l : Launch} {G : Gt} {own mn : String} {cc : ByteArray} {nL : Nat} {rt : Option FieldType} {fr lo n0 u0 : Nat} {rv : Option Value} {x' : Hp} {pc : Nat} {lv lv' : List (Nat × Value)} {st rest : List Value} {x : Hp} {Y : Type} {Z : Y}
theorem GoC.run {p : Program} {e : Env} {s : State} {m : MethodId} {args : Array Value} {below : List Frame} {meth : Method} {c : Code} {H : Heap} {locs : List Loc} {cells slots mc ms : Nat} {ls : Array Slot} {a : Array Value} {rv1 : Option Value} {x1 : Hp}
    (C : CxC G own mn cc nL rt n0 u0 p s m args meth c) (hl : lvh ls nL lv) (hS : va_S (AC G) s.heap H locs)
    (hrun : va_Run p l e (Rm fr lo (NXc - n0) (UXc - u0)) s m args below meth c H locs cells slots mc ms (F0 m pc ls st) rest (QC G rv1 x1 a) (AC G))
    (k : GoC l G own mn cc nL rt fr lo n0 u0 rv x' (pc + 3) lv (rv1.toList ++ rest) x1) :
    W p l e (Rm fr lo (NXc - n0) (UXc - u0)) s m args below meth c H locs cells slots (MQ below (QC G rv x') args s (NXc - n0) (UXc - u0) (AC G)) (F0 m pc ls st) := by
  intro T hT Xs
  obtain ⟨v, st₀, t, T', L, h0, X', hL, e1, e2, ⟨hv, hH1, hz, hkp⟩, stp⟩ := hrun T hT Xs
  cases hv
  rw [h0] at hz hkp
  have hS1 : va_S (AC G) s.heap T'.heap (locs ++ L) := by
    refine ⟨Nat.le_trans hS.1 (by rw [e1]; exact hz), fun q h1 h2 => ?_, fun q hq => ?_⟩
    · rw [e1, hkp q (Nat.lt_of_lt_of_le h1 hS.1) h2]
      exact hS.2.1 q h1 h2
    · rcases List.mem_append.mp hq with h | h
      · exact hS.2.2 q h
      · exact hL q h
  obtain ⟨t2, a1, b1⟩ := W.any (k p e s m args below meth c C T'.heap (locs ++ L) ls hl (by rw [e1]; exact hH1) hS1) T' rfl X'
  exact ⟨t2, stp t2 a1, b1⟩
theorem pcC_blind {av : List Value} : FrameBlind (va_Pc av (fun U => HC G x U.heap ∧ KC G U ∧ OC G U)) := by
  intro a U g mk q
  obtain ⟨q0, q1, q2, q3⟩ := q
  exact ⟨q0, q1, KC.moved (u := U) (U := U.calling g mk a) (Vm.Alike.refl U.vm) q2, q3.calling g mk a⟩
theorem pcC_at {av : List Value} {s U : State} {H : Heap} {locs : List Loc} (hH : HC G x H) (hK : KC G s) (hO : OC G s) (hS : va_S (AC G) s.heap H locs) (hU : U.heap = H) (hW : s.WarmedH U.vm) : va_Pc av (fun U => HC G x U.heap ∧ KC G U ∧ OC G U) av.toArray U :=
  ⟨rfl, by rw [hU]; exact hH, hK.moved hW.alike, hO.go hW (fun a h1 h2 => by rw [hU]; exact hS.2.1 a h1 h2)⟩
section CALLS
variable {i n : Nat} {y : MethodName} {bytes : ByteArray} {maxL fr1 lo1 : Nat} {ret : Option FieldType} {rv1 : Option Value} {x1 : Hp}
theorem GC.calls (As : List Value) (hd : decode cc pc = .ok (.invokestatic i, 3)) (hK : Ks own i y bytes maxL ret n) (hst : Cond.static y ∈ gw) (hM : MtC l G y bytes maxL ret fr1 lo1 As x rv1 x1)
    (hs : st = As.reverse ++ rest) (hn : As.length = n) (hf : fr1 + 1 ≤ fr) (hlo : 8 + (maxL + 11) + lo1 ≤ lo) (hc : cat1 rest) (hc8 : rest.length ≤ 8)
    (k : GoC l G own mn cc nL rt fr lo n0 u0 rv x' (pc + 3) lv (rv1.toList ++ rest) x1) : GoC l G own mn cc nL rt fr lo n0 u0 rv x' pc lv st x := by
  intro p e s m args below meth c0 C H locs ls hl hH hS
  obtain ⟨hx, hb, hml, ho, hts, hrt, hlk, hkn⟩ := id C
  refine W.withX fun T hT X => ?_
  obtain ⟨q1, q2, q3, q4⟩ := c_room hT X hkn.2.2.1 hH
  have g4 : x.nx ≤ NXc := hH.1.2.2.2.1
  have g5 : x.us ≤ UXc := hH.1.2.2.2.2
  refine GoC.run (mc := NXc - x.nx) (ms := UXc - x.us) C hl hS (a := As.toArray) (rest := rest) ?_ k
  exact va_runS (Ts := gw) (As := As) (rest := rest) ⟨hx, hb, hml, ho, hts⟩ hM ⟨cb_of hts hK.1 hK.2.1 hK.2.2.1 hK.2.2.2 ⟨hf, hlo⟩, hts _ hst⟩ ⟨pcC_blind, fun U hU hW => pcC_at hH hkn.1 hkn.2.1 hS hU hW⟩ rfl hn hl.1.1 hs (lv_room (by rw [cat1_sum hc]; exact hc8)) hd ⟨by show _ ≤ NXc - n0; omega, by show _ ≤ UXc - u0; omega⟩
theorem GC.callv {b : Nat} (c : Nat) {r : vw_C} (hr : clsC[c]? = some r) (hkb : x.kd b = 10 + c) (hyc : y.cls = r.1) (As : List Value) (hd : decode cc pc = .ok (.invokevirtual i, 3)) (hK : Ks own i y bytes maxL ret n) (hin : Cond.instanceMethod y ∈ gw) (hse : Cond.selects y.cls y y ∈ gw) (hM : MtC l G y bytes maxL ret fr1 lo1 (G.rv b :: As) x rv1 x1)
    (hs : st = As.reverse ++ G.rv b :: rest) (hn : As.length = n) (hf : fr1 + 1 ≤ fr) (hlo : 8 + (maxL + 11) + lo1 ≤ lo) (hc : cat1 rest) (hc8 : rest.length ≤ 8)
    (k : GoC l G own mn cc nL rt fr lo n0 u0 rv x' (pc + 3) lv (rv1.toList ++ rest) x1) : GoC l G own mn cc nL rt fr lo n0 u0 rv x' pc lv st x := by
  intro p e s m args below meth c0 C H locs ls hl hH hS
  obtain ⟨hx, hb, hml, ho, hts, hrt, hlk, hkn⟩ := id C
  refine W.withX fun T hT X => ?_
  obtain ⟨q1, q2, q3, q4⟩ := c_room hT X hkn.2.2.1 hH
  have g4 : x.nx ≤ NXc := hH.1.2.2.2.1
  have g5 : x.us ≤ UXc := hH.1.2.2.2.2
  have hb0 := (hH.obj hr hkb).1
  rw [G.rv_ne hb0] at hM hs
  refine GoC.run (mc := NXc - x.nx) (ms := UXc - x.us) C hl hS (a := (Value.ref (G.adr b) :: As).toArray) (rest := rest) ?_ k
  exact va_runV (Ts := gw) (C := y.cls) (As := As) (rest := rest) ⟨hx, hb, hml, ho, hts⟩ hM ⟨cb_of hts hK.1 hK.2.1 hK.2.2.1 hK.2.2.2 ⟨hf, hlo⟩, hts _ hin, hts _ hse⟩ ⟨pcC_blind, by rw [hyc]; exact hH.recv hkn.1 hr hkb, fun U hU hW => pcC_at hH hkn.1 hkn.2.1 hS hU hW⟩ rfl hn hl.1.1 hs (lv_room (by rw [cat1_sum hc]; exact hc8)) hd ⟨by show _ ≤ NXc - n0; omega, by show _ ≤ UXc - u0; omega⟩
theorem GC.calli {b : Nat} (hb0 : b ≠ 0) (As : List Value) (hd : decode cc pc = .ok (.invokespecial i, 3)) (hK : Ks own i y bytes maxL none n) (hy1 : y.name = "<init>") (hin : Cond.instanceMethod y ∈ gw) (hM : MtC l G y bytes maxL none fr1 lo1 (G.rv b :: As) x rv1 x1)
    (hs : st = As.reverse ++ G.rv b :: rest) (hn : As.length = n) (hf : fr1 + 1 ≤ fr) (hlo : 8 + (maxL + 11) + lo1 ≤ lo) (hc : cat1 rest) (hc8 : rest.length ≤ 8)
    (k : GoC l G own mn cc nL rt fr lo n0 u0 rv x' (pc + 3) lv (rv1.toList ++ rest) x1) : GoC l G own mn cc nL rt fr lo n0 u0 rv x' pc lv st x := by
  intro p e s m args below meth c0 C H locs ls hl hH hS
  obtain ⟨hx, hb, hml, ho, hts, hrt, hlk, hkn⟩ := id C
  refine W.withX fun T hT X => ?_
  obtain ⟨q1, q2, q3, q4⟩ := c_room hT X hkn.2.2.1 hH
  have g4 : x.nx ≤ NXc := hH.1.2.2.2.1
  have g5 : x.us ≤ UXc := hH.1.2.2.2.2
  rw [G.rv_ne hb0] at hM hs
  refine GoC.run (mc := NXc - x.nx) (ms := UXc - x.us) C hl hS (a := (Value.ref (G.adr b) :: As).toArray) (rest := rest) ?_ k
  exact va_runI (Ts := gw) (As := As) (rest := rest) ⟨hx, hb, hml, ho, hts⟩ hM ⟨cb_of hts hK.1 hK.2.1 hK.2.2.1 hK.2.2.2 ⟨hf, hlo⟩, hy1, hts _ hin⟩ ⟨pcC_blind, fun U hU hW => pcC_at hH hkn.1 hkn.2.1 hS hU hW⟩ rfl hn hl.1.1 hs (lv_room (by rw [cat1_sum hc]; exact hc8)) hd ⟨by show _ ≤ NXc - n0; omega, by show _ ≤ UXc - u0; omega⟩
/-- a private constructor of a nest mate -/
theorem GC.calln {b : Nat} {host : String} (hb0 : b ≠ 0) (As : List Value) (hd : decode cc pc = .ok (.invokespecial i, 3)) (hnw : ∀ s, NW s → va_Nw (.methodLinkNest own i y host) s) (hcode : Cond.code y bytes maxL none ∈ gw) (hini : Cond.initialized y.cls ∈ gw) (hdd : y.cls ≠ "java/lang/invoke/MethodHandle" ∧ y.cls ≠ "java/lang/invoke/VarHandle" ∧ (parseMethodDescriptor y.desc).map (fun d => d.parameters.length) = some n) (hy1 : y.name = "<init>") (hin : Cond.instanceMethod y ∈ gw) (hM : MtC l G y bytes maxL none fr1 lo1 (G.rv b :: As) x rv1 x1)
    (hs : st = As.reverse ++ G.rv b :: rest) (hn : As.length = n) (hf : fr1 + 1 ≤ fr) (hlo : 8 + (maxL + 11) + lo1 ≤ lo) (hc : cat1 rest) (hc8 : rest.length ≤ 8)
    (k : GoC l G own mn cc nL rt fr lo n0 u0 rv x' (pc + 3) lv (rv1.toList ++ rest) x1) : GoC l G own mn cc nL rt fr lo n0 u0 rv x' pc lv st x := by
  intro p e s m args below meth c0 C H locs ls hl hH hS
  obtain ⟨hx, hb, hml, ho, hts, hrt, hlk, hkn⟩ := id C
  refine W.withX fun T hT X => ?_
  obtain ⟨q1, q2, q3, q4⟩ := c_room hT X hkn.2.2.1 hH
  have g4 : x.nx ≤ NXc := hH.1.2.2.2.1
  have g5 : x.us ≤ UXc := hH.1.2.2.2.2
  rw [G.rv_ne hb0] at hM hs
  refine GoC.run (mc := NXc - x.nx) (ms := UXc - x.us) C hl hS (a := (Value.ref (G.adr b) :: As).toArray) (rest := rest) ?_ k
  exact va_runIN (Ts := gw) (host := host) (As := As) (rest := rest) ⟨hx, hb, hml, ho, hts⟩ hM ⟨va_cnB n hts (fun w hw => by
    rcases List.mem_cons.mp hw with h | h
    · rw [h]; exact gw_good _ hcode
    · exact gw_good _ h) rfl rfl rfl (hnw s hkn.2.1.2.2.2.2.2.1) (hts _ hini) hdd ⟨hf, hlo⟩, hy1, hts _ hin⟩ ⟨pcC_blind, fun U hU hW => pcC_at hH hkn.1 hkn.2.1 hS hU hW⟩ rfl hn hl.1.1 hs (lv_room (by rw [cat1_sum hc]; exact hc8)) hd ⟨by show _ ≤ NXc - n0; omega, by show _ ≤ UXc - u0; omega⟩
end CALLS
theorem GC.oinit {b i : Nat} (hb0 : b ≠ 0) (hw : Cond.methodLink own i objectInit ∈ gw) (hi : Cond.instanceMethod objectInit ∈ gw) (hc : Cond.code objectInit ⟨#[0xb1]⟩ 1 none ∈ gw) (hd : decode cc pc = .ok (.invokespecial i, 3)) (hf : 1 ≤ fr) (hcr : cat1 st) (hlo : st.length + 12 ≤ lo) (k : GoC l G own mn cc nL rt fr lo n0 u0 rv x' (pc + 3) lv st x) : GoC l G own mn cc nL rt fr lo n0 u0 rv x' pc lv (G.rv b :: st) x := by
  intro p e s m args below meth c0 C H locs ls hl hH hS
  obtain ⟨hx, hb, hml, ho, hts, hrt, hlk, hkn⟩ := id C
  rw [G.rv_ne hb0]
  refine W.objInit hx hb ho (hts _ hw) (hts _ hi) (hts _ hc) rfl (by rw [hml]; exact hl.1.1) rfl hd hf (by show 2 * 0 + _ + 12 ≤ lo; rw [cat1_sum hcr]; omega) ?_
  exact k p e s m args below meth c0 C H locs ls hl hH hS
theorem GC.castS {i a c : Nat} {r : vw_C} (hr : clsC[c]? = some r) (hw : Cond.classLink own i r.1 ∈ gw) (hd : decode cc pc = .ok (.checkcast i, 3)) {o : Option Y} (h : (if a = 0 ∨ x.kd a = 10 + c then o else none) = some Z) (k : o = some Z → GoC l G own mn cc nL rt fr lo n0 u0 rv x' (pc + 3) lv (G.rv a :: st) x) : GoC l G own mn cc nL rt fr lo n0 u0 rv x' pc lv (G.rv a :: st) x := by
  intro p e s m args below meth c0 C H locs ls hl hH hS
  obtain ⟨hx, hb, hml, ho, hts, hrt, hlk, hkn⟩ := id C
  split at h
  · rename_i q
    have key := k h p e s m args below meth c0 C H locs ls hl hH hS
    by_cases ha : a = 0
    · subst ha
      exact lv_castN hx hb hd key
    · have hka : x.kd a = 10 + c := by omega
      rw [G.rv_ne ha] at key ⊢
      exact va_castS hx hb ho (hts _ hw) (hkn.1.1 c r hr).2 (hH.recv hkn.1 hr hka) hd key
  · cases h
theorem GC.gets {i : Nat} (hw : Cond.fieldLink own i "java/util/ArrayList" "DEFAULTCAPACITY_EMPTY_ELEMENTDATA" "[Ljava/lang/Object;" ∈ gw) (hd : decode cc pc = .ok (.getstatic i, 3)) (k : GoC l G own mn cc nL rt fr lo n0 u0 rv x' (pc + 3) lv (G.rv 1 :: st) x) : GoC l G own mn cc nL rt fr lo n0 u0 rv x' pc lv st x := by
  intro p e s m args below meth c0 C H locs ls hl hH hS
  obtain ⟨hx, hb, hml, ho, hts, hrt, hlk, hkn⟩ := id C
  have key := k p e s m args below meth c0 C H locs ls hl hH hS
  exact va_gets hx hb hkn.2.1.1 hS ho (hts _ hw) (fun _ h => h) hd key
theorem GC.dup_x1 {v w : Value} (hd : decode cc pc = .ok (.dup_x1, 1)) (hc : v.category = 1) (hc2 : w.category = 1) (k : GoC l G own mn cc nL rt fr lo n0 u0 rv x' (pc + 1) lv (v :: w :: v :: st) x) : GoC l G own mn cc nL rt fr lo n0 u0 rv x' pc lv (v :: w :: st) x := by
  intro p e s m args below meth c0 C H locs ls hl hH hS
  obtain ⟨hx, hb, hml, ho, hts, hrt, hlk, hkn⟩ := id C
  exact lv_dup_x1 hx hb hd hc hc2 (k p e s m args below meth c0 C H locs ls hl hH hS)
theorem GC.iushr {a b : Int32} (hd : decode cc pc = .ok (.iushr, 1)) (k : GoC l G own mn cc nL rt fr lo n0 u0 rv x' (pc + 1) lv (.int ((a.toUInt32 >>> (b.toUInt32 &&& Int32.toUInt32 31)).toInt32) :: st) x) : GoC l G own mn cc nL rt fr lo n0 u0 rv x' pc lv (.int b :: .int a :: st) x := by
  intro p e s m args below meth c0 C H locs ls hl hH hS
  obtain ⟨hx, hb, hml, ho, hts, hrt, hlk, hkn⟩ := id C
  exact lv_iushr hx hb hd rfl (k p e s m args below meth c0 C H locs ls hl hH hS)
theorem GC.aret {a : Nat} {t : FieldType} (hd : decode cc pc = .ok (.areturn, 1)) (hrt1 : rt = some t) (ht : (∃ n, t = .object n) ∨ ∃ q, t = .array q) : GoC l G own mn cc nL rt fr lo n0 u0 (some (G.rv a)) x pc lv [G.rv a] x := by
  intro p e s m args below meth c0 C H locs ls hl hH hS
  obtain ⟨hx, hb, hml, ho, hts, hrt, hlk, hkn⟩ := id C
  subst hrt1
  refine W.withX fun T hT X => ?_
  obtain ⟨q1, q2, q3, q4⟩ := c_room hT X hkn.2.2.1 hH
  have g4 : x.nx ≤ NXc := hH.1.2.2.2.1
  have g5 : x.us ≤ UXc := hH.1.2.2.2.2
  refine W.widen (k := NXc - n0) (n := UXc - u0) (by omega) (by omega) ?_
  exact W.aret hx hb hrt ht (by unfold Gt.rv; split; exact Or.inl rfl; exact Or.inr ⟨_, rfl⟩) (fun t ht hW => ⟨rfl, by rw [ht]; exact hH, hS.F ht⟩) hS.2.2 hd

def cpI (x : Hp) (a : Nat) (sp : Int32) (b : Nat) (dp n : Int32) : Option Hp := if x.kd a = 1 ∧ x.kd b = 1 ∧ ¬ sp < 0 ∧ ¬ dp < 0 ∧ ¬ n < 0 ∧ sp.toNatClampNeg + n.toNatClampNeg ≤ x.ln a ∧ dp.toNatClampNeg + n.toNatClampNeg ≤ x.ln b then some (mkH x.kd x.ln x.fi x.fr (upr x.ar b (va_cpy (x.ar a) (x.ar b) sp.toNatClampNeg dp.toNatClampNeg n.toNatClampNeg)) x.rr x.nx x.us) else none
def cpR (x : Hp) (a : Nat) (sp : Int32) (b : Nat) (dp n : Int32) : Option Hp := if x.kd a = 3 ∧ x.kd b = 3 ∧ ¬ sp < 0 ∧ ¬ dp < 0 ∧ ¬ n < 0 ∧ sp.toNatClampNeg + n.toNatClampNeg ≤ x.ln a ∧ dp.toNatClampNeg + n.toNatClampNeg ≤ x.ln b then some (mkH x.kd x.ln x.fi x.fr x.ar (upr x.rr b (va_cpy (x.rr a) (x.rr b) sp.toNatClampNeg dp.toNatClampNeg n.toNatClampNeg)) x.nx x.us) else none
theorem GC.copyI {a b i : Nat} {sp dp n : Int32} {K : Hp → Option Y} (hw : Cond.methodLink own i arraycopyName ∈ gw) (hnat : Cond.native arraycopyName ∈ gw) (hstat : Cond.static arraycopyName ∈ gw) (hini : Cond.initialized "java/lang/System" ∈ gw) (hd : decode cc pc = .ok (.invokestatic i, 3)) (hf : 1 ≤ fr) (hcr : cat1 st) (hlo : st.length + (nativeFrameWords "java/lang/System" "arraycopy" 5 + 11) ≤ lo)
    (h : (cpI x a sp b dp n).bind K = some Z) (k : ∀ x1, K x1 = some Z → GoC l G own mn cc nL rt fr lo n0 u0 rv x' (pc + 3) lv st x1) : GoC l G own mn cc nL rt fr lo n0 u0 rv x' pc lv (.int n :: .int dp :: G.rv b :: .int sp :: G.rv a :: st) x := by
  intro p e s m args below meth c0 C H locs ls hl hH hS
  obtain ⟨hx, hb, hml, ho, hts, hrt, hlk, hkn⟩ := id C
  unfold cpI at h
  split at h
  · rename_i q
    obtain ⟨ka, kb, h1, h2, h3, h4, h5⟩ := q
    have a0 : x.kd a ≠ 0 := by omega
    have b0 : x.kd b ≠ 0 := by omega
    have hca := (hH.2.2.2.2.2.2 a a0).1 ka
    have hcb := (hH.2.2.2.2.2.2 b b0).1 kb
    have nn : ∀ z : Int32, ¬ z < 0 → z.toInt = (z.toNatClampNeg : Int) := by
      intro z hz
      have hz0 : (0 : Int) ≤ z.toInt := by
        have := Int32.not_lt.mp hz
        simpa using Int32.le_iff_toInt_le.mp this
      show z.toInt = ((z.toInt.toNat : Nat) : Int)
      omega
    rw [G.rv_ne (hH.2.2.1 a a0).1, G.rv_ne (hH.2.2.1 b b0).1]
    intro T hT X
    obtain ⟨-, k0, hk0, cm0, hkk0⟩ := hkn.1.2.1.1 (x.ln a) (fun j => .int (x.ar a j))
    obtain ⟨-, k1, hk1, cm1, hkk1⟩ := hkn.1.2.1.1 (x.ln b) (fun j => .int (x.ar b j))
    obtain ⟨vm', X', step⟩ := X.arraycopy hx ho (hts _ hw) (hts _ hnat) (hts _ hstat) (hts _ hini) (src := G.adr a) (dst := G.adr b) (cs := arrV (G.cA 1) (x.ln a) (fun j => .int (x.ar a j))) (cd := arrV (G.cA 1) (x.ln b) (fun j => .int (x.ar b j))) (srcPos := sp) (destPos := dp) (n := n) (by rw [hT]; exact hca) (by rw [hT]; exact hcb)
      (fun _ h => by cases h) (fun _ h => by cases h) (fun h => by cases h) (fun h => by cases h) hk0 hk1 hkk0 hkk1 rfl h1 h2 h3
      (by rw [nn sp h1, nn n h3, arrV_size]; omega)
      (by rw [nn dp h2, nn n h3, arrV_size]; omega)
      (fun vm₁ hal i hi => by
        have e : (arrV (G.cA 1) (x.ln a) (fun j => .int (x.ar a j))).slots.getD (sp.toNatClampNeg + i) .null = .int (x.ar a (sp.toNatClampNeg + i)) := by
          rw [Array.getD_eq_getD_getElem?, arrV_read _ _ (by omega)]
          rfl
        rw [e]
        exact ⟨rfl, trivial⟩)
      (g := F0 m pc ls (.int n :: .int dp :: .ref (G.adr b) :: .int sp :: .ref (G.adr a) :: st)) rfl (by rw [hml]; exact hl.1.1) (rest := st) rfl (by rw [hb]; exact hd) hf (by show 2 * 0 + _ + _ ≤ lo; rw [cat1_sum hcr]; omega)
    have e1 : copied (arrV (G.cA 1) (x.ln a) (fun j => .int (x.ar a j))) (arrV (G.cA 1) (x.ln b) (fun j => .int (x.ar b j))) sp dp n = arrV (G.cA 1) (x.ln b) (fun j => .int (va_cpy (x.ar a) (x.ar b) sp.toNatClampNeg dp.toNatClampNeg n.toNatClampNeg j)) := va_copied (fun z => .int z) _ _ (x.ar a) (x.ar b) h4
    rw [e1] at X' step
    have hlb : G.adr b < H.size := (Array.getElem?_eq_some_iff.mp hcb).1
    have hheap : ((T.setVm vm').setCell (G.adr b) (arrV (G.cA 1) (x.ln b) (fun j => .int (va_cpy (x.ar a) (x.ar b) sp.toNatClampNeg dp.toNatClampNeg n.toNatClampNeg j)))).heap = H.setIfInBounds (G.adr b) (arrV (G.cA 1) (x.ln b) (fun j => .int (va_cpy (x.ar a) (x.ar b) sp.toNatClampNeg dp.toNatClampNeg n.toNatClampNeg j))) := by rw [← hT]; rfl
    generalize hcell : arrV (G.cA 1) (x.ln b) (fun j => .int (va_cpy (x.ar a) (x.ar b) sp.toNatClampNeg dp.toNatClampNeg n.toNatClampNeg j)) = cell1 at X' step hheap
    have oq : ∀ q : Nat, q ≠ G.adr b → (H.setIfInBounds (G.adr b) cell1)[q]? = H[q]? := fun q hq => by simp [Array.getElem?_setIfInBounds, Ne.symm hq]
    have eb : (H.setIfInBounds (G.adr b) cell1)[G.adr b]? = some cell1 := by simp [Array.getElem?_setIfInBounds, hlb]
    have hA := hH.own b0 (by omega)
    have ecell : ∀ (f1 : Nat → Int32), f1 = va_cpy (x.ar a) (x.ar b) sp.toNatClampNeg dp.toNatClampNeg n.toNatClampNeg → (H.setIfInBounds (G.adr b) cell1)[G.adr b]? = some (arrV (G.cA 1) (x.ln b) (fun j => .int (f1 j))) := by
      intro f1 hf1
      rw [eb, hf1, hcell]
    have hH1 : HC G (mkH x.kd x.ln x.fi x.fr (upr x.ar b (va_cpy (x.ar a) (x.ar b) sp.toNatClampNeg dp.toNatClampNeg n.toNatClampNeg)) x.rr x.nx x.us) (H.setIfInBounds (G.adr b) cell1) := by
      refine hH.upd b0 rfl rfl rfl rfl (fun q hq => ⟨fun _ => rfl, fun _ => rfl, ?_, ?_⟩) ?_ hcb eb (by rw [← hcell, arrV_size, arrV_size]) (by simp) oq ?_
      · first | rfl | (show upr _ _ _ q = _; simp [upr, hq])
      · first | rfl | (show upr _ _ _ q = _; simp [upr, hq])
      · intro h3; omega
      · refine ⟨fun h => ?_, fun h => ?_, fun h => ?_, fun c r h => ?_⟩
        · have h : x.kd b = 1 := h
          first | omega | exact ecell _ (by show upr _ _ _ b = _; simp [upr])
        · have h : x.kd b = 2 := h
          omega
        · have h : x.kd b = 3 := h
          first | omega | exact ecell _ (by show upr _ _ _ b = _; simp [upr])
        · have h : x.kd b = 10 + c := h
          omega
    obtain ⟨t, a1, b1⟩ := W.any (k _ h p e s m args below meth c0 C _ _ ls hl hH1 ⟨by simp; exact hS.1, fun q g1 g2 => by
        rw [oq q (fun e => g2 (by rw [e]; exact hA))]
        exact hS.2.1 q g1 g2, fun q hq => by
        rcases List.mem_append.mp hq with h | h
        · exact hS.2.2 q h
        · obtain ⟨z, -, hz⟩ := List.mem_map.mp h
          rw [← hz]
          exact hA⟩) _ hheap X'
    exact ⟨t, step t a1, b1⟩
  · cases h
theorem GC.copyR {a b i : Nat} {sp dp n : Int32} {K : Hp → Option Y} (hw : Cond.methodLink own i arraycopyName ∈ gw) (hnat : Cond.native arraycopyName ∈ gw) (hstat : Cond.static arraycopyName ∈ gw) (hini : Cond.initialized "java/lang/System" ∈ gw) (hd : decode cc pc = .ok (.invokestatic i, 3)) (hf : 1 ≤ fr) (hcr : cat1 st) (hlo : st.length + (nativeFrameWords "java/lang/System" "arraycopy" 5 + 11) ≤ lo)
    (h : (cpR x a sp b dp n).bind K = some Z) (k : ∀ x1, K x1 = some Z → GoC l G own mn cc nL rt fr lo n0 u0 rv x' (pc + 3) lv st x1) : GoC l G own mn cc nL rt fr lo n0 u0 rv x' pc lv (.int n :: .int dp :: G.rv b :: .int sp :: G.rv a :: st) x := by
  intro p e s m args below meth c0 C H locs ls hl hH hS
  obtain ⟨hx, hb, hml, ho, hts, hrt, hlk, hkn⟩ := id C
  unfold cpR at h
  split at h
  · rename_i q
    obtain ⟨ka, kb, h1, h2, h3, h4, h5⟩ := q
    have a0 : x.kd a ≠ 0 := by omega
    have b0 : x.kd b ≠ 0 := by omega
    have hca := (hH.2.2.2.2.2.2 a a0).2.2.1 ka
    have hcb := (hH.2.2.2.2.2.2 b b0).2.2.1 kb
    have nn : ∀ z : Int32, ¬ z < 0 → z.toInt = (z.toNatClampNeg : Int) := by
      intro z hz
      have hz0 : (0 : Int) ≤ z.toInt := by
        have := Int32.not_lt.mp hz
        simpa using Int32.le_iff_toInt_le.mp this
      show z.toInt = ((z.toInt.toNat : Nat) : Int)
      omega
    rw [G.rv_ne (hH.2.2.1 a a0).1, G.rv_ne (hH.2.2.1 b b0).1]
    intro T hT X
    obtain ⟨-, k0, hk0, cm0, hkk0⟩ := hkn.1.2.2.2.1 (x.ln a) (fun j => G.rv (x.rr a j))
    obtain ⟨-, k1, hk1, cm1, hkk1⟩ := hkn.1.2.2.2.1 (x.ln b) (fun j => G.rv (x.rr b j))
    obtain ⟨vm', X', step⟩ := X.arraycopy hx ho (hts _ hw) (hts _ hnat) (hts _ hstat) (hts _ hini) (src := G.adr a) (dst := G.adr b) (cs := arrV (G.cA 3) (x.ln a) (fun j => G.rv (x.rr a j))) (cd := arrV (G.cA 3) (x.ln b) (fun j => G.rv (x.rr b j))) (srcPos := sp) (destPos := dp) (n := n) (by rw [hT]; exact hca) (by rw [hT]; exact hcb)
      (fun _ h => by cases h) (fun _ h => by cases h) (fun h => by cases h) (fun h => by cases h) hk0 hk1 hkk0 hkk1 rfl h1 h2 h3
      (by rw [nn sp h1, nn n h3, arrV_size]; omega)
      (by rw [nn dp h2, nn n h3, arrV_size]; omega)
      (fun vm₁ hal i hi => by
        have e : (arrV (G.cA 3) (x.ln a) (fun j => G.rv (x.rr a j))).slots.getD (sp.toNatClampNeg + i) .null = G.rv (x.rr a (sp.toNatClampNeg + i)) := by
          rw [Array.getD_eq_getD_getElem?, arrV_read _ _ (by omega)]
          rfl
        rw [e]
        have hin : sp.toNatClampNeg + i < x.ln a := by omega
        have hok := hH.2.2.2.2.2.1 a ka _ hin
        by_cases hv : x.rr a (sp.toNatClampNeg + i) = 0
        · rw [hv]
          exact ⟨rfl, trivial⟩
        · have hvk : ∃ (cv : Nat) (r : vw_C), clsC[cv]? = some r ∧ x.kd (x.rr a (sp.toNatClampNeg + i)) = 10 + cv ∧ va_Nw (.castable r.1 "java/lang/Object") s := by
            rcases hok with q3 | q3 | q3
            · exact absurd q3 hv
            · exact ⟨3, _, rfl, q3, hkn.2.1.2.2.2.2.2.1.1⟩
            · exact ⟨7, _, rfl, q3, hkn.2.1.2.2.2.2.2.1.2.1⟩
          obtain ⟨cv, r, hr, hkv, hcw⟩ := hvk
          obtain ⟨cellV, g1, g2, g3⟩ := hH.recv hkn.1 hr hkv
          obtain ⟨kA, comp, r1, r2, r3, -⟩ := hkn.1.2.2.2.2
          cases hk1.symm.trans r1
          cases hkk1.symm.trans r2
          obtain ⟨kC, hkC, -⟩ := Vm.findClass_spec g3
          obtain ⟨kE, hkE, -⟩ := Vm.findClass_spec r3
          obtain ⟨kC', hkC', -⟩ := hal.2.2 _ _ hkC
          obtain ⟨kE', hkE', -⟩ := hal.2.2 _ _ hkE
          have hcls : cellV.cls = G.D.1 cv := Option.some.inj (g3.symm.trans (hkn.1.1 cv r hr).2.1)
          rw [G.rv_ne hv]
          refine ⟨rfl, cellV, (show T.heap[_]? = some cellV by rw [hT]; exact g1), (fun q h => by rw [h] at g2; cases g2), ⟨kC', hkC'⟩, ?_, ?_⟩
          · exact ⟨kE', hkE'⟩
          · show vm₁.assignable _ _ = true
            rw [hal.assignable, hcls]
            exact c_assign hkn.1 hr hcw r3)
      (g := F0 m pc ls (.int n :: .int dp :: .ref (G.adr b) :: .int sp :: .ref (G.adr a) :: st)) rfl (by rw [hml]; exact hl.1.1) (rest := st) rfl (by rw [hb]; exact hd) hf (by show 2 * 0 + _ + _ ≤ lo; rw [cat1_sum hcr]; omega)
    have e1 : copied (arrV (G.cA 3) (x.ln a) (fun j => G.rv (x.rr a j))) (arrV (G.cA 3) (x.ln b) (fun j => G.rv (x.rr b j))) sp dp n = arrV (G.cA 3) (x.ln b) (fun j => G.rv (va_cpy (x.rr a) (x.rr b) sp.toNatClampNeg dp.toNatClampNeg n.toNatClampNeg j)) := va_copied (fun z => G.rv z) _ _ (x.rr a) (x.rr b) h4
    rw [e1] at X' step
    have hlb : G.adr b < H.size := (Array.getElem?_eq_some_iff.mp hcb).1
    have hheap : ((T.setVm vm').setCell (G.adr b) (arrV (G.cA 3) (x.ln b) (fun j => G.rv (va_cpy (x.rr a) (x.rr b) sp.toNatClampNeg dp.toNatClampNeg n.toNatClampNeg j)))).heap = H.setIfInBounds (G.adr b) (arrV (G.cA 3) (x.ln b) (fun j => G.rv (va_cpy (x.rr a) (x.rr b) sp.toNatClampNeg dp.toNatClampNeg n.toNatClampNeg j))) := by rw [← hT]; rfl
    generalize hcell : arrV (G.cA 3) (x.ln b) (fun j => G.rv (va_cpy (x.rr a) (x.rr b) sp.toNatClampNeg dp.toNatClampNeg n.toNatClampNeg j)) = cell1 at X' step hheap
    have oq : ∀ q : Nat, q ≠ G.adr b → (H.setIfInBounds (G.adr b) cell1)[q]? = H[q]? := fun q hq => by simp [Array.getElem?_setIfInBounds, Ne.symm hq]
    have eb : (H.setIfInBounds (G.adr b) cell1)[G.adr b]? = some cell1 := by simp [Array.getElem?_setIfInBounds, hlb]
    have hA := hH.own b0 (by omega)
    have ecell : ∀ (f1 : Nat → Nat), f1 = va_cpy (x.rr a) (x.rr b) sp.toNatClampNeg dp.toNatClampNeg n.toNatClampNeg → (H.setIfInBounds (G.adr b) cell1)[G.adr b]? = some (arrV (G.cA 3) (x.ln b) (fun j => G.rv (f1 j))) := by
      intro f1 hf1
      rw [eb, hf1, hcell]
    have hH1 : HC G (mkH x.kd x.ln x.fi x.fr x.ar (upr x.rr b (va_cpy (x.rr a) (x.rr b) sp.toNatClampNeg dp.toNatClampNeg n.toNatClampNeg)) x.nx x.us) (H.setIfInBounds (G.adr b) cell1) := by
      refine hH.upd b0 rfl rfl rfl rfl (fun q hq => ⟨fun _ => rfl, fun _ => rfl, ?_, ?_⟩) ?_ hcb eb (by rw [← hcell, arrV_size, arrV_size]) (by simp) oq ?_
      · first | rfl | (show upr _ _ _ q = _; simp [upr, hq])
      · first | rfl | (show upr _ _ _ q = _; simp [upr, hq])
      · intro h3 j hj
        show okE x (upr x.rr b _ b j)
        have e : upr x.rr b (va_cpy (x.rr a) (x.rr b) sp.toNatClampNeg dp.toNatClampNeg n.toNatClampNeg) b j = va_cpy (x.rr a) (x.rr b) sp.toNatClampNeg dp.toNatClampNeg n.toNatClampNeg j := by simp [upr]
        rw [e]
        unfold va_cpy
        split
        · exact hH.2.2.2.2.2.1 a ka _ (by omega)
        · exact hH.2.2.2.2.2.1 b kb _ hj
      · refine ⟨fun h => ?_, fun h => ?_, fun h => ?_, fun c r h => ?_⟩
        · have h : x.kd b = 1 := h
          first | omega | exact ecell _ (by show upr _ _ _ b = _; simp [upr])
        · have h : x.kd b = 2 := h
          omega
        · have h : x.kd b = 3 := h
          first | omega | exact ecell _ (by show upr _ _ _ b = _; simp [upr])
        · have h : x.kd b = 10 + c := h
          omega
    obtain ⟨t, a1, b1⟩ := W.any (k _ h p e s m args below meth c0 C _ _ ls hl hH1 ⟨by simp; exact hS.1, fun q g1 g2 => by
        rw [oq q (fun e => g2 (by rw [e]; exact hA))]
        exact hS.2.1 q g1 g2, fun q hq => by
        rcases List.mem_append.mp hq with h | h
        · exact hS.2.2 q h
        · obtain ⟨z, -, hz⟩ := List.mem_map.mp h
          rw [← hz]
          exact hA⟩) _ hheap X'
    exact ⟨t, step t a1, b1⟩
  · cases h
end GC3
