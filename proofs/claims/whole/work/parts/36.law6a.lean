def GoZ (p : Program) (e : Env) (s : State) (m : MethodId) (args : Array Value) (below : List Frame) (meth : Method) (c0 : Code) (l : Launch) (G : Gt) (own mn : String) (cc : ByteArray) (nL : Nat) (rt : Option FieldType) (fr lo n0 u0 : Nat) (Qf : State → Prop) (pc : Nat) (lv : List (Nat × Value)) (st : List Value) (x : Hp) : Prop :=
  CxC G own mn cc nL rt n0 u0 p s m args meth c0 → ∀ (H : Heap) (locs : List Loc) (ls : Array Slot), lvh ls nL lv → HC G x H → va_S (AC G) s.heap H locs →
      W p l e (Rm fr lo (NXc - n0) (UXc - u0)) s m args below meth c0 H locs (H.size - s.heap.size) (ssum H s.heap.size) Qf (F0 m pc ls st)
section GQ
variable {p : Program} {e : Env} {s : State} {m : MethodId} {args : Array Value} {below : List Frame} {meth : Method} {c0 : Code}
variable {l : Launch} {G : Gt} {own mn : String} {cc : ByteArray} {nL : Nat} {rt : Option FieldType} {fr lo n0 u0 : Nat} {Qf : State → Prop} {pc : Nat} {lv lv' : List (Nat × Value)} {st rest : List Value} {x : Hp} {Y : Type} {Z : Y}
theorem GoZ.dup {v : Value} (hd : decode cc pc = .ok (.dup, 1)) (hc : v.category = 1) (k : GoZ p e s m args below meth c0 l G own mn cc nL rt fr lo n0 u0 Qf (pc + 1) lv (v :: v :: st) x) : GoZ p e s m args below meth c0 l G own mn cc nL rt fr lo n0 u0 Qf pc lv (v :: st) x := by
  intro C H locs ls hl hH hS
  obtain ⟨hx, hb, hml, ho, hts, hr, hk, hkn⟩ := id C
  exact lv_dup hx hb hd hc (k C H locs ls hl hH hS)
theorem GoZ.astore_n {f : Fin 4} {a : Nat} (lv2 : List (Nat × Value)) (hd : decode cc pc = .ok (.astore_n f, 1)) (hn : f.val < nL) (hl2 : lset lv f.val (G.rv a) = lv2) (k : GoZ p e s m args below meth c0 l G own mn cc nL rt fr lo n0 u0 Qf (pc + 1) lv2 st x) : GoZ p e s m args below meth c0 l G own mn cc nL rt fr lo n0 u0 Qf pc lv (G.rv a :: st) x := by
  intro C H locs ls hl hH hS
  obtain ⟨hx, hb, hml, ho, hts, hrt, hlk, hkn⟩ := id C
  subst hl2
  by_cases ha : a = 0
  · subst ha
    exact lv_astore_nN hx hb hd rfl hl.1 hn rfl (fun ls2 h2 => k C H locs ls2 (hl.set rfl h2) hH hS)
  · have e9 := G.rv_ne ha
    rw [e9] at k ⊢
    exact lv_astore_n hx hb hd rfl hl.1 hn rfl (fun ls2 h2 => k C H locs ls2 (hl.set rfl h2) hH hS)
theorem GoZ.new {K : Nat → Hp → Option Y} {i : Nat} (c : Nat) {r : vw_C} (hr : clsC[c]? = some r) (hcl : Cond.classLink own i r.1 ∈ gw) (hins : Cond.instantiable r.1 r.2.2 ∈ gw) (hini : Cond.initialized r.1 ∈ gw) (hd : decode cc pc = .ok (.new i, 3)) (h : bd2 (nwO x c r.2.2) K = some Z) (n : ∀ a x1, K a x1 = some Z → GoZ p e s m args below meth c0 l G own mn cc nL rt fr lo n0 u0 Qf (pc + 3) lv (G.rv a :: st) x1) : GoZ p e s m args below meth c0 l G own mn cc nL rt fr lo n0 u0 Qf pc lv st x := by
  intro C H locs ls hl hH hS
  obtain ⟨hx, hb, hml, ho, hts, hrt, hlk, hkn⟩ := id C
  unfold nwO at h
  split at h
  · rename_i q
    refine W.withX fun T hT X => ?_
    obtain ⟨q1, q2, q3, q4⟩ := c_room hT X hkn.2.2.1 hH
    have hnx := hH.1
    have hadr : G.adr x.nx = H.size := by rw [Gt.adr_own hnx.2.1]; exact hnx.1.symm
    refine W.newc hx hb ho (hts _ hcl) (hts _ hins) (hts _ hini) rfl hd (by show _ ≤ NXc - n0; omega) (by show _ ≤ UXc - u0; omega) fun cC kC f1 f2 f3 f4 => ?_
    have hKn := hkn.1.1 c r hr
    cases f1.symm.trans hKn.2.1
    have hsz : (Array.map defaultValue kC.instanceTypes).size = r.2.2 := by rw [Array.size_map]; exact f4
    refine W.any ?_
    have key := n _ _ h C (H.push (blank (G.D.1 c) kC)) locs ls hl ?_ ?_
    · rw [G.rv_ne (by omega), hadr] at key
      exact key
    · refine hH.new (cell := blank (G.D.1 c) kC) (fun b hb => ?_) ⟨?_, ?_⟩ rfl q.1 ?_ ?_ (fun b hb => ⟨rfl, fun id => ?_, fun id => ?_, rfl, rfl⟩) (fun h3 => ?_) ?_
      · show upr x.kd x.nx (10 + c) b = x.kd b
        simp [upr, hb]
      · show upr x.kd x.nx (10 + c) x.nx ≠ 0
        simp [upr]
      · show upr x.kd x.nx (10 + c) x.nx ≠ 5
        simp [upr]; omega
      · show x.us + r.2.2 = x.us + (Array.map defaultValue kC.instanceTypes).size
        rw [hsz]
      · show x.us + (Array.map defaultValue kC.instanceTypes).size ≤ UXc
        rw [hsz]; exact q.2
      · show (if b = x.nx then 0 else x.fi id b) = _
        rw [if_neg hb]
      · show (if b = x.nx then 0 else x.fr id b) = _
        rw [if_neg hb]
      · have : upr x.kd x.nx (10 + c) x.nx = 3 := h3
        simp [upr] at this; omega
      · have hkd : upr x.kd x.nx (10 + c) x.nx = 10 + c := by simp [upr]
        refine ⟨fun h => ?_, fun h => ?_, fun h => ?_, fun c2 r2 h2 hr2 => ?_⟩
        · have h : upr x.kd x.nx (10 + c) x.nx = 1 := h
          omega
        · have h : upr x.kd x.nx (10 + c) x.nx = 2 := h
          omega
        · have h : upr x.kd x.nx (10 + c) x.nx = 3 := h
          omega
        · have h2 : upr x.kd x.nx (10 + c) x.nx = 10 + c2 := h2
          have e2 : c2 = c := by omega
          subst e2
          cases hr2.symm.trans hr
          rw [hadr]
          refine (u_born (c_ty c2) hts (c_in c2 _ hr) hKn f2 (by rw [Array.getElem?_push_size]) (c_ty_ok c2 _ hr)).to (fun k hk => ?_)
          obtain ⟨m1, m2⟩ := c_nf_ok c2 _ hr
          rw [c_def c2 m1 k (by rw [← m2]; exact hk)]
          unfold fvC
          show _ = (if _ then G.rv (if x.nx = x.nx then 0 else _) else .int (if x.nx = x.nx then 0 else _))
          rw [if_pos rfl, if_pos rfl]
          rfl
    · exact ⟨by rw [Array.size_push]; have := hS.1; omega, fun q h1 h2 => by rw [Array.getElem?_push_lt (Nat.lt_of_lt_of_le h1 hS.1), ← Array.getElem?_eq_getElem]; exact hS.2.1 q h1 h2, hS.2.2⟩
  · cases h
theorem GoZ.run {H : Heap} {locs : List Loc} {cells slots mc ms : Nat} {ls : Array Slot} {a : Array Value} {rv1 : Option Value} {x1 : Hp}
    (C : CxC G own mn cc nL rt n0 u0 p s m args meth c0) (hl : lvh ls nL lv) (hS : va_S (AC G) s.heap H locs)
    (hrun : va_Run p l e (Rm fr lo (NXc - n0) (UXc - u0)) s m args below meth c0 H locs cells slots mc ms (F0 m pc ls st) rest (QC G rv1 x1 a) (AC G))
    (k : GoZ p e s m args below meth c0 l G own mn cc nL rt fr lo n0 u0 Qf (pc + 3) lv (rv1.toList ++ rest) x1) :
    W p l e (Rm fr lo (NXc - n0) (UXc - u0)) s m args below meth c0 H locs cells slots Qf (F0 m pc ls st) := by
  intro T hT Xs
  obtain ⟨v, st₀, t, T', L, h0, X', hL, e1, e2, ⟨hv, hH1, hz, hkp⟩, stp⟩ := hrun T hT Xs
  cases hv
  rw [h0] at hz hkp
  have hS1 : va_S (AC G) s.heap T'.heap (locs ++ L) := by
    refine ⟨Nat.le_trans hS.1 (by rw [e1]; exact hz), fun q h1 h2 => ?_, fun q hq => ?_⟩
    · rw [e1, hkp q (Nat.lt_of_lt_of_le h1 hS.1) h2]
      exact hS.2.1 q h1 h2
    · rcases List.mem_append.mp hq with h | h
      · exact hS.2.2 q h
      · exact hL q h
  obtain ⟨t2, a1, b1⟩ := W.any (k C T'.heap (locs ++ L) ls hl (by rw [e1]; exact hH1) hS1) T' rfl X'
  exact ⟨t2, stp t2 a1, b1⟩
theorem GoZ.calli {i n : Nat} {y : MethodName} {bytes : ByteArray} {maxL fr1 lo1 : Nat} {rv1 : Option Value} {x1 : Hp} {b : Nat} (hb0 : b ≠ 0) (As : List Value) (hd : decode cc pc = .ok (.invokespecial i, 3)) (hK : Ks own i y bytes maxL none n) (hy1 : y.name = "<init>") (hin : Cond.instanceMethod y ∈ gw) (hM : MtC l G y bytes maxL none fr1 lo1 (G.rv b :: As) x rv1 x1)
    (hs : st = As.reverse ++ G.rv b :: rest) (hn : As.length = n) (hf : fr1 + 1 ≤ fr) (hlo : 8 + (maxL + 11) + lo1 ≤ lo) (hc : cat1 rest) (hc8 : rest.length ≤ 8)
    (k : GoZ p e s m args below meth c0 l G own mn cc nL rt fr lo n0 u0 Qf (pc + 3) lv (rv1.toList ++ rest) x1) : GoZ p e s m args below meth c0 l G own mn cc nL rt fr lo n0 u0 Qf pc lv st x := by
  intro C H locs ls hl hH hS
  obtain ⟨hx, hb, hml, ho, hts, hrt, hlk, hkn⟩ := id C
  refine W.withX fun T hT X => ?_
  obtain ⟨q1, q2, q3, q4⟩ := c_room hT X hkn.2.2.1 hH
  have g4 : x.nx ≤ NXc := hH.1.2.2.2.1
  have g5 : x.us ≤ UXc := hH.1.2.2.2.2
  rw [G.rv_ne hb0] at hM hs
  refine GoZ.run (mc := NXc - x.nx) (ms := UXc - x.us) C hl hS (a := (Value.ref (G.adr b) :: As).toArray) (rest := rest) ?_ k
  exact va_runI (Ts := gw) (As := As) (rest := rest) ⟨hx, hb, hml, ho, hts⟩ hM ⟨cb_of hts hK.1 hK.2.1 hK.2.2.1 hK.2.2.2 ⟨hf, hlo⟩, hy1, hts _ hin⟩ ⟨pcC_blind, fun U hU hW => pcC_at hH hkn.1 hkn.2.1 hS hU hW⟩ rfl hn hl.1.1 hs (lv_room (by rw [cat1_sum hc]; exact hc8)) hd ⟨by show _ ≤ NXc - n0; omega, by show _ ≤ UXc - u0; omega⟩
end GQ
