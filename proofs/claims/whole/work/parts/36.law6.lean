def GoQ (p : Program) (e : Env) (s : State) (m : MethodId) (args : Array Value) (below : List Frame) (meth : Method) (c0 : Code) (l : Launch) (G : Gt) (own mn : String) (cc : ByteArray) (nL : Nat) (rt : Option FieldType) (fr lo n0 u0 : Nat) (Qf : State → Prop) (pc : Nat) (lv : List (Nat × Value)) (st : List Value) (x : Hp) : Prop :=
  CxC G own mn cc nL rt n0 u0 p s m args meth c0 → ∀ (H : Heap) (locs : List Loc) (ls : Array Slot), lvh ls nL lv → HC G x H → va_S (AC G) s.heap H locs →
      W p l e (Rm fr lo (NXc - n0) (UXc - u0)) s m args below meth c0 H locs (H.size - s.heap.size) (ssum H s.heap.size) Qf (F0 m pc ls st)
section GQ
variable {p : Program} {e : Env} {s : State} {m : MethodId} {args : Array Value} {below : List Frame} {meth : Method} {c0 : Code}
variable {l : Launch} {G : Gt} {own mn : String} {cc : ByteArray} {nL : Nat} {rt : Option FieldType} {fr lo n0 u0 : Nat} {Qf : State → Prop} {pc : Nat} {lv lv' : List (Nat × Value)} {st rest : List Value} {x : Hp} {Y : Type} {Z : Y}
theorem GoQ.dup {v : Value} (hd : decode cc pc = .ok (.dup, 1)) (hc : v.category = 1) (k : GoQ p e s m args below meth c0 l G own mn cc nL rt fr lo n0 u0 Qf (pc + 1) lv (v :: v :: st) x) : GoQ p e s m args below meth c0 l G own mn cc nL rt fr lo n0 u0 Qf pc lv (v :: st) x := by
  intro C H locs ls hl hH hS
  obtain ⟨hx, hb, hml, ho, hts, hr, hk, hkn⟩ := id C
  exact lv_dup hx hb hd hc (k C H locs ls hl hH hS)
theorem GoQ.astore_n {f : Fin 4} {a : Nat} (lv2 : List (Nat × Value)) (hd : decode cc pc = .ok (.astore_n f, 1)) (hn : f.val < nL) (hl2 : lset lv f.val (G.rv a) = lv2) (k : GoQ p e s m args below meth c0 l G own mn cc nL rt fr lo n0 u0 Qf (pc + 1) lv2 st x) : GoQ p e s m args below meth c0 l G own mn cc nL rt fr lo n0 u0 Qf pc lv (G.rv a :: st) x := by
  intro C H locs ls hl hH hS
  obtain ⟨hx, hb, hml, ho, hts, hrt, hlk, hkn⟩ := id C
  subst hl2
  by_cases ha : a = 0
  · subst ha
    exact lv_astore_nN hx hb hd rfl hl.1 hn rfl (fun ls2 h2 => k C H locs ls2 (hl.set rfl h2) hH hS)
  · have e9 := G.rv_ne ha
    rw [e9] at k ⊢
    exact lv_astore_n hx hb hd rfl hl.1 hn rfl (fun ls2 h2 => k C H locs ls2 (hl.set rfl h2) hH hS)
theorem GoQ.new {K : Nat → Hp → Option Y} {i : Nat} (c : Nat) {r : vw_C} (hr : clsC[c]? = some r) (hcl : Cond.classLink own i r.1 ∈ gw) (hins : Cond.instantiable r.1 r.2.2 ∈ gw) (hini : Cond.initialized r.1 ∈ gw) (hd : decode cc pc = .ok (.new i, 3)) (h : bd2 (nwO x c r.2.2) K = some Z) (n : ∀ a x1, K a x1 = some Z → GoQ p e s m args below meth c0 l G own mn cc nL rt fr lo n0 u0 Qf (pc + 3) lv (G.rv a :: st) x1) : GoQ p e s m args below meth c0 l G own mn cc nL rt fr lo n0 u0 Qf pc lv st x := by
  intro C H locs ls hl hH hS
  obtain ⟨hx, hb, hml, ho, hts, hrt, hlk, hkn⟩ := id C
  unfold nwO at h
  split at h
  · rename_i q
    refine W.withX fun T hT X => ?_
    obtain ⟨q1, q2, q3, q4⟩ := c_room hT X hkn.2.2.1 hH
    have hnx := hH.1
    have hadr : G.adr x.nx = H.size := by rw [Gt.adr_own hnx.2.1]; exact hnx.1.symm
    refine W.newc hx hb ho (hts _ hcl) (hts _ hins) (hts _ hini) rfl hd (by show _ ≤ NXc - n0; omega) (by show _ ≤ UXc - u0; omega) fun cC kC f1 f2 f3 f4 => ?_
    have hKn := hkn.1.1 c r hr
    cases f1.symm.trans hKn.2.1
    have hsz : (Array.map defaultValue kC.instanceTypes).size = r.2.2 := by rw [Array.size_map]; exact f4
    refine W.any ?_
    have key := n _ _ h C (H.push (blank (G.D.1 c) kC)) locs ls hl ?_ ?_
    · rw [G.rv_ne (by omega), hadr] at key
      exact key
    · refine hH.new (cell := blank (G.D.1 c) kC) (fun b hb => ?_) ⟨?_, ?_⟩ rfl q.1 ?_ ?_ (fun b hb => ⟨rfl, fun id => ?_, fun id => ?_, rfl, rfl⟩) (fun h3 => ?_) ?_
      · show upr x.kd x.nx (10 + c) b = x.kd b
        simp [upr, hb]
      · show upr x.kd x.nx (10 + c) x.nx ≠ 0
        simp [upr]
      · show upr x.kd x.nx (10 + c) x.nx ≠ 5
        simp [upr]; omega
      · show x.us + r.2.2 = x.us + (Array.map defaultValue kC.instanceTypes).size
        rw [hsz]
      · show x.us + (Array.map defaultValue kC.instanceTypes).size ≤ UXc
        rw [hsz]; exact q.2
      · show (if b = x.nx then 0 else x.fi id b) = _
        rw [if_neg hb]
      · show (if b = x.nx then 0 else x.fr id b) = _
        rw [if_neg hb]
      · have : upr x.kd x.nx (10 + c) x.nx = 3 := h3
        simp [upr] at this; omega
      · have hkd : upr x.kd x.nx (10 + c) x.nx = 10 + c := by simp [upr]
        refine ⟨fun h => ?_, fun h => ?_, fun h => ?_, fun c2 r2 h2 hr2 => ?_⟩
        · have h : upr x.kd x.nx (10 + c) x.nx = 1 := h
          omega
        · have h : upr x.kd x.nx (10 + c) x.nx = 2 := h
          omega
        · have h : upr x.kd x.nx (10 + c) x.nx = 3 := h
          omega
        · have h2 : upr x.kd x.nx (10 + c) x.nx = 10 + c2 := h2
          have e2 : c2 = c := by omega
          subst e2
          cases hr2.symm.trans hr
          rw [hadr]
          refine (u_born (c_ty c2) hts (c_in c2 _ hr) hKn f2 (by rw [Array.getElem?_push_size]) (c_ty_ok c2 _ hr)).to (fun k hk => ?_)
          obtain ⟨m1, m2⟩ := c_nf_ok c2 _ hr
          rw [c_def c2 m1 k (by rw [← m2]; exact hk)]
          unfold fvC
          show _ = (if _ then G.rv (if x.nx = x.nx then 0 else _) else .int (if x.nx = x.nx then 0 else _))
          rw [if_pos rfl, if_pos rfl]
          rfl
    · exact ⟨by rw [Array.size_push]; have := hS.1; omega, fun q h1 h2 => by rw [Array.getElem?_push_lt (Nat.lt_of_lt_of_le h1 hS.1), ← Array.getElem?_eq_getElem]; exact hS.2.1 q h1 h2, hS.2.2⟩
  · cases h
theorem GoQ.run {H : Heap} {locs : List Loc} {cells slots mc ms : Nat} {ls : Array Slot} {a : Array Value} {rv1 : Option Value} {x1 : Hp}
    (C : CxC G own mn cc nL rt n0 u0 p s m args meth c0) (hl : lvh ls nL lv) (hS : va_S (AC G) s.heap H locs)
    (hrun : va_Run p l e (Rm fr lo (NXc - n0) (UXc - u0)) s m args below meth c0 H locs cells slots mc ms (F0 m pc ls st) rest (QC G rv1 x1 a) (AC G))
    (k : GoQ p e s m args below meth c0 l G own mn cc nL rt fr lo n0 u0 Qf (pc + 3) lv (rv1.toList ++ rest) x1) :
    W p l e (Rm fr lo (NXc - n0) (UXc - u0)) s m args below meth c0 H locs cells slots Qf (F0 m pc ls st) := by
  intro T hT Xs
  obtain ⟨v, st₀, t, T', L, h0, X', hL, e1, e2, ⟨hv, hH1, hz, hkp⟩, stp⟩ := hrun T hT Xs
  cases hv
  rw [h0] at hz hkp
  have hS1 : va_S (AC G) s.heap T'.heap (locs ++ L) := by
    refine ⟨Nat.le_trans hS.1 (by rw [e1]; exact hz), fun q h1 h2 => ?_, fun q hq => ?_⟩
    · rw [e1, hkp q (Nat.lt_of_lt_of_le h1 hS.1) h2]
      exact hS.2.1 q h1 h2
    · rcases List.mem_append.mp hq with h | h
      · exact hS.2.2 q h
      · exact hL q h
  obtain ⟨t2, a1, b1⟩ := W.any (k C T'.heap (locs ++ L) ls hl (by rw [e1]; exact hH1) hS1) T' rfl X'
  exact ⟨t2, stp t2 a1, b1⟩
theorem GoQ.calli {i n : Nat} {y : MethodName} {bytes : ByteArray} {maxL fr1 lo1 : Nat} {rv1 : Option Value} {x1 : Hp} {b : Nat} (hb0 : b ≠ 0) (As : List Value) (hd : decode cc pc = .ok (.invokespecial i, 3)) (hK : Ks own i y bytes maxL none n) (hy1 : y.name = "<init>") (hin : Cond.instanceMethod y ∈ gw) (hM : MtC l G y bytes maxL none fr1 lo1 (G.rv b :: As) x rv1 x1)
    (hs : st = As.reverse ++ G.rv b :: rest) (hn : As.length = n) (hf : fr1 + 1 ≤ fr) (hlo : 8 + (maxL + 11) + lo1 ≤ lo) (hc : cat1 rest) (hc8 : rest.length ≤ 8)
    (k : GoQ p e s m args below meth c0 l G own mn cc nL rt fr lo n0 u0 Qf (pc + 3) lv (rv1.toList ++ rest) x1) : GoQ p e s m args below meth c0 l G own mn cc nL rt fr lo n0 u0 Qf pc lv st x := by
  intro C H locs ls hl hH hS
  obtain ⟨hx, hb, hml, ho, hts, hrt, hlk, hkn⟩ := id C
  refine W.withX fun T hT X => ?_
  obtain ⟨q1, q2, q3, q4⟩ := c_room hT X hkn.2.2.1 hH
  have g4 : x.nx ≤ NXc := hH.1.2.2.2.1
  have g5 : x.us ≤ UXc := hH.1.2.2.2.2
  rw [G.rv_ne hb0] at hM hs
  refine GoQ.run (mc := NXc - x.nx) (ms := UXc - x.us) C hl hS (a := (Value.ref (G.adr b) :: As).toArray) (rest := rest) ?_ k
  exact va_runI (Ts := gw) (As := As) (rest := rest) ⟨hx, hb, hml, ho, hts⟩ hM ⟨cb_of hts hK.1 hK.2.1 hK.2.2.1 hK.2.2.2 ⟨hf, hlo⟩, hy1, hts _ hin⟩ ⟨pcC_blind, fun U hU hW => pcC_at hH hkn.1 hkn.2.1 hS hU hW⟩ rfl hn hl.1.1 hs (lv_room (by rw [cat1_sum hc]; exact hc8)) hd ⟨by show _ ≤ NXc - n0; omega, by show _ ≤ UXc - u0; omega⟩
end GQ
theorem lq_cl : Cond.classLink R_law 7 RX11 ∈ gw := gw_at 28 (by decide +kernel) rfl
theorem lq_k : Ks R_law 9 yX11_init cX11_init 1 none 0 := ⟨gw_at 32 (by decide +kernel) rfl, gw_at 1 (by decide +kernel) rfl, gw_at 30 (by decide +kernel) rfl, by decide +kernel, by decide +kernel, by decide +kernel⟩
theorem lq_i : Cond.instanceMethod yX11_init ∈ gw := gw_at 31 (by decide +kernel) rfl
theorem lq_ii : Cond.initialized RX11 ∈ gw := gw_at 1 (by decide +kernel) rfl
theorem lm_cl : Cond.classLink R_law 10 RX12 ∈ gw := gw_at 1369 (by decide +kernel) rfl
theorem lm_k : Ks R_law 12 yX12_init cX12_init 1 none 0 := ⟨gw_at 1373 (by decide +kernel) rfl, gw_at 20 (by decide +kernel) rfl, gw_at 1371 (by decide +kernel) rfl, by decide +kernel, by decide +kernel, by decide +kernel⟩
theorem lm_i : Cond.instanceMethod yX12_init ∈ gw := gw_at 1372 (by decide +kernel) rfl
theorem lm_ii : Cond.initialized RX12 ∈ gw := gw_at 20 (by decide +kernel) rfl
/-- the reference's cells lie behind -/
def shM (σ : Hp) : Hp := mkH σ.kd σ.ln σ.fi σ.fr σ.ar σ.rr (σ.nx + 31) (σ.us + (53 + p_sl 30))
def hp0 : Hp := mkH (fun a => if a = 1 then 5 else 0) (fun _ => 0) (fun _ _ => 0) (fun _ _ => 0) (fun _ _ => 0) (fun _ _ => 0) 2 0
theorem ssum_ext {H H2 : Heap} {b : Nat} (hl : H.size ≤ H2.size) (hb : b ≤ H.size) (hk : ∀ q : Nat, q < H.size → H2[q]? = H[q]?) : ssum H2 b = ssum H b + ssum H2 H.size := by
  unfold ssum
  have e : H2.toList.take H.size = H.toList := by
    apply List.ext_getElem?
    intro q
    by_cases hq : q < H.size
    · rw [List.getElem?_take_of_lt hq, Array.getElem?_toList, Array.getElem?_toList, hk q hq]
    · rw [List.getElem?_eq_none (by simp; omega), List.getElem?_eq_none (by simp; omega)]
  conv => lhs; rw [← List.take_append_drop H.size H2.toList]
  rw [List.drop_append_of_le_length (by simp; omega), List.map_append, List.sum_append, e]
theorem ssum_M {κ : KMt} {S : MS} {H : Heap} (h : HM κ S H) (hs : κ.2.2.2.2.2 = κ.o + 31) : ssum H κ.o = 53 + p_sl 30 := by
  have e : (H.toList.drop κ.o).map (·.slots.size) = 53 :: (List.range 30).map m_len := by
    apply List.ext_getElem?
    intro i
    rw [List.getElem?_map, List.getElem?_drop, Array.getElem?_toList]
    by_cases hi : i < 31
    · rw [h.sizes _ ⟨by omega, by omega⟩]
      cases i with
      | zero => simp
      | succ i =>
        rw [if_neg (by omega), List.getElem?_cons_succ, List.getElem?_map, List.getElem?_range (by omega)]
        simp only [Option.map_some]
        congr 2
        omega
    · have hz := h.1.1
      rw [Array.getElem?_eq_none (by rw [hz, hs]; omega), List.getElem?_eq_none (by simp; omega)]
      rfl
  unfold ssum
  rw [e]
  simp [p_sl]
theorem HC.shift {base e0 mi : Nat} {D : va_G} {cA : Nat → ClassId} {adK adV : Nat → Nat} {σ : Hp} {H H2 : Heap} {κ : KMt} {S : MS} (h : HC (mkG base e0 (fun _ => False) D cA mi adK adV) σ H) (ho : κ.o = H.size) (hM : HM κ S H2) (hs : κ.2.2.2.2.2 = κ.o + 31) (hk : ∀ q : Nat, q < H.size → H2[q]? = H[q]?) (h1 : σ.nx + 31 ≤ NXc) (h2 : σ.us + (53 + p_sl 30) ≤ UXc) : HC (mkG base e0 (AM κ) D cA mi adK adV) (shM σ) H2 := by
  obtain ⟨g1, g2, g3, g4, g5, g6, g7⟩ := h
  have hz2 : H2.size = H.size + 31 := by rw [hM.1.1, hs, ho]
  have hadr : ∀ a, (mkG base e0 (AM κ) D cA mi adK adV).adr a = (mkG base e0 (fun _ => False) D cA mi adK adV).adr a := fun _ => rfl
  have hrv : ∀ a, (mkG base e0 (AM κ) D cA mi adK adV).rv a = (mkG base e0 (fun _ => False) D cA mi adK adV).rv a := fun _ => rfl
  have b1 : H.size = base + (σ.nx - 2) := g1.1
  have b2 : ssum H base = σ.us := g2
  have hlt : ∀ a, σ.kd a ≠ 0 → (mkG base e0 (fun _ => False) D cA mi adK adV).adr a < H.size := by
    intro a ha
    have q1 := g3 a ha
    have q2 : e0 < base := g1.2.2.1
    show (if a = 1 then e0 else base + (a - 2)) < H.size
    split <;> omega
  refine ⟨⟨?_, by show 2 ≤ σ.nx + 31; omega, g1.2.2.1, h1, h2⟩, ?_, fun a ha => ⟨(g3 a ha).1, by have := (g3 a ha).2.1; show a < σ.nx + 31; omega, (g3 a ha).2.2⟩, fun a ha h5 => ⟨(g4 a ha h5).1, fun q => ?_⟩, fun q hq => ?_, g6, fun a ha => ?_⟩
  · show H2.size = base + (σ.nx + 31 - 2)
    have := g1.2.1
    omega
  · show ssum H2 base = σ.us + (53 + p_sl 30)
    rw [ssum_ext (by omega) (by omega) hk, b2, ← ho, ssum_M hM hs]
  · have q1 := hlt a ha
    have q2 : κ.o ≤ (mkG base e0 (fun _ => False) D cA mi adK adV).adr a := q.1
    omega
  · have q2 : q < κ.o + 31 := hq.2
    omega
  · have e := hk _ (hlt a ha)
    obtain ⟨k1, k2, k3, k4⟩ := g7 a ha
    exact ⟨fun q => by rw [hadr, e]; exact k1 q, fun q => by rw [hadr, e]; exact k2 q, fun q => by rw [hadr, e]; exact k3 q, fun c r q1 q2 => (k4 c r q1 q2).kept e⟩
theorem hp0_HC {s : State} {e0 mi : Nat} {D : va_G} {cA : Nat → ClassId} {adK adV : Nat → Nat} (h : e0 < s.heap.size) : HC (mkG s.heap.size e0 (fun _ => False) D cA mi adK adV) hp0 s.heap := by
  have kd1 : ∀ a, hp0.kd a ≠ 0 → a = 1 := by
    intro a ha
    by_cases e : a = 1
    · exact e
    · exact absurd (show (if a = 1 then 5 else 0) = 0 by rw [if_neg e]) ha
  have kd5 : hp0.kd 1 = 5 := rfl
  refine ⟨⟨rfl, Nat.le_refl 2, h, by show 2 ≤ 600002; omega, by show 0 ≤ 7302250; omega⟩, ssum_self _, fun a ha => ?_, fun a ha h5 => ?_, fun q hq => hq.elim, fun a ha => ?_, fun a ha => ?_⟩
  · have := kd1 a ha
    subst this
    exact ⟨by decide, by show 1 < 2; omega, fun _ => ⟨rfl, rfl⟩⟩
  · have := kd1 a ha
    subst this
    exact absurd kd5 h5
  · have := kd1 a (by rw [ha]; decide)
    subst this
    rw [kd5] at ha
    cases ha
  · have := kd1 a ha
    subst this
    exact ⟨fun q => by rw [kd5] at q; cases q, fun q => by rw [kd5] at q; cases q, fun q => by rw [kd5] at q; cases q, fun c r q => by rw [kd5] at q; omega⟩
theorem p_def : ∀ k, k < 53 → defaultValue (tyX12 k) = p_fv 0 0 (fun _ => 0) k := by decide +kernel
/-- THE PURE STATEMENT: both begin, and go on, alike -/
def Pure (Inv : Nat → Hp → MS → Prop) : Prop := LStep Inv ∧ ∃ (σ1 σ2 : Hp) (Z : MS), nwO hp0 11 10 = some (2, σ1) ∧ kX11_init σ1 2 = some σ2 ∧ r_init = some Z ∧ σ2.nx + 31 ≤ NXc ∧ σ2.us + (53 + p_sl 30) ≤ UXc ∧ Inv 0 (shM σ2) Z
set_option maxHeartbeats 4000000 in
set_option maxRecDepth 100000 in
theorem law_mid {Inv : Nat → Hp → MS → Prop} (hst : LStep Inv) {l : Launch} {base e0 mi b L : Nat} {D : va_G} {cA : Nat → ClassId} {adK adV : Nat → Nat} {xs : Nat → Int32} {σ : Hp} {Z : MS} (hL : L ≤ 3072) (hZ : r_init = some Z) (h1 : σ.nx + 31 ≤ NXc) (h2 : σ.us + (53 + p_sl 30) ≤ UXc) (hI : Inv 0 (shM σ) Z)
    {p : Program} {e : Env} {s : State} {m : MethodId} {below : List Frame} {meth : Method} {c : Code} (hx : p.tables.exec = Jvm.exec) (hb : c.code = code) (hml : c.maxLocals = 4) (ho : s.vm.findClass R_law = some m.cls) (hts : ∀ w ∈ gw, w.before #[Value.ref b] s = true) (hr : meth.sig.returnType = ret) (hlk : meth.locks = false)
    (hX : va_X b L xs s s.heap) (hbl : b < s.heap.size) (hbase : base = s.heap.size) {cM : ClassId} {iM : Nat → Nat} (kM : u_Kn s RX12 TX12 53 cM iM) (hKO : ∀ inM : Nat → Prop, KC (mkG base e0 inM D cA mi adK adV) s ∧ OC (mkG base e0 inM D cA mi adK adV) s)
    {H : Heap} {locs : List Loc} {ls : Array Slot} (hl : lvh ls 4 [(0, .ref b), (1, (mkG base e0 (fun _ => False) D cA mi adK adV).rv 2)]) (hH : HC (mkG base e0 (fun _ => False) D cA mi adK adV) σ H) (hS : va_S (AL s) s.heap H locs) :
    W p l e room_1 s m #[Value.ref b] below meth c H locs (H.size - s.heap.size) (ssum H s.heap.size) (lw_Z below #[Value.ref b] s) (F0 m 8 ls []) := by
  subst hbase
  have hK := (hKO (fun _ => False)).1
  have g1 := hH.1
  have b1 : H.size = s.heap.size + (σ.nx - 2) := g1.1
  have b2 : ssum H s.heap.size = σ.us := hH.2.1
  have hnxv : NXc = 600002 := rfl
  have huxv : UXc = 7302250 := rfl
  have g2 : 2 ≤ σ.nx := g1.2.1
  refine W.newc hx hb ho (hts _ lm_cl) (hts _ iw_m) (hts _ lm_ii) rfl dL_8 (by show _ ≤ 600000; omega) (by show _ ≤ 7302250; omega) fun cC kC f1 f2 f3 f4 => ?_
  cases f1.symm.trans kM.2.1
  obtain ⟨κ, hκ⟩ : ∃ κ : KMt, κ = (cM, iM, cA 1, cA 2, H.size, H.size + 31) := ⟨_, rfl⟩
  have hκo : κ.o = H.size := by rw [hκ]; rfl
  have hκs : κ.2.2.2.2.2 = κ.o + 31 := by rw [hκo, hκ]
  have hkP : KnP κ s := by rw [hκ]; exact ⟨⟨kM, hK.2.1.1, hK.2.2.1.1⟩, hK.2.1.2, hK.2.2.1.2⟩
  refine W.eq (g2 := F0 m 11 ls [.ref κ.o]) (by rw [hκo]) ?_
  refine lv_dup hx hb dL_11 rfl ?_
  have hp : HP κ (0, 0, mS0) (H.push (blank cM kC)) := by
    refine ⟨⟨by rw [Array.size_push, hκo], ?_, fun _ _ _ => rfl⟩, ?_, fun j hj => absurd hj (Nat.not_lt_zero j)⟩
    · rw [hκo, Array.getElem?_push_size]
      show some (Array.map defaultValue kC.instanceTypes).size = some 53
      rw [Array.size_map, f4]
    · have := u_born tyX12 hts m_in kM f2 (o := H.size) (H := H.push (blank cM kC)) (by rw [Array.getElem?_push_size]) tyX12_ok
      have e1 : κ.1 = cM := by rw [hκ]
      have e2 : κ.2.1 = iM := by rw [hκ]
      rw [hκo, e1, e2]
      refine this.to (fun k hk => ?_)
      rw [p_def k hk]
      unfold p_fv
      cases m_af k with
      | none => rfl
      | some j => simp
  intro T hT X
  have hT0 : T.heap = H.push (blank cM kC) := hT
  obtain ⟨v, st₀, t, T', L1, h0, X', hL1, e1, e2, ⟨hv, hH1, hz, hkp⟩, stp⟩ := va_runI (Ts := gw) (own := R_law) (H := H.push (blank cM kC)) (mc := 30 - 0) (ms := p_sl 30 - p_sl 0) (rm := Rm 4 87 (30 - 0) (p_sl 30 - p_sl 0)) (b := κ.o) (As := []) (rest := [.ref κ.o]) (g := F0 m 12 ls [.ref κ.o, .ref κ.o]) ⟨hx, hb, hml, ho, hts⟩ (rt_init (l := l) hκs Z hZ) ⟨cb_of hts lm_k.1 lm_k.2.1 lm_k.2.2.1 lm_k.2.2.2 ⟨Nat.le_of_ble_eq_true rfl, Nat.le_of_ble_eq_true rfl⟩, rfl, hts _ lm_i⟩ ⟨pc_blind (EP_ok κ), fun U hU hW => ⟨rfl, by rw [hU]; exact hp, EP_ok κ s U hW.alike hkP⟩⟩ rfl rfl hl.1.1 rfl (lv_room (by show 1 ≤ 8; omega)) dL_12 ⟨by show _ + 1 + (30 - 0) ≤ 600000; omega, by show _ + 53 + (p_sl 30 - p_sl 0) ≤ 7302250; have : p_sl 0 = 0 := rfl; omega⟩ T hT0 X
  cases hv
  rw [h0] at hz hkp
  have hp2 : HP κ (30, 30, Z) T'.heap := by rw [e1]; exact hH1
  have hM2 : HM κ Z T'.heap := hp2.done hκs
  have hk2 : ∀ q : Nat, q < H.size → T'.heap[q]? = H[q]? := by
    intro q hq
    rw [e1, hkp q (by rw [Array.size_push]; omega) (fun z => by have z : κ.o ≤ q := z; omega), Array.getElem?_push_lt hq, ← Array.getElem?_eq_getElem]
  have hC2 := hH.shift hκo hM2 hκs hk2 h1 h2
  have hz2 : T'.heap.size = H.size + 31 := by rw [hM2.1.1, hκs, hκo]
  have hS2 : va_S (AL s) s.heap T'.heap (locs ++ L1) := ⟨by have := hS.1; omega, fun q g1 g2 => by rw [hk2 q (Nat.lt_of_lt_of_le g1 hS.1)]; exact hS.2.1 q g1 g2, fun q hq => by
    rcases List.mem_append.mp hq with h | h
    · exact hS.2.2 q h
    · have : κ.o ≤ q.base := hL1 q h
      have := hS.1
      show s.heap.size ≤ q.base
      omega⟩
  have key : W p l e room_1 s m #[Value.ref b] below meth c T'.heap (locs ++ L1) (T'.heap.size - s.heap.size) (ssum T'.heap s.heap.size) (lw_Z below #[Value.ref b] s) (F0 m 15 ls [.ref κ.o]) := by
    refine lv_astore_n (lv' := _) hx hb dL_15 rfl hl.1 (by decide) rfl (fun ls h1 => ?_)
    have hl1 : lvh ls 4 [(0, .ref b), (1, (mkG s.heap.size e0 (fun _ => False) D cA mi adK adV).rv 2), (2, .ref κ.o)] := hl.set rfl h1
    refine lv_iconst (v := 0) hx hb dL_16 (by decide) ?_
    refine lv_istore_n (lv' := _) hx hb dL_17 rfl hl1.1 (by decide) rfl (fun ls h2 => ?_)
    have hl2 : lvh ls 4 [(0, .ref b), (1, (mkG s.heap.size e0 (fun _ => False) D cA mi adK adV).rv 2), (2, .ref κ.o), (3, .int 0)] := hl1.set rfl h2
    have lp := law_loop (l := l) (G := mkG s.heap.size e0 (AM κ) D cA mi adK adV) (κ := κ) (b := b) (L := L) (xs := xs) hst hL 513 0 (shM σ) Z (by omega) (by omega) hI
    refine lp p e s m #[Value.ref b] below meth c ⟨hx, hb, hml, ho, hts, hr, hlk, (hKO (AM κ)).1, (hKO (AM κ)).2, hkP.1, hX, ⟨rfl, hbl, rfl⟩, rfl, by rw [hκo]; show s.heap.size ≤ H.size; omega⟩ T'.heap (locs ++ L1) ls hl2 ⟨hC2, ?_⟩ hS2
    have : κz κ T'.heap.size = κ := by
      rw [hz2, hκ]
      rfl
    rw [this]
    exact hM2
  obtain ⟨t2, a1, b1⟩ := W.any key T' rfl X'
  exact ⟨t2, stp t2 a1, b1⟩
set_option maxHeartbeats 4000000 in
set_option maxRecDepth 100000 in
theorem whole_of {Inv : Nat → Hp → MS → Prop} (hP : Pure Inv) {p : Program} {e : Env} {s : State} {m : MethodId} {below : List Frame} {meth : Method} {c : Code} (l : Launch) (hflags : l.flags = flags0) {b L : Nat} {xs : Nat → Int32} (hL : L ≤ 3072) (C0 : lw_At p s m meth c b L xs) : W p l e room_1 s m #[Value.ref b] below meth c s.heap [] 0 0 (lw_Z below #[Value.ref b] s) (entryFrame m ([Value.ref b] : List Value).toArray 4) := by
  obtain ⟨hst, σ1, σ2, Z, n1, n2, hZ, r1, r2, hI⟩ := hP
  obtain ⟨D, cA, e0, mi, adK, adV, cM, iM, he0, kM, hKO⟩ := law_known C0
  obtain ⟨hx, hb, hr, hml, hown, hts0, hX, hbl, hlocks, hgv⟩ := id C0
  have hts : ∀ w ∈ gw, w.before #[Value.ref b] s = true := fun w hw => hts0 w (List.mem_filter.mp hw).1
  have hl := lv_entry ([.ref b]) (n := 4) (Nat.le_of_ble_eq_true rfl)
  rw [lg_entry_eq]
  generalize (lg_sl ([.ref b]) ++ List.replicate (4 - (lg_sl ([.ref b])).length) Slot.unset).toArray = ls at hl ⊢
  have hl : lvh ls 4 [(0, .ref b)] := ⟨hl, fun q hq => by rcases List.mem_singleton.mp hq with rfl; rfl⟩
  let G0 := mkG s.heap.size e0 (fun _ => False) D cA mi adK adV
  have kd2 : σ1.kd 2 = 21 := by
    have : σ1 = _ := ((Prod.mk.inj (Option.some.inj ((show nwO hp0 11 10 = some (2, _) from rfl).symm.trans n1))).2).symm
    rw [this]
    rfl
  have main : ∀ (H : Heap) (locs : List Loc) (ls : Array Slot), lvh ls 4 [(0, .ref b), (1, G0.rv 2)] → HC G0 σ2 H → va_S (AC G0) s.heap H locs → W p l e room_1 s m #[Value.ref b] below meth c H locs (H.size - s.heap.size) (ssum H s.heap.size) (lw_Z below #[Value.ref b] s) (F0 m 8 ls []) := by
    intro H locs ls hl hH hS
    exact law_mid hst hL hZ r1 r2 hI hx hb hml hown hts hr hlocks hX hbl rfl kM hKO hl hH ⟨hS.1, fun q g1 g2 => hS.2.1 q g1 (fun z => g2 z.1), fun q hq => (hS.2.2 q hq).1⟩
  have hK0 := hKO (fun _ => False)
  have C1 : CxC G0 R_law meth.name code 4 ret 2 0 p s m #[Value.ref b] meth c := ⟨hx, hb, hml, hown, hts, hr, hlocks, hK0.1, hK0.2, ⟨rfl, Nat.le_refl 2, ssum_self _⟩, rfl⟩
  have st8 : GoQ p e s m #[Value.ref b] below meth c l G0 R_law meth.name code 4 ret 16 698 2 0 (lw_Z below #[Value.ref b] s) 8 [(0, .ref b), (1, G0.rv 2)] [] σ2 := fun _ H locs ls hl hH hS => main H locs ls hl hH hS
  have st0 : GoQ p e s m #[Value.ref b] below meth c l G0 R_law meth.name code 4 ret 16 698 2 0 (lw_Z below #[Value.ref b] s) 0 [(0, .ref b)] [] hp0 := by
    classical
    refine GoQ.new (Y := Unit) (Z := ()) (K := fun a x1 => if a = 2 ∧ x1 = σ1 then some () else none) 11 rfl lq_cl iw_11 lq_ii dL_0 ?_ (fun a x1 h => ?_)
    · have e1 : nwO hp0 11 10 = some (2, σ1) := n1
      show bd2 (nwO hp0 11 10) _ = some ()
      rw [e1]
      show (if (2 : Nat) = 2 ∧ σ1 = σ1 then some () else none) = some ()
      rw [if_pos ⟨rfl, rfl⟩]
    · have hax : a = 2 ∧ x1 = σ1 := by
        by_cases q : a = 2 ∧ x1 = σ1
        · exact q
        · rw [if_neg q] at h
          cases h
      obtain ⟨rfl, rfl⟩ := hax
      refine GoQ.dup dL_3 (G0.rv_cat 2) ?_
      refine GoQ.calli (rest := [G0.rv 2]) (b := 2) (by decide) [] dL_4 lq_k rfl lq_i (ktX11_init 2 _ n2) rfl rfl (Nat.le_of_ble_eq_true rfl) (Nat.le_of_ble_eq_true rfl) ⟨G0.rv_cat 2, trivial⟩ (by decide) ?_
      refine GoQ.astore_n [(0, .ref b), (1, G0.rv 2)] dL_7 (by decide) rfl ?_
      exact st8
  exact W.any (st0 C1 s.heap [] ls hl (hp0_HC he0) va_S.rf)
