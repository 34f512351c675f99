def κz (κ : KMt) (n : Nat) : KMt := (κ.1, κ.2.1, κ.2.2.1, κ.2.2.2.1, κ.2.2.2.2.1, n)
abbrev XL : Type := Hp × MS
def HL (G : Gt) (κ : KMt) (x : XL) (H : Heap) : Prop := HC G x.1 H ∧ HM (κz κ H.size) x.2 H
def CxL (G : Gt) (κ : KMt) (b L : Nat) (xs : Nat → Int32) (own : String) (cc : ByteArray) (nL : Nat) (p : Program) (s : State) (m : MethodId) (args : Array Value) (meth : Method) (c : Code) : Prop :=
  p.tables.exec = Jvm.exec ∧ c.code = cc ∧ c.maxLocals = nL ∧ s.vm.findClass own = some m.cls ∧ (∀ w ∈ gw, w.before args s = true) ∧ meth.sig.returnType = ret ∧ meth.locks = false ∧
  (KC G s ∧ OC G s ∧ KnM κ s ∧ va_X b L xs s s.heap ∧ (G.base = s.heap.size ∧ b < s.heap.size ∧ args = #[Value.ref b]) ∧ G.inM = AM κ ∧ G.base ≤ κ.o)
def AL (s : State) : Nat → Prop := fun q => s.heap.size ≤ q
def GoL (l : Launch) (G : Gt) (κ : KMt) (b L : Nat) (xs : Nat → Int32) (own : String) (cc : ByteArray) (nL : Nat) (pc : Nat) (lv : List (Nat × Value)) (st : List Value) (x : XL) : Prop :=
  ∀ (p : Program) (e : Env) (s : State) (m : MethodId) (args : Array Value) (below : List Frame) (meth : Method) (c : Code), CxL G κ b L xs own cc nL p s m args meth c →
    ∀ (H : Heap) (locs : List Loc) (ls : Array Slot), lvh ls nL lv → HL G κ x H → va_S (AL s) s.heap H locs →
      W p l e room_1 s m args below meth c H locs (H.size - s.heap.size) (ssum H s.heap.size) (lw_Z below #[Value.ref b] s) (F0 m pc ls st)
theorem HC.keep {G : Gt} {κ : KMt} {σ : Hp} {H H1 : Heap} (h : HC G σ H) (hM : G.inM = AM κ) (hb : G.base ≤ κ.o) (z : H1.size = H.size) (hk : ∀ q : Nat, q < H.size → ¬ AM κ q → H1[q]? = H[q]?) (hs : ∀ q : Nat, AM κ q → (H1[q]?).map (·.slots.size) = (H[q]?).map (·.slots.size)) : HC G σ H1 := by
  obtain ⟨g1, g2, g3, g4, g5, g6, g7⟩ := h
  have hss : ssum H1 G.base = ssum H G.base := by
    apply ssum_congr
    intro q
    by_cases hq : AM κ q
    · exact hs q hq
    · by_cases hl : q < H.size
      · rw [hk q hl hq]
      · rw [Array.getElem?_eq_none (by omega), Array.getElem?_eq_none (by omega)]
  refine ⟨by rw [z]; exact g1, by rw [hss]; exact g2, g3, g4, by rw [z]; exact g5, g6, fun a ha => ?_⟩
  have hlt : G.adr a < H.size := by
    have := (g3 a ha)
    unfold Gt.adr
    split <;> omega
  have hna : ¬ AM κ (G.adr a) := by
    by_cases h5 : σ.kd a = 5
    · intro q
      have ha1 := ((g3 a ha).2.2 h5).1
      subst ha1
      have h1 : κ.o ≤ G.e0 := q.1
      have := g1.2.2.1
      omega
    · have := (g4 a ha h5).2
      rw [hM] at this
      exact this
  obtain ⟨k1, k2, k3, k4⟩ := g7 a ha
  have e := hk _ hlt hna
  unfold cellC
  rw [e]
  exact ⟨k1, k2, k3, fun c r q1 q2 => (k4 c r q1 q2).kept e⟩
theorem HM.sizes {κ : KMt} {S : MS} {H : Heap} (h : HM κ S H) : ∀ q : Nat, AM κ q → (H[q]?).map (·.slots.size) = some (if q = κ.o then 53 else m_len (q - κ.o - 1)) := by
  intro q hq
  by_cases e : q = κ.o
  · rw [if_pos e, e]
    exact h.1.2
  · rw [if_neg e]
    have h1 := hq.1
    have h2 := hq.2
    have := h.2.2 (q - κ.o - 1) (by omega)
    rw [show κ.o + 1 + (q - κ.o - 1) = q by omega] at this
    rw [this]
    simp [arrV_size]
theorem HM.move {κ : KMt} {n : Nat} {S : MS} {H H1 : Heap} (h : HM (κz κ n) S H) (hq : ∀ q : Nat, AM κ q → H1[q]? = H[q]?) : HM (κz κ H1.size) S H1 := by
  obtain ⟨⟨-, h53⟩, hob, harr⟩ := h
  have ho : ∀ m, (κz κ m).o = κ.o := fun _ => rfl
  refine ⟨⟨rfl, ?_⟩, ?_, fun j hj => ?_⟩
  · rw [ho] at h53 ⊢
    rw [hq _ ⟨Nat.le_refl _, by omega⟩]
    exact h53
  · exact hob.kept (hq _ ⟨Nat.le_refl _, by show κ.o < κ.o + 31; omega⟩)
  · have := harr j hj
    rw [ho] at this ⊢
    rw [hq _ ⟨by omega, by omega⟩]
    exact this
section GOL
variable {l : Launch} {G : Gt} {κ : KMt} {b bs L : Nat} {xs : Nat → Int32} {own : String} {cc : ByteArray} {nL : Nat} {pc : Nat} {lv lv' : List (Nat × Value)} {st rest : List Value} {x : XL}
theorem GoL.sub (ks : List Nat) (hl : lv_pick lv ks = lv') (h : GoL l G κ b L xs own cc nL pc lv' st x) : GoL l G κ b L xs own cc nL pc lv st x :=
  fun p e s m args below meth c C H locs ls hl2 hH hS => h p e s m args below meth c C H locs ls (hl2.sub ks hl) hH hS
theorem GoL.icmp_gt {a d : Int32} {off : Int} (tgt : Nat) (hd : decode cc pc = .ok (.if_icmp .gt off, 3)) (ht : (pc : Int) + off = (tgt : Int)) (kt : d < a → GoL l G κ b L xs own cc nL tgt lv st x) (kf : ¬ d < a → GoL l G κ b L xs own cc nL (pc + 3) lv st x) : GoL l G κ b L xs own cc nL pc lv (.int d :: .int a :: st) x := by
  intro p e s m args below meth c C H locs ls hl hH hS
  obtain ⟨hx, hb, hml, ho, hts, hr, hk, hkn⟩ := id C
  exact lv_icmp_gt hx hb hd ht (fun q => kt q p e s m args below meth c C H locs ls hl hH hS) (fun q => kf q p e s m args below meth c C H locs ls hl hH hS)
theorem GoL.icmp_same {a : Int32} {off : Int} (tgt : Nat) (hd : decode cc pc = .ok (.if_icmp .eq off, 3)) (ht : (pc : Int) + off = (tgt : Int)) (kt : GoL l G κ b L xs own cc nL tgt lv st x) : GoL l G κ b L xs own cc nL pc lv (.int a :: .int a :: st) x := by
  intro p e s m args below meth c C H locs ls hl hH hS
  obtain ⟨hx, hb, hml, ho, hts, hr, hk, hkn⟩ := id C
  exact lv_icmp_eq hx hb hd ht (fun q => kt p e s m args below meth c C H locs ls hl hH hS) (fun q => absurd rfl q)
theorem GoL.sld {i : Int32} (hin : vp_in i L) (hd : decode cc pc = .ok (.iaload, 1)) (k : GoL l G κ b L xs own cc nL (pc + 1) lv (.int (xs i.toNatClampNeg) :: st) x) : GoL l G κ b L xs own cc nL pc lv (.int i :: .ref b :: st) x := by
  intro p e s m args below meth c C H locs ls hl hH hS
  obtain ⟨hx, hb, hml, ho, hts, hr, hk, hkn⟩ := id C
  exact va_sld hx hb hkn.2.2.2.1 hkn.2.2.2.2.1.2.1 (fun q => absurd hkn.2.2.2.2.1.2.1 (Nat.not_lt.mpr q)) hS hin hd (k p e s m args below meth c C H locs ls hl hH hS)
theorem GoL.slen (hL : L < 2 ^ 31) (hd : decode cc pc = .ok (.arraylength, 1)) (k : GoL l G κ b L xs own cc nL (pc + 1) lv (.int (nI L) :: st) x) : GoL l G κ b L xs own cc nL pc lv (.ref b :: st) x := by
  intro p e s m args below meth c C H locs ls hl hH hS
  obtain ⟨hx, hb, hml, ho, hts, hr, hk, hkn⟩ := id C
  obtain ⟨scr, q1, q2, q3, q4, q5⟩ := hkn.2.2.2.1.kept (hS.2.1 b hkn.2.2.2.2.1.2.1 (fun q => absurd hkn.2.2.2.2.1.2.1 (Nat.not_lt.mpr q)))
  exact W.alen (n := nI L) hx hb q1 q2 (by rw [q4]; rfl) rfl rfl hd (k p e s m args below meth c C H locs ls hl hH hS)
section CALLL
variable {i n : Nat} {y : MethodName} {bytes : ByteArray} {maxL fr1 lo1 : Nat} {ret1 : Option FieldType} {r : Int32}
theorem GoL.callC {σ1 : Hp} (As : List Value) (hd : decode cc pc = .ok (.invokevirtual i, 3)) (hK : Ks own i y bytes maxL ret1 n) (hin : Cond.instanceMethod y ∈ gw) (hse : Cond.selects y.cls y y ∈ gw) (hyc : y.cls = RX11) (hkd : x.1.kd 2 = 21) (hM : MtC l G y bytes maxL ret1 fr1 lo1 (G.rv 2 :: As) x.1 (some (.int r)) σ1)
    (hs : st = As.reverse ++ .ref (G.adr 2) :: rest) (hn : As.length = n) (hf : fr1 + 1 ≤ 16) (hlo : 8 + (maxL + 11) + lo1 ≤ 698) (hc : cat1 rest) (hc8 : rest.length ≤ 8)
    (k : GoL l G κ b L xs own cc nL (pc + 3) lv (.int r :: rest) (σ1, x.2)) : GoL l G κ b L xs own cc nL pc lv st x := by
  intro p e s m args below meth c C H locs ls hl hH hS
  obtain ⟨hx, hb, hml, ho, hts, hr, hlk, hkn⟩ := id C
  obtain ⟨hC, hMo⟩ := id hH
  have g1 := hC.1
  have g4 : x.1.nx ≤ NXc := g1.2.2.2.1
  have g5 : x.1.us ≤ UXc := g1.2.2.2.2
  have hbase := hkn.2.2.2.2.1.1
  have hsz : H.size = s.heap.size + (x.1.nx - 2) := by rw [← hbase]; exact g1.1
  have hss : ssum H s.heap.size = x.1.us := by rw [← hbase]; exact hC.2.1
  have hnxv : NXc = 600002 := rfl
  have huxv : UXc = 7302250 := rfl
  have hS2 : va_S (AC G) s.heap H [] := ⟨hS.1, fun q h1 h2 => hS.2.1 q h1 (fun z => absurd h1 (Nat.not_lt.mpr z)), fun q h => by cases h⟩
  intro T hT X
  obtain ⟨v, st₀, t, T', L1, h0, X', hL1, e1, e2, ⟨hv, hH1, hz, hkp⟩, stp⟩ := va_runV (Ts := gw) (C := y.cls) (As := As) (rest := rest) (g := F0 m pc ls st) ⟨hx, hb, hml, ho, hts⟩ hM ⟨cb_of hts hK.1 hK.2.1 hK.2.2.1 hK.2.2.2 ⟨hf, hlo⟩, hts _ hin, hts _ hse⟩ ⟨pcC_blind, by rw [hyc]; exact hC.recv hkn.1 (c := 11) rfl hkd, fun U hU hW => pcC_at hC hkn.1 hkn.2.1 hS2 hU hW⟩ rfl hn hl.1.1 hs (lv_room (by rw [cat1_sum hc]; exact hc8)) hd ⟨by show _ + (NXc - x.1.nx) ≤ 600000; have := g1.2.1; omega, by show _ + (UXc - x.1.us) ≤ 7302250; omega⟩ T hT X
  cases hv
  rw [h0] at hz hkp
  have hMo1 : HM (κz κ T'.heap.size) x.2 T'.heap := by
    refine hMo.move (fun q hq => ?_)
    rw [e1]
    refine hkp q ?_ (fun z => z.2 (by rw [hkn.2.2.2.2.2.1]; exact hq))
    exact hC.2.2.2.2.1 q (by rw [hkn.2.2.2.2.2.1]; exact hq)
  obtain ⟨t2, a1, b1⟩ := W.any (k p e s m args below meth c C T'.heap (locs ++ L1) ls hl ⟨by rw [e1]; exact hH1, hMo1⟩ ⟨Nat.le_trans hS.1 (by rw [e1]; exact hz), fun q h1 h2 => by rw [e1, hkp q (Nat.lt_of_lt_of_le h1 hS.1) (fun z => by have := z.1; omega)]; exact hS.2.1 q h1 h2, fun q hq => by
      rcases List.mem_append.mp hq with h | h
      · exact hS.2.2 q h
      · have := (hL1 q h).1
        show s.heap.size ≤ q.base
        omega⟩) T' rfl X'
  exact ⟨t2, stp t2 a1, b1⟩
theorem GoL.callM {S1 : MS} (As : List Value) (hd : decode cc pc = .ok (.invokevirtual i, 3)) (hK : Ks own i y bytes maxL ret1 n) (hin : Cond.instanceMethod y ∈ gw) (hse : Cond.selects y.cls y y ∈ gw) (hyc : y.cls = RX12) (hM : ∀ n, MtM l (κz κ n) y bytes maxL ret1 fr1 lo1 (.ref κ.o :: As) x.2 (some (.int r)) S1)
    (hs : st = As.reverse ++ .ref κ.o :: rest) (hn : As.length = n) (hf : fr1 + 1 ≤ 16) (hlo : 8 + (maxL + 11) + lo1 ≤ 698) (hc : cat1 rest) (hc8 : rest.length ≤ 8)
    (k : GoL l G κ b L xs own cc nL (pc + 3) lv (.int r :: rest) (x.1, S1)) : GoL l G κ b L xs own cc nL pc lv st x := by
  intro p e s m args below meth c C H locs ls hl hH hS
  obtain ⟨hx, hb, hml, ho, hts, hr, hlk, hkn⟩ := id C
  obtain ⟨hC, hMo⟩ := id hH
  have g1 := hC.1
  have g4 : x.1.nx ≤ NXc := g1.2.2.2.1
  have g5 : x.1.us ≤ UXc := g1.2.2.2.2
  have hbase := hkn.2.2.2.2.1.1
  have hsz : H.size = s.heap.size + (x.1.nx - 2) := by rw [← hbase]; exact g1.1
  have hss : ssum H s.heap.size = x.1.us := by rw [← hbase]; exact hC.2.1
  have hnxv : NXc = 600002 := rfl
  have huxv : UXc = 7302250 := rfl
  have hkM : KnM (κz κ H.size) s := hkn.2.2.1
  intro T hT X
  obtain ⟨v, st₀, t, T', L1, h0, X', hL1, e1, e2, ⟨hv, hH1, hz, hkp⟩, stp⟩ := va_runV (Ts := gw) (C := y.cls) (As := As) (rest := rest) (g := F0 m pc ls st) (mc := 0) (ms := 0) (rm := Rm fr1 lo1 0 0) ⟨hx, hb, hml, ho, hts⟩ (hM H.size) ⟨cb_of hts hK.1 hK.2.1 hK.2.2.1 hK.2.2.2 ⟨hf, hlo⟩, hts _ hin, hts _ hse⟩ ⟨pc_blind (EM_ok _), by rw [hyc]; exact EM_ob (κz κ H.size) s H hMo hkM, fun U hU hW => ⟨rfl, by rw [hU]; exact hMo, EM_ok _ s U hW.alike hkM⟩⟩ rfl hn hl.1.1 hs (lv_room (by rw [cat1_sum hc]; exact hc8)) hd ⟨by show _ + 0 ≤ 600000; have := g1.2.1; omega, by show _ + 0 ≤ 7302250; omega⟩ T hT X
  cases hv
  rw [h0] at hz hkp
  have hMo1 : HM (κz κ H.size) S1 T'.heap := by rw [e1]; exact hH1
  have hsz1 : T'.heap.size = H.size := hMo1.1.1
  have hC1 : HC G x.1 T'.heap := hC.keep hkn.2.2.2.2.2.1 hkn.2.2.2.2.2.2 hsz1 (fun q h1 h2 => by rw [e1]; exact hkp q h1 h2) (fun q hq => by rw [hMo1.sizes q hq, hMo.sizes q hq])
  obtain ⟨t2, a1, b1⟩ := W.any (k p e s m args below meth c C T'.heap (locs ++ L1) ls hl ⟨hC1, by rw [hsz1]; exact hMo1⟩ ⟨Nat.le_trans hS.1 (by rw [e1]; exact hz), fun q h1 h2 => by rw [e1, hkp q (Nat.lt_of_lt_of_le h1 hS.1) (fun z => by have := z.1; have h8 : κ.o ≤ q := this; have := hkn.2.2.2.2.2.2; omega)]; exact hS.2.1 q h1 h2, fun q hq => by
      rcases List.mem_append.mp hq with h | h
      · exact hS.2.2 q h
      · have h8 : κ.o ≤ q.base := (hL1 q h).1
        have := hkn.2.2.2.2.2.2
        show s.heap.size ≤ q.base
        omega⟩) T' rfl X'
  exact ⟨t2, stp t2 a1, b1⟩
end CALLL
theorem GoL.ret1 (hcc : cc = code) (hd : decode code pc = .ok (.ireturn, 1)) : GoL l G κ b L xs own cc nL pc lv [.int 1] x := by
  intro p e s m args below meth c C H locs ls hl hH hS
  obtain ⟨hx, hb, hml, ho, hts, hr, hlk, hkn⟩ := id C
  subst hcc
  obtain ⟨hC, hMo⟩ := id hH
  have g1 := hC.1
  have g4 : x.1.nx ≤ NXc := g1.2.2.2.1
  have g5 : x.1.us ≤ UXc := g1.2.2.2.2
  have hbase := hkn.2.2.2.2.1.1
  have hsz : H.size = s.heap.size + (x.1.nx - 2) := by rw [← hbase]; exact g1.1
  have hss : ssum H s.heap.size = x.1.us := by rw [← hbase]; exact hC.2.1
  have hnxv : NXc = 600002 := rfl
  have huxv : UXc = 7302250 := rfl
  have hargs := hkn.2.2.2.2.1.2.2
  subst hargs
  refine W.widen (k := 600000) (n := 7302250) (by have := g1.2.1; omega) (by omega) ?_
  refine va_forget (fun q hq => hS.2.2 q hq) ?_
  exact lw_ret (d0 := s.drawn) (Drawn.sameBut.refl s.drawn lw_cs) hx hb hr hlk hd

theorem GoL.iconst {n : Int} (v : Int32) (hd : decode cc pc = .ok (.iconst n, 1)) (hv : Int32.ofInt n = v) (k : GoL l G κ bs L xs own cc nL (pc + 1) lv (.int v :: st) x) : GoL l G κ bs L xs own cc nL pc lv st x := by
  intro p e s m args below meth c C H locs ls hl hH hS
  obtain ⟨hx, hb, hml, ho, hts, hr, hk, hkn⟩ := id C
  exact lv_iconst hx hb hd hv (k p e s m args below meth c C H locs ls hl hH hS)
theorem GoL.bipush {n : Int} (v : Int32) (hd : decode cc pc = .ok (.bipush n, 2)) (hv : (Int8.ofInt n).toInt32 = v) (k : GoL l G κ bs L xs own cc nL (pc + 2) lv (.int v :: st) x) : GoL l G κ bs L xs own cc nL pc lv st x := by
  intro p e s m args below meth c C H locs ls hl hH hS
  obtain ⟨hx, hb, hml, ho, hts, hr, hk, hkn⟩ := id C
  exact lv_bipush hx hb hd hv (k p e s m args below meth c C H locs ls hl hH hS)
theorem GoL.iload_n {f : Fin 4} {v : Int32} (j : Nat) (hd : decode cc pc = .ok (.iload_n f, 1)) (hv : lv[j]? = some (f.val, .int v)) (k : GoL l G κ bs L xs own cc nL (pc + 1) lv (.int v :: st) x) : GoL l G κ bs L xs own cc nL pc lv st x := by
  intro p e s m args below meth c C H locs ls hl hH hS
  obtain ⟨hx, hb, hml, ho, hts, hr, hk, hkn⟩ := id C
  exact lv_iload_n hx hb hd rfl (lv_at hl.1 j hv) (k p e s m args below meth c C H locs ls hl hH hS)
theorem GoL.aload_n {f : Fin 4} {v : Nat} (j : Nat) (hd : decode cc pc = .ok (.aload_n f, 1)) (hv : lv[j]? = some (f.val, .ref v)) (k : GoL l G κ bs L xs own cc nL (pc + 1) lv (.ref v :: st) x) : GoL l G κ bs L xs own cc nL pc lv st x := by
  intro p e s m args below meth c C H locs ls hl hH hS
  obtain ⟨hx, hb, hml, ho, hts, hr, hk, hkn⟩ := id C
  exact lv_aload_n hx hb hd rfl (lv_at hl.1 j hv) (k p e s m args below meth c C H locs ls hl hH hS)
theorem GoL.istore_n {f : Fin 4} {v : Int32} (lv2 : List (Nat × Value)) (hd : decode cc pc = .ok (.istore_n f, 1)) (hn : f.val < nL) (hl2 : lset lv f.val (.int v) = lv2) (k : GoL l G κ bs L xs own cc nL (pc + 1) lv2 st x) : GoL l G κ bs L xs own cc nL pc lv (.int v :: st) x := by
  intro p e s m args below meth c C H locs ls hl hH hS
  obtain ⟨hx, hb, hml, ho, hts, hr, hk, hkn⟩ := id C
  subst hl2
  exact lv_istore_n hx hb hd rfl hl.1 hn rfl (fun ls2 h2 => k p e s m args below meth c C H locs ls2 (hl.set rfl h2) hH hS)
theorem GoL.iinc {i : Nat} {n : Int} {v w : Int32} (j : Nat) (lv2 : List (Nat × Value)) (hd : decode cc pc = .ok (.iinc i n, 3)) (hv : lv[j]? = some (i, .int v)) (hw : Int32.ofInt n = w) (hn : i < nL) (hl2 : lset lv i (.int (v + w)) = lv2) (k : GoL l G κ bs L xs own cc nL (pc + 3) lv2 st x) : GoL l G κ bs L xs own cc nL pc lv st x := by
  intro p e s m args below meth c C H locs ls hl hH hS
  obtain ⟨hx, hb, hml, ho, hts, hr, hk, hkn⟩ := id C
  subst hl2
  exact lv_iinc hx hb hd hl.1 hv (by rw [hw]) hn rfl (fun ls2 h2 => k p e s m args below meth c C H locs ls2 (hl.set rfl h2) hH hS)
theorem GoL.iadd {a b : Int32} (hd : decode cc pc = .ok (.iadd, 1)) (k : GoL l G κ bs L xs own cc nL (pc + 1) lv (.int (a + b) :: st) x) : GoL l G κ bs L xs own cc nL pc lv (.int b :: .int a :: st) x := by
  intro p e s m args below meth c C H locs ls hl hH hS
  obtain ⟨hx, hb, hml, ho, hts, hr, hk, hkn⟩ := id C
  exact lv_iadd hx hb hd (k p e s m args below meth c C H locs ls hl hH hS)
theorem GoL.isub {a b : Int32} (hd : decode cc pc = .ok (.isub, 1)) (k : GoL l G κ bs L xs own cc nL (pc + 1) lv (.int (a - b) :: st) x) : GoL l G κ bs L xs own cc nL pc lv (.int b :: .int a :: st) x := by
  intro p e s m args below meth c C H locs ls hl hH hS
  obtain ⟨hx, hb, hml, ho, hts, hr, hk, hkn⟩ := id C
  exact lv_isub hx hb hd (k p e s m args below meth c C H locs ls hl hH hS)
theorem GoL.iand {a b : Int32} (hd : decode cc pc = .ok (.iand, 1)) (k : GoL l G κ bs L xs own cc nL (pc + 1) lv (.int (a &&& b) :: st) x) : GoL l G κ bs L xs own cc nL pc lv (.int b :: .int a :: st) x := by
  intro p e s m args below meth c C H locs ls hl hH hS
  obtain ⟨hx, hb, hml, ho, hts, hr, hk, hkn⟩ := id C
  exact lv_iand hx hb hd (k p e s m args below meth c C H locs ls hl hH hS)
theorem GoL.goto {off : Int} (tgt : Nat) (hd : decode cc pc = .ok (.goto off, 3)) (ht : (pc : Int) + off = (tgt : Int)) (k : GoL l G κ bs L xs own cc nL tgt lv st x) : GoL l G κ bs L xs own cc nL pc lv st x := by
  intro p e s m args below meth c C H locs ls hl hH hS
  obtain ⟨hx, hb, hml, ho, hts, hr, hk, hkn⟩ := id C
  exact lv_goto hx hb hd ht (k p e s m args below meth c C H locs ls hl hH hS)
theorem GoL.tabIn {dflt lo2 hi : Int} {offs : Array Int} {len : Nat} {a : Int32} {off : Int} (tgt : Nat) (v : Int32) (ha : a = v) (hd : decode cc pc = .ok (.tableswitch dflt lo2 hi offs, len)) (h1 : ¬ v.toInt < lo2) (h2 : ¬ hi < v.toInt) (h3 : offs[(v.toInt - lo2).toNat]? = some off) (ht : (pc : Int) + off = (tgt : Int)) (k : GoL l G κ bs L xs own cc nL tgt lv st x) : GoL l G κ bs L xs own cc nL pc lv (.int a :: st) x := by
  intro p e s m args below meth c C H locs ls hl hH hS
  obtain ⟨hx, hb, hml, ho, hts, hr, hk, hkn⟩ := id C
  subst ha
  exact lv_tableIn hx hb hd h1 h2 h3 ht (k p e s m args below meth c C H locs ls hl hH hS)
theorem GoL.tabOut {dflt lo2 hi : Int} {offs : Array Int} {len : Nat} {a : Int32} (tgt : Nat) (hd : decode cc pc = .ok (.tableswitch dflt lo2 hi offs, len)) (h1 : a.toInt < lo2 ∨ hi < a.toInt) (ht : (pc : Int) + dflt = (tgt : Int)) (k : GoL l G κ bs L xs own cc nL tgt lv st x) : GoL l G κ bs L xs own cc nL pc lv (.int a :: st) x := by
  intro p e s m args below meth c C H locs ls hl hH hS
  obtain ⟨hx, hb, hml, ho, hts, hr, hk, hkn⟩ := id C
  exact lv_tableOut hx hb hd h1 ht (k p e s m args below meth c C H locs ls hl hH hS)
end GOL
