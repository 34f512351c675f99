/-- THE PURE STATEMENT: both begin, and go on, alike -/
def Pure (Inv : Nat → Hp → MS → Prop) : Prop := LStep Inv ∧ ∃ (σ1 σ2 : Hp) (Z : MS), nwO hp0 11 10 = some (2, σ1) ∧ kX11_init σ1 2 = some σ2 ∧ r_init = some Z ∧ σ2.nx + 31 ≤ NXc ∧ σ2.us + (53 + p_sl 30) ≤ UXc ∧ Inv 0 (shM σ2) Z
set_option maxHeartbeats 4000000 in
set_option maxRecDepth 100000 in
theorem law_mid {Inv : Nat → Hp → MS → Prop} (hst : LStep Inv) {l : Launch} {base e0 mi b L : Nat} {D : va_G} {cA : Nat → ClassId} {adK adV : Nat → Nat} {xs : Nat → Int32} {σ : Hp} {Z : MS} (hL : L ≤ 3072) (hZ : r_init = some Z) (h1 : σ.nx + 31 ≤ NXc) (h2 : σ.us + (53 + p_sl 30) ≤ UXc) (hI : Inv 0 (shM σ) Z)
    {p : Program} {e : Env} {s : State} {m : MethodId} {below : List Frame} {meth : Method} {c : Code} (hx : p.tables.exec = Jvm.exec) (hb : c.code = code) (hml : c.maxLocals = 4) (ho : s.vm.findClass R_law = some m.cls) (hts : ∀ w ∈ gw, w.before #[Value.ref b] s = true) (hr : meth.sig.returnType = ret) (hlk : meth.locks = false)
    (hX : va_X b L xs s s.heap) (hbl : b < s.heap.size) (hbase : base = s.heap.size) {cM : ClassId} {iM : Nat → Nat} (kM : u_Kn s RX12 TX12 53 cM iM) (hKO : ∀ inM : Nat → Prop, KC (mkG base e0 inM D cA mi adK adV) s ∧ OC (mkG base e0 inM D cA mi adK adV) s)
    {H : Heap} {locs : List Loc} {ls : Array Slot} (hl : lvh ls 4 [(0, .ref b), (1, (mkG base e0 (fun _ => False) D cA mi adK adV).rv 2)]) (hH : HC (mkG base e0 (fun _ => False) D cA mi adK adV) σ H) (hS : va_S (AL s) s.heap H locs) :
    W p l e room_1 s m #[Value.ref b] below meth c H locs (H.size - s.heap.size) (ssum H s.heap.size) (lw_Z below #[Value.ref b] s) (F0 m 8 ls []) := by
  subst hbase
  have hK := (hKO (fun _ => False)).1
  have g1 := hH.1
  have b1 : H.size = s.heap.size + (σ.nx - 2) := g1.1
  have b2 : ssum H s.heap.size = σ.us := hH.2.1
  have hnxv : NXc = 600002 := rfl
  have huxv : UXc = 7302250 := rfl
  have g2 : 2 ≤ σ.nx := g1.2.1
  refine W.newc hx hb ho (hts _ lm_cl) (hts _ iw_m) (hts _ lm_ii) rfl dL_8 (by show _ ≤ 600000; omega) (by show _ ≤ 7302250; omega) fun cC kC f1 f2 f3 f4 => ?_
  cases f1.symm.trans kM.2.1
  obtain ⟨κ, hκ⟩ : ∃ κ : KMt, κ = (cM, iM, cA 1, cA 2, H.size, H.size + 31) := ⟨_, rfl⟩
  have hκo : κ.o = H.size := by rw [hκ]; rfl
  have hκs : κ.2.2.2.2.2 = κ.o + 31 := by rw [hκo, hκ]
  have hkP : KnP κ s := by rw [hκ]; exact ⟨⟨kM, hK.2.1.1, hK.2.2.1.1⟩, hK.2.1.2, hK.2.2.1.2⟩
  refine W.eq (g2 := F0 m 11 ls [.ref κ.o]) (by rw [hκo]) ?_
  refine lv_dup hx hb dL_11 rfl ?_
  have hp : HP κ (0, 0, mS0) (H.push (blank cM kC)) := by
    refine ⟨⟨by rw [Array.size_push, hκo]; rfl, ?_, fun _ _ _ => rfl⟩, ?_, fun j hj => absurd hj (Nat.not_lt_zero j)⟩
    · rw [hκo, Array.getElem?_push_size]
      show some (Array.map defaultValue kC.instanceTypes).size = some 53
      rw [Array.size_map, f4]
    · have := u_born tyX12 hts m_in kM f2 (o := H.size) (H := H.push (blank cM kC)) (by rw [Array.getElem?_push_size]) tyX12_ok
      have e1 : κ.1 = cM := by rw [hκ]
      have e2 : κ.2.1 = iM := by rw [hκ]
      rw [hκo, e1, e2]
      refine this.to (fun k hk => ?_)
      rw [p_def k hk]
      unfold p_fv
      cases m_af k with
      | none => rfl
      | some j => simp
  intro T hT X
  have hT0 : T.heap = H.push (blank cM kC) := hT
  obtain ⟨v, st₀, t, T', L1, h0, X', hL1, e1, e2, ⟨hv, hH1, hz, hkp⟩, stp⟩ := va_runI (Ts := gw) (own := R_law) (H := H.push (blank cM kC)) (mc := 30 - 0) (ms := p_sl 30 - p_sl 0) (rm := Rm 4 87 (30 - 0) (p_sl 30 - p_sl 0)) (b := κ.o) (As := []) (rest := [.ref κ.o]) (g := F0 m 12 ls [.ref κ.o, .ref κ.o]) ⟨hx, hb, hml, ho, hts⟩ (rt_init (l := l) hκs Z hZ) ⟨cb_of hts lm_k.1 lm_k.2.1 lm_k.2.2.1 lm_k.2.2.2 ⟨Nat.le_of_ble_eq_true rfl, Nat.le_of_ble_eq_true rfl⟩, rfl, hts _ lm_i⟩ ⟨pc_blind (EP_ok κ), fun U hU hW => ⟨rfl, by rw [hU]; exact hp, EP_ok κ s U hW.alike hkP⟩⟩ rfl rfl hl.1.1 rfl (lv_room (by show 1 ≤ 8; omega)) dL_12 ⟨by show _ + 1 + (30 - 0) ≤ 600000; omega, by show _ + 53 + (p_sl 30 - p_sl 0) ≤ 7302250; have : p_sl 0 = 0 := rfl; omega⟩ T hT0 X
  cases hv
  rw [h0] at hz hkp
  have hp2 : HP κ (30, 30, Z) T'.heap := by rw [e1]; exact hH1
  have hM2 : HM κ Z T'.heap := hp2.done hκs
  have hk2 : ∀ q : Nat, q < H.size → T'.heap[q]? = H[q]? := by
    intro q hq
    rw [e1, hkp q (by rw [Array.size_push]; omega) (fun z => by have z : κ.o ≤ q := z; omega), Array.getElem?_push_lt hq, ← Array.getElem?_eq_getElem]
  have hC2 := hH.shift hκo hM2 hκs hk2 h1 h2
  have hz2 : T'.heap.size = H.size + 31 := by rw [hM2.1.1, hκs, hκo]
  have hS2 : va_S (AL s) s.heap T'.heap (locs ++ L1) := ⟨by have := hS.1; omega, fun q g1 g2 => by rw [hk2 q (Nat.lt_of_lt_of_le g1 hS.1)]; exact hS.2.1 q g1 g2, fun q hq => by
    rcases List.mem_append.mp hq with h | h
    · exact hS.2.2 q h
    · have : κ.o ≤ q.base := hL1 q h
      have := hS.1
      show s.heap.size ≤ q.base
      omega⟩
  have key : W p l e room_1 s m #[Value.ref b] below meth c T'.heap (locs ++ L1) (T'.heap.size - s.heap.size) (ssum T'.heap s.heap.size) (lw_Z below #[Value.ref b] s) (F0 m 15 ls [.ref κ.o]) := by
    refine lv_astore_n (lv' := _) hx hb dL_15 rfl hl.1 (by decide) rfl (fun ls h1 => ?_)
    have hl1 : lvh ls 4 [(0, .ref b), (1, (mkG s.heap.size e0 (fun _ => False) D cA mi adK adV).rv 2), (2, .ref κ.o)] := hl.set rfl h1
    refine lv_iconst (v := 0) hx hb dL_16 (by decide) ?_
    refine lv_istore_n (lv' := _) hx hb dL_17 rfl hl1.1 (by decide) rfl (fun ls h2 => ?_)
    have hl2 : lvh ls 4 [(0, .ref b), (1, (mkG s.heap.size e0 (fun _ => False) D cA mi adK adV).rv 2), (2, .ref κ.o), (3, .int 0)] := hl1.set rfl h2
    have lp := law_loop (l := l) (G := mkG s.heap.size e0 (AM κ) D cA mi adK adV) (κ := κ) (b := b) (L := L) (xs := xs) hst hL 513 0 (shM σ) Z (by omega) (by omega) hI
    refine lp p e s m #[Value.ref b] below meth c ⟨hx, hb, hml, ho, hts, hr, hlk, (hKO (AM κ)).1, (hKO (AM κ)).2, hkP.1, hX, ⟨rfl, hbl, rfl⟩, rfl, by rw [hκo]; show s.heap.size ≤ H.size; omega⟩ T'.heap (locs ++ L1) ls hl2 ⟨hC2, ?_⟩ hS2
    have : κz κ T'.heap.size = κ := by
      rw [hz2, hκ]
      rfl
    rw [this]
    exact hM2
  obtain ⟨t2, a1, b1⟩ := W.any key T' rfl X'
  exact ⟨t2, stp t2 a1, b1⟩
