set_option maxHeartbeats 4000000 in
set_option maxRecDepth 100000 in
theorem whole_of {Inv : Nat → Hp → MS → Prop} (hP : Pure Inv) {p : Program} {e : Env} {s : State} {m : MethodId} {below : List Frame} {meth : Method} {c : Code} (l : Launch) (hflags : l.flags = flags0) {b L : Nat} {xs : Nat → Int32} (hL : L ≤ 3072) (C0 : lw_At p s m meth c b L xs) : W p l e room_1 s m #[Value.ref b] below meth c s.heap [] 0 0 (lw_Z below #[Value.ref b] s) (entryFrame m ([Value.ref b] : List Value).toArray 4) := by
  obtain ⟨hst, σ1, σ2, Z, n1, n2, hZ, r1, r2, hI⟩ := hP
  obtain ⟨D, cA, e0, mi, adK, adV, cM, iM, he0, kM, hKO⟩ := law_known C0
  obtain ⟨hx, hb, hr, hml, hown, hts0, hX, hbl, hlocks, hgv⟩ := id C0
  have hts : ∀ w ∈ gw, w.before #[Value.ref b] s = true := fun w hw => hts0 w (List.mem_filter.mp hw).1
  have hl := lv_entry ([.ref b]) (n := 4) (Nat.le_of_ble_eq_true rfl)
  rw [lg_entry_eq]
  generalize (lg_sl ([.ref b]) ++ List.replicate (4 - (lg_sl ([.ref b])).length) Slot.unset).toArray = ls at hl ⊢
  have hl : lvh ls 4 [(0, .ref b)] := ⟨hl, fun q hq => by rcases List.mem_singleton.mp hq with rfl; rfl⟩
  let G0 := mkG s.heap.size e0 (fun _ => False) D cA mi adK adV
  have kd2 : σ1.kd 2 = 21 := by
    have : σ1 = _ := ((Prod.mk.inj (Option.some.inj ((show nwO hp0 11 10 = some (2, _) from rfl).symm.trans n1))).2).symm
    rw [this]
    rfl
  have main : ∀ (H : Heap) (locs : List Loc) (ls : Array Slot), lvh ls 4 [(0, .ref b), (1, G0.rv 2)] → HC G0 σ2 H → va_S (AC G0) s.heap H locs → W p l e room_1 s m #[Value.ref b] below meth c H locs (H.size - s.heap.size) (ssum H s.heap.size) (lw_Z below #[Value.ref b] s) (F0 m 8 ls []) := by
    intro H locs ls hl hH hS
    exact law_mid hst hL hZ r1 r2 hI hx hb hml hown hts hr hlocks hX hbl rfl kM hKO hl hH ⟨hS.1, fun q g1 g2 => hS.2.1 q g1 (fun z => g2 z.1), fun q hq => (hS.2.2 q hq).1⟩
  have hK0 := hKO (fun _ => False)
  have C1 : CxC G0 R_law meth.name code 4 ret 2 0 p s m #[Value.ref b] meth c := ⟨hx, hb, hml, hown, hts, hr, hlocks, hK0.1, hK0.2, ⟨rfl, Nat.le_refl 2, ssum_self _⟩, rfl⟩
  have st8 : GoZ p e s m #[Value.ref b] below meth c l G0 R_law meth.name code 4 ret 16 698 2 0 (lw_Z below #[Value.ref b] s) 8 [(0, .ref b), (1, G0.rv 2)] [] σ2 := fun _ H locs ls hl hH hS => main H locs ls hl hH hS
  have st0 : GoZ p e s m #[Value.ref b] below meth c l G0 R_law meth.name code 4 ret 16 698 2 0 (lw_Z below #[Value.ref b] s) 0 [(0, .ref b)] [] hp0 := by
    classical
    refine GoZ.new (Y := Unit) (Z := ()) (K := fun a x1 => if a = 2 ∧ x1 = σ1 then some () else none) 11 rfl lq_cl iw_11 lq_ii dL_0 ?_ (fun a x1 h => ?_)
    · have e1 : nwO hp0 11 10 = some (2, σ1) := n1
      show bd2 (nwO hp0 11 10) _ = some ()
      rw [e1]
      show (if (2 : Nat) = 2 ∧ σ1 = σ1 then some () else none) = some ()
      rw [if_pos ⟨rfl, rfl⟩]
    · have hax : a = 2 ∧ x1 = σ1 := by
        by_cases q : a = 2 ∧ x1 = σ1
        · exact q
        · rw [if_neg q] at h
          cases h
      obtain ⟨rfl, rfl⟩ := hax
      refine GoZ.dup dL_3 (G0.rv_cat 2) ?_
      refine GoZ.calli (rest := [G0.rv 2]) (b := 2) (by decide) [] dL_4 lq_k rfl lq_i (ktX11_init 2 _ n2) rfl rfl (Nat.le_of_ble_eq_true rfl) (Nat.le_of_ble_eq_true rfl) ⟨G0.rv_cat 2, trivial⟩ (Nat.le_of_ble_eq_true rfl) ?_
      refine GoZ.astore_n [(0, .ref b), (1, G0.rv 2)] dL_7 (by decide) rfl ?_
      exact st8
  exact W.any (st0 C1 s.heap [] ls hl (hp0_HC he0) va_S.rf)
