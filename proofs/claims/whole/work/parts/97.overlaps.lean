section OV
variable {σ : Hp} {S : MS} {V : Vt} {π : Nat → Nat} {g : Gh} {E : Nat} {L : List Nat}
/-- whether two entries of a page overlap -/
def oe (V : Vt) (es : List Ent) (k j : Nat) : Nat := match es[k]?, es[j]? with
  | some e, some d => if e.2.1 + d.2.1 < far V e.1 d.1 then 0 else 1
  | _, _ => 0
theorem oe_s {es : List Ent} {k j : Nat} {e d : Ent} (h1 : es[k]? = some e) (h2 : es[j]? = some d) : oe V es k j = if e.2.1 + d.2.1 < far V e.1 d.1 then 0 else 1 := by
  unfold oe; rw [h1, h2]
def ovk (V : Vt) (es : List Ent) (k : Nat) : Nat := su (fun i => oe V es k (k + 1 + i)) (es.length - (k + 1))
def ovs (V : Vt) (es : List Ent) : Nat := su (ovk V es) es.length
def ovp (V : Vt) (p : Pg) : Nat := if p.lf = true then 0 else ovs V p.es
theorem c_overlapsIn (ts : Ts σ E L V) (hv : Vw V) (w : Wf V g V.U) {p a : Nat} (hp : p < V.U) (h2 : PC σ a (V.P p)) : kX9_overlapsIn σ 23 a = some (nI (ovs V (V.P p).es)) := by
  have l7 := h2.le
  have es := w.es hp
  have es : ∀ (k : Nat) (e : Ent), (V.P p).es[k]? = some e → hs V e.1 ∧ e.2.1 ≤ 9000 := fun k e he => es e (List.mem_of_getElem? he)
  unfold kX9_overlapsIn ovs
  refine lp (V.P p).es.length (fun F k (_ : Unit) => kX9_overlapsIn_4 σ F 23 a (nI (su (ovk V (V.P p).es) k)) (nI k)) (fun _ _ => True) (fun r => r = some (nI (su (ovk V (V.P p).es) (V.P p).es.length))) (fun F _ _ => ?_) (fun F k _ hk _ => Or.inl ⟨(), trivial, ?_⟩) (V.P p).es.length 0 FU () (FU_gt (by omega)) (by omega) trivial
  · show kX9_overlapsIn_4 σ (F + 1) 23 a (nI (su (ovk V (V.P p).es) (V.P p).es.length)) (nI (V.P p).es.length) = _
    rw [kX9_overlapsIn_4.eq_2, h2.n, bind_s, if_pos (nI_le (Nat.le_refl _) (by omega))]
  · obtain ⟨e, he⟩ : ∃ e, (V.P p).es[k]? = some e := ⟨_, List.getElem?_eq_getElem hk⟩
    show kX9_overlapsIn_4 σ (F + 1) 23 a (nI (su (ovk V (V.P p).es) k)) (nI k) = kX9_overlapsIn_4 σ F 23 a (nI (su (ovk V (V.P p).es) k + ovk V (V.P p).es k)) (nI (k + 1))
    rw [kX9_overlapsIn_4.eq_2, h2.n, bind_s, if_neg (nI_ge hk (by omega)), nI_1]
    generalize su (ovk V (V.P p).es) k = n
    unfold ovk
    generalize hN : (V.P p).es.length - (k + 1) = N
    refine lp N (fun F' i (_ : Unit) => kX9_overlapsIn_17 σ (kX9_overlapsIn_4 σ F) F' 23 a (nI (n + su (fun i => oe V (V.P p).es k (k + 1 + i)) i)) (nI k) (nI (k + 1 + i))) (fun _ _ => True) (fun r => r = kX9_overlapsIn_4 σ F 23 a (nI (n + su (fun i => oe V (V.P p).es k (k + 1 + i)) N)) (nI (k + 1))) (fun F' _ _ => ?_) (fun F' i _ hi _ => Or.inl ⟨(), trivial, ?_⟩) N 0 FU () (FU_gt (by omega)) (by omega) trivial
    · show kX9_overlapsIn_17 σ (kX9_overlapsIn_4 σ F) (F' + 1) 23 a (nI (n + su (fun i => oe V (V.P p).es k (k + 1 + i)) N)) (nI k) (nI (k + 1 + N)) = _
      rw [kX9_overlapsIn_17.eq_2, h2.n, bind_s, if_pos (nI_le (by omega) (by omega)), nI_1]
    · obtain ⟨d, hd⟩ : ∃ d, (V.P p).es[k + 1 + i]? = some d := ⟨_, List.getElem?_eq_getElem (by omega)⟩
      have e1 := es k e he
      have e2 := es _ d hd
      have fl := far_le hv e.1 d.1
      show kX9_overlapsIn_17 σ (kX9_overlapsIn_4 σ F) (F' + 1) 23 a (nI (n + su (fun i => oe V (V.P p).es k (k + 1 + i)) i)) (nI k) (nI (k + 1 + i)) = kX9_overlapsIn_17 σ (kX9_overlapsIn_4 σ F) F' 23 a (nI (n + (su (fun i => oe V (V.P p).es k (k + 1 + i)) i + oe V (V.P p).es k (k + 1 + i)))) (nI k) (nI (k + 1 + (i + 1)))
      rw [kX9_overlapsIn_17.eq_2, h2.n, bind_s, if_neg (nI_ge (by omega) (by omega)), ts.2.1.fa, bind_s, h2.1.f1, bind_s, h2.t he, bind_s, bind_s, h2.t hd, bind_s, ts.2.1.kf, ts.2.1.of e1.1 e2.1, bind_s, h2.1.f2, bind_s, h2.r he, bind_s, bind_s, h2.r hd, bind_s, oe_s he hd, nI_add]
      unfold kX9_overlapsIn_66
      by_cases z : e.2.1 + d.2.1 < far V e.1 d.1
      · rw [if_pos (nI_lt z (by omega)), if_pos z, nI_1]; rfl
      · rw [if_neg (nI_nlt (by omega) (by omega)), if_neg z, nI_1, nI_1]; rfl
theorem c_countOverlaps (ts : Ts σ E L V) (hv : Vw V) (w : Wf V g V.U) : kX9_countOverlaps σ 23 = some (nI (su (fun p => ovp V (V.P p)) V.U)) := by
  have u := w.u
  unfold kX9_countOverlaps
  refine c_pgsum (V := V) (by omega) (fun F a q => kX9_countOverlaps_4 σ F 23 a q) (fun p => ovp V (V.P p)) (fun n => some (nI n)) (fun F n => ?_) (fun F n p hp => ?_)
  · rw [kX9_countOverlaps_4.eq_2, ts.2.1.st, bind_s, ts.1.u, bind_s, if_pos (nI_le (Nat.le_refl _) (by omega))]
  · obtain ⟨a, h1, h2, h3⟩ := ts.1.pg hp
    rw [kX9_countOverlaps_4.eq_2, ts.2.1.st, bind_s, ts.1.u, bind_s, if_neg (nI_ge hp (by omega)), bind_s, ts.1.cs, h3, bind_s, h2.l, bind_s]
    unfold kX9_countOverlaps_41 ovp
    by_cases z : (V.P p).lf = true
    · rw [if_neg (by rw [bI_t z]; decide), if_pos z, nI_1, Int32.add_zero]; rfl
    · rw [bI_0', if_pos z, ts.2.1.k, c_overlapsIn ts hv w hp h2, bind_s, if_neg z, nI_1, nI_add]
theorem r_overlaps_eq (rt : RT (S.1 0) V π) (hv : Vw V) (w : Wf V g V.U) : ∃ T, S2 S T ∧ r_overlaps S = some (nI (su (fun p => ovp V (V.P p)) V.U), T) := by
  have u := w.u
  unfold r_overlaps
  refine r_pgsum rt (by omega) r_overlaps_4 (fun p => ovp V (V.P p)) (fun n T => some (nI n, T)) (fun F n T _ => by rw [r_overlaps_4.eq_2, if_pos (by decide)]) (fun F n p T hp j => ?_) (fun F n q T h1 h2 j => ?_)
  · obtain ⟨p1, -⟩ := rt.2.2.1 p hp
    have rp : ∀ T', S2 S T' → RP (T'.1 0) (94 + 30 * π p) (V.P p).lf ((V.P p).es.map (reE V π (V.P p))) := fun T' j' => ((rt.s2 j').2.2.1 p hp).2
    have l7 := (rp T j).2.2
    rw [List.length_map] at l7
    have es := w.es hp
    have es : ∀ (k : Nat) (e : Ent), (V.P p).es[k]? = some e → hs V e.1 ∧ e.2.1 ≤ 9000 := fun k e he => es e (List.mem_of_getElem? he)
    have ge : ∀ {k : Nat} {e : Ent}, (V.P p).es[k]? = some e → ((V.P p).es.map (reE V π (V.P p)))[k]? = some (reE V π (V.P p) e) := fun he => by rw [List.getElem?_map, he]; rfl
    rw [r_overlaps_4.eq_2, show (784 : Int32) = nI 784 from rfl, if_neg (nI_ge (by omega) (by omega))]
    unfold ovp
    by_cases z : (V.P p).lf = true
    · refine ⟨T, j, ?_⟩
      rw [show FU = 999999 + 1 from rfl, r_overlaps_13.eq_2, (rp T j).n (by omega), bind_s, List.length_map, if_pos z]
      unfold r_overlaps_103
      by_cases y : (V.P p).es.length = 0
      · rw [if_pos (by rw [y]; decide), nI_1]; rfl
      · rw [show (0 : Int32) = nI 0 from rfl, if_neg (nI_ge (by omega) (by omega)), (rp T j).l (by omega), bind_s, if_neg (by rw [bI_t z]; decide), nI_1]; rfl
    · rw [if_neg z]
      unfold ovs
      refine lp (V.P p).es.length (fun F1 k (T1 : MS) => r_overlaps_13 (r_overlaps_4 F) F1 (nI (n + su (ovk V (V.P p).es) k)) (nI (π p)) (nI k) T1) (fun _ T1 => S2 S T1) (fun r => ∃ T', S2 S T' ∧ r = r_overlaps_4 F (nI (n + su (ovk V (V.P p).es) (V.P p).es.length)) (nI (π p + 1)) T') (fun F1 T1 j1 => ⟨T1, j1, ?_⟩) (fun F1 k T1 hk j1 => Or.inl ?_) (V.P p).es.length 0 FU T (FU_gt (by omega)) (by omega) j
      · show r_overlaps_13 (r_overlaps_4 F) (F1 + 1) (nI (n + su (ovk V (V.P p).es) (V.P p).es.length)) (nI (π p)) (nI (V.P p).es.length) T1 = _
        rw [r_overlaps_13.eq_2, (rp T1 j1).n (by omega), bind_s, List.length_map, if_pos (nI_le (Nat.le_refl _) (by omega))]
        unfold r_overlaps_103
        rw [nI_1]
      · obtain ⟨e, he⟩ : ∃ e, (V.P p).es[k]? = some e := ⟨_, List.getElem?_eq_getElem hk⟩
        show ∃ T2, S2 S T2 ∧ r_overlaps_13 (r_overlaps_4 F) (F1 + 1) (nI (n + su (ovk V (V.P p).es) k)) (nI (π p)) (nI k) T1 = r_overlaps_13 (r_overlaps_4 F) F1 (nI (n + (su (ovk V (V.P p).es) k + ovk V (V.P p).es k))) (nI (π p)) (nI (k + 1)) T2
        rw [r_overlaps_13.eq_2, (rp T1 j1).n (by omega), bind_s, List.length_map, if_neg (nI_ge hk (by omega)), (rp T1 j1).l (by omega), bind_s, bI_0', if_pos z, nI_1, ← Nat.add_assoc]
        generalize n + su (ovk V (V.P p).es) k = n1
        unfold ovk
        generalize hN : (V.P p).es.length - (k + 1) = N
        refine lp N (fun F2 i (T2 : MS) => r_overlaps_35 (r_overlaps_4 F) (r_overlaps_13 (r_overlaps_4 F) F1) F2 (nI (n1 + su (fun i => oe V (V.P p).es k (k + 1 + i)) i)) (nI (π p)) (nI k) (nI (k + 1 + i)) T2) (fun _ T2 => S2 S T2) (fun r => ∃ T2, S2 S T2 ∧ r = r_overlaps_13 (r_overlaps_4 F) F1 (nI (n1 + su (fun i => oe V (V.P p).es k (k + 1 + i)) N)) (nI (π p)) (nI (k + 1)) T2) (fun F2 T2 j2 => ⟨T2, j2, ?_⟩) (fun F2 i T2 hi j2 => Or.inl ?_) N 0 FU T1 (FU_gt (by omega)) (by omega) j1
        · show r_overlaps_35 (r_overlaps_4 F) (r_overlaps_13 (r_overlaps_4 F) F1) (F2 + 1) (nI (n1 + su (fun i => oe V (V.P p).es k (k + 1 + i)) N)) (nI (π p)) (nI k) (nI (k + 1 + N)) T2 = _
          rw [r_overlaps_35.eq_2, (rp T2 j2).n (by omega), bind_s, List.length_map, if_pos (nI_le (by omega) (by omega)), nI_1]
        · obtain ⟨d, hd⟩ : ∃ d, (V.P p).es[k + 1 + i]? = some d := ⟨_, List.getElem?_eq_getElem (by omega)⟩
          have e1 := es k e he
          have e2 := es _ d hd
          have fl := far_le hv e.1 d.1
          obtain ⟨T3, g1, g2⟩ := r_farOf_eq (S := T2) (rt.s2 j2).1 hv e1.1 e2.1
          have j3 := j2.trans g2
          refine ⟨T3, j3, ?_⟩
          show r_overlaps_35 (r_overlaps_4 F) (r_overlaps_13 (r_overlaps_4 F) F1) (F2 + 1) (nI (n1 + su (fun i => oe V (V.P p).es k (k + 1 + i)) i)) (nI (π p)) (nI k) (nI (k + 1 + i)) T2 = r_overlaps_35 (r_overlaps_4 F) (r_overlaps_13 (r_overlaps_4 F) F1) F2 (nI (n1 + (su (fun i => oe V (V.P p).es k (k + 1 + i)) i + oe V (V.P p).es k (k + 1 + i)))) (nI (π p)) (nI k) (nI (k + 1 + (i + 1))) T3
          have x1 : r_entryOf T2 (nI (π p)) (nI k) 0 = some (nI e.1) := (rp T2 j2).e0 (by omega) (ge he)
          have x2 : r_entryOf T2 (nI (π p)) (nI (k + 1 + i)) 0 = some (nI d.1) := (rp T2 j2).e0 (by omega) (ge hd)
          have x3 : r_entryOf T3 (nI (π p)) (nI k) 1 = some (nI e.2.1) := (rp T3 j3).e1 (by omega) (ge he)
          have x4 : r_entryOf T3 (nI (π p)) (nI (k + 1 + i)) 1 = some (nI d.2.1) := (rp T3 j3).e1 (by omega) (ge hd)
          rw [r_overlaps_35.eq_2, (rp T2 j2).n (by omega), bind_s, List.length_map, if_neg (nI_ge (by omega) (by omega)), x1, bind_s, x2, bind_s, g1, bd2_s, x3, bind_s, x4, bind_s, oe_s he hd, nI_add]
          unfold r_overlaps_89
          by_cases z : e.2.1 + d.2.1 < far V e.1 d.1
          · rw [if_pos (nI_lt z (by omega)), if_pos z, nI_1, Int32.add_zero]; rfl
          · rw [if_neg (nI_nlt (by omega) (by omega)), if_neg z, nI_1, nI_1]; rfl
  · rw [r_overlaps_4.eq_2, show (784 : Int32) = nI 784 from rfl, if_neg (nI_ge (by omega) (by omega)), show FU = 999999 + 1 from rfl, r_overlaps_13.eq_2, rt.fr j h1 h2, bind_s, if_pos (by decide)]
    unfold r_overlaps_103
    rw [nI_1]
end OV
