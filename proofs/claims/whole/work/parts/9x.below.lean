section BELOW
variable {σ : Hp} {S : MS} {V : Vt} {π : Nat → Nat} {g : Gh} {E : Nat} {L : List Nat} {N U E8 : Nat} {O : List Nat}
theorem c_pol6 (st : St σ 3 E L V) (wl : Wl N U σ E L E8 ((fl V g π).map (adr L))) (w : Wf V g V.U) {t j : Nat} {t0 : It} (ht : t < 40) (hj : (fl V g π)[j]? = some t0) (hl : (V.P t0.1).lf = true) (hin : ∃ e ∈ (V.P t0.1).es, e.1 = t) (hu : ∀ q, q < V.U → (V.P q).lf = true → (∃ e ∈ (V.P q).es, e.1 = t) → q = t0.1) : kX10_placeOfLeaf_6 FU 27 (nI t) 0 σ = some (nI j, σ) := by
  have u := w.u
  have flen : (fl V g π).length = V.U := by rw [fl_len]; exact ord_full w
  have jl := (List.getElem?_eq_some_iff.mp hj).1
  have sz := wl.2.1.size
  rw [List.length_map, flen] at sz
  have page : ∀ i, i < V.U → ∃ (x : It) (a : Nat), (fl V g π)[i]? = some x ∧ x.1 < V.U ∧ PC σ a (V.P x.1) ∧ ((fl V g π).map (adr L))[i]? = some a := fun i hi => by
    obtain ⟨x, hx⟩ : ∃ x, (fl V g π)[i]? = some x := ⟨_, List.getElem?_eq_getElem (by omega)⟩
    have xU := (fl_itv w x (List.mem_of_getElem? hx)).1
    obtain ⟨a, ha, pc, hat⟩ := st.pg xU
    exact ⟨x, a, hx, xU, pc, by rw [List.getElem?_map, hx]; show some (adr L x) = _; rw [adr_eq ha]⟩
  have es40 : ∀ q, q < V.U → ∀ e ∈ (V.P q).es, e.1 < 2 ^ 31 := fun q hq e he => by have := ((w.2.1 q hq).2.1 e he).1.1; omega
  have key : ∀ (m F i : Nat), m < F → i + m = j → kX10_placeOfLeaf_6 F 27 (nI t) (nI i) σ = some (nI j, σ) := by
    intro m
    induction m with
    | zero =>
      intro F i hF hi
      obtain ⟨F, rfl⟩ : ∃ F', F = F' + 1 := ⟨F - 1, by omega⟩
      have : i = j := by omega
      subst this
      obtain ⟨x, a, x1, x2, x3, x4⟩ := page i (by omega)
      rw [hj] at x1
      cases x1
      have ps := pin_spec (V.P t0.1).es t
      have pn : pin (V.P t0.1).es t ≠ none := fun z => by
        rw [z] at ps
        obtain ⟨e, he, h⟩ := hin
        exact ps e he h
      obtain ⟨k, hk⟩ := Option.ne_none_iff_exists'.mp pn
      have kl := pin_lt hk
      have l7 := x3.le
      rw [kX10_placeOfLeaf_6.eq_2, gfr_ok wl.1.1, wl.1.2.2.2, bind_s, wl.2.1.c, sz, bind_s, if_neg (nI_ge (by omega) (by omega)), bind_s, wl.2.1.c, wl.2.1.at x4, bind_s, ckc_ok x3.1.1, x3.l, bind_s, bI_0', if_neg (by rw [hl]; decide), x3.1.c, c_placeIn x3 (by omega) (es40 _ x2), bind_s, hk, if_neg (show ¬ o2i (some k) = -1 from fun y => (nI_m1 (by omega)).mp y)]
    | succ m ih =>
      intro F i hF hi
      obtain ⟨F, rfl⟩ : ∃ F', F = F' + 1 := ⟨F - 1, by omega⟩
      obtain ⟨x, a, x1, x2, x3, x4⟩ := page i (by omega)
      have ne : x.1 ≠ t0.1 := fun z => by
        have := nd_eq (fl_nd w (π := π)) (i := i) (j := j) (a := t0.1) (by rw [List.getElem?_map, x1, ← z]; rfl) (by rw [List.getElem?_map, hj]; rfl)
        omega
      have step : kX10_placeOfLeaf_47 (kX10_placeOfLeaf_6 F) 27 (nI t) (nI i) σ = some (nI j, σ) := by
        unfold kX10_placeOfLeaf_47
        rw [nI_1]
        exact ih F (i + 1) (by omega) (by omega)
      rw [kX10_placeOfLeaf_6.eq_2, gfr_ok wl.1.1, wl.1.2.2.2, bind_s, wl.2.1.c, sz, bind_s, if_neg (nI_ge (by omega) (by omega)), bind_s, wl.2.1.c, wl.2.1.at x4, bind_s, ckc_ok x3.1.1, x3.l, bind_s, bI_0']
      cases hx : (V.P x.1).lf with
      | false => rw [if_pos (by decide)]; exact step
      | true =>
        have ps := pin_spec (V.P x.1).es t
        have pn : pin (V.P x.1).es t = none := by
          cases q : pin (V.P x.1).es t with
          | none => rfl
          | some k =>
            rw [q] at ps
            obtain ⟨⟨e, e1, e2⟩, -⟩ := ps
            exact absurd (hu x.1 x2 hx ⟨e, List.mem_of_getElem? e1, e2⟩) ne
        rw [if_neg (by decide), x3.1.c, c_placeIn x3 (by omega) (es40 _ x2), bind_s, pn, if_pos (show o2i none = -1 from rfl)]
        exact step
  exact key j FU 0 (FU_gt (by omega)) (by omega)
theorem j_leafOf (J : JC σ S E L V π g) (bv : Bv σ S V π) (wl : Wl N U σ E L E8 O) (x : Int32) : ∃ r σ' S', kX11_leafOf σ 2 x = some (r, σ') ∧ r_leafOf S x = some (r, S') ∧ Wk N U V σ E L E8 σ' ∧ Rk S S' := by
  obtain ⟨co, rt, hv, w, hg⟩ := J
  have lk := co.2.2.2.2.2
  have st := co.1
  have wn := co.2.2.1.1
  unfold kX11_leafOf r_leafOf
  obtain ⟨p, p1, p2, p3⟩ := bv.h x
  rw [lk.f0, bind_s, st.cs, p1, bind_s, p2, bind_s, bI_0', bI_0']
  cases p with
  | false => rw [if_pos (by decide), if_pos (by decide)]; exact ⟨_, _, _, rfl, rfl, Wk.rfl st wn wl, Rk.rfl⟩
  | true =>
    obtain ⟨t, rfl, t2⟩ := p3 rfl
    have t40 := t2.1
    obtain ⟨S1, q1, q2, q3⟩ := r_layOrder_eq rt w
    rw [ord_full w] at q1
    have q2 : Oj S1 π (fl V g π) := q2
    have rt1 : RT (S1.1 0) V π := by rw [q3.r0]; exact rt
    have lo : ∃ p0, g.lo t = some p0 := by
      have := hg t
      rw [decide_eq_true t2] at this
      exact Option.isSome_iff_exists.mp this
    obtain ⟨p0, hlo⟩ := lo
    obtain ⟨-, h1, h2, h3⟩ := w.2.2.1 t p0 hlo
    have hu : ∀ q, q < V.U → (V.P q).lf = true → (∃ e ∈ (V.P q).es, e.1 = t) → q = p0 := fun q hq hl ⟨e, he, h⟩ => by
      have := ((w.2.1 q hq).2.1 e he).2.2.2 hl
      rw [h, hlo] at this
      cases this
      rfl
    obtain ⟨j, t0, j1, rfl⟩ := fl_at w (π := π) h1
    obtain ⟨s', E', a1, a2, a3, a4, a5, a6, a7⟩ := c_renew w (π := π) st wn wl
    have ps := pin_spec (V.P t0.1).es t
    have pn : pin (V.P t0.1).es t ≠ none := fun z => by
      rw [z] at ps
      obtain ⟨e, he, h⟩ := h3
      exact ps e he h
    obtain ⟨k, hk⟩ := Option.ne_none_iff_exists'.mp pn
    rw [hk] at ps
    obtain ⟨⟨e0, e1, e2⟩, e3⟩ := ps
    have ho := r_holderOf_eq rt1 w (fun q hq e he => ((w.2.1 q hq).2.1 e he).1.1) t40 h1 h2 e1 e2 (fun q hq hl e he h => hu q hq hl ⟨e, he, h⟩) e3
    have oj2 : Oj (pf S1 14 (nI k)) π (fl V g π) := q2
    have pl := r_placeIn_eq (S1 := pf S1 14 (nI k)) rt1 w oj2 j1
    rw [if_neg (by decide), if_neg (by decide), lk.f4, bind_s, ckd_ok wl.1.1, q1, bd2_s, ho, bd2_s, pl, bind_s]
    unfold kX10_placeOfLeaf
    rw [ckd_ok wl.1.1, a1, bind_s, c_pol6 a2 a4 w t40 j1 h2 h3 hu, bd2_s]
    exact ⟨_, _, _, rfl, rfl, ⟨E', _, a2, a3, a4, a6, a7⟩, q3.trans (Rk.pf (by decide))⟩
/-- the greatest distance to things -/
def gsv (V : Vt) (c m t : Nat) : Nat := if m < far V c t then far V c t else m
def gbl (V : Vt) (c m : Nat) (T : List Nat) : Nat := T.foldl (gsv V c) m
theorem gbl_le (hv : Vw V) {c : Nat} : ∀ (T : List Nat) (m : Nat), m ≤ 99 → gbl V c m T ≤ 99
  | [], m, h => h
  | t :: T, m, h => gbl_le hv T (gsv V c m t) (by
    unfold gsv
    have := far_le hv c t
    split <;> omega)
theorem gsv_le (hv : Vw V) {c m t : Nat} (h : m ≤ 99) : gsv V c m t ≤ 99 := by
  unfold gsv
  have := far_le hv c t
  split <;> omega
theorem gbl_perm {c m : Nat} {T T' : List Nat} (h : T.Perm T') : gbl V c m T = gbl V c m T' := h.foldl_eq' (fun x _ y _ z => by
  unfold gsv
  generalize far V c x = a
  generalize far V c y = b
  by_cases z1 : z < a
  · rw [if_pos z1]
    by_cases z2 : z < b
    · rw [if_pos z2]; split <;> split <;> omega
    · rw [if_neg z2, if_pos z1, if_neg (by omega)]
  · rw [if_neg z1]
    by_cases z2 : z < b
    · rw [if_pos z2, if_neg (by omega)]
    · rw [if_neg z2, if_neg z1]) m
theorem c_gb66 {k23 : Nat → Nat → Int32 → Nat → Int32 → Int32 → Option Int32} (tv : Tv σ V) (hv : Vw V) (wl : σ.kd 27 = 20 ∧ σ.fr 1001 27 = 19) {a k b top n : Nat} {P Q : Pg} {e : Ent} (pca : PC σ a P) (he : P.es[k]? = some e) (hc : hs V e.1) (pcb : PC σ b Q) (hq : ∀ e ∈ Q.es, hs V e.1) : ∀ (m F i acc : Nat), m < F → i + m = Q.es.length → acc ≤ 99 → kX10_greatestBelow_66 σ k23 F 27 a (nI k) top (nI acc) (nI n) b (nI i) = k23 27 a (nI k) top (nI (gbl V e.1 acc (((if Q.lf = true then Q.es.map (fun e => e.1) else [])).drop i))) (nI (n + 1))
  | m, 0, _, _, h, _, _ => absurd h (Nat.not_lt_zero m)
  | 0, F + 1, i, acc, _, hi, ha => by
    have l7 := pcb.le
    have : ((if Q.lf = true then Q.es.map (fun e => e.1) else [])).drop i = [] := List.drop_eq_nil_of_le (by
      split
      · rw [List.length_map]; omega
      · exact Nat.zero_le _)
    rw [this, kX10_greatestBelow_66.eq_2, pcb.n, bind_s, if_pos (nI_le (by omega) (by omega))]
    unfold kX10_greatestBelow_129
    rw [nI_1]; rfl
  | m + 1, F + 1, i, acc, hF, hi, ha => by
    have l7 := pcb.le
    rw [kX10_greatestBelow_66.eq_2, pcb.n, bind_s, if_neg (nI_ge (by omega) (by omega)), pcb.l, bind_s, bI_0']
    cases hl : Q.lf with
    | false =>
      rw [if_pos (by decide), if_neg (by decide), List.drop_nil]
      unfold kX10_greatestBelow_129
      rw [nI_1]; rfl
    | true =>
      obtain ⟨f, hf⟩ : ∃ f, Q.es[i]? = some f := ⟨_, List.getElem?_eq_getElem (by omega)⟩
      have hsf := hq f (List.mem_of_getElem? hf)
      have dr : (Q.es.map (fun e => e.1)).drop i = f.1 :: (Q.es.map (fun e => e.1)).drop (i + 1) := by
        rw [List.drop_eq_getElem_cons (by rw [List.length_map]; omega)]
        congr 1
        rw [List.getElem_map]
        have := (List.getElem?_eq_some_iff.mp hf).2
        rw [this]
      have ih := c_gb66 (k23 := k23) (top := top) (n := n) tv hv wl pca he hc pcb hq m F (i + 1) (gsv V e.1 acc f.1) (by omega) (by omega) (gsv_le hv ha)
      rw [hl, if_pos rfl] at ih
      have fl99 := far_le hv e.1 f.1
      rw [if_neg (by decide), if_pos rfl, gfr_ok wl.1, wl.2, bind_s, pca.1.f1, bind_s, pca.t he, bind_s, pcb.1.f1, bind_s, pcb.t hf, bind_s, tv.kf, tv.of hc hsf, bind_s, dr]
      unfold kX10_greatestBelow_121
      show _ = k23 27 a (nI k) top (nI (gbl V e.1 (gsv V e.1 acc f.1) ((Q.es.map (fun e => e.1)).drop (i + 1)))) (nI (n + 1))
      rw [← ih, nI_1]
      unfold gsv
      by_cases z : acc < far V e.1 f.1
      · rw [if_pos z, if_neg (nI_ge z (by omega))]
      · rw [if_neg z, if_pos (nI_le (by omega) (by omega))]
theorem itp_seg (w : Wf V g V.U) {j i : Nat} {t : It} (hj : (fl V g π)[j]? = some t) (hi : i < spn V g t.1) : ∃ x, (fl V g π)[j + i]? = some x ∧ (pre V (g.ht t.1) t.1)[i]? = some x.1 := by
  obtain ⟨D, t', rest, e1, e2, e3, e4⟩ := fl_split w (π := π) j (List.getElem?_eq_some_iff.mp hj).1
  rw [hj] at e3
  cases e3
  have len : (itp V π (g.ht t.1) t).length = spn V g t.1 := by
    have := congrArg List.length (itp_pre (V := V) (π := π) (g.ht t.1) t)
    rw [List.length_map] at this
    exact this
  obtain ⟨x, hx⟩ : ∃ x, (itp V π (g.ht t.1) t)[i]? = some x := ⟨_, List.getElem?_eq_getElem (by omega)⟩
  refine ⟨x, ?_, ?_⟩
  · rw [e1, List.getElem?_append_right (by omega), e2, show j + i - j = i by omega]
    show (itp V π (g.ht t.1) t ++ stk V g π rest)[i]? = some x
    rw [List.getElem?_append_left (by omega)]
    exact hx
  · rw [← itp_pre (π := π), List.getElem?_map, hx]; rfl
/-- the walk's places and spans -/
def Rg (σ : Hp) (L : List Nat) (V : Vt) (g : Gh) (π : Nat → Nat) : Prop := ∀ (j : Nat) (t : It) (a : Nat), (fl V g π)[j]? = some t → L[t.1]? = some a → σ.fi 306 a = nI j ∧ σ.fi 307 a = nI (spn V g t.1)
theorem Rv.rg (h : Rv σ L V g π) : Rg σ L V g π := fun j t a h1 h2 => ⟨(h j t a h1 h2).1.1, (h j t a h1 h2).1.2.1⟩
theorem c_gb (st : St σ 3 E L V) (wl : Wl N U σ E L E8 ((fl V g π).map (adr L))) (rg : Rg σ L V g π) (tv : Tv σ V) (hv : Vw V) (w : Wf V g V.U) {p a k : Nat} {e : Ent} (hp : p < V.U) (ha : L[p]? = some a) (hl : (V.P p).lf = false) (he : (V.P p).es[k]? = some e) : kX10_greatestBelow σ 27 a (nI k) = some (nI (gbl V e.1 0 (tbl V g e.2.2))) := by
  have u := w.u
  have pc := st.2.2.2.2.2.2 p a hp ha
  have hc := ((w.2.1 p hp).2.1 e (List.mem_of_getElem? he)).1
  obtain ⟨c1, -⟩ := ((w.2.1 p hp).2.1 e (List.mem_of_getElem? he)).2.2.1 hl
  obtain ⟨top, htop, pct, hat⟩ := st.pg c1
  obtain ⟨j, t, j1, j2⟩ := fl_at w (π := π) c1
  have jl := (List.getElem?_eq_some_iff.mp j1).1
  have flen : (fl V g π).length = V.U := by rw [fl_len]; exact ord_full w
  obtain ⟨r6, r7⟩ := rg j t top j1 (by rw [j2]; exact htop)
  rw [j2] at r7
  have sz := wl.2.1.size
  rw [List.length_map, flen] at sz
  have key : ∀ (m F i acc : Nat), m < F → i + m = spn V g e.2.2 → acc ≤ 99 → kX10_greatestBelow_23 σ F 27 a (nI k) top (nI acc) (nI (j + i)) = some (nI (gbl V e.1 acc (((pre V (g.ht e.2.2) e.2.2).drop i).flatMap (ths V)))) := by
    intro m
    induction m with
    | zero =>
      intro F i acc hF hi hacc
      obtain ⟨F, rfl⟩ : ∃ F', F = F' + 1 := ⟨F - 1, by omega⟩
      have sl := pre_len w c1
      rw [List.drop_eq_nil_of_le (by show spn V g e.2.2 ≤ i; omega), kX10_greatestBelow_23.eq_2, gfi_ok pct.1.1, r6, bind_s, gfi_ok pct.1.1, r7, bind_s, nI_add, if_pos (nI_le (by omega) (by omega))]
      rfl
    | succ m ih =>
      intro F i acc hF hi hacc
      obtain ⟨F, rfl⟩ : ∃ F', F = F' + 1 := ⟨F - 1, by omega⟩
      have sl := pre_len w c1
      obtain ⟨x, x1, x2⟩ := itp_seg w j1 (i := i) (by rw [j2]; omega)
      rw [j2] at x2
      have xl := (List.getElem?_eq_some_iff.mp x1).1
      have xU := (fl_itv w x (List.mem_of_getElem? x1)).1
      obtain ⟨b, hb, pcb, -⟩ := st.pg xU
      have hget : ((fl V g π).map (adr L))[j + i]? = some b := by rw [List.getElem?_map, x1]; show some (adr L x) = _; rw [adr_eq hb]
      have dr : (pre V (g.ht e.2.2) e.2.2).drop i = x.1 :: (pre V (g.ht e.2.2) e.2.2).drop (i + 1) := by
        rw [List.drop_eq_getElem_cons (List.getElem?_eq_some_iff.mp x2).1]
        congr 1
        exact (List.getElem?_eq_some_iff.mp x2).2
      have l7 := pcb.le
      have in66 := c_gb66 (k23 := kX10_greatestBelow_23 σ F) (top := top) (n := j + i) tv hv ⟨wl.1.1, wl.1.2.2.1⟩ pc he hc pcb (fun f hf => ((w.2.1 x.1 xU).2.1 f hf).1) (V.P x.1).es.length FU 0 acc (FU_gt (by omega)) (by omega) hacc
      rw [List.drop_zero] at in66
      have in66 : kX10_greatestBelow_66 σ (kX10_greatestBelow_23 σ F) FU 27 a (nI k) top (nI acc) (nI (j + i)) b 0 = kX10_greatestBelow_23 σ F 27 a (nI k) top (nI (gbl V e.1 acc (ths V x.1))) (nI (j + i + 1)) := in66
      rw [kX10_greatestBelow_23.eq_2, gfi_ok pct.1.1, r6, bind_s, gfi_ok pct.1.1, r7, bind_s, nI_add, if_neg (nI_ge (by omega) (by omega)), gfr_ok wl.1.1, wl.1.2.2.2, bind_s, wl.2.1.c, sz, bind_s, if_neg (nI_ge (by omega) (by omega)), bind_s, wl.2.1.c, wl.2.1.at hget, bind_s, ckc_ok pcb.1.1, in66, show j + i + 1 = j + (i + 1) by omega, ih F (i + 1) _ (by omega) (by omega) (gbl_le hv _ _ hacc), dr, List.flatMap_cons]
      unfold gbl
      rw [List.foldl_append]
  unfold kX10_greatestBelow
  rw [gfr_ok wl.1.1, wl.1.2.1, bind_s, pc.1.f3, bind_s, pc.b he hl, bind_s, st.cs, hat, bind_s, gfi_ok pct.1.1, r6, bind_s]
  have sl := pre_len w c1
  have := key (spn V g e.2.2) FU 0 0 (FU_gt (by omega)) (by omega) (by omega)
  rw [List.drop_zero] at this
  exact this
def R4 (S S' : MS) : Prop := Rn (fun j => j = 2 ∨ j = 3 ∨ j = 8 ∨ j = 9) (fun _ => False) S S'
theorem R4.r0 {S' : MS} (h : R4 S S') : S'.1 0 = S.1 0 := h.1 0 (by decide)
theorem R4.rk {S' : MS} (h : R4 S S') : Rk S S' := ⟨fun j hj => h.1 j (by omega), fun k _ => h.2 k (fun y => y)⟩
theorem R89.r4 {S' : MS} (h : R89 S S') : R4 S S' := ⟨fun j hj => h.1 j (by omega) (by omega), fun k _ => by rw [h.2]⟩
theorem r_gb (rt : RT (S.1 0) V π) (hv : Vw V) (w : Wf V g V.U) {p k : Nat} {e : Ent} (hp : p < V.U) (hl : (V.P p).lf = false) (he : (V.P p).es[k]? = some e) : ∃ S', r_farthestBelow S (nI (π p)) (nI k) = some (nI (gbl V e.1 0 (tbl V g e.2.2)), S') ∧ R4 S S' := by
  have u := w.u
  obtain ⟨p1, rp⟩ := rt.2.2.1 p hp
  have hc := ((w.2.1 p hp).2.1 e (List.mem_of_getElem? he)).1
  obtain ⟨c1, -⟩ := ((w.2.1 p hp).2.1 e (List.mem_of_getElem? he)).2.2.1 hl
  have he' : ((V.P p).es.map (reE V π (V.P p)))[k]? = some (reE V π (V.P p) e) := by rw [List.getElem?_map, he]; rfl
  have e3 : r_entryOf S (nI (π p)) (nI k) 3 = some (nI (π e.2.2)) := by
    rw [rp.e3 (by omega) he']
    unfold reE
    rw [if_neg (by rw [hl]; decide)]
  obtain ⟨S1, k1, k2, k3, k4⟩ := r_layBelow_eq rt hv w c1
  have pm := rth_perm w _ e.2.2 rfl c1
  rw [← gbl_perm pm]
  have th : ∀ t ∈ rth V (g.ht e.2.2) e.2.2, hs V t := fun t ht => tbl_th w c1 (pm.mem_iff.mp ht)
  have t40 := tbn_le w c1
  rw [← k3] at k1 t40
  generalize rth V (g.ht e.2.2) e.2.2 = T at *
  have key : ∀ (m F i acc : Nat) (S' : MS), m < F → i + m = T.length → acc ≤ 99 → R4 S S' → Ob S' T → ∃ S'', r_farthestBelow_18 F (nI (π p)) (nI k) (nI T.length) (nI acc) (nI i) S' = some (nI (gbl V e.1 acc (T.drop i)), S'') ∧ R4 S S'' := by
    intro m
    induction m with
    | zero =>
      intro F i acc S' hF hi hacc r4 ob
      obtain ⟨F, rfl⟩ : ∃ F', F = F' + 1 := ⟨F - 1, by omega⟩
      rw [List.drop_eq_nil_of_le (by omega), r_farthestBelow_18.eq_2, if_pos (nI_le (by omega) (by omega))]
      exact ⟨S', rfl, r4⟩
    | succ m ih =>
      intro F i acc S' hF hi hacc r4 ob
      obtain ⟨F, rfl⟩ : ∃ F', F = F' + 1 := ⟨F - 1, by omega⟩
      obtain ⟨t, ht⟩ : ∃ t, T[i]? = some t := ⟨_, List.getElem?_eq_getElem (by omega)⟩
      have dr : T.drop i = t :: T.drop (i + 1) := by
        rw [List.drop_eq_getElem_cons (List.getElem?_eq_some_iff.mp ht).1]
        congr 1
        exact (List.getElem?_eq_some_iff.mp ht).2
      have rt' : RT (S'.1 0) V π := by rw [r4.r0]; exact rt
      have rp' := (rt'.2.2.1 p hp).2
      obtain ⟨S2, f1, f2⟩ := r_farOf_eq rt'.1 hv hc (th t (List.mem_of_getElem? ht))
      have r42 : R4 S S2 := r4.tr (Rn.s2 f2 (Or.inl rfl) (Or.inr (Or.inl rfl)))
      have ob2 : Ob S2 T := fun j x hj => by rw [f2.r (by decide) (by decide)]; exact ob j x hj
      have fl99 := far_le hv e.1 t
      obtain ⟨S3, g1, g2⟩ := ih F (i + 1) (gsv V e.1 acc t) S2 (by omega) (by omega) (gsv_le hv hacc) r42 ob2
      refine ⟨S3, ?_, g2⟩
      rw [r_farthestBelow_18.eq_2, if_neg (nI_ge (by omega) (by omega)), rp'.e0 (by omega) he', bind_s, rd_ok (by rw [len8]; omega) (by omega), bind_s, ob i t ht, show (reE V π (V.P p) e).1 = e.1 from rfl, f1, bd2_s, dr]
      unfold r_farthestBelow_58
      show _ = some (nI (gbl V e.1 (gsv V e.1 acc t) (T.drop (i + 1))), S3)
      rw [← g1, nI_1]
      unfold gsv
      by_cases z : acc < far V e.1 t
      · rw [if_pos z, if_neg (nI_ge z (by omega))]
      · rw [if_neg z, if_pos (nI_le (by omega) (by omega))]
  obtain ⟨S2, g1, g2⟩ := key T.length FU 0 0 S1 (FU_gt (by omega)) (by omega) (by omega) k4.r4 k2
  rw [List.drop_zero] at g1
  refine ⟨S2, ?_, g2⟩
  unfold r_farthestBelow
  rw [e3, bind_s, k1, bd2_s]
  exact g1
end BELOW
