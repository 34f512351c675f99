section RENEW
variable {E : Nat} {L : List Nat} {V : Vt} {g : Gh} {π : Nat → Nat} {N U : Nat}
def adr (L : List Nat) (t : It) : Nat := (L[t.1]?).getD 0
theorem adr_eq {t : It} {a : Nat} (h : L[t.1]? = some a) : adr L t = a := by unfold adr; rw [h]; rfl
/-- depth and reach above of an item -/
def Fdp (σ : Hp) (L : List Nat) (V : Vt) (t : It) : Prop := ∀ a, L[t.1]? = some a → σ.fi 308 a = nI t.2.1 ∧ (t.1 = V.R → σ.fi 309 a = -1) ∧ ∀ (p k : Nat) (e : Ent), p < V.U → (V.P p).lf = false → (V.P p).es[k]? = some e → e.2.2 = t.1 → σ.fi 309 a = nI e.2.1
theorem Fdp.to {σ σ' : Hp} {t : It} (h : Fdp σ L V t) (hf : ∀ a, L[t.1]? = some a → σ'.fi 308 a = σ.fi 308 a ∧ σ'.fi 309 a = σ.fi 309 a) : Fdp σ' L V t := fun a ha => by
  obtain ⟨f1, f2⟩ := hf a ha
  rw [f1, f2]
  exact h a ha
theorem Fw.df {σ σ' : Hp} {p E8 : Nat} (h : Fw V L p 0 E8 σ σ') : Df (fun x => Fp 3 E L x ∨ x = 28 ∨ x = E8) σ σ' := ⟨h.1, h.2.1, fun y hy nA => by
  obtain ⟨⟨a1, a2, a3, a4, a5⟩, a6⟩ := h.2.2 y hy (fun z => nA (Or.inr (Or.inl z))) (fun z => nA (Or.inr (Or.inr z)))
  exact ⟨fun i => a6 i (Or.inr (fun j e _ _ z => nA (Or.inl (Or.inr (Or.inr ⟨y, List.mem_of_getElem? z, Nat.le_refl _, Nat.le_add_right _ _⟩))))), a3, a4, a5⟩⟩
theorem kidI_adr (t : It) : kb V L t.1 = (kidI V π t).map (adr L) := by
  rw [kb_kids, ← kidI_kids (π := π), List.map_map]
  rfl
theorem kidI_get {t x : It} (hx : x ∈ kidI V π t) : (V.P t.1).lf = false ∧ ∃ (k : Nat) (e : Ent), (V.P t.1).es[k]? = some e ∧ x = (e.2.2, t.2.1 + 1, nI (π t.1), nI k) := by
  unfold kidI at hx
  by_cases z : (V.P t.1).lf = true
  · rw [if_pos z] at hx; cases hx
  · rw [if_neg z] at hx
    refine ⟨by simpa using z, ?_⟩
    obtain ⟨k, hk⟩ := List.mem_iff_getElem?.mp hx
    rw [List.getElem?_mapIdx] at hk
    cases q : (V.P t.1).es[k]? with
    | none => rw [q] at hk; cases hk
    | some e =>
      rw [q] at hk
      have hk : some ((e.2.2, t.2.1 + 1, nI (π t.1), nI k) : It) = some x := hk
      cases hk
      exact ⟨k, e, q, rfl⟩
theorem c_renew43 (w : Wf V g V.U) : ∀ (m F : Nat) (st D : List It) (σ : Hp) (E8 : Nat), m < F → (stk V g π st).length = m → fl V g π = D ++ stk V g π st → (∀ x ∈ D ++ st, x.1 < V.U) → St σ 3 E L V → Wn σ → Wl N U σ E L E8 ((D ++ st).map (adr L)) → (∀ t ∈ D ++ st, Fdp σ L V t) → (∀ (j : Nat) (t : It) (a : Nat), D[j]? = some t → L[t.1]? = some a → σ.fi 306 a = nI j) → ∃ σ' E8', kX10_renew_43 F 27 (nI D.length) σ = kX10_renew_93 27 σ' ∧ St σ' 3 E L V ∧ Wn σ' ∧ Wl N U σ' E L E8' ((fl V g π).map (adr L)) ∧ (∀ t ∈ fl V g π, Fdp σ' L V t) ∧ (∀ (j : Nat) (t : It) (a : Nat), (fl V g π)[j]? = some t → L[t.1]? = some a → σ'.fi 306 a = nI j) ∧ Df (fun x => Fp 3 E L x ∨ x = 28 ∨ x = E8) σ σ' ∧ (E8' = E8 ∨ σ.nx ≤ E8')
  | m, 0, _, _, _, _, h, _, _, _, _, _, _, _, _ => absurd h (Nat.not_lt_zero m)
  | m, F + 1, [], D, σ, E8, _, hm, hfl, hU, st, wn, wl, hfd, h6 => by
    have eD : fl V g π = D := hfl.trans (List.append_nil D)
    have len : D.length = V.U := by rw [← eD, fl_len]; exact ord_full w
    rw [List.append_nil] at wl hfd
    have u := w.u
    rw [kX10_renew_43.eq_2, gfr_ok wl.1.1, wl.1.2.1, bind_s, st.u, bind_s, if_pos (by rw [len]; exact nI_le (Nat.le_refl _) (by omega))]
    exact ⟨σ, E8, rfl, st, wn, by rw [eD]; exact wl, by rw [eD]; exact hfd, by rw [eD]; exact h6, Df.rfl, Or.inl rfl⟩
  | m, F + 1, t :: rest, D, σ, E8, hF, hm, hfl, hU, st, wn, wl, hfd, h6 => by
    have tU : t.1 < V.U := hU t (List.mem_append_right _ (List.mem_cons_self ..))
    have u := w.u
    have hfl2 := hfl
    rw [stk_step w tU] at hfl2 hm
    rw [List.length_cons] at hm
    have flen : (fl V g π).length = V.U := by rw [fl_len]; exact ord_full w
    have len : D.length + m = V.U := by
      rw [← flen, hfl2, List.length_append, List.length_cons]
      omega
    have sl := (stk_sub (V := V) (g := g) (π := π) (kidI V π t ++ rest)).length_le
    rw [List.length_append] at sl
    obtain ⟨a, ha, pc, hat⟩ := st.pg tU
    have l7 := pc.le
    have nd := st.2.2.2.1
    have aF : Fp 3 E L a := Or.inr (Or.inr ⟨a, List.mem_of_getElem? ha, ⟨Nat.le_refl _, by omega⟩⟩)
    have hget : ((D ++ t :: rest).map (adr L))[D.length]? = some a := by
      rw [List.getElem?_map, List.getElem?_append_right (Nat.le_refl _), Nat.sub_self]
      show some (adr L t) = some a
      rw [adr_eq ha]
    -- all pages now at hand are unlike
    have hsub : ((D ++ [t]) ++ (kidI V π t ++ rest)).Sublist (fl V g π) := by
      rw [hfl2, List.append_assoc]
      exact (List.Sublist.refl D).append (List.cons_sublist_cons.mpr (stk_sub _))
    have hnd : (((D ++ [t]) ++ (kidI V π t ++ rest)).map (fun x => x.1)).Nodup := (fl_nd w).sublist (hsub.map _)
    rw [List.map_append, List.nodup_append] at hnd
    obtain ⟨nd1, nd2, nd3⟩ := hnd
    rw [List.map_append, List.nodup_append] at nd2
    have nk : ∀ x, x ∈ D ++ [t] ∨ x ∈ rest → x.1 ∉ kids V t.1 := fun x hx hk => by
      rw [← kidI_kids (π := π)] at hk
      rcases hx with hx | hx
      · exact nd3 x.1 (List.mem_map.mpr ⟨x, hx, rfl⟩) x.1 (by rw [List.map_append]; exact List.mem_append_left _ hk) rfl
      · exact nd2.2.2 x.1 hk x.1 (List.mem_map.mpr ⟨x, hx, rfl⟩) rfl
    have tD : ∀ x ∈ D, x.1 ≠ t.1 := fun x hx e => by
      rw [List.map_append, List.nodup_append] at nd1
      exact nd1.2.2 x.1 (List.mem_map.mpr ⟨x, hx, rfl⟩) t.1 (List.mem_map.mpr ⟨t, List.mem_singleton.mpr rfl, rfl⟩) e
    have eO : (D ++ t :: rest).map (adr L) = (D ++ [t]).map (adr L) ++ rest.map (adr L) := by rw [← List.map_append, List.append_assoc]; rfl
    rw [eO] at wl
    have aE := wl.2.2.1 a aF
    obtain ⟨f8, -⟩ := hfd t (List.mem_append_right _ (List.mem_cons_self ..)) a ha
    have wl2 := wl.w (i := 306) (x := a) (v := nI D.length) (by omega)
    have hT : ((D ++ [t]).map (adr L)).length = D.length + 1 := by rw [List.length_map, List.length_append]; rfl
    obtain ⟨s', E', q1, q2, q3, q4, q5, q6, q7, q8⟩ := c_lineUpBelow (E8 := E8) w (d := t.2.1) tU ha hT (by rw [hT, List.length_map]; omega) (st.w (i := 306) (x := a) (v := nI D.length) (by omega)) wn wl2 (by rw [fi_sfi, if_pos ⟨rfl, rfl⟩]) (by rw [fi_sfi, if_neg (by omega)]; exact f8)
    have eO2 : (D ++ [t]).map (adr L) ++ (kb V L t.1 ++ rest.map (adr L)) = ((D ++ [t]) ++ (kidI V π t ++ rest)).map (adr L) := by
      rw [kidI_adr (π := π), ← List.map_append, ← List.map_append]
    rw [eO2] at q4
    have keep : ∀ (x : It) (b i : Nat), L[x.1]? = some b → (i = 306 ∨ x.1 ∉ kids V t.1) → s'.fi i b = (sfi σ 306 a (nI D.length)).fi i b := fun x b i hb hi => by
      cases hl : (V.P t.1).lf with
      | true => rw [q8 hl]
      | false =>
        have bF : Fp 3 E L b := Or.inr (Or.inr ⟨b, List.mem_of_getElem? hb, ⟨Nat.le_refl _, by omega⟩⟩)
        have bE := wl.2.2.1 b bF
        refine (q5.2.2 b (Fp.lt st wn bF) bE.1 bE.2).2 i ?_
        rcases hi with rfl | hi
        · exact Or.inl ⟨by decide, by decide⟩
        · refine Or.inr (fun j e _ he z => hi ?_)
          have := nd_eq nd hb z
          rw [this]
          unfold kids
          rw [if_neg (by rw [hl]; decide)]
          exact List.mem_map.mpr ⟨e, List.mem_of_getElem? he, rfl⟩
    have dd : Df (fun x => Fp 3 E L x ∨ x = 28 ∨ x = E8) σ s' := (Df.xi (A := fun x => Fp 3 E L x ∨ x = 28 ∨ x = E8) (Or.inl aF)).tr q5.df
    obtain ⟨s2, E2, k1, k2, k3, k4, k5, k6, k7, k8⟩ := c_renew43 w (stk V g π (kidI V π t ++ rest)).length F (kidI V π t ++ rest) (D ++ [t]) s' E' (by omega) rfl (by rw [hfl2, List.append_assoc]; rfl) (fun x hx => by
      rcases List.mem_append.mp hx with hx | hx
      · rcases List.mem_append.mp hx with hx | hx
        · exact hU x (List.mem_append_left _ hx)
        · rw [List.mem_singleton.mp hx]; exact tU
      · rcases List.mem_append.mp hx with hx | hx
        · exact (kidI_lt w tU hx).1
        · exact hU x (List.mem_append_right _ (List.mem_cons_of_mem _ hx))) q2 q3 q4 (fun x hx => by
      have old : (x ∈ D ++ [t] ∨ x ∈ rest) → Fdp s' L V x := fun h => (hfd x (by
        rcases h with h | h
        · rcases List.mem_append.mp h with h | h
          · exact List.mem_append_left _ h
          · exact List.mem_append_right _ (by rw [List.mem_singleton.mp h]; exact List.mem_cons_self ..)
        · exact List.mem_append_right _ (List.mem_cons_of_mem _ h))).to (fun b hb => by
          rw [keep x b 308 hb (Or.inr (nk x h)), keep x b 309 hb (Or.inr (nk x h)), fi_sfi, if_neg (by omega), fi_sfi, if_neg (by omega)]
          exact ⟨rfl, rfl⟩)
      rcases List.mem_append.mp hx with hx | hx
      · exact old (Or.inl hx)
      · rcases List.mem_append.mp hx with hx | hx
        · obtain ⟨hl, k, e, he, rfl⟩ := kidI_get hx
          intro b hb
          have hb : L[e.2.2]? = some b := hb
          obtain ⟨z1, z2⟩ := q7 hl k e b he hb
          have ke := ((w.2.1 t.1 tU).2.1 e (List.mem_of_getElem? he)).2.2.1 hl
          refine ⟨z1, fun y => absurd y ke.2.2.2.2, fun p' k' e' hp' hl' he' ee => ?_⟩
          have ee : e'.2.2 = e.2.2 := ee
          have ke' := ((w.2.1 p' hp').2.1 e' (List.mem_of_getElem? he')).2.2.1 hl'
          have : p' = t.1 := by rw [← ke'.2.2.2.1, ee]; exact ke.2.2.2.1
          subst this
          exact (q7 hl k' e' b he' (by rw [ee]; exact hb)).2
        · exact old (Or.inr hx)) (fun j x b hj hb => by
      rw [keep x b 306 hb (Or.inl rfl)]
      by_cases z : j < D.length
      · rw [List.getElem?_append_left z] at hj
        have ne : b ≠ a := fun y => tD x (List.mem_of_getElem? hj) (nd_eq nd hb (y ▸ ha))
        rw [fi_sfi, if_neg (fun y => ne y.2)]
        exact h6 j x b hj hb
      · have zl : j = D.length := by
          have := (List.getElem?_eq_some_iff.mp hj).1
          rw [List.length_append] at this
          simp at this
          omega
        subst zl
        rw [List.getElem?_append_right (Nat.le_refl _), Nat.sub_self] at hj
        have : t = x := by simpa using hj
        subst this
        rw [ha] at hb
        cases hb
        rw [fi_sfi, if_pos ⟨rfl, rfl⟩])
    refine ⟨s2, E2, ?_, k2, k3, k4, k5, k6, dd.trans k7 (fun x hx q => ?_), ?_⟩
    · have k1 : kX10_renew_43 F 27 (nI (D ++ [t]).length) s' = kX10_renew_93 27 s2 := k1
      rw [List.length_append] at k1
      have k1 : kX10_renew_43 F 27 (nI (D.length + 1)) s' = kX10_renew_93 27 s2 := k1
      have lv := wl.2.1
      rw [← eO] at lv
      have sz := lv.size
      rw [List.length_map, List.length_append, List.length_cons] at sz
      rw [kX10_renew_43.eq_2, gfr_ok wl.1.1, wl.1.2.1, bind_s, st.u, bind_s, if_neg (nI_ge (by omega) (by omega)), gfr_ok wl.1.1, wl.1.2.2.2, bind_s, lv.c, sz, bind_s, if_neg (nI_ge (by omega) (by omega)), bind_s, lv.c, lv.at hget, bind_s, ckc_ok pc.1.1, pfi_ok pc.1.1, bind_s, ckd_ok (show (sfi σ 306 a (nI D.length)).kd 27 = 20 from wl.1.1), q1, bind_s, nI_1]
      exact k1
    · rcases q with q | q | q
      · exact Or.inl q
      · exact Or.inr (Or.inl q)
      · rcases q6 with z | z
        · exact Or.inr (Or.inr (q.trans z))
        · have z : σ.nx ≤ E' := z
          omega
    · have n1 := dd.1
      rcases k8 with z | z
      · rcases q6 with y | y
        · exact Or.inl (z.trans y)
        · have y : σ.nx ≤ E' := y
          exact Or.inr (by omega)
      · exact Or.inr (by omega)
end RENEW
