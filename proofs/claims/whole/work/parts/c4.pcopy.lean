section PCOPY
variable {σ σ' : Hp} {own : Nat → Nat} {K SS IS : List Nat} {EK ES EI : Nat} {eo : Nat → Nat} {lo : Nat → List Nat} {vo : Nat → Vt}
/-- the past, its marks told by themselves -/
def PPg (own : Nat → Nat) (K SS IS : List Nat) (EK ES EI : Nat) (eo : Nat → Nat) (lo : Nat → List Nat) (vo : Nat → Vt) (gS gI : Nat → Bool) (σ : Hp) : Prop := (σ.kd 38 = 14 ∧ σ.fr 400 38 = 39 ∧ σ.fr 401 38 = 40 ∧ σ.fr 402 38 = 41 ∧ σ.fr 403 38 = 42) ∧ (Lv σ 39 EK K ∧ Lv σ 40 ES SS ∧ Lv σ 41 EI IS) ∧ ((EK ≠ 1 → own EK = 39) ∧ (ES ≠ 1 → own ES = 40) ∧ (EI ≠ 1 → own EI = 41)) ∧ ((K.Nodup ∧ ∀ s ∈ K, 60 ≤ s) ∧ (SS.Nodup ∧ ∀ s ∈ SS, s ∈ K) ∧ (IS.Nodup ∧ ∀ s ∈ IS, s ∈ K) ∧ K.length ≤ 40) ∧ (∀ s, s = 42 ∨ s ∈ K → St σ s (eo s) (lo s) (vo s) ∧ (∀ x, Fp s (eo s) (lo s) x → own x = s) ∧ Vw (vo s) ∧ (vo s).U ≤ 780) ∧ (∀ s ∈ K, σ.fi 711 s = bI (gS s = true) ∧ σ.fi 712 s = bI (gI s = true))
theorem Pn_pt {E : Nat} {L : List Nat} : Pn σ E L = σ.nx + pt σ E L := by unfold Pn pt; omega
theorem Pu_pv {E : Nat} {L : List Nat} : Pu σ E L = σ.us + pv σ E L := by unfold Pu pv; omega
theorem bI_cg {p q : Prop} [Decidable p] [Decidable q] (h : p ↔ q) : bI p = bI q := by
  by_cases z : p
  · rw [bI_t z, bI_t (h.mp z)]
  · rw [bI_f z, bI_f (fun y => z (h.mpr y))]
theorem PPc.g (h : PPc own K SS IS EK ES EI eo lo vo σ) : PPg own K SS IS EK ES EI eo lo vo (fun s => decide (s ∈ SS)) (fun s => decide (s ∈ IS)) σ := by
  obtain ⟨a, b, c, d, e, f⟩ := h
  refine ⟨a, b, c, d, e, fun s hs => ?_⟩
  rw [(f s hs).1, (f s hs).2]
  exact ⟨bI_cg (by simp), bI_cg (by simp)⟩
theorem PPg.c {gS gI : Nat → Bool} (h : PPg own K SS IS EK ES EI eo lo vo gS gI σ) (hS : ∀ s ∈ K, gS s = true ↔ s ∈ SS) (hI : ∀ s ∈ K, gI s = true ↔ s ∈ IS) : PPc own K SS IS EK ES EI eo lo vo σ := by
  obtain ⟨a, b, c, d, e, f⟩ := h
  refine ⟨a, b, c, d, e, fun s hs => ?_⟩
  rw [(f s hs).1, (f s hs).2]
  exact ⟨bI_cg (hS s hs), bI_cg (hI s hs)⟩
/-- another state is copied into one of the past -/
theorem PPg.copy {gS gI : Nat → Bool} {E : Nat} {L : List Nat} {V : Vt} {s : Nat} (h : PPg own K SS IS EK ES EI eo lo vo gS gI σ) (ow : Own own) (wn : Wn σ) (st3 : St σ 3 E L V) (o3 : ∀ x, Fp 3 E L x → own x = 3) (hs : s = 42 ∨ s ∈ K) (hv : Vw V) (hU : V.U ≤ 780) (hn : σ.nx + rN σ K EK ES EI eo lo ≤ NXc) (hu : σ.us + rU σ K EK ES EI eo lo ≤ UXc) : ∃ σ' own' eo' lo' vo', kX7_copyFrom σ s 3 = some σ' ∧ PPg own' K SS IS EK ES EI eo' lo' vo' gS gI σ' ∧ vo' s = V ∧ (∀ x, x ≠ s → vo' x = vo x) ∧ (∀ x, x < σ.nx → own' x = own x) ∧ Kf own σ σ' ∧ Wn σ' ∧ σ'.nx + rN σ' K EK ES EI eo' lo' ≤ σ.nx + rN σ K EK ES EI eo lo ∧ σ'.us + rU σ' K EK ES EI eo' lo' ≤ σ.us + rU σ K EK ES EI eo lo := by
  obtain ⟨⟨a1, a2⟩, ⟨b1, b2, b3⟩, ⟨c1, c2, c3⟩, ⟨⟨d1, d2⟩, d3, d4, d5⟩, e, f⟩ := id h
  obtain ⟨e1, e2, e3, e4⟩ := e s hs
  have s6 : s = 42 ∨ 60 ≤ s := hs.imp id (d2 s)
  have n42 : 42 ∉ K := fun z => by have := d2 42 z; omega
  have ptle : pt σ (eo s) (lo s) ≤ ((42 :: K).map (fun s => pt σ (eo s) (lo s))).sum := sum_le (f := fun s => pt σ (eo s) (lo s)) (42 :: K) (List.mem_cons.mpr hs)
  have pvle : pv σ (eo s) (lo s) ≤ ((42 :: K).map (fun s => pv σ (eo s) (lo s))).sum := sum_le (f := fun s => pv σ (eo s) (lo s)) (42 :: K) (List.mem_cons.mpr hs)
  obtain ⟨σ', E1, L1, g1, g2, ⟨w1, w2, w3, w4, w5, w6⟩, g4⟩ := c_copyFrom e1 st3 wn (fun x hx hx2 => by have := (e2 x hx2).symm.trans (o3 x hx); omega) hv.2.2.2.1 (by omega) (by rw [Pn_pt]; unfold rN at hn; omega) (by rw [Pu_pv]; unfold rU at hu; omega)
  obtain ⟨own', how⟩ : ∃ own' : Nat → Nat, own' = fun x => if x < σ.nx then own x else s := ⟨_, rfl⟩
  have ol : ∀ x, x < σ.nx → own' x = own x := fun x hx => by rw [how]; exact if_pos hx
  have oh : ∀ x, σ.nx ≤ x → own' x = s := fun x hx => by rw [how]; exact if_neg (by omega)
  obtain ⟨eo', he⟩ : ∃ eo' : Nat → Nat, eo' = fun x => if x = s then E1 else eo x := ⟨_, rfl⟩
  obtain ⟨lo', hl⟩ : ∃ lo' : Nat → List Nat, lo' = fun x => if x = s then L1 else lo x := ⟨_, rfl⟩
  obtain ⟨vo', hv'⟩ : ∃ vo' : Nat → Vt, vo' = fun x => if x = s then V else vo x := ⟨_, rfl⟩
  have en : ∀ x, x ≠ s → eo' x = eo x ∧ lo' x = lo x ∧ vo' x = vo x := fun x hx => by rw [he, hl, hv']; exact ⟨if_neg hx, if_neg hx, if_neg hx⟩
  have es : eo' s = E1 ∧ lo' s = L1 ∧ vo' s = V := by rw [he, hl, hv']; exact ⟨if_pos rfl, if_pos rfl, if_pos rfl⟩
  have nF : ∀ x, x < σ.nx → own x ≠ s → ¬ Fp s (eo s) (lo s) x := fun x _ hx q => hx (e2 x q)
  have fx : ∀ x, 38 ≤ x → x ≤ 41 → own x ≠ s := fun x h1 h2 q => by rw [ow.f (by omega) (by omega) (by omega)] at q; omega
  have el : ∀ {l E : Nat} {L : List Nat}, Lv σ l E L → 38 ≤ l → l ≤ 41 → (E ≠ 1 → own E = l) → Lv σ' l E L := fun h h1 h2 h3 => h.df wn w2 (nF _ (h.nl wn) (fx _ h1 h2)) (fun hn => nF _ (h.En wn) (by rw [h3 hn]; omega))
  have k38 := wn.lt a1
  have f38 := (w2.2.2 38 k38 (nF 38 k38 (fx 38 (by omega) (by omega)))).2.1
  have hG : PPg own' K SS IS EK ES EI eo' lo' vo' gS gI σ' := by
    refine ⟨⟨(w2.2.1 38 k38).1.trans a1, by rw [f38, f38, f38, f38]; exact a2⟩, ⟨el b1 (by omega) (by omega) c1, el b2 (by omega) (by omega) c2, el b3 (by omega) (by omega) c3⟩, ⟨fun hn => by rw [ol _ (b1.En wn)]; exact c1 hn, fun hn => by rw [ol _ (b2.En wn)]; exact c2 hn, fun hn => by rw [ol _ (b3.En wn)]; exact c3 hn⟩, ⟨⟨d1, d2⟩, d3, d4, d5⟩, fun x hx => ?_, fun x hx => ?_⟩
    · by_cases z : x = s
      · subst z
        rw [es.1, es.2.1, es.2.2]
        refine ⟨g2, fun y hy => ?_, hv, hU⟩
        by_cases q : y < σ.nx
        · rw [ol y q]; exact e2 y (w3 y q hy)
        · exact oh y (by omega)
      · obtain ⟨q1, q2, q3⟩ := en x z
        obtain ⟨u1, u2, u3, u4⟩ := e x hx
        rw [q1, q2, q3]
        exact ⟨u1.df wn w2 (fun y hy => nF y (Fp.lt u1 wn hy) (by rw [u2 y hy]; exact z)), fun y hy => by rw [ol y (Fp.lt u1 wn hy)]; exact u2 y hy, u3, u4⟩
    · by_cases z : x = s
      · rw [z, g4 711 (Or.inl rfl), g4 712 (Or.inr rfl)]
        rw [z] at hx
        exact f s hx
      · obtain ⟨u1, u2, -⟩ := e x (Or.inr hx)
        have sn := wn.lt u1.ks
        have ss : own x = x := u2 x (Or.inl ⟨Nat.le_refl _, by omega⟩)
        have q := (w2.2.2 x sn (nF x sn (by rw [ss]; exact z))).1
        rw [q, q]
        exact f x hx
  have ndZ : (42 :: K).Nodup := List.nodup_cons.mpr ⟨n42, d1⟩
  have lnE : ∀ x ∈ 42 :: K, σ'.ln (eo x) = σ.ln (eo x) := fun x hx => (w2.2.1 _ ((e x (List.mem_cons.mp hx)).1.En wn)).2
  have su1 := sum_upd (f := fun x => pt σ (eo x) (lo x)) (f' := fun x => pt σ' (eo' x) (lo' x)) (s := s) (42 :: K) ndZ (List.mem_cons.mpr hs) (fun x hx z => by
    show pt σ' (eo' x) (lo' x) = pt σ (eo x) (lo x)
    unfold pt
    rw [(en x z).1, (en x z).2.1, lnE x hx])
  have su2 := sum_upd (f := fun x => pv σ (eo x) (lo x)) (f' := fun x => pv σ' (eo' x) (lo' x)) (s := s) (42 :: K) ndZ (List.mem_cons.mpr hs) (fun x hx z => by
    show pv σ' (eo' x) (lo' x) = pv σ (eo x) (lo x)
    unfold pv
    rw [(en x z).1, (en x z).2.1, lnE x hx])
  have su1 : ((42 :: K).map (fun x => pt σ' (eo' x) (lo' x))).sum + pt σ (eo s) (lo s) = ((42 :: K).map (fun x => pt σ (eo x) (lo x))).sum + pt σ' E1 L1 := by rw [← es.1, ← es.2.1]; exact su1
  have su2 : ((42 :: K).map (fun x => pv σ' (eo' x) (lo' x))).sum + pv σ (eo s) (lo s) = ((42 :: K).map (fun x => pv σ (eo x) (lo x))).sum + pv σ' E1 L1 := by rw [← es.1, ← es.2.1]; exact su2
  have l1 := (w2.2.1 _ (b1.En wn)).2
  have l2 := (w2.2.1 _ (b2.En wn)).2
  have l3 := (w2.2.1 _ (b3.En wn)).2
  refine ⟨σ', own', eo', lo', vo', g1, hG, es.2.2, fun x hx => (en x hx).2.2, ol, w2.mono (fun x hx q => ?_), w1, ?_, ?_⟩
  · have := e2 x q
    omega
  · rw [Pn_pt, Pn_pt] at w5
    unfold rN
    rw [l1, l2, l3]
    omega
  · rw [Pu_pv, Pu_pv] at w6
    unfold rU
    rw [l1, l2, l3]
    omega
end PCOPY
