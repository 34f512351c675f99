section GOINTO
variable {σ0 : Hp} {V : Vt} {g : Gh} {E : Nat} {L : List Nat} {dq : Nat → Nat} {fa stays : Bool} {most lim lk : Nat} {T : List Nat}
/-- what stands of a search whatever it does -/
def Sb0 (V : Vt) (g : Gh) (E : Nat) (L : List Nat) (dq : Nat → Nat) (fa stays : Bool) (most lim : Nat) : Prop := Vw V ∧ Wf V g V.U ∧ Lo E L ∧ (∀ t, dq t ≤ 99) ∧ (1 ≤ most ∧ most ≤ 40) ∧ (stays = true → fa = false) ∧ lim ≤ 99
theorem c_letWait {σ : Hp} {X : Xs} {p b bd : Nat} {wy : Int32} (h : CX σ0 V E L dq fa stays most lim lk T σ X) (lo : Lo E L) (hp : p < V.U) (hb : L[p]? = some b) (hn : p ∉ qpg X.2.2.2.2) (hT : p ∉ T) : ∃ σ', kX6_letWait σ 29 b (sg fa bd) = some σ' ∧ CX σ0 V E L dq fa stays most lim lk T σ' (X.1, X.2.1, X.2.2.1, X.2.2.2.1, X.2.2.2.2 ++ [(p, bd, wy)]) := by
  obtain ⟨⟨st, tv, ⟨r, q, mo⟩, ck, sf, qc⟩, ⟨kv, n1, n2, n3⟩, ⟨cf, cl⟩, wv⟩ := h
  obtain ⟨w1, w2, w3⟩ := id wv
  have pcb := (st.2.2.2.2.2.2 p b hp hb).1.1
  have bL := List.mem_of_getElem? hb
  have nd := st.2.2.2.1
  have b29 : b ≠ 29 := by
    have := lo b (Or.inr (Or.inr ⟨b, bL, Nat.le_refl _, Nat.le_add_right _ _⟩))
    omega
  unfold kX6_letWait
  have k0 : pfz σ 13 311 b 1 = some (sfi σ 311 b 1) := pfz_1 pcb
  rw [k0, bind_s, pfi_ok (show (sfi σ 311 b 1).kd b = 13 from pcb), bind_s]
  have c2 : Ck (sfi (sfi σ 311 b 1) 312 b (sg fa bd)) := ck
  rw [c2.i, bind_s, fi_sfi, if_neg (by omega), fi_sfi, if_neg (by omega), w1, pfi_ok (show (sfi (sfi σ 311 b 1) 312 b (sg fa bd)).kd b = 13 from pcb), bind_s]
  have c4 : Ck (sfi (sfi (sfi σ 311 b 1) 312 b (sg fa bd)) 313 b (nI X.2.2.2.2.length)) := ck
  rw [c4.i, bind_s, fi_sfi, if_neg (by omega), fi_sfi, if_neg (by omega), fi_sfi, if_neg (by omega), w1, c4.pf, bind_s, nI_1]
  generalize hs : sfi (sfi (sfi (sfi σ 311 b 1) 312 b (sg fa bd)) 313 b (nI X.2.2.2.2.length)) 609 29 (nI (X.2.2.2.2.length + 1)) = s
  have sf1 : Sf L σ s := by
    rw [← hs]
    exact (((Sf.p (by omega) bL).tr (Sf.p (by omega) bL)).tr (Sf.p (by omega) bL)).tr Sf.o
  have f29 : ∀ i, i ≠ 609 → s.fi i 29 = σ.fi i 29 := fun i hi => by
    rw [← hs, fi_sfi, if_neg (by omega), fi_sfi, if_neg (by omega), fi_sfi, if_neg (by omega), fi_sfi, if_neg (by omega)]
  have ars : s.ar = σ.ar := by rw [← hs]; rfl
  have fb : s.fi 311 b = 1 ∧ s.fi 312 b = sg fa bd ∧ s.fi 313 b = nI X.2.2.2.2.length := by
    rw [← hs]
    refine ⟨?_, ?_, ?_⟩
    · rw [fi_sfi, if_neg (by omega), fi_sfi, if_neg (by omega), fi_sfi, if_neg (by omega), fi_sfi, if_pos ⟨rfl, rfl⟩]
    · rw [fi_sfi, if_neg (by omega), fi_sfi, if_neg (by omega), fi_sfi, if_pos ⟨rfl, rfl⟩]
    · rw [fi_sfi, if_neg (by omega), fi_sfi, if_pos ⟨rfl, rfl⟩]
  have fo : ∀ i a, a ≠ b → a ≠ 29 → s.fi i a = σ.fi i a := fun i a h1 h2 => by
    rw [← hs, fi_sfi, if_neg (by omega), fi_sfi, if_neg (by omega), fi_sfi, if_neg (by omega), fi_sfi, if_neg (by omega)]
  have n29 : ∀ p' a : Nat, L[p']? = some a → a ≠ 29 := fun p' a ha => by
    have := lo a (Or.inr (Or.inr ⟨a, List.mem_of_getElem? ha, Nat.le_refl _, Nat.le_add_right _ _⟩))
    omega
  refine ⟨s, rfl, ⟨st.sf lo sf1, tv.sf sf1, ⟨r, q, by rw [← hs]; exact mo⟩, ck.sf sf1, sf.tr sf1, qc.cg (f29 _ (by decide)) (f29 _ (by decide)) (f29 _ (by decide))⟩, ⟨fun t ht => by rw [ars]; exact kv t ht, by rw [f29 _ (by decide)]; exact n1, by rw [f29 _ (by decide)]; exact n2, by rw [f29 _ (by decide)]; exact n3⟩, ⟨cf.cg (f29 _ (by decide)) (by rw [ars]) (by rw [ars]), cl.cg (fun i h1 h2 => f29 i (by omega))⟩, ?_, fun p' a hp' ha => ?_, fun i x a hx ha => ?_⟩
  · show s.fi 609 29 = nI (X.2.2.2.2 ++ [(p, bd, wy)]).length
    rw [← hs, fi_sfi, if_pos ⟨rfl, rfl⟩, List.length_append]; rfl
  · show s.fi 311 a = bI (p' ∈ qpg (X.2.2.2.2 ++ [(p, bd, wy)]) ∧ p' ∉ T)
    have mem : p' ∈ qpg (X.2.2.2.2 ++ [(p, bd, wy)]) ↔ p' ∈ qpg X.2.2.2.2 ∨ p' = p := by
      unfold qpg
      rw [List.map_append, List.mem_append]
      show _ ∨ p' ∈ [p] ↔ _
      rw [List.mem_singleton]
    by_cases z : p' = p
    · subst z
      rw [hb] at ha
      cases ha
      rw [fb.1, bI_t ⟨mem.mpr (Or.inr rfl), hT⟩]
    · have ab : a ≠ b := fun y => z (nd_eq nd ha (y ▸ hb))
      rw [fo _ _ ab (n29 p' a ha), w2 p' a hp' ha]
      by_cases y : p' ∈ qpg X.2.2.2.2 ∧ p' ∉ T
      · rw [bI_t y, bI_t ⟨mem.mpr (Or.inl y.1), y.2⟩]
      · rw [bI_f y, bI_f (fun v => y ⟨(mem.mp v.1).resolve_right z, v.2⟩)]
  · have hx : (X.2.2.2.2 ++ [(p, bd, wy)])[i]? = some x := hx
    by_cases z : i < X.2.2.2.2.length
    · rw [List.getElem?_append_left z] at hx
      have xp : x.1 ≠ p := fun y => hn (by rw [← y]; exact List.mem_map.mpr ⟨x, List.mem_of_getElem? hx, rfl⟩)
      have ab : a ≠ b := fun y => xp (nd_eq nd ha (y ▸ hb))
      rw [fo _ _ ab (n29 _ a ha), fo _ _ ab (n29 _ a ha)]
      exact w3 i x a hx ha
    · have zl : i = X.2.2.2.2.length := by
        have := (List.getElem?_eq_some_iff.mp hx).1
        rw [List.length_append] at this
        simp at this
        omega
      subst zl
      rw [List.getElem?_append_right (Nat.le_refl _), Nat.sub_self] at hx
      have : (p, bd, wy) = x := by simpa using hx
      subst this
      have ha : L[p]? = some a := ha
      rw [hb] at ha
      cases ha
      exact ⟨fb.2.1, fb.2.2⟩
theorem c_entry {σ : Hp} {X : Xs} {a k p F : Nat} {e : Ent} (h : CX σ0 V E L dq fa stays most lim lk T σ X) (b0 : Sb0 V g E L dq fa stays most lim) (hp : p < V.U) (ha : L[p]? = some a) (he : (V.P p).es[k]? = some e) (hK : ∀ c, (V.P p).ce = some c → X.1 c = true) (srt : Srt fa dq X.2.2.2.1) (h40 : ∀ x ∈ X.2.2.2.1, x < 40) (hlf : (V.P p).lf = true → e.1 ∉ X.2.2.2.1) (hin : (V.P p).lf = false → e.2.2 ∉ qpg X.2.2.2.2 ∧ e.2.2 ∉ T) : ∃ σ' X', kX6_goInto_2 (F + 1) 29 a (nI k) σ = kX6_goInto_2 F 29 a (nI (k + 1)) σ' ∧ Stq V dq fa stays most lim p e X X' ∧ CX σ0 V E L dq fa stays most lim lk T σ' X' := by
  obtain ⟨hv, w, lo, hd, hm, hs, hl⟩ := b0
  obtain ⟨⟨st, tv, ⟨r, q, mo⟩, ck, sf, qc⟩, ⟨kv, n1, n2, n3⟩, ⟨cf, cl⟩, wv⟩ := id h
  have pc := st.2.2.2.2.2.2 p a hp ha
  have l7 := pc.le
  have kl := (List.getElem?_eq_some_iff.mp he).1
  have hse := ((w.2.1 p hp).2.1 e (List.mem_of_getElem? he)).1
  have r9 := (w.es hp e (List.mem_of_getElem? he)).2
  have d99 := hd e.1
  -- an entry that isn't spared
  have main : ¬ spd V dq fa (lmt dq stays most lim X.2.2.2.1) p e → ∃ σ' X', kX6_goInto_44 (kX6_goInto_2 F) 29 a (nI k) σ = kX6_goInto_2 F 29 a (nI (k + 1)) σ' ∧ Stq V dq fa stays most lim p e X X' ∧ CX σ0 V E L dq fa stays most lim lk T σ' X' := by
    intro ns
    obtain ⟨s1, g1, g2, g3, g4, g5, g6, g7⟩ := c_farTo st tv mo ck hv qc kv n1 hse
    have st1 := st.sf lo g3
    have tv1 := tv.sf g3
    have ck1 := ck.sf g3
    have pc1 := st1.2.2.2.2.2.2 p a hp ha
    have cf1 : Cf s1 fa dq (X.2.2.2.1.take most) := cf.cg (g6 _ _ (by decide)) g7.1 g7.2
    have cl1 : Clm s1 fa dq (X.2.2.2.1.take most) stays most lim := cl.cg (fun i h1 h2 => g6 _ _ (by omega))
    have wv1 : WV s1 L V.U fa X.2.2.2.2 T := wv.cg (g6 _ _ (by decide)) (fun i b h1 h2 _ => g6 _ _ (by omega))
    have cx1 : CX σ0 V E L dq fa stays most lim lk T s1 (kup X.1 e.1, X.2.1 + (if X.1 e.1 = true then 0 else 1), X.2.2.1, X.2.2.2.1, X.2.2.2.2) := ⟨⟨st1, tv1, g2, ck1, sf.tr g3, qc.cg (g6 _ _ (by decide)) (g6 _ _ (by decide)) (g6 _ _ (by decide))⟩, ⟨g4, g5, by rw [g6 _ _ (by decide)]; exact n2, by rw [g6 _ _ (by decide)]; exact n3⟩, ⟨cf1, cl1⟩, wv1⟩
    unfold kX6_goInto_44
    rw [pc.1.f1, bind_s, pc.t he, bind_s, ck.c, g1, bd2_s, pc1.l, bind_s, bI_0']
    cases hlv : (V.P p).lf with
    | true =>
      rw [if_neg (by decide), pc1.1.f1, bind_s, pc1.t he, bind_s, ck1.i, bind_s, cl1.1, bI_0']
      have sgd : (if ¬ fa = true then kX6_goInto_82 (kX6_goInto_2 F) 29 a (nI k) 29 (nI e.1) (nI (dq e.1)) s1 else kX6_goInto_82 (kX6_goInto_2 F) 29 a (nI k) 29 (nI e.1) (-nI (dq e.1)) s1) = kX6_goInto_82 (kX6_goInto_2 F) 29 a (nI k) 29 (nI e.1) (sg fa (dq e.1)) s1 := by
        cases fa <;> rfl
      rw [sgd]
      unfold kX6_goInto_82 kX6_goInto_129
      rw [ck1.c, nI_1]
      by_cases z : stays = true ∧ lim < dq e.1
      · have ff := hs z.1
        have no : kX6_take s1 29 (nI e.1) (sg fa (dq e.1)) = some s1 := by
          unfold kX6_take
          rw [ck1.i, bind_s, cl1.2.1, bI_0', if_neg (not_not_intro z.1), ck1.i, bind_s, cl1.2.2.2.1 z.1, ff, if_neg (show ¬ sg false (dq e.1) ≤ nI lim from nI_ge z.2 (by omega))]
        rw [no, bind_s]
        exact ⟨s1, _, rfl, Or.inr ⟨ns, Or.inr (Or.inl ⟨hlv, z, rfl⟩)⟩, cx1⟩
      · have z' : stays = true → dq e.1 ≤ lim := fun y => Nat.le_of_not_lt (fun v => z ⟨y, v⟩)
        obtain ⟨c, c0, c1, c2⟩ := Srt.cut (t := e.1) srt (hlf hlv)
        obtain ⟨s2, t1, t2, t3, t4⟩ := c_take (σ := s1) (stays := stays) (most := most) (lim := lim) (R := X.2.2.2.1) ck1 cf1 cl1 (fun t => by have := hd t; omega) h40 hse.1 hm c0 c1 c2 (fun y => ⟨hs y, z' y, by omega⟩)
        rw [t1, bind_s]
        obtain ⟨r', q', mo1⟩ := g2
        refine ⟨s2, _, rfl, Or.inr ⟨ns, Or.inl ⟨hlv, z', c, ⟨c0, c1, c2⟩, rfl⟩⟩, ⟨st1.sf lo t2.sf, tv1.sf (L := L) t2.sf, ⟨r', q', ?_⟩, t2.ck ck1, (sf.tr g3).tr t2.sf, ?_⟩, ⟨fun t ht => ?_, ?_, ?_, ?_⟩, ⟨t3, t4⟩, ?_⟩
        · unfold Mo; rw [t2.1.1, t2.1.2.1, t2.1.2.2.1]; exact mo1
        · exact (qc.cg (g6 _ _ (by decide)) (g6 _ _ (by decide)) (g6 _ _ (by decide))).cg (t2.2.2 _ _ (by decide)) (t2.2.2 _ _ (by decide)) (t2.2.2 _ _ (by decide))
        · rw [t2.2.1 30 (by decide) (by decide)]; exact g4 t ht
        · rw [t2.2.2 _ _ (by decide)]; exact g5
        · rw [t2.2.2 _ _ (by decide), g6 _ _ (by decide)]; exact n2
        · rw [t2.2.2 _ _ (by decide), g6 _ _ (by decide)]; exact n3
        · exact wv1.cg (t2.2.2 _ _ (by decide)) (fun i b h1 h2 _ => t2.2.2 _ _ (by omega))
    | false =>
      obtain ⟨n4, n5⟩ := hin hlv
      obtain ⟨k1, -⟩ := ((w.2.1 p hp).2.1 e (List.mem_of_getElem? he)).2.2.1 hlv
      obtain ⟨b, hb, pcb, hat⟩ := st1.pg k1
      have bdd : kX6_boundBelow s1 29 (nI (dq e.1)) (nI e.2.1) = some (sg fa (bdn dq fa e)) := by
        unfold kX6_boundBelow bdn
        rw [ck1.i, bind_s, cl1.1, bI_0']
        cases fa with
        | false =>
          rw [if_pos (by decide), if_neg (show ¬ false = true by decide)]
          by_cases z : dq e.1 ≤ e.2.1
          · rw [if_pos (nI_le z (by omega)), show dq e.1 - e.2.1 = 0 by omega]; rfl
          · rw [if_neg (nI_ge (by omega) (by omega)), pk_sub (by omega)]; rfl
        | true => rw [if_neg (by decide), if_pos rfl, nI_add]; rfl
      have b31 : bdn dq fa e < 2 ^ 31 := by unfold bdn; split <;> omega
      obtain ⟨y1, y2⟩ := c_beyond (R := X.2.2.2.1) ck1 cf1 cl1 hd hm hs hl b31
      rw [if_pos (by decide), pc1.1.f2, bind_s, pc1.r he, bind_s, ck1.c, bdd, bind_s, ck1.c]
      unfold kX6_goInto_129
      rw [nI_1]
      by_cases z : byd fa (lmt dq stays most lim X.2.2.2.1) (bdn dq fa e)
      · rw [y1 z, bind_s, if_neg (by decide)]
        exact ⟨s1, _, rfl, Or.inr ⟨ns, Or.inr (Or.inr (Or.inr ⟨hlv, z, rfl⟩))⟩, cx1⟩
      · obtain ⟨s2, t1, t2⟩ := c_letWait (bd := bdn dq fa e) (wy := nI (dq e.1)) cx1 lo k1 hb n4 n5
        rw [y2 z, bind_s, if_pos rfl, ck1.s, bind_s, pc1.1.f3, bind_s, pc1.b he hlv, bind_s, st1.cs, hat, bind_s, ck1.c, t1, bind_s]
        exact ⟨s2, _, rfl, Or.inr ⟨ns, Or.inr (Or.inr (Or.inl ⟨hlv, z, rfl⟩))⟩, t2⟩
  rw [kX6_goInto_2.eq_2, pc.n, bind_s, if_neg (nI_ge kl (by omega)), pc.ce, bind_s]
  cases hc : (V.P p).ce with
  | none =>
    rw [if_pos (show o2i none = -1 from rfl)]
    exact main (fun ⟨c, l, h1, _⟩ => by rw [hc] at h1; cases h1)
  | some c =>
    have c40 := (w.ce hp hc).1
    obtain ⟨v, v1, v2, v3⟩ := c_spared (X := X) st tv ck kv cf cl hd hv w hm hs hl hp ha he hc (hK c hc)
    rw [if_neg (show ¬ o2i (some c) = -1 from fun y => (nI_m1 (by omega)).mp y), ck.c, v1, bind_s, ck.c]
    by_cases z : spd V dq fa (lmt dq stays most lim X.2.2.2.1) p e
    · rw [v2 z, bind_s, if_neg (by decide), ck.i, n2, bind_s, ck.pf, bind_s, nI_1]
      unfold kX6_goInto_129
      rw [nI_1]
      have sf1 : Sf L σ (sfi σ 615 29 (nI (X.2.2.1 + 1))) := Sf.o
      have f29 : ∀ i b, ¬ (i = 615 ∧ b = 29) → (sfi σ 615 29 (nI (X.2.2.1 + 1))).fi i b = σ.fi i b := fun i b h => by rw [fi_sfi, if_neg h]
      exact ⟨_, _, rfl, Or.inl ⟨z, rfl⟩, ⟨st.sf lo sf1, tv.sf sf1, ⟨r, q, mo⟩, ck.sf sf1, sf.tr sf1, qc.cg (f29 _ _ (by decide)) (f29 _ _ (by decide)) (f29 _ _ (by decide))⟩, ⟨kv, by rw [f29 _ _ (by decide)]; exact n1, by rw [fi_sfi, if_pos ⟨rfl, rfl⟩], by rw [f29 _ _ (by decide)]; exact n3⟩, ⟨cf.cg (f29 _ _ (by decide)) rfl rfl, cl.cg (fun i h1 h2 => f29 _ _ (by omega))⟩, wv.cg (f29 _ _ (by decide)) (fun i b h1 h2 _ => f29 _ _ (by omega))⟩
    · rw [v3 z, bind_s, if_pos rfl]
      exact main z
/-- all entries of a page, one after the other -/
def Sts (V : Vt) (dq : Nat → Nat) (fa stays : Bool) (most lim p : Nat) : List Ent → Xs → Xs → Prop
  | [], X, X' => X' = X
  | e :: es, X, X'' => ∃ X', Stq V dq fa stays most lim p e X X' ∧ Sts V dq fa stays most lim p es X' X''
theorem Stq.K {p : Nat} {e : Ent} {X X' : Xs} (h : Stq V dq fa stays most lim p e X X') {c : Nat} (hc : X.1 c = true) : X'.1 c = true := by
  have up : kup X.1 e.1 c = true := by unfold kup; split <;> first | rfl | exact hc
  rcases h with ⟨-, rfl⟩ | ⟨-, ⟨-, -, d, -, rfl⟩ | ⟨-, -, rfl⟩ | ⟨-, -, rfl⟩ | ⟨-, -, rfl⟩⟩
  · exact hc
  all_goals exact up
theorem Stq.R {p : Nat} {e : Ent} {X X' : Xs} (h : Stq V dq fa stays most lim p e X X') (srt : Srt fa dq X.2.2.2.1) : Srt fa dq X'.2.2.2.1 ∧ ∀ x, x ∈ X'.2.2.2.1 → x ∈ X.2.2.2.1 ∨ ((V.P p).lf = true ∧ x = e.1 ∧ X'.1 x = true) := by
  rcases h with ⟨-, rfl⟩ | ⟨-, ⟨hl, -, d, ⟨d0, d1, d2⟩, rfl⟩ | ⟨-, -, rfl⟩ | ⟨-, -, rfl⟩ | ⟨-, -, rfl⟩⟩
  · exact ⟨srt, fun x hx => Or.inl hx⟩
  · refine ⟨srt.ins d1 d2, fun x hx => ?_⟩
    rcases lin_mem.mp hx with rfl | hx
    · exact Or.inr ⟨hl, rfl, if_pos rfl⟩
    · exact Or.inl hx
  · exact ⟨srt, fun x hx => Or.inl hx⟩
  · exact ⟨srt, fun x hx => Or.inl hx⟩
  · exact ⟨srt, fun x hx => Or.inl hx⟩
theorem Stq.Q {p : Nat} {e : Ent} {X X' : Xs} (h : Stq V dq fa stays most lim p e X X') : X'.2.2.2.2 = X.2.2.2.2 ∨ ((V.P p).lf = false ∧ X'.1 e.1 = true ∧ X'.2.2.2.2 = X.2.2.2.2 ++ [(e.2.2, bdn dq fa e, nI (dq e.1))]) := by
  rcases h with ⟨-, rfl⟩ | ⟨-, ⟨hl, -, d, ⟨d0, d1, d2⟩, rfl⟩ | ⟨-, -, rfl⟩ | ⟨hl, -, rfl⟩ | ⟨-, -, rfl⟩⟩
  · exact Or.inl rfl
  · exact Or.inl rfl
  · exact Or.inl rfl
  · exact Or.inr ⟨hl, if_pos rfl, rfl⟩
  · exact Or.inl rfl
/-- a page is gone into -/
theorem c_goInto {a p : Nat} (b0 : Sb0 V g E L dq fa stays most lim) (hp : p < V.U) (ha : L[p]? = some a) : ∀ (m F k : Nat) (σ : Hp) (X : Xs), m < F → k + m = (V.P p).es.length → CX σ0 V E L dq fa stays most lim lk T σ X → (∀ c, (V.P p).ce = some c → X.1 c = true) → Srt fa dq X.2.2.2.1 → (∀ x ∈ X.2.2.2.1, x < 40) → ((V.P p).lf = true → ∀ e ∈ (V.P p).es.drop k, e.1 ∉ X.2.2.2.1) → ((V.P p).lf = false → ∀ e ∈ (V.P p).es.drop k, e.2.2 ∉ qpg X.2.2.2.2 ∧ e.2.2 ∉ T) → ∃ σ' X', kX6_goInto_2 F 29 a (nI k) σ = some σ' ∧ Sts V dq fa stays most lim p ((V.P p).es.drop k) X X' ∧ CX σ0 V E L dq fa stays most lim lk T σ' X'
  | m, 0, _, _, _, h, _, _, _, _, _, _, _ => absurd h (Nat.not_lt_zero m)
  | 0, F + 1, k, σ, X, _, hk, cx, _, _, _, _, _ => by
    have pc := cx.1.1.2.2.2.2.2.2 p a hp ha
    have l7 := pc.le
    rw [List.drop_eq_nil_of_le (by omega), kX6_goInto_2.eq_2, pc.n, bind_s, if_pos (nI_le (by omega) (by omega))]
    exact ⟨σ, X, rfl, rfl, cx⟩
  | m + 1, F + 1, k, σ, X, hF, hk, cx, hK, srt, h40, hlf, hin => by
    have w := b0.2.1
    obtain ⟨e, he⟩ : ∃ e, (V.P p).es[k]? = some e := ⟨_, List.getElem?_eq_getElem (by omega)⟩
    have dr : (V.P p).es.drop k = e :: (V.P p).es.drop (k + 1) := by
      rw [List.drop_eq_getElem_cons (List.getElem?_eq_some_iff.mp he).1]
      congr 1
      exact (List.getElem?_eq_some_iff.mp he).2
    rw [dr] at hlf hin ⊢
    have hse := ((w.2.1 p hp).2.1 e (List.mem_of_getElem? he)).1
    obtain ⟨s1, X1, g1, g2, g3⟩ := c_entry (F := F) cx b0 hp ha he hK srt h40 (fun y => hlf y e (List.mem_cons_self ..)) (fun y => hin y e (List.mem_cons_self ..))
    obtain ⟨r1, r2⟩ := g2.R srt
    have ndr : ∀ f ∈ (V.P p).es.drop (k + 1), ((V.P p).lf = true → f.1 ≠ e.1) ∧ ((V.P p).lf = false → f.2.2 ≠ e.2.2) := fun f hf => by
      obtain ⟨j, hj⟩ := List.mem_iff_getElem?.mp hf
      rw [List.getElem?_drop] at hj
      refine ⟨fun y z => ?_, fun y z => ?_⟩
      · have := nd_eq ((w.2.1 p hp).2.2.1.2 y) (i := k) (j := k + 1 + j) (a := e.1) (by rw [List.getElem?_map, he]; rfl) (by rw [List.getElem?_map, hj, ← z]; rfl)
        omega
      · have := nd_eq ((w.2.1 p hp).2.2.1.1 y) (i := k) (j := k + 1 + j) (a := e.2.2) (by rw [List.getElem?_map, he]; rfl) (by rw [List.getElem?_map, hj, ← z]; rfl)
        omega
    obtain ⟨s2, X2, k1, k2, k3⟩ := c_goInto b0 hp ha m F (k + 1) s1 X1 (by omega) (by omega) g3 (fun c hc => g2.K (hK c hc)) r1 (fun x hx => by
      rcases r2 x hx with z | ⟨-, z, -⟩
      · exact h40 x z
      · rw [z]; exact hse.1) (fun y f hf z => by
      rcases r2 _ z with v | ⟨-, v, -⟩
      · exact hlf y f (List.mem_cons_of_mem _ hf) v
      · exact (ndr f hf).1 y v) (fun y f hf => by
      have old := hin y f (List.mem_cons_of_mem _ hf)
      refine ⟨fun z => ?_, old.2⟩
      rcases g2.Q with v | ⟨-, -, v⟩
      · rw [v] at z; exact old.1 z
      · rw [v] at z
        unfold qpg at z
        rw [List.map_append, List.mem_append] at z
        rcases z with z | z
        · exact old.1 z
        · exact (ndr f hf).2 y (List.mem_singleton.mp z))
    exact ⟨s2, X2, by rw [g1, k1], ⟨X1, g2, k2⟩, k3⟩
end GOINTO
