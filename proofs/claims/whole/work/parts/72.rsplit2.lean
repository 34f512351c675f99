section RS2
variable {S : MS} {V : Vt} {a u b : Nat} {L : List Re}
/-- a way from a centre that may be none -/
def cw (V : Vt) (c : Option Nat) (t : Nat) : Nat := match c with
  | none => 0
  | some x => far V x t
theorem r_far_o {T : MS} {Y : Type} {c : Option Nat} {t : Nat} {K : Nat → MS → Option Y} {Q : Y → Prop} (rw0 : RW (T.1 0) 2 V) (hv : Vw V) (hc : ∀ x, c = some x → hs V x) (ht : hs V t) (K2 : Int32 → MS → Option Y) (hK : ∀ n U, K2 (nI n) U = K n U) (h : ∀ U, S2 T U → ∃ y, K (cw V c t) U = some y ∧ Q y) : ∃ y, (if o2i c = -1 then K2 0 T else bd2 (r_farOf T (o2i c) (nI t)) K2) = some y ∧ Q y := by
  cases c with
  | none =>
    rw [if_pos (show o2i none = -1 from rfl), show (0 : Int32) = nI 0 from rfl, hK]
    exact h T S2.rfl
  | some x =>
    have hx := hc x rfl
    have := hx.1
    obtain ⟨U, g1, g2⟩ := r_farOf_eq rw0 hv hx ht
    rw [if_neg (show ¬ o2i (some x) = -1 from fun y => (nI_m1 (by omega)).mp y)]
    show ∃ y, bd2 (r_farOf T (nI x) (nI t)) K2 = some y ∧ Q y
    rw [g1, bd2_s, hK]
    exact h U g2
set_option maxHeartbeats 1000000 in
theorem r_split_eq {p : Pg} {c : Option Nat} {LP : List Re} {k : Nat} (rw0 : RW (S.1 0) 2 V) (hv : Vw V) (rp : RP (S.1 0) (94 + 30 * a) p.lf L) (hL : Lm p.es L) (hes : ∀ e ∈ p.es, hs V e.1 ∧ e.2.1 ≤ 9000) (h2 : 2 ≤ p.es.length) (ha : a < 784) (hb : b < 784) (hu : u < 784) (hab : a ≠ b) (hau : a ≠ u) (hbu : b ≠ u) (used : ∀ q, q < u → S.1 0 (94 + 30 * q) ≠ -1) (free : S.1 0 (94 + 30 * u) = -1) (rb : RP (S.1 0) (94 + 30 * b) false LP) (hk : k < LP.length) (hl : LP.length < 7) (hc : ∀ x, c = some x → hs V x) :
    ∃ T, r_split S (nI a) (nI b) (nI k) (o2i c) = some T ∧ Sq (fun q => q = a ∨ q = u ∨ q = b) S T ∧ (T.1 4 = S.1 4 ∧ T.1 5 = S.1 5) ∧ RP (T.1 0) (94 + 30 * a) p.lf ((pik (fun k => !secB V p.es (bst V p.es).1 (bst V p.es).2.1 k) 0 L).map (wset V (tg p.es (bst V p.es).1))) ∧ RP (T.1 0) (94 + 30 * u) p.lf ((pik (secB V p.es (bst V p.es).1 (bst V p.es).2.1) 0 L).map (wset V (tg p.es (bst V p.es).2.1))) ∧ RP (T.1 0) (94 + 30 * b) false (insE (LP.set k (tg p.es (bst V p.es).1, re1 V p, cw V c (tg p.es (bst V p.es).1), nI a)) (k + 1) (tg p.es (bst V p.es).2.1, re2 V p, cw V c (tg p.es (bst V p.es).2.1), nI u)) := by
  have bb := bst_ok hv (fun e he => (hes e he).2) h2
  have ll := hL.1
  have l7 := rp.2.2
  have e0 : (0 : Int32) = nI 0 := rfl
  unfold re1 re2
  generalize hbs : bst V p.es = bt at *
  obtain ⟨i, j, w⟩ := bt
  obtain ⟨b1, b2, b3⟩ := bb
  have b1 : i < j := b1
  have b2 : j < p.es.length := b2
  obtain ⟨ei, hei⟩ : ∃ e, p.es[i]? = some e := ⟨_, List.getElem?_eq_getElem (by omega)⟩
  obtain ⟨ej, hej⟩ : ∃ e, p.es[j]? = some e := ⟨_, List.getElem?_eq_getElem (by omega)⟩
  obtain ⟨wi, vi, hLi⟩ := hL.2 i ei hei
  obtain ⟨wj, vj, hLj⟩ := hL.2 j ej hej
  have hsi := (hes ei (List.mem_of_getElem? hei)).1
  have hsj := (hes ej (List.mem_of_getElem? hej)).1
  obtain ⟨T1, f1, f2, f3⟩ := r_findTwo_eq rw0 hv rp ha hL hes h2
  rw [hbs] at f3
  obtain ⟨c1, c2, c3, c4, c5⟩ := f3
  have c1 : T1.2 10 = nI i := c1
  have c2 : T1.2 11 = nI j := c2
  have t0 : T1.1 0 = S.1 0 := f2.1 0 (fun q => by unfold Rc at q; omega)
  have q1 : Sq (fun q => q = a ∨ q = u ∨ q = b) S T1 := ⟨f2.mono (fun x q => by unfold Rc at q; unfold Ra; omega) (fun x q => q), by rw [t0]; exact Cq.rfl⟩
  have rp1 : RP (T1.1 0) (94 + 30 * a) p.lf L := by rw [t0]; exact rp
  unfold r_split
  rw [f1, bind_s, c1, c2, rp1.t0 ha hLi, bind_s, rp1.t0 ha hLj, bind_s, rp1.l ha, bind_s]
  obtain ⟨g, g1, g2, g3⟩ := r_newPage_eq (S := T1) (lf := p.lf) hu (by rw [t0]; exact used) (by rw [t0]; exact free)
  have cx1 : Cq (fun q => q = u) (T1.1 0) g := fun x hx => g3 x (hx u rfl)
  rw [g1, bd2_s, e0]
  have hsL : ∀ e ∈ L, hs V e.1 := fun e he => by
    obtain ⟨n, hn⟩ := List.getElem?_of_mem he
    have hlt := get_lt hn
    obtain ⟨e2, he2⟩ : ∃ e, p.es[n]? = some e := ⟨_, List.getElem?_eq_getElem (by omega)⟩
    obtain ⟨w2, v2, h3⟩ := hL.2 n e2 he2
    rw [hn] at h3
    cases h3
    exact (hes e2 (List.mem_of_getElem? he2)).1
  have w1 : Wy (fun q => q = a ∨ q = u ∨ q = b) T1 (r0 T1 g) := Wy.r0 (cx1.mono (fun q y => Or.inr (Or.inl y)))
  have rw1 : RW ((r0 T1 g).1 0) 2 V := w1.1.2.rw hv (by rw [t0]; exact rw0)
  obtain ⟨T2, Lw, k1, k2, k3, k4, k5⟩ := r_split43 (x2 := nI b) (x3 := nI k) (x4 := o2i c) (x7 := nI u) (f := secB V p.es i j) (lf := p.lf) hv ha hsi hsj hsL L.length FU 0 (r0 T1 g) L (FU_gt (by omega)) (by omega) rw1 (by rw [r0_0]; exact cx1.rp rp1 hau) rfl (fun n e he => by rw [if_neg (Nat.not_lt_zero _)]; exact he) (fun n hn => by rw [r0_j (by decide)]; exact c5 n (by omega))
  rw [k1, ← k4]
  have ru2 : RP (T2.1 0) (94 + 30 * u) p.lf [] := k2.1.2.rp (by rw [r0_0]; exact g2) (fun y => hau y.symm)
  have s72 : ∀ n, n < Lw.length → T2.1 7 n = bI (secB V p.es i j n = true) := fun n hn => by rw [k2.2.1, r0_j (by decide)]; exact c5 n (by omega)
  obtain ⟨T3, cu, m1, m2, m3, m4, m5, m6⟩ := r_split117 (x2 := nI b) (x3 := nI k) (x4 := o2i c) (x5 := nI ei.1) (x6 := nI ej.1) (f := secB V p.es i j) (lf := p.lf) ha hu hau (Lw := Lw) (by omega) Lw.length FU 0 T2 Lw (FU_gt (by omega)) (by omega) k3 rfl (fun _ _ => rfl) (fun n hn => absurd hn (Nat.not_lt_zero _)) ru2 s72
  have m1 : r_split_117 FU (nI a) (nI b) (nI k) (o2i c) (nI ei.1) (nI ej.1) (nI u) (nI Lw.length) 0 0 T2 = _ := m1
  rw [m1]
  have pA : pik (fun k => !secB V p.es i j k) 0 Lw = (pik (fun k => !secB V p.es i j k) 0 L).map (wset V ei.1) := pik_map k4 (fun n e he hf => by
    rw [k5 n e he]
    rw [Nat.zero_add] at hf
    have : secB V p.es i j n = false := by simpa using hf
    rw [this]
    rfl)
  have pB : pik (secB V p.es i j) 0 Lw = (pik (secB V p.es i j) 0 L).map (wset V ej.1) := pik_map k4 (fun n e he hf => by
    rw [k5 n e he]
    rw [Nat.zero_add] at hf
    rw [hf]
    rfl)
  have pl := pik_len (f := fun k => !secB V p.es i j k) Lw 0
  obtain ⟨T4, o1, o2, o3⟩ := r_split225 (x2 := nI b) (x3 := nI k) (x5 := nI ei.1) (x6 := nI ej.1) (x7 := nI u) (c := c) (lf := p.lf) (X := pik (fun k => !secB V p.es i j k) 0 Lw) ha (n := Lw.length) (by omega) (Lw.length - (pik (fun k => !secB V p.es i j k) 0 Lw).length) FU (pik (fun k => !secB V p.es i j k) 0 Lw).length T3 (FU_gt (by omega)) (by omega) (Nat.le_refl _) m3.1.2 (fun n e he => m3.2.1 n e ((m5 n (get_lt he)).trans he))
  rw [o1]
  have w4 : Wy (fun q => q = a ∨ q = u ∨ q = b) T1 T4 := ((w1.tr ⟨⟨k2.1.1, k2.1.2.mono (fun q y => Or.inl y)⟩, k2.2⟩).tr ⟨⟨m2.1.1, m2.1.2.mono (fun q y => y.elim Or.inl (fun y => Or.inr (Or.inl y)))⟩, m2.2⟩).tr ⟨⟨o2.1.1, o2.1.2.mono (fun q y => Or.inl y)⟩, o2.2⟩
  have rw4 : RW (T4.1 0) 2 V := w4.1.2.rw hv (by rw [t0]; exact rw0)
  have ru4 : RP (T4.1 0) (94 + 30 * u) p.lf ((pik (secB V p.es i j) 0 L).map (wset V ej.1)) := by
    rw [← pB]
    exact o2.1.2.rp m6 (fun y => hau y.symm)
  rw [pA] at o3
  have rb4 : RP (T4.1 0) (94 + 30 * b) false LP := by
    have z1 : RP ((r0 T1 g).1 0) (94 + 30 * b) false LP := by rw [r0_0]; exact cx1.rp (by rw [t0]; exact rb) hbu
    exact o2.1.2.rp (m2.1.2.rp (k2.1.2.rp z1 (fun y => hab y.symm)) (fun y => y.elim (fun y => hab y.symm) hbu)) (fun y => hab y.symm)
  have n12 : T4.2 12 = nI (gr1 V p.es i j p.es.length) := by rw [w4.2.2]; exact c3
  have n13 : T4.2 13 = nI (gr2 V p.es i j p.es.length) := by rw [w4.2.2]; exact c4
  have r4 : ∀ x, (x = 4 ∨ x = 5) → T4.1 x = S.1 x := fun x hx => (w4.1.1.1 x (fun y => by unfold Ra at y; omega)).trans (f2.1 x (fun y => by unfold Rc at y; omega))
  have ti : tg p.es i = ei.1 := tg_eq hei
  have tj : tg p.es j = ej.1 := tg_eq hej
  show ∃ T, _ = some T ∧ Sq (fun q => q = a ∨ q = u ∨ q = b) S T ∧ (T.1 4 = S.1 4 ∧ T.1 5 = S.1 5) ∧ RP (T.1 0) (94 + 30 * a) p.lf ((pik (fun k => !secB V p.es i j k) 0 L).map (wset V (tg p.es i))) ∧ RP (T.1 0) (94 + 30 * u) p.lf ((pik (secB V p.es i j) 0 L).map (wset V (tg p.es j))) ∧ RP (T.1 0) (94 + 30 * b) false (insE (LP.set k (tg p.es i, gr1 V p.es i j p.es.length, cw V c (tg p.es i), nI a)) (k + 1) (tg p.es j, gr2 V p.es i j p.es.length, cw V c (tg p.es j), nI u))
  rw [ti, tj]
  refine r_far_o (K := fun n U => r_split_284 (nI a) (nI b) (nI k) (o2i c) (nI ej.1) (nI u) (nI b) (nI k) (nI ei.1) (T4.2 12) (nI n) U) rw4 hv hc hsi _ (fun _ _ => rfl) (fun U5 s5 => ?_)
  have a5 : U5.1 0 = T4.1 0 := s5.r (by decide) (by decide)
  unfold r_split_284
  rw [n12, r_layEntry_eq hb (by omega), bind_s, a5]
  have rs := rb4.set (e := (ei.1, gr1 V p.es i j p.es.length, cw V c ei.1, nI a)) hk
  generalize hh : le4 (T4.1 0) (94 + 30 * b) k (nI ei.1) (nI (gr1 V p.es i j p.es.length)) (nI (cw V c ei.1)) (nI a) = h6
  have rs : RP h6 (94 + 30 * b) false (LP.set k (ei.1, gr1 V p.es i j p.es.length, cw V c ei.1, nI a)) := by rw [← hh]; exact rs
  have cx6 : Cq (fun q => q = b) (T4.1 0) h6 := by rw [← hh]; exact Cq.le4 rfl (by omega)
  have n13' : (r0 U5 h6).2 13 = nI (gr2 V p.es i j p.es.length) := by rw [r0_f, s5.f]; exact n13
  rw [n13', nI_1]
  refine r_far_o (K := fun n U => r_split_317 (nI u) (nI b) (nI (k + 1)) (nI ej.1) (nI (gr2 V p.es i j p.es.length)) (nI n) U) (by rw [r0_0]; exact cx6.rw hv rw4) hv hc hsj _ (fun _ _ => rfl) (fun U7 s7 => ?_)
  have a7 : U7.1 0 = h6 := by rw [s7.r (by decide) (by decide), r0_0]
  unfold r_split_317
  obtain ⟨g8, y1, y2, y3⟩ := r_insert_eq (S := U7) (q := b) (k := k + 1) (e := (ej.1, gr2 V p.es i j p.es.length, cw V c ej.1, nI u)) (by rw [a7]; exact rs) hb (by rw [List.length_set]; omega) (by rw [List.length_set]; omega)
  have y1 : r_insert U7 (nI b) (nI (k + 1)) (nI ej.1) (nI (gr2 V p.es i j p.es.length)) (nI (cw V c ej.1)) (nI u) = some (r0 U7 g8) := y1
  rw [y1, bind_s]
  have cx8 : Cq (fun q => q = b) (T4.1 0) g8 := fun x hx => (y3 x (hx b rfl)).trans (by rw [a7]; exact cx6 x hx)
  have hb8 : ∀ q : Nat, q = b → (q = a ∨ q = u ∨ q = b) := fun q y => Or.inr (Or.inr y)
  refine ⟨r0 U7 g8, rfl, ⟨q1.1.tr (w4.1.1.tr ((Rn.s2 s5 (Or.inr (Or.inl rfl)) (Or.inr (Or.inr (Or.inl rfl)))).tr ((Rn.r0 (Or.inl rfl)).tr ((Rn.s2 s7 (Or.inr (Or.inl rfl)) (Or.inr (Or.inr (Or.inl rfl)))).tr (Rn.r0 (Or.inl rfl)))))), q1.2.tr (w4.1.2.tr (by rw [r0_0]; exact cx8.mono hb8))⟩, ⟨?_, ?_⟩, ?_, ?_, ?_⟩
  · rw [r0_j (by decide), s7.r (by decide) (by decide), r0_j (by decide), s5.r (by decide) (by decide)]; exact r4 4 (Or.inl rfl)
  · rw [r0_j (by decide), s7.r (by decide) (by decide), r0_j (by decide), s5.r (by decide) (by decide)]; exact r4 5 (Or.inr rfl)
  · rw [r0_0]; exact cx8.rp o3 hab
  · rw [r0_0]; exact cx8.rp ru4 (fun y => hbu y.symm)
  · rw [r0_0]; exact y2
end RS2
