section ORDER
variable {V : Vt} {g : Gh}
theorem nd_len : ∀ (U : Nat) (l : List Nat), l.Nodup → (∀ q ∈ l, q < U) → l.length ≤ U
  | 0, l, _, h => by
    cases l with
    | nil => exact Nat.le_refl _
    | cons x l => exact absurd (h x (List.mem_cons_self ..)) (Nat.not_lt_zero x)
  | U + 1, l, nd, h => by
    by_cases z : U ∈ l
    · have := nd_len U (l.erase U) (nd.erase U) (fun q hq => by
        have := (nd.mem_erase_iff).mp hq
        have := h q this.2
        omega)
      rw [List.length_erase_of_mem z] at this
      omega
    · have := nd_len U l nd (fun q hq => by
        have := h q hq
        have : q ≠ U := fun e => z (e ▸ hq)
        omega)
      omega
/-- the pages below an entry of a page, in their order -/
def kids (V : Vt) (p : Nat) : List Nat := if (V.P p).lf = true then [] else (V.P p).es.map (fun e => e.2.2)
/-- the pages from a page down, each ahead of those below it -/
def pre (V : Vt) : Nat → Nat → List Nat
  | 0, p => [p]
  | h + 1, p => p :: (kids V p).flatMap (pre V h)
/-- the page that lies n levels above -/
def upn (g : Gh) : Nat → Nat → Nat
  | 0, q => q
  | n + 1, q => g.pa (upn g n q)
theorem kids_mem (w : Wf V g V.U) {p c : Nat} (hp : p < V.U) (hc : c ∈ kids V p) : c < V.U ∧ g.ht c + 1 = g.ht p ∧ g.pa c = p ∧ c ≠ V.R := by
  unfold kids at hc
  by_cases z : (V.P p).lf = true
  · rw [if_pos z] at hc; cases hc
  · rw [if_neg z] at hc
    obtain ⟨e, he, rfl⟩ := List.mem_map.mp hc
    have := ((w.2.1 p hp).2.1 e he).2.2.1 (by simpa using z)
    exact ⟨this.1, this.2.1, this.2.2.2.1, this.2.2.2.2⟩
theorem kids_nd (w : Wf V g V.U) {p : Nat} (hp : p < V.U) : (kids V p).Nodup := by
  unfold kids
  by_cases z : (V.P p).lf = true
  · rw [if_pos z]; exact List.nodup_nil
  · rw [if_neg z]; exact (w.2.1 p hp).2.2.1.1 (by simpa using z)
theorem kids_len (w : Wf V g V.U) (hv : Vw V) {p : Nat} (hp : p < V.U) : (kids V p).length ≤ 7 := by
  have l := (w.2.1 p hp).1.2.1
  unfold kids
  by_cases z : (V.P p).lf = true
  · rw [if_pos z]; exact Nat.zero_le _
  · rw [if_neg z, List.length_map]
    by_cases y : p = V.U
    · omega
    · rw [if_neg y] at l
      have := hv.2.2.1.2
      omega
theorem pre_mem (w : Wf V g V.U) : ∀ (h p : Nat), g.ht p = h → p < V.U → ∀ q ∈ pre V h p, q < V.U ∧ g.ht q ≤ h ∧ upn g (h - g.ht q) q = p
  | 0, p, hh, hp, q, hq => by
    have : q = p := by simpa [pre] using hq
    subst this
    exact ⟨hp, by omega, by rw [hh]; rfl⟩
  | h + 1, p, hh, hp, q, hq => by
    rcases List.mem_cons.mp hq with rfl | hq
    · exact ⟨hp, by omega, by rw [hh, Nat.sub_self]; rfl⟩
    · obtain ⟨c, hc, hq⟩ := List.mem_flatMap.mp hq
      obtain ⟨c1, c2, c3, -⟩ := kids_mem w hp hc
      obtain ⟨q1, q2, q3⟩ := pre_mem w h c (by omega) c1 q hq
      refine ⟨q1, by omega, ?_⟩
      rw [show h + 1 - g.ht q = (h - g.ht q) + 1 by omega]
      show g.pa (upn g (h - g.ht q) q) = p
      rw [q3, c3]
theorem pre_nd (w : Wf V g V.U) : ∀ (h p : Nat), g.ht p = h → p < V.U → (pre V h p).Nodup
  | 0, p, hh, hp => by simp [pre]
  | h + 1, p, hh, hp => by
    unfold pre
    rw [List.nodup_cons]
    constructor
    · intro hq
      obtain ⟨c, hc, hq⟩ := List.mem_flatMap.mp hq
      obtain ⟨c1, c2, c3, -⟩ := kids_mem w hp hc
      obtain ⟨q1, q2, q3⟩ := pre_mem w h c (by omega) c1 p hq
      omega
    · unfold List.Nodup
      rw [List.pairwise_flatMap]
      refine ⟨fun c hc => ?_, ?_⟩
      · obtain ⟨c1, c2, c3, -⟩ := kids_mem w hp hc
        exact pre_nd w h c (by omega) c1
      · have nd := kids_nd w hp
        refine List.Pairwise.imp_of_mem (fun {a b} ha hb hab x hx y hy => ?_) nd
        obtain ⟨a1, a2, a3, -⟩ := kids_mem w hp ha
        obtain ⟨b1, b2, b3, -⟩ := kids_mem w hp hb
        obtain ⟨x1, x2, x3⟩ := pre_mem w h a (by omega) a1 x hx
        obtain ⟨y1, y2, y3⟩ := pre_mem w h b (by omega) b1 y hy
        intro e
        subst e
        exact hab (x3.symm.trans y3)
/-- the order of all pages -/
def ord (V : Vt) (g : Gh) : List Nat := pre V (g.ht V.R) V.R
theorem ord_nd (w : Wf V g V.U) : (ord V g).Nodup := pre_nd w _ _ rfl w.1.1
theorem ord_lt (w : Wf V g V.U) : ∀ q ∈ ord V g, q < V.U := fun q hq => (pre_mem w _ _ rfl w.1.1 q hq).1
theorem ord_len (w : Wf V g V.U) : (ord V g).length ≤ V.U := nd_len V.U _ (ord_nd w) (ord_lt w)
end ORDER
