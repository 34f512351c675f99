section QUEUE
variable {σ σ' : Hp} {S : MS} {V : Vt} {π : Nat → Nat} {E : Nat} {L : List Nat} {fa : Bool}
/-- a page that waits or has waited: page, bound, the way of its centre -/
abbrev Qi : Type := Nat × Nat × Int32
def qpg (Q : List Qi) : List Nat := Q.map (fun x => x.1)
def qbd (Q : List Qi) (i : Nat) : Nat := ((Q[i]?).map (fun x => x.2.1)).getD 0
theorem qbd_eq {Q : List Qi} {i : Nat} {x : Qi} (h : Q[i]? = some x) : qbd Q i = x.2.1 := by unfold qbd; rw [h]; rfl
/-- the waiting pages of the class, and of the reference -/
def WV (σ : Hp) (L : List Nat) (U : Nat) (fa : Bool) (Q : List Qi) (T : List Nat) : Prop := σ.fi 609 29 = nI Q.length ∧ (∀ p a : Nat, p < U → L[p]? = some a → σ.fi 311 a = bI (p ∈ qpg Q ∧ p ∉ T)) ∧ ∀ (i : Nat) (x : Qi) (a : Nat), Q[i]? = some x → L[x.1]? = some a → σ.fi 312 a = sg fa x.2.1 ∧ σ.fi 313 a = nI i
def WR (S : MS) (π : Nat → Nat) (Q : List Qi) (T : List Nat) : Prop := S.2 37 = nI Q.length ∧ ∀ (i : Nat) (x : Qi), Q[i]? = some x → S.1 19 i = (if x.1 ∈ T then -1 else nI (π x.1)) ∧ S.1 20 i = nI x.2.1 ∧ S.1 21 i = x.2.2
def QI (V : Vt) (Q : List Qi) : Prop := (qpg Q).Nodup ∧ ∀ x ∈ Q, x.1 < V.U ∧ x.2.1 < 100000
theorem QI.len {g : Gh} {Q : List Qi} (h : QI V Q) (w : Wf V g V.U) : Q.length ≤ V.U := by
  have := nd_len V.U (qpg Q) h.1 (fun q hq => by
    obtain ⟨x, hx, rfl⟩ := List.mem_map.mp hq
    exact (h.2 x hx).1)
  unfold qpg at this
  rwa [List.length_map] at this
/-- the next one: the least by its bound, and of those the first -/
def Nx (fa : Bool) (Q : List Qi) (T : List Nat) (i : Nat) : Prop := (∃ x, Q[i]? = some x ∧ x.1 ∉ T) ∧ ∀ (j : Nat) (y : Qi), Q[j]? = some y → y.1 ∉ T → j ≠ i → ah fa (qbd Q) i j
theorem Nx.uniq {Q : List Qi} {T : List Nat} {i j : Nat} (h : Nx fa Q T i) (k : Nx fa Q T j) : i = j := by
  by_cases z : i = j
  · exact z
  · obtain ⟨⟨x, x1, x2⟩, h2⟩ := h
    obtain ⟨⟨y, y1, y2⟩, k2⟩ := k
    exact absurd (ah_tr (h2 j y y1 y2 (fun q => z q.symm)) (k2 i x x1 x2 z)) ah_irr
theorem c_next {g : Gh} {Q : List Qi} {T : List Nat} (st : St σ 3 E L V) (lo : Lo E L) (ck : Ck σ) (w : Wf V g V.U) (qi : QI V Q) (wv : WV σ L V.U fa Q T) : ((∀ x ∈ Q, x.1 ∈ T) ∧ kX6_nextPage σ 29 = some 0) ∨ ∃ i x a, Nx fa Q T i ∧ Q[i]? = some x ∧ L[x.1]? = some a ∧ a ≠ 0 ∧ kX6_nextPage σ 29 = some a := by
  have u := w.u
  have ql := qi.len w
  obtain ⟨w1, w2, w3⟩ := wv
  have a0 : ∀ p a : Nat, L[p]? = some a → a ≠ 0 := fun p a ha => by
    have := lo a (Or.inr (Or.inr ⟨a, List.mem_of_getElem? ha, Nat.le_refl _, Nat.le_add_right _ _⟩))
    omega
  have key : ∀ (m F n x1 : Nat), m < F → n + m = V.U → ((x1 = 0 ∧ ∀ x ∈ Q, x.1 < n → x.1 ∈ T) ∨ ∃ i x, Q[i]? = some x ∧ x.1 ∉ T ∧ x.1 < n ∧ L[x.1]? = some x1 ∧ ∀ (j : Nat) (y : Qi), Q[j]? = some y → y.1 ∉ T → y.1 < n → j ≠ i → ah fa (qbd Q) i j) → ((∀ x ∈ Q, x.1 ∈ T) ∧ kX6_nextPage_4 σ F 29 x1 (nI n) = some 0) ∨ ∃ i x a, Nx fa Q T i ∧ Q[i]? = some x ∧ L[x.1]? = some a ∧ a ≠ 0 ∧ kX6_nextPage_4 σ F 29 x1 (nI n) = some a := by
    intro m
    induction m with
    | zero =>
      intro F n x1 hF hn h
      obtain ⟨F, rfl⟩ : ∃ F', F = F' + 1 := ⟨F - 1, by omega⟩
      rw [kX6_nextPage_4.eq_2, ck.s, bind_s, st.u, bind_s, if_pos (nI_le (by omega) (by omega))]
      rcases h with ⟨h1, h2⟩ | ⟨i, x, h1, h2, h3, h4, h5⟩
      · exact Or.inl ⟨fun x hx => h2 x hx (by have := (qi.2 x hx).1; omega), by rw [h1]⟩
      · exact Or.inr ⟨i, x, x1, ⟨⟨x, h1, h2⟩, fun j y y1 y2 y3 => h5 j y y1 y2 (by have := (qi.2 y (List.mem_of_getElem? y1)).1; omega) y3⟩, h1, h4, a0 _ _ h4, rfl⟩
    | succ m ih =>
      intro F n x1 hF hn h
      obtain ⟨F, rfl⟩ : ∃ F', F = F' + 1 := ⟨F - 1, by omega⟩
      obtain ⟨b, hb, pcb, hat⟩ := st.pg (p := n) (by omega)
      rw [kX6_nextPage_4.eq_2, ck.s, bind_s, st.u, bind_s, if_neg (nI_ge (by omega) (by omega)), bind_s, st.cs, hat, bind_s, gfi_ok pcb.1.1, bind_s, w2 n b (by omega) hb, bI_0']
      unfold kX6_nextPage_68 kX6_nextPage_70
      rw [nI_1]
      by_cases z : n ∈ qpg Q ∧ n ∉ T
      · rw [if_neg (not_not_intro z)]
        obtain ⟨y, hy, yn⟩ := List.mem_map.mp z.1
        obtain ⟨j, hj⟩ := List.mem_iff_getElem?.mp hy
        have yn : y.1 = n := yn
        have nT : y.1 ∉ T := by rw [yn]; exact z.2
        obtain ⟨v1, v2⟩ := w3 j y b hj (by rw [yn]; exact hb)
        have jl := (List.getElem?_eq_some_iff.mp hj).1
        have yb := (qi.2 y hy).2
        have only : ∀ (j' : Nat) (y' : Qi), Q[j']? = some y' → y'.1 < n + 1 → y'.1 < n ∨ j' = j := fun j' y' h1 h2 => by
          by_cases q : y'.1 = n
          · exact Or.inr (nd_eq qi.1 (i := j') (j := j) (a := n) (by unfold qpg; rw [List.getElem?_map, h1, ← q]; rfl) (by unfold qpg; rw [List.getElem?_map, hj, ← yn]; rfl))
          · exact Or.inl (by omega)
        have take : (∀ (j' : Nat) (y' : Qi), Q[j']? = some y' → y'.1 ∉ T → y'.1 < n → ah fa (qbd Q) j j') → ((∀ x ∈ Q, x.1 ∈ T) ∧ kX6_nextPage_4 σ F 29 b (nI (n + 1)) = some 0) ∨ ∃ i x a, Nx fa Q T i ∧ Q[i]? = some x ∧ L[x.1]? = some a ∧ a ≠ 0 ∧ kX6_nextPage_4 σ F 29 b (nI (n + 1)) = some a := fun hm => ih F (n + 1) b (by omega) (by omega) (Or.inr ⟨j, y, hj, nT, by omega, by rw [yn]; exact hb, fun j' y' h1 h2 h3 h4 => by
          rcases only j' y' h1 h3 with q | q
          · exact hm j' y' h1 h2 q
          · exact absurd q h4⟩)
        rcases h with ⟨h1, h2⟩ | ⟨i, x, h1, h2, h3, h4, h5⟩
        · rw [if_pos h1]
          exact take (fun j' y' q1 q2 q3 => absurd (h2 y' (List.mem_of_getElem? q1) q3) q2)
        · have il := (List.getElem?_eq_some_iff.mp h1).1
          obtain ⟨u1, u2⟩ := w3 i x x1 h1 h4
          have xb := (qi.2 x (List.mem_of_getElem? h1)).2
          have pcx := (st.2.2.2.2.2.2 x.1 x1 (by have := (qi.2 x (List.mem_of_getElem? h1)).1; omega) h4).1.1
          have ij : i ≠ j := fun q => by
            rw [q, hj] at h1
            cases h1
            omega
          have keep : ah fa (qbd Q) i j → ((∀ x ∈ Q, x.1 ∈ T) ∧ kX6_nextPage_4 σ F 29 x1 (nI (n + 1)) = some 0) ∨ ∃ i x a, Nx fa Q T i ∧ Q[i]? = some x ∧ L[x.1]? = some a ∧ a ≠ 0 ∧ kX6_nextPage_4 σ F 29 x1 (nI (n + 1)) = some a := fun hij => ih F (n + 1) x1 (by omega) (by omega) (Or.inr ⟨i, x, h1, h2, by omega, h4, fun j' y' q1 q2 q3 q4 => by
            rcases only j' y' q1 q3 with q | q
            · exact h5 j' y' q1 q2 q q4
            · rw [q]; exact hij⟩)
          have goes : ah fa (qbd Q) j i → ((∀ x ∈ Q, x.1 ∈ T) ∧ kX6_nextPage_4 σ F 29 b (nI (n + 1)) = some 0) ∨ ∃ i x a, Nx fa Q T i ∧ Q[i]? = some x ∧ L[x.1]? = some a ∧ a ≠ 0 ∧ kX6_nextPage_4 σ F 29 b (nI (n + 1)) = some a := fun hji => take (fun j' y' q1 q2 q3 => by
            by_cases q : j' = i
            · rw [q]; exact hji
            · exact ah_tr hji (h5 j' y' q1 q2 q3 q))
          rw [if_neg (a0 _ _ h4), gfi_ok pcb.1.1, v1, bind_s, gfi_ok pcx, u1, bind_s]
          have b1 := qbd_eq h1
          have b2 := qbd_eq hj
          by_cases q : ba fa y.2.1 x.2.1
          · rw [if_pos ((sg_lt (by omega) (by omega)).mpr q)]
            exact goes (Or.inl (by rw [b1, b2]; exact q))
          · rw [if_neg (fun r => q ((sg_lt (by omega) (by omega)).mp r)), bind_s, bind_s]
            by_cases r : y.2.1 = x.2.1
            · rw [if_pos (by rw [r]), gfi_ok pcb.1.1, v2, bind_s, gfi_ok pcx, u2, bind_s]
              by_cases t : i ≤ j
              · rw [if_pos (nI_le t (by omega))]
                exact keep (Or.inr ⟨by rw [b1, b2, r], by omega⟩)
              · rw [if_neg (nI_ge (by omega) (by omega))]
                exact goes (Or.inr ⟨by rw [b1, b2, r], by omega⟩)
            · rw [if_neg (fun t => r ((sg_eq (by omega) (by omega)).mp t))]
              refine keep (Or.inl ?_)
              rw [b1, b2]
              rcases ba_tri (f := fa) (a := x.2.1) (b := y.2.1) with t | t | t
              · exact t
              · exact absurd t.symm r
              · exact absurd t q
      · rw [if_pos z]
        refine ih F (n + 1) x1 (by omega) (by omega) ?_
        have only : ∀ (j' : Nat) (y' : Qi), Q[j']? = some y' → y'.1 < n + 1 → y'.1 ∉ T → y'.1 < n := fun j' y' h1 h2 h3 => by
          have : y'.1 ≠ n := fun q => z ⟨by rw [← q]; exact List.mem_map.mpr ⟨y', List.mem_of_getElem? h1, rfl⟩, by rw [← q]; exact h3⟩
          omega
        rcases h with ⟨h1, h2⟩ | ⟨i, x, h1, h2, h3, h4, h5⟩
        · refine Or.inl ⟨h1, fun x hx hl => ?_⟩
          obtain ⟨j', hj'⟩ := List.mem_iff_getElem?.mp hx
          by_cases q : x.1 ∈ T
          · exact q
          · exact h2 x hx (only j' x hj' hl q)
        · exact Or.inr ⟨i, x, h1, h2, by omega, h4, fun j' y' q1 q2 q3 q4 => h5 j' y' q1 q2 (only j' y' q1 q3 q2) q4⟩
  exact key V.U FU 0 0 (FU_gt (by omega)) (by omega) (Or.inl ⟨rfl, fun x _ h => absurd h (Nat.not_lt_zero _)⟩)
theorem r_next {g : Gh} {Q : List Qi} {T : List Nat} (rt : RT (S.1 0) V π) (w : Wf V g V.U) (qi : QI V Q) (wr : WR S π Q T) : ((∀ x ∈ Q, x.1 ∈ T) ∧ r_nextWaiting S (bI (fa = true)) = some (-1)) ∨ ∃ i, Nx fa Q T i ∧ r_nextWaiting S (bI (fa = true)) = some (nI i) := by
  have u := w.u
  have ql := qi.len w
  obtain ⟨w1, w2⟩ := wr
  have key : ∀ (m F n : Nat) (x2 : Int32), m < F → n + m = Q.length → ((x2 = -1 ∧ ∀ (j : Nat) (y : Qi), j < n → Q[j]? = some y → y.1 ∈ T) ∨ ∃ i x, x2 = nI i ∧ i < n ∧ Q[i]? = some x ∧ x.1 ∉ T ∧ ∀ (j : Nat) (y : Qi), Q[j]? = some y → y.1 ∉ T → j < n → j ≠ i → ah fa (qbd Q) i j) → ((∀ x ∈ Q, x.1 ∈ T) ∧ r_nextWaiting_4 S F (bI (fa = true)) x2 (nI n) = some (-1)) ∨ ∃ i, Nx fa Q T i ∧ r_nextWaiting_4 S F (bI (fa = true)) x2 (nI n) = some (nI i) := by
    intro m
    induction m with
    | zero =>
      intro F n x2 hF hn h
      obtain ⟨F, rfl⟩ : ∃ F', F = F' + 1 := ⟨F - 1, by omega⟩
      rw [r_nextWaiting_4.eq_2, w1, if_pos (nI_le (by omega) (by omega))]
      rcases h with ⟨h1, h2⟩ | ⟨i, x, h1, h2, h3, h4, h5⟩
      · refine Or.inl ⟨fun x hx => ?_, by rw [h1]⟩
        obtain ⟨j, hj⟩ := List.mem_iff_getElem?.mp hx
        have := (List.getElem?_eq_some_iff.mp hj).1
        exact h2 j x (by omega) hj
      · exact Or.inr ⟨i, ⟨⟨x, h3, h4⟩, fun j y y1 y2 y3 => h5 j y y1 y2 (by have := (List.getElem?_eq_some_iff.mp y1).1; omega) y3⟩, by rw [h1]⟩
    | succ m ih =>
      intro F n x2 hF hn h
      obtain ⟨F, rfl⟩ : ∃ F', F = F' + 1 := ⟨F - 1, by omega⟩
      obtain ⟨y, hy⟩ : ∃ y, Q[n]? = some y := ⟨_, List.getElem?_eq_getElem (by omega)⟩
      obtain ⟨v1, v2, v3⟩ := w2 n y hy
      have yU := (qi.2 y (List.mem_of_getElem? hy)).1
      have yb := (qi.2 y (List.mem_of_getElem? hy)).2
      have p1 := (rt.2.2.1 y.1 yU).1
      rw [r_nextWaiting_4.eq_2, w1, if_neg (nI_ge (by omega) (by omega)), rd_ok (by rw [len17.2.2.1]; omega) (by omega), bind_s, v1]
      unfold r_nextWaiting_64 r_nextWaiting_66
      rw [nI_1]
      by_cases z : y.1 ∈ T
      · rw [if_pos z, if_pos rfl]
        refine ih F (n + 1) x2 (by omega) (by omega) ?_
        rcases h with ⟨h1, h2⟩ | ⟨i, x, h1, h2, h3, h4, h5⟩
        · refine Or.inl ⟨h1, fun j y' hj hy' => ?_⟩
          by_cases q : j = n
          · rw [q, hy] at hy'
            cases hy'
            exact z
          · exact h2 j y' (by omega) hy'
        · refine Or.inr ⟨i, x, h1, by omega, h3, h4, fun j y' q1 q2 q3 q4 => ?_⟩
          by_cases q : j = n
          · rw [q, hy] at q1
            cases q1
            exact absurd z q2
          · exact h5 j y' q1 q2 (by omega) q4
      · rw [if_neg z, if_neg (fun q => (nI_m1 (by omega)).mp q)]
        rcases h with ⟨h1, h2⟩ | ⟨i, x, h1, h2, h3, h4, h5⟩
        · rw [if_pos h1]
          refine ih F (n + 1) (nI n) (by omega) (by omega) (Or.inr ⟨n, y, rfl, by omega, hy, z, fun j y' q1 q2 q3 q4 => absurd (h2 j y' (by omega) q1) q2⟩)
        · have il := (List.getElem?_eq_some_iff.mp h3).1
          have xb := (qi.2 x (List.mem_of_getElem? h3)).2
          have b1 := qbd_eq h3
          have b2 := qbd_eq hy
          have keep : ah fa (qbd Q) i n → ((∀ x ∈ Q, x.1 ∈ T) ∧ r_nextWaiting_4 S F (bI (fa = true)) x2 (nI (n + 1)) = some (-1)) ∨ ∃ i, Nx fa Q T i ∧ r_nextWaiting_4 S F (bI (fa = true)) x2 (nI (n + 1)) = some (nI i) := fun hin => ih F (n + 1) x2 (by omega) (by omega) (Or.inr ⟨i, x, h1, by omega, h3, h4, fun j y' q1 q2 q3 q4 => by
            by_cases q : j = n
            · rw [q]; exact hin
            · exact h5 j y' q1 q2 (by omega) q4⟩)
          have goes : ah fa (qbd Q) n i → ((∀ x ∈ Q, x.1 ∈ T) ∧ r_nextWaiting_4 S F (bI (fa = true)) (nI n) (nI (n + 1)) = some (-1)) ∨ ∃ i, Nx fa Q T i ∧ r_nextWaiting_4 S F (bI (fa = true)) (nI n) (nI (n + 1)) = some (nI i) := fun hni => ih F (n + 1) (nI n) (by omega) (by omega) (Or.inr ⟨n, y, rfl, by omega, hy, z, fun j y' q1 q2 q3 q4 => by
            by_cases q : j = i
            · rw [q]; exact hni
            · exact ah_tr hni (h5 j y' q1 q2 (by omega) q)⟩)
          have r20 : ∀ k, k < Q.length → ∀ x : Qi, Q[k]? = some x → rd S 20 (nI k) = some (nI x.2.1) := fun k hk x hx => by
            rw [rd_ok (by rw [len17.2.2.2.1]; omega) (by omega), (w2 k x hx).2.1]
          rw [h1, if_neg (fun q => (nI_m1 (by omega)).mp q), r20 n (by omega) y hy, bind_s, r20 i il x h3, bind_s]
          rw [h1] at keep
          cases fa with
          | false =>
            rw [if_pos (by decide)]
            by_cases q : x.2.1 ≤ y.2.1
            · rw [if_pos (nI_le q (by omega))]
              refine keep ?_
              unfold ah
              rw [ba_f, b1, b2]
              omega
            · rw [if_neg (nI_ge (by omega) (by omega))]
              exact goes (Or.inl (by rw [ba_f, b1, b2]; omega))
          | true =>
            rw [if_neg (by decide), bind_s, bind_s]
            by_cases q : y.2.1 ≤ x.2.1
            · rw [if_pos (nI_le q (by omega))]
              refine keep ?_
              unfold ah
              rw [ba_t, b1, b2]
              omega
            · rw [if_neg (nI_ge (by omega) (by omega))]
              exact goes (Or.inl (by rw [ba_t, b1, b2]; omega))
  exact key Q.length FU 0 (-1) (FU_gt (by omega)) (by omega) (Or.inl ⟨rfl, fun j y h => absurd h (Nat.not_lt_zero _)⟩)
end QUEUE
