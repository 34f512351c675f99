section CWALK4
variable {E : Nat} {L : List Nat} {V : Vt} {g : Gh} {N U : Nat}
/-- addresses of those that a page lines up -/
def kb (V : Vt) (L : List Nat) (p : Nat) : List Nat := if (V.P p).lf = true then [] else ka V L p
theorem kb_kids (p : Nat) : kb V L p = (kids V p).map (fun c => (L[c]?).getD 0) := by
  unfold kb ka kids
  by_cases z : (V.P p).lf = true
  · rw [if_pos z, if_pos z]; rfl
  · rw [if_neg z, if_neg z, List.map_map]; rfl
theorem c_lineUpBelow {σ : Hp} {E8 : Nat} (w : Wf V g V.U) {p a pl d : Nat} {T R : List Nat} (hp : p < V.U) (ha : L[p]? = some a) (hT : T.length = pl + 1) (hb : T.length + (V.P p).es.length + R.length < 1000) (st : St σ 3 E L V) (wn : Wn σ) (wl : Wl N U σ E L E8 (T ++ R)) (f6 : σ.fi 306 a = nI pl) (f8 : σ.fi 308 a = nI d) : ∃ σ' E8', kX10_lineUpBelow σ 27 a = some σ' ∧ St σ' 3 E L V ∧ Wn σ' ∧ Wl N U σ' E L E8' (T ++ (kb V L p ++ R)) ∧ Fw V L p 0 E8 σ σ' ∧ (E8' = E8 ∨ σ.nx ≤ E8') ∧ ((V.P p).lf = false → ∀ (j : Nat) (e : Ent) (b : Nat), (V.P p).es[j]? = some e → L[e.2.2]? = some b → σ'.fi 308 b = nI (d + 1) ∧ σ'.fi 309 b = nI e.2.1) ∧ ((V.P p).lf = true → σ' = σ) := by
  have pc := st.2.2.2.2.2.2 p a hp ha
  have l7 := pc.le
  unfold kX10_lineUpBelow kb
  cases hl : (V.P p).lf with
  | false =>
    obtain ⟨s', E', q1, q2, q3, q4, q5, q6, q7⟩ := c_lineUp w hp ha hl hT hb (V.P p).es.length FU 0 σ E8 (FU_gt (by omega)) (by omega) st wn (by rw [List.take_zero, List.nil_append]; exact wl) f6 f8
    rw [if_neg (by decide)]
    exact ⟨s', E', q1, q2, q3, q4, q5, q6, fun _ j e b he hb => q7 j e b (Nat.zero_le _) he hb, fun y => (by cases y)⟩
  | true =>
    rw [if_pos rfl, List.nil_append]
    refine ⟨σ, E8, ?_, st, wn, wl, ⟨Nat.le_refl _, fun _ _ => ⟨rfl, rfl⟩, fun y _ _ _ => ⟨⟨rfl, rfl, fun _ => rfl, rfl, rfl⟩, fun _ _ => rfl⟩⟩, Or.inl rfl, fun y => (by cases y), fun _ => rfl⟩
    rw [show FU = 999999 + 1 from rfl, kX10_lineUpBelow_2.eq_2, pc.n, bind_s]
    by_cases z : (V.P p).es.length = 0
    · rw [if_pos (by rw [z]; decide)]
    · rw [if_neg (show ¬ nI (V.P p).es.length ≤ 0 from nI_ge (show 0 < (V.P p).es.length by omega) (by omega)), pc.l, bind_s, bI_0', if_neg (by rw [hl]; decide)]
end CWALK4
