theorem lq_cl : Cond.classLink R_law 7 RX11 ∈ gw := gw_at 28 (by decide +kernel) rfl
theorem lq_k : Ks R_law 9 yX11_init cX11_init 1 none 0 := ⟨gw_at 32 (by decide +kernel) rfl, gw_at 1 (by decide +kernel) rfl, gw_at 30 (by decide +kernel) rfl, by decide +kernel, by decide +kernel, by decide +kernel⟩
theorem lq_i : Cond.instanceMethod yX11_init ∈ gw := gw_at 31 (by decide +kernel) rfl
theorem lq_ii : Cond.initialized RX11 ∈ gw := gw_at 1 (by decide +kernel) rfl
theorem lm_cl : Cond.classLink R_law 10 RX12 ∈ gw := gw_at 1369 (by decide +kernel) rfl
theorem lm_k : Ks R_law 12 yX12_init cX12_init 1 none 0 := ⟨gw_in (List.mem_append_right _ (List.mem_append_right _ (List.mem_append_right _ (List.mem_append_right _ (List.mem_append_right _ (List.mem_append_right _ (List.mem_append_left _ (List.mem_of_getElem? (i := 173) rfl)))))))) rfl, gw_at 20 (by decide +kernel) rfl, gw_at 1371 (by decide +kernel) rfl, by decide +kernel, by decide +kernel, by decide +kernel⟩
theorem lm_i : Cond.instanceMethod yX12_init ∈ gw := gw_at 1372 (by decide +kernel) rfl
theorem lm_ii : Cond.initialized RX12 ∈ gw := gw_at 20 (by decide +kernel) rfl
/-- the reference's cells lie behind -/
def shM (σ : Hp) : Hp := mkH σ.kd σ.ln σ.fi σ.fr σ.ar σ.rr (σ.nx + 31) (σ.us + (53 + p_sl 30))
def hp0 : Hp := mkH (fun a => if a = 1 then 5 else 0) (fun _ => 0) (fun _ _ => 0) (fun _ _ => 0) (fun _ _ => 0) (fun _ _ => 0) 2 0
theorem ssum_ext {H H2 : Heap} {b : Nat} (hl : H.size ≤ H2.size) (hb : b ≤ H.size) (hk : ∀ q : Nat, q < H.size → H2[q]? = H[q]?) : ssum H2 b = ssum H b + ssum H2 H.size := by
  unfold ssum
  have e : H2.toList.take H.size = H.toList := by
    apply List.ext_getElem?
    intro q
    by_cases hq : q < H.size
    · rw [List.getElem?_take_of_lt hq, Array.getElem?_toList, Array.getElem?_toList, hk q hq]
    · rw [List.getElem?_eq_none (by simp; omega), List.getElem?_eq_none (by simp; omega)]
  conv => lhs; rw [← List.take_append_drop H.size H2.toList]
  rw [List.drop_append_of_le_length (by simp; omega), List.map_append, List.sum_append, e]
theorem ssum_M {κ : KMt} {S : MS} {H : Heap} (h : HM κ S H) (hs : κ.2.2.2.2.2 = κ.o + 31) : ssum H κ.o = 53 + p_sl 30 := by
  have e : (H.toList.drop κ.o).map (·.slots.size) = 53 :: (List.range 30).map m_len := by
    apply List.ext_getElem?
    intro i
    rw [List.getElem?_map, List.getElem?_drop, Array.getElem?_toList]
    by_cases hi : i < 31
    · rw [h.sizes _ ⟨by omega, by omega⟩]
      cases i with
      | zero => simp
      | succ i =>
        rw [if_neg (by omega), List.getElem?_cons_succ, List.getElem?_map, List.getElem?_range (by omega)]
        simp only [Option.map_some]
        congr 2
        omega
    · have hz := h.1.1
      rw [Array.getElem?_eq_none (by rw [hz, hs]; omega), List.getElem?_eq_none (by simp; omega)]
      rfl
  unfold ssum
  rw [e]
  simp [p_sl]
theorem HC.shift {base e0 mi : Nat} {D : va_G} {cA : Nat → ClassId} {adK adV : Nat → Nat} {σ : Hp} {H H2 : Heap} {κ : KMt} {S : MS} (h : HC (mkG base e0 (fun _ => False) D cA mi adK adV) σ H) (ho : κ.o = H.size) (hM : HM κ S H2) (hs : κ.2.2.2.2.2 = κ.o + 31) (hk : ∀ q : Nat, q < H.size → H2[q]? = H[q]?) (h1 : σ.nx + 31 ≤ NXc) (h2 : σ.us + (53 + p_sl 30) ≤ UXc) : HC (mkG base e0 (AM κ) D cA mi adK adV) (shM σ) H2 := by
  obtain ⟨g1, g2, g3, g4, g5, g6, g7⟩ := h
  have hz2 : H2.size = H.size + 31 := by rw [hM.1.1, hs, ho]
  have hadr : ∀ a, (mkG base e0 (AM κ) D cA mi adK adV).adr a = (mkG base e0 (fun _ => False) D cA mi adK adV).adr a := fun _ => rfl
  have hrv : ∀ a, (mkG base e0 (AM κ) D cA mi adK adV).rv a = (mkG base e0 (fun _ => False) D cA mi adK adV).rv a := fun _ => rfl
  have b1 : H.size = base + (σ.nx - 2) := g1.1
  have b2 : ssum H base = σ.us := g2
  have hlt : ∀ a, σ.kd a ≠ 0 → (mkG base e0 (fun _ => False) D cA mi adK adV).adr a < H.size := by
    intro a ha
    have q1 := g3 a ha
    have q2 : e0 < base := g1.2.2.1
    show (if a = 1 then e0 else base + (a - 2)) < H.size
    split <;> omega
  refine ⟨⟨?_, by show 2 ≤ σ.nx + 31; omega, g1.2.2.1, h1, h2⟩, ?_, fun a ha => ⟨(g3 a ha).1, by have := (g3 a ha).2.1; show a < σ.nx + 31; omega, (g3 a ha).2.2⟩, fun a ha h5 => ⟨(g4 a ha h5).1, fun q => ?_⟩, fun q hq => ?_, g6, fun a ha => ?_⟩
  · show H2.size = base + (σ.nx + 31 - 2)
    have := g1.2.1
    omega
  · show ssum H2 base = σ.us + (53 + p_sl 30)
    rw [ssum_ext (by omega) (by omega) hk, b2, ← ho, ssum_M hM hs]
  · have q1 := hlt a ha
    have q2 : κ.o ≤ (mkG base e0 (fun _ => False) D cA mi adK adV).adr a := q.1
    omega
  · have q2 : q < κ.o + 31 := hq.2
    omega
  · have e := hk _ (hlt a ha)
    obtain ⟨k1, k2, k3, k4⟩ := g7 a ha
    exact ⟨fun q => by rw [hadr, e]; exact k1 q, fun q => by rw [hadr, e]; exact k2 q, fun q => by rw [hadr, e]; exact k3 q, fun c r q1 q2 => (k4 c r q1 q2).kept e⟩
theorem hp0_HC {s : State} {e0 mi : Nat} {D : va_G} {cA : Nat → ClassId} {adK adV : Nat → Nat} (h : e0 < s.heap.size) : HC (mkG s.heap.size e0 (fun _ => False) D cA mi adK adV) hp0 s.heap := by
  have kd1 : ∀ a, hp0.kd a ≠ 0 → a = 1 := by
    intro a ha
    by_cases e : a = 1
    · exact e
    · exact absurd (show (if a = 1 then 5 else 0) = 0 by rw [if_neg e]) ha
  have kd5 : hp0.kd 1 = 5 := rfl
  refine ⟨⟨rfl, Nat.le_refl 2, h, by show 2 ≤ 600002; omega, by show 0 ≤ 7302250; omega⟩, ssum_self _, fun a ha => ?_, fun a ha h5 => ?_, fun q hq => hq.elim, fun a ha => ?_, fun a ha => ?_⟩
  · have := kd1 a ha
    subst this
    exact ⟨by decide, by show 1 < 2; omega, fun _ => ⟨rfl, rfl⟩⟩
  · have := kd1 a ha
    subst this
    exact absurd kd5 h5
  · have := kd1 a (by rw [ha]; decide)
    subst this
    rw [kd5] at ha
    cases ha
  · have := kd1 a ha
    subst this
    unfold cellC
    rw [kd5]
    exact ⟨fun q => (by cases q), fun q => (by cases q), fun q => (by cases q), fun c r q => (by omega)⟩
theorem p_def : ∀ k, k < 53 → defaultValue (tyX12 k) = p_fv 0 0 (fun _ => 0) k := by decide +kernel
