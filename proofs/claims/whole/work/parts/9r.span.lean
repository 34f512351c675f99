section SPAN
variable {V : Vt} {g : Gh}
/-- how many pages from a page down -/
def spn (V : Vt) (g : Gh) (p : Nat) : Nat := (pre V (g.ht p) p).length
theorem spn_eq (w : Wf V g V.U) {p : Nat} (hp : p < V.U) : spn V g p = 1 + ((kids V p).map (spn V g)).sum := by
  unfold spn
  cases z : g.ht p with
  | zero =>
    have : kids V p = [] := by
      cases y : kids V p with
      | nil => rfl
      | cons c l =>
        have := (kids_mem w hp (c := c) (by rw [y]; exact List.mem_cons_self ..)).2.1
        omega
    rw [this]; rfl
  | succ h =>
    show (p :: (kids V p).flatMap (pre V h)).length = _
    rw [List.length_cons, List.length_flatMap, Nat.add_comm]
    have : (kids V p).map (fun a => (pre V h a).length) = (kids V p).map (fun p => (pre V (g.ht p) p).length) := by
      apply List.map_congr_left
      intro c hc
      have := (kids_mem w hp hc).2.1
      rw [show g.ht c = h by omega]
    rw [this]
end SPAN
