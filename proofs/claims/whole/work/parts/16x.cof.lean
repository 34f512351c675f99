def lenum : Nat → List Value → List (Nat × Value)
  | _, [] => []
  | i, v :: t => (i, v) :: lenum (i + 1) t
theorem lv_lenum {av : List Value} (h : cat1 av) : ∀ i, lv_args i av = lenum i av := by
  induction av with
  | nil => intro i; rfl
  | cons v t ih =>
    intro i
    have := ih h.2 (i + 1)
    show lv_args i (v :: t) = (i, v) :: lenum (i + 1) t
    rw [← this]
    show (i, v) :: lv_args (if v.category = 2 then i + 2 else i + 1) t = _
    rw [if_neg (by rw [h.1]; decide)]
theorem MtC.at {l : Launch} {G : Gt} {cc : ByteArray} {nL : Nat} {rt : Option FieldType} {fr lo : Nat} {rv : Option Value} {x x' : Hp} {y : MethodName} {av : List Value} (hy : plainName y.cls = true) (hc : cat1 av) (hn : av.length ≤ nL) (h : GoC l G y.cls y.name cc nL rt fr lo x.nx x.us rv x' 0 (lenum 0 av) [] x) : MtC l G y cc nL rt fr lo av x rv x' :=
  MtC.of hy (lgsl av hc hn) hc (by rw [lv_lenum hc 0]; exact h)
section GC5
variable {l : Launch} {G : Gt} {own mn : String} {cc : ByteArray} {nL : Nat} {rt : Option FieldType} {fr lo n0 u0 i : Nat} {rv : Option Value} {x' : Hp} {pc : Nat} {lv : List (Nat × Value)} {st : List Value} {x : Hp}
theorem mm_ini : Cond.initialized "java/lang/Math" ∈ gw := gw_at 8 (by decide +kernel) rfl
theorem mm_max_s : Cond.static Lib.Math.max.name ∈ gw := gw_at 167 (by decide +kernel) rfl
theorem mm_max_c : Cond.code Lib.Math.max.name Lib.Math.max.code 2 (some .int) ∈ gw := gw_at 168 (by decide +kernel) rfl
theorem GC.mmax {a b : Int32} (hw : Cond.methodLink own i Lib.Math.max.name ∈ gw) (hd : decode cc pc = .ok (.invokestatic i, 3)) (hf : 1 ≤ fr) (hcr : cat1 st) (hlo : st.length + 13 ≤ lo) (k : GoC l G own mn cc nL rt fr lo n0 u0 rv x' (pc + 3) lv (.int (if a < b then b else a) :: st) x) : GoC l G own mn cc nL rt fr lo n0 u0 rv x' pc lv (.int b :: .int a :: st) x := by
  intro p e s m args below meth c0 C H locs ls hl hH hS
  obtain ⟨hx, hb, hml, ho, hts, hrt, hlk, hkn⟩ := id C
  refine W.withX fun T hT X => ?_
  obtain ⟨q1, q2, q3, q4⟩ := c_room hT X hkn.2.2.1 hH
  have g4 : x.nx ≤ NXc := hH.1.2.2.2.1
  have g5 : x.us ≤ UXc := hH.1.2.2.2.2
  exact va_mmax hx hb (by rw [hml]; exact hl.1.1.symm) ho (hts _ hw) (hts _ mm_max_s) (hts _ mm_ini) (hts _ mm_max_c) hf (by rw [cat1_sum hcr]; exact hlo) (by show _ ≤ NXc - n0; omega) (by show _ ≤ UXc - u0; omega) hd (k p e s m args below meth c0 C H locs ls hl hH hS)
theorem mm_min_s : Cond.static Lib.Math.min.name ∈ gw := gw_at 201 (by decide +kernel) rfl
theorem mm_min_c : Cond.code Lib.Math.min.name Lib.Math.min.code 2 (some .int) ∈ gw := gw_at 202 (by decide +kernel) rfl
theorem GC.mmin {a b : Int32} (hw : Cond.methodLink own i Lib.Math.min.name ∈ gw) (hd : decode cc pc = .ok (.invokestatic i, 3)) (hf : 1 ≤ fr) (hcr : cat1 st) (hlo : st.length + 13 ≤ lo) (k : GoC l G own mn cc nL rt fr lo n0 u0 rv x' (pc + 3) lv (.int (if b < a then b else a) :: st) x) : GoC l G own mn cc nL rt fr lo n0 u0 rv x' pc lv (.int b :: .int a :: st) x := by
  intro p e s m args below meth c0 C H locs ls hl hH hS
  obtain ⟨hx, hb, hml, ho, hts, hrt, hlk, hkn⟩ := id C
  refine W.withX fun T hT X => ?_
  obtain ⟨q1, q2, q3, q4⟩ := c_room hT X hkn.2.2.1 hH
  have g4 : x.nx ≤ NXc := hH.1.2.2.2.1
  have g5 : x.us ≤ UXc := hH.1.2.2.2.2
  exact va_mmin hx hb (by rw [hml]; exact hl.1.1.symm) ho (hts _ hw) (hts _ mm_min_s) (hts _ mm_ini) (hts _ mm_min_c) hf (by rw [cat1_sum hcr]; exact hlo) (by show _ ≤ NXc - n0; omega) (by show _ ≤ UXc - u0; omega) hd (k p e s m args below meth c0 C H locs ls hl hH hS)
end GC5
