section GC2
variable {l : Launch} {G : Gt} {own mn : String} {cc : ByteArray} {nL : Nat} {rt : Option FieldType} {fr lo n0 u0 : Nat} {rv : Option Value} {x' : Hp} {pc : Nat} {lv lv' : List (Nat × Value)} {st rest : List Value} {x : Hp} {Y : Type} {Z : Y}
theorem GC.iald {a : Nat} {i : Int32} {K : Int32 → Option Y} (hd : decode cc pc = .ok (.iaload, 1)) (h : (ald x 1 a i).bind K = some Z) (n : ∀ v, K v = some Z → GoC l G own mn cc nL rt fr lo n0 u0 rv x' (pc + 1) lv (.int v :: st) x) : GoC l G own mn cc nL rt fr lo n0 u0 rv x' pc lv (.int i :: G.rv a :: st) x := by
  intro p e s m args below meth c0 C H locs ls hl hH hS
  obtain ⟨hx, hb, hml, ho, hts, hrt, hlk, hkn⟩ := id C
  unfold ald at h
  split at h
  · rename_i q
    obtain ⟨q1, q2⟩ := q
    have h0 : x.kd a ≠ 0 := by omega
    have ha := (hH.2.2.1 a h0).1
    have hc := (hH.2.2.2.2.2.2 a h0).1 q1
    have hlt : i.toNatClampNeg < x.ln a := Nat.not_le.mp fun z => q2 (Or.inr z)
    rw [G.rv_ne ha]
    exact W.iald (v := .int (x.ar a i.toNatClampNeg)) hx hb hc (hkn.1.2.1.1 _ _) (fun q => by cases q) (by rw [arrV_size]; exact q2) (by rw [arrV_read _ _ hlt]) rfl rfl hd (n _ h p e s m args below meth c0 C H locs ls hl hH hS)
  · cases h
theorem GC.zald {a : Nat} {i : Int32} {K : Int32 → Option Y} (hd : decode cc pc = .ok (.baload, 1)) (h : (ald x 2 a i).bind K = some Z) (n : ∀ v, K v = some Z → GoC l G own mn cc nL rt fr lo n0 u0 rv x' (pc + 1) lv (.int v :: st) x) : GoC l G own mn cc nL rt fr lo n0 u0 rv x' pc lv (.int i :: G.rv a :: st) x := by
  intro p e s m args below meth c0 C H locs ls hl hH hS
  obtain ⟨hx, hb, hml, ho, hts, hrt, hlk, hkn⟩ := id C
  unfold ald at h
  split at h
  · rename_i q
    obtain ⟨q1, q2⟩ := q
    have h0 : x.kd a ≠ 0 := by omega
    have ha := (hH.2.2.1 a h0).1
    have hc := (hH.2.2.2.2.2.2 a h0).2.1 q1
    have hlt : i.toNatClampNeg < x.ln a := Nat.not_le.mp fun z => q2 (Or.inr z)
    rw [G.rv_ne ha]
    exact W.zald (v := .int (x.ar a i.toNatClampNeg)) hx hb hc (hkn.1.2.2.1.1 _ _) (fun q => by cases q) (by rw [arrV_size]; exact q2) (by rw [arrV_read _ _ hlt]) rfl rfl hd (n _ h p e s m args below meth c0 C H locs ls hl hH hS)
  · cases h
theorem GC.aald {a : Nat} {i : Int32} {K : Nat → Option Y} (hd : decode cc pc = .ok (.aaload, 1)) (h : (rld x a i).bind K = some Z) (n : ∀ v, K v = some Z → GoC l G own mn cc nL rt fr lo n0 u0 rv x' (pc + 1) lv (G.rv v :: st) x) : GoC l G own mn cc nL rt fr lo n0 u0 rv x' pc lv (.int i :: G.rv a :: st) x := by
  intro p e s m args below meth c0 C H locs ls hl hH hS
  obtain ⟨hx, hb, hml, ho, hts, hrt, hlk, hkn⟩ := id C
  unfold rld at h
  split at h
  · rename_i q
    obtain ⟨q1, q2⟩ := q
    have h0 : x.kd a ≠ 0 := by omega
    have ha := (hH.2.2.1 a h0).1
    have hc := (hH.2.2.2.2.2.2 a h0).2.2.1 q1
    have hlt : i.toNatClampNeg < x.ln a := Nat.not_le.mp fun z => q2 (Or.inr z)
    rw [G.rv_ne ha]
    exact W.aald (v := G.rv (x.rr a i.toNatClampNeg)) hx hb hc (hkn.1.2.2.2.1 _ _) rfl (fun q => by cases q) (by rw [arrV_size]; exact q2) (by rw [arrV_read _ _ hlt]) rfl rfl hd (n _ h p e s m args below meth c0 C H locs ls hl hH hS)
  · cases h
theorem GC.alen {a : Nat} {K : Int32 → Option Y} (hd : decode cc pc = .ok (.arraylength, 1)) (h : (aln x a).bind K = some Z) (n : ∀ v, K v = some Z → GoC l G own mn cc nL rt fr lo n0 u0 rv x' (pc + 1) lv (.int v :: st) x) : GoC l G own mn cc nL rt fr lo n0 u0 rv x' pc lv (G.rv a :: st) x := by
  intro p e s m args below meth c0 C H locs ls hl hH hS
  obtain ⟨hx, hb, hml, ho, hts, hrt, hlk, hkn⟩ := id C
  unfold aln at h
  split at h
  · rename_i q
    have h0 : x.kd a ≠ 0 := by omega
    have ha := (hH.2.2.1 a h0).1
    rw [G.rv_ne ha]
    rcases q with q | q
    · exact W.alen (n := nI (x.ln a)) (ty := .int) hx hb ((hH.2.2.2.2.2.2 a h0).1 q) (hkn.1.2.1.1 _ _) (by rw [arrV_size]; rfl) rfl rfl hd (n _ h p e s m args below meth c0 C H locs ls hl hH hS)
    · rcases q with q | q
      · exact W.alen (n := nI (x.ln a)) (ty := .object "java/lang/Object") hx hb ((hH.2.2.2.2.2.2 a h0).2.2.1 q) (hkn.1.2.2.2.1 _ _) (by rw [arrV_size]; rfl) rfl rfl hd (n _ h p e s m args below meth c0 C H locs ls hl hH hS)
      · obtain ⟨ea, el⟩ := (hH.2.2.1 a h0).2.2 q
        obtain ⟨cell, t1, t2, t3, t4, t5, t6, t7⟩ := hkn.2.1.2.1.2.kept hS.2.1
        subst ea
        exact W.alen (n := nI (x.ln 1)) (ty := .object "java/lang/Object") hx hb (show H[G.adr 1]? = some cell from t1) t2 (by rw [el]; exact t5) rfl rfl hd (n _ h p e s m args below meth c0 C H locs ls hl hH hS)
  · cases h
theorem HC.iset {x : Hp} {H H1 : Heap} {a k t : Nat} {v : Int32} (hH : HC G x H) (ht : x.kd a = t) (h12 : t = 1 ∨ t = 2) (e1 : H1[G.adr a]? = some ((arrV (G.cA t) (x.ln a) (fun j => .int (x.ar a j))).setSlot k (.int v))) (h0 : H[G.adr a]? = some (arrV (G.cA t) (x.ln a) (fun j => .int (x.ar a j)))) (z : H1.size = H.size) (oq : ∀ q, q ≠ G.adr a → H1[q]? = H[q]?) : HC G (sar x a k v) H1 := by
  have hc : H1[G.adr a]? = some (arrV (G.cA t) (x.ln a) (fun j => .int (up3 x.ar a k v a j))) := by
    rw [e1, arrV_store]
    congr 2
    funext q
    by_cases hq : q = k
    · subst hq
      simp [updV, up3]
    · simp [updV, up3, hq]
  refine hH.upd (by omega) rfl rfl rfl rfl (fun b hb => ⟨fun _ => rfl, fun _ => rfl, ?_, rfl⟩) (fun h3 => by omega) h0 e1 (k2_slotsz _ _ _) z oq ?_
  · show up3 x.ar a k v b = x.ar b
    funext q
    simp [up3, hb]
  · have hkd : (sar x a k v).kd a = t := ht
    refine ⟨fun h => ?_, fun h => ?_, fun h => by rw [hkd] at h; omega, fun c r h => by rw [hkd] at h; omega⟩
    · rw [hkd] at h
      subst h
      exact hc
    · rw [hkd] at h
      subst h
      exact hc
theorem GC.iast {a : Nat} {i v : Int32} {K : Hp → Option Y} (hd : decode cc pc = .ok (.iastore, 1)) (h : (ast x 1 a i v).bind K = some Z) (n : ∀ x1, K x1 = some Z → GoC l G own mn cc nL rt fr lo n0 u0 rv x' (pc + 1) lv st x1) : GoC l G own mn cc nL rt fr lo n0 u0 rv x' pc lv (.int v :: .int i :: G.rv a :: st) x := by
  intro p e s m args below meth c0 C H locs ls hl hH hS
  obtain ⟨hx, hb, hml, ho, hts, hrt, hlk, hkn⟩ := id C
  unfold ast at h
  split at h
  · rename_i q
    obtain ⟨q1, q2⟩ := q
    have h0 : x.kd a ≠ 0 := by omega
    have ha := (hH.2.2.1 a h0).1
    have hc := (hH.2.2.2.2.2.2 a h0).1 q1
    rw [G.rv_ne ha]
    refine W.iast hx hb hc (hkn.1.2.1.1 _ _) (fun q => by cases q) (by rw [arrV_size]; exact q2) rfl rfl hd fun H1 e1 z oq => ?_
    exact W.any (n _ h p e s m args below meth c0 C H1 _ ls hl (hH.iset q1 (by omega) e1 hc z oq) (hS.put z oq (hH.own h0 (by omega))))
  · cases h
theorem GC.zast {a : Nat} {i v : Int32} {K : Hp → Option Y} (hd : decode cc pc = .ok (.bastore, 1)) (h : (ast x 2 a i (vp_nar .boolean v)).bind K = some Z) (n : ∀ x1, K x1 = some Z → GoC l G own mn cc nL rt fr lo n0 u0 rv x' (pc + 1) lv st x1) : GoC l G own mn cc nL rt fr lo n0 u0 rv x' pc lv (.int v :: .int i :: G.rv a :: st) x := by
  intro p e s m args below meth c0 C H locs ls hl hH hS
  obtain ⟨hx, hb, hml, ho, hts, hrt, hlk, hkn⟩ := id C
  unfold ast at h
  split at h
  · rename_i q
    obtain ⟨q1, q2⟩ := q
    have h0 : x.kd a ≠ 0 := by omega
    have ha := (hH.2.2.1 a h0).1
    have hc := (hH.2.2.2.2.2.2 a h0).2.1 q1
    rw [G.rv_ne ha]
    refine W.zast hx hb hc (hkn.1.2.2.1.1 _ _) (fun q => by cases q) (by rw [arrV_size]; exact q2) rfl rfl hd fun H1 e1 z oq => ?_
    exact W.any (n _ h p e s m args below meth c0 C H1 _ ls hl (hH.iset q1 (by omega) e1 hc z oq) (hS.put z oq (hH.own h0 (by omega))))
  · cases h
theorem HC.rset {x : Hp} {H H1 : Heap} {a k : Nat} {v : Nat} (hH : HC G x H) (ht : x.kd a = 3) (hv : okE x v) (e1 : H1[G.adr a]? = some ((arrV (G.cA 3) (x.ln a) (fun j => G.rv (x.rr a j))).setSlot k (G.rv v))) (h0 : H[G.adr a]? = some (arrV (G.cA 3) (x.ln a) (fun j => G.rv (x.rr a j)))) (z : H1.size = H.size) (oq : ∀ q, q ≠ G.adr a → H1[q]? = H[q]?) : HC G (srr x a k v) H1 := by
  have hc : H1[G.adr a]? = some (arrV (G.cA 3) (x.ln a) (fun j => G.rv (up3 x.rr a k v a j))) := by
    rw [e1, arrV_store]
    congr 2
    funext q
    by_cases hq : q = k
    · subst hq
      simp [updV, up3]
    · simp [updV, up3, hq]
  refine hH.upd (by omega) rfl rfl rfl rfl (fun b hb => ⟨fun _ => rfl, fun _ => rfl, rfl, ?_⟩) (fun h3 j hj => ?_) h0 e1 (k2_slotsz _ _ _) z oq ?_
  · show up3 x.rr a k v b = x.rr b
    funext q
    simp [up3, hb]
  · show okE x (up3 x.rr a k v a j)
    by_cases hq : j = k
    · subst hq
      simpa [up3] using hv
    · simpa [up3, hq] using hH.2.2.2.2.2.1 a h3 j hj
  · have hkd : (srr x a k v).kd a = 3 := ht
    refine ⟨fun h => by rw [hkd] at h; omega, fun h => by rw [hkd] at h; omega, fun _ => hc, fun c r h => by rw [hkd] at h; omega⟩
theorem c_assign {s : State} (hK : KC G s) {c : Nat} {r : vw_C} (hr : clsC[c]? = some r) (hw : va_Nw (.castable r.1 "java/lang/Object") s) {comp : ClassId} (hc : s.vm.findClass "java/lang/Object" = some comp) : s.vm.assignable (G.D.1 c) comp = true := by
  obtain ⟨c1, t1, f1, f2, f3⟩ := Cond.castable_spec (va_Nw.use (A := #[]) rfl hw)
  cases f1.symm.trans (hK.1 c r hr).2.1
  cases f2.symm.trans hc
  exact f3
theorem GC.aast {a v : Nat} {i : Int32} {K : Hp → Option Y} (hd : decode cc pc = .ok (.aastore, 1)) (h : (rst x a i v).bind K = some Z) (n : ∀ x1, K x1 = some Z → GoC l G own mn cc nL rt fr lo n0 u0 rv x' (pc + 1) lv st x1) : GoC l G own mn cc nL rt fr lo n0 u0 rv x' pc lv (G.rv v :: .int i :: G.rv a :: st) x := by
  intro p e s m args below meth c0 C H locs ls hl hH hS
  obtain ⟨hx, hb, hml, ho, hts, hrt, hlk, hkn⟩ := id C
  unfold rst at h
  split at h
  · rename_i q
    obtain ⟨q1, q2, q3⟩ := q
    have h0 : x.kd a ≠ 0 := by omega
    have ha := (hH.2.2.1 a h0).1
    have hc := (hH.2.2.2.2.2.2 a h0).2.2.1 q1
    have hlt : i.toNatClampNeg < x.ln a := Nat.not_le.mp fun z => q2 (Or.inr z)
    have hi0 : ¬ i < 0 := fun z => q2 (Or.inl z)
    rw [G.rv_ne ha]
    by_cases hv : v = 0
    · subst hv
      refine va_WaastN (C := "java/lang/Object") hx hb hc (hkn.1.2.2.2.1 _ _) (fun h => by cases h) (by rw [arrV_size]; exact q2) rfl rfl hd fun H1 e1 z oq => ?_
      exact W.any (n _ h p e s m args below meth c0 C H1 _ ls hl (hH.rset q1 q3 e1 hc z oq) (hS.put z oq (hH.own h0 (by omega))))
    · have hvk : ∃ (cv : Nat) (r : vw_C), clsC[cv]? = some r ∧ x.kd v = 10 + cv ∧ va_Nw (.castable r.1 "java/lang/Object") s := by
        rcases q3 with q3 | q3 | q3
        · exact absurd q3 hv
        · exact ⟨3, _, rfl, q3, hkn.2.1.2.2.2.2.2.1.1⟩
        · exact ⟨7, _, rfl, q3, hkn.2.1.2.2.2.2.2.1.2.1⟩
      obtain ⟨cv, r, hr, hkv, hcw⟩ := hvk
      obtain ⟨-, cellV, g1, g2, g3, -⟩ := hH.obj hr hkv
      obtain ⟨kA, comp, k1, k2, k3, -⟩ := hkn.1.2.2.2.2
      obtain ⟨kC, hkC, -⟩ := (hkn.1.1 cv r hr).2.2
      rw [G.rv_ne hv]
      have hcomp : ∃ kcomp, s.vm.classes[comp]? = some kcomp := by
        obtain ⟨ci, hci⟩ := Vm.classAt_of_findClass k3
        exact ⟨ci, hci⟩
      obtain ⟨kcomp, hkcomp⟩ := hcomp
      refine W.aast hx hb hc (fun q h => by cases h) (fun h => by cases h) k1 k2 rfl hkcomp ⟨hi0, by rw [arrV_size]; exact hlt⟩ g1 (fun q h => by rw [g3] at h; cases h) (by rw [g2]; exact hkC) (by rw [g2]; exact c_assign hkn.1 hr hcw k3) rfl rfl hd fun H1 e1 z oq => ?_
      exact W.any (n _ h p e s m args below meth c0 C H1 _ ls hl (hH.rset q1 q3 (by rw [G.rv_ne hv]; exact e1) hc z oq) (hS.put z oq (hH.own h0 (by omega))))
  · cases h
theorem GC.new {K : Nat → Hp → Option Y} {i : Nat} (c : Nat) {r : vw_C} (hr : clsC[c]? = some r) (hcl : Cond.classLink own i r.1 ∈ gw) (hins : Cond.instantiable r.1 r.2.2 ∈ gw) (hini : Cond.initialized r.1 ∈ gw) (hd : decode cc pc = .ok (.new i, 3)) (h : bd2 (nwO x c r.2.2) K = some Z) (n : ∀ a x1, K a x1 = some Z → GoC l G own mn cc nL rt fr lo n0 u0 rv x' (pc + 3) lv (G.rv a :: st) x1) : GoC l G own mn cc nL rt fr lo n0 u0 rv x' pc lv st x := by
  intro p e s m args below meth c0 C H locs ls hl hH hS
  obtain ⟨hx, hb, hml, ho, hts, hrt, hlk, hkn⟩ := id C
  unfold nwO at h
  split at h
  · rename_i q
    refine W.withX fun T hT X => ?_
    obtain ⟨q1, q2, q3, q4⟩ := c_room hT X hkn.2.2.1 hH
    have hnx := hH.1
    have hadr : G.adr x.nx = H.size := by rw [Gt.adr_own hnx.2.1]; exact hnx.1.symm
    refine W.newc hx hb ho (hts _ hcl) (hts _ hins) (hts _ hini) rfl hd (by show _ ≤ NXc - n0; omega) (by show _ ≤ UXc - u0; omega) fun cC kC f1 f2 f3 f4 => ?_
    have hKn := hkn.1.1 c r hr
    cases f1.symm.trans hKn.2.1
    have hsz : (Array.map defaultValue kC.instanceTypes).size = r.2.2 := by rw [Array.size_map]; exact f4
    refine W.any ?_
    have key := n _ _ h p e s m args below meth c0 C (H.push (blank (G.D.1 c) kC)) locs ls hl ?_ ?_
    · rw [G.rv_ne (by omega), hadr] at key
      exact key
    · refine hH.new (cell := blank (G.D.1 c) kC) (fun b hb => ?_) ⟨?_, ?_⟩ rfl q.1 ?_ ?_ (fun b hb => ⟨rfl, fun id => ?_, fun id => ?_, rfl, rfl⟩) (fun h3 => ?_) ?_
      · show upr x.kd x.nx (10 + c) b = x.kd b
        simp [upr, hb]
      · show upr x.kd x.nx (10 + c) x.nx ≠ 0
        simp [upr]
      · show upr x.kd x.nx (10 + c) x.nx ≠ 5
        simp [upr]; omega
      · show x.us + r.2.2 = x.us + (Array.map defaultValue kC.instanceTypes).size
        rw [hsz]
      · show x.us + (Array.map defaultValue kC.instanceTypes).size ≤ UXc
        rw [hsz]; exact q.2
      · show (if b = x.nx then 0 else x.fi id b) = _
        rw [if_neg hb]
      · show (if b = x.nx then 0 else x.fr id b) = _
        rw [if_neg hb]
      · have : upr x.kd x.nx (10 + c) x.nx = 3 := h3
        simp [upr] at this; omega
      · have hkd : upr x.kd x.nx (10 + c) x.nx = 10 + c := by simp [upr]
        refine ⟨fun h => ?_, fun h => ?_, fun h => ?_, fun c2 r2 h2 hr2 => ?_⟩
        · have h : upr x.kd x.nx (10 + c) x.nx = 1 := h
          omega
        · have h : upr x.kd x.nx (10 + c) x.nx = 2 := h
          omega
        · have h : upr x.kd x.nx (10 + c) x.nx = 3 := h
          omega
        · have h2 : upr x.kd x.nx (10 + c) x.nx = 10 + c2 := h2
          have e2 : c2 = c := by omega
          subst e2
          cases hr2.symm.trans hr
          rw [hadr]
          refine (u_born (c_ty c2) hts (c_in c2 _ hr) hKn f2 (by rw [Array.getElem?_push_size]) (c_ty_ok c2 _ hr)).to (fun k hk => ?_)
          obtain ⟨m1, m2⟩ := c_nf_ok c2 _ hr
          rw [c_def c2 m1 k (by rw [← m2]; exact hk)]
          unfold fvC
          show _ = (if _ then G.rv (if x.nx = x.nx then 0 else _) else .int (if x.nx = x.nx then 0 else _))
          rw [if_pos rfl, if_pos rfl]
          rfl
    · exact ⟨by rw [Array.size_push]; have := hS.1; omega, fun q h1 h2 => by rw [Array.getElem?_push_lt (Nat.lt_of_lt_of_le h1 hS.1), ← Array.getElem?_eq_getElem]; exact hS.2.1 q h1 h2, hS.2.2⟩
  · cases h
theorem GC.newI {K : Nat → Hp → Option Y} {v : Int32} (hcl : Cond.arrayClass .int ∈ gw) (hd : decode cc pc = .ok (.newarray .int, 2)) (h : bd2 (nwA x 1 v) K = some Z) (n : ∀ a x1, K a x1 = some Z → GoC l G own mn cc nL rt fr lo n0 u0 rv x' (pc + 2) lv (G.rv a :: st) x1) : GoC l G own mn cc nL rt fr lo n0 u0 rv x' pc lv (.int v :: st) x := by
  intro p e s m args below meth c0 C H locs ls hl hH hS
  obtain ⟨hx, hb, hml, ho, hts, hrt, hlk, hkn⟩ := id C
  unfold nwA at h
  split at h
  · rename_i q
    refine W.withX fun T hT X => ?_
    obtain ⟨q1, q2, q3, q4⟩ := c_room hT X hkn.2.2.1 hH
    have hnx := hH.1
    have hadr : G.adr x.nx = H.size := by rw [Gt.adr_own hnx.2.1]; exact hnx.1.symm
    have hux : UXc = 7302250 := rfl
    refine W.newa (atype := .int) hx hb (hts _ hcl) rfl hd rfl q.1 (by show v.toNatClampNeg * _ ≤ _; simp only [newarray.typeOf, componentBytes]; omega) (by show _ ≤ NXc - n0; omega) (by show _ ≤ UXc - u0; omega) fun cA kA comp f1 f2 f3 => ?_
    have ecA : cA = G.cA 1 := Option.some.inj (f1.symm.trans hkn.1.2.1.2)
    subst ecA
    refine W.any ?_
    have key := n _ _ h p e s m args below meth c0 C (H.push { cls := G.cA 1, slots := Array.replicate v.toNatClampNeg (defaultValue (newarray.typeOf .int)), vm := .none }) locs ls hl ?_ ?_
    · rw [G.rv_ne (by omega), hadr] at key
      exact key
    · refine hH.new (fun b hb => ?_) ⟨?_, ?_⟩ rfl q.2.1 ?_ ?_ (fun b hb => ⟨?_, fun id => rfl, fun id => rfl, ?_, rfl⟩) (fun h3 => ?_) ?_
      · show upr x.kd x.nx 1 b = x.kd b
        simp [upr, hb]
      · show upr x.kd x.nx 1 x.nx ≠ 0
        simp [upr]
      · show upr x.kd x.nx 1 x.nx ≠ 5
        simp [upr]
      · show x.us + v.toNatClampNeg = x.us + _
        simp
      · simpa using q.2.2
      · show upr x.ln x.nx v.toNatClampNeg b = _
        simp [upr, hb]
      · show upr x.ar x.nx _ b = _
        simp [upr, hb]
      · have : upr x.kd x.nx 1 x.nx = 3 := h3
        simp [upr] at this
      · have hkd : upr x.kd x.nx 1 x.nx = 1 := by simp [upr]
        have hce : (H.push ({ cls := G.cA 1, slots := Array.replicate v.toNatClampNeg (defaultValue (newarray.typeOf .int)), vm := .none } : Cell))[G.adr x.nx]? = some (arrV (G.cA 1) (upr x.ln x.nx v.toNatClampNeg x.nx) (fun j => .int (upr x.ar x.nx (fun _ => 0) x.nx j))) := by
          rw [hadr, Array.getElem?_push_size, arrV_new]
          simp [upr]
          rfl
        refine ⟨fun h => ?_, fun h => ?_, fun h => ?_, fun c2 r2 h2 hr2 => ?_⟩
        · have h : upr x.kd x.nx 1 x.nx = 1 := h
          first | exact hce | omega
        · have h : upr x.kd x.nx 1 x.nx = 2 := h
          first | exact hce | omega
        · have h : upr x.kd x.nx 1 x.nx = 3 := h
          omega
        · have h2 : upr x.kd x.nx 1 x.nx = 10 + c2 := h2
          omega
    · exact ⟨by rw [Array.size_push]; have := hS.1; omega, fun q h1 h2 => by rw [Array.getElem?_push_lt (Nat.lt_of_lt_of_le h1 hS.1), ← Array.getElem?_eq_getElem]; exact hS.2.1 q h1 h2, hS.2.2⟩
  · cases h
theorem GC.newZ {K : Nat → Hp → Option Y} {v : Int32} (hcl : Cond.arrayClass .boolean ∈ gw) (hd : decode cc pc = .ok (.newarray .boolean, 2)) (h : bd2 (nwA x 2 v) K = some Z) (n : ∀ a x1, K a x1 = some Z → GoC l G own mn cc nL rt fr lo n0 u0 rv x' (pc + 2) lv (G.rv a :: st) x1) : GoC l G own mn cc nL rt fr lo n0 u0 rv x' pc lv (.int v :: st) x := by
  intro p e s m args below meth c0 C H locs ls hl hH hS
  obtain ⟨hx, hb, hml, ho, hts, hrt, hlk, hkn⟩ := id C
  unfold nwA at h
  split at h
  · rename_i q
    refine W.withX fun T hT X => ?_
    obtain ⟨q1, q2, q3, q4⟩ := c_room hT X hkn.2.2.1 hH
    have hnx := hH.1
    have hadr : G.adr x.nx = H.size := by rw [Gt.adr_own hnx.2.1]; exact hnx.1.symm
    have hux : UXc = 7302250 := rfl
    refine W.newa (atype := .boolean) hx hb (hts _ hcl) rfl hd rfl q.1 (by show v.toNatClampNeg * _ ≤ _; simp only [newarray.typeOf, componentBytes]; omega) (by show _ ≤ NXc - n0; omega) (by show _ ≤ UXc - u0; omega) fun cA kA comp f1 f2 f3 => ?_
    have ecA : cA = G.cA 2 := Option.some.inj (f1.symm.trans hkn.1.2.2.1.2)
    subst ecA
    refine W.any ?_
    have key := n _ _ h p e s m args below meth c0 C (H.push { cls := G.cA 2, slots := Array.replicate v.toNatClampNeg (defaultValue (newarray.typeOf .boolean)), vm := .none }) locs ls hl ?_ ?_
    · rw [G.rv_ne (by omega), hadr] at key
      exact key
    · refine hH.new (fun b hb => ?_) ⟨?_, ?_⟩ rfl q.2.1 ?_ ?_ (fun b hb => ⟨?_, fun id => rfl, fun id => rfl, ?_, rfl⟩) (fun h3 => ?_) ?_
      · show upr x.kd x.nx 2 b = x.kd b
        simp [upr, hb]
      · show upr x.kd x.nx 2 x.nx ≠ 0
        simp [upr]
      · show upr x.kd x.nx 2 x.nx ≠ 5
        simp [upr]
      · show x.us + v.toNatClampNeg = x.us + _
        simp
      · simpa using q.2.2
      · show upr x.ln x.nx v.toNatClampNeg b = _
        simp [upr, hb]
      · show upr x.ar x.nx _ b = _
        simp [upr, hb]
      · have : upr x.kd x.nx 2 x.nx = 3 := h3
        simp [upr] at this
      · have hkd : upr x.kd x.nx 2 x.nx = 2 := by simp [upr]
        have hce : (H.push ({ cls := G.cA 2, slots := Array.replicate v.toNatClampNeg (defaultValue (newarray.typeOf .boolean)), vm := .none } : Cell))[G.adr x.nx]? = some (arrV (G.cA 2) (upr x.ln x.nx v.toNatClampNeg x.nx) (fun j => .int (upr x.ar x.nx (fun _ => 0) x.nx j))) := by
          rw [hadr, Array.getElem?_push_size, arrV_new]
          simp [upr]
          rfl
        refine ⟨fun h => ?_, fun h => ?_, fun h => ?_, fun c2 r2 h2 hr2 => ?_⟩
        · have h : upr x.kd x.nx 2 x.nx = 1 := h
          first | exact hce | omega
        · have h : upr x.kd x.nx 2 x.nx = 2 := h
          first | exact hce | omega
        · have h : upr x.kd x.nx 2 x.nx = 3 := h
          omega
        · have h2 : upr x.kd x.nx 2 x.nx = 10 + c2 := h2
          omega
    · exact ⟨by rw [Array.size_push]; have := hS.1; omega, fun q h1 h2 => by rw [Array.getElem?_push_lt (Nat.lt_of_lt_of_le h1 hS.1), ← Array.getElem?_eq_getElem]; exact hS.2.1 q h1 h2, hS.2.2⟩
  · cases h
theorem GC.newR {K : Nat → Hp → Option Y} {v : Int32} {i : Nat} (hcl : Cond.classLink own i "java/lang/Object" ∈ gw) (hd : decode cc pc = .ok (.anewarray i, 3)) (h : bd2 (nwR x v) K = some Z) (n : ∀ a x1, K a x1 = some Z → GoC l G own mn cc nL rt fr lo n0 u0 rv x' (pc + 3) lv (G.rv a :: st) x1) : GoC l G own mn cc nL rt fr lo n0 u0 rv x' pc lv (.int v :: st) x := by
  intro p e s m args below meth c0 C H locs ls hl hH hS
  obtain ⟨hx, hb, hml, ho, hts, hrt, hlk, hkn⟩ := id C
  unfold nwR at h
  split at h
  · rename_i q
    refine W.withX fun T hT X => ?_
    obtain ⟨q1, q2, q3, q4⟩ := c_room hT X hkn.2.2.1 hH
    have hnx := hH.1
    have hadr : G.adr x.nx = H.size := by rw [Gt.adr_own hnx.2.1]; exact hnx.1.symm
    have hux : UXc = 7302250 := rfl
    refine W.anew hx hb ho (hts _ hcl) (va_AO.use hkn.2.1.2.2.2.2.2.1.2.2.1) rfl hd rfl q.1 (by omega) (by show _ ≤ NXc - n0; omega) (by show _ ≤ UXc - u0; omega) fun cA kA comp f1 f2 f3 f4 => ?_
    have ecA : cA = G.cA 3 := by
      obtain ⟨-, -, -, -, -, g5⟩ := hkn.1.2.2.2.2
      exact Option.some.inj (f1.symm.trans g5)
    subst ecA
    refine W.any ?_
    have key := n _ _ h p e s m args below meth c0 C (H.push { cls := G.cA 3, slots := Array.replicate v.toNatClampNeg .null, vm := .none }) locs ls hl ?_ ?_
    · rw [G.rv_ne (by omega), hadr] at key
      exact key
    · refine hH.new (fun b hb => ?_) ⟨?_, ?_⟩ rfl q.2.1 ?_ ?_ (fun b hb => ⟨?_, fun id => rfl, fun id => rfl, rfl, ?_⟩) (fun h3 j hj => ?_) ?_
      · show upr x.kd x.nx 3 b = x.kd b
        simp [upr, hb]
      · show upr x.kd x.nx 3 x.nx ≠ 0
        simp [upr]
      · show upr x.kd x.nx 3 x.nx ≠ 5
        simp [upr]
      · show x.us + v.toNatClampNeg = x.us + _
        simp
      · simpa using q.2.2
      · show upr x.ln x.nx v.toNatClampNeg b = _
        simp [upr, hb]
      · show upr x.rr x.nx _ b = _
        simp [upr, hb]
      · show upr x.rr x.nx (fun _ => 0) x.nx j = 0
        simp [upr]
      · have hkd : upr x.kd x.nx 3 x.nx = 3 := by simp [upr]
        have hce : (H.push ({ cls := G.cA 3, slots := Array.replicate v.toNatClampNeg .null, vm := .none } : Cell))[G.adr x.nx]? = some (arrV (G.cA 3) (upr x.ln x.nx v.toNatClampNeg x.nx) (fun j => G.rv (upr x.rr x.nx (fun _ => 0) x.nx j))) := by
          rw [hadr, Array.getElem?_push_size, arrV_new]
          simp [upr]
          rfl
        refine ⟨fun h => ?_, fun h => ?_, fun h => hce, fun c2 r2 h2 hr2 => ?_⟩
        · have h : upr x.kd x.nx 3 x.nx = 1 := h
          omega
        · have h : upr x.kd x.nx 3 x.nx = 2 := h
          omega
        · have h2 : upr x.kd x.nx 3 x.nx = 10 + c2 := h2
          omega
    · exact ⟨by rw [Array.size_push]; have := hS.1; omega, fun q h1 h2 => by rw [Array.getElem?_push_lt (Nat.lt_of_lt_of_le h1 hS.1), ← Array.getElem?_eq_getElem]; exact hS.2.1 q h1 h2, hS.2.2⟩
  · cases h
end GC2
