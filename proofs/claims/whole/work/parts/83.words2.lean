-- a state's words, told ones, measure and cap are set
def Vt.sW (V : Vt) (W : Nat → Nat) : Vt := mkV W V.T V.M V.C V.U V.R V.P
def Vt.sT (V : Vt) (T : List Ent) : Vt := mkV V.W T V.M V.C V.U V.R V.P
def Vt.sM (V : Vt) (M : Nat) : Vt := mkV V.W V.T M V.C V.U V.R V.P
def Vt.sC (V : Vt) (C : Nat) : Vt := mkV V.W V.T V.M C V.U V.R V.P
def up1 (W : Nat → Nat) (t w : Nat) : Nat → Nat := fun x => if x = t then w else W x
theorem up1_s {W : Nat → Nat} {t w : Nat} : up1 W t w t = w := if_pos rfl
theorem up1_n {W : Nat → Nat} {t w x : Nat} (h : x ≠ t) : up1 W t w x = W x := if_neg h
section WD
variable {V : Vt} {σ σ1 : Hp} {E : Nat} {L : List Nat}
theorem cn_le (V : Vt) : cn V ≤ 40 := by
  rw [cn_su]
  have := su_le (f := fun t => if hs V t then 1 else 0) (c := 1) (fun i => by show (if _ then 1 else 0) ≤ 1; split <;> omega) 40
  omega
theorem cn_put {t w : Nat} (ht : t < 40) (h0 : V.W t = 0) (hw : w ≠ 0) : cn (V.sW (up1 V.W t w)) = cn V + 1 := by
  rw [cn_su, cn_su]
  have := su_upd (f := fun x => if hs V x then 1 else 0) (h := fun x => if hs (V.sW (up1 V.W t w)) x then 1 else 0) (k := t) (d := 1) (by
    show (if hs (V.sW (up1 V.W t w)) t then 1 else 0) = (if hs V t then 1 else 0) + 1
    rw [if_pos (show hs (V.sW (up1 V.W t w)) t from ⟨ht, by show up1 V.W t w t ≠ 0; rw [up1_s]; exact hw⟩), if_neg (fun z => z.2 h0)]) (fun i hi => by
    have : hs (V.sW (up1 V.W t w)) i ↔ hs V i := by
      show (i < 40 ∧ up1 V.W t w i ≠ 0) ↔ _
      rw [up1_n hi]
    show (if hs (V.sW (up1 V.W t w)) i then 1 else 0) = (if hs V i then 1 else 0)
    by_cases z : hs V i
    · rw [if_pos z, if_pos (this.mpr z)]
    · rw [if_neg z, if_neg (fun y => z (this.mp y))]) 40
  rw [if_pos ht] at this
  exact this
theorem cn_drop {t : Nat} (ht : hs V t) : cn (V.sW (up1 V.W t 0)) + 1 = cn V := by
  rw [cn_su, cn_su]
  have := su_upd (h := fun x => if hs V x then 1 else 0) (f := fun x => if hs (V.sW (up1 V.W t 0)) x then 1 else 0) (k := t) (d := 1) (by
    show (if hs V t then 1 else 0) = (if hs (V.sW (up1 V.W t 0)) t then 1 else 0) + 1
    rw [if_pos ht, if_neg (fun z => z.2 (by show up1 V.W t 0 t = 0; exact up1_s))]) (fun i hi => by
    have : hs (V.sW (up1 V.W t 0)) i ↔ hs V i := by
      show (i < 40 ∧ up1 V.W t 0 i ≠ 0) ↔ _
      rw [up1_n hi]
    show (if hs V i then 1 else 0) = (if hs (V.sW (up1 V.W t 0)) i then 1 else 0)
    by_cases z : hs V i
    · rw [if_pos z, if_pos (this.mpr z)]
    · rw [if_neg z, if_neg (fun y => z (this.mp y))]) 40
  rw [if_pos ht.1] at this
  exact this.symm
theorem cn_T {T : List Ent} : cn (V.sT T) = cn V := rfl
/-- the state's own cells -/
def Ah (x : Nat) : Prop := 3 ≤ x ∧ x ≤ 7
theorem St.hd {V' : Vt} (h : St σ 3 E L V) (d : Dn Ah σ σ1) (h9 : σ1.fi 709 3 = σ.fi 709 3) (h10 : σ1.fi 710 3 = σ.fi 710 3) (hd : Hd σ1 3 V') (eU : V'.U = V.U) (eR : V'.R = V.R) (eP : V'.P = V.P) : St σ1 3 E L V' := by
  obtain ⟨a1, ⟨a2, a3⟩, a4, a5, a6, a7, a8⟩ := id h
  refine ⟨hd, ⟨by rw [h9, eU]; exact a2, by rw [h10, eR]; exact a3⟩, a4.dn d (fun q => by unfold Ah at q; omega), a5, fun a ha => (a6 a ha).dn d, by rw [eU]; exact a7, fun p a hp ha => ?_⟩
  rw [eU] at hp
  rw [eP]
  have := pg_hd (a6 a (List.mem_of_getElem? ha)) a1 h.kl
  exact (a8 p a hp ha).dn d (fun x q1 q2 q => by unfold Ah at q; omega)
theorem Hd.dn {V' : Vt} (h : Hd σ 3 V) (d : Dn Ah σ σ1) (h4 : σ1.fi 701 3 = nI (cn V') ∧ σ1.fi 705 3 = nI V'.T.length ∧ σ1.fi 706 3 = nI V'.M ∧ σ1.fi 707 3 = nI V'.C) (hW : ∀ t, t < 40 → σ1.ar 4 t = nI (V'.W t)) (hT : ∀ (k : Nat) (e : Ent), V'.T[k]? = some e → σ1.ar 5 k = nI e.1 ∧ σ1.ar 6 k = nI e.2.1 ∧ σ1.ar 7 k = nI e.2.2) : Hd σ1 3 V' := by
  obtain ⟨a1, a2, a3, a4, a5⟩ := h
  exact ⟨by rw [d.1.1]; exact a1, by rw [d.1.2.1]; exact a2, by rw [d.1.2.2.1]; exact a3, h4, hW, hT⟩
theorem Ah3 : Ah 3 := ⟨by omega, by omega⟩
theorem c_setWord (h : St σ 3 E L V) {t w : Nat} (ht : t < 40) (h0 : V.W t = 0) (hw : w ≠ 0) : ∃ s, kX7_setWord σ 3 (nI t) (nI w) = some s ∧ St s 3 E L (V.sW (up1 V.W t w)) ∧ Dn Ah σ s := by
  obtain ⟨⟨d1, d2, d3, d4, d5⟩, ⟨d6, d7, d8, d9⟩, ⟨d10, d11, d12, d13, d14⟩, ⟨d15, d16, d17, d18⟩, d19, d20⟩ := id h.1
  have d10 : σ.fr 700 3 = 4 := d10
  unfold kX7_setWord
  rw [if_neg (nI_pos (by omega)), show (40 : Int32) = nI 40 from rfl, if_neg (nI_ge ht (by omega)), gfr_ok d1, d10, bind_s, ast_saw d2 (by show t < σ.ln (3 + 1); omega) (by omega), bind_s, gfi_ok (show (saw σ 4 _).kd 3 = 17 from d1), bind_s, fi_saw, d15, pfi_ok (show (saw σ 4 _).kd 3 = 17 from d1), bind_s, nI_1]
  have dn : Dn Ah σ (sfi (saw σ 4 (upd (σ.ar 4) t (nI w))) 701 3 (nI (cn V + 1))) := (Dn.xa ⟨by omega, by omega⟩).xi' Ah3
  refine ⟨_, rfl, h.hd dn ?_ ?_ (h.1.dn dn ⟨?_, ?_, ?_, ?_⟩ (fun x hx => ?_) (fun k e he => ?_)) rfl rfl rfl, dn⟩
  · rw [fi_sfi, if_neg (by omega), fi_saw]
  · rw [fi_sfi, if_neg (by omega), fi_saw]
  · rw [fi_sfi, if_pos ⟨rfl, rfl⟩, cn_put ht h0 hw]
  · rw [fi_sfi, if_neg (by omega), fi_saw]; exact d16
  · rw [fi_sfi, if_neg (by omega), fi_saw]; exact d17
  · rw [fi_sfi, if_neg (by omega), fi_saw]; exact d18
  · rw [ar_sfi, ar_saw]
    show _ = nI (up1 V.W t w x)
    by_cases z : x = t
    · rw [z, upd_s, up1_s]
    · rw [upd_n z, up1_n z]; exact d19 x hx
  · rw [ar_sfi, ar_saw_ne (by decide), ar_saw_ne (by decide), ar_saw_ne (by decide)]
    exact d20 k e he
theorem c_field (h : St σ 3 E L V) {i : Nat} {V' : Vt} {n : Nat} (hi : (i = 705 ∧ V' = V.sT (V.T.take n) ∧ n ≤ V.T.length) ∨ (i = 706 ∧ V' = V.sM n) ∨ (i = 707 ∧ V' = V.sC n)) : St (sfi σ i 3 (nI n)) 3 E L V' ∧ Dn Ah σ (sfi σ i 3 (nI n)) := by
  obtain ⟨⟨d1, d2, d3, d4, d5⟩, ⟨d6, d7, d8, d9⟩, ⟨d10, d11, d12, d13, d14⟩, ⟨d15, d16, d17, d18⟩, d19, d20⟩ := id h.1
  have dn : Dn Ah σ (sfi σ i 3 (nI n)) := Dn.xi Ah3
  refine ⟨?_, dn⟩
  rcases hi with ⟨rfl, rfl, hn⟩ | ⟨rfl, rfl⟩ | ⟨rfl, rfl⟩
  · refine h.hd dn (by rw [fi_sfi, if_neg (by omega)]) (by rw [fi_sfi, if_neg (by omega)]) (h.1.dn dn ⟨by rw [fi_sfi, if_neg (by omega)]; exact d15, ?_, by rw [fi_sfi, if_neg (by omega)]; exact d17, by rw [fi_sfi, if_neg (by omega)]; exact d18⟩ d19 (fun k e he => ?_)) rfl rfl rfl
    · rw [fi_sfi, if_pos ⟨rfl, rfl⟩]
      show nI n = nI (V.T.take n).length
      rw [List.length_take, Nat.min_eq_left hn]
    · have he : (V.T.take n)[k]? = some e := he
      have hk := get_lt he
      rw [List.length_take] at hk
      rw [List.getElem?_take_of_lt (by omega)] at he
      exact d20 k e he
  · exact h.hd dn (by rw [fi_sfi, if_neg (by omega)]) (by rw [fi_sfi, if_neg (by omega)]) (h.1.dn dn ⟨by rw [fi_sfi, if_neg (by omega)]; exact d15, by rw [fi_sfi, if_neg (by omega)]; exact d16, by rw [fi_sfi, if_pos ⟨rfl, rfl⟩]; rfl, by rw [fi_sfi, if_neg (by omega)]; exact d18⟩ d19 d20) rfl rfl rfl
  · exact h.hd dn (by rw [fi_sfi, if_neg (by omega)]) (by rw [fi_sfi, if_neg (by omega)]) (h.1.dn dn ⟨by rw [fi_sfi, if_neg (by omega)]; exact d15, by rw [fi_sfi, if_neg (by omega)]; exact d16, by rw [fi_sfi, if_neg (by omega)]; exact d17, by rw [fi_sfi, if_pos ⟨rfl, rfl⟩]; rfl⟩ d19 d20) rfl rfl rfl
def H3 (σ : Hp) : Prop := (σ.kd 3 = 17 ∧ σ.kd 4 = 1 ∧ σ.kd 5 = 1 ∧ σ.kd 6 = 1 ∧ σ.kd 7 = 1) ∧ (σ.ln 4 = 40 ∧ σ.ln 5 = 16 ∧ σ.ln 6 = 16 ∧ σ.ln 7 = 16) ∧ (σ.fr 700 3 = 4 ∧ σ.fr 702 3 = 5 ∧ σ.fr 703 3 = 6 ∧ σ.fr 704 3 = 7 ∧ σ.fr 708 3 = 8)
theorem Hd.h3 (h : Hd σ 3 V) : H3 σ := ⟨h.1, h.2.1, h.2.2.1⟩
theorem H3.dn {A : Nat → Prop} (h : H3 σ) (d : Dn A σ σ1) : H3 σ1 := by
  unfold H3 at *
  rw [d.1.1, d.1.2.1, d.1.2.2.1]
  exact h
/-- a told one is written at a place, the number of them not yet -/
theorem c_setTold (h : H3 σ) {k : Nat} {e : Ent} (hk : k < 16) : ∃ s, kX7_setTold σ 3 (nI k) (nI e.1) (nI e.2.1) (nI e.2.2) = some s ∧ Dn Ah σ s ∧ s.fi = σ.fi ∧ s.ar 4 = σ.ar 4 ∧ s.ar 5 = upd (σ.ar 5) k (nI e.1) ∧ s.ar 6 = upd (σ.ar 6) k (nI e.2.1) ∧ s.ar 7 = upd (σ.ar 7) k (nI e.2.2) := by
  obtain ⟨⟨d1, d2, d3, d4, d5⟩, ⟨d6, d7, d8, d9⟩, ⟨d10, d11, d12, d13, d14⟩⟩ := id h
  have d11 : σ.fr 702 3 = 5 := d11
  have d12 : σ.fr 703 3 = 6 := d12
  have d13 : σ.fr 704 3 = 7 := d13
  have d3 : σ.kd 5 = 1 := d3
  have d4 : σ.kd 6 = 1 := d4
  have d5 : σ.kd 7 = 1 := d5
  have d7 : σ.ln 5 = 16 := d7
  have d8 : σ.ln 6 = 16 := d8
  have d9 : σ.ln 7 = 16 := d9
  unfold kX7_setTold
  rw [gfr_ok d1, d11, bind_s, ast_saw d3 (by omega) (by omega), bind_s, gfr_ok (show (saw σ 5 _).kd 3 = 17 from d1), fr_saw, d12, bind_s, ast_saw (show (saw σ 5 _).kd 6 = 1 from d4) (by rw [ln_saw]; omega) (by omega), bind_s, gfr_ok (show (saw (saw σ 5 _) 6 _).kd 3 = 17 from d1), fr_saw, fr_saw, d13, bind_s, ast_saw (show (saw (saw σ 5 _) 6 _).kd 7 = 1 from d5) (by rw [ln_saw, ln_saw]; omega) (by omega), bind_s]
  refine ⟨_, rfl, ((Dn.xa ⟨by omega, by omega⟩).xa' ⟨by omega, by omega⟩).xa' ⟨by omega, by omega⟩, by rw [fi_saw, fi_saw, fi_saw], ?_, ?_, ?_, ?_⟩
  · rw [ar_saw_ne (by decide), ar_saw_ne (by decide), ar_saw_ne (by decide)]
  · rw [ar_saw_ne (by decide), ar_saw_ne (by decide), ar_saw]
  · rw [ar_saw_ne (by decide), ar_saw, ar_saw_ne (by decide)]
  · rw [ar_saw, ar_saw_ne (by decide), ar_saw_ne (by decide)]
theorem filter_take {p : Ent → Bool} {T : List Ent} {k : Nat} {e : Ent} (h : T[k]? = some e) : (T.take (k + 1)).filter p = (T.take k).filter p ++ (if p e = true then [e] else []) := by
  rw [List.take_succ, h, List.filter_append]
  congr 1
  show List.filter p [e] = _
  by_cases z : p e = true
  · rw [if_pos z, List.filter_cons_of_pos z]; rfl
  · rw [if_neg z, List.filter_cons_of_neg z]; rfl
theorem filter_len {p : Ent → Bool} {T : List Ent} {k : Nat} : ((T.take k).filter p).length ≤ k := by
  have := List.length_filter_le p (T.take k)
  rw [List.length_take] at this
  omega
def nt (t : Nat) (e : Ent) : Bool := !(decide (e.1 = t) || decide (e.2.1 = t))
theorem nt_t {t : Nat} {e : Ent} : nt t e = true ↔ e.1 ≠ t ∧ e.2.1 ≠ t := by unfold nt; simp
set_option maxHeartbeats 1000000 in
theorem c_forget (h : St σ 3 E L V) (hv : Vw V) {t : Nat} (ht : hs V t) : ∃ s, kX7_forget σ 3 (nI t) = some s ∧ St s 3 E L ((V.sW (up1 V.W t 0)).sT (V.T.filter (nt t))) ∧ Dn Ah σ s := by
  obtain ⟨⟨d1, d2, d3, d4, d5⟩, ⟨d6, d7, d8, d9⟩, ⟨d10, d11, d12, d13, d14⟩, ⟨d15, d16, d17, d18⟩, d19, d20⟩ := id h.1
  have d10 : σ.fr 700 3 = 4 := d10
  have l16 := hv.2.2.2.1
  have t40 := ht.1
  have e0 : (0 : Int32) = nI 0 := rfl
  have cp : 0 < cn V := by have := cn_drop ht; omega
  unfold kX7_forget
  rw [gfr_ok d1, d10, bind_s, ast_saw d2 (by show t < σ.ln (3 + 1); omega) (by omega), bind_s, gfi_ok (show (saw σ 4 _).kd 3 = 17 from d1), bind_s, fi_saw, d15, pfi_ok (show (saw σ 4 _).kd 3 = 17 from d1), bind_s, show (1 : Int32) = nI 1 from rfl, pk_sub (by omega)]
  generalize hs0 : sfi (saw σ 4 (upd (σ.ar 4) t 0)) 701 3 (nI (cn V - 1)) = s0
  have dn0 : Dn Ah σ s0 := by rw [← hs0]; exact (Dn.xa ⟨by omega, by omega⟩).xi' Ah3
  have i701 : s0.fi 701 3 = nI (cn V - 1) := by rw [← hs0, fi_sfi, if_pos ⟨rfl, rfl⟩]
  have io : ∀ i, i ≠ 701 → s0.fi i 3 = σ.fi i 3 := fun i hi => by rw [← hs0, fi_sfi, if_neg (fun y => hi y.1), fi_saw]
  have r4 : s0.ar 4 = upd (σ.ar 4) t 0 := by rw [← hs0, ar_sfi, ar_saw]
  have r5 : s0.ar 5 = σ.ar 5 ∧ s0.ar 6 = σ.ar 6 ∧ s0.ar 7 = σ.ar 7 := by rw [← hs0, ar_sfi, ar_saw_ne (by decide), ar_saw_ne (by decide), ar_saw_ne (by decide)]; exact ⟨rfl, rfl, rfl⟩
  rw [e0]
  refine lp V.T.length (fun F k (s : Hp) => kX7_forget_21 F 3 (nI t) (nI ((V.T.take k).filter (nt t)).length) (nI k) s) (fun k s => Dn Ah σ s ∧ s.fi = s0.fi ∧ s.ar 4 = s0.ar 4 ∧ (∀ (m : Nat) (e : Ent), k ≤ m → V.T[m]? = some e → s.ar 5 m = nI e.1 ∧ s.ar 6 m = nI e.2.1 ∧ s.ar 7 m = nI e.2.2) ∧ (∀ (m : Nat) (e : Ent), ((V.T.take k).filter (nt t))[m]? = some e → s.ar 5 m = nI e.1 ∧ s.ar 6 m = nI e.2.1 ∧ s.ar 7 m = nI e.2.2)) (fun r => ∃ s, r = some s ∧ St s 3 E L ((V.sW (up1 V.W t 0)).sT (V.T.filter (nt t))) ∧ Dn Ah σ s) (fun F s J => ?_) (fun F k s hk J => Or.inl ?_) V.T.length 0 FU s0 (FU_gt (by omega)) (by omega) ⟨dn0, rfl, rfl, fun m e _ he => by rw [r5.1, r5.2.1, r5.2.2]; exact d20 m e he, fun m e he => by cases he⟩
  · obtain ⟨j1, j2, j3, j4, j5⟩ := J
    rw [List.take_length] at j5
    have k17 : s.kd 3 = 17 := by rw [j1.1.1]; exact d1
    show ∃ s', kX7_forget_21 (F + 1) 3 (nI t) (nI ((V.T.take V.T.length).filter (nt t)).length) (nI V.T.length) s = some s' ∧ _
    rw [kX7_forget_21.eq_2, gfi_ok k17, j2, io 705 (by decide), d16, bind_s, if_pos (nI_le (Nat.le_refl _) (by omega)), pfi_ok k17, bind_s, List.take_length]
    have dn : Dn Ah σ (sfi s 705 3 (nI (V.T.filter (nt t)).length)) := j1.xi' Ah3
    refine ⟨_, rfl, h.hd dn ?_ ?_ (h.1.dn dn ⟨?_, ?_, ?_, ?_⟩ (fun x hx => ?_) (fun m e he => ?_)) rfl rfl rfl, dn⟩
    · rw [fi_sfi, if_neg (by omega), j2, io _ (by decide)]
    · rw [fi_sfi, if_neg (by omega), j2, io _ (by decide)]
    · rw [fi_sfi, if_neg (by omega), j2, i701]
      show _ = nI (cn (V.sW (up1 V.W t 0)))
      have := cn_drop ht
      congr 1
      omega
    · rw [fi_sfi, if_pos ⟨rfl, rfl⟩]; rfl
    · rw [fi_sfi, if_neg (by omega), j2, io _ (by decide)]; exact d17
    · rw [fi_sfi, if_neg (by omega), j2, io _ (by decide)]; exact d18
    · rw [ar_sfi, j3, r4]
      show _ = nI (up1 V.W t 0 x)
      by_cases z : x = t
      · rw [z, upd_s, up1_s]; rfl
      · rw [upd_n z, up1_n z]; exact d19 x hx
    · rw [ar_sfi]; exact j5 m e he
  · obtain ⟨j1, j2, j3, j4, j5⟩ := J
    obtain ⟨e, he⟩ : ∃ e, V.T[k]? = some e := ⟨_, List.getElem?_eq_getElem hk⟩
    obtain ⟨c1, c2, c3⟩ := j4 k e (Nat.le_refl _) he
    obtain ⟨m1, m2, m3, m4⟩ := hv.2.2.2.2.1 e (List.mem_of_getElem? he)
    have m1 := m1.1
    have m2 := m2.1
    have k17 : s.kd 3 = 17 := by rw [j1.1.1]; exact d1
    have hds : (s.fr 702 3 = 5 ∧ s.fr 703 3 = 6 ∧ s.fr 704 3 = 7) := by rw [j1.1.2.2.1]; exact ⟨d11, d12, d13⟩
    have a5 : ald s 1 5 (nI k) = some (nI e.1) := by rw [ald_ok (by rw [j1.1.1]; exact d3) (by rw [j1.1.2.1]; show k < σ.ln (3 + 2); omega) (by omega), c1]
    have a6 : ald s 1 6 (nI k) = some (nI e.2.1) := by rw [ald_ok (by rw [j1.1.1]; exact d4) (by rw [j1.1.2.1]; show k < σ.ln (3 + 3); omega) (by omega), c2]
    have a7 : ald s 1 7 (nI k) = some (nI e.2.2) := by rw [ald_ok (by rw [j1.1.1]; exact d5) (by rw [j1.1.2.1]; show k < σ.ln (3 + 4); omega) (by omega), c3]
    have ft := filter_take (p := nt t) he
    have fl := filter_len (p := nt t) (T := V.T) (k := k)
    show ∃ a', _ ∧ kX7_forget_21 (F + 1) 3 (nI t) (nI ((V.T.take k).filter (nt t)).length) (nI k) s = kX7_forget_21 F 3 (nI t) (nI ((V.T.take (k + 1)).filter (nt t)).length) (nI (k + 1)) a'
    rw [kX7_forget_21.eq_2, gfi_ok k17, j2, io 705 (by decide), d16, bind_s, if_neg (nI_ge hk (by omega)), gfr_ok k17, hds.1, bind_s, a5, bind_s]
    unfold kX7_forget_75
    have out : nt t e ≠ true → ∃ a', (Dn Ah σ a' ∧ a'.fi = s0.fi ∧ a'.ar 4 = s0.ar 4 ∧ (∀ (m : Nat) (e : Ent), k + 1 ≤ m → V.T[m]? = some e → a'.ar 5 m = nI e.1 ∧ a'.ar 6 m = nI e.2.1 ∧ a'.ar 7 m = nI e.2.2) ∧ (∀ (m : Nat) (e : Ent), ((V.T.take (k + 1)).filter (nt t))[m]? = some e → a'.ar 5 m = nI e.1 ∧ a'.ar 6 m = nI e.2.1 ∧ a'.ar 7 m = nI e.2.2)) ∧ kX7_forget_21 F 3 (nI t) (nI ((V.T.take k).filter (nt t)).length) (nI k + 1) s = kX7_forget_21 F 3 (nI t) (nI ((V.T.take (k + 1)).filter (nt t)).length) (nI (k + 1)) a' := fun z => by
      rw [if_neg z, List.append_nil] at ft
      rw [nI_1, ft]
      exact ⟨s, ⟨j1, j2, j3, fun m e hm he => j4 m e (by omega) he, j5⟩, rfl⟩
    by_cases z1 : e.1 = t
    · rw [if_pos (by rw [z1])]
      exact out (fun y => (nt_t.mp y).1 z1)
    · rw [if_neg (fun y => z1 ((nI_eq (by omega) (by omega)).mp y)), gfr_ok k17, hds.2.1, bind_s, a6, bind_s]
      by_cases z2 : e.2.1 = t
      · rw [if_pos (by rw [z2])]
        exact out (fun y => (nt_t.mp y).2 z2)
      · rw [if_neg (fun y => z2 ((nI_eq (by omega) (by omega)).mp y)), bind_s, a5, bind_s, bind_s, a6, bind_s, gfr_ok k17, hds.2.2, bind_s, a7, bind_s, ckd_ok k17]
        obtain ⟨s', g1, g2, g3, g4, g5, g6, g7⟩ := c_setTold (h.1.h3.dn j1) (k := ((V.T.take k).filter (nt t)).length) (e := e) (by omega)
        rw [if_pos (nt_t.mpr ⟨z1, z2⟩)] at ft
        rw [g1, bind_s, nI_1, nI_1, ft, List.length_append]
        refine ⟨s', ⟨j1.tr g2, g3.trans j2, g4.trans j3, fun m e2 hm he2 => ?_, fun m e2 he2 => ?_⟩, rfl⟩
        · rw [g5, g6, g7, upd_n (by omega), upd_n (by omega), upd_n (by omega)]
          exact j4 m e2 (by omega) he2
        · rw [g5, g6, g7]
          by_cases y : m < ((V.T.take k).filter (nt t)).length
          · rw [List.getElem?_append_left y] at he2
            rw [upd_n (by omega), upd_n (by omega), upd_n (by omega)]
            exact j5 m e2 he2
          · have hm := get_lt he2
            rw [List.length_append] at hm
            have hm : m < ((V.T.take k).filter (nt t)).length + 1 := hm
            have : m = ((V.T.take k).filter (nt t)).length := by omega
            subst this
            rw [List.getElem?_append_right (Nat.le_refl _), Nat.sub_self] at he2
            cases he2
            exact ⟨upd_s, upd_s, upd_s⟩
end WD
