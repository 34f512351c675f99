
def mkH (kd ln : Nat → Nat) (fi : Nat → Nat → Int32) (fr : Nat → Nat → Nat) (ar : Nat → Nat → Int32) (rr : Nat → Nat → Nat) (nx us : Nat) : Hp := (kd, ln, fi, fr, ar, rr, nx, us)
def gfi (x : Hp) (t id a : Nat) : Option Int32 := if x.kd a = t then some (x.fi id a) else none
def gfr (x : Hp) (t id a : Nat) : Option Nat := if x.kd a = t then some (x.fr id a) else none
def sfi (x : Hp) (id a : Nat) (v : Int32) : Hp := mkH x.kd x.ln (up3 x.fi id a v) x.fr x.ar x.rr x.nx x.us
def sfr (x : Hp) (id a : Nat) (v : Nat) : Hp := mkH x.kd x.ln x.fi (up3 x.fr id a v) x.ar x.rr x.nx x.us
def sar (x : Hp) (a i : Nat) (v : Int32) : Hp := mkH x.kd x.ln x.fi x.fr (up3 x.ar a i v) x.rr x.nx x.us
def srr (x : Hp) (a i : Nat) (v : Nat) : Hp := mkH x.kd x.ln x.fi x.fr x.ar (up3 x.rr a i v) x.nx x.us
def pfi (x : Hp) (t id a : Nat) (v : Int32) : Option Hp := if x.kd a = t then some (sfi x id a v) else none
def pfz (x : Hp) (t id a : Nat) (v : Int32) : Option Hp := if x.kd a = t ∧ (v = 0 ∨ v = 1) then some (sfi x id a v) else none
def pfr (x : Hp) (t id a : Nat) (v : Nat) : Option Hp := if x.kd a = t then some (sfr x id a v) else none
def inR (i : Int32) (n : Nat) : Prop := ¬ (i < 0 ∨ n ≤ i.toNatClampNeg)
def ald (x : Hp) (t a : Nat) (i : Int32) : Option Int32 := if x.kd a = t ∧ ¬ (i < 0 ∨ x.ln a ≤ i.toNatClampNeg) then some (x.ar a i.toNatClampNeg) else none
def ast (x : Hp) (t a : Nat) (i v : Int32) : Option Hp := if x.kd a = t ∧ ¬ (i < 0 ∨ x.ln a ≤ i.toNatClampNeg) then some (sar x a i.toNatClampNeg v) else none
def rld (x : Hp) (a : Nat) (i : Int32) : Option Nat := if x.kd a = 3 ∧ ¬ (i < 0 ∨ x.ln a ≤ i.toNatClampNeg) then some (x.rr a i.toNatClampNeg) else none
def rst (x : Hp) (a : Nat) (i : Int32) (v : Nat) : Option Hp := if x.kd a = 3 ∧ ¬ (i < 0 ∨ x.ln a ≤ i.toNatClampNeg) ∧ (v = 0 ∨ x.kd v = 13 ∨ x.kd v = 17) then some (srr x a i.toNatClampNeg v) else none
def aln (x : Hp) (a : Nat) : Option Int32 := if x.kd a = 1 ∨ x.kd a = 3 ∨ x.kd a = 5 then some (nI (x.ln a)) else none
def nwO (x : Hp) (c n : Nat) : Option (Nat × Hp) := if x.nx + 1 ≤ NXc ∧ x.us + n ≤ UXc then some (x.nx, mkH (upr x.kd x.nx (10 + c)) x.ln (fun id b => if b = x.nx then 0 else x.fi id b) (fun id b => if b = x.nx then 0 else x.fr id b) x.ar x.rr (x.nx + 1) (x.us + n)) else none
def nwA (x : Hp) (t : Nat) (n : Int32) : Option (Nat × Hp) := if ¬ n < 0 ∧ x.nx + 1 ≤ NXc ∧ x.us + n.toNatClampNeg ≤ UXc then some (x.nx, mkH (upr x.kd x.nx t) (upr x.ln x.nx n.toNatClampNeg) x.fi x.fr (upr x.ar x.nx (fun _ => 0)) x.rr (x.nx + 1) (x.us + n.toNatClampNeg)) else none
def nwR (x : Hp) (n : Int32) : Option (Nat × Hp) := if ¬ n < 0 ∧ x.nx + 1 ≤ NXc ∧ x.us + n.toNatClampNeg ≤ UXc then some (x.nx, mkH (upr x.kd x.nx 3) (upr x.ln x.nx n.toNatClampNeg) x.fi x.fr x.ar (upr x.rr x.nx (fun _ => 0)) (x.nx + 1) (x.us + n.toNatClampNeg)) else none
/-- an object is there -/
def isK (x : Hp) (a t : Nat) : Option Unit := if x.kd a = t then some () else none
theorem bd2_some {α β γ : Type} {o : Option (α × β)} {k : α → β → Option γ} {z : γ} (h : bd2 o k = some z) : ∃ a b, o = some (a, b) ∧ k a b = some z := by
  unfold bd2 at h
  split at h
  · exact ⟨_, _, rfl, h⟩
  · cases h
theorem HC.obj {G : Gt} {x : Hp} {H : Heap} (hH : HC G x H) {a c : Nat} {r : vw_C} (hr : clsC[c]? = some r) (hk : x.kd a = 10 + c) : a ≠ 0 ∧ t_OB (G.adr a) (G.D.1 c) r.2.2 (G.D.2 c) H (fun k => fvC G x (100 * c + k) a) := by
  have h0 : x.kd a ≠ 0 := by omega
  exact ⟨(hH.2.2.1 a h0).1, (hH.2.2.2.2.2.2 a h0).2.2.2 c r hk hr⟩
theorem HC.recv {G : Gt} {x : Hp} {H : Heap} {s : State} (hH : HC G x H) (hK : KC G s) {a c : Nat} {r : vw_C} (hr : clsC[c]? = some r) (hk : x.kd a = 10 + c) : ∃ cell : Cell, H[G.adr a]? = some cell ∧ cell.vm.isStatics = false ∧ s.vm.findClass r.1 = some cell.cls := by
  obtain ⟨-, cell, h1, h2, h3, -⟩ := hH.obj hr hk
  exact ⟨cell, h1, by rw [h3]; rfl, by rw [h2]; exact (hK.1 c r hr).2.1⟩
theorem c_apart {G : Gt} {args : Array Value} {s : State} (hts : ∀ w ∈ gw, w.before args s = true) (hK : KC G s) {c : Nat} {r : vw_C} (hr : clsC[c]? = some r) : ∀ a b, a < r.2.2 → b < r.2.2 → a ≠ b → (G.D.2 c) a ≠ (G.D.2 c) b := by
  intro a b ha hb hne
  obtain ⟨hS, -⟩ := hK.1 c r hr
  obtain ⟨_, _, _, fa, hia, ea⟩ := hS a ha
  obtain ⟨_, _, _, fb, hib, eb⟩ := hS b hb
  rw [← ea, ← eb]
  refine u_apart (u_lays hts (c_in c r hr) ha) (u_lays hts (c_in c r hr) hb) hia hib ?_
  rw [(State.fieldFound?_type hia (c_ty_ok c r hr a ha)).1, (State.fieldFound?_type hib (c_ty_ok c r hr b hb)).1]
  exact c_nm c r hr a ha b hb hne
section GC
variable {l : Launch} {G : Gt} {own mn : String} {cc : ByteArray} {nL : Nat} {rt : Option FieldType} {fr lo n0 u0 : Nat} {rv : Option Value} {x' : Hp} {pc : Nat} {lv lv' : List (Nat × Value)} {st rest : List Value} {x : Hp} {Y : Type} {Z : Y}

theorem GC.aload_n {f : Fin 4} {a : Nat} (j : Nat) (hd : decode cc pc = .ok (.aload_n f, 1)) (hv : lv[j]? = some (f.val, G.rv a)) (k : GoC l G own mn cc nL rt fr lo n0 u0 rv x' (pc + 1) lv (G.rv a :: st) x) : GoC l G own mn cc nL rt fr lo n0 u0 rv x' pc lv st x := by
  intro p e s m args below meth c0 C H locs ls hl hH hS
  obtain ⟨hx, hb, hml, ho, hts, hrt, hlk, hkn⟩ := id C
  have key := k p e s m args below meth c0 C H locs ls hl hH hS
  by_cases ha : a = 0
  · subst ha
    exact lv_aload_nN hx hb hd rfl (lv_at hl.1 j hv) key
  · rw [G.rv_ne ha] at hv key
    exact lv_aload_n hx hb hd rfl (lv_at hl.1 j hv) key
theorem GC.aload {i : Nat} {a : Nat} (j : Nat) (hd : decode cc pc = .ok (.aload i, 2)) (hv : lv[j]? = some (i, G.rv a)) (k : GoC l G own mn cc nL rt fr lo n0 u0 rv x' (pc + 2) lv (G.rv a :: st) x) : GoC l G own mn cc nL rt fr lo n0 u0 rv x' pc lv st x := by
  intro p e s m args below meth c0 C H locs ls hl hH hS
  obtain ⟨hx, hb, hml, ho, hts, hrt, hlk, hkn⟩ := id C
  have key := k p e s m args below meth c0 C H locs ls hl hH hS
  by_cases ha : a = 0
  · subst ha
    exact lv_aloadN hx hb hd (lv_at hl.1 j hv) key
  · rw [G.rv_ne ha] at hv key
    exact lv_aload hx hb hd (lv_at hl.1 j hv) key
theorem GC.astore_n {f : Fin 4} {a : Nat} (lv2 : List (Nat × Value)) (hd : decode cc pc = .ok (.astore_n f, 1)) (hn : f.val < nL) (hl2 : lset lv f.val (G.rv a) = lv2) (k : GoC l G own mn cc nL rt fr lo n0 u0 rv x' (pc + 1) lv2 st x) : GoC l G own mn cc nL rt fr lo n0 u0 rv x' pc lv (G.rv a :: st) x := by
  intro p e s m args below meth c0 C H locs ls hl hH hS
  obtain ⟨hx, hb, hml, ho, hts, hrt, hlk, hkn⟩ := id C
  subst hl2
  by_cases ha : a = 0
  · subst ha
    exact lv_astore_nN hx hb hd rfl hl.1 hn rfl (fun ls2 h2 => k p e s m args below meth c0 C H locs ls2 (hl.set rfl h2) hH hS)
  · have e9 := G.rv_ne ha
    rw [e9] at k ⊢
    exact lv_astore_n hx hb hd rfl hl.1 hn rfl (fun ls2 h2 => k p e s m args below meth c0 C H locs ls2 (hl.set rfl h2) hH hS)
theorem GC.astore {i : Nat} {a : Nat} (lv2 : List (Nat × Value)) (hd : decode cc pc = .ok (.astore i, 2)) (hn : i < nL) (hl2 : lset lv i (G.rv a) = lv2) (k : GoC l G own mn cc nL rt fr lo n0 u0 rv x' (pc + 2) lv2 st x) : GoC l G own mn cc nL rt fr lo n0 u0 rv x' pc lv (G.rv a :: st) x := by
  intro p e s m args below meth c0 C H locs ls hl hH hS
  obtain ⟨hx, hb, hml, ho, hts, hrt, hlk, hkn⟩ := id C
  subst hl2
  by_cases ha : a = 0
  · subst ha
    exact lv_astoreN hx hb hd hl.1 hn rfl (fun ls2 h2 => k p e s m args below meth c0 C H locs ls2 (hl.set rfl h2) hH hS)
  · have e9 := G.rv_ne ha
    rw [e9] at k ⊢
    exact lv_astore hx hb hd hl.1 hn rfl (fun ls2 h2 => k p e s m args below meth c0 C H locs ls2 (hl.set rfl h2) hH hS)
theorem GC.null (hd : decode cc pc = .ok (.aconst_null, 1)) (k : GoC l G own mn cc nL rt fr lo n0 u0 rv x' (pc + 1) lv (G.rv 0 :: st) x) : GoC l G own mn cc nL rt fr lo n0 u0 rv x' pc lv st x := by
  intro p e s m args below meth c0 C H locs ls hl hH hS
  obtain ⟨hx, hb, hml, ho, hts, hrt, hlk, hkn⟩ := id C
  exact lv_null hx hb hd (k p e s m args below meth c0 C H locs ls hl hH hS)
theorem GC.ifnull {a : Nat} {off : Int} {A B : Option Y} (tgt : Nat) (hd : decode cc pc = .ok (.ifnull off, 3)) (ht : (pc : Int) + off = (tgt : Int)) (h : (if a = 0 then A else B) = some Z) (kt : A = some Z → GoC l G own mn cc nL rt fr lo n0 u0 rv x' tgt lv st x) (kf : B = some Z → GoC l G own mn cc nL rt fr lo n0 u0 rv x' (pc + 3) lv st x) : GoC l G own mn cc nL rt fr lo n0 u0 rv x' pc lv (G.rv a :: st) x := by
  intro p e s m args below meth c0 C H locs ls hl hH hS
  obtain ⟨hx, hb, hml, ho, hts, hrt, hlk, hkn⟩ := id C
  by_cases ha : a = 0
  · subst ha
    rw [if_pos rfl] at h
    exact lv_ifnullN hx hb hd ht (kt h p e s m args below meth c0 C H locs ls hl hH hS)
  · rw [if_neg ha] at h
    rw [G.rv_ne ha]
    exact lv_ifnull hx hb hd (kf h p e s m args below meth c0 C H locs ls hl hH hS)
theorem GC.ifnonnull {a : Nat} {off : Int} {A B : Option Y} (tgt : Nat) (hd : decode cc pc = .ok (.ifnonnull off, 3)) (ht : (pc : Int) + off = (tgt : Int)) (h : (if a = 0 then B else A) = some Z) (kt : A = some Z → GoC l G own mn cc nL rt fr lo n0 u0 rv x' tgt lv st x) (kf : B = some Z → GoC l G own mn cc nL rt fr lo n0 u0 rv x' (pc + 3) lv st x) : GoC l G own mn cc nL rt fr lo n0 u0 rv x' pc lv (G.rv a :: st) x := by
  intro p e s m args below meth c0 C H locs ls hl hH hS
  obtain ⟨hx, hb, hml, ho, hts, hrt, hlk, hkn⟩ := id C
  by_cases ha : a = 0
  · subst ha
    rw [if_pos rfl] at h
    exact lv_ifnonnullN hx hb hd (kf h p e s m args below meth c0 C H locs ls hl hH hS)
  · rw [if_neg ha] at h
    rw [G.rv_ne ha]
    exact lv_ifnonnull hx hb hd ht (kt h p e s m args below meth c0 C H locs ls hl hH hS)

def Gt.ro (G : Gt) (a : Nat) : Option Nat := if a = 0 then none else some (G.adr a)
theorem Gt.rv_ro (G : Gt) (a : Nat) : G.rv a = va_rf (G.ro a) := by
  unfold Gt.rv Gt.ro
  split <;> rfl
theorem Gt.ro_inj {G : Gt} (hG : G.e0 < G.base) {a b : Nat} : G.ro a = G.ro b ↔ a = b := by
  unfold Gt.ro
  constructor
  · intro h
    split at h <;> split at h
    · omega
    · cases h
    · cases h
    · rename_i h1 h2
      exact Gt.adr_inj hG h1 h2 (Option.some.inj h)
  · intro h
    rw [h]
theorem GC.acmp_eq {a b : Nat} {off : Int} {A B : Option Y} (tgt : Nat) (hd : decode cc pc = .ok (.if_acmp .eq off, 3)) (ht : (pc : Int) + off = (tgt : Int)) (h : (if a = b then A else B) = some Z) (kt : A = some Z → GoC l G own mn cc nL rt fr lo n0 u0 rv x' tgt lv st x) (kf : B = some Z → GoC l G own mn cc nL rt fr lo n0 u0 rv x' (pc + 3) lv st x) : GoC l G own mn cc nL rt fr lo n0 u0 rv x' pc lv (G.rv b :: G.rv a :: st) x := by
  intro p e s m args below meth c0 C H locs ls hl hH hS
  obtain ⟨hx, hb, hml, ho, hts, hrt, hlk, hkn⟩ := id C
  rw [G.rv_ro, G.rv_ro]
  have hG := hH.1.2.2.1
  exact lv_acmp_eq hx hb hd ht (fun q => kt (by rw [if_pos ((Gt.ro_inj hG).mp q)] at h; exact h) p e s m args below meth c0 C H locs ls hl hH hS) (fun q => kf (by rw [if_neg (fun z => q ((Gt.ro_inj hG).mpr z))] at h; exact h) p e s m args below meth c0 C H locs ls hl hH hS)
theorem GC.getv {i a c k : Nat} {ref : String} {r : vw_C} (hr : clsC[c]? = some r) (hk : k < r.2.2) (hka : x.kd a = 10 + c) (hw : Cond.fieldLink own i ref (r.2.1 k).2.1 (r.2.1 k).2.2.1 ∈ gw) (hs : ref = (r.2.1 k).1 ∨ Cond.sameField ref (r.2.1 k).1 (r.2.1 k).2.1 (r.2.1 k).2.2.1 ∈ gw) (hd : decode cc pc = .ok (.getfield i, 3)) (n : GoC l G own mn cc nL rt fr lo n0 u0 rv x' (pc + 3) lv (fvC G x (100 * c + k) a :: st) x) : GoC l G own mn cc nL rt fr lo n0 u0 rv x' pc lv (G.rv a :: st) x := by
  intro p e s m args below meth c0 C H locs ls hl hH hS
  obtain ⟨hx, hb, hml, ho, hts, hrt, hlk, hkn⟩ := id C
  obtain ⟨ha, cell, q1, q2, q3, q4⟩ := hH.obj hr hka
  obtain ⟨hSl, hfc, kC, hkC, hkind⟩ := hkn.1.1 c r hr
  obtain ⟨cf, kf, fi, f, hi, hsl⟩ := hSl k hk
  have hi2 : s.fieldFound? ref (r.2.1 k).2.1 (r.2.1 k).2.2.1 = some (cf, kf, fi, f) := by
    rcases hs with e | e
    · rw [e]; exact hi
    · exact u_same (hts _ e) _ hi
  rw [G.rv_ne ha]
  refine W.getf hx hb ho (hts _ hw) hi2 (u_facts hfc hkC (u_lays hts (c_in c r hr) hk) hi).1 q1 (by rw [q3]; exact fun h => by cases h) (v := fvC G x (100 * c + k) a) ?_ rfl rfl hd (n p e s m args below meth c0 C H locs ls hl hH hS)
  rw [hsl, q4 k hk]
theorem GC.geti {i a : Nat} {K : Int32 → Option Y} (c k : Nat) {ref : String} {r : vw_C} (hr : clsC[c]? = some r) (hk : k < r.2.2) (hn : 100 * c + k ∉ c_refs) (hw : Cond.fieldLink own i ref (r.2.1 k).2.1 (r.2.1 k).2.2.1 ∈ gw) (hs : ref = (r.2.1 k).1 ∨ Cond.sameField ref (r.2.1 k).1 (r.2.1 k).2.1 (r.2.1 k).2.2.1 ∈ gw) (hd : decode cc pc = .ok (.getfield i, 3)) (h : (gfi x (10 + c) (100 * c + k) a).bind K = some Z) (n : ∀ v, K v = some Z → GoC l G own mn cc nL rt fr lo n0 u0 rv x' (pc + 3) lv (.int v :: st) x) : GoC l G own mn cc nL rt fr lo n0 u0 rv x' pc lv (G.rv a :: st) x := by
  unfold gfi at h
  split at h
  · rename_i q
    refine GC.getv hr hk q hw hs hd ?_
    rw [show fvC G x (100 * c + k) a = .int (x.fi (100 * c + k) a) from if_neg hn]
    exact n _ h
  · cases h
theorem GC.getr {i a : Nat} {K : Nat → Option Y} (c k : Nat) {ref : String} {r : vw_C} (hr : clsC[c]? = some r) (hk : k < r.2.2) (hn : 100 * c + k ∈ c_refs) (hw : Cond.fieldLink own i ref (r.2.1 k).2.1 (r.2.1 k).2.2.1 ∈ gw) (hs : ref = (r.2.1 k).1 ∨ Cond.sameField ref (r.2.1 k).1 (r.2.1 k).2.1 (r.2.1 k).2.2.1 ∈ gw) (hd : decode cc pc = .ok (.getfield i, 3)) (h : (gfr x (10 + c) (100 * c + k) a).bind K = some Z) (n : ∀ v, K v = some Z → GoC l G own mn cc nL rt fr lo n0 u0 rv x' (pc + 3) lv (G.rv v :: st) x) : GoC l G own mn cc nL rt fr lo n0 u0 rv x' pc lv (G.rv a :: st) x := by
  unfold gfr at h
  split at h
  · rename_i q
    refine GC.getv hr hk q hw hs hd ?_
    rw [show fvC G x (100 * c + k) a = G.rv (x.fr (100 * c + k) a) from if_pos hn]
    exact n _ h
  · cases h
theorem GC.putv {i a c k : Nat} {ref : String} {r : vw_C} {v : Value} {x1 : Hp} (hr : clsC[c]? = some r) (hk : k < r.2.2) (hka : x.kd a = 10 + c) (hw : Cond.fieldLink own i ref (r.2.1 k).2.1 (r.2.1 k).2.2.1 ∈ gw) (hs : ref = (r.2.1 k).1 ∨ Cond.sameField ref (r.2.1 k).1 (r.2.1 k).2.1 (r.2.1 k).2.2.1 ∈ gw)
    (hfin : (r.2.1 k).2.2.2 = false ∨ ((r.2.1 k).2.2.2 = true ∧ mn = "<init>" ∧ (r.2.1 k).1 = own)) (hn : narrow (c_ty c k) v = v) (hfit : fits (c_ty c k) v = true) (hd : decode cc pc = .ok (.putfield i, 3))
    (e1 : x1.kd = x.kd ∧ x1.ln = x.ln ∧ x1.nx = x.nx ∧ x1.us = x.us ∧ x1.ar = x.ar ∧ x1.rr = x.rr) (e2 : ∀ b, b ≠ a → (∀ id, x1.fi id b = x.fi id b) ∧ (∀ id, x1.fr id b = x.fr id b)) (e3 : ∀ j, j < r.2.2 → updV (fun k => fvC G x (100 * c + k) a) k v j = fvC G x1 (100 * c + j) a) (n : GoC l G own mn cc nL rt fr lo n0 u0 rv x' (pc + 3) lv st x1) : GoC l G own mn cc nL rt fr lo n0 u0 rv x' pc lv (v :: G.rv a :: st) x := by
  intro p e s m args below meth c0 C H locs ls hl hH hS
  obtain ⟨hx, hb, hml, ho, hts, hrt, hlk, hkn⟩ := id C
  obtain ⟨ha, cell, q1, q2, q3, q4⟩ := hH.obj hr hka
  obtain ⟨hSl, hfc, kC, hkC, hkind⟩ := hkn.1.1 c r hr
  obtain ⟨cf, kf, fi, f, hi, hsl⟩ := hSl k hk
  have hi2 : s.fieldFound? ref (r.2.1 k).2.1 (r.2.1 k).2.2.1 = some (cf, kf, fi, f) := by
    rcases hs with e | e
    · rw [e]; exact hi
    · exact u_same (hts _ e) _ hi
  rw [G.rv_ne ha]
  have hap := c_apart hts hkn.1 hr
  have hst := (u_facts hfc hkC (u_lays hts (c_in c r hr) hk) hi).1
  have hlay := hts _ (c_in c r hr _ (u_in_lay hk))
  have hka0 : x.kd a ≠ 0 := by omega
  have hka5 : x.kd a ≠ 5 := by omega
  have hA := hH.own hka0 hka5
  have fin : ∀ H1 : Heap, H1[G.adr a]? = some (cell.setSlot (G.D.2 c k) v) → H1.size = H.size → (∀ q, q ≠ G.adr a → H1[q]? = H[q]?) → ∀ locs1, va_S (AC G) s.heap H1 locs1 → ∀ cells slots : Nat, W p l e (Rm fr lo (NXc - n0) (UXc - u0)) s m args below meth c0 H1 locs1 cells slots (MQ below (QC G rv x') args s (NXc - n0) (UXc - u0) (AC G)) (F0 m (pc + 3) ls st) := by
    intro H1 g1 g2 g3 locs1 hS1 cells slots
    refine W.any (n p e s m args below meth c0 C H1 locs1 ls hl ?_ hS1)
    refine hH.upd hka0 e1.1 e1.2.1 e1.2.2.1 e1.2.2.2.1 (fun b hb => ⟨(e2 b hb).1, (e2 b hb).2, by rw [e1.2.2.2.2.1], by rw [e1.2.2.2.2.2]⟩) (fun h3 => by omega) q1 g1 (k2_slotsz _ _ _) g2 g3 ?_
    refine ⟨fun h => by rw [e1.1, hka] at h; omega, fun h => by rw [e1.1, hka] at h; omega, fun h => by rw [e1.1, hka] at h; omega, fun c2 r2 h2 hr2 => ?_⟩
    rw [e1.1, hka] at h2
    have hc2 : c2 = c := by omega
    subst hc2
    have hr3 : r2 = r := Option.some.inj (hr2.symm.trans hr)
    subst hr3
    exact t_OB.to ⟨_, g1, q2, q3, t_set q4 hap hk v⟩ e3
  rcases hfin with hf | ⟨hf, hm1, hm2⟩
  · unfold u_lay at hlay
    rw [if_neg (by rw [hf]; decide)] at hlay
    have h6 := u_store hfc hkC hkind hlay hi (c_ty_ok c r hr k hk) hn hfit
    refine W.putK hx hb (f := f) ⟨ho, hts _ hw, ⟨_, _, _, hi2⟩, hst⟩ (by rw [q2]; exact h6) q1 q3 (by rw [hsl]; exact k2_hasslot (q4 k hk)) rfl rfl hd fun H1 g1 g2 g3 => ?_
    rw [hsl] at g1 ⊢
    exact fin H1 g1 g2 g3 _ (hS.put g2 g3 hA) _ _
  · unfold u_lay at hlay
    rw [if_pos hf] at hlay
    have hcf : m.cls = cf := by
      obtain ⟨_, _, c', _, _, _, -, -, hf', -, -, -, hown2, -⟩ := Cond.laysFinal_spec hlay
      have e1 : c' = cf := by have := hi.symm.trans hf'; simp at this; exact this.1.symm
      rw [hm2] at hown2
      rw [← e1]; exact Option.some.inj (ho.symm.trans hown2)
    have h6 := u_fits hfc hkC hkind (Or.inr hlay) hi (c_ty_ok c r hr k hk) hn hfit
    refine W.putFinK hx hb ho (hts _ hw) hi2 hst hcf (by rw [hkn.2.2.2]; exact hm1) (by rw [q2]; exact h6) q1 q3 (by rw [hsl]; exact k2_hasslot (q4 k hk)) rfl rfl hd fun H1 g1 g2 g3 => ?_
    rw [hsl] at g1 ⊢
    exact fin H1 g1 g2 g3 _ (hS.put g2 g3 hA) _ _
theorem GC.puti {i a : Nat} {K : Hp → Option Y} (c k : Nat) {ref : String} {r : vw_C} (hr : clsC[c]? = some r) (hk : k < r.2.2) {v : Int32} (hn : 100 * c + k ∉ c_refs) (hty : c_ty c k = .int) (hw : Cond.fieldLink own i ref (r.2.1 k).2.1 (r.2.1 k).2.2.1 ∈ gw) (hs : ref = (r.2.1 k).1 ∨ Cond.sameField ref (r.2.1 k).1 (r.2.1 k).2.1 (r.2.1 k).2.2.1 ∈ gw) (hfin : (r.2.1 k).2.2.2 = false ∨ ((r.2.1 k).2.2.2 = true ∧ mn = "<init>" ∧ (r.2.1 k).1 = own)) (hd : decode cc pc = .ok (.putfield i, 3)) (h : (pfi x (10 + c) (100 * c + k) a v).bind K = some Z) (n : ∀ x1, K x1 = some Z → GoC l G own mn cc nL rt fr lo n0 u0 rv x' (pc + 3) lv st x1) : GoC l G own mn cc nL rt fr lo n0 u0 rv x' pc lv (.int v :: G.rv a :: st) x := by
  unfold pfi at h
  split at h
  · rename_i q
    refine GC.putv (x1 := sfi x (100 * c + k) a v) hr hk q hw hs hfin (by rw [hty]; rfl) (by rw [hty]; rfl) hd ⟨rfl, rfl, rfl, rfl, rfl, rfl⟩ (fun b hb => ⟨fun id => by show up3 x.fi _ a _ id b = _; simp [up3, hb], fun id => rfl⟩) (fun j hj => ?_) (n _ h)
    by_cases e : j = k
    · subst e
      have : fvC G (sfi x (100 * c + j) a v) (100 * c + j) a = .int v := by
        unfold fvC
        rw [if_neg hn]
        show Value.int (up3 x.fi _ a v _ a) = _
        simp [up3]
      simp [updV, this]
    · have : fvC G (sfi x (100 * c + k) a v) (100 * c + j) a = fvC G x (100 * c + j) a := by
        unfold fvC
        show (if _ then G.rv (x.fr _ a) else .int (up3 x.fi _ a v _ a)) = _
        have : ¬ (100 * c + j = 100 * c + k) := by omega
        simp only [up3, this, false_and, if_false]
      simp [updV, e, this]
  · cases h
theorem GC.putz {i a : Nat} {K : Hp → Option Y} (c k : Nat) {ref : String} {r : vw_C} (hr : clsC[c]? = some r) (hk : k < r.2.2) {v : Int32} (hn : 100 * c + k ∉ c_refs) (hty : c_ty c k = .boolean) (hw : Cond.fieldLink own i ref (r.2.1 k).2.1 (r.2.1 k).2.2.1 ∈ gw) (hs : ref = (r.2.1 k).1 ∨ Cond.sameField ref (r.2.1 k).1 (r.2.1 k).2.1 (r.2.1 k).2.2.1 ∈ gw) (hfin : (r.2.1 k).2.2.2 = false ∨ ((r.2.1 k).2.2.2 = true ∧ mn = "<init>" ∧ (r.2.1 k).1 = own)) (hd : decode cc pc = .ok (.putfield i, 3)) (h : (pfz x (10 + c) (100 * c + k) a v).bind K = some Z) (n : ∀ x1, K x1 = some Z → GoC l G own mn cc nL rt fr lo n0 u0 rv x' (pc + 3) lv st x1) : GoC l G own mn cc nL rt fr lo n0 u0 rv x' pc lv (.int v :: G.rv a :: st) x := by
  unfold pfz at h
  split at h
  · rename_i q
    refine GC.putv (x1 := sfi x (100 * c + k) a v) hr hk q.1 hw hs hfin (by rw [hty]; rcases q.2 with e | e <;> rw [e] <;> rfl) (by rw [hty]; rcases q.2 with e | e <;> rw [e] <;> rfl) hd ⟨rfl, rfl, rfl, rfl, rfl, rfl⟩ (fun b hb => ⟨fun id => by show up3 x.fi _ a _ id b = _; simp [up3, hb], fun id => rfl⟩) (fun j hj => ?_) (n _ h)
    by_cases e : j = k
    · subst e
      have : fvC G (sfi x (100 * c + j) a v) (100 * c + j) a = .int v := by
        unfold fvC
        rw [if_neg hn]
        show Value.int (up3 x.fi _ a v _ a) = _
        simp [up3]
      simp [updV, this]
    · have : fvC G (sfi x (100 * c + k) a v) (100 * c + j) a = fvC G x (100 * c + j) a := by
        unfold fvC
        show (if _ then G.rv (x.fr _ a) else .int (up3 x.fi _ a v _ a)) = _
        have : ¬ (100 * c + j = 100 * c + k) := by omega
        simp only [up3, this, false_and, if_false]
      simp [updV, e, this]
  · cases h
theorem GC.putr {i a : Nat} {K : Hp → Option Y} (c k : Nat) {ref : String} {r : vw_C} (hr : clsC[c]? = some r) (hk : k < r.2.2) {v : Nat} (hn : 100 * c + k ∈ c_refs) (hty : (∃ q, c_ty c k = .object q) ∨ ∃ q, c_ty c k = .array q) (hw : Cond.fieldLink own i ref (r.2.1 k).2.1 (r.2.1 k).2.2.1 ∈ gw) (hs : ref = (r.2.1 k).1 ∨ Cond.sameField ref (r.2.1 k).1 (r.2.1 k).2.1 (r.2.1 k).2.2.1 ∈ gw) (hfin : (r.2.1 k).2.2.2 = false ∨ ((r.2.1 k).2.2.2 = true ∧ mn = "<init>" ∧ (r.2.1 k).1 = own)) (hd : decode cc pc = .ok (.putfield i, 3)) (h : (pfr x (10 + c) (100 * c + k) a v).bind K = some Z) (n : ∀ x1, K x1 = some Z → GoC l G own mn cc nL rt fr lo n0 u0 rv x' (pc + 3) lv st x1) : GoC l G own mn cc nL rt fr lo n0 u0 rv x' pc lv (G.rv v :: G.rv a :: st) x := by
  unfold pfr at h
  split at h
  · rename_i q
    refine GC.putv (x1 := sfr x (100 * c + k) a v) hr hk q hw hs hfin (by unfold Gt.rv; rcases hty with ⟨q, e⟩ | ⟨q, e⟩ <;> rw [e] <;> split <;> rfl) (by unfold Gt.rv; rcases hty with ⟨q, e⟩ | ⟨q, e⟩ <;> rw [e] <;> split <;> rfl) hd ⟨rfl, rfl, rfl, rfl, rfl, rfl⟩ (fun b hb => ⟨fun id => rfl, fun id => by show up3 x.fr _ a _ id b = _; simp [up3, hb]⟩) (fun j hj => ?_) (n _ h)
    by_cases e : j = k
    · subst e
      have : fvC G (sfr x (100 * c + j) a v) (100 * c + j) a = G.rv v := by
        unfold fvC
        rw [if_pos hn]
        show G.rv (up3 x.fr _ a v _ a) = _
        simp [up3]
      simp [updV, this]
    · have : fvC G (sfr x (100 * c + k) a v) (100 * c + j) a = fvC G x (100 * c + j) a := by
        unfold fvC
        show (if _ then G.rv (up3 x.fr _ a v _ a) else .int (x.fi _ a)) = _
        have : ¬ (100 * c + j = 100 * c + k) := by omega
        simp only [up3, this, false_and, if_false]
      simp [updV, e, this]
  · cases h
end GC
