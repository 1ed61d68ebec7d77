def jfk : Nat → Nat → Nat := fun ci k => match ci, k with
  | 0, 0 => 2
  | 0, 1 => 2
  | 0, 2 => 2
  | 0, 4 => 2
  | 0, 5 => 2
  | 0, 6 => 2
  | 0, 7 => 2
  | 1, 1 => 2
  | 1, 2 => 2
  | 1, 4 => 2
  | 1, 6 => 1
  | 1, 7 => 2
  | 1, 8 => 2
  | 1, 9 => 2
  | 2, 4 => 2
  | 3, 3 => 2
  | 3, 4 => 2
  | 3, 5 => 2
  | 3, 6 => 2
  | 3, 7 => 2
  | 3, 8 => 2
  | 3, 9 => 2
  | 4, 0 => 2
  | 4, 1 => 2
  | 4, 2 => 2
  | 5, 5 => 2
  | 5, 6 => 2
  | 5, 7 => 2
  | 5, 8 => 2
  | 5, 9 => 2
  | 5, 10 => 2
  | 5, 11 => 2
  | 5, 12 => 2
  | 6, 0 => 2
  | 6, 1 => 2
  | 7, 4 => 1
  | 7, 8 => 2
  | 7, 9 => 3
  | 8, 0 => 2
  | 8, 1 => 2
  | 8, 2 => 2
  | 8, 3 => 2
  | 8, 4 => 2
  | 8, 5 => 2
  | 9, 3 => 2
  | 10, 0 => 2
  | 10, 1 => 2
  | 10, 2 => 2
  | 11, 0 => 2
  | 11, 1 => 2
  | 11, 2 => 2
  | 11, 3 => 2
  | 11, 4 => 2
  | 11, 5 => 2
  | 11, 6 => 2
  | 11, 7 => 2
  | 11, 8 => 2
  | 11, 9 => 2
  | 11, 10 => 2
  | 11, 11 => 2
  | 11, 12 => 2
  | 11, 13 => 2
  | 12, 2 => 1
  | 12, 3 => 1
  | 12, 4 => 2
  | 12, 5 => 2
  | 12, 6 => 2
  | 12, 7 => 2
  | 12, 22 => 1
  | 12, 23 => 2
  | 12, 24 => 2
  | 12, 26 => 2
  | 12, 27 => 2
  | 12, 28 => 2
  | 12, 29 => 2
  | 12, 30 => 2
  | 12, 36 => 2
  | 12, 37 => 2
  | 12, 38 => 2
  | 12, 41 => 2
  | 12, 47 => 2
  | 12, 48 => 2
  | 12, 51 => 2
  | 12, 52 => 2
  | _, _ => 0
def jof : Nat → Nat → Nat := fun ci k => match ci, k with
  | 0, 0 => 1
  | 0, 1 => 2
  | 0, 2 => 3
  | 0, 4 => 4
  | 0, 5 => 5
  | 0, 6 => 6
  | 0, 7 => 7
  | 1, 1 => 1
  | 1, 2 => 2
  | 1, 4 => 3
  | 1, 7 => 4
  | 1, 8 => 5
  | 1, 9 => 6
  | 2, 4 => 1
  | 3, 3 => 1
  | 3, 4 => 2
  | 3, 5 => 3
  | 3, 6 => 4
  | 3, 7 => 5
  | 3, 8 => 6
  | 3, 9 => 7
  | 4, 0 => 1
  | 4, 1 => 9
  | 4, 2 => 12
  | 5, 5 => 1
  | 5, 6 => 2
  | 5, 7 => 3
  | 5, 8 => 4
  | 5, 9 => 5
  | 5, 10 => 6
  | 5, 11 => 7
  | 5, 12 => 8
  | 6, 0 => 1
  | 6, 1 => 10
  | 7, 8 => 1
  | 7, 9 => 2
  | 8, 0 => 1
  | 8, 1 => 2
  | 8, 2 => 3
  | 8, 3 => 4
  | 8, 4 => 5
  | 8, 5 => 6
  | 9, 3 => 1
  | 10, 0 => 1
  | 10, 1 => 10
  | 10, 2 => 11
  | 11, 0 => 1
  | 11, 1 => 2
  | 11, 2 => 3
  | 11, 3 => 16
  | 11, 4 => 29
  | 11, 5 => 48
  | 11, 6 => 49
  | 11, 7 => 62
  | 11, 8 => 70
  | 11, 9 => 72
  | 11, 10 => 73
  | 11, 11 => 74
  | 11, 12 => 75
  | 11, 13 => 76
  | 12, 4 => 1
  | 12, 5 => 2
  | 12, 6 => 3
  | 12, 7 => 4
  | 12, 23 => 5
  | 12, 24 => 6
  | 12, 26 => 7
  | 12, 27 => 8
  | 12, 28 => 9
  | 12, 29 => 10
  | 12, 30 => 11
  | 12, 36 => 12
  | 12, 37 => 13
  | 12, 38 => 14
  | 12, 41 => 15
  | 12, 47 => 16
  | 12, 48 => 17
  | 12, 51 => 18
  | 12, 52 => 19
  | _, _ => 0
def jfn : Nat → Nat := fun ci => match ci with
  | 0 => 8
  | 1 => 10
  | 2 => 6
  | 3 => 10
  | 4 => 4
  | 5 => 13
  | 6 => 5
  | 7 => 14
  | 8 => 7
  | 9 => 4
  | 10 => 3
  | 11 => 17
  | 12 => 54
  | _ => 0
def jel (k p i : Nat) : Nat := if k = 24 then p + 76 + 2 * i else p + 37 + 19 * i
/-! a compact logic over the kit's W: a world of fixed places (a table of place, kind, size), whose contents are two memories of rows -/
abbrev jM : Type := (Nat → Nat → Int32) × (Nat → Nat → Int64)
abbrev jX : Type := Launch × va_G × (Nat → ClassId) × (Nat → Nat)
abbrev jT : Type := List (Nat × Nat × Nat)
abbrev jMI : Type := MethodName × ByteArray × Nat × Option FieldType
def js (tb : jT) (p : Nat) : Nat × Nat := (tb.lookup p).getD (99, 0)
def jty : Nat → FieldType := fun k => if k = 20 then .int else if k = 21 then .byte else if k = 22 then .boolean else if k = 23 then .long else if k = 24 then .object "NineSights$Tray" else .object "NineSights$World"
def jtys (dA : Nat → ClassId) : List (ClassId × FieldType) := [(dA 20, .int), (dA 21, .byte), (dA 22, .boolean), (dA 23, .long), (dA 24, .object "NineSights$Tray"), (dA 25, .object "NineSights$World")]
def jfv (ad : Nat → Nat) (M : jM) (ci p k : Nat) : Value := if jfk ci k = 0 then .int (M.1 p k) else if jfk ci k = 1 then .long (M.2 p k) else if jfk ci k = 2 then .ref (ad (p + jof ci k)) else .ref (ad (M.1 p k).toNatClampNeg)
def jfs (ad : Nat → Nat) (M : jM) (ci p : Nat) : List Value := (List.range (jfn ci)).map (jfv ad M ci p)
def jent (x : jX) (M : jM) (q : Nat × Nat × Nat) : va_E :=
  if q.2.1 < 20 then .inr (q.2.1, jfs x.2.2.2 M q.2.1 q.1) else if q.2.1 < 23 then .inl (x.2.2.1 q.2.1, q.2.2, .inl (M.1 q.1)) else if q.2.1 = 23 then .inl (x.2.2.1 q.2.1, q.2.2, .inr (.inl (M.2 q.1))) else .inl (x.2.2.1 q.2.1, q.2.2, .inr (.inr (.inr (.inr (fun i => some (x.2.2.2 (jel q.2.1 q.1 i)))))))
def jw (x : jX) (tb : jT) (M : jM) : va_W := tb.map (fun q => (x.2.2.2 q.1, jent x M q))
def jtbl : List Cond := lw_tbl.filter goodWord
theorem jtbl_in {w : Cond} (h : w ∈ lw_tbl) (hg : goodWord w = true) : w ∈ jtbl := List.mem_filter.mpr ⟨h, hg⟩
theorem jtbl_lw {w : Cond} (h : w ∈ jtbl) : w ∈ lw_tbl := (List.mem_filter.mp h).1
theorem jtbl_good {w : Cond} (h : w ∈ jtbl) : goodWord w = true := (List.mem_filter.mp h).2
/-- rows set -/
def jrI (M : jM) (p : Nat) (f : Nat → Int32) : jM := (fun a => if a = p then f else M.1 a, M.2)
def jrL (M : jM) (p : Nat) (f : Nat → Int64) : jM := (M.1, fun a => if a = p then f else M.2 a)
theorem jrI_s {M : jM} {p : Nat} {f : Nat → Int32} : (jrI M p f).1 p = f := if_pos rfl
theorem jrI_n {M : jM} {p q : Nat} {f : Nat → Int32} (h : q ≠ p) : (jrI M p f).1 q = M.1 q := if_neg h
theorem jrI_2 {M : jM} {p : Nat} {f : Nat → Int32} : (jrI M p f).2 = M.2 := rfl
theorem jrL_s {M : jM} {p : Nat} {f : Nat → Int64} : (jrL M p f).2 p = f := if_pos rfl
theorem jrL_n {M : jM} {p q : Nat} {f : Nat → Int64} (h : q ≠ p) : (jrL M p f).2 q = M.2 q := if_neg h
theorem jrL_1 {M : jM} {p : Nat} {f : Nat → Int64} : (jrL M p f).1 = M.1 := rfl
theorem j_at {tb : jT} {p k n : Nat} (h : js tb p = (k, n)) (hk : k ≠ 99) : ∃ i : Nat, tb[i]? = some (p, k, n) := by
  unfold js at h
  cases hl : tb.lookup p with
  | none => rw [hl] at h; cases h; exact absurd rfl hk
  | some v =>
    rw [hl] at h
    cases h
    have : (p, k, n) ∈ tb := by
      clear hk
      induction tb with
      | nil => cases hl
      | cons a tl ih =>
        obtain ⟨a1, a2⟩ := a
        by_cases e : p = a1
        · subst e
          rw [List.lookup_cons_self] at hl
          cases hl
          exact List.mem_cons_self
        · rw [List.lookup_cons] at hl
          rw [show (p == a1) = false from by simpa using e] at hl
          exact List.mem_cons_of_mem _ (ih hl)
    exact List.mem_iff_getElem?.mp this
theorem jw_at {x : jX} {tb : jT} {M : jM} {i : Nat} {q : Nat × Nat × Nat} (h : tb[i]? = some q) : (jw x tb M)[i]? = some (x.2.2.2 q.1, jent x M q) := by
  unfold jw
  rw [List.getElem?_map, h]
  rfl
theorem jent_o {x : jX} {M : jM} {p ci n : Nat} (h : ci < 20) : jent x M (p, ci, n) = .inr (ci, jfs x.2.2.2 M ci p) := by simp [jent, h]
theorem jent_i {x : jX} {M : jM} {p k n : Nat} (h : ¬ k < 20) (h2 : k < 23) : jent x M (p, k, n) = .inl (x.2.2.1 k, n, .inl (M.1 p)) := by simp [jent, h, h2]
theorem jent_l {x : jX} {M : jM} {p n : Nat} : jent x M (p, 23, n) = .inl (x.2.2.1 23, n, .inr (.inl (M.2 p))) := by simp [jent]
theorem jent_r {x : jX} {M : jM} {p k n : Nat} (h : 23 < k) : jent x M (p, k, n) = .inl (x.2.2.1 k, n, .inr (.inr (.inr (.inr (fun i => some (x.2.2.2 (jel k p i))))))) := by
  have h1 : ¬ k < 20 := by omega
  have h2 : ¬ k < 23 := by omega
  have h3 : ¬ k = 23 := by omega
  simp [jent, h1, h2, h3]
/-- two memories that agree but for the row p: the world differs in p's cell alone -/
theorem jw_set {x : jX} {tb : jT} {M M' : jM} {A : Nat → Prop} {i p k n : Nat} {e : va_E} (hD : va_D A (jw x tb M)) (hi : tb[i]? = some (p, k, n)) (he : jent x M' (p, k, n) = e) (ho : ∀ q : Nat × Nat × Nat, q.1 ≠ p → jent x M' q = jent x M q) :
    (jw x tb M).set i (x.2.2.2 p, e) = jw x tb M' := by
  apply List.ext_getElem?
  intro j
  have hl : i < (jw x tb M).length := by
    have := List.getElem?_eq_some_iff.mp hi
    obtain ⟨h, -⟩ := this
    simp [jw, h]
  by_cases hj : j = i
  · subst hj
    rw [List.getElem?_set_self hl, jw_at hi, he]
  · rw [List.getElem?_set_ne (fun h => hj h.symm)]
    cases hq : tb[j]? with
    | none => unfold jw; rw [List.getElem?_map, List.getElem?_map, hq]; rfl
    | some q =>
      rw [jw_at hq, jw_at hq, ho q]
      intro hp
      have := hD.1 j i _ _ (jw_at hq) (jw_at hi) (by show x.2.2.2 q.1 = x.2.2.2 p; rw [hp])
      exact hj this
theorem jfv_row {ad : Nat → Nat} {M M' : jM} {ci p k : Nat} (h1 : M'.1 p = M.1 p) (h2 : M'.2 p = M.2 p) : jfv ad M' ci p k = jfv ad M ci p k := by
  unfold jfv
  rw [h1, h2]
theorem jent_row {x : jX} {M M' : jM} {q : Nat × Nat × Nat} (h1 : M'.1 q.1 = M.1 q.1) (h2 : M'.2 q.1 = M.2 q.1) : jent x M' q = jent x M q := by
  unfold jent jfs
  rw [h1, h2]
  rw [show jfv x.2.2.2 M' q.2.1 q.1 = jfv x.2.2.2 M q.2.1 q.1 from funext fun k => jfv_row h1 h2]
theorem jfs_get {ad : Nat → Nat} {M : jM} {ci p k : Nat} (h : k < jfn ci) : (jfs ad M ci p)[k]? = some (jfv ad M ci p k) := by
  unfold jfs
  rw [List.getElem?_map, List.getElem?_range h]
  rfl
theorem jfs_set {ad : Nat → Nat} {M M' : jM} {ci p k : Nat} (h : ∀ j, j ≠ k → jfv ad M' ci p j = jfv ad M ci p j) : (jfs ad M ci p).set k (jfv ad M' ci p k) = jfs ad M' ci p := by
  apply List.ext_getElem?
  intro j
  by_cases hl : j < jfn ci
  · by_cases hj : j = k
    · subst hj
      rw [List.getElem?_set_self (by simp [jfs, hl]), jfs_get hl]
    · rw [List.getElem?_set_ne (fun h => hj h.symm), jfs_get hl, jfs_get hl, h j hj]
  · rw [List.getElem?_eq_none (by simp [jfs]; omega), List.getElem?_eq_none (by simp [jfs]; omega)]
def jisN : Cond → Bool
  | .methodLinkNest _ _ _ _ => true
  | _ => false
def jnst : List Cond := tables_1.filter jisN
/-- the links to private methods of the nest -/
def jN (U : State) : Prop := ∀ w ∈ jnst, va_Nw w U
theorem jnst_nest {w : Cond} (h : w ∈ jnst) : ∃ a i y t, w = .methodLinkNest a i y t := by
  have h2 := (List.mem_filter.mp h).2
  cases w <;> first | exact ⟨_, _, _, _, rfl⟩ | cases h2
theorem jN.warm {s U : State} (hW : s.WarmedH U.vm) (h : jN s) : jN U := fun w hw => by
  obtain ⟨a, i, y, t, rfl⟩ := jnst_nest hw
  exact va_Nw.warmM hW (h _ hw)
theorem jN.same {s U : State} (hv : s.vm = U.vm) (h : jN s) : jN U := fun w hw => by
  obtain ⟨a, i, y, t, rfl⟩ := jnst_nest hw
  exact va_Nw.same rfl hv (h _ hw)
theorem jN.of {args : Array Value} {s : State} (h : ∀ w ∈ lw_tbl, w.before args s = true) : jN s := fun w hw => by
  obtain ⟨a, i, y, t, rfl⟩ := jnst_nest hw
  exact va_Nw.of rfl (h _ (List.mem_append_right _ (List.mem_filter.mp hw).1))
def jrm (d : Nat) : Room := { frames := d, cells := 0, slots := 0, locals := 50 * d }
def jQ (x : jX) (tb : jT) (A : Nat → Prop) (Q : jM → Option Value → Prop) : Array Value → State → Outcome → State → Prop := fun _ st oc t =>
  (∃ (r : Option Value) (M : jM), oc = .returned r ∧ Q M r ∧ va_P x.2.1 vwCl (jw x tb M) t.heap ∧ va_K x.2.1 vwCl (jtys x.2.2.1) t ∧ va_D A (jw x tb M)) ∧ va_F A st t
/-- where a method stands -/
def jAt (x : jX) (tb : jT) (mi : jMI) (M : jM) (ls : List (Nat × Value)) (p : Program) (s : State) (m : MethodId) (args : Array Value) (meth : Method) (c : Code) (H : Heap) (locs : List Loc) (A : Nat → Prop) (la : Array Slot) : Prop :=
  p.tables.exec = Jvm.exec ∧ c.code = mi.2.1 ∧ c.maxLocals = mi.2.2.1 ∧ meth.sig.returnType = mi.2.2.2 ∧ meth.locks = false ∧ s.vm.findClass mi.1.cls = some m.cls ∧ (∀ w ∈ jtbl, w.before args s = true) ∧ va_K x.2.1 vwCl (jtys x.2.2.1) s ∧ va_P x.2.1 vwCl (jw x tb M) H ∧ va_D A (jw x tb M) ∧ va_S A s.heap H locs ∧ ((∀ q, s.heap.size ≤ q → A q) ∧ jN s) ∧ lv_has la mi.2.2.1 ls
def JW (x : jX) (tb : jT) (mi : jMI) (d : Nat) (Q : jM → Option Value → Prop) (pc : Nat) (ls : List (Nat × Value)) (st : List Value) (M : jM) : Prop :=
  ∀ (p : Program) (e : Env) (s : State) (m : MethodId) (args : Array Value) (below : List Frame) (meth : Method) (c : Code) (H : Heap) (locs : List Loc) (A : Nat → Prop) (la : Array Slot), jAt x tb mi M ls p s m args meth c H locs A la →
    W p x.1 e (jrm d) s m args below meth c H locs 0 0 (MQ below (jQ x tb A Q) args s 0 0 A) (F0 m pc la st)
def JC (x : jX) (tb : jT) (mi : jMI) (d : Nat) (av : List Value) (M : jM) (Q : jM → Option Value → Prop) : Prop :=
  ∀ sz : Nat, Met x.1 mi.1 (Cond.code mi.1 mi.2.1 mi.2.2.1 mi.2.2.2 :: jtbl) (jrm d) (va_Pc av (fun U => U.heap.size = sz ∧ va_P x.2.1 vwCl (jw x tb M) U.heap ∧ va_K x.2.1 vwCl (jtys x.2.2.1) U ∧ va_D (fun _ => True) (jw x tb M) ∧ jN U)) (jQ x tb (va_A (jw x tb M) sz) Q) 0 0 (va_A (jw x tb M) sz)
def jI (P : jM → Int32 → Prop) : jM → Option Value → Prop := fun M r => ∃ v, r = some (.int v) ∧ P M v
def jL (P : jM → Int64 → Prop) : jM → Option Value → Prop := fun M r => ∃ v, r = some (.long v) ∧ P M v
def jb (b : Bool) : Int32 := if b then 1 else 0
def jZ (P : jM → Bool → Prop) : jM → Option Value → Prop := fun M r => ∃ b, r = some (.int (jb b)) ∧ P M b
def jV (P : jM → Prop) : jM → Option Value → Prop := fun M r => r = none ∧ P M
theorem jb_0 (b : Bool) : jb b = 0 ↔ b = false := by cases b <;> decide
theorem jb_01 (b : Bool) : jb b = 0 ∨ jb b = 1 := by cases b <;> decide
theorem JC.of {x : jX} {tb : jT} {mi : jMI} {d : Nat} {av : List Value} {M : jM} {Q : jM → Option Value → Prop} (hy : plainName mi.1.cls = true) (hl : (lg_sl av).length ≤ mi.2.2.1) (h : JW x tb mi d Q 0 (lv_args 0 av) [] M) : JC x tb mi d av M Q := by
  intro sz
  refine Met.ofW (cc := mi.2.1) (maxL := mi.2.2.1) (ret := mi.2.2.2) hy rfl ?_
  intro p e s m args below meth c s₁ B hml hv
  obtain ⟨rfl, hsz, hP, hK, hD0, hN⟩ := hv
  have hts := atoms_spec (ws := Cond.code mi.1 mi.2.1 mi.2.2.1 mi.2.2.2 :: jtbl) B.pre
  subst hsz
  rw [lg_entry_eq]
  exact h p e s m _ below meth c s.heap [] (va_A (jw x tb M) s.heap.size) _ ⟨B.exec, B.bytes, hml, B.returns, B.notSynchronized, findClass_of_methodNamed B.named, fun w hw => hts w (List.mem_cons_of_mem _ hw), hK, hP, hD0.self, va_S.rf, ⟨fun q hq => Or.inr hq, hN⟩, lv_entry av hl⟩
section JR
variable {x : jX} {tb : jT} {mi : jMI} {d : Nat} {Q : jM → Option Value → Prop} {pc : Nat} {ls : List (Nat × Value)} {st : List Value} {M : jM}
theorem jw_iconst {n : Int} {v : Int32} (hd : decode mi.2.1 pc = .ok (.iconst n, 1)) (hv : Int32.ofInt n = v) (k : JW x tb mi d Q (pc + 1) ls (.int v :: st) M) : JW x tb mi d Q (pc) ls (st) M := by
  intro p e s m args below meth c H locs A la hc
  exact lv_iconst hc.1 hc.2.1 hd hv (k p e s m args below meth c H locs A la hc)
theorem jw_bipush {n : Int} {v : Int32} (hd : decode mi.2.1 pc = .ok (.bipush n, 2)) (hv : (Int8.ofInt n).toInt32 = v) (k : JW x tb mi d Q (pc + 2) ls (.int v :: st) M) : JW x tb mi d Q (pc) ls (st) M := by
  intro p e s m args below meth c H locs A la hc
  exact lv_bipush hc.1 hc.2.1 hd hv (k p e s m args below meth c H locs A la hc)
theorem jw_sipush {n : Int} {v : Int32} (hd : decode mi.2.1 pc = .ok (.sipush n, 3)) (hv : (Int16.ofInt n).toInt32 = v) (k : JW x tb mi d Q (pc + 3) ls (.int v :: st) M) : JW x tb mi d Q (pc) ls (st) M := by
  intro p e s m args below meth c H locs A la hc
  exact lv_sipush hc.1 hc.2.1 hd hv (k p e s m args below meth c H locs A la hc)
theorem jw_lconst {n : Fin 2} {v : Int64} (hd : decode mi.2.1 pc = .ok (.lconst n, 1)) (hv : Int64.ofNat (n : Nat) = v) (k : JW x tb mi d Q (pc + 1) ls (.long v :: st) M) : JW x tb mi d Q (pc) ls (st) M := by
  intro p e s m args below meth c H locs A la hc
  exact lv_lconst hc.1 hc.2.1 hd hv (k p e s m args below meth c H locs A la hc)
theorem jw_ldc {n : Nat} {v : Int32} (hd : decode mi.2.1 pc = .ok (.ldc n, 2)) (hv : Cond.constant mi.1.cls n v ∈ jtbl) (k : JW x tb mi d Q (pc + 2) ls (.int v :: st) M) : JW x tb mi d Q (pc) ls (st) M := by
  intro p e s m args below meth c H locs A la hc
  exact lv_ldc hc.1 hc.2.1 hc.2.2.2.2.2.1 (hc.2.2.2.2.2.2.1 _ hv) hd (k p e s m args below meth c H locs A la hc)
theorem jw_ldcw {n : Nat} {v : Int32} (hd : decode mi.2.1 pc = .ok (.ldc_w n, 3)) (hv : Cond.constant mi.1.cls n v ∈ jtbl) (k : JW x tb mi d Q (pc + 3) ls (.int v :: st) M) : JW x tb mi d Q (pc) ls (st) M := by
  intro p e s m args below meth c H locs A la hc
  exact lv_ldcw hc.1 hc.2.1 hc.2.2.2.2.2.1 (hc.2.2.2.2.2.2.1 _ hv) hd (k p e s m args below meth c H locs A la hc)
theorem jw_ldc2 {n : Nat} {v : Int64} (hd : decode mi.2.1 pc = .ok (.ldc2_w n, 3)) (hv : Cond.constantLong mi.1.cls n v ∈ jtbl) (k : JW x tb mi d Q (pc + 3) ls (.long v :: st) M) : JW x tb mi d Q (pc) ls (st) M := by
  intro p e s m args below meth c H locs A la hc
  exact lv_ldc2 hc.1 hc.2.1 hc.2.2.2.2.2.1 (hc.2.2.2.2.2.2.1 _ hv) hd (k p e s m args below meth c H locs A la hc)
theorem jw_iload_n {k : Fin 4} {j i : Nat} {v : Int32} (hd : decode mi.2.1 pc = .ok (.iload_n k, 1)) (hi : (k : Nat) = i) (hl : ls[j]? = some (i, .int v)) (k : JW x tb mi d Q (pc + 1) ls (.int v :: st) M) : JW x tb mi d Q (pc) ls (st) M := by
  intro p e s m args below meth c H locs A la hc
  exact lv_iload_n hc.1 hc.2.1 hd hi (lv_at hc.2.2.2.2.2.2.2.2.2.2.2.2 j hl) (k p e s m args below meth c H locs A la hc)
theorem jw_iload {j i : Nat} {v : Int32} (hd : decode mi.2.1 pc = .ok (.iload i, 2)) (hl : ls[j]? = some (i, .int v)) (k : JW x tb mi d Q (pc + 2) ls (.int v :: st) M) : JW x tb mi d Q (pc) ls (st) M := by
  intro p e s m args below meth c H locs A la hc
  exact lv_iload hc.1 hc.2.1 hd (lv_at hc.2.2.2.2.2.2.2.2.2.2.2.2 j hl) (k p e s m args below meth c H locs A la hc)
theorem jw_istore_n {k : Fin 4} {i : Nat} {v : Int32} {ls' : List (Nat × Value)} (hd : decode mi.2.1 pc = .ok (.istore_n k, 1)) (hi : (k : Nat) = i) (hn : i < mi.2.2.1) (hl : (i, Value.int v) :: ls.filter (fun q => !(q.1 == i) && !(q.1 + 1 == i && q.2.category == 2)) = ls') (k : JW x tb mi d Q (pc + 1) ls' (st) M) : JW x tb mi d Q (pc) ls (.int v :: st) M := by
  intro p e s m args below meth c H locs A la hc
  refine lv_istore_n hc.1 hc.2.1 hd hi hc.2.2.2.2.2.2.2.2.2.2.2.2 hn hl (fun la' hl' => k p e s m args below meth c H locs A la' ?_)
  obtain ⟨h1, h2, h3, h4, h5, h6, h7, h8, h9, h10, h11, h12, -⟩ := hc
  exact ⟨h1, h2, h3, h4, h5, h6, h7, h8, h9, h10, h11, h12, hl'⟩
theorem jw_istore {i : Nat} {v : Int32} {ls' : List (Nat × Value)} (hd : decode mi.2.1 pc = .ok (.istore i, 2)) (hn : i < mi.2.2.1) (hl : (i, Value.int v) :: ls.filter (fun q => !(q.1 == i) && !(q.1 + 1 == i && q.2.category == 2)) = ls') (k : JW x tb mi d Q (pc + 2) ls' (st) M) : JW x tb mi d Q (pc) ls (.int v :: st) M := by
  intro p e s m args below meth c H locs A la hc
  refine lv_istore hc.1 hc.2.1 hd hc.2.2.2.2.2.2.2.2.2.2.2.2 hn hl (fun la' hl' => k p e s m args below meth c H locs A la' ?_)
  obtain ⟨h1, h2, h3, h4, h5, h6, h7, h8, h9, h10, h11, h12, -⟩ := hc
  exact ⟨h1, h2, h3, h4, h5, h6, h7, h8, h9, h10, h11, h12, hl'⟩
theorem jw_lload_n {k : Fin 4} {j i : Nat} {v : Int64} (hd : decode mi.2.1 pc = .ok (.lload_n k, 1)) (hi : (k : Nat) = i) (hl : ls[j]? = some (i, .long v)) (k : JW x tb mi d Q (pc + 1) ls (.long v :: st) M) : JW x tb mi d Q (pc) ls (st) M := by
  intro p e s m args below meth c H locs A la hc
  exact lv_lload_n hc.1 hc.2.1 hd hi (lv_at hc.2.2.2.2.2.2.2.2.2.2.2.2 j hl) (k p e s m args below meth c H locs A la hc)
theorem jw_lload {j i : Nat} {v : Int64} (hd : decode mi.2.1 pc = .ok (.lload i, 2)) (hl : ls[j]? = some (i, .long v)) (k : JW x tb mi d Q (pc + 2) ls (.long v :: st) M) : JW x tb mi d Q (pc) ls (st) M := by
  intro p e s m args below meth c H locs A la hc
  exact lv_lload hc.1 hc.2.1 hd (lv_at hc.2.2.2.2.2.2.2.2.2.2.2.2 j hl) (k p e s m args below meth c H locs A la hc)
theorem jw_lstore_n {k : Fin 4} {i : Nat} {v : Int64} {ls' : List (Nat × Value)} (hd : decode mi.2.1 pc = .ok (.lstore_n k, 1)) (hi : (k : Nat) = i) (hn : i + 1 < mi.2.2.1) (hl : (i, Value.long v) :: ls.filter (fun q => !(q.1 == i) && (!(q.1 == i + 1) && !(q.1 + 1 == i && q.2.category == 2))) = ls') (k : JW x tb mi d Q (pc + 1) ls' (st) M) : JW x tb mi d Q (pc) ls (.long v :: st) M := by
  intro p e s m args below meth c H locs A la hc
  refine lv_lstore_n hc.1 hc.2.1 hd hi hc.2.2.2.2.2.2.2.2.2.2.2.2 hn hl (fun la' hl' => k p e s m args below meth c H locs A la' ?_)
  obtain ⟨h1, h2, h3, h4, h5, h6, h7, h8, h9, h10, h11, h12, -⟩ := hc
  exact ⟨h1, h2, h3, h4, h5, h6, h7, h8, h9, h10, h11, h12, hl'⟩
theorem jw_lstore {i : Nat} {v : Int64} {ls' : List (Nat × Value)} (hd : decode mi.2.1 pc = .ok (.lstore i, 2)) (hn : i + 1 < mi.2.2.1) (hl : (i, Value.long v) :: ls.filter (fun q => !(q.1 == i) && (!(q.1 == i + 1) && !(q.1 + 1 == i && q.2.category == 2))) = ls') (k : JW x tb mi d Q (pc + 2) ls' (st) M) : JW x tb mi d Q (pc) ls (.long v :: st) M := by
  intro p e s m args below meth c H locs A la hc
  refine lv_lstore hc.1 hc.2.1 hd hc.2.2.2.2.2.2.2.2.2.2.2.2 hn hl (fun la' hl' => k p e s m args below meth c H locs A la' ?_)
  obtain ⟨h1, h2, h3, h4, h5, h6, h7, h8, h9, h10, h11, h12, -⟩ := hc
  exact ⟨h1, h2, h3, h4, h5, h6, h7, h8, h9, h10, h11, h12, hl'⟩
theorem jw_aload_n {k : Fin 4} {j i : Nat} {v : Nat} (hd : decode mi.2.1 pc = .ok (.aload_n k, 1)) (hi : (k : Nat) = i) (hl : ls[j]? = some (i, .ref v)) (k : JW x tb mi d Q (pc + 1) ls (.ref v :: st) M) : JW x tb mi d Q (pc) ls (st) M := by
  intro p e s m args below meth c H locs A la hc
  exact lv_aload_n hc.1 hc.2.1 hd hi (lv_at hc.2.2.2.2.2.2.2.2.2.2.2.2 j hl) (k p e s m args below meth c H locs A la hc)
theorem jw_aload {j i : Nat} {v : Nat} (hd : decode mi.2.1 pc = .ok (.aload i, 2)) (hl : ls[j]? = some (i, .ref v)) (k : JW x tb mi d Q (pc + 2) ls (.ref v :: st) M) : JW x tb mi d Q (pc) ls (st) M := by
  intro p e s m args below meth c H locs A la hc
  exact lv_aload hc.1 hc.2.1 hd (lv_at hc.2.2.2.2.2.2.2.2.2.2.2.2 j hl) (k p e s m args below meth c H locs A la hc)
theorem jw_astore_n {k : Fin 4} {i : Nat} {v : Nat} {ls' : List (Nat × Value)} (hd : decode mi.2.1 pc = .ok (.astore_n k, 1)) (hi : (k : Nat) = i) (hn : i < mi.2.2.1) (hl : (i, Value.ref v) :: ls.filter (fun q => !(q.1 == i) && !(q.1 + 1 == i && q.2.category == 2)) = ls') (k : JW x tb mi d Q (pc + 1) ls' (st) M) : JW x tb mi d Q (pc) ls (.ref v :: st) M := by
  intro p e s m args below meth c H locs A la hc
  refine lv_astore_n hc.1 hc.2.1 hd hi hc.2.2.2.2.2.2.2.2.2.2.2.2 hn hl (fun la' hl' => k p e s m args below meth c H locs A la' ?_)
  obtain ⟨h1, h2, h3, h4, h5, h6, h7, h8, h9, h10, h11, h12, -⟩ := hc
  exact ⟨h1, h2, h3, h4, h5, h6, h7, h8, h9, h10, h11, h12, hl'⟩
theorem jw_astore {i : Nat} {v : Nat} {ls' : List (Nat × Value)} (hd : decode mi.2.1 pc = .ok (.astore i, 2)) (hn : i < mi.2.2.1) (hl : (i, Value.ref v) :: ls.filter (fun q => !(q.1 == i) && !(q.1 + 1 == i && q.2.category == 2)) = ls') (k : JW x tb mi d Q (pc + 2) ls' (st) M) : JW x tb mi d Q (pc) ls (.ref v :: st) M := by
  intro p e s m args below meth c H locs A la hc
  refine lv_astore hc.1 hc.2.1 hd hc.2.2.2.2.2.2.2.2.2.2.2.2 hn hl (fun la' hl' => k p e s m args below meth c H locs A la' ?_)
  obtain ⟨h1, h2, h3, h4, h5, h6, h7, h8, h9, h10, h11, h12, -⟩ := hc
  exact ⟨h1, h2, h3, h4, h5, h6, h7, h8, h9, h10, h11, h12, hl'⟩
theorem jw_iinc {i j : Nat} {n : Int} {v u : Int32} {ls' : List (Nat × Value)} (hd : decode mi.2.1 pc = .ok (.iinc i n, 3)) (hk : ls[j]? = some (i, .int v)) (hv : v + Int32.ofInt n = u) (hn : i < mi.2.2.1) (hl : (i, Value.int u) :: ls.filter (fun q => !(q.1 == i) && !(q.1 + 1 == i && q.2.category == 2)) = ls') (k : JW x tb mi d Q (pc + 3) ls' (st) M) : JW x tb mi d Q (pc) ls (st) M := by
  intro p e s m args below meth c H locs A la hc
  refine lv_iinc hc.1 hc.2.1 hd hc.2.2.2.2.2.2.2.2.2.2.2.2 hk hv hn hl (fun la' hl' => k p e s m args below meth c H locs A la' ?_)
  obtain ⟨h1, h2, h3, h4, h5, h6, h7, h8, h9, h10, h11, h12, -⟩ := hc
  exact ⟨h1, h2, h3, h4, h5, h6, h7, h8, h9, h10, h11, h12, hl'⟩
theorem jw_iadd {a b : Int32} (hd : decode mi.2.1 pc = .ok (.iadd, 1)) (k : JW x tb mi d Q (pc + 1) ls (.int (a + b) :: st) M) : JW x tb mi d Q (pc) ls (.int b :: .int a :: st) M := by
  intro p e s m args below meth c H locs A la hc
  exact lv_iadd hc.1 hc.2.1 hd (k p e s m args below meth c H locs A la hc)
theorem jw_isub {a b : Int32} (hd : decode mi.2.1 pc = .ok (.isub, 1)) (k : JW x tb mi d Q (pc + 1) ls (.int (a - b) :: st) M) : JW x tb mi d Q (pc) ls (.int b :: .int a :: st) M := by
  intro p e s m args below meth c H locs A la hc
  exact lv_isub hc.1 hc.2.1 hd (k p e s m args below meth c H locs A la hc)
theorem jw_imul {a b : Int32} (hd : decode mi.2.1 pc = .ok (.imul, 1)) (k : JW x tb mi d Q (pc + 1) ls (.int (a * b) :: st) M) : JW x tb mi d Q (pc) ls (.int b :: .int a :: st) M := by
  intro p e s m args below meth c H locs A la hc
  exact lv_imul hc.1 hc.2.1 hd (k p e s m args below meth c H locs A la hc)
theorem jw_iand {a b : Int32} (hd : decode mi.2.1 pc = .ok (.iand, 1)) (k : JW x tb mi d Q (pc + 1) ls (.int (a &&& b) :: st) M) : JW x tb mi d Q (pc) ls (.int b :: .int a :: st) M := by
  intro p e s m args below meth c H locs A la hc
  exact lv_iand hc.1 hc.2.1 hd (k p e s m args below meth c H locs A la hc)
theorem jw_ior {a b : Int32} (hd : decode mi.2.1 pc = .ok (.ior, 1)) (k : JW x tb mi d Q (pc + 1) ls (.int (a ||| b) :: st) M) : JW x tb mi d Q (pc) ls (.int b :: .int a :: st) M := by
  intro p e s m args below meth c H locs A la hc
  exact lv_ior hc.1 hc.2.1 hd (k p e s m args below meth c H locs A la hc)
theorem jw_ixor {a b : Int32} (hd : decode mi.2.1 pc = .ok (.ixor, 1)) (k : JW x tb mi d Q (pc + 1) ls (.int (a ^^^ b) :: st) M) : JW x tb mi d Q (pc) ls (.int b :: .int a :: st) M := by
  intro p e s m args below meth c H locs A la hc
  exact lv_ixor hc.1 hc.2.1 hd (k p e s m args below meth c H locs A la hc)
theorem jw_ishl {a b : Int32} (hd : decode mi.2.1 pc = .ok (.ishl, 1)) (k : JW x tb mi d Q (pc + 1) ls (.int (a <<< (b &&& 31)) :: st) M) : JW x tb mi d Q (pc) ls (.int b :: .int a :: st) M := by
  intro p e s m args below meth c H locs A la hc
  exact lv_ishl hc.1 hc.2.1 hd (k p e s m args below meth c H locs A la hc)
theorem jw_ishr {a b : Int32} (hd : decode mi.2.1 pc = .ok (.ishr, 1)) (k : JW x tb mi d Q (pc + 1) ls (.int (a >>> (b &&& 31)) :: st) M) : JW x tb mi d Q (pc) ls (.int b :: .int a :: st) M := by
  intro p e s m args below meth c H locs A la hc
  exact lv_ishr hc.1 hc.2.1 hd (k p e s m args below meth c H locs A la hc)
theorem jw_iushr {a b : Int32} (hd : decode mi.2.1 pc = .ok (.iushr, 1)) (k : JW x tb mi d Q (pc + 1) ls (.int ((a.toUInt32 >>> (b.toUInt32 &&& Int32.toUInt32 31)).toInt32) :: st) M) : JW x tb mi d Q (pc) ls (.int b :: .int a :: st) M := by
  intro p e s m args below meth c H locs A la hc
  exact lv_iushr hc.1 hc.2.1 hd rfl (k p e s m args below meth c H locs A la hc)
theorem jw_irem {a b : Int32} (hd : decode mi.2.1 pc = .ok (.irem, 1)) (h0 : ¬ b = 0) (k : JW x tb mi d Q (pc + 1) ls (.int (a - a / b * b) :: st) M) : JW x tb mi d Q (pc) ls (.int b :: .int a :: st) M := by
  intro p e s m args below meth c H locs A la hc
  exact lv_irem hc.1 hc.2.1 hd h0 (k p e s m args below meth c H locs A la hc)
theorem jw_idiv {a b : Int32} (hd : decode mi.2.1 pc = .ok (.idiv, 1)) (h0 : ¬ b = 0) (k : JW x tb mi d Q (pc + 1) ls (.int (a / b) :: st) M) : JW x tb mi d Q (pc) ls (.int b :: .int a :: st) M := by
  intro p e s m args below meth c H locs A la hc
  exact lv_idiv hc.1 hc.2.1 hd h0 (k p e s m args below meth c H locs A la hc)
theorem jw_ineg {a : Int32} (hd : decode mi.2.1 pc = .ok (.ineg, 1)) (k : JW x tb mi d Q (pc + 1) ls (.int (-a) :: st) M) : JW x tb mi d Q (pc) ls (.int a :: st) M := by
  intro p e s m args below meth c H locs A la hc
  exact lv_ineg hc.1 hc.2.1 hd (k p e s m args below meth c H locs A la hc)
theorem jw_lneg {a : Int64} (hd : decode mi.2.1 pc = .ok (.lneg, 1)) (k : JW x tb mi d Q (pc + 1) ls (.long (-a) :: st) M) : JW x tb mi d Q (pc) ls (.long a :: st) M := by
  intro p e s m args below meth c H locs A la hc
  exact lv_lneg hc.1 hc.2.1 hd (k p e s m args below meth c H locs A la hc)
theorem jw_ladd {a b : Int64} (hd : decode mi.2.1 pc = .ok (.ladd, 1)) (k : JW x tb mi d Q (pc + 1) ls (.long (a + b) :: st) M) : JW x tb mi d Q (pc) ls (.long b :: .long a :: st) M := by
  intro p e s m args below meth c H locs A la hc
  exact lv_ladd hc.1 hc.2.1 hd (k p e s m args below meth c H locs A la hc)
theorem jw_lsub {a b : Int64} (hd : decode mi.2.1 pc = .ok (.lsub, 1)) (k : JW x tb mi d Q (pc + 1) ls (.long (a - b) :: st) M) : JW x tb mi d Q (pc) ls (.long b :: .long a :: st) M := by
  intro p e s m args below meth c H locs A la hc
  exact lv_lsub hc.1 hc.2.1 hd (k p e s m args below meth c H locs A la hc)
theorem jw_lmul {a b : Int64} (hd : decode mi.2.1 pc = .ok (.lmul, 1)) (k : JW x tb mi d Q (pc + 1) ls (.long (a * b) :: st) M) : JW x tb mi d Q (pc) ls (.long b :: .long a :: st) M := by
  intro p e s m args below meth c H locs A la hc
  exact lv_lmul hc.1 hc.2.1 hd (k p e s m args below meth c H locs A la hc)
theorem jw_land {a b : Int64} (hd : decode mi.2.1 pc = .ok (.land, 1)) (k : JW x tb mi d Q (pc + 1) ls (.long (a &&& b) :: st) M) : JW x tb mi d Q (pc) ls (.long b :: .long a :: st) M := by
  intro p e s m args below meth c H locs A la hc
  exact lv_land hc.1 hc.2.1 hd (k p e s m args below meth c H locs A la hc)
theorem jw_lor {a b : Int64} (hd : decode mi.2.1 pc = .ok (.lor, 1)) (k : JW x tb mi d Q (pc + 1) ls (.long (a ||| b) :: st) M) : JW x tb mi d Q (pc) ls (.long b :: .long a :: st) M := by
  intro p e s m args below meth c H locs A la hc
  exact lv_lor hc.1 hc.2.1 hd (k p e s m args below meth c H locs A la hc)
theorem jw_lrem {a b : Int64} (hd : decode mi.2.1 pc = .ok (.lrem, 1)) (h0 : ¬ b = 0) (k : JW x tb mi d Q (pc + 1) ls (.long (a - a / b * b) :: st) M) : JW x tb mi d Q (pc) ls (.long b :: .long a :: st) M := by
  intro p e s m args below meth c H locs A la hc
  exact lv_lrem hc.1 hc.2.1 hd h0 (k p e s m args below meth c H locs A la hc)
theorem jw_ldiv {a b : Int64} (hd : decode mi.2.1 pc = .ok (.ldiv, 1)) (h0 : ¬ b = 0) (k : JW x tb mi d Q (pc + 1) ls (.long (a / b) :: st) M) : JW x tb mi d Q (pc) ls (.long b :: .long a :: st) M := by
  intro p e s m args below meth c H locs A la hc
  exact lv_ldiv hc.1 hc.2.1 hd h0 (k p e s m args below meth c H locs A la hc)
theorem jw_lshl {a : Int64} {b : Int32} (hd : decode mi.2.1 pc = .ok (.lshl, 1)) (k : JW x tb mi d Q (pc + 1) ls (.long (a <<< (b.toInt64 &&& 63)) :: st) M) : JW x tb mi d Q (pc) ls (.int b :: .long a :: st) M := by
  intro p e s m args below meth c H locs A la hc
  exact lv_lshl hc.1 hc.2.1 hd rfl (k p e s m args below meth c H locs A la hc)
theorem jw_lshr {a : Int64} {b : Int32} (hd : decode mi.2.1 pc = .ok (.lshr, 1)) (k : JW x tb mi d Q (pc + 1) ls (.long (a >>> (b.toInt64 &&& 63)) :: st) M) : JW x tb mi d Q (pc) ls (.int b :: .long a :: st) M := by
  intro p e s m args below meth c H locs A la hc
  exact lv_lshr hc.1 hc.2.1 hd rfl (k p e s m args below meth c H locs A la hc)
theorem jw_i2l {a : Int32} (hd : decode mi.2.1 pc = .ok (.i2l, 1)) (k : JW x tb mi d Q (pc + 1) ls (.long a.toInt64 :: st) M) : JW x tb mi d Q (pc) ls (.int a :: st) M := by
  intro p e s m args below meth c H locs A la hc
  exact lv_i2l hc.1 hc.2.1 hd rfl (k p e s m args below meth c H locs A la hc)
theorem jw_l2i {a : Int64} (hd : decode mi.2.1 pc = .ok (.l2i, 1)) (k : JW x tb mi d Q (pc + 1) ls (.int a.toInt32 :: st) M) : JW x tb mi d Q (pc) ls (.long a :: st) M := by
  intro p e s m args below meth c H locs A la hc
  exact lv_l2i hc.1 hc.2.1 hd rfl (k p e s m args below meth c H locs A la hc)
theorem jw_i2b {a : Int32} (hd : decode mi.2.1 pc = .ok (.i2b, 1)) (k : JW x tb mi d Q (pc + 1) ls (.int a.toInt8.toInt32 :: st) M) : JW x tb mi d Q (pc) ls (.int a :: st) M := by
  intro p e s m args below meth c H locs A la hc
  exact lv_i2b hc.1 hc.2.1 hd rfl (k p e s m args below meth c H locs A la hc)
theorem jw_i2s {a : Int32} (hd : decode mi.2.1 pc = .ok (.i2s, 1)) (k : JW x tb mi d Q (pc + 1) ls (.int a.toInt16.toInt32 :: st) M) : JW x tb mi d Q (pc) ls (.int a :: st) M := by
  intro p e s m args below meth c H locs A la hc
  exact lv_i2s hc.1 hc.2.1 hd rfl (k p e s m args below meth c H locs A la hc)
theorem jw_lcmp {a b : Int64} (hd : decode mi.2.1 pc = .ok (.lcmp, 1)) (k : JW x tb mi d Q (pc + 1) ls (.int (lg_cmp a b) :: st) M) : JW x tb mi d Q (pc) ls (.long b :: .long a :: st) M := by
  intro p e s m args below meth c H locs A la hc
  exact W.lcmp hc.1 hc.2.1 hd (k p e s m args below meth c H locs A la hc)
theorem jw_dup {v : Value} (hd : decode mi.2.1 pc = .ok (.dup, 1)) (h0 : v.category = 1) (k : JW x tb mi d Q (pc + 1) ls (v :: v :: st) M) : JW x tb mi d Q (pc) ls (v :: st) M := by
  intro p e s m args below meth c H locs A la hc
  exact lv_dup hc.1 hc.2.1 hd h0 (k p e s m args below meth c H locs A la hc)
theorem jw_dup2 {v u : Value} (hd : decode mi.2.1 pc = .ok (.dup2, 1)) (h0 : v.category = 1) (h1 : u.category = 1) (k : JW x tb mi d Q (pc + 1) ls (v :: u :: v :: u :: st) M) : JW x tb mi d Q (pc) ls (v :: u :: st) M := by
  intro p e s m args below meth c H locs A la hc
  exact lv_dup2_11 hc.1 hc.2.1 hd h0 h1 (k p e s m args below meth c H locs A la hc)
theorem jw_pop {v : Value} (hd : decode mi.2.1 pc = .ok (.pop, 1)) (h0 : v.category = 1) (k : JW x tb mi d Q (pc + 1) ls (st) M) : JW x tb mi d Q (pc) ls (v :: st) M := by
  intro p e s m args below meth c H locs A la hc
  exact lv_pop hc.1 hc.2.1 hd h0 (k p e s m args below meth c H locs A la hc)
theorem jw_goto {off : Int} {tgt : Nat} (hd : decode mi.2.1 pc = .ok (.goto off, 3)) (ht : (pc : Int) + off = (tgt : Int)) (k : JW x tb mi d Q (tgt) ls (st) M) : JW x tb mi d Q (pc) ls (st) M := by
  intro p e s m args below meth c H locs A la hc
  exact lv_goto hc.1 hc.2.1 hd ht (k p e s m args below meth c H locs A la hc)
theorem jw_if_eq {a : Int32} {off : Int} {tgt : Nat} (hd : decode mi.2.1 pc = .ok (.ifCond .eq off, 3)) (ht : (pc : Int) + off = (tgt : Int)) (kt : (a = 0) → JW x tb mi d Q (tgt) ls (st) M) (kf : (¬ a = 0) → JW x tb mi d Q (pc + 3) ls (st) M) : JW x tb mi d Q (pc) ls (.int a :: st) M := by
  intro p e s m args below meth c H locs A la hc
  exact lv_if_eq hc.1 hc.2.1 hd ht (fun h => kt h p e s m args below meth c H locs A la hc) (fun h => kf h p e s m args below meth c H locs A la hc)
theorem jw_if_ne {a : Int32} {off : Int} {tgt : Nat} (hd : decode mi.2.1 pc = .ok (.ifCond .ne off, 3)) (ht : (pc : Int) + off = (tgt : Int)) (kt : (¬ a = 0) → JW x tb mi d Q (tgt) ls (st) M) (kf : (a = 0) → JW x tb mi d Q (pc + 3) ls (st) M) : JW x tb mi d Q (pc) ls (.int a :: st) M := by
  intro p e s m args below meth c H locs A la hc
  exact lv_if_ne hc.1 hc.2.1 hd ht (fun h => kt h p e s m args below meth c H locs A la hc) (fun h => kf h p e s m args below meth c H locs A la hc)
theorem jw_if_lt {a : Int32} {off : Int} {tgt : Nat} (hd : decode mi.2.1 pc = .ok (.ifCond .lt off, 3)) (ht : (pc : Int) + off = (tgt : Int)) (kt : (a < 0) → JW x tb mi d Q (tgt) ls (st) M) (kf : (¬ a < 0) → JW x tb mi d Q (pc + 3) ls (st) M) : JW x tb mi d Q (pc) ls (.int a :: st) M := by
  intro p e s m args below meth c H locs A la hc
  exact lv_if_lt hc.1 hc.2.1 hd ht (fun h => kt h p e s m args below meth c H locs A la hc) (fun h => kf h p e s m args below meth c H locs A la hc)
theorem jw_if_ge {a : Int32} {off : Int} {tgt : Nat} (hd : decode mi.2.1 pc = .ok (.ifCond .ge off, 3)) (ht : (pc : Int) + off = (tgt : Int)) (kt : (0 ≤ a) → JW x tb mi d Q (tgt) ls (st) M) (kf : (¬ 0 ≤ a) → JW x tb mi d Q (pc + 3) ls (st) M) : JW x tb mi d Q (pc) ls (.int a :: st) M := by
  intro p e s m args below meth c H locs A la hc
  exact lv_if_ge hc.1 hc.2.1 hd ht (fun h => kt h p e s m args below meth c H locs A la hc) (fun h => kf h p e s m args below meth c H locs A la hc)
theorem jw_if_gt {a : Int32} {off : Int} {tgt : Nat} (hd : decode mi.2.1 pc = .ok (.ifCond .gt off, 3)) (ht : (pc : Int) + off = (tgt : Int)) (kt : (0 < a) → JW x tb mi d Q (tgt) ls (st) M) (kf : (¬ 0 < a) → JW x tb mi d Q (pc + 3) ls (st) M) : JW x tb mi d Q (pc) ls (.int a :: st) M := by
  intro p e s m args below meth c H locs A la hc
  exact lv_if_gt hc.1 hc.2.1 hd ht (fun h => kt h p e s m args below meth c H locs A la hc) (fun h => kf h p e s m args below meth c H locs A la hc)
theorem jw_if_le {a : Int32} {off : Int} {tgt : Nat} (hd : decode mi.2.1 pc = .ok (.ifCond .le off, 3)) (ht : (pc : Int) + off = (tgt : Int)) (kt : (a ≤ 0) → JW x tb mi d Q (tgt) ls (st) M) (kf : (¬ a ≤ 0) → JW x tb mi d Q (pc + 3) ls (st) M) : JW x tb mi d Q (pc) ls (.int a :: st) M := by
  intro p e s m args below meth c H locs A la hc
  exact lv_if_le hc.1 hc.2.1 hd ht (fun h => kt h p e s m args below meth c H locs A la hc) (fun h => kf h p e s m args below meth c H locs A la hc)
theorem jw_icmp_eq {a b : Int32} {off : Int} {tgt : Nat} (hd : decode mi.2.1 pc = .ok (.if_icmp .eq off, 3)) (ht : (pc : Int) + off = (tgt : Int)) (kt : (a = b) → JW x tb mi d Q (tgt) ls (st) M) (kf : (¬ a = b) → JW x tb mi d Q (pc + 3) ls (st) M) : JW x tb mi d Q (pc) ls (.int b :: .int a :: st) M := by
  intro p e s m args below meth c H locs A la hc
  exact lv_icmp_eq hc.1 hc.2.1 hd ht (fun h => kt h p e s m args below meth c H locs A la hc) (fun h => kf h p e s m args below meth c H locs A la hc)
theorem jw_icmp_ne {a b : Int32} {off : Int} {tgt : Nat} (hd : decode mi.2.1 pc = .ok (.if_icmp .ne off, 3)) (ht : (pc : Int) + off = (tgt : Int)) (kt : (¬ a = b) → JW x tb mi d Q (tgt) ls (st) M) (kf : (a = b) → JW x tb mi d Q (pc + 3) ls (st) M) : JW x tb mi d Q (pc) ls (.int b :: .int a :: st) M := by
  intro p e s m args below meth c H locs A la hc
  exact lv_icmp_ne hc.1 hc.2.1 hd ht (fun h => kt h p e s m args below meth c H locs A la hc) (fun h => kf h p e s m args below meth c H locs A la hc)
theorem jw_icmp_lt {a b : Int32} {off : Int} {tgt : Nat} (hd : decode mi.2.1 pc = .ok (.if_icmp .lt off, 3)) (ht : (pc : Int) + off = (tgt : Int)) (kt : (a < b) → JW x tb mi d Q (tgt) ls (st) M) (kf : (¬ a < b) → JW x tb mi d Q (pc + 3) ls (st) M) : JW x tb mi d Q (pc) ls (.int b :: .int a :: st) M := by
  intro p e s m args below meth c H locs A la hc
  exact lv_icmp_lt hc.1 hc.2.1 hd ht (fun h => kt h p e s m args below meth c H locs A la hc) (fun h => kf h p e s m args below meth c H locs A la hc)
theorem jw_icmp_ge {a b : Int32} {off : Int} {tgt : Nat} (hd : decode mi.2.1 pc = .ok (.if_icmp .ge off, 3)) (ht : (pc : Int) + off = (tgt : Int)) (kt : (b ≤ a) → JW x tb mi d Q (tgt) ls (st) M) (kf : (¬ b ≤ a) → JW x tb mi d Q (pc + 3) ls (st) M) : JW x tb mi d Q (pc) ls (.int b :: .int a :: st) M := by
  intro p e s m args below meth c H locs A la hc
  exact lv_icmp_ge hc.1 hc.2.1 hd ht (fun h => kt h p e s m args below meth c H locs A la hc) (fun h => kf h p e s m args below meth c H locs A la hc)
theorem jw_icmp_gt {a b : Int32} {off : Int} {tgt : Nat} (hd : decode mi.2.1 pc = .ok (.if_icmp .gt off, 3)) (ht : (pc : Int) + off = (tgt : Int)) (kt : (b < a) → JW x tb mi d Q (tgt) ls (st) M) (kf : (¬ b < a) → JW x tb mi d Q (pc + 3) ls (st) M) : JW x tb mi d Q (pc) ls (.int b :: .int a :: st) M := by
  intro p e s m args below meth c H locs A la hc
  exact lv_icmp_gt hc.1 hc.2.1 hd ht (fun h => kt h p e s m args below meth c H locs A la hc) (fun h => kf h p e s m args below meth c H locs A la hc)
theorem jw_icmp_le {a b : Int32} {off : Int} {tgt : Nat} (hd : decode mi.2.1 pc = .ok (.if_icmp .le off, 3)) (ht : (pc : Int) + off = (tgt : Int)) (kt : (a ≤ b) → JW x tb mi d Q (tgt) ls (st) M) (kf : (¬ a ≤ b) → JW x tb mi d Q (pc + 3) ls (st) M) : JW x tb mi d Q (pc) ls (.int b :: .int a :: st) M := by
  intro p e s m args below meth c H locs A la hc
  exact lv_icmp_le hc.1 hc.2.1 hd ht (fun h => kt h p e s m args below meth c H locs A la hc) (fun h => kf h p e s m args below meth c H locs A la hc)
end JR
