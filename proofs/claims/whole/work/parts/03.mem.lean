/-! memory rules -/
def jfl (own : String) (idx ci k : Nat) : Prop := ∃ q : vw_C, vwCl[ci]? = some q ∧ q.2.2 = jfn ci ∧ k < q.2.2 ∧ (q.2.1 k).1 = q.1 ∧ (∀ w ∈ u_ws q.1 q.2.1 q.2.2, w ∈ jtbl) ∧ Cond.fieldLink own idx q.1 (q.2.1 k).2.1 (q.2.1 k).2.2.1 ∈ jtbl
def jfw (ci k : Nat) (ty : FieldType) : Prop := ∃ (q : vw_C) (ty0 : Nat → FieldType), vwCl[ci]? = some q ∧ (∀ k, k < q.2.2 → parseFieldDescriptor (q.2.1 k).2.2.1 = some (ty0 k)) ∧ (∀ a, a < q.2.2 → ∀ b, b < q.2.2 → a ≠ b → (q.2.1 a).2.1 ≠ (q.2.1 b).2.1) ∧ (q.2.1 k).2.2.2 = false ∧ parseFieldDescriptor (q.2.1 k).2.2.1 = some ty
section JM
variable {x : jX} {tb : jT} {mi : jMI} {d : Nat} {Q : jM → Option Value → Prop} {pc : Nat} {ls : List (Nat × Value)} {st : List Value} {M : jM}
theorem jw_get {ci n k idx o : Nat} {v : Value} (hd : decode mi.2.1 pc = .ok (.getfield idx, 3)) (hs : js tb o = (ci, n)) (hci : ci < 20) (hf : jfl mi.1.cls idx ci k) (hv : jfv x.2.2.2 M ci o k = v)
    (kk : JW x tb mi d Q (pc + 3) ls (v :: st) M) : JW x tb mi d Q pc ls (.ref (x.2.2.2 o) :: st) M := by
  intro p e s m args below meth c H locs A la hc
  obtain ⟨⟨C, T, N⟩, hq, hN, hk, hT, hin, hl⟩ := hf
  obtain ⟨i, hi⟩ := j_at hs (by omega)
  have hat := jw_at (x := x) (M := M) hi
  rw [jent_o hci] at hat
  obtain ⟨h1, h2, h3, h4, h5, h6, h7, h8, h9, h10, h11, h12, h13⟩ := id hc
  dsimp only at hN hk hT hin hl
  exact va_get (D := x.2.1) h1 h2 h7 hin h6 h8 h9 i hat hq k hk (h7 _ hl) (fun z hz => by rw [← hT]; exact hz) (by rw [jfs_get (by omega), hv]) hd (kk p e s m args below meth c H locs A la hc)
theorem jw_getI {ci n k idx o : Nat} (hd : decode mi.2.1 pc = .ok (.getfield idx, 3)) (hs : js tb o = (ci, n)) (hf : jfl mi.1.cls idx ci k) (hci : ci < 20) (hk : jfk ci k = 0)
    (kk : JW x tb mi d Q (pc + 3) ls (.int (M.1 o k) :: st) M) : JW x tb mi d Q pc ls (.ref (x.2.2.2 o) :: st) M := jw_get hd hs hci hf (by simp [jfv, hk]) kk
theorem jw_getL {ci n k idx o : Nat} (hd : decode mi.2.1 pc = .ok (.getfield idx, 3)) (hs : js tb o = (ci, n)) (hf : jfl mi.1.cls idx ci k) (hci : ci < 20) (hk : jfk ci k = 1)
    (kk : JW x tb mi d Q (pc + 3) ls (.long (M.2 o k) :: st) M) : JW x tb mi d Q pc ls (.ref (x.2.2.2 o) :: st) M := jw_get hd hs hci hf (by simp [jfv, hk]) kk
theorem jw_getR {ci n k idx o r : Nat} (hd : decode mi.2.1 pc = .ok (.getfield idx, 3)) (hs : js tb o = (ci, n)) (hf : jfl mi.1.cls idx ci k) (hci : ci < 20) (hk : jfk ci k = 2) (hr : o + jof ci k = r)
    (kk : JW x tb mi d Q (pc + 3) ls (.ref (x.2.2.2 r) :: st) M) : JW x tb mi d Q pc ls (.ref (x.2.2.2 o) :: st) M := jw_get hd hs hci hf (by simp [jfv, hk, hr]) kk
theorem jw_getT {ci n k idx o : Nat} (hd : decode mi.2.1 pc = .ok (.getfield idx, 3)) (hs : js tb o = (ci, n)) (hf : jfl mi.1.cls idx ci k) (hci : ci < 20) (hk : jfk ci k = 3)
    (kk : JW x tb mi d Q (pc + 3) ls (.ref (x.2.2.2 (M.1 o k).toNatClampNeg) :: st) M) : JW x tb mi d Q pc ls (.ref (x.2.2.2 o) :: st) M := jw_get hd hs hci hf (by simp [jfv, hk]) kk
theorem jw_put {ci n k idx o : Nat} {v : Value} {M' : jM} {ty : FieldType} (hd : decode mi.2.1 pc = .ok (.putfield idx, 3)) (hs : js tb o = (ci, n)) (hci : ci < 20) (hf : jfl mi.1.cls idx ci k) (hw : jfw ci k ty) (hn : narrow ty v = v) (hfit : fits ty v = true)
    (hv : jfv x.2.2.2 M' ci o k = v) (hj : ∀ j, j ≠ k → jfv x.2.2.2 M' ci o j = jfv x.2.2.2 M ci o j) (ho : ∀ q : Nat × Nat × Nat, q.1 ≠ o → jent x M' q = jent x M q)
    (kk : JW x tb mi d Q (pc + 3) ls st M') : JW x tb mi d Q pc ls (v :: .ref (x.2.2.2 o) :: st) M := by
  intro p e s m args below meth c H locs A la hc
  obtain ⟨⟨C, T, N⟩, hq, hN, hk, hT, hin, hl⟩ := hf
  obtain ⟨q', ty0, hq', hty, hnm, hfin, hpd⟩ := hw
  rw [hq] at hq'
  cases hq'
  obtain ⟨i, hi⟩ := j_at hs (by omega)
  have hat := jw_at (x := x) (M := M) hi
  rw [jent_o hci] at hat
  obtain ⟨h1, h2, h3, h4, h5, h6, h7, h8, h9, h10, h11, h12, h13⟩ := id hc
  dsimp only at hN hk hT hin hl hty hnm hfin hpd
  have hset : (jw x tb M).set i (x.2.2.2 o, .inr (ci, (jfs x.2.2.2 M ci o).set k v)) = jw x tb M' :=
    jw_set h10 hi (by rw [jent_o hci, ← hv, jfs_set hj]) ho
  refine va_put (D := x.2.1) h1 h2 h7 hin ty0 hty hnm h6 h8 h9 h10 h11 i hat hq k hk (h7 _ hl) (fun z hz => by rw [← hT]; exact hz) hfin hpd hn hfit (by simp [jfs]; omega) hd (fun H1 locs1 hP hD hS => ?_)
  rw [hset] at hP hD
  exact kk p e s m args below meth c H1 locs1 A la ⟨h1, h2, h3, h4, h5, h6, h7, h8, hP, hD, hS, h12, h13⟩
theorem jrow_o {M : jM} {o : Nat} {f : Nat → Int32} : ∀ q : Nat × Nat × Nat, q.1 ≠ o → jent x (jrI M o f) q = jent x M q := fun q hq => jent_row (jrI_n hq) rfl
theorem jrowL_o {M : jM} {o : Nat} {f : Nat → Int64} : ∀ q : Nat × Nat × Nat, q.1 ≠ o → jent x (jrL M o f) q = jent x M q := fun q hq => jent_row rfl (jrL_n hq)
theorem jfv_upI {ad : Nat → Nat} {M : jM} {ci o k : Nat} {v : Int32} : ∀ j, j ≠ k → jfv ad (jrI M o (upd (M.1 o) k v)) ci o j = jfv ad M ci o j := by
  intro j hj
  unfold jfv
  rw [jrI_s, pk_un hj, jrI_2]
theorem jfv_upL {ad : Nat → Nat} {M : jM} {ci o k : Nat} {v : Int64} : ∀ j, j ≠ k → jfv ad (jrL M o (vp_updL (M.2 o) k v)) ci o j = jfv ad M ci o j := by
  intro j hj
  unfold jfv
  rw [jrL_s, pk_uLn hj, jrL_1]
theorem jw_putI {ci n k idx o : Nat} {v : Int32} (hd : decode mi.2.1 pc = .ok (.putfield idx, 3)) (hs : js tb o = (ci, n)) (hf : jfl mi.1.cls idx ci k) (hw : jfw ci k .int) (hci : ci < 20) (hk : jfk ci k = 0)
    (kk : JW x tb mi d Q (pc + 3) ls st (jrI M o (upd (M.1 o) k v))) : JW x tb mi d Q pc ls (.int v :: .ref (x.2.2.2 o) :: st) M :=
  jw_put hd hs hci hf hw rfl rfl (by simp [jfv, hk, jrI_s, pk_us]) jfv_upI jrow_o kk
theorem jw_putZ {ci n k idx o : Nat} {v : Int32} (hd : decode mi.2.1 pc = .ok (.putfield idx, 3)) (hs : js tb o = (ci, n)) (hf : jfl mi.1.cls idx ci k) (hw : jfw ci k .boolean) (hci : ci < 20) (hk : jfk ci k = 0) (h01 : v = 0 ∨ v = 1)
    (kk : JW x tb mi d Q (pc + 3) ls st (jrI M o (upd (M.1 o) k v))) : JW x tb mi d Q pc ls (.int v :: .ref (x.2.2.2 o) :: st) M :=
  jw_put hd hs hci hf hw (by rcases h01 with rfl | rfl <;> rfl) (by rcases h01 with rfl | rfl <;> rfl) (by simp [jfv, hk, jrI_s, pk_us]) jfv_upI jrow_o kk
theorem jw_putJ {ci n k idx o : Nat} {v : Int64} (hd : decode mi.2.1 pc = .ok (.putfield idx, 3)) (hs : js tb o = (ci, n)) (hf : jfl mi.1.cls idx ci k) (hw : jfw ci k .long) (hci : ci < 20) (hk : jfk ci k = 1)
    (kk : JW x tb mi d Q (pc + 3) ls st (jrL M o (vp_updL (M.2 o) k v))) : JW x tb mi d Q pc ls (.long v :: .ref (x.2.2.2 o) :: st) M :=
  jw_put hd hs hci hf hw rfl rfl (by simp [jfv, hk, jrL_s, pk_uLs]) jfv_upL jrowL_o kk
theorem jw_putT {ci n k idx o r : Nat} (hd : decode mi.2.1 pc = .ok (.putfield idx, 3)) (hs : js tb o = (ci, n)) (hf : jfl mi.1.cls idx ci k) (hw : jfw ci k (.array .byte)) (hci : ci < 20) (hk : jfk ci k = 3) (hr : r < 2 ^ 31)
    (kk : JW x tb mi d Q (pc + 3) ls st (jrI M o (upd (M.1 o) k (nI r)))) : JW x tb mi d Q pc ls (.ref (x.2.2.2 r) :: .ref (x.2.2.2 o) :: st) M :=
  jw_put hd hs hci hf hw rfl rfl (by simp [jfv, hk, jrI_s, pk_us, nI_clamp hr]) jfv_upI jrow_o kk
theorem jw_iald {o n j : Nat} {i : Int32} (hd : decode mi.2.1 pc = .ok (.iaload, 1)) (hs : js tb o = (20, n)) (hj : j < n) (hi : i = nI j) (hn : n < 2 ^ 31)
    (kk : JW x tb mi d Q (pc + 1) ls (.int (M.1 o j) :: st) M) : JW x tb mi d Q pc ls (.int i :: .ref (x.2.2.2 o) :: st) M := by
  intro p e s m args below meth c H locs A la hc
  obtain ⟨k, hk⟩ := j_at hs (by omega)
  have hat := jw_at (x := x) (M := M) hk
  rw [jent_i (by omega) (by omega)] at hat
  obtain ⟨h1, h2, h3, h4, h5, h6, h7, h8, h9, h10, h11, h12, h13⟩ := id hc
  subst hi
  refine va_iald (D := x.2.1) h1 h2 h8 h9 k 0 hat rfl (vp_in_nI hj hn) hd ?_
  rw [nI_clamp (by omega)]
  exact kk p e s m args below meth c H locs A la hc
theorem jw_bald {o n j : Nat} {i : Int32} (hd : decode mi.2.1 pc = .ok (.baload, 1)) (hs : js tb o = (21, n)) (hj : j < n) (hi : i = nI j) (hn : n < 2 ^ 31)
    (kk : JW x tb mi d Q (pc + 1) ls (.int (M.1 o j) :: st) M) : JW x tb mi d Q pc ls (.int i :: .ref (x.2.2.2 o) :: st) M := by
  intro p e s m args below meth c H locs A la hc
  obtain ⟨k, hk⟩ := j_at hs (by omega)
  have hat := jw_at (x := x) (M := M) hk
  rw [jent_i (by omega) (by omega)] at hat
  obtain ⟨h1, h2, h3, h4, h5, h6, h7, h8, h9, h10, h11, h12, h13⟩ := id hc
  subst hi
  refine va_bald (D := x.2.1) h1 h2 h8 h9 k 1 hat rfl (vp_in_nI hj hn) hd ?_
  rw [nI_clamp (by omega)]
  exact kk p e s m args below meth c H locs A la hc
theorem jw_zald {o n j : Nat} {i : Int32} (hd : decode mi.2.1 pc = .ok (.baload, 1)) (hs : js tb o = (22, n)) (hj : j < n) (hi : i = nI j) (hn : n < 2 ^ 31)
    (kk : JW x tb mi d Q (pc + 1) ls (.int (M.1 o j) :: st) M) : JW x tb mi d Q pc ls (.int i :: .ref (x.2.2.2 o) :: st) M := by
  intro p e s m args below meth c H locs A la hc
  obtain ⟨k, hk⟩ := j_at hs (by omega)
  have hat := jw_at (x := x) (M := M) hk
  rw [jent_i (by omega) (by omega)] at hat
  obtain ⟨h1, h2, h3, h4, h5, h6, h7, h8, h9, h10, h11, h12, h13⟩ := id hc
  subst hi
  refine va_zald (D := x.2.1) h1 h2 h8 h9 k 2 hat rfl (vp_in_nI hj hn) hd ?_
  rw [nI_clamp (by omega)]
  exact kk p e s m args below meth c H locs A la hc
theorem jw_lald {o n j : Nat} {i : Int32} (hd : decode mi.2.1 pc = .ok (.laload, 1)) (hs : js tb o = (23, n)) (hj : j < n) (hi : i = nI j) (hn : n < 2 ^ 31)
    (kk : JW x tb mi d Q (pc + 1) ls (.long (M.2 o j) :: st) M) : JW x tb mi d Q pc ls (.int i :: .ref (x.2.2.2 o) :: st) M := by
  intro p e s m args below meth c H locs A la hc
  obtain ⟨k, hk⟩ := j_at hs (by omega)
  have hat := jw_at (x := x) (M := M) hk
  rw [jent_l] at hat
  obtain ⟨h1, h2, h3, h4, h5, h6, h7, h8, h9, h10, h11, h12, h13⟩ := id hc
  subst hi
  refine va_lald (D := x.2.1) h1 h2 h8 h9 k 3 hat rfl (vp_in_nI hj hn) hd ?_
  rw [nI_clamp (by omega)]
  exact kk p e s m args below meth c H locs A la hc
theorem jw_aald24 {o n j r : Nat} {i : Int32} (hd : decode mi.2.1 pc = .ok (.aaload, 1)) (hs : js tb o = (24, n)) (hj : j < n) (hi : i = nI j) (hn : n < 2 ^ 31) (hr : jel 24 o j = r)
    (kk : JW x tb mi d Q (pc + 1) ls (.ref (x.2.2.2 r) :: st) M) : JW x tb mi d Q pc ls (.int i :: .ref (x.2.2.2 o) :: st) M := by
  intro p e s m args below meth c H locs A la hc
  obtain ⟨k, hk⟩ := j_at hs (by omega)
  have hat := jw_at (x := x) (M := M) hk
  rw [jent_r (by omega)] at hat
  obtain ⟨h1, h2, h3, h4, h5, h6, h7, h8, h9, h10, h11, h12, h13⟩ := id hc
  subst hi
  refine va_aldq (D := x.2.1) h1 h2 h8 h9 k 4 hat rfl (vp_in_nI hj hn) hd ?_
  rw [nI_clamp (by omega)]
  subst hr
  exact kk p e s m args below meth c H locs A la hc
theorem jw_aald25 {o n j r : Nat} {i : Int32} (hd : decode mi.2.1 pc = .ok (.aaload, 1)) (hs : js tb o = (25, n)) (hj : j < n) (hi : i = nI j) (hn : n < 2 ^ 31) (hr : jel 25 o j = r)
    (kk : JW x tb mi d Q (pc + 1) ls (.ref (x.2.2.2 r) :: st) M) : JW x tb mi d Q pc ls (.int i :: .ref (x.2.2.2 o) :: st) M := by
  intro p e s m args below meth c H locs A la hc
  obtain ⟨k, hk⟩ := j_at hs (by omega)
  have hat := jw_at (x := x) (M := M) hk
  rw [jent_r (by omega)] at hat
  obtain ⟨h1, h2, h3, h4, h5, h6, h7, h8, h9, h10, h11, h12, h13⟩ := id hc
  subst hi
  refine va_aldq (D := x.2.1) h1 h2 h8 h9 k 5 hat rfl (vp_in_nI hj hn) hd ?_
  rw [nI_clamp (by omega)]
  subst hr
  exact kk p e s m args below meth c H locs A la hc
theorem jw_iast {o n j : Nat} {i v : Int32} (hd : decode mi.2.1 pc = .ok (.iastore, 1)) (hs : js tb o = (20, n)) (hj : j < n) (hi : i = nI j) (hn : n < 2 ^ 31)
    (kk : JW x tb mi d Q (pc + 1) ls st (jrI M o (upd (M.1 o) j v))) : JW x tb mi d Q pc ls (.int v :: .int i :: .ref (x.2.2.2 o) :: st) M := by
  intro p e s m args below meth c H locs A la hc
  obtain ⟨k, hk⟩ := j_at hs (by omega)
  have hat := jw_at (x := x) (M := M) hk
  rw [jent_i (by omega) (by omega)] at hat
  obtain ⟨h1, h2, h3, h4, h5, h6, h7, h8, h9, h10, h11, h12, h13⟩ := id hc
  subst hi
  refine va_iast (D := x.2.1) h1 h2 h8 h9 h10 h11 k 0 hat rfl (vp_in_nI hj hn) hd (fun H1 locs1 hP hD hS => ?_)
  rw [nI_clamp (by omega)] at hP hD
  have hset := jw_set (M' := jrI M o (upd (M.1 o) j v)) h10 hk rfl jrow_o
  rw [jent_i (by omega) (by omega), jrI_s] at hset
  rw [hset] at hP hD
  exact kk p e s m args below meth c H1 locs1 A la ⟨h1, h2, h3, h4, h5, h6, h7, h8, hP, hD, hS, h12, h13⟩
theorem jw_bast {o n j : Nat} {i v : Int32} (hd : decode mi.2.1 pc = .ok (.bastore, 1)) (hs : js tb o = (21, n)) (hj : j < n) (hi : i = nI j) (hn : n < 2 ^ 31)
    (kk : JW x tb mi d Q (pc + 1) ls st (jrI M o (upd (M.1 o) j v.toInt8.toInt32))) : JW x tb mi d Q pc ls (.int v :: .int i :: .ref (x.2.2.2 o) :: st) M := by
  intro p e s m args below meth c H locs A la hc
  obtain ⟨k, hk⟩ := j_at hs (by omega)
  have hat := jw_at (x := x) (M := M) hk
  rw [jent_i (by omega) (by omega)] at hat
  obtain ⟨h1, h2, h3, h4, h5, h6, h7, h8, h9, h10, h11, h12, h13⟩ := id hc
  subst hi
  refine va_bast (D := x.2.1) h1 h2 h8 h9 h10 h11 k 1 hat rfl (vp_in_nI hj hn) hd (fun H1 locs1 hP hD hS => ?_)
  rw [nI_clamp (by omega), vp_nar_byte] at hP hD
  have hset := jw_set (M' := jrI M o (upd (M.1 o) j v.toInt8.toInt32)) h10 hk rfl jrow_o
  rw [jent_i (by omega) (by omega), jrI_s] at hset
  rw [hset] at hP hD
  exact kk p e s m args below meth c H1 locs1 A la ⟨h1, h2, h3, h4, h5, h6, h7, h8, hP, hD, hS, h12, h13⟩
theorem jw_zast {o n j : Nat} {i v : Int32} (hd : decode mi.2.1 pc = .ok (.bastore, 1)) (hs : js tb o = (22, n)) (hj : j < n) (hi : i = nI j) (hn : n < 2 ^ 31) (h01 : v = 0 ∨ v = 1)
    (kk : JW x tb mi d Q (pc + 1) ls st (jrI M o (upd (M.1 o) j v))) : JW x tb mi d Q pc ls (.int v :: .int i :: .ref (x.2.2.2 o) :: st) M := by
  intro p e s m args below meth c H locs A la hc
  obtain ⟨k, hk⟩ := j_at hs (by omega)
  have hat := jw_at (x := x) (M := M) hk
  rw [jent_i (by omega) (by omega)] at hat
  obtain ⟨h1, h2, h3, h4, h5, h6, h7, h8, h9, h10, h11, h12, h13⟩ := id hc
  subst hi
  refine va_zast (D := x.2.1) h1 h2 h8 h9 h10 h11 k 2 hat rfl (vp_in_nI hj hn) hd (fun H1 locs1 hP hD hS => ?_)
  rw [nI_clamp (by omega), show vp_nar .boolean v = v from by rcases h01 with rfl | rfl <;> rfl] at hP hD
  have hset := jw_set (M' := jrI M o (upd (M.1 o) j v)) h10 hk rfl jrow_o
  rw [jent_i (by omega) (by omega), jrI_s] at hset
  rw [hset] at hP hD
  exact kk p e s m args below meth c H1 locs1 A la ⟨h1, h2, h3, h4, h5, h6, h7, h8, hP, hD, hS, h12, h13⟩
theorem jw_last {o n j : Nat} {i : Int32} {v : Int64} (hd : decode mi.2.1 pc = .ok (.lastore, 1)) (hs : js tb o = (23, n)) (hj : j < n) (hi : i = nI j) (hn : n < 2 ^ 31)
    (kk : JW x tb mi d Q (pc + 1) ls st (jrL M o (vp_updL (M.2 o) j v))) : JW x tb mi d Q pc ls (.long v :: .int i :: .ref (x.2.2.2 o) :: st) M := by
  intro p e s m args below meth c H locs A la hc
  obtain ⟨k, hk⟩ := j_at hs (by omega)
  have hat := jw_at (x := x) (M := M) hk
  rw [jent_l] at hat
  obtain ⟨h1, h2, h3, h4, h5, h6, h7, h8, h9, h10, h11, h12, h13⟩ := id hc
  subst hi
  refine va_last (D := x.2.1) h1 h2 h8 h9 h10 h11 k 3 hat rfl (vp_in_nI hj hn) hd (fun H1 locs1 hP hD hS => ?_)
  rw [nI_clamp (by omega)] at hP hD
  have hset := jw_set (M' := jrL M o (vp_updL (M.2 o) j v)) h10 hk rfl jrowL_o
  rw [jent_l, jrL_s] at hset
  rw [hset] at hP hD
  exact kk p e s m args below meth c H1 locs1 A la ⟨h1, h2, h3, h4, h5, h6, h7, h8, hP, hD, hS, h12, h13⟩
theorem jw_alen {o n k : Nat} (hd : decode mi.2.1 pc = .ok (.arraylength, 1)) (hs : js tb o = (k, n)) (h20 : 20 ≤ k) (h24 : k < 24)
    (kk : JW x tb mi d Q (pc + 1) ls (.int (nI n) :: st) M) : JW x tb mi d Q pc ls (.ref (x.2.2.2 o) :: st) M := by
  intro p e s m args below meth c H locs A la hc
  obtain ⟨i, hi⟩ := j_at hs (by omega)
  have hat := jw_at (x := x) (M := M) hi
  obtain ⟨h1, h2, h3, h4, h5, h6, h7, h8, h9, h10, h11, h12, h13⟩ := id hc
  have hk : k = 20 ∨ k = 21 ∨ k = 22 ∨ k = 23 := by omega
  rcases hk with rfl | rfl | rfl | rfl
  · rw [jent_i (by omega) (by omega)] at hat
    exact va_alen (D := x.2.1) h1 h2 h8 h9 i 0 hat rfl rfl hd (kk p e s m args below meth c H locs A la hc)
  · rw [jent_i (by omega) (by omega)] at hat
    exact va_alen (D := x.2.1) h1 h2 h8 h9 i 1 hat rfl rfl hd (kk p e s m args below meth c H locs A la hc)
  · rw [jent_i (by omega) (by omega)] at hat
    exact va_alen (D := x.2.1) h1 h2 h8 h9 i 2 hat rfl rfl hd (kk p e s m args below meth c H locs A la hc)
  · rw [jent_l] at hat
    exact va_alen (D := x.2.1) h1 h2 h8 h9 i 3 hat rfl rfl hd (kk p e s m args below meth c H locs A la hc)
/-- fewer locals, in another order -/
theorem jw_sub {ls' : List (Nat × Value)} (ks : List Nat) (h : lv_pick ls ks = ls') (k : JW x tb mi d Q pc ls' st M) : JW x tb mi d Q pc ls st M := by
  intro p e s m args below meth c H locs A la hc
  obtain ⟨h1, h2, h3, h4, h5, h6, h7, h8, h9, h10, h11, h12, h13⟩ := hc
  exact k p e s m args below meth c H locs A la ⟨h1, h2, h3, h4, h5, h6, h7, h8, h9, h10, h11, h12, lv_sub h13 ks h⟩
theorem jw_lookup {dflt : Int} {ps : Array (Int × Int)} {len : Nat} {v : Int32} {off : Int} {tgt : Nat} (hd : decode mi.2.1 pc = .ok (.lookupswitch dflt ps, len)) (hp : (ps.toList.zip (ps.toList.drop 1)).all (fun (a, next) => a.1 < next.1) = true) (ho : Op.lookupswitch.offset ps.toList dflt v.toInt = off) (ht : (pc : Int) + off = (tgt : Int))
    (k : JW x tb mi d Q tgt ls st M) : JW x tb mi d Q pc ls (.int v :: st) M := by
  intro p e s m args below meth c H locs A la hc
  exact lv_lookup hc.1 hc.2.1 hd hp ho ht (k p e s m args below meth c H locs A la hc)
theorem jw_tableIn {dflt lo hi : Int} {offs : Array Int} {len : Nat} {v : Int32} {off : Int} {tgt : Nat} (hd : decode mi.2.1 pc = .ok (.tableswitch dflt lo hi offs, len)) (h1 : ¬ v.toInt < lo) (h2 : ¬ hi < v.toInt) (ho : offs[(v.toInt - lo).toNat]? = some off) (ht : (pc : Int) + off = (tgt : Int))
    (k : JW x tb mi d Q tgt ls st M) : JW x tb mi d Q pc ls (.int v :: st) M := by
  intro p e s m args below meth c H locs A la hc
  exact lv_tableIn hc.1 hc.2.1 hd h1 h2 ho ht (k p e s m args below meth c H locs A la hc)
theorem jw_tableOut {dflt lo hi : Int} {offs : Array Int} {len : Nat} {v : Int32} {tgt : Nat} (hd : decode mi.2.1 pc = .ok (.tableswitch dflt lo hi offs, len)) (h : v.toInt < lo ∨ hi < v.toInt) (ht : (pc : Int) + dflt = (tgt : Int))
    (k : JW x tb mi d Q tgt ls st M) : JW x tb mi d Q pc ls (.int v :: st) M := by
  intro p e s m args below meth c H locs A la hc
  exact lv_tableOut hc.1 hc.2.1 hd h ht (k p e s m args below meth c H locs A la hc)
end JM
