/-! no more than eleven needs are begun and not ended at one time; towns of the class -/
def anyR (p : Nat → Bool) (a : Nat) : Nat → Bool
  | 0 => false
  | n + 1 => p (a + n) || anyR p a n
theorem anyR_t {p : Nat → Bool} {a : Nat} : ∀ {n e : Nat}, a ≤ e → e < a + n → p e = true → anyR p a n = true
  | 0, e, h1, h2, _ => absurd h2 (by omega)
  | n + 1, e, h1, h2, h3 => by
    rw [anyR]
    by_cases q : e = a + n
    · rw [← q, h3]; rfl
    · rw [anyR_t h1 (by omega) h3, Bool.or_true]
def spB (w h d s c : Nat) : Bool := (anyR (fun e => qF w h d e == s) 0 c && anyR (fun e => qF w h d e == s) (c + 1) (w * h - (c + 1))) || ((qF w h d c == s) && (anyR (fun e => qF w h d e == s) 0 c || anyR (fun e => qF w h d e == s) (c + 1) (w * h - (c + 1))))
def spT (w h d : Nat) : Nat := if h ≤ 1 then (if d = 2 then 1 else 0) else if d = 0 then w else if d = 1 then w - 1 else if d = 2 then 1 else if h = 2 then w - 1 else w
theorem sp_tab : ∀ w, w < 6 → ∀ h, h < 6 → ∀ d, d < 4 → ∀ c, c < 25 → c < w * h → fb_ct (fun s => spB w h d s c) 9 ≤ spT w h d := by decide +kernel
theorem sp_sum : ∀ w, w < 6 → ∀ h, h < 6 → ∀ a b c e : Bool, (if a then qS w h 0 else 0) + (if b then qS w h 1 else 0) + (if c then qS w h 2 else 0) + (if e then qS w h 3 else 0) ≤ 16 → (if a then spT w h 0 else 0) + (if b then spT w h 1 else 0) + (if c then spT w h 2 else 0) + (if e then spT w h 3 else 0) ≤ 11 := by decide +kernel
theorem spB_of {w h d s c e1 e2 : Nat} (h1 : e1 < e2) (h2 : e2 < w * h) (c1 : e1 ≤ c) (c2 : c ≤ e2) (q1 : qF w h d e1 = s) (q2 : qF w h d e2 = s) : spB w h d s c = true := by
  have b1 : (qF w h d e1 == s) = true := by rw [q1]; exact beq_self_eq_true s
  have b2 : (qF w h d e2 == s) = true := by rw [q2]; exact beq_self_eq_true s
  unfold spB
  by_cases u : e1 = c
  · have A := anyR_t (p := fun e => qF w h d e == s) (a := c + 1) (n := w * h - (c + 1)) (e := e2) (by omega) (by omega) b2
    rw [A, ← u, b1]; simp
  · have B := anyR_t (p := fun e => qF w h d e == s) (a := 0) (n := c) (e := e1) (Nat.zero_le _) (by omega) b1
    by_cases v : e2 = c
    · rw [B, ← v, b2]; simp
    · have A := anyR_t (p := fun e => qF w h d e == s) (a := c + 1) (n := w * h - (c + 1)) (e := e2) (by omega) (by omega) b2
      rw [A, B]; rfl
section SPN
variable {pl : qP} {ask : Nat} {want : Nat → Nat → Nat} {cp : Nat → Nat}
noncomputable def dirB (pl : qP) (ask : Nat) (n d : Nat) : Bool := qB (∃ v, v < n ∧ ask.testBit v = true ∧ qSide pl v % 4 = d)
theorem qS_mod {w h side : Nat} : qS w h (side % 4) = qS w h side := by
  unfold qS
  have : side % 4 % 2 = side % 2 := by omega
  have : side % 4 % 4 = side % 4 := by omega
  rw [this]
  simp only [*]
theorem dir_sum (set : Nat) : ∀ n, (if dirB pl (set &&& qk pl) n 0 then qS (qw pl) (qh pl) 0 else 0) + (if dirB pl (set &&& qk pl) n 1 then qS (qw pl) (qh pl) 1 else 0) + (if dirB pl (set &&& qk pl) n 2 then qS (qw pl) (qh pl) 2 else 0) + (if dirB pl (set &&& qk pl) n 3 then qS (qw pl) (qh pl) 3 else 0) ≤ qSP pl set n
  | 0 => by
    have z : ∀ d, dirB pl (set &&& qk pl) 0 d = false := fun d => by
      cases e : dirB pl (set &&& qk pl) 0 d
      · rfl
      · obtain ⟨v, hv, _⟩ := qB_t.mp e
        exact absurd hv (Nat.not_lt_zero _)
    rw [z, z, z, z]; exact Nat.le_refl _
  | n + 1 => by
    have ih := dir_sum set n
    show _ ≤ qSP pl set n + (if (set &&& qk pl).testBit n then qSt pl n else 0)
    by_cases a : (set &&& qk pl).testBit n = true
    · rw [if_pos a]
      have st : qSt pl n = qS (qw pl) (qh pl) (qSide pl n % 4) := qS_mod.symm
      have same : ∀ d, d ≠ qSide pl n % 4 → dirB pl (set &&& qk pl) (n + 1) d = dirB pl (set &&& qk pl) n d := fun d hd => by
        refine qB_cong ⟨fun ⟨v, v1, v2, v3⟩ => ⟨v, ?_, v2, v3⟩, fun ⟨v, v1, v2, v3⟩ => ⟨v, by omega, v2, v3⟩⟩
        rcases Nat.lt_or_ge v n with u | u
        · exact u
        · obtain rfl : v = n := by omega
          exact absurd v3.symm hd
      have le : ∀ (b : Bool) k, (if b then k else 0) ≤ k := fun b k => by cases b <;> simp
      have d4 := Nat.mod_lt (qSide pl n) (show 0 < 4 by decide)
      rw [st]
      generalize qSide pl n % 4 = d at *
      have := le (dirB pl (set &&& qk pl) (n + 1) d) (qS (qw pl) (qh pl) d)
      rcases (show d = 0 ∨ d = 1 ∨ d = 2 ∨ d = 3 by omega) with rfl | rfl | rfl | rfl
      · rw [same 1 (by decide), same 2 (by decide), same 3 (by decide)]; omega
      · rw [same 0 (by decide), same 2 (by decide), same 3 (by decide)]; omega
      · rw [same 0 (by decide), same 1 (by decide), same 3 (by decide)]; omega
      · rw [same 0 (by decide), same 1 (by decide), same 2 (by decide)]; omega
    · rw [if_neg a, Nat.add_zero]
      have same : ∀ d, dirB pl (set &&& qk pl) (n + 1) d = dirB pl (set &&& qk pl) n d := fun d => by
        refine qB_cong ⟨fun ⟨v, v1, v2, v3⟩ => ⟨v, ?_, v2, v3⟩, fun ⟨v, v1, v2, v3⟩ => ⟨v, by omega, v2, v3⟩⟩
        rcases Nat.lt_or_ge v n with u | u
        · exact u
        · obtain rfl : v = n := by omega
          exact absurd v2 a
      rw [same, same, same, same]; exact ih
def loF (n : Nat) : Nat := qFst n.testBit 25
def hiF (n : Nat) : Nat := n.log2
theorem loF_lb {n : Nat} (h : n < 2 ^ 25) (h0 : ¬ n = 0) : qLb n (loF n) := by
  obtain ⟨t, ht⟩ := qLb_ex h0
  have t25 := bit_lt h ht.1
  have : loF n = t := qFst_at ht.2 ht.1 t25
  rw [this]; exact ht
theorem act_le (w : qWf pl) {set : Nat} (hsp : qSP pl set (qn pl) ≤ 16) (hle : ∀ v, v < qn pl → (set &&& qk pl).testBit v = true → ∀ c, c < qc pl → cp c ≤ want v (qFv pl v c)) (hz : qNz pl (set &&& qk pl) want cp) {c : Nat} (hc : c < qc pl) : fb_ct (fun k => decide (loF (lnd (gL pl (set &&& qk pl) want cp) k) ≤ c ∧ c ≤ hiF (lnd (gL pl (set &&& qk pl) want cp) k))) (gL pl (set &&& qk pl) want cp).length ≤ 11 := by
  have c25 := w.c25
  have sd := w.2.2.2.2.2.2.2.2.2.1
  have gi := gVl_I (pl := pl) (ask := set &&& qk pl) (want := want) (cp := cp) (qn pl)
  have pw : (gL pl (set &&& qk pl) want cp).Pairwise (fun p q => ¬ p.1 &&& q.1 = p.1 ∧ ¬ q.1 &&& p.1 = q.1) := gi.2.1.filter _
  rw [List.pairwise_iff_getElem] at pw
  have nz := gL_nz hz
  generalize hL : gL pl (set &&& qk pl) want cp = L at pw nz
  -- facts of each need
  have fact : ∀ k, k < L.length → ∃ p, L[k]? = some p ∧ lnd L k = p.1 ∧ p.1 < 2 ^ qc pl ∧ qLb p.1 (loF p.1) ∧ qHi p.1 (hiF p.1) ∧ loF p.1 < hiF p.1 ∧ ∃ v s, v < qn pl ∧ (set &&& qk pl).testBit v = true ∧ p.1 = qAb pl want cp v s (qc pl) ∧ p.2 = qSide pl v % 4 := fun k hk => by
    obtain ⟨p, p1, p2, p3⟩ := lnd_at hk
    have p0 := nz p p1
    rw [← hL] at p1
    obtain ⟨q1, q2⟩ := gL_mem.mp p1
    obtain ⟨v, s, ⟨v1, v2, v3⟩, v4, v5, _⟩ := gi.1 p q1
    have lt := gI_lt gi q1
    have l25 : p.1 < 2 ^ 25 := Nat.lt_of_lt_of_le lt (Nat.pow_le_pow_right (by decide) c25)
    have lb := loF_lb l25 p0
    have hb : qHi p.1 (hiF p.1) := ⟨Nat.log2_self_le p0, Nat.lt_log2_self⟩
    refine ⟨p, p2, p3, lt, lb, hb, ?_, v, s, v1, v2, v4, v5⟩
    have le := (qHi_bit hb).2 _ lb.1
    rcases Nat.lt_or_ge (loF p.1) (hiF p.1) with u | u
    · exact u
    · exfalso
      have e : loF p.1 = hiF p.1 := by omega
      have : p.1 = 2 ^ loF p.1 := bit_ext (fun j => by
        rw [Nat.testBit_two_pow, decide_eq_true_iff]
        constructor
        · intro hj
          have := (qHi_bit hb).2 j hj
          rcases Nat.lt_or_ge j (loF p.1) with t | t
          · have := lb.2 j t
            rw [hj] at this
            cases this
          · omega
        · intro hj; rw [← hj]; exact lb.1)
      rw [(gV_sing w q1).mpr ⟨_, this⟩] at q2
      cases q2
  have cell : ∀ p v s, p = qAb pl want cp v s (qc pl) → ∀ e, p.testBit e = true → e < qc pl ∧ qFv pl v e = s ∧ cp e = want v s := fun p v s hp e he => by
    rw [hp, qAb_bit, Bool.and_eq_true, decide_eq_true_iff, decide_eq_true_iff] at he
    exact he
  have hd4 : ∀ x : Nat, x % 4 < 4 := fun x => Nat.mod_lt _ (by decide)
  have S9 : ∀ d, qS (qw pl) (qh pl) d ≤ 9 := fun d => qS_le w.1 w.2.1
  let dr : Nat → Nat := fun k => (L.getD k (0, 0)).2
  have drE : ∀ k p, L[k]? = some p → dr k = p.2 := fun k p hp => by
    show (L.getD k (0, 0)).2 = p.2
    rw [List.getD_eq_getElem?_getD, hp]; rfl
  have := ct_inj (p := fun k => decide (loF (lnd L k) ≤ c ∧ c ≤ hiF (lnd L k))) (q := fun j => dirB pl (set &&& qk pl) (qn pl) (j / 9) && spB (qw pl) (qh pl) (j / 9) (j % 9) c) (f := fun k => dr k * 9 + qF (qw pl) (qh pl) (dr k) (loF (lnd L k))) (N := 36) (m := L.length) (fun k hk hp => ?_) (fun i j hij hj hpi hpj => ?_)
  · have split : fb_ct (fun j => dirB pl (set &&& qk pl) (qn pl) (j / 9) && spB (qw pl) (qh pl) (j / 9) (j % 9) c) 36 = fb_ct (fun j => dirB pl (set &&& qk pl) (qn pl) (j / 9) && spB (qw pl) (qh pl) (j / 9) (j % 9) c) 9 + (fb_ct (fun k => dirB pl (set &&& qk pl) (qn pl) ((9 + k) / 9) && spB (qw pl) (qh pl) ((9 + k) / 9) ((9 + k) % 9) c) 9 + (fb_ct (fun k => dirB pl (set &&& qk pl) (qn pl) ((9 + (9 + k)) / 9) && spB (qw pl) (qh pl) ((9 + (9 + k)) / 9) ((9 + (9 + k)) % 9) c) 9 + fb_ct (fun k => dirB pl (set &&& qk pl) (qn pl) ((9 + (9 + (9 + k))) / 9) && spB (qw pl) (qh pl) ((9 + (9 + (9 + k))) / 9) ((9 + (9 + (9 + k))) % 9) c) 9)) := by
      rw [show (36 : Nat) = 9 + (9 + (9 + 9)) from rfl, fb_ct_split, fb_ct_split, fb_ct_split]
    have part : ∀ d, d < 4 → ∀ p : Nat → Bool, (∀ k, k < 9 → p k = (dirB pl (set &&& qk pl) (qn pl) d && spB (qw pl) (qh pl) d k c)) → fb_ct p 9 ≤ if dirB pl (set &&& qk pl) (qn pl) d then spT (qw pl) (qh pl) d else 0 := fun d hd p hp => by
      cases e : dirB pl (set &&& qk pl) (qn pl) d
      · rw [if_neg (by decide)]
        have : fb_ct p 9 = 0 := fb_ct_zero.mpr (fun k hk => by rw [hp k hk, e]; rfl)
        omega
      · rw [if_pos rfl]
        rw [fb_ct_cong (q := fun s => spB (qw pl) (qh pl) d s c) (fun k hk => by rw [hp k hk, e]; rfl)]
        exact sp_tab (qw pl) (by have := w.1; omega) (qh pl) (by have := w.2.1; omega) d hd c (by omega) hc
    have p0 := part 0 (by decide) (fun j => dirB pl (set &&& qk pl) (qn pl) (j / 9) && spB (qw pl) (qh pl) (j / 9) (j % 9) c) (fun k hk => by rw [show k / 9 = 0 by omega, show k % 9 = k by omega])
    have p1 := part 1 (by decide) (fun k => dirB pl (set &&& qk pl) (qn pl) ((9 + k) / 9) && spB (qw pl) (qh pl) ((9 + k) / 9) ((9 + k) % 9) c) (fun k hk => by rw [show (9 + k) / 9 = 1 by omega, show (9 + k) % 9 = k by omega])
    have p2 := part 2 (by decide) (fun k => dirB pl (set &&& qk pl) (qn pl) ((9 + (9 + k)) / 9) && spB (qw pl) (qh pl) ((9 + (9 + k)) / 9) ((9 + (9 + k)) % 9) c) (fun k hk => by rw [show (9 + (9 + k)) / 9 = 2 by omega, show (9 + (9 + k)) % 9 = k by omega])
    have p3 := part 3 (by decide) (fun k => dirB pl (set &&& qk pl) (qn pl) ((9 + (9 + (9 + k))) / 9) && spB (qw pl) (qh pl) ((9 + (9 + (9 + k))) / 9) ((9 + (9 + (9 + k))) % 9) c) (fun k hk => by rw [show (9 + (9 + (9 + k))) / 9 = 3 by omega, show (9 + (9 + (9 + k))) % 9 = k by omega])
    have ds := Nat.le_trans (dir_sum (pl := pl) set (qn pl)) hsp
    have := sp_sum (qw pl) (by have := w.1; omega) (qh pl) (by have := w.2.1; omega) _ _ _ _ ds
    omega
  · obtain ⟨p, k1, k2, k3, k4, k5, k6, v, s, k7, k8, k9, k10⟩ := fact k hk
    have hp' := of_decide_eq_true hp
    rw [k2] at hp'
    have dk : dr k = qSide pl v % 4 := (drE k p k1).trans k10
    obtain ⟨c1, c2, c3⟩ := cell p.1 v s k9 _ k4.1
    obtain ⟨e1, e2, e3⟩ := cell p.1 v s k9 _ (qHi_bit k5).1
    have sm : qF (qw pl) (qh pl) (qSide pl v % 4) (hiF p.1) = qF (qw pl) (qh pl) (qSide pl v % 4) (loF p.1) := qF_same (sd v) (Nat.lt_trans (hd4 _) (by decide)) (by omega) e1 c1 (e2.trans c2.symm)
    have fl := qF_lt (w := qw pl) (h := qh pl) (side := qSide pl v % 4) (Nat.lt_trans (hd4 _) (by decide)) c1
    have f9 := S9 (qSide pl v % 4)
    have d4 := hd4 (qSide pl v)
    show dr k * 9 + qF (qw pl) (qh pl) (dr k) (loF (lnd L k)) < 36 ∧ (dirB pl (set &&& qk pl) (qn pl) ((dr k * 9 + qF (qw pl) (qh pl) (dr k) (loF (lnd L k))) / 9) && spB (qw pl) (qh pl) ((dr k * 9 + qF (qw pl) (qh pl) (dr k) (loF (lnd L k))) / 9) ((dr k * 9 + qF (qw pl) (qh pl) (dr k) (loF (lnd L k))) % 9) c) = true
    rw [dk, k2]
    refine ⟨by omega, ?_⟩
    rw [show (qSide pl v % 4 * 9 + qF (qw pl) (qh pl) (qSide pl v % 4) (loF p.1)) / 9 = qSide pl v % 4 by omega, show (qSide pl v % 4 * 9 + qF (qw pl) (qh pl) (qSide pl v % 4) (loF p.1)) % 9 = qF (qw pl) (qh pl) (qSide pl v % 4) (loF p.1) by omega, Bool.and_eq_true]
    exact ⟨qB_t.mpr ⟨v, k7, k8, rfl⟩, spB_of k6 e1 hp'.1 hp'.2 rfl sm⟩
  · obtain ⟨p, k1, k2, k3, k4, k5, k6, v, s, k7, k8, k9, k10⟩ := fact i (by omega)
    obtain ⟨p', l1, l2, l3, l4, l5, l6, v', s', l7, l8, l9, l10⟩ := fact j hj
    intro q
    have q' : dr i * 9 + qF (qw pl) (qh pl) (dr i) (loF (lnd L i)) = dr j * 9 + qF (qw pl) (qh pl) (dr j) (loF (lnd L j)) := q
    rw [(drE i p k1).trans k10, (drE j p' l1).trans l10, k2, l2] at q'
    obtain ⟨c1, c2, c3⟩ := cell p.1 v s k9 _ k4.1
    obtain ⟨e1, e2, e3⟩ := cell p'.1 v' s' l9 _ l4.1
    have f1 := qF_lt (w := qw pl) (h := qh pl) (side := qSide pl v % 4) (Nat.lt_trans (hd4 _) (by decide)) c1
    have f2 := qF_lt (w := qw pl) (h := qh pl) (side := qSide pl v' % 4) (Nat.lt_trans (hd4 _) (by decide)) e1
    have g1 := S9 (qSide pl v % 4)
    have g2 := S9 (qSide pl v' % 4)
    have ed : qSide pl v % 4 = qSide pl v' % 4 := by omega
    rw [ed] at q'
    have es : qF (qw pl) (qh pl) (qSide pl v' % 4) (loF p.1) = qF (qw pl) (qh pl) (qSide pl v' % 4) (loF p'.1) := by omega
    -- every cell of the one lies in the strip of the other
    have d8 : qSide pl v' % 4 < 8 := Nat.lt_trans (hd4 _) (by decide)
    have toV : ∀ e, p'.1.testBit e = true → e < qc pl ∧ qFv pl v e = s := fun e he => by
      obtain ⟨a1, a2, a3⟩ := cell p'.1 v' s' l9 e he
      have u1 : qF (qw pl) (qh pl) (qSide pl v' % 4) e = qF (qw pl) (qh pl) (qSide pl v' % 4) (loF p'.1) := qF_same (sd v') d8 (by omega) a1 e1 (a2.trans e2.symm)
      have u2 : qF (qw pl) (qh pl) (qSide pl v) e = qF (qw pl) (qh pl) (qSide pl v) (loF p.1) := qF_same d8 (sd v) (by omega) a1 c1 (u1.trans es.symm)
      exact ⟨a1, u2.trans c2⟩
    have toV' : ∀ e, p.1.testBit e = true → e < qc pl ∧ qFv pl v' e = s' := fun e he => by
      obtain ⟨a1, a2, a3⟩ := cell p.1 v s k9 e he
      have u1 : qF (qw pl) (qh pl) (qSide pl v' % 4) e = qF (qw pl) (qh pl) (qSide pl v' % 4) (loF p.1) := qF_same (sd v) d8 (by omega) a1 c1 (a2.trans c2.symm)
      have u2 : qF (qw pl) (qh pl) (qSide pl v') e = qF (qw pl) (qh pl) (qSide pl v') (loF p'.1) := qF_same d8 (sd v') (by omega) a1 e1 (u1.trans es)
      exact ⟨a1, u2.trans e2⟩
    have w1 : want v' s' ≤ want v s := by
      obtain ⟨a1, a2⟩ := toV _ l4.1
      have := hle v k7 k8 _ a1
      rw [a2] at this
      omega
    have w2 : want v s ≤ want v' s' := by
      obtain ⟨a1, a2⟩ := toV' _ k4.1
      have := hle v' l7 l8 _ a1
      rw [a2] at this
      omega
    have sub : p'.1 &&& p.1 = p'.1 := sub_bit.mpr (fun e he => by
      obtain ⟨a1, a2⟩ := toV e he
      obtain ⟨_, _, a3⟩ := cell p'.1 v' s' l9 e he
      rw [k9, qAb_bit, decide_eq_true a1, decide_eq_true ⟨a2, by omega⟩]; rfl)
    obtain ⟨il, ie⟩ := List.getElem?_eq_some_iff.mp k1
    obtain ⟨jl, je⟩ := List.getElem?_eq_some_iff.mp l1
    have := (pw i j il jl hij).2
    rw [ie, je] at this
    exact this sub
end SPN
noncomputable def pCt (pl : qP) (set : Nat) : Nat := tS (fun c => pCp pl set c - qLeast pl c) (qc pl) (fun R => qOkR pl (pAsk pl set) (qLine pl) (pCp pl set) R.testBit)
noncomputable def sTowns (z : qZ) (a : Int32) : qZ × Int32 := if qin a (2 ^ qn (zP z)) then (if qSP (zP z) a.toNatClampNeg (qn (zP z)) ≤ 16 then an z (nI (if pCan (zP z) a.toNatClampNeg then pCt (zP z) a.toNatClampNeg % 1000007 else 0)) else rf z 7) else rf z 2
section TOW
variable {x : jX} {d : Nat} {M : jM} {z : qZ}
theorem k_countTowns {P : jM → Int32 → Prop} {pl : qP} {set : Nat} (hp : cPl M 30 pl) (hs : cSi M pl (pAsk pl set) (qLine pl)) (hc : cCp M pl (pCp pl set)) (hcan : pCan pl set = true) (hsp : qSP pl set (qn pl) ≤ 16) (h : ∀ M', jsame (fun q => 53 ≤ q ∧ q ≤ 61) M M' → P M' (nI (pCt pl set % 1000007))) : JC x jtbC mX8_countTowns (d + 4) [.ref (x.2.2.2 49), .ref (x.2.2.2 30)] M (jI P) := by
  have w := hp.wf
  have c25 := w.c25
  obtain ⟨l1, nz⟩ := pCan_nz w hcan
  refine b_X8_countTowns (d := d + 3) (k_gather hp hs hc (fun M1 a1 a2 a3 a4 => ?_))
  refine jloop (fun i (M2 : jM) => JW x jtbC mX8_countTowns (d + 4) (jI P) 7 [(0, .ref (x.2.2.2 49)), (1, .ref (x.2.2.2 30)), (2, .int (nI i))] [] M2) (fun i M2 => M2.1 = M1.1 ∧ (∀ q, q ≠ 54 → M2.2 q = M1.2 q) ∧ ∀ c, c < i → M2.2 54 c = lN (pCp pl set c - qLeast pl c)) (qc pl) ?_ ?_ 0 M1 (Nat.zero_le _) ⟨rfl, fun _ _ => rfl, fun c hc => absurd hc (Nat.not_lt_zero _)⟩
  · rintro M2 ⟨g1, g2, g3⟩
    refine b_X8_countTowns_7 ?_
    rw [g1, (a1 30 (by omega)).1, hp.c]
    refine pk_le (qc pl) (qc pl) (fun _ => ?_) (fun c => absurd c (by omega))
    obtain ⟨r1, r2, r3⟩ := a4
    have nzL := gL_nz nz
    have each : ∀ k, k < (gL pl (pAsk pl set) (qLine pl) (pCp pl set)).length → ∃ p, p ∈ gL pl (pAsk pl set) (qLine pl) (pCp pl set) ∧ lnd (gL pl (pAsk pl set) (qLine pl) (pCp pl set)) k = p.1 ∧ p.1 < 2 ^ qc pl := fun k hk => by
      obtain ⟨p, p1, p2, p3⟩ := lnd_at hk
      exact ⟨p, p1, p3, gI_lt (gVl_I (qn pl)) (gL_mem.mp p1).1⟩
    have act : ∀ c, c < qc pl → fb_ct (fun k => decide (loF (lnd (gL pl (pAsk pl set) (qLine pl) (pCp pl set)) k) ≤ c ∧ c ≤ hiF (lnd (gL pl (pAsk pl set) (qLine pl) (pCp pl set)) k))) (gL pl (pAsk pl set) (qLine pl) (pCp pl set)).length ≤ 11 := fun c hc' => act_le (want := qLine pl) (cp := pCp pl set) w hsp (fun v hv ha c _ => qCap_ask ha hv) nz hc'
    refine k_countWays (d := d) (L := gL pl (pAsk pl set) (qLine pl) (pCp pl set)) (lo := fun k => loF (lnd (gL pl (pAsk pl set) (qLine pl) (pCp pl set)) k)) (hi := fun k => hiF (lnd (gL pl (pAsk pl set) (qLine pl) (pCp pl set)) k)) (fo := gF pl (pAsk pl set) (qLine pl) (pCp pl set)) (b := fun c => pCp pl set c - qLeast pl c) c25 ⟨by rw [g1]; exact r1, r2, fun k p hk => by rw [g1]; exact r3 k p hk⟩ (by rw [g1]; exact a3) (gF_lt w) (fun k hk => ?_) g3 (fun c hc' => by have := hc.2 c; show pCp pl set c - qLeast pl c ≤ 99; omega) act (fun M3 f1 => ?_)
    · obtain ⟨p, p1, p2, p3⟩ := each k hk
      have p0 := nzL p p1
      rw [p2]
      refine ⟨loF_lb (Nat.lt_of_lt_of_le p3 (Nat.pow_le_pow_right (by decide) c25)) p0, ⟨Nat.log2_self_le p0, Nat.lt_log2_self⟩, p3, ?_⟩
      rw [and0_bit]
      rintro c ⟨u, v⟩
      rw [gL_fo w p1 c u] at v
      cases v
    · have e : tS (fun c => pCp pl set c - qLeast pl c) (qc pl) (tVl (gL pl (pAsk pl set) (qLine pl) (pCp pl set)).length (lnd (gL pl (pAsk pl set) (qLine pl) (pCp pl set))) (fun k => hiF (lnd (gL pl (pAsk pl set) (qLine pl) (pCp pl set)) k)) (gF pl (pAsk pl set) (qLine pl) (pCp pl set)) (qc pl)) = pCt pl set := by
        refine tS_iff (fun R hR => ?_)
        rw [gV_ok w]
        constructor
        · rintro ⟨h1, h2⟩
          refine ⟨h1, fun c _ u => (by rw [Nat.zero_testBit] at u; cases u), fun p hp => ?_⟩
          obtain ⟨k, hk⟩ := List.getElem?_of_mem hp
          have kl := (List.getElem?_eq_some_iff.mp hk).1
          obtain ⟨p', q1, q2, q3⟩ := lnd_at kl
          rw [hk] at q2
          cases q2
          have lt := gI_lt (gVl_I (qn pl)) (gL_mem.mp hp).1
          have p0 := nzL p hp
          have hh : qHi p.1 (hiF p.1) := ⟨Nat.log2_self_le p0, Nat.lt_log2_self⟩
          have := h2 k kl (by show hiF (lnd (gL pl (pAsk pl set) (qLine pl) (pCp pl set)) k) < qc pl; rw [q3]; exact qHi_lt hh lt)
          rw [q3, hit_iff] at this
          obtain ⟨c, c1, c2⟩ := this
          exact ⟨c, bit_lt lt c1, c1, c2⟩
        · rintro ⟨h1, _, h3⟩
          refine ⟨h1, fun k hk _ => ?_⟩
          obtain ⟨p, p1, p2, p3⟩ := each k hk
          obtain ⟨c, c1, c2, c3⟩ := h3 p p1
          rw [p2, hit_iff]
          exact ⟨c, c2, c3⟩
      rw [e, lN_i]
      refine h M3 (fun q hq => ?_)
      have u1 := a1 q (by omega)
      have u2 := f1 q (by omega)
      exact ⟨by rw [u2.1, g1, u1.1], by rw [u2.2, g2 q (by omega), u1.2]⟩
  · rintro i M2 hi ⟨g1, g2, g3⟩ ih
    refine b_X8_countTowns_7 ?_
    rw [g1, (a1 30 (by omega)).1, hp.c]
    refine pk_le (qc pl) i (fun c => absurd c (by omega)) (fun _ => ⟨i, by omega, rfl, ?_⟩)
    intro M3 e3
    rw [nI_1]
    refine ih M3 ⟨by rw [e3]; exact g1, fun q hq => by rw [e3, jrL_n hq]; exact g2 q hq, fun c hc' => ?_⟩
    rw [e3, jrL_s]
    by_cases q : c = i
    · subst q
      have e32 : M.1 32 c = nI (qLeast pl c) := hp.least (by omega)
      have b1 := hc.2 c
      rw [pk_uLs, (a1 50 (by omega)).1, (a1 32 (by omega)).1, hc.1 c hi, e32, pk_sub (l1 c hi), nI_l (by omega)]
    · rw [pk_uLn q]; exact g3 c (by omega)
theorem o_towns {P : jM → Int32 → Prop} {a : Int32} (h : cI M z) (hP : ∀ M', cI M' (sTowns z a).1 → P M' (sTowns z a).2) : JC x jtbC mX11_towns (d + 5) [.ref (x.2.2.2 0), .int a] M (jI P) := by
  unfold sTowns at hP
  have w := h.pl.wf
  refine b_X11_towns (d := d + 4) (k_hasSet atC5_30 h.pl ⟨fun c => ?_, fun c => by rw [c] at hP; exact c_refused h hP⟩)
  rw [if_pos c] at hP
  obtain ⟨k, hk, rfl, e⟩ := qin_0 c (pow31 w)
  rw [e] at hP
  have sp := qSP_le w k (qn (zP z))
  have h6 := w.2.2.2.1
  refine k_stripsPromised atC5_30 h.pl (pk_le (qSP (zP z) k (qn (zP z))) 16 (fun le => ?_) (fun gt => ?_))
  · rw [if_pos le] at hP
    refine k_canKeep (set64 w hk) h (fun M1 h1 g3 g4 _ => ⟨fun q => ?_, fun q => ?_⟩)
    · rw [q] at hP; exact c_answered h1 hP
    · rw [if_pos q] at hP
      refine k_countTowns h1.pl g3 g4 q le (fun M2 f1 => ?_)
      exact c_answered (h1.scr (f1.mono (fun q hq => by unfold cScr; omega))) hP
  · rw [if_neg (by omega)] at hP; exact c_refused h hP
end TOW
