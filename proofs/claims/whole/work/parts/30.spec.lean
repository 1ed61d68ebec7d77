/-! the plain and its sights, as numbers -/
abbrev qP : Type := (Nat → Nat) × (Nat → Nat → Nat) × (Nat → Int64)
def qw (pl : qP) : Nat := pl.1 0
def qh (pl : qP) : Nat := pl.1 1
def qn (pl : qP) : Nat := pl.1 2
def qk (pl : qP) : Nat := pl.1 3
def qc (pl : qP) : Nat := qw pl * qh pl
def qMost (pl : qP) (c : Nat) : Nat := pl.2.1 0 c
def qLeast (pl : qP) (c : Nat) : Nat := pl.2.1 1 c
def qPrice (pl : qP) (c : Nat) : Nat := pl.2.1 2 c
def qSide (pl : qP) (v : Nat) : Nat := pl.2.1 3 v
def qLine (pl : qP) (v s : Nat) : Nat := pl.2.1 (4 + v) s
def qName (pl : qP) (v : Nat) : Int64 := pl.2.2 v
/-- how many strips, and which strip a cell is in -/
def qS (w h side : Nat) : Nat := if side % 2 = 1 then w + h - 1 else if side % 4 = 0 then w else h
def qF (w h side c : Nat) : Nat := match side with
  | 0 => w - 1 - c % w
  | 1 => (w - 1 - c % w) + (h - 1 - c / w)
  | 2 => h - 1 - c / w
  | 3 => (h - 1 - c / w) + c % w
  | 4 => c % w
  | 5 => c % w + c / w
  | 6 => c / w
  | _ => (w - 1 - c % w) + c / w
def qSt (pl : qP) (v : Nat) : Nat := qS (qw pl) (qh pl) (qSide pl v)
def qFv (pl : qP) (v c : Nat) : Nat := qF (qw pl) (qh pl) (qSide pl v) c
def qWf (pl : qP) : Prop := qw pl ≤ 5 ∧ qh pl ≤ 5 ∧ (qw pl = 0 ↔ qh pl = 0) ∧ qn pl ≤ 6 ∧ qk pl < 2 ^ qn pl ∧ (qw pl = 0 → qn pl = 0) ∧ (∀ c, qMost pl c ≤ 99) ∧ (∀ c, qLeast pl c ≤ 99) ∧ (∀ c, qPrice pl c ≤ 99) ∧ (∀ v, qSide pl v < 8) ∧ (∀ v s, qLine pl v s ≤ 99)
theorem qWf.c25 {pl : qP} (h : qWf pl) : qc pl ≤ 25 := Nat.mul_le_mul h.1 h.2.1
/-- the greatest of the cells of a strip, among the first n -/
def qG (w h side s : Nat) (f : Nat → Nat) : Nat → Nat
  | 0 => 0
  | c + 1 => if qF w h side c = s then max (qG w h side s f c) (f c) else qG w h side s f c
def qStone (pl : qP) (f : Nat → Nat) : Nat → Nat
  | 0 => 0
  | c + 1 => qStone pl f c + (f c - qLeast pl c) * qPrice pl c
theorem qStone_le {pl : qP} (w : qWf pl) {f : Nat → Nat} (hf : ∀ c, f c ≤ 99) : ∀ n, qStone pl f n ≤ n * 9801
  | 0 => Nat.zero_le _
  | n + 1 => by
    have h1 := qStone_le w hf n
    have h2 : (f n - qLeast pl n) * qPrice pl n ≤ 99 * 99 := Nat.mul_le_mul (Nat.le_trans (Nat.sub_le _ _) (hf n)) (w.2.2.2.2.2.2.2.2.1 n)
    show qStone pl f n + _ ≤ (n + 1) * 9801
    omega
theorem qG_le {w h side s : Nat} {f : Nat → Nat} {B : Nat} (hf : ∀ c, f c ≤ B) : ∀ n, qG w h side s f n ≤ B
  | 0 => Nat.zero_le _
  | n + 1 => by
    have h1 := qG_le (w := w) (h := h) (side := side) (s := s) hf n
    have h2 := hf n
    show (if qF w h side n = s then max (qG w h side s f n) (f n) else qG w h side s f n) ≤ B
    split <;> omega
/-- a loop that counts up -/
theorem jloop {α : Type} (G : Nat → α → Prop) (I : Nat → α → Prop) (N : Nat) (hx : ∀ s, I N s → G N s) (hs : ∀ i s, i < N → I i s → (∀ s', I (i + 1) s' → G (i + 1) s') → G i s) : ∀ i s, i ≤ N → I i s → G i s := by
  suffices h : ∀ k i s, i + k = N → I i s → G i s from fun i s hi h0 => h (N - i) i s (by omega) h0
  intro k
  induction k with
  | zero => intro i s hi h0; obtain rfl : i = N := by omega
            exact hx s h0
  | succ k ih => intro i s hi h0; exact hs i s (by omega) h0 (fun s' h' => ih (i + 1) s' (by omega) h')
/-- rows but for some stay -/
def jsame (S : Nat → Prop) (M M' : jM) : Prop := ∀ q, ¬ S q → M'.1 q = M.1 q ∧ M'.2 q = M.2 q
theorem jsame.rf {S : Nat → Prop} {M : jM} : jsame S M M := fun _ _ => ⟨rfl, rfl⟩
theorem jsame.tr {S : Nat → Prop} {M M' M'' : jM} (h : jsame S M M') (h2 : jsame S M' M'') : jsame S M M'' := fun q hq => ⟨(h2 q hq).1.trans (h q hq).1, (h2 q hq).2.trans (h q hq).2⟩
theorem jsame.mono {S S' : Nat → Prop} {M M' : jM} (h : jsame S M M') (hs : ∀ q, S q → S' q) : jsame S' M M' := fun q hq => h q (fun z => hq (hs q z))
theorem jsame.I {S : Nat → Prop} {M : jM} {p : Nat} {f : Nat → Int32} (h : S p) : jsame S M (jrI M p f) := fun q hq => ⟨jrI_n (fun e => hq (e ▸ h)), rfl⟩
theorem jsame.L {S : Nat → Prop} {M : jM} {p : Nat} {f : Nat → Int64} (h : S p) : jsame S M (jrL M p f) := fun q hq => ⟨rfl, jrL_n (fun e => hq (e ▸ h))⟩
/-- Math's own -/
theorem k_max {x : jX} {tb : jT} {d : Nat} {M : jM} {P : jM → Int32 → Prop} {a b : Int32} (h : P M (if a < b then b else a)) : JC x tb mJ9_max_7cf53 d [.int a, .int b] M (jI P) := by
  refine b_J9_max_7cf53 ⟨fun c => ?_, fun c => ?_⟩
  · rw [if_pos c] at h
    exact h
  · rw [if_neg c] at h
    exact h
