/-! plain, on the model's side: part by part -/
def mPst (M : jM) (f : Nat → Int32) (n t : Nat) (st : qPS) : Prop := mRt M f n t ∧ M.1 0 12 = 0 ∧ mNw M st.1 ∧ M.1 0 19 = nI st.2.1 ∧ M.1 0 20 = nI st.2.2.1 ∧ M.1 0 21 = nI st.2.2.2 ∧ pWf st
def ini (k : Nat) : Int32 := if 3 ≤ k ∧ k ≤ 27 then 99 else if 53 ≤ k ∧ k ≤ 77 then 1 else 0
theorem ini_mid {k : Nat} (h1 : 3 ≤ k) (h2 : k ≤ 27) : ini k = nI 99 := if_pos ⟨h1, h2⟩
theorem ini_pr {k : Nat} (h1 : 53 ≤ k) (h2 : k ≤ 77) : ini k = nI 1 := by unfold ini; rw [if_neg (by omega), if_pos ⟨h1, h2⟩]; rfl
theorem ini_0 {k : Nat} (h1 : ¬ (3 ≤ k ∧ k ≤ 27)) (h2 : ¬ (53 ≤ k ∧ k ≤ 77)) : ini k = nI 0 := by unfold ini; rw [if_neg h1, if_neg h2]; rfl
section NP2
variable {x : jX} {d : Nat} {f : Nat → Int32} {n : Nat} {z : qZ}
theorem m_plParts {P : jM → Int32 → Prop} {M0 : jM} {R : qE qP} (hB : ∀ e, R = .inl e → ∀ M', mSame M0 M' → mBd M' e → JW x jtbM mX12_plain (d + 5) (jI P) 147 [(0, .ref (x.2.2.2 0))] [] M')
    (hG : ∀ pl, R = .inr pl → ∀ M', mSame M0 M' → M'.1 0 12 = 0 → mNw M' pl → JC x jtbM mX12_isWell (d + 4) [.ref (x.2.2.2 0)] M' (jZ fun M2 b2 => (b2 = true → JW x jtbM mX12_plain (d + 5) (jI P) 287 [(0, .ref (x.2.2.2 0)), (2, .int (0 : Int32))] [] M2) ∧ (b2 = false → P M2 (-1)))) :
    ∀ k t st M, n ≤ t + k → mSame M0 M → mPst M f n t st → pLoop f n k t st = R → JW x jtbM mX12_plain (d + 5) (jI P) 147 [(0, .ref (x.2.2.2 0))] [] M := by
  intro k
  induction k with
  | zero =>
    intro t st M hn s ⟨r, ok, hp, s19, s20, s21, wf⟩ hr
    have e0 : M.1 0 14 = (0 : Int32) ↔ yK f n t = 0 := (r.2.1.kind (k := 0) (by omega)).trans mkK_0
    refine b_X12_plain_147 (d := d + 4) ⟨fun u => absurd ok u, fun _ => ?_⟩
    rw [e0]
    exact ⟨fun _ => hG st.1 hr.symm M s ok hp, fun u => absurd (yK_end (by omega)) u⟩
  | succ k ih =>
    intro t st M hn s ⟨r, ok, hp, s19, s20, s21, wf⟩ hr
    have e0 : M.1 0 14 = (0 : Int32) ↔ yK f n t = 0 := (r.2.1.kind (k := 0) (by omega)).trans mkK_0
    refine b_X12_plain_147 (d := d + 4) ⟨fun u => absurd ok u, fun _ => ?_⟩
    rw [e0]
    rw [pLoop] at hr
    refine ⟨fun k0 => ?_, fun k0 => ?_⟩
    · rw [if_pos k0] at hr
      exact hG st.1 hr.symm M s ok hp
    · rw [if_neg k0] at hr
      have fin : ∀ M', mSame M0 M' → rEnd M' f n (pPart f n t st) (fun st' => mNw M' st'.1 ∧ M'.1 0 19 = nI st'.2.1 ∧ M'.1 0 20 = nI st'.2.2.1 ∧ M'.1 0 21 = nI st'.2.2.2) → JC x jtbM mX12_isSign (d + 4) [.ref (x.2.2.2 0), .int (59 : Int32)] M' (jZ fun M1 b => JC x jtbM mX12_must (d + 4) [.ref (x.2.2.2 0), .int (jb b)] M1 (jV fun M2 => JW x jtbM mX12_plain (d + 5) (jI P) 147 [(0, .ref (x.2.2.2 0))] [] M2)) := fun M' s' E => by
        refine m_semi E (fun p hp' Q M2 k2 r2 ok2 => ?_) (fun e he M2 s2 b2 => ?_)
        · obtain ⟨q1, q2, q3, q4⟩ := Q
          obtain ⟨o1, o2, o3⟩ := pPart_ok wf k0 r.2.2 (show pPart f n t st = .inr (p.1, p.2) from hp')
          rw [hp'] at hr
          dsimp only at hr
          exact ih p.1 p.2 M2 (by omega) (s'.tr k2.same) ⟨r2, ok2, q1.keep k2.r5 (k2.1 6 (by omega)).2, by rw [k2.2.1 19 (by omega)]; exact q2, by rw [k2.2.1 20 (by omega)]; exact q3, by rw [k2.2.1 21 (by omega)]; exact q4, o3⟩ hr
        · rw [he] at hr
          exact hB e hr.symm M2 (s'.tr s2) b2
      obtain ⟨w1, w2, w3, w4, w5, w6⟩ := id wf
      unfold pPart at fin
      refine m_isMost r ⟨fun n1 => m_isLeast r ⟨fun n2 => m_isPrice r ⟨fun n3 => m_isVillageWord r ⟨fun n4 => ?_, fun y4 => ?_⟩, fun y3 => ?_⟩, fun y2 => ?_⟩, fun y1 => ?_⟩
      · rw [if_neg (of_decide_eq_false n1), if_neg (of_decide_eq_false n2), if_neg (of_decide_eq_false n3), if_neg (of_decide_eq_false n4)] at fin
        exact m_wrong ok r.2.1 (fun M' b => fin M' (s.tr b.1) (Or.inl b.2))
      · have y := of_decide_eq_true y4
        rw [if_neg (of_decide_eq_false n1), if_neg (of_decide_eq_false n2), if_neg (of_decide_eq_false n3), if_pos y] at fin
        refine m_readVillage ok r (yI_word (by omega)).1 hp w2 w3 (fun M' s' E => fin M' (s.tr s') (rEnd_map (E.mono ?_)))
        rintro p hp' ⟨q1, q2⟩
        exact ⟨q1, by rw [q2 19 (by omega) (by omega)]; exact s19, by rw [q2 20 (by omega) (by omega)]; exact s20, by rw [q2 21 (by omega) (by omega)]; exact s21⟩
      · have y := of_decide_eq_true y3
        rw [if_neg (of_decide_eq_false n1), if_neg (of_decide_eq_false n2), if_pos y] at fin
        rw [s21]
        refine m_readCells (r := 2) (lo := 1) (by omega) (by omega) w6 ok r (yI_word (by omega)).1 hp w2 (fun M' v s' E => ?_)
        intro M2 e2
        refine fin M2 (by rw [e2]; exact (s.tr s').tr (mSame.slot (by unfold mScI; omega))) (rEnd_map (E.cong (fun t h => by rw [e2]; exact h.slot (by omega) (by omega)) (by rw [e2, jrI_s, pk_un (by omega)]) (by rw [e2, jrI_s, pk_un (by omega)]) ?_))
        rintro p hp' ⟨q1, q2, q3⟩
        refine ⟨q1.keep (by rw [e2, jrI_n (by omega)]) (by rw [e2]; rfl), ?_, ?_, ?_⟩
        · rw [e2, jrI_s, pk_un (by omega), q2.2.2 19 (by omega) (by omega)]; exact s19
        · rw [e2, jrI_s, pk_un (by omega), q2.2.2 20 (by omega) (by omega)]; exact s20
        · rw [e2, jrI_s, pk_us]; exact q3
      · have y := of_decide_eq_true y2
        rw [if_neg (of_decide_eq_false n1), if_pos y] at fin
        rw [s20]
        refine m_readCells (r := 1) (lo := 0) (by omega) (by omega) w5 ok r (yI_word (by omega)).1 hp w2 (fun M' v s' E => ?_)
        intro M2 e2
        refine fin M2 (by rw [e2]; exact (s.tr s').tr (mSame.slot (by unfold mScI; omega))) (rEnd_map (E.cong (fun t h => by rw [e2]; exact h.slot (by omega) (by omega)) (by rw [e2, jrI_s, pk_un (by omega)]) (by rw [e2, jrI_s, pk_un (by omega)]) ?_))
        rintro p hp' ⟨q1, q2, q3⟩
        refine ⟨q1.keep (by rw [e2, jrI_n (by omega)]) (by rw [e2]; rfl), ?_, ?_, ?_⟩
        · rw [e2, jrI_s, pk_un (by omega), q2.2.2 19 (by omega) (by omega)]; exact s19
        · rw [e2, jrI_s, pk_us]; exact q3
        · rw [e2, jrI_s, pk_un (by omega), q2.2.2 21 (by omega) (by omega)]; exact s21
      · have y := of_decide_eq_true y1
        rw [if_pos y] at fin
        rw [s19]
        refine m_readCells (r := 0) (lo := 0) (by omega) (by omega) w4 ok r (yI_word (by omega)).1 hp w2 (fun M' v s' E => ?_)
        intro M2 e2
        refine fin M2 (by rw [e2]; exact (s.tr s').tr (mSame.slot (by unfold mScI; omega))) (rEnd_map (E.cong (fun t h => by rw [e2]; exact h.slot (by omega) (by omega)) (by rw [e2, jrI_s, pk_un (by omega)]) (by rw [e2, jrI_s, pk_un (by omega)]) ?_))
        rintro p hp' ⟨q1, q2, q3⟩
        refine ⟨q1.keep (by rw [e2, jrI_n (by omega)]) (by rw [e2]; rfl), ?_, ?_, ?_⟩
        · rw [e2, jrI_s, pk_us]; exact q3
        · rw [e2, jrI_s, pk_un (by omega), q2.2.2 20 (by omega) (by omega)]; exact s20
        · rw [e2, jrI_s, pk_un (by omega), q2.2.2 21 (by omega) (by omega)]; exact s21
theorem m_readPlain {P : jM → Int32 → Prop} {M0 M : jM} (s : mSame M0 M) (r : mRt M f n 0) (ok : M.1 0 12 = 0) (i0 : ∀ k, k < 412 → M.1 5 (1648 + k) = ini k) (hB : ∀ e, qPlain f n = .inl e → ∀ M', mSame M0 M' → mBd M' e → JW x jtbM mX12_plain (d + 5) (jI P) 147 [(0, .ref (x.2.2.2 0))] [] M')
    (hG : ∀ pl, qPlain f n = .inr pl → ∀ M', mSame M0 M' → M'.1 0 12 = 0 → mNw M' pl → JC x jtbM mX12_isWell (d + 4) [.ref (x.2.2.2 0)] M' (jZ fun M2 b2 => (b2 = true → JW x jtbM mX12_plain (d + 5) (jI P) 287 [(0, .ref (x.2.2.2 0)), (2, .int (0 : Int32))] [] M2) ∧ (b2 = false → P M2 (-1)))) :
    JW x jtbM mX12_plain (d + 5) (jI P) 25 [(0, .ref (x.2.2.2 0)), (2, .int (nI 412))] [] M := by
  refine b_X12_plain_25 (d := d + 4) (pk_le 412 412 (fun _ => ?_) (fun u => absurd u (by omega)))
  intro M1 e1 M2 e2 M3 e3
  have s3 : mSame M0 M3 := by rw [e3, e2, e1]; exact ((s.tr (mSame.slot (by unfold mScI; omega))).tr (mSame.slot (by unfold mScI; omega))).tr (mSame.slot (by unfold mScI; omega))
  have r3 : mRt M3 f n 0 := by rw [e3, e2, e1]; exact ((r.slot (by omega) (by omega)).slot (by omega) (by omega)).slot (by omega) (by omega)
  have ok3 : M3.1 0 12 = 0 := by rw [e3, jrI_s, pk_un (by omega), e2, jrI_s, pk_un (by omega), e1, jrI_s, pk_un (by omega)]; exact ok
  have a3 : M3.1 0 19 = 0 := by rw [e3, jrI_s, pk_un (by omega), e2, jrI_s, pk_un (by omega), e1, jrI_s, pk_us]
  have b3 : M3.1 0 20 = 0 := by rw [e3, jrI_s, pk_un (by omega), e2, jrI_s, pk_us]
  have c3 : M3.1 0 21 = 0 := by rw [e3, jrI_s, pk_us]
  have q3 : M3.1 5 = M.1 5 := by rw [e3, jrI_n (by omega), e2, jrI_n (by omega), e1, jrI_n (by omega)]
  unfold qPlain at hB hG
  -- behind a fault
  have bad9 : ∀ e M9, (∀ M', mSame M0 M' → mBd M' e → JW x jtbM mX12_plain (d + 5) (jI P) 147 [(0, .ref (x.2.2.2 0))] [] M') → mSame M0 M9 → mBd M9 e → JC x jtbM mX12_isSign (d + 4) [.ref (x.2.2.2 0), .int (59 : Int32)] M9 (jZ fun M1 b => JC x jtbM mX12_must (d + 4) [.ref (x.2.2.2 0), .int (jb b)] M1 (jV fun M2 => JW x jtbM mX12_plain (d + 5) (jI P) 147 [(0, .ref (x.2.2.2 0))] [] M2)) := fun e M9 hb s9 b9 => m_isSignA (fun _ => m_mustB b9 (hb M9 s9 b9))
  have put : ∀ (M9 : jM) (j : Nat) (v : Int32) (e : Int32 × Int32), mBd M9 e → mBd (jrI M9 5 (upd (M9.1 5) j v)) e := fun M9 j v e b => ⟨b.1, by rw [jrI_n (by omega)]; exact b.2.1, by rw [jrI_n (by omega)]; exact b.2.2⟩
  refine m_isSize r3 (m_must ok3 r3 (fun y M5 k5 r5 => ?_) (fun y M5 g5 => ?_))
  · rw [if_pos (of_decide_eq_true y)] at hB hG
    refine m_count (lo := 1) (hi := 5) (by omega) (by omega) (k5.ok ok3) r5 (fun a6 w e6 M6 k6 r6 => ?_) (fun e e6 M6 g6 => ?_)
    · rw [e6] at hB hG
      dsimp only at hB hG
      intro M7 e7
      have r7 : mRt M7 f n a6 := by rw [e7]; exact r6.put
      have s7 : mSame M0 M7 := by rw [e7]; exact ((s3.tr k5.same).tr k6.same).tr (mYq.put (by omega)).1
      have ok7 : M7.1 0 12 = 0 := by rw [e7, jrI_n (by omega)]; exact k6.ok (k5.ok ok3)
      obtain ⟨lw, hw⟩ : 1 ≤ w ∧ w ≤ 5 := by
        unfold tkN at e6
        split at e6
        · split at e6
          · rename_i u
            cases e6; exact u
          · cases e6
        · cases e6
      refine m_count (lo := 1) (hi := 5) (by omega) (by omega) ok7 r7 (fun a8 hh e8 M8 k8 r8 => ?_) (fun e e8 M8 g8 => ?_)
      · rw [e8] at hB hG
        dsimp only at hB hG
        intro M9 e9
        have r9 : mRt M9 f n a8 := by rw [e9]; exact r8.put
        have s9 : mSame M0 M9 := by rw [e9]; exact (s7.tr k8.same).tr (mYq.put (by omega)).1
        have ok9 : M9.1 0 12 = 0 := by rw [e9, jrI_n (by omega)]; exact k8.ok ok7
        obtain ⟨lh, lh5⟩ : 1 ≤ hh ∧ hh ≤ 5 := by
          unfold tkN at e8
          split at e8
          · split at e8
            · rename_i u
              cases e8; exact u
            · cases e8
          · cases e8
        have q9 : ∀ k, k ≠ 0 → k ≠ 1 → k < 412 → M9.1 5 (1648 + k) = ini k := fun k k0 k1 k2 => by rw [e9, jrI_s, pk_un (by omega), k8.r5, e7, jrI_s, pk_un (by omega), k6.r5, k5.r5, q3]; exact i0 k k2
        have l9 : ∀ k, 19 ≤ k → k ≤ 21 → M9.1 0 k = M3.1 0 k := fun k k1 k2 => by rw [e9, jrI_n (by omega), k8.2.1 k (by omega), e7, jrI_n (by omega), k6.2.1 k (by omega), k5.2.1 k (by omega)]
        have nw9 : mNw M9 (qP0 w hh) := by
          refine ⟨⟨?_, ?_, ?_, fun k hk => ?_, fun k hk => ?_, fun k hk => ?_, fun v hv => absurd hv (Nat.not_lt_zero _), fun v hv => absurd hv (Nat.not_lt_zero _), fun v s hv => absurd hv (Nat.not_lt_zero _), qP0_wf hw lh5 lw lh⟩, fun v hv => absurd hv (Nat.not_lt_zero _), ?_⟩
          · show M9.1 5 1648 = nI w
            rw [e9, jrI_s, pk_un (by omega), k8.r5, e7, jrI_s, pk_us]
          · show M9.1 5 1649 = nI hh
            rw [e9, jrI_s, pk_us]
          · show M9.1 5 (1648 + 2) = nI 0
            rw [q9 2 (by omega) (by omega) (by omega)]; exact ini_0 (by omega) (by omega)
          · show M9.1 5 (1648 + (3 + k)) = nI 99
            rw [q9 _ (by omega) (by omega) (by omega)]; exact ini_mid (by omega) (by omega)
          · show M9.1 5 (1648 + (28 + k)) = nI 0
            rw [q9 _ (by omega) (by omega) (by omega)]; exact ini_0 (by omega) (by omega)
          · show M9.1 5 (1648 + (53 + k)) = nI 1
            rw [q9 _ (by omega) (by omega) (by omega)]; exact ini_pr (by omega) (by omega)
          · show M9.1 5 (1648 + 169) = nI 0
            rw [q9 _ (by omega) (by omega) (by omega)]; exact ini_0 (by omega) (by omega)
        refine m_isSign r9.2.1 (m_must ok9 r9 (fun ys M11 k11 r11 => ?_) (fun ns M11 g11 => ?_))
        · rw [if_pos (of_decide_eq_true ys)] at hB hG
          refine m_plParts hB hG n (yX f n a8) (qP0 w hh, 0, 0, 0) M11 (by omega) (s9.tr k11.same) ⟨r11, k11.ok ok9, nw9.keep k11.r5 (k11.1 6 (by omega)).2, ?_, ?_, ?_, qP0_wf hw lh5 lw lh, lw, lh, Nat.zero_le _, Nat.zero_le _, Nat.zero_le _⟩ rfl
          · rw [k11.2.1 19 (by omega), l9 19 (by omega) (by omega)]; exact a3
          · rw [k11.2.1 20 (by omega), l9 20 (by omega) (by omega)]; exact b3
          · rw [k11.2.1 21 (by omega), l9 21 (by omega) (by omega)]; exact c3
        · rw [if_neg (of_decide_eq_false ns)] at hB
          exact hB _ rfl M11 (s9.tr g11.1) g11.2
      · rw [e8] at hB
        intro M9 e9
        refine bad9 e M9 (hB e rfl) (by rw [e9]; exact (s7.tr g8.1).tr (mYq.put (by omega)).1) ?_
        rw [e9]; exact put _ _ _ _ g8.2
    · rw [e6] at hB
      intro M7 e7
      have b7 : mBd M7 e := by rw [e7]; exact put _ _ _ _ g6.2
      refine m_countB b7 ?_
      intro M9 e9
      refine bad9 e M9 (hB e rfl) (by rw [e9, e7]; exact (((s3.tr k5.same).tr g6.1).tr (mYq.put (by omega)).1).tr (mYq.put (by omega)).1) ?_
      rw [e9]; exact put _ _ _ _ b7
  · rw [if_neg (of_decide_eq_false y)] at hB
    refine m_countB g5.2 ?_
    intro M7 e7
    have b7 : mBd M7 (yF f n 0 2) := by rw [e7]; exact put _ _ _ _ g5.2
    refine m_countB b7 ?_
    intro M9 e9
    refine bad9 _ M9 (hB _ rfl) (by rw [e9, e7]; exact ((s3.tr g5.1).tr (mYq.put (by omega)).1).tr (mYq.put (by omega)).1) ?_
    rw [e9]; exact put _ _ _ _ b7
theorem n_plain {M : jM} {P : jM → Int32 → Prop} {a : Int32} (h : mI M z) (hP : ∀ M', mI M' (sPlain z a).1 → P M' (sPlain z a).2) : JC x jtbM mX12_plain (d + 5) [.ref (x.2.2.2 0), .int a] M (jI P) := by
  obtain ⟨t9, trng, -⟩ := id h.ok
  unfold sPlain at hP
  have z0 : (0 : Int32).toInt = 0 := by decide
  have z9 : (900 : Int32).toInt = 900 := by decide
  refine b_X12_plain (d := d + 4) ?_
  intro M1 e1 M2 e2
  have h2 : mI M2 (uSt z 0) := by rw [e2, e1]; exact (h.th 0).st 0
  have e8 : M2.1 0 8 = nI (zTp z).1 := h2.2.2.2.2.1
  refine b_X12_opens (d := d + 3) ?_
  rw [e8, Int32.lt_iff_toInt_lt, Int32.lt_iff_toInt_lt, Int32.le_iff_toInt_le, z0, nI_toInt (by omega), z9]
  refine ⟨fun c => ?_, fun c => ⟨fun c2 => ?_, fun c2 => ⟨fun _ => ?_, fun c3 => absurd (by omega) c3⟩⟩⟩
  · rw [decide_eq_false (by omega)] at hP; exact m_no h2 (fun M' h' => ⟨fun u => (by cases u), fun _ => hP M' h'⟩)
  · rw [decide_eq_false (by omega)] at hP; exact m_no h2 (fun M' h' => ⟨fun u => (by cases u), fun _ => hP M' h'⟩)
  · rw [decide_eq_true ⟨by omega, by omega⟩, if_pos rfl] at hP
    obtain ⟨n, nl, rfl⟩ : ∃ n, n ≤ (zTp z).1 ∧ a = nI n := ⟨a.toInt.toNat, by omega, Int32.toInt_inj.mp (by rw [nI_toInt (by omega)]; omega)⟩
    rw [nI_clamp (by omega)] at hP
    intro M3 e3 M4 e4 M5 e5 M6 e6
    have h3 : mI M3 (uSt z 0) := by rw [e3]; exact h2.keep (mSame.slot (by unfold mScI; omega))
    have h4 : mI M4 (uTp (uSt z 0) (0, (zTp z).2)) := h3.setTp (n := 0) (f := (zTp z).2) (by rw [e4]; exact jsame.I (Or.inl rfl)) (by rw [e4]; rfl) (fun k hk => by rw [e4, jrI_s, pk_un hk]) (by rw [e4, jrI_s, pk_us]; rfl) (by omega) (fun k hk => absurd hk (Nat.not_lt_zero _)) trng
    have h6 : mI M6 (uTp (uSt z 0) (0, (zTp z).2)) := by rw [e6, e5]; exact (h4.keep (mSame.slot (by unfold mScI; omega))).keep (mSame.slot (by unfold mScI; omega))
    have t6 : mTx M6 (zTp z).2 n := ⟨by omega, fun k hk => by rw [e6, jrI_n (by omega), e5, jrI_n (by omega), e4, jrI_n (by omega)]; exact h3.2.2.2.2.2.1 k (show k < (zTp z).1 by omega), trng, by rw [e6, jrI_s, pk_un (by omega), e5, jrI_s, pk_un (by omega), e4, jrI_s, pk_un (by omega), e3, jrI_s, pk_us]⟩
    have f16 : M6.1 0 16 = nI 0 := by rw [e6, jrI_s, pk_un (by omega), e5, jrI_s, pk_us]; rfl
    have ok6 : M6.1 0 12 = 0 := by rw [e6, jrI_s, pk_us]
    refine m_next t6 f16 (Nat.zero_le _) (fun M7 k7 r7 => ⟨fun _ => ?_, fun u => (by cases u)⟩)
    refine jloop (fun i (M' : jM) => JW x jtbM mX12_plain (d + 5) (jI P) 25 [(0, .ref (x.2.2.2 0)), (2, .int (nI i))] [] M') (fun i M' => mSame M6 M' ∧ mRt M' (zTp z).2 n 0 ∧ M'.1 0 12 = 0 ∧ ∀ k, k < i → M'.1 5 (1648 + k) = ini k) 412 ?_ ?_ 0 M7 (Nat.zero_le _) ⟨k7.same, ⟨t6.keep k7, r7, Nat.zero_le _⟩, k7.ok ok6, fun k hk => absurd hk (Nat.not_lt_zero _)⟩
    · rintro M8 ⟨s8, r8, ok8, i8⟩
      refine m_readPlain s8 r8 ok8 i8 (fun e he M9 s9 b9 => ?_) (fun pl he M9 s9 ok9 nw9 => ?_)
      · rw [he] at hP
        exact b_X12_plain_147 (d := d + 4) ⟨fun _ => m_isWellB (h6.keep s9) b9 (fun M' h' => ⟨fun u => (by cases u), fun _ => hP M' h'⟩), fun u => absurd u b9.ne⟩
      · rw [he] at hP
        refine m_isWellG (h6.keep s9) ok9 (fun M10 h10 f1 f2 => ⟨fun _ => ?_, fun u => (by cases u)⟩)
        have nw10 : mNw M10 pl := nw9.keep (f1 5 (by omega)) (by rw [f2])
        refine m_settle nw10 (fun M' g1 g2 g3 g4 => hP M' ?_)
        exact h10.setNw g1 g2 g3 g4 (fun u => absurd (show (0 : Int32) = 1 from u) (by decide))
    · rintro i M8 hi ⟨s8, r8, ok8, i8⟩ ih
      have step : ∀ v : Int32, v = ini i → ∃ j1, j1 < 2060 ∧ (1648 : Int32) + nI i = nI j1 ∧ (∀ M14, M14 = jrI M8 5 (upd (M8.1 5) j1 v) → JW x jtbM mX12_plain (d + 5) (jI P) 25 [(0, .ref (x.2.2.2 0)), (2, .int (nI i + 1))] [] M14) := fun v hv => by
        refine ⟨1648 + i, by omega, by rw [show (1648 : Int32) = nI 1648 from rfl, nI_add], fun M14 e14 => ?_⟩
        rw [nI_1]
        refine ih M14 ⟨by rw [e14]; exact s8.tr (mYq.put (by omega)).1, by rw [e14]; exact r8.put, by rw [e14, jrI_n (by omega)]; exact ok8, fun k hk => ?_⟩
        rw [e14, jrI_s]
        by_cases e : k = i
        · rw [e, pk_us]; exact hv
        · rw [pk_un (by omega)]; exact i8 k (by omega)
      refine b_X12_plain_25 (d := d + 4) (pk_le 412 i (fun u => absurd u (by omega)) (fun _ => ?_))
      rw [show (3 : Int64) = (nI 3).toInt64 by decide, show (27 : Int64) = (nI 27).toInt64 by decide, show (53 : Int64) = (nI 53).toInt64 by decide, show (77 : Int64) = (nI 77).toInt64 by decide]
      refine m_inN (by omega) (by omega) (by omega) ⟨fun q => m_inN (by omega) (by omega) (by omega) ⟨fun q2 => step 0 ?_, fun q2 => step 1 ?_⟩, fun q => step 99 ?_⟩
      · unfold ini; rw [if_neg (of_decide_eq_false q), if_neg (of_decide_eq_false q2)]
      · unfold ini; rw [if_neg (of_decide_eq_false q), if_pos (of_decide_eq_true q2)]
      · unfold ini; rw [if_pos (of_decide_eq_true q)]
end NP2
