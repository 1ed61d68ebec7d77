/-! the law's loop -/
theorem l_and63 (a : Int32) : ∃ k, k < 64 ∧ a &&& 63 = nI k := by
  refine ⟨(a &&& 63).toBitVec.toNat, ?_, ?_⟩
  · have : (a &&& 63).toBitVec.toNat = a.toBitVec.toNat &&& 63 := by
      show (a.toBitVec &&& (63 : Int32).toBitVec).toNat = _
      rw [BitVec.toNat_and]
      rfl
    rw [this]
    exact Nat.lt_of_le_of_lt Nat.and_le_right (by decide)
  · apply Int32.toBitVec_inj.mp
    show (a &&& 63).toBitVec = (Int32.ofNat _).toBitVec
    apply BitVec.eq_of_toNat_eq
    show _ = (BitVec.ofNat 32 _).toNat
    rw [BitVec.toNat_ofNat, Nat.mod_eq_of_lt (a &&& 63).toBitVec.isLt]
theorem l_le {i L : Nat} (hL : L ≤ 3072) (h : i + 6 ≤ L) : ¬ (nI L - 6 < nI i) := by
  have e : nI L - 6 = nI (L - 6) := by
    have := nI_add (L - 6) 6
    rw [show L - 6 + 6 = L by omega] at this
    rw [← this]
    show nI (L - 6) + 6 - 6 = _
    exact Int32.add_sub_cancel _ _
  rw [e]
  exact nI_nlt (by omega) (by omega)
theorem l_gt {i L : Nat} (hL : L ≤ 3072) (hi : i ≤ L) (h : ¬ i + 6 ≤ L) : nI L - 6 < nI i := by
  rcases Nat.lt_or_ge L 6 with q | q
  · have h0 : nI L - 6 < 0 := by
      rcases (by omega : L = 0 ∨ L = 1 ∨ L = 2 ∨ L = 3 ∨ L = 4 ∨ L = 5) with rfl | rfl | rfl | rfl | rfl | rfl <;> decide
    exact Int32.lt_of_lt_of_le h0 (nI_pos' (by omega))
  · have e : nI L - 6 = nI (L - 6) := by
      have := nI_add (L - 6) 6
      rw [show L - 6 + 6 = L by omega] at this
      rw [← this]
      show nI (L - 6) + 6 - 6 = _
      exact Int32.add_sub_cancel _ _
    rw [e]
    exact nI_lt (by omega) (by omega)
section LLP
variable {p : Program} {e : Env} {s : State} {m : MethodId} {below : List Frame} {meth : Method} {c : Code} {b L nc ns : Nat} {xs : Nat → Int32} {x : jX} {ay : Nat → Nat}
set_option maxHeartbeats 4000000 in
theorem law_loop (C : lCx p s m meth c b L xs x nc ns) : ∀ (n i : Nat), i ≤ L → L - i ≤ n → ∀ (z : qZ) (M N : jM), cI M z → mI N z → LW p e s m below meth c b nc ns x ay 18 (lL x ay b i) [] M N := by
  have hL := C.2.2.1
  intro n
  induction n using Nat.strongRecOn with
  | _ n ih =>
    intro i hi hn z M N hc hm
    refine l_iload_n C (pc := 18) (j := 3) dL_law_18 rfl rfl ?_
    refine l_aload_n C (pc := 19) (j := 0) dL_law_19 rfl rfl ?_
    refine l_slen (i := i) C (pc := 20) dL_law_20 ?_
    refine l_bipush C (pc := 21) (v := 6) dL_law_21 rfl ?_
    refine l_isub C (pc := 23) dL_law_23 ?_
    refine l_icmp_gt C (pc := 24) (tgt := 1539) dL_law_24 (by decide) (fun _ => l_end C) (fun h => ?_)
    have h6 : i + 6 ≤ L := by
      rcases Nat.lt_or_ge L (i + 6) with q | q
      · exact absurd (l_gt hL hi (by omega)) h
      · exact q
    have kk : ∀ z' M' N', cI M' z' → mI N' z' → LW p e s m below meth c b nc ns x ay 1533 (lL x ay b i) [] M' N' := fun z' M' N' hc' hm' => l_next C (ih (L - (i + 6)) (by omega) (i + 6) h6 (Nat.le_refl _) z' M' N' hc' hm')
    refine l_aload_n C (pc := 27) (j := 0) dL_law_27 rfl rfl ?_
    refine l_iload_n C (pc := 28) (j := 3) dL_law_28 rfl rfl ?_
    refine l_sld C (pc := 29) (i := i) dL_law_29 (by omega) ?_
    refine l_bipush C (pc := 30) (v := 63) dL_law_30 rfl ?_
    refine l_iand C (pc := 32) dL_law_32 ?_
    obtain ⟨k, hk, ek⟩ := l_and63 (xs i)
    rw [ek]
    rcases (by omega : k = 0 ∨ k = 1 ∨ k = 2 ∨ k = 3 ∨ k = 4 ∨ k = 5 ∨ k = 6 ∨ k = 7 ∨ k = 8 ∨ k = 9 ∨ k = 10 ∨ k = 11 ∨ k = 12 ∨ k = 13 ∨ k = 14 ∨ k = 15 ∨ k = 16 ∨ k = 17 ∨ k = 18 ∨ k = 19 ∨ k = 20 ∨ k = 21 ∨ k = 22 ∨ k = 23 ∨ k = 24 ∨ k = 25 ∨ k = 26 ∨ k = 27 ∨ k = 28 ∨ k = 29 ∨ k = 30 ∨ k = 31 ∨ k = 32 ∨ k = 33 ∨ k = 34 ∨ k = 35 ∨ k = 36 ∨ k = 37 ∨ k = 38 ∨ k = 39 ∨ k = 40 ∨ k = 41 ∨ k = 42 ∨ k = 43 ∨ k = 44 ∨ k = 45 ∨ 46 ≤ k) with rfl | rfl | rfl | rfl | rfl | rfl | rfl | rfl | rfl | rfl | rfl | rfl | rfl | rfl | rfl | rfl | rfl | rfl | rfl | rfl | rfl | rfl | rfl | rfl | rfl | rfl | rfl | rfl | rfl | rfl | rfl | rfl | rfl | rfl | rfl | rfl | rfl | rfl | rfl | rfl | rfl | rfl | rfl | rfl | rfl | rfl | h46
    · exact l_tableIn C (pc := 33) (off := 199) (tgt := 232) dL_law_33 (by decide) (by decide) (by decide) (by decide) (v_0 C h6 hc hm kk)
    · exact l_tableIn C (pc := 33) (off := 212) (tgt := 245) dL_law_33 (by decide) (by decide) (by decide) (by decide) (v_1 C h6 hc hm kk)
    · exact l_tableIn C (pc := 33) (off := 226) (tgt := 259) dL_law_33 (by decide) (by decide) (by decide) (by decide) (v_2 C h6 hc hm kk)
    · exact l_tableIn C (pc := 33) (off := 240) (tgt := 273) dL_law_33 (by decide) (by decide) (by decide) (by decide) (v_3 C h6 hc hm kk)
    · exact l_tableIn C (pc := 33) (off := 283) (tgt := 316) dL_law_33 (by decide) (by decide) (by decide) (by decide) (v_4 C h6 hc hm kk)
    · exact l_tableIn C (pc := 33) (off := 356) (tgt := 389) dL_law_33 (by decide) (by decide) (by decide) (by decide) (v_5 C h6 hc hm kk)
    · exact l_tableIn C (pc := 33) (off := 390) (tgt := 423) dL_law_33 (by decide) (by decide) (by decide) (by decide) (v_6 C h6 hc hm kk)
    · exact l_tableIn C (pc := 33) (off := 453) (tgt := 486) dL_law_33 (by decide) (by decide) (by decide) (by decide) (v_7 C h6 hc hm kk)
    · exact l_tableIn C (pc := 33) (off := 516) (tgt := 549) dL_law_33 (by decide) (by decide) (by decide) (by decide) (v_8 C h6 hc hm kk)
    · exact l_tableIn C (pc := 33) (off := 539) (tgt := 572) dL_law_33 (by decide) (by decide) (by decide) (by decide) (v_9 C h6 hc hm kk)
    · exact l_tableIn C (pc := 33) (off := 562) (tgt := 595) dL_law_33 (by decide) (by decide) (by decide) (by decide) (v_10 C h6 hc hm kk)
    · exact l_tableIn C (pc := 33) (off := 585) (tgt := 618) dL_law_33 (by decide) (by decide) (by decide) (by decide) (v_11 C h6 hc hm kk)
    · exact l_tableIn C (pc := 33) (off := 608) (tgt := 641) dL_law_33 (by decide) (by decide) (by decide) (by decide) (v_12 C h6 hc hm kk)
    · exact l_tableIn C (pc := 33) (off := 641) (tgt := 674) dL_law_33 (by decide) (by decide) (by decide) (by decide) (v_13 C h6 hc hm kk)
    · exact l_tableIn C (pc := 33) (off := 674) (tgt := 707) dL_law_33 (by decide) (by decide) (by decide) (by decide) (v_14 C h6 hc hm kk)
    · exact l_tableIn C (pc := 33) (off := 707) (tgt := 740) dL_law_33 (by decide) (by decide) (by decide) (by decide) (v_15 C h6 hc hm kk)
    · exact l_tableIn C (pc := 33) (off := 740) (tgt := 773) dL_law_33 (by decide) (by decide) (by decide) (by decide) (v_16 C h6 hc hm kk)
    · exact l_tableIn C (pc := 33) (off := 763) (tgt := 796) dL_law_33 (by decide) (by decide) (by decide) (by decide) (v_17 C h6 hc hm kk)
    · exact l_tableIn C (pc := 33) (off := 796) (tgt := 829) dL_law_33 (by decide) (by decide) (by decide) (by decide) (v_18 C h6 hc hm kk)
    · exact l_tableIn C (pc := 33) (off := 819) (tgt := 852) dL_law_33 (by decide) (by decide) (by decide) (by decide) (v_19 C h6 hc hm kk)
    · exact l_tableIn C (pc := 33) (off := 852) (tgt := 885) dL_law_33 (by decide) (by decide) (by decide) (by decide) (v_20 C h6 hc hm kk)
    · exact l_tableIn C (pc := 33) (off := 875) (tgt := 908) dL_law_33 (by decide) (by decide) (by decide) (by decide) (v_21 C h6 hc hm kk)
    · exact l_tableIn C (pc := 33) (off := 888) (tgt := 921) dL_law_33 (by decide) (by decide) (by decide) (by decide) (v_22 C h6 hc hm kk)
    · exact l_tableIn C (pc := 33) (off := 921) (tgt := 954) dL_law_33 (by decide) (by decide) (by decide) (by decide) (v_23 C h6 hc hm kk)
    · exact l_tableIn C (pc := 33) (off := 944) (tgt := 977) dL_law_33 (by decide) (by decide) (by decide) (by decide) (v_24 C h6 hc hm kk)
    · exact l_tableIn C (pc := 33) (off := 977) (tgt := 1010) dL_law_33 (by decide) (by decide) (by decide) (by decide) (v_25 C h6 hc hm kk)
    · exact l_tableIn C (pc := 33) (off := 1000) (tgt := 1033) dL_law_33 (by decide) (by decide) (by decide) (by decide) (v_26 C h6 hc hm kk)
    · exact l_tableIn C (pc := 33) (off := 1023) (tgt := 1056) dL_law_33 (by decide) (by decide) (by decide) (by decide) (v_27 C h6 hc hm kk)
    · exact l_tableIn C (pc := 33) (off := 1046) (tgt := 1079) dL_law_33 (by decide) (by decide) (by decide) (by decide) (v_28 C h6 hc hm kk)
    · exact l_tableIn C (pc := 33) (off := 1069) (tgt := 1102) dL_law_33 (by decide) (by decide) (by decide) (by decide) (v_29 C h6 hc hm kk)
    · exact l_tableIn C (pc := 33) (off := 1092) (tgt := 1125) dL_law_33 (by decide) (by decide) (by decide) (by decide) (v_30 C h6 hc hm kk)
    · exact l_tableIn C (pc := 33) (off := 1135) (tgt := 1168) dL_law_33 (by decide) (by decide) (by decide) (by decide) (v_31 C h6 hc hm kk)
    · exact l_tableIn C (pc := 33) (off := 1148) (tgt := 1181) dL_law_33 (by decide) (by decide) (by decide) (by decide) (v_32 C h6 hc hm kk)
    · exact l_tableIn C (pc := 33) (off := 1171) (tgt := 1204) dL_law_33 (by decide) (by decide) (by decide) (by decide) (v_33 C h6 hc hm kk)
    · exact l_tableIn C (pc := 33) (off := 1194) (tgt := 1227) dL_law_33 (by decide) (by decide) (by decide) (by decide) (v_34 C h6 hc hm kk)
    · exact l_tableIn C (pc := 33) (off := 1237) (tgt := 1270) dL_law_33 (by decide) (by decide) (by decide) (by decide) (v_35 C h6 hc hm kk)
    · exact l_tableIn C (pc := 33) (off := 1270) (tgt := 1303) dL_law_33 (by decide) (by decide) (by decide) (by decide) (v_36 C h6 hc hm kk)
    · exact l_tableIn C (pc := 33) (off := 1303) (tgt := 1336) dL_law_33 (by decide) (by decide) (by decide) (by decide) (v_37 C h6 hc hm kk)
    · exact l_tableIn C (pc := 33) (off := 1326) (tgt := 1359) dL_law_33 (by decide) (by decide) (by decide) (by decide) (v_38 C h6 hc hm kk)
    · exact l_tableIn C (pc := 33) (off := 1349) (tgt := 1382) dL_law_33 (by decide) (by decide) (by decide) (by decide) (v_39 C h6 hc hm kk)
    · exact l_tableIn C (pc := 33) (off := 1382) (tgt := 1415) dL_law_33 (by decide) (by decide) (by decide) (by decide) (v_40 C h6 hc hm kk)
    · exact l_tableIn C (pc := 33) (off := 1395) (tgt := 1428) dL_law_33 (by decide) (by decide) (by decide) (by decide) (v_41 C h6 hc hm kk)
    · exact l_tableIn C (pc := 33) (off := 1418) (tgt := 1451) dL_law_33 (by decide) (by decide) (by decide) (by decide) (v_42 C h6 hc hm kk)
    · exact l_tableIn C (pc := 33) (off := 1441) (tgt := 1474) dL_law_33 (by decide) (by decide) (by decide) (by decide) (v_43 C h6 hc hm kk)
    · exact l_tableIn C (pc := 33) (off := 1474) (tgt := 1507) dL_law_33 (by decide) (by decide) (by decide) (by decide) (v_44 C h6 hc hm kk)
    · exact l_tableIn C (pc := 33) (off := 1487) (tgt := 1520) dL_law_33 (by decide) (by decide) (by decide) (by decide) (v_45 C h6 hc hm kk)
    · exact l_tableOut C (pc := 33) (tgt := 1533) dL_law_33 (Or.inr (by rw [nI_toInt (by omega)]; omega)) (by decide) (kk z M N hc hm)
end LLP
