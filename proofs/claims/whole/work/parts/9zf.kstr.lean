/-! the text of the words: length and letters -/
theorem kb_c : ∀ j, j < 114 → ((kbt.getD j 0 &&& 255).toUInt32 % 65536).toInt32 = kbt.getD j 0 := by decide +kernel
theorem kb_n : ∀ j, j < 114 → narrow .char (.int (kbt.getD j 0)) = .int (kbt.getD j 0) := by decide +kernel
theorem kpf_coder : plainFor yJ0_coder_7d493 = true := by decide +kernel
theorem kpf_length : plainFor yJ0_length_8abf5 = true := by decide +kernel
theorem kpf_latin : plainFor yJ0_isLatin1_aae02 = true := by decide +kernel
theorem kpf_charAt : plainFor yJ0_charAt_5068e = true := by decide +kernel
theorem kpf_chk : plainFor yJ0_checkIndex_df160 = true := by decide +kernel
theorem kpf_char1 : plainFor yJ1_charAt_3b067 = true := by decide +kernel
theorem kpf_pre : plainFor yJ3_checkIndex_8e157 = true := by decide +kernel
section KST
variable {x : kX} {d : Nat}
theorem s_coder : KC x mJ0_coder_7d493 d 0 0 [.ref x.2.2.2.1] [] (fun w r => w = [] ∧ r = some (.int 0)) := by
  refine KC.ofF kpf_coder (Nat.le_of_ble_eq_true rfl) ?_
  refine kw_ls (ls' := [(0, .ref x.2.2.2.1)]) rfl ?_
  refine kw_cs (pc := 0) dJ0_coder_7d493_0 sl_38 ?_
  refine kw_if_eq (pc := 3) (tgt := 13) dJ0_coder_7d493_3 (by decide) (fun c => absurd c (by decide)) (fun _ => ?_)
  refine kw_aload_n (pc := 6) (j := 0) dJ0_coder_7d493_6 rfl rfl ?_
  refine kw_coder (pc := 7) dJ0_coder_7d493_7 sl_15 ?_
  refine kw_goto (pc := 10) (tgt := 14) dJ0_coder_7d493_10 (by decide) ?_
  exact kw_ret (pc := 14) dJ0_coder_7d493_14 rfl rfl rfl rfl ⟨rfl, rfl⟩
theorem s_length : KC x mJ0_length_8abf5 (d + 1) 0 0 [.ref x.2.2.2.1] [] (fun w r => w = [] ∧ r = some (.int 114)) := by
  refine KC.ofF kpf_length (Nat.le_of_ble_eq_true rfl) ?_
  refine kw_ls (ls' := [(0, .ref x.2.2.2.1)]) rfl ?_
  refine kw_aload_n (pc := 0) (j := 0) dJ0_length_8abf5_0 rfl rfl ?_
  refine kw_value (pc := 1) dJ0_length_8abf5_1 sl_9 ?_
  refine kw_tlen (pc := 4) dJ0_length_8abf5_4 ?_
  refine kw_aload_n (pc := 5) (j := 0) dJ0_length_8abf5_5 rfl rfl ?_
  refine kw_str (As := []) (pc := 6) (Q2 := fun _ r => r = some (.int 0)) dJ0_length_8abf5_6 gm_J0_coder_7d493 rfl ml_J0_335 rfl (Nat.le_of_ble_eq_true rfl) (Nat.le_refl _) (Nat.le_refl _) s_coder (fun r hr => ?_)
  subst hr
  refine kw_ishr (pc := 9) dJ0_length_8abf5_9 ?_
  exact kw_ret (pc := 10) dJ0_length_8abf5_10 rfl rfl rfl rfl ⟨rfl, by decide⟩
theorem s_latin : KC x mJ0_isLatin1_aae02 d 0 0 [.ref x.2.2.2.1] [] (fun w r => w = [] ∧ r = some (.int 1)) := by
  refine KC.ofF kpf_latin (Nat.le_of_ble_eq_true rfl) ?_
  refine kw_ls (ls' := [(0, .ref x.2.2.2.1)]) rfl ?_
  refine kw_cs (pc := 0) dJ0_isLatin1_aae02_0 sl_38 ?_
  refine kw_if_eq (pc := 3) (tgt := 17) dJ0_isLatin1_aae02_3 (by decide) (fun c => absurd c (by decide)) (fun _ => ?_)
  refine kw_aload_n (pc := 6) (j := 0) dJ0_isLatin1_aae02_6 rfl rfl ?_
  refine kw_coder (pc := 7) dJ0_isLatin1_aae02_7 sl_15 ?_
  refine kw_if_ne (pc := 10) (tgt := 17) dJ0_isLatin1_aae02_10 (by decide) (fun c => absurd rfl c) (fun _ => ?_)
  refine kw_iconst (pc := 13) (v := 1) dJ0_isLatin1_aae02_13 rfl ?_
  refine kw_goto (pc := 14) (tgt := 18) dJ0_isLatin1_aae02_14 (by decide) ?_
  exact kw_ret (pc := 18) dJ0_isLatin1_aae02_18 rfl rfl rfl rfl ⟨rfl, rfl⟩
theorem s_pre {j : Nat} (hj : j < 114) : KC x mJ3_checkIndex_8e157 d 0 0 [.int (nI j), .int 114, va_rf x.2.2.2.2.2] [] (fun w r => w = [] ∧ r = some (.int (nI j))) := by
  have hc : va_rf x.2.2.2.2.2 = .null ∨ ∃ a, va_rf x.2.2.2.2.2 = .ref a := by
    cases x.2.2.2.2.2 with
    | none => exact Or.inl rfl
    | some a => exact Or.inr ⟨a, rfl⟩
  generalize va_rf x.2.2.2.2.2 = v at hc ⊢
  refine KC.ofF kpf_pre (by rcases hc with rfl | ⟨a, rfl⟩ <;> exact Nat.le_of_ble_eq_true rfl) ?_
  refine kw_ls (ls' := [(0, .int (nI j)), (1, .int 114), (2, v)]) rfl ?_
  refine kw_iload_n (pc := 0) (j := 0) dJ3_checkIndex_8e157_0 rfl rfl ?_
  refine kw_if_lt (pc := 1) (tgt := 9) dJ3_checkIndex_8e157_1 (by decide) (fun c => absurd c (nI_pos (by omega))) (fun _ => ?_)
  refine kw_iload_n (pc := 4) (j := 0) dJ3_checkIndex_8e157_4 rfl rfl ?_
  refine kw_iload_n (pc := 5) (j := 1) dJ3_checkIndex_8e157_5 rfl rfl ?_
  refine kw_icmp_lt (pc := 6) (tgt := 16) dJ3_checkIndex_8e157_6 (by decide) (fun _ => ?_) (fun c => absurd (show nI j < 114 from nI_lt (b := 114) hj (by decide)) c)
  refine kw_iload_n (pc := 16) (j := 0) dJ3_checkIndex_8e157_16 rfl rfl ?_
  exact kw_ret (pc := 17) dJ3_checkIndex_8e157_17 rfl rfl rfl rfl ⟨rfl, rfl⟩
theorem s_chk {j : Nat} (hj : j < 114) : KC x mJ0_checkIndex_df160 (d + 1) 0 0 [.int (nI j), .int 114] [] (fun w r => w = [] ∧ r = none) := by
  refine KC.ofF kpf_chk (Nat.le_of_ble_eq_true rfl) ?_
  refine kw_ls (ls' := [(0, .int (nI j)), (1, .int 114)]) rfl ?_
  refine kw_iload_n (pc := 0) (j := 0) dJ0_checkIndex_df160_0 rfl rfl ?_
  refine kw_iload_n (pc := 1) (j := 1) dJ0_checkIndex_df160_1 rfl rfl ?_
  refine kw_sf (pc := 2) dJ0_checkIndex_df160_2 sl_1053 ?_
  refine kw_stat (As := [.int (nI j), .int 114, va_rf x.2.2.2.2.2]) (st := []) (pc := 5) (Q2 := fun _ r => r = some (.int (nI j))) dJ0_checkIndex_df160_5 gm_J3_checkIndex_8e157 ml_J0_1059 rfl (Nat.le_of_ble_eq_true rfl) (Nat.le_refl _) (Nat.le_refl _) (s_pre hj) (fun r hr => ?_)
  subst hr
  refine kw_pop (pc := 8) dJ0_checkIndex_df160_8 rfl ?_
  exact kw_vret (pc := 9) dJ0_checkIndex_df160_9 rfl rfl rfl ⟨rfl, rfl⟩
theorem s_char1 {j : Nat} (hj : j < 114) : KC x mJ1_charAt_3b067 (d + 2) 0 0 [.ref x.2.2.2.2.1, .int (nI j)] [] (fun w r => w = [] ∧ r = some (.int (kbt.getD j 0))) := by
  refine KC.ofF kpf_char1 (Nat.le_of_ble_eq_true rfl) ?_
  refine kw_ls (ls' := [(0, .ref x.2.2.2.2.1), (1, .int (nI j))]) rfl ?_
  refine kw_iload_n (pc := 0) (j := 1) dJ1_charAt_3b067_0 rfl rfl ?_
  refine kw_aload_n (pc := 1) (j := 0) dJ1_charAt_3b067_1 rfl rfl ?_
  refine kw_tlen (pc := 2) dJ1_charAt_3b067_2 ?_
  refine kw_stat (As := [.int (nI j), .int 114]) (st := []) (pc := 3) (Q2 := fun _ r => r = none) dJ1_charAt_3b067_3 gm_J0_checkIndex_df160 ml_J1_9 rfl (Nat.le_of_ble_eq_true rfl) (Nat.le_refl _) (Nat.le_refl _) (s_chk hj) (fun r hr => ?_)
  subst hr
  refine kw_aload_n (pc := 6) (j := 0) dJ1_charAt_3b067_6 rfl rfl ?_
  refine kw_iload_n (pc := 7) (j := 1) dJ1_charAt_3b067_7 rfl rfl ?_
  refine kw_tb (pc := 8) dJ1_charAt_3b067_8 hj rfl ?_
  refine kw_sipush (pc := 9) (v := 255) dJ1_charAt_3b067_9 rfl ?_
  refine kw_iand (pc := 12) dJ1_charAt_3b067_12 ?_
  refine kw_i2c (pc := 13) dJ1_charAt_3b067_13 ?_
  rw [kb_c j hj]
  exact kw_ret (pc := 14) dJ1_charAt_3b067_14 rfl (kb_n j hj) rfl rfl ⟨rfl, rfl⟩
theorem s_charAt {j : Nat} (hj : j < 114) : KC x mJ0_charAt_5068e (d + 3) 0 0 [.ref x.2.2.2.1, .int (nI j)] [] (fun w r => w = [] ∧ r = some (.int (kbt.getD j 0))) := by
  refine KC.ofF kpf_charAt (Nat.le_of_ble_eq_true rfl) ?_
  refine kw_ls (ls' := [(0, .ref x.2.2.2.1), (1, .int (nI j))]) rfl ?_
  refine kw_aload_n (pc := 0) (j := 0) dJ0_charAt_5068e_0 rfl rfl ?_
  refine kw_str (As := []) (st := []) (pc := 1) (Q2 := fun _ r => r = some (.int 1)) dJ0_charAt_5068e_1 gm_J0_isLatin1_aae02 rfl ml_J0_492 rfl (Nat.le_of_ble_eq_true rfl) (Nat.le_refl _) (Nat.le_refl _) s_latin (fun r hr => ?_)
  subst hr
  refine kw_if_eq (pc := 4) (tgt := 16) dJ0_charAt_5068e_4 (by decide) (fun c => absurd c (by decide)) (fun _ => ?_)
  refine kw_aload_n (pc := 7) (j := 0) dJ0_charAt_5068e_7 rfl rfl ?_
  refine kw_value (pc := 8) dJ0_charAt_5068e_8 sl_9 ?_
  refine kw_iload_n (pc := 11) (j := 1) dJ0_charAt_5068e_11 rfl rfl ?_
  refine kw_stat (As := [.ref x.2.2.2.2.1, .int (nI j)]) (st := []) (pc := 12) (Q2 := fun _ r => r = some (.int (kbt.getD j 0))) dJ0_charAt_5068e_12 gm_J1_charAt_3b067 ml_J0_495 rfl (Nat.le_of_ble_eq_true rfl) (Nat.le_refl _) (Nat.le_refl _) (s_char1 hj) (fun r hr => ?_)
  subst hr
  exact kw_ret (pc := 15) dJ0_charAt_5068e_15 rfl (kb_n j hj) rfl rfl ⟨rfl, rfl⟩
end KST
