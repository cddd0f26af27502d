-- contracts written by hand: the JDK's index checks
theorem c_J3_checkIndex {E : gE} {M : gM} {x n : Int32} {v : Value} (hv : v = .null ∨ ∃ a, v = .ref a) (h0 : ¬ x < 0) (h1 : x < n) : gC E yJ3_checkIndex_8e157 cJ3_checkIndex_8e157 3 (some .int) (rm 0) [.int x, .int n, v] M (fun o N => o = some (.int x) ∧ N = M) := by
  rcases hv with rfl | ⟨a, rfl⟩
  all_goals
    refine gC.of (by decide +kernel) (Nat.le_of_ble_eq_true rfl) rfl ?_
    refine g_iload_n 0 dJ3_checkIndex_8e157_0 rfl ?_
    refine g_if_lt 9 dJ3_checkIndex_8e157_1 (by decide) (fun c => absurd c h0) (fun _ => ?_)
    refine g_iload_n 0 dJ3_checkIndex_8e157_4 rfl ?_
    refine g_iload_n 1 dJ3_checkIndex_8e157_5 rfl ?_
    refine g_icmp_lt 16 dJ3_checkIndex_8e157_6 (by decide) (fun _ => ?_) (fun c => absurd h1 c)
    refine g_iload_n 0 dJ3_checkIndex_8e157_16 rfl ?_
    exact g_iret rfl dJ3_checkIndex_8e157_17 ⟨rfl, rfl⟩
theorem c_J0_checkIndex_df160 (E : gE) (M : gM) (x n : Int32) (h : ¬ x < 0 ∧ x < n) : gC E yJ0_checkIndex_df160 cJ0_checkIndex_df160 2 none (rm 1) [.int x, .int n] M (fun o N => o = none ∧ N = M) := by
  refine gC.of (by decide +kernel) (Nat.le_of_ble_eq_true rfl) rfl ?_
  refine g_iload_n 0 dJ0_checkIndex_df160_0 rfl ?_
  refine g_iload_n 1 dJ0_checkIndex_df160_1 rfl ?_
  refine g_siob sb_J0_1053 dJ0_checkIndex_df160_2 (fun v hv => ?_)
  refine g_callS (As := [.int x, .int n, v]) (st := []) (c_J3_checkIndex hv h.1 h.2) mt_J3_checkIndex_8e157 ml_J0_1059 sg_J3_checkIndex_8e157 rfl (by decide) (by decide) dJ0_checkIndex_df160_5 ?_
  rintro _ _ ⟨rfl, rfl⟩
  refine g_pop dJ0_checkIndex_df160_8 rfl ?_
  exact g_vret rfl dJ0_checkIndex_df160_9 ⟨rfl, rfl⟩
