/-! keep, restore -/
theorem ts_3j (j : Nat) : (3 : Int32) + nI j = nI (3 + j) := nI_add 3 j
theorem i_vc_keep {k : Nat} {u : SX} {v : SY} (I : i_Rel k u v) (hk : k + 4 ≤ 2048) (v1 : Int32) (v2 : Int32) : wpX_keep (fun r u' => wpY_keep (fun r' v' => r' = r ∧ i_Rel (k + 4) u' v') v v1 v2) u v1 v2 := by
  have J := i_up I
  obtain ⟨pf, xa, xc, ya, yc, K, N, kp, ap, ad, cp, K', N', tk, ap', ad', cp', rfl, rfl, hpf, R, W⟩ := I
  unfold wpX_keep wpY_keep
  rcases ts_side v1 with ⟨s, hs, rfl⟩ | ⟨n0, n1⟩
  · rcases ts_place v2 with ⟨j, hj, rfl⟩ | hb | ⟨hn, hb⟩
    · have RR := ts_R_ct R (t := s) (u := 3 + j) (by omega) (by omega)
      rw [ts_3j]
      refine tx_side_t hs (br_f (by decide) (tx_place_t hj (br_f (by decide) (tx_copyTree (by omega) (by omega) ⟨vp_in_nI hj (by decide), nm_e (tx_size (by omega) ?_)⟩))))
      refine ty_side_t hs (br_f (by decide) (br_f (nI_pos (by omega)) (br_t (nI_le (b := 2) (by omega) (by decide)) (ty_copyTree (by omega) (by omega) ⟨vp_in_nI hj (by decide), nm_e (ty_count (by omega) ⟨?_, ?_⟩)⟩))))
      · rw [ts_cz_c 84 (fun i hi => (RR (84 * s + i) (by omega)).1)]
      · exact ts_mk hpf RR (ts_W_ct W (by omega) (by omega) (by omega))
    · exact tx_side_t hs (br_f (by decide) (tx_place_f (Or.inl hb) (br_t rfl (ty_side_t hs (br_f (by decide) (br_t hb ⟨rfl, J⟩))))))
    · refine tx_side_t hs (br_f (by decide) (tx_place_f (Or.inr ⟨hn, hb⟩) (br_t rfl (ty_side_t hs (br_f (by decide) (br_f hn (br_f ?_ ⟨rfl, J⟩)))))))
      exact Int32.not_le.mpr (ts_lt_le 2 (by omega) hn hb)
  · exact tx_side_f n0 n1 (br_t rfl (ty_side_f n0 n1 (br_t rfl ⟨rfl, J⟩)))
theorem i_vc_restore {k : Nat} {u : SX} {v : SY} (I : i_Rel k u v) (hk : k + 4 ≤ 2048) (v1 : Int32) (v2 : Int32) : wpX_restore (fun r u' => wpY_restore (fun r' v' => r' = r ∧ i_Rel (k + 4) u' v') v v1 v2) u v1 v2 := by
  have J := i_up I
  obtain ⟨pf, xa, xc, ya, yc, K, N, kp, ap, ad, cp, K', N', tk, ap', ad', cp', rfl, rfl, hpf, R, W⟩ := I
  unfold wpX_restore wpY_restore
  rcases ts_side v1 with ⟨s, hs, rfl⟩ | ⟨n0, n1⟩
  · rcases ts_place v2 with ⟨j, hj, rfl⟩ | hb | ⟨hn, hb⟩
    · have RR := ts_R_ct R (t := 3 + j) (u := s) (by omega) (by omega)
      rw [ts_3j]
      refine tx_side_t hs (br_f (by decide) (tx_place_t hj (br_f (by decide) ⟨vp_in_nI hj (by decide), ?_⟩)))
      by_cases z : kp (nI j).toNatClampNeg = 0
      · exact br_t z (ty_side_t hs (br_f (by decide) (br_f (nI_pos (by omega)) (br_t (nI_le (b := 2) (by omega) (by decide)) ⟨vp_in_nI hj (by decide), br_t z ⟨rfl, J⟩⟩))))
      · refine br_f z (tx_copyTree (by omega) (by omega) (tx_size (by omega) ?_))
        refine ty_side_t hs (br_f (by decide) (br_f (nI_pos (by omega)) (br_t (nI_le (b := 2) (by omega) (by decide)) ⟨vp_in_nI hj (by decide), br_f z (ty_copyTree (by omega) (by omega) (ty_count (by omega) ⟨?_, ?_⟩))⟩)))
        · rw [ts_cz_c 84 (fun i hi => (RR (84 * s + i) (by omega)).1)]
        · exact ts_mk hpf RR (ts_W_ct W (by omega) (by omega) (by omega))
    · exact tx_side_t hs (br_f (by decide) (tx_place_f (Or.inl hb) (br_t rfl (ty_side_t hs (br_f (by decide) (br_t hb ⟨rfl, J⟩))))))
    · refine tx_side_t hs (br_f (by decide) (tx_place_f (Or.inr ⟨hn, hb⟩) (br_t rfl (ty_side_t hs (br_f (by decide) (br_f hn (br_f ?_ ⟨rfl, J⟩)))))))
      exact Int32.not_le.mpr (ts_lt_le 2 (by omega) hn hb)
  · exact tx_side_f n0 n1 (br_t rfl (ty_side_f n0 n1 (br_t rfl ⟨rfl, J⟩)))
