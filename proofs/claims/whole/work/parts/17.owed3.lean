/-! prefer, step, stepSome, actions, action, conflicts, conflict -/
theorem ts_pf3 (x : Int32) (h0 : ¬ x = 0) (h1 : ¬ x = 1) (hm : ¬ x = -1) : x < -1 ∨ (¬ x < -1 ∧ ¬ x ≤ 1) := by
  by_cases h : x < -1
  · exact Or.inl h
  · refine Or.inr ⟨h, fun h2 => ?_⟩
    rw [Int32.lt_iff_toInt_lt, show (-1 : Int32).toInt = -1 from by decide] at h
    rw [Int32.le_iff_toInt_le, show (1 : Int32).toInt = 1 from by decide] at h2
    rcases (by omega : x.toInt = -1 ∨ x.toInt = 0 ∨ x.toInt = 1) with e | e | e
    · exact hm (Int32.toInt_inj.mp (e.trans (show (-1 : Int) = (-1 : Int32).toInt from by decide)))
    · exact h0 (Int32.toInt_inj.mp (e.trans (show (0 : Int) = (0 : Int32).toInt from by decide)))
    · exact h1 (Int32.toInt_inj.mp (e.trans (show (1 : Int) = (1 : Int32).toInt from by decide)))
theorem i_vc_prefer {k : Nat} {u : SX} {v : SY} (I : i_Rel k u v) (hk : k + 4 ≤ 2048) (v1 : Int32) : wpX_prefer (fun r u' => wpY_prefer (fun r' v' => r' = r ∧ i_Rel (k + 4) u' v') v v1) u v1 := by
  have J := i_up I
  obtain ⟨pf, xa, xc, ya, yc, K, N, kp, ap, ad, cp, K', N', tk, ap', ad', cp', rfl, rfl, hpf, R, W⟩ := I
  unfold wpX_prefer wpY_prefer
  rcases ts_side v1 with ⟨s, hs, rfl⟩ | ⟨n0, n1⟩
  · refine tx_side_t hs (br_f (by decide) ?_)
    have e : nI s = nI (1 - (1 - s)) := congrArg nI (by omega)
    have hl : ¬ nI s < -1 ∧ nI s ≤ 1 := by
      obtain rfl | rfl : s = 0 ∨ s = 1 := by omega
      · decide
      · decide
    exact br_f hl.1 (br_t hl.2 ⟨rfl, ts_mk (Or.inr ⟨1 - s, by omega, e⟩) R W⟩)
  · refine tx_side_f n0 n1 (br_t rfl ?_)
    by_cases m : v1 = -1
    · subst m
      exact br_t rfl (br_f (by decide) (br_t (by decide) ⟨rfl, ts_mk (Or.inl rfl) R W⟩))
    · refine br_f m ?_
      rcases ts_pf3 v1 n0 n1 m with h | ⟨h, h'⟩
      · exact br_t h ⟨rfl, J⟩
      · exact br_f h (br_f h' ⟨rfl, J⟩)
theorem i_vc_step {k : Nat} {u : SX} {v : SY} (I : i_Rel k u v) (hk : k + 4 ≤ 2048) : wpX_step (fun r u' => wpY_step (fun r' v' => r' = r ∧ i_Rel (k + 4) u' v') v) u := by
  obtain ⟨pf, xa, xc, ya, yc, K, N, kp, ap, ad, cp, K', N', tk, ap', ad', cp', rfl, rfl, hpf, R, W⟩ := I
  unfold wpX_step wpY_step
  have hl : ∀ a : Nat, a < 84 → (nI a = 84 ↔ nI a = 1000) := fun a ha =>
    ⟨fun z => absurd ((nI_eq (b := 84) (by omega) (by omega)).mp z) (by omega), fun z => absurd z (ts_ne1000 ha)⟩
  obtain ⟨r, c2, KF, NF, KF', NF', tkF, apF, adF, cpF, RF, WF, hX, hY⟩ := ts_step (xa := xa) (xc := xc) (ya := ya) (yc := yc) (kp := kp) (ap := ap) (ad := ad) (cp := cp) (tk := tk) (ap' := ap') (ad' := ad') (cp' := cp') hl hpf R W
  exact hX _ (hY _ ⟨rfl, ts_mk hpf RF WF⟩)
theorem i_vc_stepSome {k : Nat} {u : SX} {v : SY} (I : i_Rel k u v) (hk : k + 4 ≤ 2048) (v1 : Int32) : wpX_stepSome (fun r u' => wpY_stepSome (fun r' v' => r' = r ∧ i_Rel (k + 4) u' v') v v1) u v1 := by
  have J := i_up I
  obtain ⟨pf, xa, xc, ya, yc, K, N, kp, ap, ad, cp, K', N', tk, ap', ad', cp', rfl, rfl, hpf, R, W⟩ := I
  unfold wpX_stepSome wpY_stepSome
  by_cases h : 0 ≤ v1
  · obtain ⟨r, c2, KF, NF, KF', NF', tkF, apF, adF, cpF, RF, WF, hX, hY⟩ := ts_step (lim := v1) (m := v1) (xa := xa) (xc := xc) (ya := ya) (yc := yc) (kp := kp) (ap := ap) (ad := ad) (cp := cp) (tk := tk) (ap' := ap') (ad' := ad') (cp' := cp') (fun _ _ => Iff.rfl) hpf R W
    exact br_t h (hX _ (br_t h (hY _ ⟨rfl, ts_mk hpf RF WF⟩)))
  · exact br_f h (br_f h ⟨rfl, J⟩)
theorem i_vc_actions {k : Nat} {u : SX} {v : SY} (I : i_Rel k u v) (hk : k + 4 ≤ 2048) : wpX_actions (fun r u' => wpY_actions (fun r' v' => r' = r ∧ i_Rel (k + 4) u' v') v) u := by
  obtain ⟨pf, xa, xc, ya, yc, K, N, kp, ap, ad, cp, K', N', tk, ap', ad', cp', rfl, rfl, hpf, R, W⟩ := I
  unfold wpX_actions wpY_actions
  obtain ⟨a2, c2, apF, adF, cpF, KF', NF', tkF, apG, adG, cpG, h1, h2, RF, h4, h5, gX, gY⟩ := ts_look (xa := xa) (xc := xc) (ya := ya) (yc := yc) (kp := kp) (ap := ap) (ad := ad) (cp := cp) (tk := tk) (ap' := ap') (ad' := ad') (cp' := cp') hpf R
  exact gX _ (gY _ ⟨rfl, ts_mk hpf RF W⟩)
theorem i_vc_conflicts {k : Nat} {u : SX} {v : SY} (I : i_Rel k u v) (hk : k + 4 ≤ 2048) : wpX_conflicts (fun r u' => wpY_conflicts (fun r' v' => r' = r ∧ i_Rel (k + 4) u' v') v) u := by
  obtain ⟨pf, xa, xc, ya, yc, K, N, kp, ap, ad, cp, K', N', tk, ap', ad', cp', rfl, rfl, hpf, R, W⟩ := I
  unfold wpX_conflicts wpY_conflicts
  obtain ⟨a2, c2, apF, adF, cpF, KF', NF', tkF, apG, adG, cpG, h1, h2, RF, h4, h5, gX, gY⟩ := ts_look (xa := xa) (xc := xc) (ya := ya) (yc := yc) (kp := kp) (ap := ap) (ad := ad) (cp := cp) (tk := tk) (ap' := ap') (ad' := ad') (cp' := cp') hpf R
  exact gX _ (gY _ ⟨rfl, ts_mk hpf RF W⟩)
theorem ts_idx (x : Int32) (a : Nat) (ha : a ≤ 84) : (∃ i : Nat, i < a ∧ x = nI i) ∨ x < 0 ∨ (¬ x < 0 ∧ ¬ x < nI a) := by
  by_cases h : x < 0
  · exact Or.inr (Or.inl h)
  · obtain ⟨j, hj, rfl⟩ := nI_of h
    by_cases g : j < a
    · exact Or.inl ⟨j, g, rfl⟩
    · exact Or.inr (Or.inr ⟨h, nI_nlt (by omega) hj⟩)
theorem i_vc_conflict {k : Nat} {u : SX} {v : SY} (I : i_Rel k u v) (hk : k + 4 ≤ 2048) (v1 : Int32) : wpX_conflict (fun r u' => wpY_conflict (fun r' v' => r' = r ∧ i_Rel (k + 4) u' v') v v1) u v1 := by
  obtain ⟨pf, xa, xc, ya, yc, K, N, kp, ap, ad, cp, K', N', tk, ap', ad', cp', rfl, rfl, hpf, R, W⟩ := I
  unfold wpX_conflict wpY_conflict
  obtain ⟨a2, c2, apF, adF, cpF, KF', NF', tkF, apG, adG, cpG, h1, h2, RF, h4, h5, gX, gY⟩ := ts_look (xa := xa) (xc := xc) (ya := ya) (yc := yc) (kp := kp) (ap := ap) (ad := ad) (cp := cp) (tk := tk) (ap' := ap') (ad' := ad') (cp' := cp') hpf R
  refine gX _ ?_
  rcases ts_idx v1 c2 h2 with ⟨i, hi, rfl⟩ | h | ⟨h, h'⟩
  · refine br_f (nI_pos (by omega)) (br_t (nI_lt hi (by omega)) ⟨vp_in_nI (by omega) (by decide), gY _ (br_f (nI_pos (by omega)) (br_t (nI_lt hi (by omega)) ⟨vp_in_nI (by omega) (by decide), ?_, ts_mk hpf RF W⟩))⟩)
    rw [nI_clamp (by omega)]; exact h5 i hi
  · exact br_t h (gY _ (br_t h ⟨rfl, ts_mk hpf RF W⟩))
  · exact br_f h (br_f h' (gY _ (br_f h (br_f h' ⟨rfl, ts_mk hpf RF W⟩))))
theorem ts_action {k : Nat} {pf xa xc ya yc : Int32} {K N kp ap ad cp K' N' tk ap' ad' cp' : Nat → Int32} (hpf : pf = -1 ∨ ∃ s : Nat, s < 2 ∧ pf = nI (1 - s)) (R : ts_R K N K' N') (W : ts_W K) (v1 v2 : Int32) : wX_action_12 (fun r u' => wY_action_12 (fun r' v' => r' = r ∧ i_Rel (k + 4) u' v') v1 v2 pf ya yc K' N' kp tk ap' ad' cp') v1 v2 pf xa xc K N kp ap ad cp := by
  unfold wX_action_12 wY_action_12
  obtain ⟨a2, c2, apF, adF, cpF, KF', NF', tkF, apG, adG, cpG, h1, h2, RF, h4, h5, gX, gY⟩ := ts_look (xa := xa) (xc := xc) (ya := ya) (yc := yc) (kp := kp) (ap := ap) (ad := ad) (cp := cp) (tk := tk) (ap' := ap') (ad' := ad') (cp' := cp') hpf R
  refine gX _ ?_
  rcases ts_idx v1 a2 h1 with ⟨i, hi, rfl⟩ | h | ⟨h, h'⟩
  · refine br_f (nI_pos (by omega)) (br_t (nI_lt hi (by omega)) ?_)
    by_cases z : v2 = 0
    · refine br_t z ⟨vp_in_nI (by omega) (by decide), gY _ (br_f (nI_pos (by omega)) (br_t (nI_lt hi (by omega)) (br_t z ⟨vp_in_nI (by omega) (by decide), ?_, ts_mk hpf RF W⟩)))⟩
      rw [nI_clamp (by omega)]; exact (h4 i hi).1
    · refine br_f z ⟨vp_in_nI (by omega) (by decide), gY _ (br_f (nI_pos (by omega)) (br_t (nI_lt hi (by omega)) (br_f z ⟨vp_in_nI (by omega) (by decide), ?_, ts_mk hpf RF W⟩)))⟩
      rw [nI_clamp (by omega)]; exact (h4 i hi).2
  · exact br_t h (gY _ (br_t h ⟨rfl, ts_mk hpf RF W⟩))
  · exact br_f h (br_f h' (gY _ (br_f h (br_f h' ⟨rfl, ts_mk hpf RF W⟩))))
theorem i_vc_action {k : Nat} {u : SX} {v : SY} (I : i_Rel k u v) (hk : k + 4 ≤ 2048) (v1 : Int32) (v2 : Int32) : wpX_action (fun r u' => wpY_action (fun r' v' => r' = r ∧ i_Rel (k + 4) u' v') v v1 v2) u v1 v2 := by
  have J := i_up I
  obtain ⟨pf, xa, xc, ya, yc, K, N, kp, ap, ad, cp, K', N', tk, ap', ad', cp', rfl, rfl, hpf, R, W⟩ := I
  unfold wpX_action
  by_cases z : v2 = 0
  · refine br_t z ?_
    have e : (fun (r : Int32) (u' : SX) => wpY_action (fun r' v' => r' = r ∧ i_Rel (k + 4) u' v') (pf, ya, yc, K', N', kp, tk, ap', ad', cp') v1 v2) = (fun r u' => wY_action_12 (fun r' v' => r' = r ∧ i_Rel (k + 4) u' v') v1 v2 pf ya yc K' N' kp tk ap' ad' cp') := by
      funext r u'
      exact propext ⟨fun h => h.1 z, fun h => br_t z h⟩
    rw [e]
    exact ts_action hpf R W v1 v2
  · by_cases o : v2 = 1
    · refine br_f z (br_t o ?_)
      have e : (fun (r : Int32) (u' : SX) => wpY_action (fun r' v' => r' = r ∧ i_Rel (k + 4) u' v') (pf, ya, yc, K', N', kp, tk, ap', ad', cp') v1 v2) = (fun r u' => wY_action_12 (fun r' v' => r' = r ∧ i_Rel (k + 4) u' v') v1 v2 pf ya yc K' N' kp tk ap' ad' cp') := by
        funext r u'
        exact propext ⟨fun h => (h.2 z).1 o, fun h => br_f z (br_t o h)⟩
      rw [e]
      exact ts_action hpf R W v1 v2
    · exact br_f z (br_f o (br_f z (br_f o ⟨rfl, J⟩)))
