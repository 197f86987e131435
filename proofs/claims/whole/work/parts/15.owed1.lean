/-! the relation; the constructors; the methods that only read -/
def i_Rel (_ : Nat) (u : SX) (v : SY) : Prop := ∃ (pf xa xc ya yc : Int32) (K N kp ap ad cp K' N' tk ap' ad' cp' : Nat → Int32), u = (pf, xa, xc, K, N, kp, ap, ad, cp) ∧ v = (pf, ya, yc, K', N', kp, tk, ap', ad', cp') ∧ (pf = -1 ∨ ∃ s : Nat, s < 2 ∧ pf = nI (1 - s)) ∧ ts_R K N K' N' ∧ ts_W K
theorem i_up {k : Nat} {u : SX} {v : SY} (h : i_Rel k u v) : i_Rel (k + 4) u v := h
theorem ts_mk {k : Nat} {pf xa xc ya yc : Int32} {K N kp ap ad cp K' N' tk ap' ad' cp' : Nat → Int32} (hpf : pf = -1 ∨ ∃ s : Nat, s < 2 ∧ pf = nI (1 - s)) (R : ts_R K N K' N') (W : ts_W K) : i_Rel k (pf, xa, xc, K, N, kp, ap, ad, cp) (pf, ya, yc, K', N', kp, tk, ap', ad', cp') :=
  ⟨pf, xa, xc, ya, yc, K, N, kp, ap, ad, cp, K', N', tk, ap', ad', cp', rfl, rfl, hpf, R, W⟩
theorem i_vc0 : wpX_init (fun u => wpY_init (fun v => i_Rel 0 u v)) :=
  ts_mk (k := 0) (Or.inl rfl) (fun _ _ => ts_C_z rfl rfl rfl) (fun _ _ _ _ _ _ h => absurd rfl h)
theorem i_vc_kind {k : Nat} {u : SX} {v : SY} (I : i_Rel k u v) (hk : k + 4 ≤ 2048) (v1 : Int32) (v2 : Int32) : wpX_kind (fun r => wpY_kind (fun r' => r' = r ∧ i_Rel (k + 4) u v) v v1 v2) u v1 v2 := by
  have J := i_up I
  obtain ⟨pf, xa, xc, ya, yc, K, N, kp, ap, ad, cp, K', N', tk, ap', ad', cp', rfl, rfl, hpf, R, W⟩ := I
  unfold wpX_kind wpY_kind
  rcases ts_side v1 with ⟨s, hs, rfl⟩ | ⟨n0, n1⟩
  · rcases ts_path v2 with ⟨p, hp, rfl⟩ | hb
    · refine tx_side_t hs (br_f (by decide) (tx_path_t hp (br_f (by decide) (tx_kindAt (by omega) (by omega) ?_))))
      rw [ts_rd_t hp]
      exact ty_side_t hs (br_f (by decide) (ty_path_t hp (br_f (by decide) (ty_kindAt (by omega) hp ⟨(R _ (by omega)).1, J⟩))))
    · exact tx_side_t hs (br_f (by decide) (tx_path_f hb (br_t rfl (ty_side_t hs (br_f (by decide) (ty_path_f hb (br_t rfl ⟨rfl, J⟩)))))))
  · exact tx_side_f n0 n1 (br_t rfl (ty_side_f n0 n1 (br_t rfl ⟨rfl, J⟩)))
theorem i_vc_number {k : Nat} {u : SX} {v : SY} (I : i_Rel k u v) (hk : k + 4 ≤ 2048) (v1 : Int32) (v2 : Int32) : wpX_number (fun r => wpY_number (fun r' => r' = r ∧ i_Rel (k + 4) u v) v v1 v2) u v1 v2 := by
  have J := i_up I
  obtain ⟨pf, xa, xc, ya, yc, K, N, kp, ap, ad, cp, K', N', tk, ap', ad', cp', rfl, rfl, hpf, R, W⟩ := I
  unfold wpX_number wpY_number
  rcases ts_side v1 with ⟨s, hs, rfl⟩ | ⟨n0, n1⟩
  · rcases ts_path v2 with ⟨p, hp, rfl⟩ | hb
    · have C := R (84 * s + p) (by omega)
      refine tx_side_t hs (br_f (by decide) (tx_path_t hp (br_f (by decide) (tx_kindAt (by omega) (by omega) ?_))))
      rw [ts_rd_t hp]
      by_cases z : K (84 * s + p) = 1
      · refine br_t z (tx_numberAt (by omega) (by omega) ?_)
        rw [ts_rd_t hp]
        refine ty_side_t hs (br_f (by decide) (ty_path_t hp (br_f (by decide) (ty_kindAt (by omega) hp (br_t (C.1.trans z) ⟨ts_yin (by omega) hp, ?_⟩)))))
        rw [ts_ycl (by omega) hp]
        exact ⟨(ts_C_1 C z).symm, J⟩
      · exact br_f z (ty_side_t hs (br_f (by decide) (ty_path_t hp (br_f (by decide) (ty_kindAt (by omega) hp (br_f (fun y => z (C.1.symm.trans y)) ⟨rfl, J⟩))))))
    · exact tx_side_t hs (br_f (by decide) (tx_path_f hb (br_t rfl (ty_side_t hs (br_f (by decide) (ty_path_f hb (br_t rfl ⟨rfl, J⟩)))))))
  · exact tx_side_f n0 n1 (br_t rfl (ty_side_f n0 n1 (br_t rfl ⟨rfl, J⟩)))
theorem i_vc_lastKind {k : Nat} {u : SX} {v : SY} (I : i_Rel k u v) (hk : k + 4 ≤ 2048) (v1 : Int32) : wpX_lastKind (fun r => wpY_lastKind (fun r' => r' = r ∧ i_Rel (k + 4) u v) v v1) u v1 := by
  have J := i_up I
  obtain ⟨pf, xa, xc, ya, yc, K, N, kp, ap, ad, cp, K', N', tk, ap', ad', cp', rfl, rfl, hpf, R, W⟩ := I
  unfold wpX_lastKind wpY_lastKind
  rcases ts_path v1 with ⟨p, hp, rfl⟩ | hb
  · refine tx_path_t hp (br_f (by decide) (tx_kindAt (t := 2) (by omega) (by omega) ?_))
    rw [ts_rd_t hp]
    exact ty_path_t hp (br_f (by decide) (ty_kindAt (t := 2) (by omega) hp ⟨(R _ (by omega)).1, J⟩))
  · exact tx_path_f hb (br_t rfl (ty_path_f hb (br_t rfl ⟨rfl, J⟩)))
theorem i_vc_size {k : Nat} {u : SX} {v : SY} (I : i_Rel k u v) (hk : k + 4 ≤ 2048) (v1 : Int32) : wpX_size (fun r => wpY_size (fun r' => r' = r ∧ i_Rel (k + 4) u v) v v1) u v1 := by
  have J := i_up I
  obtain ⟨pf, xa, xc, ya, yc, K, N, kp, ap, ad, cp, K', N', tk, ap', ad', cp', rfl, rfl, hpf, R, W⟩ := I
  unfold wpX_size wpY_size
  rcases ts_side v1 with ⟨s, hs, rfl⟩ | ⟨n0, n1⟩
  · refine tx_side_t hs (br_f (by decide) (tx_size (by omega) (ty_side_t hs (br_f (by decide) (ty_count (by omega) ⟨?_, J⟩)))))
    rw [ts_cz_c 84 (fun i hi => (R (84 * s + i) (by omega)).1)]
  · exact tx_side_f n0 n1 (br_t rfl (ty_side_f n0 n1 (br_t rfl ⟨rfl, J⟩)))
theorem i_vc_changed {k : Nat} {u : SX} {v : SY} (I : i_Rel k u v) (hk : k + 4 ≤ 2048) (v1 : Int32) : wpX_changed (fun r => wpY_changed (fun r' => r' = r ∧ i_Rel (k + 4) u v) v v1) u v1 := by
  have J := i_up I
  obtain ⟨pf, xa, xc, ya, yc, K, N, kp, ap, ad, cp, K', N', tk, ap', ad', cp', rfl, rfl, hpf, R, W⟩ := I
  unfold wpX_changed wpY_changed
  rcases ts_side v1 with ⟨s, hs, rfl⟩ | ⟨n0, n1⟩
  · refine tx_side_t hs (br_f (by decide) (tx_diff (u := 2) (by omega) (by omega) (ty_side_t hs (br_f (by decide) ⟨85, ty_changed_l (by omega) ⟨?_, J⟩ 84 0 rfl⟩))))
    rw [ts_cq_c 84 (fun i hi => not_congr (ts_L_iff (R (84 * s + i) (by omega)) (R (84 * 2 + i) (by omega))))]
  · exact tx_side_f n0 n1 (br_t rfl (ty_side_f n0 n1 (br_t rfl ⟨rfl, J⟩)))
theorem i_vc_same {k : Nat} {u : SX} {v : SY} (I : i_Rel k u v) (hk : k + 4 ≤ 2048) : wpX_same (fun r => wpY_same (fun r' => r' = r ∧ i_Rel (k + 4) u v) v) u := by
  have J := i_up I
  obtain ⟨pf, xa, xc, ya, yc, K, N, kp, ap, ad, cp, K', N', tk, ap', ad', cp', rfl, rfl, hpf, R, W⟩ := I
  unfold wpX_same wpY_same
  refine tx_diff (t := 0) (u := 1) (by omega) (by omega) ?_
  have L : ∀ i, i < 84 → ((K' (84 * 0 + i) = K' (84 * 1 + i) ∧ (K' (84 * 0 + i) = 1 → N' (84 * 0 + i) = N' (84 * 1 + i))) ↔ (K (84 * 0 + i) = K (84 * 1 + i) ∧ N (84 * 0 + i) = N (84 * 1 + i))) := fun i hi => ts_L_iff (R (84 * 0 + i) (by omega)) (R (84 * 1 + i) (by omega))
  have le := ts_cq_le (fun i => ¬ (K (84 * 0 + i) = K (84 * 1 + i) ∧ N (84 * 0 + i) = N (84 * 1 + i))) 84
  by_cases z : ts_cq (fun i => ¬ (K (84 * 0 + i) = K (84 * 1 + i) ∧ N (84 * 0 + i) = N (84 * 1 + i))) 84 = 0
  · rw [z]
    have z2 := (ts_cq_0 84).mp z
    refine br_t rfl ⟨85, ty_same2_l (fun _ => ⟨rfl, J⟩) (fun y => absurd (fun i hi => (L i hi).mpr (Classical.not_not.mp (z2 i hi))) y) 84 0 rfl (fun i hi => absurd hi (by omega))⟩
  · refine br_f (nI_ne0 (by omega) (by omega)) ⟨85, ty_same2_l (fun y => absurd ((ts_cq_0 84).mpr fun i hi q => q ((L i hi).mp (y i hi))) z) (fun _ => ⟨rfl, J⟩) 84 0 rfl (fun i hi => absurd hi (by omega))⟩
/-! twins -/
section
variable {post : Int32 → Prop} {xf xa xc yf ya yc : Int32} {K N kp tk ap ad cp : Nat → Int32}
theorem tx_twins_l {s p : Nat} (hs : s < 2) (hp : p < 84) (h : post (nI (ts_cq (fun q => q ≠ p ∧ ts_SX K N s p s q) 84))) : ∀ d q : Nat, q + d = 84 → wX_twins_33 post (nI s) (nI p) xf xa xc K N kp ap ad cp (d + 1) (nI (ts_cq (fun q => q ≠ p ∧ ts_SX K N s p s q) q)) (nI q) := by
  intro d
  induction d with
  | zero =>
    intro q hq
    obtain rfl : q = 84 := by omega
    exact br_t (nI_le (a := 84) (b := 84) (Nat.le_refl _) (by decide)) h
  | succ d ih =>
    intro q hq
    have i := ih (q + 1) (by omega)
    refine br_f (nI_ge (b := 84) (by omega) (by decide)) (pk_eq q p (fun e => ?_) (fun e => ?_))
    · rw [ts_cq_f (fun y => y.1 e)] at i
      exact nm_r (nI_1 q) i
    · refine tx_same (by omega) hp (by omega) (by omega) (fun S => ?_) (fun S => ?_)
      · rw [ts_cq_t ⟨e, S⟩] at i
        exact br_f (by decide) (nm_r (nI_1 _) (nm_r (nI_1 q) i))
      · rw [ts_cq_f (fun y => S y.2)] at i
        exact br_t rfl (nm_r (nI_1 q) i)
theorem ty_twins_l {s p : Nat} (hs : s < 2) (hp : p < 84) (h : post (nI (ts_cq (fun q => q ≠ p ∧ K (84 * s + p) ≠ 0 ∧ ts_SY K N s p s q) 84))) : ∀ d q : Nat, q + d = 84 → wY_twins_24 post (nI s) (nI p) yf ya yc K N kp tk ap ad cp (d + 1) (nI (ts_cq (fun q => q ≠ p ∧ K (84 * s + p) ≠ 0 ∧ ts_SY K N s p s q) q)) (nI q) := by
  intro d
  induction d with
  | zero =>
    intro q hq
    obtain rfl : q = 84 := by omega
    exact br_t (nI_le (a := 84) (b := 84) (Nat.le_refl _) (by decide)) h
  | succ d ih =>
    intro q hq
    have i := ih (q + 1) (by omega)
    refine br_f (nI_ge (b := 84) (by omega) (by decide)) (pk_eq q p (fun e => ?_) (fun e => ?_))
    · rw [ts_cq_f (fun y => y.1 e)] at i
      exact nm_r (nI_1 q) i
    · refine ty_kindAt (by omega) hp ?_
      by_cases z : K (84 * s + p) = 0
      · rw [ts_cq_f (fun y => y.2.1 z)] at i
        exact br_t z (nm_r (nI_1 q) i)
      · refine br_f z (ty_same (by omega) hp (by omega) (by omega) (fun S => ?_) (fun S => ?_))
        · rw [ts_cq_t ⟨e, z, S⟩] at i
          exact br_f (by decide) (nm_r (nI_1 _) (nm_r (nI_1 q) i))
        · rw [ts_cq_f (fun y => S y.2.2)] at i
          exact br_t rfl (nm_r (nI_1 q) i)
end
theorem i_vc_twins {k : Nat} {u : SX} {v : SY} (I : i_Rel k u v) (hk : k + 4 ≤ 2048) (v1 : Int32) (v2 : Int32) : wpX_twins (fun r => wpY_twins (fun r' => r' = r ∧ i_Rel (k + 4) u v) v v1 v2) u v1 v2 := by
  have J := i_up I
  obtain ⟨pf, xa, xc, ya, yc, K, N, kp, ap, ad, cp, K', N', tk, ap', ad', cp', rfl, rfl, hpf, R, W⟩ := I
  unfold wpX_twins wpY_twins
  rcases ts_side v1 with ⟨s, hs, rfl⟩ | ⟨n0, n1⟩
  · rcases ts_path v2 with ⟨p, hp, rfl⟩ | hb
    · have E := (R (84 * s + p) (by omega)).1
      refine tx_side_t hs (br_f (by decide) (tx_path_t hp (br_f (by decide) (tx_kindAt (by omega) (by omega) ?_))))
      rw [ts_rd_t hp]
      by_cases z : K (84 * s + p) = 0
      · refine br_t z (ty_side_t hs (br_f (by decide) (ty_path_t hp (br_f (by decide) ⟨85, ty_twins_l hs hp ⟨?_, J⟩ 84 0 rfl⟩))))
        rw [(ts_cq_0 84).mpr (fun i _ y => y.2.1 (E.trans z))]; rfl
      · refine br_f z ⟨85, tx_twins_l hs hp ?_ 84 0 rfl⟩
        refine ty_side_t hs (br_f (by decide) (ty_path_t hp (br_f (by decide) ⟨85, ty_twins_l hs hp ⟨?_, J⟩ 84 0 rfl⟩)))
        refine congrArg nI (ts_cq_c 84 fun q hq => ?_)
        have S := ts_S_R R (t := s) (p := p) (u := s) (q := q) (by omega) (by omega)
        exact ⟨fun y => ⟨y.1, S.mp y.2.2⟩, fun y => ⟨y.1, fun w => z (E.symm.trans w), S.mpr y.2⟩⟩
    · exact tx_side_t hs (br_f (by decide) (tx_path_f hb (br_t rfl (ty_side_t hs (br_f (by decide) (ty_path_f hb (br_t rfl ⟨rfl, J⟩)))))))
  · exact tx_side_f n0 n1 (br_t rfl (ty_side_f n0 n1 (br_t rfl ⟨rfl, J⟩)))
