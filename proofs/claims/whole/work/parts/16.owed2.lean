/-! write, folder, remove, move, copy -/
theorem i_vc_write {k : Nat} {u : SX} {v : SY} (I : i_Rel k u v) (hk : k + 4 ≤ 2048) (v1 : Int32) (v2 : Int32) (v3 : Int32) : wpX_write (fun r u' => wpY_write (fun r' v' => r' = r ∧ i_Rel (k + 4) u' v') v v1 v2 v3) u v1 v2 v3 := by
  have J := i_up I
  obtain ⟨pf, xa, xc, ya, yc, K, N, kp, ap, ad, cp, K', N', tk, ap', ad', cp', rfl, rfl, hpf, R, W⟩ := I
  unfold wpX_write wpY_write
  rcases ts_side v1 with ⟨s, hs, rfl⟩ | ⟨n0, n1⟩
  · rcases ts_path v2 with ⟨p, hp, rfl⟩ | hb
    · have C := R (84 * s + p) (by omega)
      have EF : (4 ≤ p → K' (84 * s + (p / 4 - 1)) = 2) ↔ (4 ≤ p → K (84 * s + (p / 4 - 1)) = 2) := by rw [(R (84 * s + (p / 4 - 1)) (by omega)).1]
      refine tx_side_t hs (br_f (by decide) (tx_path_t hp (br_f (by decide) (tx_folder (by omega) hp (fun F => ?_) (fun F => br_t rfl ?_)))))
      · refine br_f (by decide) (tx_kindAt (by omega) (by omega) ?_)
        rw [ts_rd_t hp]
        by_cases c2 : K (84 * s + p) = 2
        · exact br_t c2 (ty_side_t hs (br_f (by decide) (ty_path_t hp (br_f (by decide) (ty_parent (by omega) hp (fun _ => br_f (by decide) (ty_kindAt (by omega) hp (br_t (C.1.trans c2) ⟨rfl, J⟩))) (fun z => absurd (EF.mpr F) z))))))
        · have RR : ts_R (upd K (84 * s + p) 1) (upd N (84 * s + p) v3) (upd K' (84 * s + p) 1) (upd N' (84 * s + p) v3) := ts_R_up R (Or.inr (Or.inl rfl)) (y := v3) (by rw [pk_us, if_pos rfl]) (fun _ => pk_us) (fun j hj => pk_un hj) (fun j hj => pk_un hj)
          have JJ : i_Rel (k + 4) (pf, xa, xc, upd K (84 * s + p) 1, upd N (84 * s + p) v3, kp, ap, ad, cp) (pf, ya, yc, upd K' (84 * s + p) 1, upd N' (84 * s + p) v3, kp, tk, ap', ad', cp') := ts_mk hpf RR (ts_W_up W 1 hp c2 F)
          refine br_f c2 (tx_setEntry (by omega) (by omega) ?_)
          rw [ts_st_t hp, ts_st_t hp]
          rcases C.2.1 with c0 | c1 | c3
          · refine br_f (by rw [c0]; decide) (ty_side_t hs (br_f (by decide) (ty_path_t hp (br_f (by decide) (ty_parent (by omega) hp (fun _ => br_f (by decide) (ty_kindAt (by omega) hp (br_f (by rw [C.1]; exact c2) ⟨ts_yin (by omega) hp, ?_⟩))) (fun z => absurd (EF.mpr F) z))))))
            exact nm_r (e' := upd K' (84 * s + p) 1) (by rw [ts_ycl (by omega) hp]) ⟨ts_yin (by omega) hp, nm_r (e' := upd N' (84 * s + p) v3) (by rw [ts_ycl (by omega) hp]) ⟨C.1.trans c0, JJ⟩⟩
          · refine br_t c1 (ty_side_t hs (br_f (by decide) (ty_path_t hp (br_f (by decide) (ty_parent (by omega) hp (fun _ => br_f (by decide) (ty_kindAt (by omega) hp (br_f (by rw [C.1]; exact c2) ⟨ts_yin (by omega) hp, ?_⟩))) (fun z => absurd (EF.mpr F) z))))))
            exact nm_r (e' := upd K' (84 * s + p) 1) (by rw [ts_ycl (by omega) hp]) ⟨ts_yin (by omega) hp, nm_r (e' := upd N' (84 * s + p) v3) (by rw [ts_ycl (by omega) hp]) ⟨C.1.trans c1, JJ⟩⟩
          · exact absurd c3 c2
      · exact ty_side_t hs (br_f (by decide) (ty_path_t hp (br_f (by decide) (ty_parent (by omega) hp (fun z => absurd (EF.mp z) F) (fun _ => br_t rfl ⟨rfl, J⟩)))))
    · exact tx_side_t hs (br_f (by decide) (tx_path_f hb (br_t rfl (ty_side_t hs (br_f (by decide) (ty_path_f hb (br_t rfl ⟨rfl, J⟩)))))))
  · exact tx_side_f n0 n1 (br_t rfl (ty_side_f n0 n1 (br_t rfl ⟨rfl, J⟩)))
theorem i_vc_folder {k : Nat} {u : SX} {v : SY} (I : i_Rel k u v) (hk : k + 4 ≤ 2048) (v1 : Int32) (v2 : Int32) : wpX_folder (fun r u' => wpY_folder (fun r' v' => r' = r ∧ i_Rel (k + 4) u' v') v v1 v2) u v1 v2 := by
  have J := i_up I
  obtain ⟨pf, xa, xc, ya, yc, K, N, kp, ap, ad, cp, K', N', tk, ap', ad', cp', rfl, rfl, hpf, R, W⟩ := I
  unfold wpX_folder wpY_folder
  rcases ts_side v1 with ⟨s, hs, rfl⟩ | ⟨n0, n1⟩
  · rcases ts_path v2 with ⟨p, hp, rfl⟩ | hb
    · have C := R (84 * s + p) (by omega)
      have EF : (4 ≤ p → K' (84 * s + (p / 4 - 1)) = 2) ↔ (4 ≤ p → K (84 * s + (p / 4 - 1)) = 2) := by rw [(R (84 * s + (p / 4 - 1)) (by omega)).1]
      refine tx_side_t hs (br_f (by decide) (tx_path_t hp (br_f (by decide) (tx_folder (by omega) hp (fun F => ?_) (fun F => br_t rfl ?_)))))
      · refine br_f (by decide) (tx_kindAt (by omega) (by omega) ?_)
        rw [ts_rd_t hp]
        by_cases c0 : K (84 * s + p) = 0
        · have RR : ts_R (upd K (84 * s + p) 2) (upd N (84 * s + p) 0) (upd K' (84 * s + p) 2) N' := ts_R_up R (Or.inr (Or.inr rfl)) (y := 0) (by rw [pk_us, if_neg (by decide)]) (fun z => absurd z (by decide)) (fun j hj => pk_un hj) (fun _ _ => rfl)
          have JJ : i_Rel (k + 4) (pf, xa, xc, upd K (84 * s + p) 2, upd N (84 * s + p) 0, kp, ap, ad, cp) (pf, ya, yc, upd K' (84 * s + p) 2, N', kp, tk, ap', ad', cp') := ts_mk hpf RR (ts_W_up W 2 hp (by rw [c0]; decide) F)
          refine br_t c0 (tx_setEntry (by omega) (by omega) ?_)
          rw [ts_st_t hp, ts_st_t hp]
          exact ty_side_t hs (br_f (by decide) (ty_path_t hp (br_f (by decide) (ty_parent (by omega) hp (fun _ => br_f (by decide) (ty_kindAt (by omega) hp (br_t (C.1.trans c0) ⟨ts_yin (by omega) hp, nm_r (e' := upd K' (84 * s + p) 2) (by rw [ts_ycl (by omega) hp]) ⟨rfl, JJ⟩⟩))) (fun z => absurd (EF.mpr F) z)))))
        · exact br_f c0 (ty_side_t hs (br_f (by decide) (ty_path_t hp (br_f (by decide) (ty_parent (by omega) hp (fun _ => br_f (by decide) (ty_kindAt (by omega) hp (br_f (fun y => c0 (C.1.symm.trans y)) ⟨rfl, J⟩))) (fun z => absurd (EF.mpr F) z))))))
      · exact ty_side_t hs (br_f (by decide) (ty_path_t hp (br_f (by decide) (ty_parent (by omega) hp (fun z => absurd (EF.mp z) F) (fun _ => br_t rfl ⟨rfl, J⟩)))))
    · exact tx_side_t hs (br_f (by decide) (tx_path_f hb (br_t rfl (ty_side_t hs (br_f (by decide) (ty_path_f hb (br_t rfl ⟨rfl, J⟩)))))))
  · exact tx_side_f n0 n1 (br_t rfl (ty_side_f n0 n1 (br_t rfl ⟨rfl, J⟩)))
theorem i_vc_remove {k : Nat} {u : SX} {v : SY} (I : i_Rel k u v) (hk : k + 4 ≤ 2048) (v1 : Int32) (v2 : Int32) : wpX_remove (fun r u' => wpY_remove (fun r' v' => r' = r ∧ i_Rel (k + 4) u' v') v v1 v2) u v1 v2 := by
  have J := i_up I
  obtain ⟨pf, xa, xc, ya, yc, K, N, kp, ap, ad, cp, K', N', tk, ap', ad', cp', rfl, rfl, hpf, R, W⟩ := I
  unfold wpX_remove wpY_remove
  rcases ts_side v1 with ⟨s, hs, rfl⟩ | ⟨n0, n1⟩
  · rcases ts_path v2 with ⟨p, hp, rfl⟩ | hb
    · have C := R (84 * s + p) (by omega)
      have cn : ts_cn K' s p 21 = ts_cn K s p 21 := ts_cn_c 21 fun j _ => ts_rd_C (ts_R_in R (by omega))
      refine tx_side_t hs (br_f (by decide) (tx_path_t hp (br_f (by decide) (tx_kindAt (by omega) (by omega) ?_))))
      rw [ts_rd_t hp]
      by_cases c0 : K (84 * s + p) = 0
      · exact br_t c0 (ty_side_t hs (br_f (by decide) (ty_path_t hp (br_f (by decide) (ty_countIn (by omega) hp (ty_kindAt (by omega) hp (br_t (C.1.trans c0) ⟨rfl, J⟩)))))))
      · refine br_f c0 (tx_clear (by omega) hp (ty_side_t hs (br_f (by decide) (ty_path_t hp (br_f (by decide) (ty_countIn (by omega) hp (ty_kindAt (by omega) hp (br_f (fun y => c0 (C.1.symm.trans y)) (ty_empty (by omega) hp ⟨?_, ts_mk hpf (ts_R_em R (by omega)) (ts_W_ec W s p)⟩)))))))))
        rw [cn]
    · exact tx_side_t hs (br_f (by decide) (tx_path_f hb (br_t rfl (ty_side_t hs (br_f (by decide) (ty_path_f hb (br_t rfl ⟨rfl, J⟩)))))))
  · exact tx_side_f n0 n1 (br_t rfl (ty_side_f n0 n1 (br_t rfl ⟨rfl, J⟩)))
/-! the refusal is one and the same -/
theorem ts_ref_c {K K' : Nat → Int32} {s p q : Nat} (hs : s < 2) (hp : p < 84) (hq : q < 84) (e : ∀ i, i < 504 → K' i = K i) : ts_ref K' s p q = ts_ref K s p q := by
  have e1 := e (84 * s + p) (by omega)
  have e2 := e (84 * s + (q / 4 - 1)) (by omega)
  have e3 := e (84 * s + q) (by omega)
  have e4 : ts_dp K' s p 21 = ts_dp K s p 21 := ts_dp_c 21 fun j _ => ts_rd_c fun hc => e _ (by omega)
  unfold ts_ref
  rw [e1, e2, e3, e4]
theorem ts_ref_0 {K : Nat → Int32} {s p q : Nat} (h : ts_ref K s p q = 0) : K (84 * s + p) ≠ 0 ∧ (4 ≤ q → K (84 * s + (q / 4 - 1)) = 2) ∧ K (84 * s + q) = 0 ∧ ¬ ts_B q p := by
  unfold ts_ref at h
  by_cases c1 : K (84 * s + p) = 0
  · rw [if_pos c1] at h; exact absurd h (by decide)
  rw [if_neg c1] at h
  by_cases c2 : 4 ≤ q → K (84 * s + (q / 4 - 1)) = 2
  · rw [if_pos c2] at h
    by_cases c3 : K (84 * s + q) = 0
    · rw [if_pos c3] at h
      by_cases c4 : ts_B q p ∨ 3 ≤ ts_lq q + ts_dp K s p 21
      · rw [if_pos c4] at h; exact absurd h (by decide)
      · exact ⟨c1, c2, c3, fun z => c4 (Or.inl z)⟩
    · rw [if_neg c3] at h; exact absurd h (by decide)
  · rw [if_neg c2] at h; exact absurd h (by decide)
theorem ts_ref_D {K : Nat → Int32} (W : ts_W K) {s p q : Nat} (hs : s < 2) (hp : p < 84) (hq : q < 84) (h : ts_ref K s p q = 0) : ts_dj s p s q := by
  obtain ⟨h1, h2, h3, h4⟩ := ts_ref_0 h
  exact ts_dj_s W hs hp hq h1 h3 (fun a b => h4 (Or.inl ⟨a, b⟩)) (fun a b => h4 (Or.inr ⟨a, b⟩))
/-- bad arguments of move and copy -/
theorem ts_args (v1 v2 v3 : Int32) : (∃ s p q : Nat, s < 2 ∧ p < 84 ∧ q < 84 ∧ v1 = nI s ∧ v2 = nI p ∧ v3 = nI q) ∨
    (∀ (P : Int32 → Prop) (Q : Int32 → Prop) (x : SX) (y : SY), P (-1000000001) → Q (-1000000001) → wpX_refusalToPlace P x v1 v2 v3 ∧ wpY_test Q y v1 v2 v3) := by
  rcases ts_side v1 with ⟨s, hs, rfl⟩ | ⟨n0, n1⟩
  · rcases ts_path v2 with ⟨p, hp, rfl⟩ | hb
    · rcases ts_path v3 with ⟨q, hq, rfl⟩ | hc
      · exact Or.inl ⟨s, p, q, hs, hp, hq, rfl, rfl, rfl⟩
      · refine Or.inr fun P Q x y hP hQ => ?_
        obtain ⟨xf, xa, xc, K, N, kp, ap, ad, cp⟩ := x
        obtain ⟨yf, ya, yc, K', N', kp', tk, ap', ad', cp'⟩ := y
        unfold wpX_refusalToPlace wpY_test
        exact ⟨tx_side_t hs (br_f (by decide) (tx_path_t hp (br_f (by decide) (tx_path_f hc (br_t rfl hP))))), ty_side_t hs (br_f (by decide) (ty_path_t hp (br_f (by decide) (ty_path_f hc (br_t rfl hQ)))))⟩
    · refine Or.inr fun P Q x y hP hQ => ?_
      obtain ⟨xf, xa, xc, K, N, kp, ap, ad, cp⟩ := x
      obtain ⟨yf, ya, yc, K', N', kp', tk, ap', ad', cp'⟩ := y
      unfold wpX_refusalToPlace wpY_test
      exact ⟨tx_side_t hs (br_f (by decide) (tx_path_f hb (br_t rfl hP))), ty_side_t hs (br_f (by decide) (ty_path_f hb (br_t rfl hQ)))⟩
  · refine Or.inr fun P Q x y hP hQ => ?_
    obtain ⟨xf, xa, xc, K, N, kp, ap, ad, cp⟩ := x
    obtain ⟨yf, ya, yc, K', N', kp', tk, ap', ad', cp'⟩ := y
    unfold wpX_refusalToPlace wpY_test
    exact ⟨tx_side_f n0 n1 (br_t rfl hP), ty_side_f n0 n1 (br_t rfl hQ)⟩
theorem i_vc_move {k : Nat} {u : SX} {v : SY} (I : i_Rel k u v) (hk : k + 4 ≤ 2048) (v1 : Int32) (v2 : Int32) (v3 : Int32) : wpX_move (fun r u' => wpY_move (fun r' v' => r' = r ∧ i_Rel (k + 4) u' v') v v1 v2 v3) u v1 v2 v3 := by
  have J := i_up I
  obtain ⟨pf, xa, xc, ya, yc, K, N, kp, ap, ad, cp, K', N', tk, ap', ad', cp', rfl, rfl, hpf, R, W⟩ := I
  unfold wpX_move wpY_move
  rcases ts_args v1 v2 v3 with ⟨s, p, q, hs, hp, hq, rfl, rfl, rfl⟩ | B
  · have e := ts_ref_c hs hp hq (fun i hi => (R i hi).1)
    refine tx_ref hs hp hq ?_
    by_cases z : ts_ref K s p q = 0
    · have D := ts_ref_D W hs hp hq z
      have h0 := ts_ref_0 z
      refine br_t z (tx_copy (by omega) hp (by omega) hq (tx_clear (by omega) hp (ty_test hs hp hq ?_)))
      refine br_t (e.trans z) (ty_put (u := 9) (q := 0) (by omega) hp (by omega) (by omega) (ty_empty (by omega) hp (ty_put (t := 9) (p := 0) (by omega) (by omega) (by omega) hq ⟨e.trans z, ?_⟩)))
      exact ts_mk hpf (ts_R_move R hs D) (ts_W_ec (ts_W_cp W D (by omega) (by omega) hq h0.2.1) s p)
    · exact br_f z (ty_test hs hp hq (br_f (fun y => z (e.symm.trans y)) ⟨e, J⟩))
  · exact (B _ (fun _ => True) _ (pf, ya, yc, K', N', kp, tk, ap', ad', cp') (br_f (by decide) ((B (fun _ => True) _ (pf, xa, xc, K, N, kp, ap, ad, cp) _ trivial (br_f (by decide) ⟨rfl, J⟩)).2)) trivial).1
theorem i_vc_copy {k : Nat} {u : SX} {v : SY} (I : i_Rel k u v) (hk : k + 4 ≤ 2048) (v1 : Int32) (v2 : Int32) (v3 : Int32) : wpX_copy (fun r u' => wpY_copy (fun r' v' => r' = r ∧ i_Rel (k + 4) u' v') v v1 v2 v3) u v1 v2 v3 := by
  have J := i_up I
  obtain ⟨pf, xa, xc, ya, yc, K, N, kp, ap, ad, cp, K', N', tk, ap', ad', cp', rfl, rfl, hpf, R, W⟩ := I
  unfold wpX_copy wpY_copy
  rcases ts_args v1 v2 v3 with ⟨s, p, q, hs, hp, hq, rfl, rfl, rfl⟩ | B
  · have e := ts_ref_c hs hp hq (fun i hi => (R i hi).1)
    refine tx_ref hs hp hq ?_
    by_cases z : ts_ref K s p q = 0
    · have D := ts_ref_D W hs hp hq z
      have h0 := ts_ref_0 z
      refine br_t z (tx_copy (by omega) hp (by omega) hq (ty_test hs hp hq ?_))
      refine br_t (e.trans z) (ty_put (u := 9) (q := 0) (by omega) hp (by omega) (by omega) (ty_put (t := 9) (p := 0) (by omega) (by omega) (by omega) hq ⟨e.trans z, ?_⟩))
      exact ts_mk hpf (ts_R_copy R hs D) (ts_W_cp W D (by omega) (by omega) hq h0.2.1)
    · exact br_f z (ty_test hs hp hq (br_f (fun y => z (e.symm.trans y)) ⟨e, J⟩))
  · exact (B _ (fun _ => True) _ (pf, ya, yc, K', N', kp, tk, ap', ad', cp') (br_f (by decide) ((B (fun _ => True) _ (pf, xa, xc, K, N, kp, ap, ad, cp) _ trivial (br_f (by decide) ⟨rfl, J⟩)).2)) trivial).1
