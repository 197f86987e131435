/-! Y's private methods -/
section
variable {post : Int32 → Prop} {qost : SY → Prop} {rost : Int32 → SY → Prop} {yf ya yc : Int32} {K N kp tk ap ad cp : Nat → Int32}
theorem ts_yin {t p : Nat} (ht : t < 10) (hp : p < 84) : vp_in (84 * nI t + nI p) 840 := by
  rw [ts_iy]; exact vp_in_nI (by omega) (by decide)
theorem ts_ycl {t p : Nat} (ht : t < 10) (hp : p < 84) : (84 * nI t + nI p).toNatClampNeg = 84 * t + p := by
  rw [ts_iy]; exact nI_clamp (by omega)
theorem ty_side_t {s : Nat} (hs : s < 2) (h : post 1) : wpY_isSide post (yf, ya, yc, K, N, kp, tk, ap, ad, cp) (nI s) := by
  obtain rfl | rfl : s = 0 ∨ s = 1 := by omega
  · exact br_t rfl h
  · exact br_f (by decide) (br_t rfl h)
theorem ty_side_f {s : Int32} (h0 : ¬ s = 0) (h1 : ¬ s = 1) (h : post 0) : wpY_isSide post (yf, ya, yc, K, N, kp, tk, ap, ad, cp) s := br_f h0 (br_f h1 h)
theorem ty_path_t {p : Nat} (hp : p < 84) (h : post 1) : wpY_isPath post (yf, ya, yc, K, N, kp, tk, ap, ad, cp) (nI p) :=
  br_f (nI_pos (by omega)) (br_f (nI_nlt (a := 83) (by omega) (by decide)) h)
theorem ts_lt_le {p : Int32} (a : Nat) (ha : a < 100) (h0 : ¬ p < 0) (h : nI (a + 1) ≤ p) : nI a < p := by
  obtain ⟨j, hj, rfl⟩ := nI_of h0
  rw [nI_leI (by omega) hj] at h
  exact nI_lt (by omega) hj
theorem ty_path_f {p : Int32} (hp : p < 0 ∨ (¬ p < 0 ∧ 84 ≤ p)) (h : post 0) : wpY_isPath post (yf, ya, yc, K, N, kp, tk, ap, ad, cp) p := by
  rcases hp with hp | ⟨hn, hp⟩
  · exact br_t hp h
  · exact br_f hn (br_t (ts_lt_le 83 (by omega) hn hp) h)
theorem ty_kindAt {t p : Nat} (ht : t < 10) (hp : p < 84) (h : post (K (84 * t + p))) : wpY_kindAt post (yf, ya, yc, K, N, kp, tk, ap, ad, cp) (nI t) (nI p) := by
  refine br_t (nI_pos' (by omega)) ⟨ts_yin ht hp, ?_⟩
  rw [ts_ycl ht hp]; exact h
theorem ty_kindPt {t p k : Nat} (ht : t < 10) (h : post (ts_rd K t (ts_ch p k))) : wpY_kindAt post (yf, ya, yc, K, N, kp, tk, ap, ad, cp) (nI t) (ts_pt p k) := by
  by_cases hc : ts_ch p k < 84
  · rw [ts_rd_t hc] at h
    rw [ts_pt_t hc]; exact ty_kindAt ht hc h
  · rw [ts_rd_f hc] at h
    rw [ts_pt_f hc]; exact br_f (by decide) h
theorem ty_child_t {p n : Nat} (hp : p < 20) (h : post (nI (4 * p + 4 + n))) : wpY_child post (yf, ya, yc, K, N, kp, tk, ap, ad, cp) (nI p) (nI n) := by
  refine br_f (nI_pos (by omega)) (br_t (nI_le (b := 19) (by omega) (by decide)) ?_)
  by_cases h4 : 4 ≤ p
  · refine br_t (nI_le (a := 4) h4 (by omega)) ?_
    have e : 20 + 4 * (nI p - 4) + nI n = nI (4 * p + 4 + n) := by
      show nI 20 + nI 4 * (nI p - nI 4) + nI n = _
      rw [pk_sub h4, pk_mul, nI_add, nI_add]
      exact congrArg nI (by omega)
    rw [e]; exact h
  · refine br_f (nI_ge (b := 4) (by omega) (by decide)) ?_
    have e : 4 + 4 * nI p + nI n = nI (4 * p + 4 + n) := by
      show nI 4 + nI 4 * nI p + nI n = _
      rw [pk_mul, nI_add, nI_add]
      exact congrArg nI (by omega)
    rw [e]; exact h
theorem ty_child_f {p : Nat} {n : Int32} (hp : 20 ≤ p) (hp' : p < 2000) (h : post (-1)) : wpY_child post (yf, ya, yc, K, N, kp, tk, ap, ad, cp) (nI p) n :=
  br_f (nI_pos (by omega)) (br_f (nI_ge (a := 19) (by omega) (by omega)) h)
theorem ty_child_m {n : Int32} (h : post (-1)) : wpY_child post (yf, ya, yc, K, N, kp, tk, ap, ad, cp) (-1) n := br_t (by decide) h
theorem ty_part {p k : Nat} (hp : p < 84) (hk : k < 21) (h : post (ts_pt p k)) : wpY_part post (yf, ya, yc, K, N, kp, tk, ap, ad, cp) (nI p) (nI k) := by
  rcases ts_k3 k with rfl | ⟨a, ha, rfl⟩ | ⟨a, rfl⟩
  · rw [ts_pt_t (by rw [ts_ch_0]; exact hp)] at h
    exact br_t rfl h
  · refine br_f (nI_ne0 (by omega) (by omega)) (br_f (nI_ge (b := 5) (by omega) (by decide)) ?_)
    have e : nI (1 + a) - 1 = nI a := by
      show nI (1 + a) - nI 1 = _
      rw [pk_sub (by omega), Nat.add_sub_cancel_left]
    rw [e]
    unfold wY_part_24
    by_cases h20 : p < 20
    · refine ty_child_t h20 (br_f (nI_ge (b := 5) (by omega) (by decide)) ?_)
      rw [ts_pt_t (by rw [ts_ch_1 _ _ ha]; omega), ts_ch_1 _ _ ha] at h
      exact h
    · refine ty_child_f (by omega) (by omega) (br_f (nI_ge (b := 5) (by omega) (by decide)) ?_)
      rw [ts_pt_f (by rw [ts_ch_1 _ _ ha]; omega)] at h
      exact h
  · refine br_f (nI_ne0 (by omega) (by omega)) (br_t (nI_le (a := 5) (by omega) (by omega)) ⟨by decide, ?_⟩)
    have e0 : nI (5 + a) - 5 = nI a := by
      show nI (5 + a) - nI 5 = _
      rw [pk_sub (by omega), Nat.add_sub_cancel_left]
    have e1 : nI a / 4 = nI (a / 4) := pk_div (d := 4) (by omega) (by omega) (by decide)
    have e2 : nI a - nI (a / 4) * 4 = nI (a % 4) := by
      rw [← e1]; exact pk_rem (d := 4) (by omega) (by omega) (by decide)
    unfold wY_part_24
    rw [e0, e1, e2]
    by_cases h20 : p < 20
    · refine ty_child_t h20 (br_t (nI_le (a := 5) (by omega) (by omega)) ⟨by decide, ?_⟩)
      by_cases h4 : p < 4
      · refine ty_child_t (by omega) ?_
        rw [ts_pt_t (by rw [ts_ch_2]; omega), ts_ch_2, show 16 * p + 20 + a = 4 * (4 * p + 4 + a / 4) + 4 + a % 4 from by omega] at h
        exact h
      · refine ty_child_f (by omega) (by omega) ?_
        rw [ts_pt_f (by rw [ts_ch_2]; omega)] at h
        exact h
    · refine ty_child_f (by omega) (by omega) (br_t (nI_le (a := 5) (by omega) (by omega)) ⟨by decide, ty_child_m ?_⟩)
      rw [ts_pt_f (by rw [ts_ch_2]; omega)] at h
      exact h
theorem ty_par {p : Nat} (h4 : 4 ≤ p) (hp : p < 84) (h : post (nI (p / 4 - 1))) : wpY_parent post (yf, ya, yc, K, N, kp, tk, ap, ad, cp) (nI p) := by
  refine br_t (nI_le (a := 4) h4 (by omega)) ?_
  by_cases h20 : 20 ≤ p
  · refine br_t (nI_le (a := 20) h20 (by omega)) ⟨by decide, ?_⟩
    have e : 4 + (nI p - 20) / 4 = nI (p / 4 - 1) := by
      show nI 4 + (nI p - nI 20) / nI 4 = _
      rw [pk_sub h20, pk_div (by omega) (by omega) (by decide), nI_add]
      exact congrArg nI (by omega)
    rw [e]; exact h
  · refine br_f (nI_ge (b := 20) (by omega) (by decide)) ⟨by decide, ?_⟩
    have e : (nI p - 4) / 4 = nI (p / 4 - 1) := by
      show (nI p - nI 4) / nI 4 = _
      rw [pk_sub h4, pk_div (by omega) (by omega) (by decide)]
      exact congrArg nI (by omega)
    rw [e]; exact h
theorem ty_parent {t p : Nat} (ht : t < 10) (hp : p < 84) (h1 : (4 ≤ p → K (84 * t + (p / 4 - 1)) = 2) → post 1) (h0 : ¬ (4 ≤ p → K (84 * t + (p / 4 - 1)) = 2) → post 0) : wpY_hasParent post (yf, ya, yc, K, N, kp, tk, ap, ad, cp) (nI t) (nI p) := by
  by_cases h4 : p < 4
  · exact br_t (nI_lt (b := 4) h4 (by decide)) (h1 fun z => absurd z (by omega))
  · refine br_f (nI_nlt (b := 4) (by omega) (by omega)) (ty_par (by omega) hp (ty_kindAt ht (by omega) ?_))
    exact ⟨fun z => h1 fun _ => z, fun z => h0 fun y => z (y (by omega))⟩
/-! loops over a region -/
theorem ty_same_l {t p u q : Nat} (ht : t < 10) (hp : p < 84) (hu : u < 10) (hq : q < 84) (h1 : ts_SY K N t p u q → post 1) (h0 : ¬ ts_SY K N t p u q → post 0) : ∀ d k : Nat, k + d = 21 → (∀ j, j < k → ts_rd K t (ts_ch p j) = ts_rd K u (ts_ch q j) ∧ (ts_rd K t (ts_ch p j) = 1 → ts_rd N t (ts_ch p j) = ts_rd N u (ts_ch q j))) → wY_isSame_3 post (nI t) (nI p) (nI u) (nI q) yf ya yc K N kp tk ap ad cp (d + 1) (nI k) := by
  intro d
  induction d with
  | zero =>
    intro k hk H
    obtain rfl : k = 21 := by omega
    exact br_t (nI_le (a := 21) (b := 21) (Nat.le_refl _) (by decide)) (h1 H)
  | succ d ih =>
    intro k hk H
    have nx : (ts_rd K t (ts_ch p k) = ts_rd K u (ts_ch q k) ∧ (ts_rd K t (ts_ch p k) = 1 → ts_rd N t (ts_ch p k) = ts_rd N u (ts_ch q k))) → wY_isSame_3 post (nI t) (nI p) (nI u) (nI q) yf ya yc K N kp tk ap ad cp (d + 1) (nI (k + 1)) := fun z =>
      ih (k + 1) (by omega) fun j hj => if e : j = k then e ▸ z else H j (by omega)
    refine br_f (nI_ge (b := 21) (by omega) (by decide)) (ty_part hp (by omega) (ty_part hq (by omega) (ty_kindPt ht (ty_kindPt hu ?_))))
    by_cases z : ts_rd K t (ts_ch p k) = ts_rd K u (ts_ch q k)
    · refine br_t z ?_
      by_cases o : ts_rd K t (ts_ch p k) = 1
      · have hc := ts_rd_1 o
        have hd := ts_rd_1 (z.symm.trans o)
        rw [ts_rd_t (a := N) hc, ts_rd_t (a := N) hd] at nx
        rw [ts_pt_t hc, ts_pt_t hd, ts_ycl ht hc, ts_ycl hu hd]
        refine br_t o ⟨ts_yin ht hc, ts_yin hu hd, ?_⟩
        refine ⟨fun y => nm_r (nI_1 k) (nx ⟨z, fun _ => y⟩), fun y => h0 fun S => y ?_⟩
        have := (S k (by omega)).2 o
        rw [ts_rd_t hc, ts_rd_t hd] at this
        exact this
      · exact br_f o (nm_r (nI_1 k) (nx ⟨z, fun y => absurd y o⟩))
    · exact br_f z (h0 fun S => z (S k (by omega)).1)
theorem ty_same {t p u q : Nat} (ht : t < 10) (hp : p < 84) (hu : u < 10) (hq : q < 84) (h1 : ts_SY K N t p u q → post 1) (h0 : ¬ ts_SY K N t p u q → post 0) : wpY_isSame post (yf, ya, yc, K, N, kp, tk, ap, ad, cp) (nI t) (nI p) (nI u) (nI q) :=
  ⟨22, ty_same_l ht hp hu hq h1 h0 21 0 rfl (fun j hj => absurd hj (by omega))⟩
theorem ty_empty_l {t p : Nat} (ht : t < 10) (hp : p < 84) (h : qost (yf, ya, yc, ts_em K t p 21, N, kp, tk, ap, ad, cp)) : ∀ d k : Nat, k + d = 21 → wY_empty_2 qost (nI t) (nI p) yf ya yc (d + 1) (nI k) (ts_em K t p k) N kp tk ap ad cp := by
  intro d
  induction d with
  | zero =>
    intro k hk
    obtain rfl : k = 21 := by omega
    exact br_t (nI_le (a := 21) (b := 21) (Nat.le_refl _) (by decide)) h
  | succ d ih =>
    intro k hk
    have i := ih (k + 1) (by omega)
    rw [show ts_em K t p (k + 1) = ts_st (ts_em K t p k) t (ts_ch p k) 0 from rfl] at i
    refine br_f (nI_ge (b := 21) (by omega) (by decide)) (ty_part hp (by omega) ?_)
    by_cases hc : ts_ch p k < 84
    · rw [ts_st_t hc] at i
      rw [ts_pt_t hc]
      refine br_f (nI_pos (by omega)) ⟨ts_yin ht hc, nm_r (e' := upd (ts_em K t p k) (84 * t + ts_ch p k) 0) (by rw [ts_ycl ht hc]) (nm_r (nI_1 k) i)⟩
    · rw [ts_st_f hc] at i
      rw [ts_pt_f hc]
      exact br_t (by decide) (nm_r (nI_1 k) i)
theorem ty_empty {t p : Nat} (ht : t < 10) (hp : p < 84) (h : qost (yf, ya, yc, ts_em K t p 21, N, kp, tk, ap, ad, cp)) : wpY_empty qost (yf, ya, yc, K, N, kp, tk, ap, ad, cp) (nI t) (nI p) :=
  ⟨22, ty_empty_l ht hp h 21 0 rfl⟩
theorem ty_put_l {t p u q : Nat} (ht : t < 10) (hp : p < 84) (hu : u < 10) (hq : q < 84) (h : qost (yf, ya, yc, ts_cp K t p u q 21, ts_cp N t p u q 21, kp, tk, ap, ad, cp)) : ∀ d k : Nat, k + d = 21 → wY_put_10 qost (nI t) (nI p) (nI u) (nI q) yf ya yc (d + 1) (nI k) (ts_cp K t p u q k) (ts_cp N t p u q k) kp tk ap ad cp := by
  intro d
  induction d with
  | zero =>
    intro k hk
    obtain rfl : k = 21 := by omega
    exact br_t (nI_le (a := 21) (b := 21) (Nat.le_refl _) (by decide)) h
  | succ d ih =>
    intro k hk
    have i := ih (k + 1) (by omega)
    have st : ∀ A : Nat → Int32, ts_cp A t p u q (k + 1) = ts_st (ts_cp A t p u q k) u (ts_ch q k) (ts_rd (ts_cp A t p u q k) t (ts_ch p k)) := fun _ => rfl
    rw [st K, st N] at i
    refine br_f (nI_ge (b := 21) (by omega) (by decide)) (ty_part hp (by omega) (ty_part hq (by omega) ?_))
    by_cases hc : ts_ch q k < 84
    · rw [ts_st_t hc, ts_st_t hc] at i
      rw [ts_pt_t hc]
      refine br_f (nI_pos (by omega)) (ty_kindPt ht ⟨ts_yin hu hc, ?_⟩)
      refine nm_r (e' := upd (ts_cp K t p u q k) (84 * u + ts_ch q k) (ts_rd (ts_cp K t p u q k) t (ts_ch p k))) (by rw [ts_ycl hu hc]) ?_
      by_cases hd : ts_ch p k < 84
      · rw [ts_rd_t (a := ts_cp N t p u q k) hd] at i
        rw [ts_pt_t hd]
        exact br_t (nI_pos' (by omega)) ⟨ts_yin ht hd, ts_yin hu hc, nm_r (e' := upd (ts_cp N t p u q k) (84 * u + ts_ch q k) (ts_cp N t p u q k (84 * t + ts_ch p k))) (by rw [ts_ycl hu hc, ts_ycl ht hd]) (nm_r (nI_1 k) i)⟩
      · rw [ts_rd_f (a := ts_cp N t p u q k) hd] at i
        rw [ts_pt_f hd]
        exact br_f (by decide) ⟨ts_yin hu hc, nm_r (e' := upd (ts_cp N t p u q k) (84 * u + ts_ch q k) 0) (by rw [ts_ycl hu hc]) (nm_r (nI_1 k) i)⟩
    · rw [ts_st_f hc, ts_st_f hc] at i
      rw [ts_pt_f hc]
      exact br_t (by decide) (nm_r (nI_1 k) i)
theorem ty_put {t p u q : Nat} (ht : t < 10) (hp : p < 84) (hu : u < 10) (hq : q < 84) (h : qost (yf, ya, yc, ts_cp (ts_em K u q 21) t p u q 21, ts_cp N t p u q 21, kp, tk, ap, ad, cp)) : wpY_put qost (yf, ya, yc, K, N, kp, tk, ap, ad, cp) (nI t) (nI p) (nI u) (nI q) := by
  unfold wpY_put
  exact ty_empty hu hq ⟨22, ty_put_l ht hp hu hq h 21 0 rfl⟩
end
