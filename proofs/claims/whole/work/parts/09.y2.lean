/-! Y's counting, testing, comparing, copying of trees -/
section
variable {post : Int32 → Prop} {qost : SY → Prop} {rost : Int32 → SY → Prop} {yf ya yc : Int32} {K N kp tk ap ad cp : Nat → Int32}
theorem ty_countIn_l {t p : Nat} (ht : t < 10) (hp : p < 84) (h : post (nI (ts_cn K t p 21))) : ∀ d k : Nat, k + d = 21 → wY_countIn_5 post (nI t) (nI p) yf ya yc K N kp tk ap ad cp (d + 1) (nI (ts_cn K t p k)) (nI k) := by
  intro d
  induction d with
  | zero =>
    intro k hk
    obtain rfl : k = 21 := by omega
    exact br_t (nI_le (a := 21) (b := 21) (Nat.le_refl _) (by decide)) h
  | succ d ih =>
    intro k hk
    have i := ih (k + 1) (by omega)
    refine br_f (nI_ge (b := 21) (by omega) (by decide)) (ty_part hp (by omega) (ty_kindPt ht ?_))
    by_cases z : ts_rd K t (ts_ch p k) = 0
    · rw [ts_cn_t z] at i
      exact br_t z (nm_r (nI_1 k) i)
    · rw [ts_cn_f z] at i
      exact br_f z (nm_r (nI_1 _) (nm_r (nI_1 k) i))
theorem ty_countIn {t p : Nat} (ht : t < 10) (hp : p < 84) (h : post (nI (ts_cn K t p 21))) : wpY_countIn post (yf, ya, yc, K, N, kp, tk, ap, ad, cp) (nI t) (nI p) :=
  ⟨22, ty_countIn_l ht hp h 21 0 rfl⟩
theorem ty_isIn2 {q p : Nat} (hq : q < 84) (hp : p < 84) (h1 : 20 ≤ q ∧ (q / 4 - 1) / 4 - 1 = p → post 1) (h0 : ¬ (20 ≤ q ∧ (q / 4 - 1) / 4 - 1 = p) → post 0) : wpY_isIn2 post (yf, ya, yc, K, N, kp, tk, ap, ad, cp) (nI q) (nI p) := by
  by_cases h20 : q ≤ 19
  · exact br_t (nI_le (b := 19) h20 (by decide)) (h0 fun z => by omega)
  · refine br_f (nI_ge (a := 19) (by omega) (by omega)) (ty_par (by omega) hq (ty_par (by omega) (by omega) ?_))
    exact pk_eq ((q / 4 - 1) / 4 - 1) p (fun e => h1 ⟨by omega, e⟩) (fun e => h0 fun z => e z.2)
theorem ty_isIn {q p : Nat} (hq : q < 84) (hp : p < 84) (h1 : ts_B q p → post 1) (h0 : ¬ ts_B q p → post 0) : wpY_isIn post (yf, ya, yc, K, N, kp, tk, ap, ad, cp) (nI q) (nI p) := by
  by_cases h4 : q ≤ 3
  · exact br_t (nI_le (b := 3) h4 (by decide)) (h0 (by unfold ts_B; omega))
  · refine br_f (nI_ge (a := 3) (by omega) (by omega)) (ty_par (by omega) hq ?_)
    refine pk_eq (q / 4 - 1) p (fun e => h1 (Or.inl ⟨by omega, e⟩)) (fun e => ?_)
    exact ty_isIn2 hq hp (fun z => br_f (by decide) (h1 (Or.inr z))) (fun z => br_t rfl (h0 fun B => B.elim (fun y => e y.2) z))
theorem ty_levels_l {t p : Nat} (ht : t < 10) (hp : p < 84) (h : post (nI (ts_dp K t p 21))) : ∀ d k : Nat, k + d = 21 → 0 < k → wY_levels_5 post (nI t) (nI p) yf ya yc K N kp tk ap ad cp (d + 1) (nI (ts_dp K t p k)) (nI k) := by
  intro d
  induction d with
  | zero =>
    intro k hk _
    obtain rfl : k = 21 := by omega
    exact br_t (nI_le (a := 21) (b := 21) (Nat.le_refl _) (by decide)) h
  | succ d ih =>
    intro k hk h0
    have i := ih (k + 1) (by omega) (by omega)
    have le := ts_dp_le K t p k
    have lv := (ts_lv_up k).2
    have J : ∀ z0 : Int32, z0 = nI (ts_lv k) → wY_levels_23 post (wY_levels_5 post (nI t) (nI p) yf ya yc K N kp tk ap ad cp (d + 1)) (nI t) (nI p) (nI (ts_dp K t p k)) (nI k) z0 yf ya yc K N kp tk ap ad cp := by
      intro z0 hz
      subst hz
      unfold wY_levels_23
      refine ty_part hp (by omega) (ty_kindPt ht ?_)
      by_cases z : ts_rd K t (ts_ch p k) = 0
      · rw [ts_dp_t z] at i
        exact br_t z (nm_r (nI_1 k) i)
      · rw [ts_dp_f z] at i
        refine br_f z ?_
        by_cases g : ts_lv k ≤ ts_dp K t p k
        · have e : ts_dp K t p k = ts_lv k := by omega
          rw [e]
          exact br_t (nI_le (Nat.le_refl _) (by omega)) (nm_r (nI_1 k) i)
        · exact br_f (nI_ge (by omega) (by omega)) (nm_r (nI_1 k) i)
    refine br_f (nI_ge (b := 21) (by omega) (by decide)) ?_
    by_cases h5 : 5 ≤ k
    · refine br_t (nI_le (a := 5) h5 (by omega)) (J 2 ?_)
      rw [show ts_lv k = 2 from by unfold ts_lv; rw [if_neg (by omega), if_neg (by omega)]]; rfl
    · refine br_f (nI_ge (b := 5) (by omega) (by decide)) (J 1 ?_)
      rw [show ts_lv k = 1 from by unfold ts_lv; rw [if_neg (by omega), if_pos (by omega)]]; rfl
theorem ts_dp_1 (K : Nat → Int32) (t p : Nat) : ts_dp K t p 1 = 0 := by
  by_cases z : ts_rd K t (ts_ch p 0) = 0
  · rw [ts_dp_t z]; rfl
  · rw [ts_dp_f z]; rfl
theorem ty_levels {t p : Nat} (ht : t < 10) (hp : p < 84) (h : post (nI (ts_dp K t p 21))) : wpY_levels post (yf, ya, yc, K, N, kp, tk, ap, ad, cp) (nI t) (nI p) := by
  have i := ty_levels_l (yf := yf) (ya := ya) (yc := yc) (N := N) (kp := kp) (tk := tk) (ap := ap) (ad := ad) (cp := cp) ht hp h 20 1 rfl (by omega)
  rw [ts_dp_1] at i
  exact ⟨21, i⟩
theorem ty_test {s p q : Nat} (hs : s < 2) (hp : p < 84) (hq : q < 84) (h : post (ts_ref K s p q)) : wpY_test post (yf, ya, yc, K, N, kp, tk, ap, ad, cp) (nI s) (nI p) (nI q) := by
  unfold wpY_test
  refine ty_side_t hs (br_f (by decide) (ty_path_t hp (br_f (by decide) (ty_path_t hq (br_f (by decide) (ty_kindAt (by omega) hp ?_))))))
  unfold ts_ref at h
  by_cases c1 : K (84 * s + p) = 0
  · rw [if_pos c1] at h; exact br_t c1 h
  rw [if_neg c1] at h
  refine br_f c1 (ty_parent (by omega) hq (fun F => ?_) (fun F => br_t rfl (by rw [if_neg F] at h; exact h)))
  rw [if_pos F] at h
  refine br_f (by decide) (ty_kindAt (by omega) hq ?_)
  by_cases c3 : K (84 * s + q) = 0
  · rw [if_pos c3] at h
    refine br_t c3 ?_
    have J : ∀ (z : Nat) (z0 : Int32), z0 = nI z → z + ts_lq q = 2 → wY_test_83 post (nI s) (nI p) (nI q) z0 yf ya yc K N kp tk ap ad cp := by
      intro z z0 hz hl
      subst hz
      unfold wY_test_83
      refine ty_isIn hq hp (fun B => br_f (by decide) ?_) (fun B => br_t rfl (ty_levels (by omega) hp ?_))
      · rw [if_pos (Or.inl B)] at h; exact h
      · have l2 := ts_dp_le K s p 21
        have l3 := (ts_lv_up 21).2
        by_cases c4 : ts_dp K s p 21 ≤ z
        · rw [if_neg (fun y => y.elim B (by omega))] at h
          exact br_t (nI_le c4 (by omega)) h
        · rw [if_pos (Or.inr (by omega))] at h
          exact br_f (nI_ge (by omega) (by omega)) h
    by_cases h20 : q ≤ 19
    · refine br_t (nI_le (b := 19) h20 (by decide)) ?_
      by_cases h4 : q ≤ 3
      · exact br_t (nI_le (b := 3) h4 (by decide)) (J 2 2 rfl (by unfold ts_lq; rw [if_pos (by omega)]))
      · exact br_f (nI_ge (a := 3) (by omega) (by omega)) (J 1 1 rfl (by unfold ts_lq; rw [if_neg (by omega), if_pos (by omega)]))
    · exact br_f (nI_ge (a := 19) (by omega) (by omega)) (J 0 0 rfl (by unfold ts_lq; rw [if_neg (by omega), if_neg (by omega)]))
  · rw [if_neg c3] at h; exact br_f c3 h
theorem ty_count_l {t : Nat} (ht : t < 10) (h : post (nI (ts_cz K t 84))) : ∀ d p : Nat, p + d = 84 → wY_count_4 post (nI t) yf ya yc K N kp tk ap ad cp (d + 1) (nI (ts_cz K t p)) (nI p) := by
  intro d
  induction d with
  | zero =>
    intro p hp
    obtain rfl : p = 84 := by omega
    exact br_t (nI_le (a := 84) (b := 84) (Nat.le_refl _) (by decide)) h
  | succ d ih =>
    intro p hp
    refine br_f (nI_ge (b := 84) (by omega) (by decide)) (ty_kindAt ht (by omega) ?_)
    have i := ih (p + 1) (by omega)
    by_cases z : K (84 * t + p) = 0
    · rw [ts_cz_t z] at i
      exact br_t z (nm_r (nI_1 p) i)
    · rw [ts_cz_f z] at i
      exact br_f z (nm_r (nI_1 _) (nm_r (nI_1 p) i))
theorem ty_count {t : Nat} (ht : t < 10) (h : post (nI (ts_cz K t 84))) : wpY_count post (yf, ya, yc, K, N, kp, tk, ap, ad, cp) (nI t) :=
  ⟨85, ty_count_l ht h 84 0 rfl⟩
theorem ty_like {t u p : Nat} (ht : t < 10) (hu : u < 10) (hp : p < 84) (h1 : K (84 * t + p) = K (84 * u + p) ∧ (K (84 * t + p) = 1 → N (84 * t + p) = N (84 * u + p)) → post 1) (h0 : ¬ (K (84 * t + p) = K (84 * u + p) ∧ (K (84 * t + p) = 1 → N (84 * t + p) = N (84 * u + p))) → post 0) : wpY_isLike post (yf, ya, yc, K, N, kp, tk, ap, ad, cp) (nI t) (nI u) (nI p) := by
  unfold wpY_isLike
  refine ty_kindAt ht hp (ty_kindAt hu hp ⟨fun z => ⟨fun o => ⟨ts_yin ht hp, ts_yin hu hp, ?_⟩, fun o => h1 ⟨z, fun y => absurd y o⟩⟩, fun z => h0 fun y => z y.1⟩)
  rw [ts_ycl ht hp, ts_ycl hu hp]
  exact ⟨fun y => h1 ⟨z, fun _ => y⟩, fun y => h0 fun w => y (w.2 o)⟩
theorem ty_changed_l {t : Nat} (ht : t < 10) (h : post (nI (ts_cq (fun i => ¬ (K (84 * t + i) = K (84 * 2 + i) ∧ (K (84 * t + i) = 1 → N (84 * t + i) = N (84 * 2 + i)))) 84))) : ∀ d p : Nat, p + d = 84 → wY_changed_15 post (nI t) yf ya yc K N kp tk ap ad cp (d + 1) (nI (ts_cq (fun i => ¬ (K (84 * t + i) = K (84 * 2 + i) ∧ (K (84 * t + i) = 1 → N (84 * t + i) = N (84 * 2 + i)))) p)) (nI p) := by
  intro d
  induction d with
  | zero =>
    intro p hp
    obtain rfl : p = 84 := by omega
    exact br_t (nI_le (a := 84) (b := 84) (Nat.le_refl _) (by decide)) h
  | succ d ih =>
    intro p hp
    have i := ih (p + 1) (by omega)
    refine br_f (nI_ge (b := 84) (by omega) (by decide)) (ty_like (u := 2) ht (by omega) (by omega) (fun z => ?_) (fun z => ?_))
    · rw [ts_cq_f (fun y => y z)] at i
      exact br_f (by decide) (nm_r (nI_1 p) i)
    · rw [ts_cq_t z] at i
      exact br_t rfl (nm_r (nI_1 _) (nm_r (nI_1 p) i))
theorem ty_same2_l (h1 : (∀ i, i < 84 → K (84 * 0 + i) = K (84 * 1 + i) ∧ (K (84 * 0 + i) = 1 → N (84 * 0 + i) = N (84 * 1 + i))) → post 1) (h0 : ¬ (∀ i, i < 84 → K (84 * 0 + i) = K (84 * 1 + i) ∧ (K (84 * 0 + i) = 1 → N (84 * 0 + i) = N (84 * 1 + i))) → post 0) : ∀ d p : Nat, p + d = 84 → (∀ i, i < p → K (84 * 0 + i) = K (84 * 1 + i) ∧ (K (84 * 0 + i) = 1 → N (84 * 0 + i) = N (84 * 1 + i))) → wY_same_2 post yf ya yc K N kp tk ap ad cp (d + 1) (nI p) := by
  intro d
  induction d with
  | zero =>
    intro p hp H
    obtain rfl : p = 84 := by omega
    exact br_t (nI_le (a := 84) (b := 84) (Nat.le_refl _) (by decide)) (h1 H)
  | succ d ih =>
    intro p hp H
    refine br_f (nI_ge (b := 84) (by omega) (by decide)) (ty_like (t := 0) (u := 1) (by omega) (by omega) (by omega) (fun z => ?_) (fun z => br_t rfl (h0 fun S => z (S p (by omega)))))
    exact br_f (by decide) (nm_r (nI_1 p) (ih (p + 1) (by omega) fun i hi => if e : i = p then e ▸ z else H i (by omega)))
theorem ty_copyTree_l {t u : Nat} (ht : t < 10) (hu : u < 10) (h : qost (yf, ya, yc, ts_ct K t u 84, ts_ct N t u 84, kp, tk, ap, ad, cp)) : ∀ d p : Nat, p + d = 84 → wY_copyTree_2 qost (nI t) (nI u) yf ya yc (d + 1) (nI p) (ts_ct K t u p) (ts_ct N t u p) kp tk ap ad cp := by
  intro d
  induction d with
  | zero =>
    intro p hp
    obtain rfl : p = 84 := by omega
    exact br_t (nI_le (a := 84) (b := 84) (Nat.le_refl _) (by decide)) h
  | succ d ih =>
    intro p hp
    have i := ih (p + 1) (by omega)
    have hp84 : p < 84 := by omega
    refine br_f (nI_ge (b := 84) hp84 (by decide)) ⟨ts_yin ht hp84, ts_yin hu hp84, ?_⟩
    refine nm_r (e' := ts_ct K t u (p + 1)) (by rw [ts_ycl ht hp84, ts_ycl hu hp84]; rfl) ⟨ts_yin ht hp84, ts_yin hu hp84, ?_⟩
    exact nm_r (e' := ts_ct N t u (p + 1)) (by rw [ts_ycl ht hp84, ts_ycl hu hp84]; rfl) (nm_r (nI_1 p) i)
theorem ty_copyTree {t u : Nat} (ht : t < 10) (hu : u < 10) (h : qost (yf, ya, yc, ts_ct K t u 84, ts_ct N t u 84, kp, tk, ap, ad, cp)) : wpY_copyTree qost (yf, ya, yc, K, N, kp, tk, ap, ad, cp) (nI t) (nI u) :=
  ⟨85, ty_copyTree_l ht hu h 84 0 rfl⟩
end
