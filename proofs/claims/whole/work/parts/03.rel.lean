/-! one cell of X (kinds k, numbers n) against one of Y (kinds k', numbers n') -/
def ts_C (k n k' n' : Nat → Int32) (i : Nat) : Prop := k' i = k i ∧ (k i = 0 ∨ k i = 1 ∨ k i = 2) ∧ n i = (if k i = 1 then n' i else 0)
def ts_R (k n k' n' : Nat → Int32) : Prop := ∀ i, i < 504 → ts_C k n k' n' i
/-- what stands in something stands in a folder, in every tree but the last one -/
def ts_W (k : Nat → Int32) : Prop := ∀ t, t < 6 → t ≠ 2 → ∀ c, 4 ≤ c → c < 84 → k (84 * t + c) ≠ 0 → k (84 * t + (c / 4 - 1)) = 2
theorem ts_C_0 {k n k' n' : Nat → Int32} {i : Nat} (h : ts_C k n k' n' i) (h1 : k i ≠ 1) : n i = 0 := by
  rw [h.2.2, if_neg h1]
theorem ts_C_1 {k n k' n' : Nat → Int32} {i : Nat} (h : ts_C k n k' n' i) (h1 : k i = 1) : n i = n' i := by
  rw [h.2.2, if_pos h1]
theorem ts_C_c {k n k' n' a b a' b' : Nat → Int32} {i : Nat} (h : ts_C k n k' n' i) (e1 : a i = k i) (e2 : b i = n i) (e3 : a' i = k' i) (e4 : b' i = n' i) : ts_C a b a' b' i := by
  unfold ts_C
  rw [e1, e2, e3, e4]; exact h
theorem ts_C_m {k n k' n' a b a' b' : Nat → Int32} {i j : Nat} (h : ts_C k n k' n' j) (e1 : a i = k j) (e2 : b i = n j) (e3 : a' i = k' j) (e4 : b' i = n' j) : ts_C a b a' b' i := by
  unfold ts_C
  rw [e1, e2, e3, e4]; exact h
theorem ts_C_z {a b a' b' : Nat → Int32} {i : Nat} (e1 : a i = 0) (e2 : b i = 0) (e3 : a' i = 0) : ts_C a b a' b' i :=
  ⟨e3.trans e1.symm, Or.inl e1, by rw [e1, e2, if_neg (by decide)]⟩
theorem ts_rd_C {k n k' n' : Nat → Int32} {t p : Nat} (h : p < 84 → ts_C k n k' n' (84 * t + p)) : ts_rd k' t p = ts_rd k t p :=
  ts_rd_c fun hp => (h hp).1
/-- two regions are alike: X's words and Y's -/
def ts_SX (k n : Nat → Int32) (t p u q : Nat) : Prop := ∀ j, j < 21 → ts_rd k t (ts_ch p j) = ts_rd k u (ts_ch q j) ∧ ts_rd n t (ts_ch p j) = ts_rd n u (ts_ch q j)
def ts_SY (k n : Nat → Int32) (t p u q : Nat) : Prop := ∀ j, j < 21 → ts_rd k t (ts_ch p j) = ts_rd k u (ts_ch q j) ∧ (ts_rd k t (ts_ch p j) = 1 → ts_rd n t (ts_ch p j) = ts_rd n u (ts_ch q j))
theorem ts_rd_1 {k : Nat → Int32} {t p : Nat} (h : ts_rd k t p = 1) : p < 84 := by
  by_cases hp : p < 84
  · exact hp
  · rw [ts_rd_f hp] at h; exact absurd h (by decide)
theorem ts_rn_0 {k n k' n' : Nat → Int32} {t p : Nat} (hC : p < 84 → ts_C k n k' n' (84 * t + p)) (h : ts_rd k t p ≠ 1) : ts_rd n t p = 0 := by
  by_cases hp : p < 84
  · rw [ts_rd_t hp] at h ⊢; exact ts_C_0 (hC hp) h
  · exact ts_rd_f hp
theorem ts_rn_1 {k n k' n' : Nat → Int32} {t p : Nat} (hC : p < 84 → ts_C k n k' n' (84 * t + p)) (h : ts_rd k t p = 1) : ts_rd n t p = ts_rd n' t p := by
  have hp := ts_rd_1 h
  rw [ts_rd_t hp] at h ⊢; rw [ts_rd_t hp]; exact ts_C_1 (hC hp) h
theorem ts_S_iff {k n k' n' : Nat → Int32} {t p u q : Nat} (hp : ∀ j, j < 21 → ts_ch p j < 84 → ts_C k n k' n' (84 * t + ts_ch p j)) (hq : ∀ j, j < 21 → ts_ch q j < 84 → ts_C k n k' n' (84 * u + ts_ch q j)) : ts_SY k' n' t p u q ↔ ts_SX k n t p u q := by
  constructor
  · intro h j hj
    obtain ⟨h1, h2⟩ := h j hj
    rw [ts_rd_C (hp j hj), ts_rd_C (hq j hj)] at h1
    rw [ts_rd_C (hp j hj)] at h2
    refine ⟨h1, ?_⟩
    by_cases z : ts_rd k t (ts_ch p j) = 1
    · rw [ts_rn_1 (hp j hj) z, ts_rn_1 (hq j hj) (h1.symm.trans z), h2 z]
    · rw [ts_rn_0 (hp j hj) z, ts_rn_0 (hq j hj) (fun y => z (h1.trans y))]
  · intro h j hj
    obtain ⟨h1, h2⟩ := h j hj
    rw [ts_rd_C (hp j hj), ts_rd_C (hq j hj)]
    refine ⟨h1, fun z => ?_⟩
    rw [ts_rn_1 (hp j hj) z, ts_rn_1 (hq j hj) (h1.symm.trans z)] at h2
    exact h2
theorem ts_R_in {k n k' n' : Nat → Int32} (R : ts_R k n k' n') {t p : Nat} (ht : t < 6) : p < 84 → ts_C k n k' n' (84 * t + p) := fun hp => R _ (by omega)
theorem ts_S_R {k n k' n' : Nat → Int32} (R : ts_R k n k' n') {t p u q : Nat} (ht : t < 6) (hu : u < 6) : ts_SY k' n' t p u q ↔ ts_SX k n t p u q :=
  ts_S_iff (fun _ _ h => ts_R_in R ht h) (fun _ _ h => ts_R_in R hu h)
/-- like entries, X's words and Y's -/
theorem ts_L_iff {k n k' n' : Nat → Int32} {i j : Nat} (hi : ts_C k n k' n' i) (hj : ts_C k n k' n' j) : (k' i = k' j ∧ (k' i = 1 → n' i = n' j)) ↔ (k i = k j ∧ n i = n j) := by
  rw [hi.1, hj.1]
  constructor
  · rintro ⟨h1, h2⟩
    refine ⟨h1, ?_⟩
    by_cases z : k i = 1
    · rw [ts_C_1 hi z, ts_C_1 hj (h1.symm.trans z), h2 z]
    · rw [ts_C_0 hi z, ts_C_0 hj (fun y => z (h1.trans y))]
  · rintro ⟨h1, h2⟩
    refine ⟨h1, fun z => ?_⟩
    rw [ts_C_1 hi z, ts_C_1 hj (h1.symm.trans z)] at h2
    exact h2
/-! what keeps the relation -/
theorem ts_R_cp {k n k' n' : Nat → Int32} (R : ts_R k n k' n') {t p u q : Nat} (D : ts_dj t p u q) (ht : t < 6) : ts_R (ts_cp k t p u q 21) (ts_cp n t p u q 21) (ts_cp (ts_em k' u q 21) t p u q 21) (ts_cp n' t p u q 21) := by
  intro i hi
  rcases ts_in_or u q i with h | ⟨j, hj, hc, rfl⟩
  · refine ts_C_c (R i hi) (ts_cp_fr h 21 (by omega)) (ts_cp_fr h 21 (by omega)) ?_ (ts_cp_fr h 21 (by omega))
    rw [ts_cp_fr h 21 (by omega), ts_em_fr h 21 (by omega)]
  · have e : ts_rd (ts_em k' u q 21) t (ts_ch p j) = ts_rd k' t (ts_ch p j) := ts_rd_c fun hp => ts_em_fr (D j hj hp) 21 (by omega)
    by_cases hp : ts_ch p j < 84
    · refine ts_C_m (R (84 * t + ts_ch p j) (by omega)) ?_ ?_ ?_ ?_
      · rw [ts_cp_tg D hc 21 (by omega) hj, ts_rd_t hp]
      · rw [ts_cp_tg D hc 21 (by omega) hj, ts_rd_t hp]
      · rw [ts_cp_tg D hc 21 (by omega) hj, e, ts_rd_t hp]
      · rw [ts_cp_tg D hc 21 (by omega) hj, ts_rd_t hp]
    · refine ts_C_z ?_ ?_ ?_
      · rw [ts_cp_tg D hc 21 (by omega) hj, ts_rd_f hp]
      · rw [ts_cp_tg D hc 21 (by omega) hj, ts_rd_f hp]
      · rw [ts_cp_tg D hc 21 (by omega) hj, e, ts_rd_f hp]
theorem ts_R_up {k n k' n' : Nat → Int32} (R : ts_R k n k' n') {i : Nat} {x : Int32} (hx : x = 0 ∨ x = 1 ∨ x = 2) {y : Int32} {m m' : Nat → Int32} (e1 : m i = if x = 1 then y else 0) (e2 : x = 1 → m' i = y) (f1 : ∀ j, j ≠ i → m j = n j) (f2 : ∀ j, j ≠ i → m' j = n' j) : ts_R (upd k i x) m (upd k' i x) m' := by
  intro j hj
  by_cases e : j = i
  · subst e
    refine ⟨by rw [pk_us, pk_us], by rw [pk_us]; exact hx, ?_⟩
    rw [pk_us, e1]
    by_cases z : x = 1
    · rw [if_pos z, if_pos z, e2 z]
    · rw [if_neg z, if_neg z]
  · exact ts_C_c (R j hj) (pk_un e) (f1 j e) (pk_un e) (f2 j e)
theorem ts_R_em {k n k' n' : Nat → Int32} (R : ts_R k n k' n') {t p : Nat} (ht : t < 6) : ts_R (ts_ec k k t p 21) (ts_ec k n t p 21) (ts_em k' t p 21) n' := by
  intro i hi
  rcases ts_in_or t p i with h | ⟨j, hj, hc, rfl⟩
  · exact ts_C_c (R i hi) (ts_ec_fr h 21 (by omega)) (ts_ec_fr h 21 (by omega)) (ts_em_fr h 21 (by omega)) rfl
  · refine ts_C_z ?_ ?_ (ts_em_tg hc 21 (by omega) hj)
    · rw [ts_ec_tg hc 21 hj]; split
      · assumption
      · rfl
    · rw [ts_ec_tg hc 21 hj]; split
      · rename_i z
        exact ts_C_0 (R _ hi) (by rw [z]; decide)
      · rfl
theorem ts_R_ct {k n k' n' : Nat → Int32} (R : ts_R k n k' n') {t u : Nat} (D : t ≠ u) (ht : t < 6) : ts_R (ts_ct k t u 84) (ts_ct n t u 84) (ts_ct k' t u 84) (ts_ct n' t u 84) := by
  intro i hi
  by_cases h : 84 * u ≤ i ∧ i < 84 * u + 84
  · obtain ⟨c, rfl⟩ : ∃ c, i = 84 * u + c := ⟨i - 84 * u, by omega⟩
    have hc : c < 84 := by omega
    exact ts_C_m (R (84 * t + c) (by omega)) (ts_ct_tg D 84 (by omega) hc) (ts_ct_tg D 84 (by omega) hc) (ts_ct_tg D 84 (by omega) hc) (ts_ct_tg D 84 (by omega) hc)
  · have f : ∀ m, m < 84 → i ≠ 84 * u + m := fun m hm => by omega
    exact ts_C_c (R i hi) (ts_ct_fr f 84 (by omega)) (ts_ct_fr f 84 (by omega)) (ts_ct_fr f 84 (by omega)) (ts_ct_fr f 84 (by omega))
/-! what keeps W -/
theorem ts_W_2 {k a : Nat → Int32} (W : ts_W k) (h : ∀ i, i < 504 → ¬ (168 ≤ i ∧ i < 252) → a i = k i) : ts_W a := by
  intro t ht h2 c h4 hc
  rw [h (84 * t + c) (by omega) (by omega), h (84 * t + (c / 4 - 1)) (by omega) (by omega)]
  exact W t ht h2 c h4 hc
theorem ts_W_up {k : Nat → Int32} (W : ts_W k) {s p : Nat} (x : Int32) (hp : p < 84) (h2 : k (84 * s + p) ≠ 2) (hq : 4 ≤ p → k (84 * s + (p / 4 - 1)) = 2) : ts_W (upd k (84 * s + p) x) := by
  intro t ht t2 c h4 hc
  by_cases e : 84 * t + c = 84 * s + p
  · obtain ⟨rfl, rfl⟩ : t = s ∧ c = p := by omega
    intro _
    rw [pk_un (by omega)]
    exact hq h4
  · rw [pk_un e]
    intro hn
    have := W t ht t2 c h4 hc hn
    by_cases f : 84 * t + (c / 4 - 1) = 84 * s + p
    · rw [f] at this; exact absurd this h2
    · rw [pk_un f]; exact this
theorem ts_W_no {u q t c : Nat} (hc : c < 84) (h4 : 4 ≤ c) (h : ts_no u q (84 * t + c)) : ts_no u q (84 * t + (c / 4 - 1)) := by
  intro j hj hd e
  obtain ⟨rfl, e2⟩ : t = u ∧ c / 4 - 1 = ts_ch q j := by omega
  obtain ⟨k, hk, e3⟩ := ts_ch_sub hj hc h4 e2
  exact h k hk (by omega) (by omega)
theorem ts_W_ec {k : Nat → Int32} (W : ts_W k) (s p : Nat) : ts_W (ts_ec k k s p 21) := by
  intro t ht t2 c h4 hc hn
  rcases ts_in_or s p (84 * t + c) with h | ⟨j, hj, hd, e⟩
  · rw [ts_ec_fr h 21 (by omega)] at hn
    rw [ts_ec_fr (ts_W_no hc h4 h) 21 (by omega)]
    exact W t ht t2 c h4 hc hn
  · rw [e, ts_ec_tg hd 21 hj] at hn
    split at hn
    · rename_i z; exact absurd z hn
    · exact absurd rfl hn
theorem ts_W_cp {k : Nat → Int32} (W : ts_W k) {t p u q : Nat} (D : ts_dj t p u q) (ht : t < 6) (t2 : t ≠ 2) (hq84 : q < 84) (hq : 4 ≤ q → k (84 * u + (q / 4 - 1)) = 2) : ts_W (ts_cp k t p u q 21) := by
  intro v hv v2 c h4 hc hn
  rcases ts_in_or u q (84 * v + c) with h | ⟨j, hj, hd, e⟩
  · rw [ts_cp_fr h 21 (by omega)] at hn
    rw [ts_cp_fr (ts_W_no hc h4 h) 21 (by omega)]
    exact W v hv v2 c h4 hc hn
  · obtain ⟨rfl, rfl⟩ : v = u ∧ c = ts_ch q j := by omega
    by_cases j0 : j = 0
    · subst j0
      rw [ts_ch_0] at h4 hc ⊢
      rw [ts_cp_fr (fun i _ _ z => by have := ts_ch_ge q i; omega) 21 (by omega)]
      exact hq h4
    · rw [ts_cp_tg D hd 21 (by omega) hj] at hn
      have hp : ts_ch p j < 84 := by
        by_cases z : ts_ch p j < 84
        · exact z
        · exact absurd (ts_rd_f z) hn
      rw [ts_rd_t hp] at hn
      obtain ⟨e1, e2, e3⟩ := ts_ch_par (p := p) (k := j) (by omega) hj
      obtain ⟨f1, f2, f3⟩ := ts_ch_par (p := q) (k := j) (by omega) hj
      have := W t ht t2 _ e3 hp hn
      rw [e1] at this
      rw [f1, ts_cp_tg D (by omega) 21 (by omega) f2, ts_rd_t (by omega)]
      exact this
theorem ts_W_ct {k : Nat → Int32} (W : ts_W k) {t u : Nat} (D : t ≠ u) (ht : t < 6) (t2 : t ≠ 2) : ts_W (ts_ct k t u 84) := by
  intro v hv v2 c h4 hc
  by_cases e : v = u
  · subst e
    rw [ts_ct_tg D 84 (by omega) hc, ts_ct_tg D 84 (by omega) (by omega)]
    exact W t ht t2 c h4 hc
  · rw [ts_ct_fr (fun m hm => by omega) 84 (by omega), ts_ct_fr (fun m hm => by omega) 84 (by omega)]
    exact W v hv v2 c h4 hc
/-! regions of one tree -/
theorem ts_dj_s {k : Nat → Int32} (W : ts_W k) {s p q : Nat} (hs : s < 2) (hp : p < 84) (hq : q < 84) (kp : k (84 * s + p) ≠ 0) (kq : k (84 * s + q) = 0) (h1 : 4 ≤ q → q / 4 - 1 ≠ p) (h2 : 20 ≤ q → (q / 4 - 1) / 4 - 1 ≠ p) : ts_dj s p s q := by
  have hne : p ≠ q := fun e => kp (e ▸ kq)
  have g1 : 4 ≤ p → p / 4 - 1 ≠ q := fun h4 e => by
    have := W s (by omega) (by omega) p h4 hp kp
    rw [e, kq] at this; exact absurd this (by decide)
  have g2 : 20 ≤ p → (p / 4 - 1) / 4 - 1 ≠ q := fun h4 e => by
    have a1 := W s (by omega) (by omega) p (by omega) hp kp
    have a2 := W s (by omega) (by omega) (p / 4 - 1) (by omega) (by omega) (by rw [a1]; decide)
    rw [e, kq] at a2; exact absurd a2 (by decide)
  intro i hi hc j hj hd e
  rcases ts_k3 i with rfl | ⟨a, ha, rfl⟩ | ⟨a, rfl⟩ <;> rcases ts_k3 j with rfl | ⟨b, hb, rfl⟩ | ⟨b, rfl⟩ <;>
    simp (disch := omega) only [ts_ch_0, ts_ch_1, ts_ch_2] at hc hd e <;> omega
