/-! the pure picture: the 21 places of what stands at p and below it, reading, storing, copying, clearing, counting -/
/-- the k-th of the 21 places of what stands at p and below it (84 or more: no such path) -/
def ts_ch (p k : Nat) : Nat := if k = 0 then p else if k < 5 then 4 * p + 3 + k else 16 * p + 15 + k
def ts_rd (a : Nat → Int32) (t p : Nat) : Int32 := if p < 84 then a (84 * t + p) else 0
def ts_st (a : Nat → Int32) (u p : Nat) (x : Int32) : Nat → Int32 := if p < 84 then upd a (84 * u + p) x else a
theorem ts_rd_t {a : Nat → Int32} {t p : Nat} (h : p < 84) : ts_rd a t p = a (84 * t + p) := if_pos h
theorem ts_rd_f {a : Nat → Int32} {t p : Nat} (h : ¬ p < 84) : ts_rd a t p = 0 := if_neg h
theorem ts_st_t {a : Nat → Int32} {u p : Nat} {x : Int32} (h : p < 84) : ts_st a u p x = upd a (84 * u + p) x := if_pos h
theorem ts_st_f {a : Nat → Int32} {u p : Nat} {x : Int32} (h : ¬ p < 84) : ts_st a u p x = a := if_neg h
theorem ts_st_n {a : Nat → Int32} {u p i : Nat} {x : Int32} (h : p < 84 → i ≠ 84 * u + p) : ts_st a u p x i = a i := by
  by_cases hp : p < 84
  · rw [ts_st_t hp, pk_un (h hp)]
  · rw [ts_st_f hp]
theorem ts_st_s {a : Nat → Int32} {u p : Nat} {x : Int32} (h : p < 84) : ts_st a u p x (84 * u + p) = x := by
  rw [ts_st_t h, pk_us]
theorem ts_ch_0 (p : Nat) : ts_ch p 0 = p := rfl
theorem ts_ch_1 (p i : Nat) (h : i < 4) : ts_ch p (1 + i) = 4 * p + 4 + i := by
  unfold ts_ch
  rw [if_neg (by omega), if_pos (by omega)]; omega
theorem ts_ch_2 (p i : Nat) : ts_ch p (5 + i) = 16 * p + 20 + i := by
  unfold ts_ch
  rw [if_neg (by omega), if_neg (by omega)]; omega
theorem ts_k3 (k : Nat) : k = 0 ∨ (∃ i, i < 4 ∧ k = 1 + i) ∨ (∃ i, k = 5 + i) := by
  by_cases h : k = 0
  · exact Or.inl h
  · by_cases h5 : k < 5
    · exact Or.inr (Or.inl ⟨k - 1, by omega, by omega⟩)
    · exact Or.inr (Or.inr ⟨k - 5, by omega⟩)
theorem ts_ch_inj {p k j : Nat} (h : ts_ch p k = ts_ch p j) : k = j := by
  rcases ts_k3 k with rfl | ⟨a, ha, rfl⟩ | ⟨a, rfl⟩ <;> rcases ts_k3 j with rfl | ⟨b, hb, rfl⟩ | ⟨b, rfl⟩ <;>
    simp (disch := omega) only [ts_ch_0, ts_ch_1, ts_ch_2] at h <;> omega
theorem ts_ch_lt {p k : Nat} (hp : p < 84) (hk : k < 21) : ts_ch p k < 1400 := by
  rcases ts_k3 k with rfl | ⟨a, ha, rfl⟩ | ⟨a, rfl⟩
  · rw [ts_ch_0]; omega
  · rw [ts_ch_1 _ _ ha]; omega
  · rw [ts_ch_2]; omega
theorem ts_ch_ge (p k : Nat) : p ≤ ts_ch p k := by
  rcases ts_k3 k with rfl | ⟨a, ha, rfl⟩ | ⟨a, rfl⟩
  · rw [ts_ch_0]; omega
  · rw [ts_ch_1 _ _ ha]; omega
  · rw [ts_ch_2]; omega
/-- the k of the parent of the k-th place -/
def ts_pk (k : Nat) : Nat := if k < 5 then 0 else (k - 5) / 4 + 1
theorem ts_ch_par {p k : Nat} (h0 : 0 < k) (hk : k < 21) : ts_ch p k / 4 - 1 = ts_ch p (ts_pk k) ∧ ts_pk k < 21 ∧ 4 ≤ ts_ch p k := by
  rcases ts_k3 k with rfl | ⟨a, ha, rfl⟩ | ⟨a, rfl⟩
  · omega
  · rw [ts_ch_1 _ _ ha, show ts_pk (1 + a) = 0 from if_pos (by omega), ts_ch_0]; omega
  · rw [ts_ch_2, show ts_pk (5 + a) = 1 + a / 4 from by unfold ts_pk; rw [if_neg (by omega)]; omega, ts_ch_1 _ _ (by omega)]; omega
/-- what stands in a place of the region is in the region too -/
theorem ts_ch_sub {q j c : Nat} (hj : j < 21) (hc : c < 84) (h4 : 4 ≤ c) (h : c / 4 - 1 = ts_ch q j) : ∃ k, k < 21 ∧ c = ts_ch q k := by
  rcases ts_k3 j with rfl | ⟨a, ha, rfl⟩ | ⟨a, rfl⟩
  · rw [ts_ch_0] at h
    refine ⟨1 + c % 4, by omega, ?_⟩
    rw [ts_ch_1 _ _ (by omega)]; omega
  · rw [ts_ch_1 _ _ ha] at h
    refine ⟨5 + (4 * a + c % 4), by omega, ?_⟩
    rw [ts_ch_2]; omega
  · rw [ts_ch_2] at h; omega
/-! copying a region -/
def ts_cp (a : Nat → Int32) (t p u q : Nat) : Nat → Nat → Int32
  | 0 => a
  | m + 1 => ts_st (ts_cp a t p u q m) u (ts_ch q m) (ts_rd (ts_cp a t p u q m) t (ts_ch p m))
def ts_em (a : Nat → Int32) (u q : Nat) : Nat → Nat → Int32
  | 0 => a
  | m + 1 => ts_st (ts_em a u q m) u (ts_ch q m) 0
/-- what X's clearing does to b (kinds or numbers), a being the kinds before it -/
def ts_ec (a b : Nat → Int32) (u q : Nat) : Nat → Nat → Int32
  | 0 => b
  | m + 1 => if ts_rd a u (ts_ch q m) = 0 then ts_ec a b u q m else ts_st (ts_ec a b u q m) u (ts_ch q m) 0
def ts_cn (a : Nat → Int32) (t p : Nat) : Nat → Nat
  | 0 => 0
  | m + 1 => if ts_rd a t (ts_ch p m) = 0 then ts_cn a t p m else ts_cn a t p m + 1
theorem ts_cn_le (a : Nat → Int32) (t p m : Nat) : ts_cn a t p m ≤ m := by
  induction m with
  | zero => exact Nat.le_refl 0
  | succ m ih => unfold ts_cn; split <;> omega
theorem ts_cn_t {a : Nat → Int32} {t p m : Nat} (h : ts_rd a t (ts_ch p m) = 0) : ts_cn a t p (m + 1) = ts_cn a t p m := if_pos h
theorem ts_cn_f {a : Nat → Int32} {t p m : Nat} (h : ¬ ts_rd a t (ts_ch p m) = 0) : ts_cn a t p (m + 1) = ts_cn a t p m + 1 := if_neg h
theorem ts_ec_t {a b : Nat → Int32} {u q m : Nat} (h : ts_rd a u (ts_ch q m) = 0) : ts_ec a b u q (m + 1) = ts_ec a b u q m := if_pos h
theorem ts_ec_f {a b : Nat → Int32} {u q m : Nat} (h : ¬ ts_rd a u (ts_ch q m) = 0) : ts_ec a b u q (m + 1) = ts_st (ts_ec a b u q m) u (ts_ch q m) 0 := if_neg h
theorem ts_cn_c {a b : Nat → Int32} {t p : Nat} (m : Nat) (h : ∀ k, k < m → ts_rd a t (ts_ch p k) = ts_rd b t (ts_ch p k)) : ts_cn a t p m = ts_cn b t p m := by
  induction m with
  | zero => rfl
  | succ m ih =>
    have e := ih (fun k hk => h k (by omega))
    have e2 := h m (by omega)
    by_cases z : ts_rd b t (ts_ch p m) = 0
    · rw [ts_cn_t z, ts_cn_t (e2.trans z), e]
    · rw [ts_cn_f z, ts_cn_f (fun y => z (e2.symm.trans y)), e]
/-- the cell i is outside the region of q in tree u -/
def ts_no (u q i : Nat) : Prop := ∀ k, k < 21 → ts_ch q k < 84 → i ≠ 84 * u + ts_ch q k
theorem ts_in_or (u q i : Nat) : ts_no u q i ∨ ∃ k, k < 21 ∧ ts_ch q k < 84 ∧ i = 84 * u + ts_ch q k := by
  by_cases h : ∃ k, k < 21 ∧ ts_ch q k < 84 ∧ i = 84 * u + ts_ch q k
  · exact Or.inr h
  · exact Or.inl fun k hk hc e => h ⟨k, hk, hc, e⟩
theorem ts_cp_fr {a : Nat → Int32} {t p u q i : Nat} (h : ts_no u q i) (m : Nat) (hm : m ≤ 21) : ts_cp a t p u q m i = a i := by
  induction m with
  | zero => rfl
  | succ m ih =>
    rw [show ts_cp a t p u q (m + 1) = ts_st (ts_cp a t p u q m) u (ts_ch q m) (ts_rd (ts_cp a t p u q m) t (ts_ch p m)) from rfl, ts_st_n (h m (by omega))]
    exact ih (by omega)
theorem ts_em_fr {a : Nat → Int32} {u q i : Nat} (h : ts_no u q i) (m : Nat) (hm : m ≤ 21) : ts_em a u q m i = a i := by
  induction m with
  | zero => rfl
  | succ m ih =>
    rw [show ts_em a u q (m + 1) = ts_st (ts_em a u q m) u (ts_ch q m) 0 from rfl, ts_st_n (h m (by omega))]
    exact ih (by omega)
theorem ts_ec_fr {a b : Nat → Int32} {u q i : Nat} (h : ts_no u q i) (m : Nat) (hm : m ≤ 21) : ts_ec a b u q m i = b i := by
  induction m with
  | zero => rfl
  | succ m ih =>
    by_cases z : ts_rd a u (ts_ch q m) = 0
    · rw [ts_ec_t z]; exact ih (by omega)
    · rw [ts_ec_f z, ts_st_n (h m (by omega))]; exact ih (by omega)
/-- the two regions share no cell -/
def ts_dj (t p u q : Nat) : Prop := ∀ k, k < 21 → ts_ch p k < 84 → ts_no u q (84 * t + ts_ch p k)
theorem ts_dj_ne {t u : Nat} (p q : Nat) (h : t ≠ u) : ts_dj t p u q := by
  intro k _ hc j _ hd e
  omega
theorem ts_rd_c {a b : Nat → Int32} {t p : Nat} (h : p < 84 → a (84 * t + p) = b (84 * t + p)) : ts_rd a t p = ts_rd b t p := by
  by_cases hp : p < 84
  · rw [ts_rd_t hp, ts_rd_t hp, h hp]
  · rw [ts_rd_f hp, ts_rd_f hp]
theorem ts_cp_src {a : Nat → Int32} {t p u q k : Nat} (D : ts_dj t p u q) (hk : k < 21) (m : Nat) (hm : m ≤ 21) : ts_rd (ts_cp a t p u q m) t (ts_ch p k) = ts_rd a t (ts_ch p k) :=
  ts_rd_c fun hc => ts_cp_fr (D k hk hc) m hm
theorem ts_cp_tg {a : Nat → Int32} {t p u q k : Nat} (D : ts_dj t p u q) (hc : ts_ch q k < 84) (m : Nat) (hm : m ≤ 21) (hk : k < m) : ts_cp a t p u q m (84 * u + ts_ch q k) = ts_rd a t (ts_ch p k) := by
  induction m with
  | zero => omega
  | succ m ih =>
    rw [show ts_cp a t p u q (m + 1) = ts_st (ts_cp a t p u q m) u (ts_ch q m) (ts_rd (ts_cp a t p u q m) t (ts_ch p m)) from rfl]
    by_cases e : k = m
    · subst e
      rw [ts_st_s hc, ts_cp_src D (by omega) _ (by omega)]
    · rw [ts_st_n (fun _ z => e (ts_ch_inj (p := q) (by omega)))]
      exact ih (by omega) (by omega)
theorem ts_em_tg {a : Nat → Int32} {u q k : Nat} (hc : ts_ch q k < 84) (m : Nat) (hm : m ≤ 21) (hk : k < m) : ts_em a u q m (84 * u + ts_ch q k) = 0 := by
  induction m with
  | zero => omega
  | succ m ih =>
    rw [show ts_em a u q (m + 1) = ts_st (ts_em a u q m) u (ts_ch q m) 0 from rfl]
    by_cases e : k = m
    · subst e
      rw [ts_st_s hc]
    · rw [ts_st_n (fun _ z => e (ts_ch_inj (p := q) (by omega)))]
      exact ih (by omega) (by omega)
theorem ts_ec_nx {a b : Nat → Int32} {u q k : Nat} (hc : ts_ch q k < 84) (m : Nat) (hk : m ≤ k) : ts_ec a b u q m (84 * u + ts_ch q k) = b (84 * u + ts_ch q k) := by
  induction m with
  | zero => rfl
  | succ m ih =>
    by_cases z : ts_rd a u (ts_ch q m) = 0
    · rw [ts_ec_t z]; exact ih (by omega)
    · rw [ts_ec_f z, ts_st_n (fun _ z => absurd (ts_ch_inj (p := q) (k := k) (j := m) (by omega)) (by omega))]; exact ih (by omega)
theorem ts_ec_rd {a b : Nat → Int32} {u q : Nat} (m : Nat) : ts_rd (ts_ec a b u q m) u (ts_ch q m) = ts_rd b u (ts_ch q m) :=
  ts_rd_c fun hc => ts_ec_nx hc m (Nat.le_refl m)
theorem ts_ec_tg {a b : Nat → Int32} {u q k : Nat} (hc : ts_ch q k < 84) (m : Nat) (hk : k < m) : ts_ec a b u q m (84 * u + ts_ch q k) = if a (84 * u + ts_ch q k) = 0 then b (84 * u + ts_ch q k) else 0 := by
  induction m with
  | zero => omega
  | succ m ih =>
    by_cases e : k = m
    · subst e
      by_cases z : ts_rd a u (ts_ch q k) = 0
      · rw [ts_ec_t z, ts_ec_nx hc k (Nat.le_refl k)]
        rw [ts_rd_t hc] at z
        rw [if_pos z]
      · rw [ts_ec_f z, ts_st_s hc]
        rw [ts_rd_t hc] at z
        rw [if_neg z]
    · by_cases z : ts_rd a u (ts_ch q m) = 0
      · rw [ts_ec_t z]; exact ih (by omega)
      · rw [ts_ec_f z, ts_st_n (fun _ z => e (ts_ch_inj (p := q) (by omega)))]; exact ih (by omega)
/-! copying a tree, counting -/
def ts_ct (a : Nat → Int32) (t u : Nat) : Nat → Nat → Int32
  | 0 => a
  | m + 1 => upd (ts_ct a t u m) (84 * u + m) (ts_ct a t u m (84 * t + m))
theorem ts_ct_fr {a : Nat → Int32} {t u i : Nat} (h : ∀ m, m < 84 → i ≠ 84 * u + m) (m : Nat) (hm : m ≤ 84) : ts_ct a t u m i = a i := by
  induction m with
  | zero => rfl
  | succ m ih =>
    rw [show ts_ct a t u (m + 1) = upd (ts_ct a t u m) (84 * u + m) (ts_ct a t u m (84 * t + m)) from rfl, pk_un (h m (by omega))]
    exact ih (by omega)
theorem ts_ct_tg {a : Nat → Int32} {t u k : Nat} (D : t ≠ u) (m : Nat) (hm : m ≤ 84) (hk : k < m) : ts_ct a t u m (84 * u + k) = a (84 * t + k) := by
  induction m with
  | zero => omega
  | succ m ih =>
    rw [show ts_ct a t u (m + 1) = upd (ts_ct a t u m) (84 * u + m) (ts_ct a t u m (84 * t + m)) from rfl]
    by_cases e : k = m
    · subst e
      rw [pk_us, ts_ct_fr (fun j hj => by omega) k (by omega)]
    · rw [pk_un (by omega)]
      exact ih (by omega) (by omega)
def ts_cz (a : Nat → Int32) (t : Nat) : Nat → Nat
  | 0 => 0
  | m + 1 => if a (84 * t + m) = 0 then ts_cz a t m else ts_cz a t m + 1
theorem ts_cz_t {a : Nat → Int32} {t m : Nat} (h : a (84 * t + m) = 0) : ts_cz a t (m + 1) = ts_cz a t m := if_pos h
theorem ts_cz_f {a : Nat → Int32} {t m : Nat} (h : ¬ a (84 * t + m) = 0) : ts_cz a t (m + 1) = ts_cz a t m + 1 := if_neg h
theorem ts_cz_le (a : Nat → Int32) (t m : Nat) : ts_cz a t m ≤ m := by
  induction m with
  | zero => exact Nat.le_refl 0
  | succ m ih => unfold ts_cz; split <;> omega
theorem ts_cz_c {a b : Nat → Int32} {t : Nat} (m : Nat) (h : ∀ k, k < m → a (84 * t + k) = b (84 * t + k)) : ts_cz a t m = ts_cz b t m := by
  induction m with
  | zero => rfl
  | succ m ih =>
    have e := ih (fun k hk => h k (by omega))
    have e2 := h m (by omega)
    by_cases z : b (84 * t + m) = 0
    · rw [ts_cz_t z, ts_cz_t (e2.trans z), e]
    · rw [ts_cz_f z, ts_cz_f (fun y => z (e2.symm.trans y)), e]
/-- counting by any property (classical) -/
noncomputable def ts_cq (P : Nat → Prop) : Nat → Nat
  | 0 => 0
  | m + 1 => @ite Nat (P m) (Classical.propDecidable (P m)) (ts_cq P m + 1) (ts_cq P m)
theorem ts_cq_f {P : Nat → Prop} {m : Nat} (h : ¬ P m) : ts_cq P (m + 1) = ts_cq P m := if_neg h
theorem ts_cq_t {P : Nat → Prop} {m : Nat} (h : P m) : ts_cq P (m + 1) = ts_cq P m + 1 := if_pos h
theorem ts_cq_le (P : Nat → Prop) (m : Nat) : ts_cq P m ≤ m := by
  induction m with
  | zero => exact Nat.le_refl 0
  | succ m ih =>
    by_cases h : P m
    · rw [ts_cq_t h]; omega
    · rw [ts_cq_f h]; omega
theorem ts_cq_c {P Q : Nat → Prop} (m : Nat) (h : ∀ k, k < m → (P k ↔ Q k)) : ts_cq P m = ts_cq Q m := by
  induction m with
  | zero => rfl
  | succ m ih =>
    have e := ih (fun k hk => h k (by omega))
    by_cases z : Q m
    · rw [ts_cq_t z, ts_cq_t ((h m (by omega)).mpr z), e]
    · rw [ts_cq_f z, ts_cq_f (fun y => z ((h m (by omega)).mp y)), e]
theorem ts_cq_0 {P : Nat → Prop} (m : Nat) : ts_cq P m = 0 ↔ ∀ k, k < m → ¬ P k := by
  induction m with
  | zero => exact ⟨fun _ k hk => absurd hk (by omega), fun _ => rfl⟩
  | succ m ih =>
    by_cases z : P m
    · rw [ts_cq_t z]
      exact ⟨fun h => absurd h (by omega), fun h => absurd z (h m (by omega))⟩
    · rw [ts_cq_f z, ih]
      exact ⟨fun h k hk => if e : k = m then e ▸ z else h k (by omega), fun h k hk => h k (by omega)⟩
