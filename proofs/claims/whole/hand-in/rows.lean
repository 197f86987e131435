section
theorem pk_us {f : Nat → Int32} {k : Nat} {x : Int32} : upd f k x k = x := if_pos rfl
theorem pk_un {f : Nat → Int32} {k j : Nat} {x : Int32} (h : j ≠ k) : upd f k x j = f j := if_neg h
theorem pk_sub {a b : Nat} (h : b ≤ a) : nI a - nI b = nI (a - b) := by
  obtain ⟨c, rfl⟩ : ∃ c, a = c + b := ⟨a - b, by omega⟩
  rw [← nI_add, Int32.add_sub_cancel, Nat.add_sub_cancel]
theorem pk_m1 (n : Nat) : nI (n + 1) + (-1) = nI n := by
  rw [← nI_1, Int32.add_assoc, show (1 : Int32) + (-1) = 0 from rfl, Int32.add_zero]
theorem pk_mul (a b : Nat) : nI a * nI b = nI (a * b) := (Int32.ofNat_mul a b).symm
theorem pk_div {a d : Nat} (ha : a < 2 ^ 31) (h0 : 0 < d) (hd : d < 2 ^ 31) : nI a / nI d = nI (a / d) := by
  apply Int32.toInt_inj.mp
  rw [lg_idiv_nonneg (by rw [nI_toInt ha]; omega) (by rw [nI_toInt hd]; omega), nI_toInt ha, nI_toInt hd, nI_toInt (Nat.lt_of_le_of_lt (Nat.div_le_self a d) ha)]
  first | rfl | exact (Int.natCast_ediv _ _).symm
theorem pk_rem {a d : Nat} (ha : a < 2 ^ 31) (h0 : 0 < d) (hd : d < 2 ^ 31) : nI a - nI a / nI d * nI d = nI (a % d) := by
  rw [pk_div ha h0 hd, pk_mul, pk_sub (Nat.div_mul_le_self a d)]
  exact congrArg nI (by have := Nat.div_add_mod' a d; omega)
theorem pk_ix (x : Int32) {n : Nat} (hn : n < 2 ^ 31) : x < 0 ∨ nI n ≤ x ∨ ∃ j : Nat, j < n ∧ x = nI j := by
  by_cases h : x < 0
  · exact Or.inl h
  · obtain ⟨j, hj, rfl⟩ := nI_of h
    by_cases h2 : j < n
    · exact Or.inr (Or.inr ⟨j, h2, rfl⟩)
    · exact Or.inr (Or.inl (nI_le (by omega) hj))
theorem pk_le {x y : Int32} {A B : Prop} (a b : Nat) (f : a ≤ b → A) (g : b < a → B) (hx : x = nI a := by rfl) (hy : y = nI b := by rfl) (ha : a < 2 ^ 31 := by omega) (hb : b < 2 ^ 31 := by omega) : (x ≤ y → A) ∧ (¬ x ≤ y → B) := by
  subst hx hy
  rw [nI_leI ha hb]
  exact ⟨f, fun z => g (by omega)⟩
theorem pk_lt {x y : Int32} {A B : Prop} (a b : Nat) (f : a < b → A) (g : b ≤ a → B) (hx : x = nI a := by rfl) (hy : y = nI b := by rfl) (ha : a < 2 ^ 31 := by omega) (hb : b < 2 ^ 31 := by omega) : (x < y → A) ∧ (¬ x < y → B) := by
  subst hx hy
  rw [nI_ltI ha hb]
  exact ⟨f, fun z => g (by omega)⟩
theorem pk_eq {x y : Int32} {A B : Prop} (a b : Nat) (f : a = b → A) (g : a ≠ b → B) (hx : x = nI a := by rfl) (hy : y = nI b := by rfl) (ha : a < 2 ^ 31 := by omega) (hb : b < 2 ^ 31 := by omega) : (x = y → A) ∧ (¬ x = y → B) := by
  subst hx hy
  rw [nI_eq ha hb]
  exact ⟨f, g⟩
theorem pk_in {x : Int32} (n N : Nat) (h : n < N) (hx : x = nI n := by rfl) (hN : N < 2 ^ 31 := by omega) : vp_in x N := by
  subst hx
  exact vp_in_nI h hN
theorem pk_cl {x : Int32} (n : Nat) (hx : x = nI n := by rfl) (h : n < 2 ^ 31 := by omega) : x.toNatClampNeg = n := by
  subst hx
  exact nI_clamp h
theorem pk_loop {σ : Type} (W : Nat → Nat → σ → Prop) (I : Nat → σ → Prop) (e i0 : Nat) (s : σ) (hi : i0 ≤ e) (h0 : I i0 s) (hx : ∀ n s, I e s → W (n + 1) e s)
    (hs : ∀ n i s, i < e → I i s → (∀ s', I (i + 1) s' → W n (i + 1) s') → W (n + 1) i s) : ∃ n, W n i0 s :=
  ⟨e + 1, loop_i W I e hx hs (e + 1) i0 s hi (by omega) h0⟩
theorem ek_if {c d A B : Prop} (e : c ↔ d) (f : d → A) (g : ¬ d → B) : (c → A) ∧ (¬ c → B) :=
  ⟨fun z => f (e.mp z), fun z => g (fun y => z (e.mpr y))⟩
theorem ek_v {α : Sort _} {P : α → Prop} {a b : α} (e : a = b) (h : P b) : P a := e ▸ h
end
section
/-! the pure picture: the 21 places of what stands at p and below it, reading, storing, copying, clearing, counting -/
/-- the k-th of the 21 places of what stands at p and below it (84 or more: no such path) -/
def ts_ch (p k : Nat) : Nat := if k = 0 then p else if k < 5 then 4 * p + 3 + k else 16 * p + 15 + k
def ts_rd (a : Nat → Int32) (t p : Nat) : Int32 := if p < 84 then a (84 * t + p) else 0
def ts_st (a : Nat → Int32) (u p : Nat) (x : Int32) : Nat → Int32 := if p < 84 then upd a (84 * u + p) x else a
theorem ts_rd_t {a : Nat → Int32} {t p : Nat} (h : p < 84) : ts_rd a t p = a (84 * t + p) := if_pos h
theorem ts_rd_f {a : Nat → Int32} {t p : Nat} (h : ¬ p < 84) : ts_rd a t p = 0 := if_neg h
theorem ts_st_t {a : Nat → Int32} {u p : Nat} {x : Int32} (h : p < 84) : ts_st a u p x = upd a (84 * u + p) x := if_pos h
theorem ts_st_f {a : Nat → Int32} {u p : Nat} {x : Int32} (h : ¬ p < 84) : ts_st a u p x = a := if_neg h
theorem ts_st_n {a : Nat → Int32} {u p i : Nat} {x : Int32} (h : p < 84 → i ≠ 84 * u + p) : ts_st a u p x i = a i := by
  by_cases hp : p < 84
  · rw [ts_st_t hp, pk_un (h hp)]
  · rw [ts_st_f hp]
theorem ts_st_s {a : Nat → Int32} {u p : Nat} {x : Int32} (h : p < 84) : ts_st a u p x (84 * u + p) = x := by
  rw [ts_st_t h, pk_us]
theorem ts_ch_0 (p : Nat) : ts_ch p 0 = p := rfl
theorem ts_ch_1 (p i : Nat) (h : i < 4) : ts_ch p (1 + i) = 4 * p + 4 + i := by
  unfold ts_ch
  rw [if_neg (by omega), if_pos (by omega)]; omega
theorem ts_ch_2 (p i : Nat) : ts_ch p (5 + i) = 16 * p + 20 + i := by
  unfold ts_ch
  rw [if_neg (by omega), if_neg (by omega)]; omega
theorem ts_k3 (k : Nat) : k = 0 ∨ (∃ i, i < 4 ∧ k = 1 + i) ∨ (∃ i, k = 5 + i) := by
  by_cases h : k = 0
  · exact Or.inl h
  · by_cases h5 : k < 5
    · exact Or.inr (Or.inl ⟨k - 1, by omega, by omega⟩)
    · exact Or.inr (Or.inr ⟨k - 5, by omega⟩)
theorem ts_ch_inj {p k j : Nat} (h : ts_ch p k = ts_ch p j) : k = j := by
  rcases ts_k3 k with rfl | ⟨a, ha, rfl⟩ | ⟨a, rfl⟩ <;> rcases ts_k3 j with rfl | ⟨b, hb, rfl⟩ | ⟨b, rfl⟩ <;>
    simp (disch := omega) only [ts_ch_0, ts_ch_1, ts_ch_2] at h <;> omega
theorem ts_ch_lt {p k : Nat} (hp : p < 84) (hk : k < 21) : ts_ch p k < 1400 := by
  rcases ts_k3 k with rfl | ⟨a, ha, rfl⟩ | ⟨a, rfl⟩
  · rw [ts_ch_0]; omega
  · rw [ts_ch_1 _ _ ha]; omega
  · rw [ts_ch_2]; omega
theorem ts_ch_ge (p k : Nat) : p ≤ ts_ch p k := by
  rcases ts_k3 k with rfl | ⟨a, ha, rfl⟩ | ⟨a, rfl⟩
  · rw [ts_ch_0]; omega
  · rw [ts_ch_1 _ _ ha]; omega
  · rw [ts_ch_2]; omega
/-- the k of the parent of the k-th place -/
def ts_pk (k : Nat) : Nat := if k < 5 then 0 else (k - 5) / 4 + 1
theorem ts_ch_par {p k : Nat} (h0 : 0 < k) (hk : k < 21) : ts_ch p k / 4 - 1 = ts_ch p (ts_pk k) ∧ ts_pk k < 21 ∧ 4 ≤ ts_ch p k := by
  rcases ts_k3 k with rfl | ⟨a, ha, rfl⟩ | ⟨a, rfl⟩
  · omega
  · rw [ts_ch_1 _ _ ha, show ts_pk (1 + a) = 0 from if_pos (by omega), ts_ch_0]; omega
  · rw [ts_ch_2, show ts_pk (5 + a) = 1 + a / 4 from by unfold ts_pk; rw [if_neg (by omega)]; omega, ts_ch_1 _ _ (by omega)]; omega
/-- what stands in a place of the region is in the region too -/
theorem ts_ch_sub {q j c : Nat} (hj : j < 21) (hc : c < 84) (h4 : 4 ≤ c) (h : c / 4 - 1 = ts_ch q j) : ∃ k, k < 21 ∧ c = ts_ch q k := by
  rcases ts_k3 j with rfl | ⟨a, ha, rfl⟩ | ⟨a, rfl⟩
  · rw [ts_ch_0] at h
    refine ⟨1 + c % 4, by omega, ?_⟩
    rw [ts_ch_1 _ _ (by omega)]; omega
  · rw [ts_ch_1 _ _ ha] at h
    refine ⟨5 + (4 * a + c % 4), by omega, ?_⟩
    rw [ts_ch_2]; omega
  · rw [ts_ch_2] at h; omega
/-! copying a region -/
def ts_cp (a : Nat → Int32) (t p u q : Nat) : Nat → Nat → Int32
  | 0 => a
  | m + 1 => ts_st (ts_cp a t p u q m) u (ts_ch q m) (ts_rd (ts_cp a t p u q m) t (ts_ch p m))
def ts_em (a : Nat → Int32) (u q : Nat) : Nat → Nat → Int32
  | 0 => a
  | m + 1 => ts_st (ts_em a u q m) u (ts_ch q m) 0
/-- what X's clearing does to b (kinds or numbers), a being the kinds before it -/
def ts_ec (a b : Nat → Int32) (u q : Nat) : Nat → Nat → Int32
  | 0 => b
  | m + 1 => if ts_rd a u (ts_ch q m) = 0 then ts_ec a b u q m else ts_st (ts_ec a b u q m) u (ts_ch q m) 0
def ts_cn (a : Nat → Int32) (t p : Nat) : Nat → Nat
  | 0 => 0
  | m + 1 => if ts_rd a t (ts_ch p m) = 0 then ts_cn a t p m else ts_cn a t p m + 1
theorem ts_cn_le (a : Nat → Int32) (t p m : Nat) : ts_cn a t p m ≤ m := by
  induction m with
  | zero => exact Nat.le_refl 0
  | succ m ih => unfold ts_cn; split <;> omega
theorem ts_cn_t {a : Nat → Int32} {t p m : Nat} (h : ts_rd a t (ts_ch p m) = 0) : ts_cn a t p (m + 1) = ts_cn a t p m := if_pos h
theorem ts_cn_f {a : Nat → Int32} {t p m : Nat} (h : ¬ ts_rd a t (ts_ch p m) = 0) : ts_cn a t p (m + 1) = ts_cn a t p m + 1 := if_neg h
theorem ts_ec_t {a b : Nat → Int32} {u q m : Nat} (h : ts_rd a u (ts_ch q m) = 0) : ts_ec a b u q (m + 1) = ts_ec a b u q m := if_pos h
theorem ts_ec_f {a b : Nat → Int32} {u q m : Nat} (h : ¬ ts_rd a u (ts_ch q m) = 0) : ts_ec a b u q (m + 1) = ts_st (ts_ec a b u q m) u (ts_ch q m) 0 := if_neg h
theorem ts_cn_c {a b : Nat → Int32} {t p : Nat} (m : Nat) (h : ∀ k, k < m → ts_rd a t (ts_ch p k) = ts_rd b t (ts_ch p k)) : ts_cn a t p m = ts_cn b t p m := by
  induction m with
  | zero => rfl
  | succ m ih =>
    have e := ih (fun k hk => h k (by omega))
    have e2 := h m (by omega)
    by_cases z : ts_rd b t (ts_ch p m) = 0
    · rw [ts_cn_t z, ts_cn_t (e2.trans z), e]
    · rw [ts_cn_f z, ts_cn_f (fun y => z (e2.symm.trans y)), e]
/-- the cell i is outside the region of q in tree u -/
def ts_no (u q i : Nat) : Prop := ∀ k, k < 21 → ts_ch q k < 84 → i ≠ 84 * u + ts_ch q k
theorem ts_in_or (u q i : Nat) : ts_no u q i ∨ ∃ k, k < 21 ∧ ts_ch q k < 84 ∧ i = 84 * u + ts_ch q k := by
  by_cases h : ∃ k, k < 21 ∧ ts_ch q k < 84 ∧ i = 84 * u + ts_ch q k
  · exact Or.inr h
  · exact Or.inl fun k hk hc e => h ⟨k, hk, hc, e⟩
theorem ts_cp_fr {a : Nat → Int32} {t p u q i : Nat} (h : ts_no u q i) (m : Nat) (hm : m ≤ 21) : ts_cp a t p u q m i = a i := by
  induction m with
  | zero => rfl
  | succ m ih =>
    rw [show ts_cp a t p u q (m + 1) = ts_st (ts_cp a t p u q m) u (ts_ch q m) (ts_rd (ts_cp a t p u q m) t (ts_ch p m)) from rfl, ts_st_n (h m (by omega))]
    exact ih (by omega)
theorem ts_em_fr {a : Nat → Int32} {u q i : Nat} (h : ts_no u q i) (m : Nat) (hm : m ≤ 21) : ts_em a u q m i = a i := by
  induction m with
  | zero => rfl
  | succ m ih =>
    rw [show ts_em a u q (m + 1) = ts_st (ts_em a u q m) u (ts_ch q m) 0 from rfl, ts_st_n (h m (by omega))]
    exact ih (by omega)
theorem ts_ec_fr {a b : Nat → Int32} {u q i : Nat} (h : ts_no u q i) (m : Nat) (hm : m ≤ 21) : ts_ec a b u q m i = b i := by
  induction m with
  | zero => rfl
  | succ m ih =>
    by_cases z : ts_rd a u (ts_ch q m) = 0
    · rw [ts_ec_t z]; exact ih (by omega)
    · rw [ts_ec_f z, ts_st_n (h m (by omega))]; exact ih (by omega)
/-- the two regions share no cell -/
def ts_dj (t p u q : Nat) : Prop := ∀ k, k < 21 → ts_ch p k < 84 → ts_no u q (84 * t + ts_ch p k)
theorem ts_dj_ne {t u : Nat} (p q : Nat) (h : t ≠ u) : ts_dj t p u q := by
  intro k _ hc j _ hd e
  omega
theorem ts_rd_c {a b : Nat → Int32} {t p : Nat} (h : p < 84 → a (84 * t + p) = b (84 * t + p)) : ts_rd a t p = ts_rd b t p := by
  by_cases hp : p < 84
  · rw [ts_rd_t hp, ts_rd_t hp, h hp]
  · rw [ts_rd_f hp, ts_rd_f hp]
theorem ts_cp_src {a : Nat → Int32} {t p u q k : Nat} (D : ts_dj t p u q) (hk : k < 21) (m : Nat) (hm : m ≤ 21) : ts_rd (ts_cp a t p u q m) t (ts_ch p k) = ts_rd a t (ts_ch p k) :=
  ts_rd_c fun hc => ts_cp_fr (D k hk hc) m hm
theorem ts_cp_tg {a : Nat → Int32} {t p u q k : Nat} (D : ts_dj t p u q) (hc : ts_ch q k < 84) (m : Nat) (hm : m ≤ 21) (hk : k < m) : ts_cp a t p u q m (84 * u + ts_ch q k) = ts_rd a t (ts_ch p k) := by
  induction m with
  | zero => omega
  | succ m ih =>
    rw [show ts_cp a t p u q (m + 1) = ts_st (ts_cp a t p u q m) u (ts_ch q m) (ts_rd (ts_cp a t p u q m) t (ts_ch p m)) from rfl]
    by_cases e : k = m
    · subst e
      rw [ts_st_s hc, ts_cp_src D (by omega) _ (by omega)]
    · rw [ts_st_n (fun _ z => e (ts_ch_inj (p := q) (by omega)))]
      exact ih (by omega) (by omega)
theorem ts_em_tg {a : Nat → Int32} {u q k : Nat} (hc : ts_ch q k < 84) (m : Nat) (hm : m ≤ 21) (hk : k < m) : ts_em a u q m (84 * u + ts_ch q k) = 0 := by
  induction m with
  | zero => omega
  | succ m ih =>
    rw [show ts_em a u q (m + 1) = ts_st (ts_em a u q m) u (ts_ch q m) 0 from rfl]
    by_cases e : k = m
    · subst e
      rw [ts_st_s hc]
    · rw [ts_st_n (fun _ z => e (ts_ch_inj (p := q) (by omega)))]
      exact ih (by omega) (by omega)
theorem ts_ec_nx {a b : Nat → Int32} {u q k : Nat} (hc : ts_ch q k < 84) (m : Nat) (hk : m ≤ k) : ts_ec a b u q m (84 * u + ts_ch q k) = b (84 * u + ts_ch q k) := by
  induction m with
  | zero => rfl
  | succ m ih =>
    by_cases z : ts_rd a u (ts_ch q m) = 0
    · rw [ts_ec_t z]; exact ih (by omega)
    · rw [ts_ec_f z, ts_st_n (fun _ z => absurd (ts_ch_inj (p := q) (k := k) (j := m) (by omega)) (by omega))]; exact ih (by omega)
theorem ts_ec_rd {a b : Nat → Int32} {u q : Nat} (m : Nat) : ts_rd (ts_ec a b u q m) u (ts_ch q m) = ts_rd b u (ts_ch q m) :=
  ts_rd_c fun hc => ts_ec_nx hc m (Nat.le_refl m)
theorem ts_ec_tg {a b : Nat → Int32} {u q k : Nat} (hc : ts_ch q k < 84) (m : Nat) (hk : k < m) : ts_ec a b u q m (84 * u + ts_ch q k) = if a (84 * u + ts_ch q k) = 0 then b (84 * u + ts_ch q k) else 0 := by
  induction m with
  | zero => omega
  | succ m ih =>
    by_cases e : k = m
    · subst e
      by_cases z : ts_rd a u (ts_ch q k) = 0
      · rw [ts_ec_t z, ts_ec_nx hc k (Nat.le_refl k)]
        rw [ts_rd_t hc] at z
        rw [if_pos z]
      · rw [ts_ec_f z, ts_st_s hc]
        rw [ts_rd_t hc] at z
        rw [if_neg z]
    · by_cases z : ts_rd a u (ts_ch q m) = 0
      · rw [ts_ec_t z]; exact ih (by omega)
      · rw [ts_ec_f z, ts_st_n (fun _ z => e (ts_ch_inj (p := q) (by omega)))]; exact ih (by omega)
/-! copying a tree, counting -/
def ts_ct (a : Nat → Int32) (t u : Nat) : Nat → Nat → Int32
  | 0 => a
  | m + 1 => upd (ts_ct a t u m) (84 * u + m) (ts_ct a t u m (84 * t + m))
theorem ts_ct_fr {a : Nat → Int32} {t u i : Nat} (h : ∀ m, m < 84 → i ≠ 84 * u + m) (m : Nat) (hm : m ≤ 84) : ts_ct a t u m i = a i := by
  induction m with
  | zero => rfl
  | succ m ih =>
    rw [show ts_ct a t u (m + 1) = upd (ts_ct a t u m) (84 * u + m) (ts_ct a t u m (84 * t + m)) from rfl, pk_un (h m (by omega))]
    exact ih (by omega)
theorem ts_ct_tg {a : Nat → Int32} {t u k : Nat} (D : t ≠ u) (m : Nat) (hm : m ≤ 84) (hk : k < m) : ts_ct a t u m (84 * u + k) = a (84 * t + k) := by
  induction m with
  | zero => omega
  | succ m ih =>
    rw [show ts_ct a t u (m + 1) = upd (ts_ct a t u m) (84 * u + m) (ts_ct a t u m (84 * t + m)) from rfl]
    by_cases e : k = m
    · subst e
      rw [pk_us, ts_ct_fr (fun j hj => by omega) k (by omega)]
    · rw [pk_un (by omega)]
      exact ih (by omega) (by omega)
def ts_cz (a : Nat → Int32) (t : Nat) : Nat → Nat
  | 0 => 0
  | m + 1 => if a (84 * t + m) = 0 then ts_cz a t m else ts_cz a t m + 1
theorem ts_cz_t {a : Nat → Int32} {t m : Nat} (h : a (84 * t + m) = 0) : ts_cz a t (m + 1) = ts_cz a t m := if_pos h
theorem ts_cz_f {a : Nat → Int32} {t m : Nat} (h : ¬ a (84 * t + m) = 0) : ts_cz a t (m + 1) = ts_cz a t m + 1 := if_neg h
theorem ts_cz_le (a : Nat → Int32) (t m : Nat) : ts_cz a t m ≤ m := by
  induction m with
  | zero => exact Nat.le_refl 0
  | succ m ih => unfold ts_cz; split <;> omega
theorem ts_cz_c {a b : Nat → Int32} {t : Nat} (m : Nat) (h : ∀ k, k < m → a (84 * t + k) = b (84 * t + k)) : ts_cz a t m = ts_cz b t m := by
  induction m with
  | zero => rfl
  | succ m ih =>
    have e := ih (fun k hk => h k (by omega))
    have e2 := h m (by omega)
    by_cases z : b (84 * t + m) = 0
    · rw [ts_cz_t z, ts_cz_t (e2.trans z), e]
    · rw [ts_cz_f z, ts_cz_f (fun y => z (e2.symm.trans y)), e]
/-- counting by any property (classical) -/
noncomputable def ts_cq (P : Nat → Prop) : Nat → Nat
  | 0 => 0
  | m + 1 => @ite Nat (P m) (Classical.propDecidable (P m)) (ts_cq P m + 1) (ts_cq P m)
theorem ts_cq_f {P : Nat → Prop} {m : Nat} (h : ¬ P m) : ts_cq P (m + 1) = ts_cq P m := if_neg h
theorem ts_cq_t {P : Nat → Prop} {m : Nat} (h : P m) : ts_cq P (m + 1) = ts_cq P m + 1 := if_pos h
theorem ts_cq_le (P : Nat → Prop) (m : Nat) : ts_cq P m ≤ m := by
  induction m with
  | zero => exact Nat.le_refl 0
  | succ m ih =>
    by_cases h : P m
    · rw [ts_cq_t h]; omega
    · rw [ts_cq_f h]; omega
theorem ts_cq_c {P Q : Nat → Prop} (m : Nat) (h : ∀ k, k < m → (P k ↔ Q k)) : ts_cq P m = ts_cq Q m := by
  induction m with
  | zero => rfl
  | succ m ih =>
    have e := ih (fun k hk => h k (by omega))
    by_cases z : Q m
    · rw [ts_cq_t z, ts_cq_t ((h m (by omega)).mpr z), e]
    · rw [ts_cq_f z, ts_cq_f (fun y => z ((h m (by omega)).mp y)), e]
theorem ts_cq_0 {P : Nat → Prop} (m : Nat) : ts_cq P m = 0 ↔ ∀ k, k < m → ¬ P k := by
  induction m with
  | zero => exact ⟨fun _ k hk => absurd hk (by omega), fun _ => rfl⟩
  | succ m ih =>
    by_cases z : P m
    · rw [ts_cq_t z]
      exact ⟨fun h => absurd h (by omega), fun h => absurd z (h m (by omega))⟩
    · rw [ts_cq_f z, ih]
      exact ⟨fun h k hk => if e : k = m then e ▸ z else h k (by omega), fun h k hk => h k (by omega)⟩
end
section
/-! one cell of X (kinds k, numbers n) against one of Y (kinds k', numbers n') -/
def ts_C (k n k' n' : Nat → Int32) (i : Nat) : Prop := k' i = k i ∧ (k i = 0 ∨ k i = 1 ∨ k i = 2) ∧ n i = (if k i = 1 then n' i else 0)
def ts_R (k n k' n' : Nat → Int32) : Prop := ∀ i, i < 504 → ts_C k n k' n' i
/-- what stands in something stands in a folder, in every tree but the last one -/
def ts_W (k : Nat → Int32) : Prop := ∀ t, t < 6 → t ≠ 2 → ∀ c, 4 ≤ c → c < 84 → k (84 * t + c) ≠ 0 → k (84 * t + (c / 4 - 1)) = 2
theorem ts_C_0 {k n k' n' : Nat → Int32} {i : Nat} (h : ts_C k n k' n' i) (h1 : k i ≠ 1) : n i = 0 := by
  rw [h.2.2, if_neg h1]
theorem ts_C_1 {k n k' n' : Nat → Int32} {i : Nat} (h : ts_C k n k' n' i) (h1 : k i = 1) : n i = n' i := by
  rw [h.2.2, if_pos h1]
theorem ts_C_c {k n k' n' a b a' b' : Nat → Int32} {i : Nat} (h : ts_C k n k' n' i) (e1 : a i = k i) (e2 : b i = n i) (e3 : a' i = k' i) (e4 : b' i = n' i) : ts_C a b a' b' i := by
  unfold ts_C
  rw [e1, e2, e3, e4]; exact h
theorem ts_C_m {k n k' n' a b a' b' : Nat → Int32} {i j : Nat} (h : ts_C k n k' n' j) (e1 : a i = k j) (e2 : b i = n j) (e3 : a' i = k' j) (e4 : b' i = n' j) : ts_C a b a' b' i := by
  unfold ts_C
  rw [e1, e2, e3, e4]; exact h
theorem ts_C_z {a b a' b' : Nat → Int32} {i : Nat} (e1 : a i = 0) (e2 : b i = 0) (e3 : a' i = 0) : ts_C a b a' b' i :=
  ⟨e3.trans e1.symm, Or.inl e1, by rw [e1, e2, if_neg (by decide)]⟩
theorem ts_rd_C {k n k' n' : Nat → Int32} {t p : Nat} (h : p < 84 → ts_C k n k' n' (84 * t + p)) : ts_rd k' t p = ts_rd k t p :=
  ts_rd_c fun hp => (h hp).1
/-- two regions are alike: X's words and Y's -/
def ts_SX (k n : Nat → Int32) (t p u q : Nat) : Prop := ∀ j, j < 21 → ts_rd k t (ts_ch p j) = ts_rd k u (ts_ch q j) ∧ ts_rd n t (ts_ch p j) = ts_rd n u (ts_ch q j)
def ts_SY (k n : Nat → Int32) (t p u q : Nat) : Prop := ∀ j, j < 21 → ts_rd k t (ts_ch p j) = ts_rd k u (ts_ch q j) ∧ (ts_rd k t (ts_ch p j) = 1 → ts_rd n t (ts_ch p j) = ts_rd n u (ts_ch q j))
theorem ts_rd_1 {k : Nat → Int32} {t p : Nat} (h : ts_rd k t p = 1) : p < 84 := by
  by_cases hp : p < 84
  · exact hp
  · rw [ts_rd_f hp] at h; exact absurd h (by decide)
theorem ts_rn_0 {k n k' n' : Nat → Int32} {t p : Nat} (hC : p < 84 → ts_C k n k' n' (84 * t + p)) (h : ts_rd k t p ≠ 1) : ts_rd n t p = 0 := by
  by_cases hp : p < 84
  · rw [ts_rd_t hp] at h ⊢; exact ts_C_0 (hC hp) h
  · exact ts_rd_f hp
theorem ts_rn_1 {k n k' n' : Nat → Int32} {t p : Nat} (hC : p < 84 → ts_C k n k' n' (84 * t + p)) (h : ts_rd k t p = 1) : ts_rd n t p = ts_rd n' t p := by
  have hp := ts_rd_1 h
  rw [ts_rd_t hp] at h ⊢; rw [ts_rd_t hp]; exact ts_C_1 (hC hp) h
theorem ts_S_iff {k n k' n' : Nat → Int32} {t p u q : Nat} (hp : ∀ j, j < 21 → ts_ch p j < 84 → ts_C k n k' n' (84 * t + ts_ch p j)) (hq : ∀ j, j < 21 → ts_ch q j < 84 → ts_C k n k' n' (84 * u + ts_ch q j)) : ts_SY k' n' t p u q ↔ ts_SX k n t p u q := by
  constructor
  · intro h j hj
    obtain ⟨h1, h2⟩ := h j hj
    rw [ts_rd_C (hp j hj), ts_rd_C (hq j hj)] at h1
    rw [ts_rd_C (hp j hj)] at h2
    refine ⟨h1, ?_⟩
    by_cases z : ts_rd k t (ts_ch p j) = 1
    · rw [ts_rn_1 (hp j hj) z, ts_rn_1 (hq j hj) (h1.symm.trans z), h2 z]
    · rw [ts_rn_0 (hp j hj) z, ts_rn_0 (hq j hj) (fun y => z (h1.trans y))]
  · intro h j hj
    obtain ⟨h1, h2⟩ := h j hj
    rw [ts_rd_C (hp j hj), ts_rd_C (hq j hj)]
    refine ⟨h1, fun z => ?_⟩
    rw [ts_rn_1 (hp j hj) z, ts_rn_1 (hq j hj) (h1.symm.trans z)] at h2
    exact h2
theorem ts_R_in {k n k' n' : Nat → Int32} (R : ts_R k n k' n') {t p : Nat} (ht : t < 6) : p < 84 → ts_C k n k' n' (84 * t + p) := fun hp => R _ (by omega)
theorem ts_S_R {k n k' n' : Nat → Int32} (R : ts_R k n k' n') {t p u q : Nat} (ht : t < 6) (hu : u < 6) : ts_SY k' n' t p u q ↔ ts_SX k n t p u q :=
  ts_S_iff (fun _ _ h => ts_R_in R ht h) (fun _ _ h => ts_R_in R hu h)
/-- like entries, X's words and Y's -/
theorem ts_L_iff {k n k' n' : Nat → Int32} {i j : Nat} (hi : ts_C k n k' n' i) (hj : ts_C k n k' n' j) : (k' i = k' j ∧ (k' i = 1 → n' i = n' j)) ↔ (k i = k j ∧ n i = n j) := by
  rw [hi.1, hj.1]
  constructor
  · rintro ⟨h1, h2⟩
    refine ⟨h1, ?_⟩
    by_cases z : k i = 1
    · rw [ts_C_1 hi z, ts_C_1 hj (h1.symm.trans z), h2 z]
    · rw [ts_C_0 hi z, ts_C_0 hj (fun y => z (h1.trans y))]
  · rintro ⟨h1, h2⟩
    refine ⟨h1, fun z => ?_⟩
    rw [ts_C_1 hi z, ts_C_1 hj (h1.symm.trans z)] at h2
    exact h2
/-! what keeps the relation -/
theorem ts_R_cp {k n k' n' : Nat → Int32} (R : ts_R k n k' n') {t p u q : Nat} (D : ts_dj t p u q) (ht : t < 6) : ts_R (ts_cp k t p u q 21) (ts_cp n t p u q 21) (ts_cp (ts_em k' u q 21) t p u q 21) (ts_cp n' t p u q 21) := by
  intro i hi
  rcases ts_in_or u q i with h | ⟨j, hj, hc, rfl⟩
  · refine ts_C_c (R i hi) (ts_cp_fr h 21 (by omega)) (ts_cp_fr h 21 (by omega)) ?_ (ts_cp_fr h 21 (by omega))
    rw [ts_cp_fr h 21 (by omega), ts_em_fr h 21 (by omega)]
  · have e : ts_rd (ts_em k' u q 21) t (ts_ch p j) = ts_rd k' t (ts_ch p j) := ts_rd_c fun hp => ts_em_fr (D j hj hp) 21 (by omega)
    by_cases hp : ts_ch p j < 84
    · refine ts_C_m (R (84 * t + ts_ch p j) (by omega)) ?_ ?_ ?_ ?_
      · rw [ts_cp_tg D hc 21 (by omega) hj, ts_rd_t hp]
      · rw [ts_cp_tg D hc 21 (by omega) hj, ts_rd_t hp]
      · rw [ts_cp_tg D hc 21 (by omega) hj, e, ts_rd_t hp]
      · rw [ts_cp_tg D hc 21 (by omega) hj, ts_rd_t hp]
    · refine ts_C_z ?_ ?_ ?_
      · rw [ts_cp_tg D hc 21 (by omega) hj, ts_rd_f hp]
      · rw [ts_cp_tg D hc 21 (by omega) hj, ts_rd_f hp]
      · rw [ts_cp_tg D hc 21 (by omega) hj, e, ts_rd_f hp]
theorem ts_R_up {k n k' n' : Nat → Int32} (R : ts_R k n k' n') {i : Nat} {x : Int32} (hx : x = 0 ∨ x = 1 ∨ x = 2) {y : Int32} {m m' : Nat → Int32} (e1 : m i = if x = 1 then y else 0) (e2 : x = 1 → m' i = y) (f1 : ∀ j, j ≠ i → m j = n j) (f2 : ∀ j, j ≠ i → m' j = n' j) : ts_R (upd k i x) m (upd k' i x) m' := by
  intro j hj
  by_cases e : j = i
  · subst e
    refine ⟨by rw [pk_us, pk_us], by rw [pk_us]; exact hx, ?_⟩
    rw [pk_us, e1]
    by_cases z : x = 1
    · rw [if_pos z, if_pos z, e2 z]
    · rw [if_neg z, if_neg z]
  · exact ts_C_c (R j hj) (pk_un e) (f1 j e) (pk_un e) (f2 j e)
theorem ts_R_em {k n k' n' : Nat → Int32} (R : ts_R k n k' n') {t p : Nat} (ht : t < 6) : ts_R (ts_ec k k t p 21) (ts_ec k n t p 21) (ts_em k' t p 21) n' := by
  intro i hi
  rcases ts_in_or t p i with h | ⟨j, hj, hc, rfl⟩
  · exact ts_C_c (R i hi) (ts_ec_fr h 21 (by omega)) (ts_ec_fr h 21 (by omega)) (ts_em_fr h 21 (by omega)) rfl
  · refine ts_C_z ?_ ?_ (ts_em_tg hc 21 (by omega) hj)
    · rw [ts_ec_tg hc 21 hj]; split
      · assumption
      · rfl
    · rw [ts_ec_tg hc 21 hj]; split
      · rename_i z
        exact ts_C_0 (R _ hi) (by rw [z]; decide)
      · rfl
theorem ts_R_ct {k n k' n' : Nat → Int32} (R : ts_R k n k' n') {t u : Nat} (D : t ≠ u) (ht : t < 6) : ts_R (ts_ct k t u 84) (ts_ct n t u 84) (ts_ct k' t u 84) (ts_ct n' t u 84) := by
  intro i hi
  by_cases h : 84 * u ≤ i ∧ i < 84 * u + 84
  · obtain ⟨c, rfl⟩ : ∃ c, i = 84 * u + c := ⟨i - 84 * u, by omega⟩
    have hc : c < 84 := by omega
    exact ts_C_m (R (84 * t + c) (by omega)) (ts_ct_tg D 84 (by omega) hc) (ts_ct_tg D 84 (by omega) hc) (ts_ct_tg D 84 (by omega) hc) (ts_ct_tg D 84 (by omega) hc)
  · have f : ∀ m, m < 84 → i ≠ 84 * u + m := fun m hm => by omega
    exact ts_C_c (R i hi) (ts_ct_fr f 84 (by omega)) (ts_ct_fr f 84 (by omega)) (ts_ct_fr f 84 (by omega)) (ts_ct_fr f 84 (by omega))
/-! what keeps W -/
theorem ts_W_2 {k a : Nat → Int32} (W : ts_W k) (h : ∀ i, i < 504 → ¬ (168 ≤ i ∧ i < 252) → a i = k i) : ts_W a := by
  intro t ht h2 c h4 hc
  rw [h (84 * t + c) (by omega) (by omega), h (84 * t + (c / 4 - 1)) (by omega) (by omega)]
  exact W t ht h2 c h4 hc
theorem ts_W_up {k : Nat → Int32} (W : ts_W k) {s p : Nat} (x : Int32) (hp : p < 84) (h2 : k (84 * s + p) ≠ 2) (hq : 4 ≤ p → k (84 * s + (p / 4 - 1)) = 2) : ts_W (upd k (84 * s + p) x) := by
  intro t ht t2 c h4 hc
  by_cases e : 84 * t + c = 84 * s + p
  · obtain ⟨rfl, rfl⟩ : t = s ∧ c = p := by omega
    intro _
    rw [pk_un (by omega)]
    exact hq h4
  · rw [pk_un e]
    intro hn
    have := W t ht t2 c h4 hc hn
    by_cases f : 84 * t + (c / 4 - 1) = 84 * s + p
    · rw [f] at this; exact absurd this h2
    · rw [pk_un f]; exact this
theorem ts_W_no {u q t c : Nat} (hc : c < 84) (h4 : 4 ≤ c) (h : ts_no u q (84 * t + c)) : ts_no u q (84 * t + (c / 4 - 1)) := by
  intro j hj hd e
  obtain ⟨rfl, e2⟩ : t = u ∧ c / 4 - 1 = ts_ch q j := by omega
  obtain ⟨k, hk, e3⟩ := ts_ch_sub hj hc h4 e2
  exact h k hk (by omega) (by omega)
theorem ts_W_ec {k : Nat → Int32} (W : ts_W k) (s p : Nat) : ts_W (ts_ec k k s p 21) := by
  intro t ht t2 c h4 hc hn
  rcases ts_in_or s p (84 * t + c) with h | ⟨j, hj, hd, e⟩
  · rw [ts_ec_fr h 21 (by omega)] at hn
    rw [ts_ec_fr (ts_W_no hc h4 h) 21 (by omega)]
    exact W t ht t2 c h4 hc hn
  · rw [e, ts_ec_tg hd 21 hj] at hn
    split at hn
    · rename_i z; exact absurd z hn
    · exact absurd rfl hn
theorem ts_W_cp {k : Nat → Int32} (W : ts_W k) {t p u q : Nat} (D : ts_dj t p u q) (ht : t < 6) (t2 : t ≠ 2) (hq84 : q < 84) (hq : 4 ≤ q → k (84 * u + (q / 4 - 1)) = 2) : ts_W (ts_cp k t p u q 21) := by
  intro v hv v2 c h4 hc hn
  rcases ts_in_or u q (84 * v + c) with h | ⟨j, hj, hd, e⟩
  · rw [ts_cp_fr h 21 (by omega)] at hn
    rw [ts_cp_fr (ts_W_no hc h4 h) 21 (by omega)]
    exact W v hv v2 c h4 hc hn
  · obtain ⟨rfl, rfl⟩ : v = u ∧ c = ts_ch q j := by omega
    by_cases j0 : j = 0
    · subst j0
      rw [ts_ch_0] at h4 hc ⊢
      rw [ts_cp_fr (fun i _ _ z => by have := ts_ch_ge q i; omega) 21 (by omega)]
      exact hq h4
    · rw [ts_cp_tg D hd 21 (by omega) hj] at hn
      have hp : ts_ch p j < 84 := by
        by_cases z : ts_ch p j < 84
        · exact z
        · exact absurd (ts_rd_f z) hn
      rw [ts_rd_t hp] at hn
      obtain ⟨e1, e2, e3⟩ := ts_ch_par (p := p) (k := j) (by omega) hj
      obtain ⟨f1, f2, f3⟩ := ts_ch_par (p := q) (k := j) (by omega) hj
      have := W t ht t2 _ e3 hp hn
      rw [e1] at this
      rw [f1, ts_cp_tg D (by omega) 21 (by omega) f2, ts_rd_t (by omega)]
      exact this
theorem ts_W_ct {k : Nat → Int32} (W : ts_W k) {t u : Nat} (D : t ≠ u) (ht : t < 6) (t2 : t ≠ 2) : ts_W (ts_ct k t u 84) := by
  intro v hv v2 c h4 hc
  by_cases e : v = u
  · subst e
    rw [ts_ct_tg D 84 (by omega) hc, ts_ct_tg D 84 (by omega) (by omega)]
    exact W t ht t2 c h4 hc
  · rw [ts_ct_fr (fun m hm => by omega) 84 (by omega), ts_ct_fr (fun m hm => by omega) 84 (by omega)]
    exact W v hv v2 c h4 hc
/-! regions of one tree -/
theorem ts_dj_s {k : Nat → Int32} (W : ts_W k) {s p q : Nat} (hs : s < 2) (hp : p < 84) (hq : q < 84) (kp : k (84 * s + p) ≠ 0) (kq : k (84 * s + q) = 0) (h1 : 4 ≤ q → q / 4 - 1 ≠ p) (h2 : 20 ≤ q → (q / 4 - 1) / 4 - 1 ≠ p) : ts_dj s p s q := by
  have hne : p ≠ q := fun e => kp (e ▸ kq)
  have g1 : 4 ≤ p → p / 4 - 1 ≠ q := fun h4 e => by
    have := W s (by omega) (by omega) p h4 hp kp
    rw [e, kq] at this; exact absurd this (by decide)
  have g2 : 20 ≤ p → (p / 4 - 1) / 4 - 1 ≠ q := fun h4 e => by
    have a1 := W s (by omega) (by omega) p (by omega) hp kp
    have a2 := W s (by omega) (by omega) (p / 4 - 1) (by omega) (by omega) (by rw [a1]; decide)
    rw [e, kq] at a2; exact absurd a2 (by decide)
  intro i hi hc j hj hd e
  rcases ts_k3 i with rfl | ⟨a, ha, rfl⟩ | ⟨a, rfl⟩ <;> rcases ts_k3 j with rfl | ⟨b, hb, rfl⟩ | ⟨b, rfl⟩ <;>
    simp (disch := omega) only [ts_ch_0, ts_ch_1, ts_ch_2] at hc hd e <;> omega
end
section
/-! moving within a tree: Y goes through its spare tree 9 -/
theorem ts_ch0 {k : Nat} (hk : k < 21) : ts_ch 0 k < 84 := by
  rcases ts_k3 k with rfl | ⟨a, ha, rfl⟩ | ⟨a, rfl⟩
  · rw [ts_ch_0]; omega
  · rw [ts_ch_1 _ _ ha]; omega
  · rw [ts_ch_2]; omega
theorem ts_no_t {u q i : Nat} (h : i < 84 * u ∨ 84 * u + 84 ≤ i) : ts_no u q i := fun k _ hc e => by omega
/-- Y's copy: out of (s, p) into (9, 0), from there into (s, q); b: the kinds between the two -/
theorem ts_cp9 {a b : Nat → Int32} {s p q : Nat} (hs : s < 6) (a' : Nat → Int32) (ha : ∀ i, i < 504 → a' i = a i) (hb : ∀ j, j < 84 → b (84 * 9 + j) = ts_cp a' s p 9 0 21 (84 * 9 + j)) {k : Nat} (hk : k < 21) (hc : ts_ch q k < 84) : ts_cp b 9 0 s q 21 (84 * s + ts_ch q k) = ts_rd a s (ts_ch p k) := by
  rw [ts_cp_tg (ts_dj_ne 0 q (by omega)) hc 21 (by omega) hk, ts_rd_t (ts_ch0 hk), hb _ (ts_ch0 hk), ts_cp_tg (u := 9) (ts_dj_ne p 0 (by omega)) (ts_ch0 hk) 21 (by omega) hk]
  exact ts_rd_c fun hp => ha _ (by omega)
theorem ts_R_copy {k n k' n' : Nat → Int32} (R : ts_R k n k' n') {s p q : Nat} (hs : s < 2) (D : ts_dj s p s q) : ts_R (ts_cp k s p s q 21) (ts_cp n s p s q 21) (ts_cp (ts_em (ts_cp (ts_em k' 9 0 21) s p 9 0 21) s q 21) 9 0 s q 21) (ts_cp (ts_cp n' s p 9 0 21) 9 0 s q 21) := by
  have f9 : ∀ i, i < 504 → ts_no 9 0 i := fun i hi => ts_no_t (by omega)
  have g9 : ∀ i, i < 504 → ts_em k' 9 0 21 i = k' i := fun i hi => ts_em_fr (f9 i hi) 21 (by omega)
  intro i hi
  rcases ts_in_or s q i with h | ⟨j, hj, hc, rfl⟩
  · refine ts_C_c (R i hi) (ts_cp_fr h 21 (by omega)) (ts_cp_fr h 21 (by omega)) ?_ ?_
    · rw [ts_cp_fr h 21 (by omega), ts_em_fr h 21 (by omega), ts_cp_fr (f9 i hi) 21 (by omega), g9 i hi]
    · rw [ts_cp_fr h 21 (by omega), ts_cp_fr (f9 i hi) 21 (by omega)]
  · have e1 : ts_cp (ts_em (ts_cp (ts_em k' 9 0 21) s p 9 0 21) s q 21) 9 0 s q 21 (84 * s + ts_ch q j) = ts_rd k' s (ts_ch p j) :=
      ts_cp9 (by omega) (ts_em k' 9 0 21) g9 (fun j hj => ts_em_fr (ts_no_t (by omega)) 21 (by omega)) hj hc
    have e2 : ts_cp (ts_cp n' s p 9 0 21) 9 0 s q 21 (84 * s + ts_ch q j) = ts_rd n' s (ts_ch p j) :=
      ts_cp9 (by omega) n' (fun _ _ => rfl) (fun _ _ => rfl) hj hc
    by_cases hp : ts_ch p j < 84
    · refine ts_C_m (R (84 * s + ts_ch p j) (by omega)) ?_ ?_ ?_ ?_
      · rw [ts_cp_tg D hc 21 (by omega) hj, ts_rd_t hp]
      · rw [ts_cp_tg D hc 21 (by omega) hj, ts_rd_t hp]
      · rw [e1, ts_rd_t hp]
      · rw [e2, ts_rd_t hp]
    · refine ts_C_z ?_ ?_ ?_
      · rw [ts_cp_tg D hc 21 (by omega) hj, ts_rd_f hp]
      · rw [ts_cp_tg D hc 21 (by omega) hj, ts_rd_f hp]
      · rw [e1, ts_rd_f hp]
theorem ts_R_move {k n k' n' : Nat → Int32} (R : ts_R k n k' n') {s p q : Nat} (hs : s < 2) (D : ts_dj s p s q) : ts_R (ts_ec (ts_cp k s p s q 21) (ts_cp k s p s q 21) s p 21) (ts_ec (ts_cp k s p s q 21) (ts_cp n s p s q 21) s p 21) (ts_cp (ts_em (ts_em (ts_cp (ts_em k' 9 0 21) s p 9 0 21) s p 21) s q 21) 9 0 s q 21) (ts_cp (ts_cp n' s p 9 0 21) 9 0 s q 21) := by
  have f9 : ∀ i, i < 504 → ts_no 9 0 i := fun i hi => ts_no_t (by omega)
  have g9 : ∀ i, i < 504 → ts_em k' 9 0 21 i = k' i := fun i hi => ts_em_fr (f9 i hi) 21 (by omega)
  have Q := ts_R_copy R hs D
  intro i hi
  rcases ts_in_or s p i with h | ⟨j, hj, hc, rfl⟩
  · refine ts_C_c (Q i hi) (ts_ec_fr h 21 (by omega)) (ts_ec_fr h 21 (by omega)) ?_ rfl
    rcases ts_in_or s q i with g | ⟨j, hj, hc, rfl⟩
    · rw [ts_cp_fr g 21 (by omega), ts_em_fr g 21 (by omega), ts_em_fr h 21 (by omega), ts_cp_fr g 21 (by omega), ts_em_fr g 21 (by omega)]
    · have e1 : ts_cp (ts_em (ts_em (ts_cp (ts_em k' 9 0 21) s p 9 0 21) s p 21) s q 21) 9 0 s q 21 (84 * s + ts_ch q j) = ts_rd k' s (ts_ch p j) :=
        ts_cp9 (by omega) (ts_em k' 9 0 21) g9 (fun j hj => by rw [ts_em_fr (ts_no_t (by omega)) 21 (by omega), ts_em_fr (ts_no_t (by omega)) 21 (by omega)]) hj hc
      have e2 : ts_cp (ts_em (ts_cp (ts_em k' 9 0 21) s p 9 0 21) s q 21) 9 0 s q 21 (84 * s + ts_ch q j) = ts_rd k' s (ts_ch p j) :=
        ts_cp9 (by omega) (ts_em k' 9 0 21) g9 (fun j hj => ts_em_fr (ts_no_t (by omega)) 21 (by omega)) hj hc
      rw [e1, e2]
  · have hno := D j hj hc
    have hk := Q _ hi
    refine ts_C_z ?_ ?_ ?_
    · rw [ts_ec_tg hc 21 hj]; split
      · assumption
      · rfl
    · rw [ts_ec_tg hc 21 hj]; split
      · rename_i z
        exact ts_C_0 hk (by rw [z]; decide)
      · rfl
    · rw [ts_cp_fr hno 21 (by omega), ts_em_fr hno 21 (by omega), ts_em_tg hc 21 (by omega) hj]
/-! the way through the trees -/
/-- the path that comes when p and all below it is done; 1000: none -/
def ts_nx (p : Nat) : Nat := if p % 4 ≠ 3 then p + 1 else if p < 4 then 1000 else if (p / 4 - 1) % 4 ≠ 3 then p / 4 else if p < 20 then 1000 else if ((p / 4 - 1) / 4 - 1) % 4 ≠ 3 then (p / 4 - 1) / 4 else 1000
/-- p's place in the order of the way -/
def ts_ps (p : Nat) : Nat := if p < 4 then 21 * p else if p < 20 then 21 * (p / 4 - 1) + 1 + 5 * (p % 4) else 21 * ((p / 4 - 1) / 4 - 1) + 1 + 5 * ((p / 4 - 1) % 4) + 1 + p % 4
/-- how many wait on Y's pile when p has been taken from it -/
def ts_ht (p : Nat) : Nat := (3 - p % 4) + (if p < 4 then 0 else (3 - (p / 4 - 1) % 4) + (if p < 20 then 0 else 3 - ((p / 4 - 1) / 4 - 1) % 4))
theorem ts_f1 : ∀ p, p < 84 → ts_ps p < 84 ∧ ts_ht p ≤ 9 ∧ (ts_nx p = 1000 ∨ ts_nx p < 84) := by decide +kernel
theorem ts_f2 : ∀ p, p < 84 → ts_nx p < 84 → ts_ps p < ts_ps (ts_nx p) ∧ ts_ht p = ts_ht (ts_nx p) + 1 := by decide +kernel
theorem ts_f3 : ∀ p, p < 84 → ts_nx p = 1000 → ts_ht p = 0 := by decide +kernel
theorem ts_f4 : ∀ p, p < 20 → ts_ps (4 * p + 4) = ts_ps p + 1 ∧ ts_ht (4 * p + 4) = ts_ht p + 3 ∧ ts_ht (4 * p + 5) = ts_ht p + 2 ∧ ts_ht (4 * p + 6) = ts_ht p + 1 ∧ ts_ht (4 * p + 7) = ts_ht p := by decide +kernel
theorem ts_f5 : ∀ p, p < 20 → ts_nx (4 * p + 4) = 4 * p + 5 ∧ ts_nx (4 * p + 5) = 4 * p + 6 ∧ ts_nx (4 * p + 6) = 4 * p + 7 ∧ ts_nx (4 * p + 7) = ts_nx p := by decide +kernel
theorem ts_f6 : ∀ p, p < 84 → ∀ k, k < 21 → ts_ch p k < 84 → ts_ps p ≤ ts_ps (ts_ch p k) ∧ (ts_nx p < 84 → ts_ps (ts_ch p k) < ts_ps (ts_nx p)) := by decide +kernel
theorem ts_f7 : ∀ p, p < 84 → ts_nx p < 84 → 4 ≤ ts_nx p → 4 ≤ p ∧ (ts_nx p / 4 - 1 = p / 4 - 1 ∨ (20 ≤ p ∧ ts_nx p < 20 ∧ ts_nx p / 4 - 1 = (p / 4 - 1) / 4 - 1)) := by decide +kernel
/-- Y's pile when p has been taken from it -/
def ts_pl (a : Nat → Int32) : Nat → Nat → Prop
  | 0, p => ts_nx p = 1000
  | h + 1, p => a h = nI (ts_nx p) ∧ ts_nx p < 84 ∧ ts_pl a h (ts_nx p)
theorem ts_pl_c {a b : Nat → Int32} (h : Nat) : ∀ p, (∀ i, i < h → b i = a i) → ts_pl a h p → ts_pl b h p := by
  induction h with
  | zero => exact fun _ _ H => H
  | succ h ih => exact fun p e H => ⟨(e h (by omega)).trans H.1, H.2.1, ih _ (fun i hi => e i (by omega)) H.2.2⟩
theorem ts_pl_n {a : Nat → Int32} {h p q : Nat} (e : ts_nx q = ts_nx p) (H : ts_pl a h p) : ts_pl a h q := by
  cases h with
  | zero => exact e.trans H
  | succ h =>
    unfold ts_pl
    rw [e]; exact H
theorem ts_pl_push {a b : Nat → Int32} {h p : Nat} (hp : p < 20) (H : ts_pl a h p) (e : ∀ i, i < h → b i = a i) (e3 : b h = nI (4 * p + 7)) (e2 : b (h + 1) = nI (4 * p + 6)) (e1 : b (h + 2) = nI (4 * p + 5)) : ts_pl b (h + 3) (4 * p + 4) := by
  obtain ⟨f4, f5, f6, f7⟩ := ts_f5 p hp
  refine ⟨by rw [f4]; exact e1, by omega, ?_⟩
  rw [f4]
  refine ⟨by rw [f5]; exact e2, by omega, ?_⟩
  rw [f5]
  refine ⟨by rw [f6]; exact e3, by omega, ?_⟩
  rw [f6]
  exact ts_pl_n f7 (ts_pl_c h p e H)
theorem ts_pl_0 {a : Nat → Int32} (e0 : a 0 = nI 3) (e1 : a 1 = nI 2) (e2 : a 2 = nI 1) : ts_pl a 3 0 :=
  ⟨e2, by decide, ⟨e1, by decide, ⟨e0, by decide, rfl⟩⟩⟩
/-- both sides have folders above p -/
def ts_A (k : Nat → Int32) (p : Nat) : Prop := ∀ t, t < 2 → 4 ≤ p → k (84 * t + (p / 4 - 1)) = 2 ∧ (20 ≤ p → k (84 * t + ((p / 4 - 1) / 4 - 1)) = 2)
theorem ts_A_nx {k : Nat → Int32} {p : Nat} (hp : p < 84) (hn : ts_nx p < 84) (A : ts_A k p) : ts_A k (ts_nx p) := by
  intro t ht h4
  obtain ⟨p4, h | ⟨h20, hl, h⟩⟩ := ts_f7 p hp hn h4
  · obtain ⟨a1, a2⟩ := A t ht p4
    refine ⟨by rw [h]; exact a1, fun h20 => ?_⟩
    rw [h]; exact a2 (by omega)
  · obtain ⟨a1, a2⟩ := A t ht p4
    exact ⟨by rw [h]; exact a2 h20, fun z => by omega⟩
theorem ts_A_ch {k : Nat → Int32} {p : Nat} (hp : p < 20) (A : ts_A k p) (h0 : k p = 2) (h1 : k (84 + p) = 2) : ts_A k (4 * p + 4) := by
  have e : (4 * p + 4) / 4 - 1 = p := by omega
  intro t ht _
  rw [e]
  refine ⟨?_, fun h => (A t ht (by omega)).1⟩
  obtain rfl | rfl : t = 0 ∨ t = 1 := by omega
  · rw [Nat.mul_zero, Nat.zero_add]; exact h0
  · exact h1
theorem ts_A_c {k a : Nat → Int32} {p : Nat} (A : ts_A k p) (e : ∀ t c, t < 2 → c < p → a (84 * t + c) = k (84 * t + c)) : ts_A a p := by
  intro t ht h4
  rw [e t _ ht (by omega)]
  refine ⟨(A t ht h4).1, fun h => ?_⟩
  rw [e t _ ht (by omega)]
  exact (A t ht h4).2 h
/-- both folders and not alike: something can stand in it -/
theorem ts_20 {k n k' n' : Nat → Int32} {p : Nat} (hp : p < 84) (C0 : ts_C k n k' n' p) (C1 : ts_C k n k' n' (84 + p)) (h0 : k p = 2) (h1 : k (84 + p) = 2) (hS : ¬ ts_SX k n 0 p 1 p) : p < 20 := by
  by_cases h : p < 20
  · exact h
  · exfalso
    apply hS
    intro j hj
    by_cases j0 : j = 0
    · subst j0
      rw [ts_ch_0, ts_rd_t hp, ts_rd_t hp, ts_rd_t hp, ts_rd_t hp, Nat.mul_zero, Nat.zero_add, Nat.mul_one, h0, h1]
      exact ⟨rfl, by rw [ts_C_0 C0 (by rw [h0]; decide), ts_C_0 C1 (by rw [h1]; decide)]⟩
    · have hj84 : ¬ ts_ch p j < 84 := by
        rcases ts_k3 j with rfl | ⟨a, ha, rfl⟩ | ⟨a, rfl⟩
        · omega
        · rw [ts_ch_1 _ _ ha]; omega
        · rw [ts_ch_2]; omega
      rw [ts_rd_f hj84, ts_rd_f hj84, ts_rd_f hj84, ts_rd_f hj84]
      exact ⟨rfl, rfl⟩
/-! how deep something stands -/
def ts_lv (k : Nat) : Nat := if k = 0 then 0 else if k < 5 then 1 else 2
def ts_dp (a : Nat → Int32) (t p : Nat) : Nat → Nat
  | 0 => 0
  | m + 1 => if ts_rd a t (ts_ch p m) = 0 then ts_dp a t p m else ts_lv m
theorem ts_dp_t {a : Nat → Int32} {t p m : Nat} (h : ts_rd a t (ts_ch p m) = 0) : ts_dp a t p (m + 1) = ts_dp a t p m := if_pos h
theorem ts_dp_f {a : Nat → Int32} {t p m : Nat} (h : ¬ ts_rd a t (ts_ch p m) = 0) : ts_dp a t p (m + 1) = ts_lv m := if_neg h
theorem ts_lv_up (m : Nat) : ts_lv m ≤ ts_lv (m + 1) ∧ ts_lv m ≤ 2 := by
  unfold ts_lv
  by_cases h : m = 0
  · subst h; decide
  · rw [if_neg h, if_neg (show ¬ m + 1 = 0 by omega)]
    by_cases h5 : m < 5
    · rw [if_pos h5]; split <;> omega
    · rw [if_neg h5, if_neg (show ¬ m + 1 < 5 by omega)]; omega
theorem ts_dp_le (a : Nat → Int32) (t p m : Nat) : ts_dp a t p m ≤ ts_lv m := by
  induction m with
  | zero => exact Nat.le_refl 0
  | succ m ih =>
    have := ts_lv_up m
    by_cases z : ts_rd a t (ts_ch p m) = 0
    · rw [ts_dp_t z]; omega
    · rw [ts_dp_f z]; omega
theorem ts_dp_c {a b : Nat → Int32} {t p : Nat} (m : Nat) (h : ∀ k, k < m → ts_rd a t (ts_ch p k) = ts_rd b t (ts_ch p k)) : ts_dp a t p m = ts_dp b t p m := by
  induction m with
  | zero => rfl
  | succ m ih =>
    have e := ih (fun k hk => h k (by omega))
    have e2 := h m (by omega)
    by_cases z : ts_rd b t (ts_ch p m) = 0
    · rw [ts_dp_t z, ts_dp_t (e2.trans z), e]
    · rw [ts_dp_f z, ts_dp_f (fun y => z (e2.symm.trans y))]
/-! indices -/
theorem ts_ix (t p : Nat) : nI t * 84 + nI p = nI (84 * t + p) := by
  show nI t * nI 84 + nI p = _
  rw [pk_mul, nI_add, Nat.mul_comm]
theorem ts_iy (t p : Nat) : 84 * nI t + nI p = nI (84 * t + p) := by
  show nI 84 * nI t + nI p = _
  rw [pk_mul, nI_add]
theorem ts_4p (p : Nat) : 4 * nI p + 4 = nI (4 * p + 4) := by
  show nI 4 * nI p + nI 4 = _
  rw [pk_mul, nI_add]
/-- the k-th place as Y's part answers it -/
def ts_pt (p k : Nat) : Int32 := if ts_ch p k < 84 then nI (ts_ch p k) else -1
theorem ts_pt_t {p k : Nat} (h : ts_ch p k < 84) : ts_pt p k = nI (ts_ch p k) := if_pos h
theorem ts_pt_f {p k : Nat} (h : ¬ ts_ch p k < 84) : ts_pt p k = -1 := if_neg h
end
section
/-! X's private methods -/
section
variable {post : Int32 → Prop} {qost : SX → Prop} {rost : Int32 → SX → Prop} {xf xa xc : Int32} {K N kp ap ad cp : Nat → Int32}
theorem ts_xin {t p : Nat} (ht : t < 6) (hp : p < 84) : vp_in (nI t * 84 + nI p) 504 := by
  rw [ts_ix]; exact vp_in_nI (by omega) (by decide)
theorem ts_xcl {t p : Nat} (ht : t < 6) (hp : p < 84) : (nI t * 84 + nI p).toNatClampNeg = 84 * t + p := by
  rw [ts_ix]; exact nI_clamp (by omega)
theorem tx_kindAt {t p : Nat} (ht : t < 6) (hp : p < 2000) (h : post (ts_rd K t p)) : wpX_kindAt post (xf, xa, xc, K, N, kp, ap, ad, cp) (nI t) (nI p) := by
  refine br_f (nI_pos (by omega)) ?_
  by_cases h84 : p < 84
  · refine br_f (nI_ge (b := 84) h84 (by decide)) ⟨ts_xin ht h84, ?_⟩
    rw [ts_rd_t h84] at h
    rw [ts_xcl ht h84]; exact h
  · rw [ts_rd_f h84] at h
    exact br_t (nI_le (a := 84) (by omega) (by omega)) h
theorem tx_numberAt {t p : Nat} (ht : t < 6) (hp : p < 2000) (h : post (ts_rd N t p)) : wpX_numberAt post (xf, xa, xc, K, N, kp, ap, ad, cp) (nI t) (nI p) := by
  refine br_f (nI_pos (by omega)) ?_
  by_cases h84 : p < 84
  · refine br_f (nI_ge (b := 84) h84 (by decide)) ⟨ts_xin ht h84, ?_⟩
    rw [ts_rd_t h84] at h
    rw [ts_xcl ht h84]; exact h
  · rw [ts_rd_f h84] at h
    exact br_t (nI_le (a := 84) (by omega) (by omega)) h
theorem tx_setEntry {t p : Nat} {x y : Int32} (ht : t < 6) (hp : p < 2000) (h : qost (xf, xa, xc, ts_st K t p x, ts_st N t p y, kp, ap, ad, cp)) : wpX_setEntry qost (xf, xa, xc, K, N, kp, ap, ad, cp) (nI t) (nI p) x y := by
  refine br_f (nI_pos (by omega)) ?_
  by_cases h84 : p < 84
  · rw [ts_st_t h84, ts_st_t h84] at h
    refine br_f (nI_ge (b := 84) h84 (by decide)) ⟨ts_xin ht h84, ?_⟩
    refine nm_r (e' := upd K (84 * t + p) x) (by rw [ts_xcl ht h84]) ⟨ts_xin ht h84, ?_⟩
    exact nm_r (e' := upd N (84 * t + p) y) (by rw [ts_xcl ht h84]) h
  · rw [ts_st_f h84, ts_st_f h84] at h
    exact br_t (nI_le (a := 84) (by omega) (by omega)) h
theorem tx_first {p : Nat} (h : post (nI (4 * p + 4))) : wpX_firstInside post (nI p) := by
  unfold wpX_firstInside
  rw [ts_4p]; exact h
theorem ts_par_v {p : Nat} (h4 : 4 ≤ p) (hp : p < 2000) : nI p / 4 - 1 = nI (p / 4 - 1) := by
  show nI p / nI 4 - nI 1 = _
  rw [pk_div (by omega) (by omega) (by decide), pk_sub (by omega)]
theorem tx_par_t {p : Nat} (h4 : 4 ≤ p) (hp : p < 2000) (h : post (nI (p / 4 - 1))) : wpX_parentOf post (nI p) := by
  refine br_t (nI_le (a := 4) h4 (by omega)) ⟨by decide, ?_⟩
  rw [ts_par_v h4 hp]; exact h
theorem tx_par_f {p : Nat} (h4 : p < 4) (h : post (-1)) : wpX_parentOf post (nI p) :=
  br_f (nI_ge (b := 4) h4 (by decide)) h
theorem ts_m1 {n : Nat} (h : n < 2 ^ 31) : ¬ nI n = -1 := by
  intro e
  have := congrArg Int32.toInt e
  rw [nI_toInt h, show ((-1 : Int32)).toInt = -1 from by decide] at this
  omega
theorem tx_folder {t p : Nat} (ht : t < 6) (hp : p < 84) (h1 : (4 ≤ p → K (84 * t + (p / 4 - 1)) = 2) → post 1) (h0 : ¬ (4 ≤ p → K (84 * t + (p / 4 - 1)) = 2) → post 0) : wpX_standsInFolder post (xf, xa, xc, K, N, kp, ap, ad, cp) (nI t) (nI p) := by
  unfold wpX_standsInFolder
  by_cases h4 : 4 ≤ p
  · refine tx_par_t h4 (by omega) (br_f (ts_m1 (by omega)) (tx_kindAt ht (by omega) ?_))
    rw [ts_rd_t (by omega)]
    exact ⟨fun z => h1 fun _ => z, fun z => h0 fun y => z (y h4)⟩
  · exact tx_par_f (by omega) (br_t rfl (h1 fun z => absurd z h4))
theorem tx_sameEntry {t p u q : Nat} (ht : t < 6) (hp : p < 2000) (hu : u < 6) (hq : q < 2000) (h1 : ts_rd K t p = ts_rd K u q ∧ ts_rd N t p = ts_rd N u q → post 1) (h0 : ¬ (ts_rd K t p = ts_rd K u q ∧ ts_rd N t p = ts_rd N u q) → post 0) : wpX_sameEntry post (xf, xa, xc, K, N, kp, ap, ad, cp) (nI t) (nI p) (nI u) (nI q) := by
  unfold wpX_sameEntry
  refine tx_kindAt ht hp (tx_kindAt hu hq ⟨fun z => ?_, fun z => h0 fun y => z y.1⟩)
  exact tx_numberAt ht hp (tx_numberAt hu hq ⟨fun y => h1 ⟨z, y⟩, fun y => h0 fun w => y w.2⟩)
theorem tx_side_t {s : Nat} (hs : s < 2) (h : post 1) : wpX_isSide post (nI s) := by
  obtain rfl | rfl : s = 0 ∨ s = 1 := by omega
  · exact br_t rfl h
  · exact br_f (by decide) (br_t rfl h)
theorem tx_side_f {s : Int32} (h0 : ¬ s = 0) (h1 : ¬ s = 1) (h : post 0) : wpX_isSide post s := br_f h0 (br_f h1 h)
theorem tx_path_t {p : Nat} (hp : p < 84) (h : post 1) : wpX_isPath post (nI p) :=
  br_f (nI_pos (by omega)) (br_f (nI_ge (b := 84) hp (by decide)) h)
theorem tx_path_f {p : Int32} (hp : p < 0 ∨ (¬ p < 0 ∧ 84 ≤ p)) (h : post 0) : wpX_isPath post p := by
  rcases hp with hp | ⟨hn, hp⟩
  · exact br_t hp h
  · exact br_f hn (br_t hp h)
theorem ts_side (s : Int32) : (∃ t : Nat, t < 2 ∧ s = nI t) ∨ (¬ s = 0 ∧ ¬ s = 1) := by
  by_cases h0 : s = 0
  · exact Or.inl ⟨0, by omega, h0⟩
  · by_cases h1 : s = 1
    · exact Or.inl ⟨1, by omega, h1⟩
    · exact Or.inr ⟨h0, h1⟩
theorem ts_path (p : Int32) : (∃ j : Nat, j < 84 ∧ p = nI j) ∨ (p < 0 ∨ (¬ p < 0 ∧ 84 ≤ p)) := by
  by_cases h : p < 0
  · exact Or.inr (Or.inl h)
  · rcases pk_ix p (n := 84) (by decide) with h' | h' | ⟨j, hj, rfl⟩
    · exact absurd h' h
    · exact Or.inr (Or.inr ⟨h, h'⟩)
    · exact Or.inl ⟨j, hj, rfl⟩
theorem ts_place (p : Int32) : (∃ j : Nat, j < 3 ∧ p = nI j) ∨ (p < 0 ∨ (¬ p < 0 ∧ 3 ≤ p)) := by
  by_cases h : p < 0
  · exact Or.inr (Or.inl h)
  · rcases pk_ix p (n := 3) (by decide) with h' | h' | ⟨j, hj, rfl⟩
    · exact absurd h' h
    · exact Or.inr (Or.inr ⟨h, h'⟩)
    · exact Or.inl ⟨j, hj, rfl⟩
theorem tx_place_t {p : Nat} (hp : p < 3) (h : post 1) : wpX_isPlace post (nI p) :=
  br_f (nI_pos (by omega)) (br_f (nI_ge (b := 3) hp (by decide)) h)
theorem tx_place_f {p : Int32} (hp : p < 0 ∨ (¬ p < 0 ∧ 3 ≤ p)) (h : post 0) : wpX_isPlace post p := by
  rcases hp with hp | ⟨hn, hp⟩
  · exact br_t hp h
  · exact br_f hn (br_t hp h)
/-! counting in a tree -/
theorem tx_size_l {t : Nat} (ht : t < 6) (h : post (nI (ts_cz K t 84))) : ∀ d p : Nat, p + d = 84 → wX_sizeOfTree_4 post (nI t) xf xa xc K N kp ap ad cp (d + 1) (nI (ts_cz K t p)) (nI p) := by
  intro d
  induction d with
  | zero =>
    intro p hp
    obtain rfl : p = 84 := by omega
    exact br_t (nI_le (a := 84) (b := 84) (Nat.le_refl _) (by decide)) h
  | succ d ih =>
    intro p hp
    refine br_f (nI_ge (b := 84) (by omega) (by decide)) (tx_kindAt ht (by omega) ?_)
    have i := ih (p + 1) (by omega)
    rw [ts_rd_t (by omega)]
    by_cases z : K (84 * t + p) = 0
    · rw [ts_cz_t z] at i
      exact br_t z (nm_r (nI_1 p) i)
    · rw [ts_cz_f z] at i
      exact br_f z (nm_r (nI_1 _) (nm_r (nI_1 p) i))
theorem tx_size {t : Nat} (ht : t < 6) (h : post (nI (ts_cz K t 84))) : wpX_sizeOfTree post (xf, xa, xc, K, N, kp, ap, ad, cp) (nI t) :=
  ⟨85, tx_size_l ht h 84 0 rfl⟩
theorem tx_diff_l {t u : Nat} (ht : t < 6) (hu : u < 6) (h : post (nI (ts_cq (fun i => ¬ (K (84 * t + i) = K (84 * u + i) ∧ N (84 * t + i) = N (84 * u + i))) 84))) : ∀ d p : Nat, p + d = 84 → wX_differences_5 post (nI t) (nI u) xf xa xc K N kp ap ad cp (d + 1) (nI (ts_cq (fun i => ¬ (K (84 * t + i) = K (84 * u + i) ∧ N (84 * t + i) = N (84 * u + i))) p)) (nI p) := by
  intro d
  induction d with
  | zero =>
    intro p hp
    obtain rfl : p = 84 := by omega
    exact br_t (nI_le (a := 84) (b := 84) (Nat.le_refl _) (by decide)) h
  | succ d ih =>
    intro p hp
    have i := ih (p + 1) (by omega)
    have hp84 : p < 84 := by omega
    refine br_f (nI_ge (b := 84) hp84 (by decide)) (tx_sameEntry ht (by omega) hu (by omega) ?_ ?_)
    · rw [ts_rd_t hp84, ts_rd_t hp84, ts_rd_t hp84, ts_rd_t hp84]
      intro z
      rw [ts_cq_f (fun y => y z)] at i
      exact br_f (by decide) (nm_r (nI_1 p) i)
    · rw [ts_rd_t hp84, ts_rd_t hp84, ts_rd_t hp84, ts_rd_t hp84]
      intro z
      rw [ts_cq_t z] at i
      exact br_t rfl (nm_r (nI_1 _) (nm_r (nI_1 p) i))
theorem tx_diff {t u : Nat} (ht : t < 6) (hu : u < 6) (h : post (nI (ts_cq (fun i => ¬ (K (84 * t + i) = K (84 * u + i) ∧ N (84 * t + i) = N (84 * u + i))) 84))) : wpX_differences post (xf, xa, xc, K, N, kp, ap, ad, cp) (nI t) (nI u) :=
  ⟨85, tx_diff_l ht hu h 84 0 rfl⟩
theorem tx_copyTree_l {t u : Nat} (ht : t < 6) (hu : u < 6) (h : qost (xf, xa, xc, ts_ct K t u 84, ts_ct N t u 84, kp, ap, ad, cp)) : ∀ d p : Nat, p + d = 84 → wX_copyTree_2 qost (nI t) (nI u) (d + 1) (nI p) xf xa xc (ts_ct K t u p) (ts_ct N t u p) kp ap ad cp := by
  intro d
  induction d with
  | zero =>
    intro p hp
    obtain rfl : p = 84 := by omega
    exact br_t (nI_le (a := 84) (b := 84) (Nat.le_refl _) (by decide)) h
  | succ d ih =>
    intro p hp
    have i := ih (p + 1) (by omega)
    have hp84 : p < 84 := by omega
    refine br_f (nI_ge (b := 84) hp84 (by decide)) (tx_kindAt ht (by omega) (tx_numberAt ht (by omega) (tx_setEntry hu (by omega) ?_)))
    rw [ts_rd_t hp84, ts_rd_t hp84, ts_st_t hp84, ts_st_t hp84]
    exact nm_r (nI_1 p) i
theorem tx_copyTree {t u : Nat} (ht : t < 6) (hu : u < 6) (h : qost (xf, xa, xc, ts_ct K t u 84, ts_ct N t u 84, kp, ap, ad, cp)) : wpX_copyTree qost (xf, xa, xc, K, N, kp, ap, ad, cp) (nI t) (nI u) :=
  ⟨85, tx_copyTree_l ht hu h 84 0 rfl⟩
end
end
section
/-! X's walks over a region: three rows -/
section
variable {post : Int32 → Prop} {qost : SX → Prop} {rost : Int32 → SX → Prop} {xf xa xc : Int32} {K N kp ap ad cp : Nat → Int32}
theorem ts_r0 (p : Nat) : ∀ i, i < 1 → ts_ch p (0 + i) = p + i := fun i hi => by
  obtain rfl : i = 0 := by omega
  rfl
theorem ts_r1 (p : Nat) : ∀ i, i < 4 → ts_ch p (1 + i) = 4 * p + 4 + i := fun i hi => ts_ch_1 p i hi
theorem ts_r2 (p : Nat) : ∀ i, i < 16 → ts_ch p (5 + i) = 4 * (4 * p + 4) + 4 + i := fun i _ => by rw [ts_ch_2]; omega
/-- clearContent, one row -/
theorem tx_clear_in {J : Int32 → Int32 → Int32 → Int32 → Int32 → Int32 → Int32 → (Nat → Int32) → (Nat → Int32) → (Nat → Int32) → (Nat → Int32) → (Nat → Int32) → (Nat → Int32) → Prop} {t p : Nat} (ht : t < 6) (off w row lev : Nat) (hr : ∀ i, i < w → ts_ch p (off + i) = row + i) (hw : w ≤ 16) (hrow : row < 1500) (hJ : J (nI (ts_cn K t p (off + w))) (nI (4 * row + 4)) (nI (w * 4)) (nI (lev + 1)) xf xa xc (ts_ec K K t p (off + w)) (ts_ec K N t p (off + w)) kp ap ad cp) : ∀ d i : Nat, i + d = w → wX_clearContent_20 rost J (nI t) (nI row) (nI w) (nI lev) (d + 1) (nI (ts_cn K t p (off + i))) (nI i) xf xa xc (ts_ec K K t p (off + i)) (ts_ec K N t p (off + i)) kp ap ad cp := by
  intro d
  induction d with
  | zero =>
    intro i hi
    obtain rfl : i = w := by omega
    exact br_t (nI_le (Nat.le_refl _) (by omega)) (tx_first (nm_r (pk_mul i 4) (nm_r (nI_1 lev) hJ)))
  | succ d ih =>
    intro i hi
    have j := ih (i + 1) (by omega)
    refine br_f (nI_ge (by omega) (by omega)) ?_
    rw [nI_add, ← hr i (by omega)]
    have hl : ts_ch p (off + i) < 2000 := by rw [hr i (by omega)]; omega
    refine tx_kindAt ht hl ?_
    rw [ts_ec_rd]
    by_cases z : ts_rd K t (ts_ch p (off + i)) = 0
    · rw [show off + (i + 1) = off + i + 1 from rfl, ts_cn_t z, ts_ec_t z, ts_ec_t z] at j
      exact br_t z (nm_r (nI_1 i) j)
    · rw [show off + (i + 1) = off + i + 1 from rfl, ts_cn_f z, ts_ec_f z, ts_ec_f z] at j
      exact br_f z (tx_setEntry ht hl (nm_r (nI_1 _) (nm_r (nI_1 i) j)))
theorem tx_clear {t p : Nat} (ht : t < 6) (hp : p < 84) (h : rost (nI (ts_cn K t p 21)) (xf, xa, xc, ts_ec K K t p 21, ts_ec K N t p 21, kp, ap, ad, cp)) : wpX_clearContent rost (xf, xa, xc, K, N, kp, ap, ad, cp) (nI t) (nI p) := by
  refine ⟨4, br_f (nI_ge (a := 0) (b := 3) (by omega) (by decide)) ⟨2, tx_clear_in (J := wX_clearContent_11 rost (nI t) 3) ht 0 1 p 0 (ts_r0 p) (by omega) (by omega) ?_ 1 0 rfl⟩⟩
  refine br_f (nI_ge (a := 1) (b := 3) (by omega) (by decide)) ⟨5, tx_clear_in (J := wX_clearContent_11 rost (nI t) 2) ht 1 4 (4 * p + 4) 1 (ts_r1 p) (by omega) (by omega) ?_ 4 0 rfl⟩
  refine br_f (nI_ge (a := 2) (b := 3) (by omega) (by decide)) ⟨17, tx_clear_in (J := wX_clearContent_11 rost (nI t) 1) ht 5 16 (4 * (4 * p + 4) + 4) 2 (ts_r2 p) (by omega) (by omega) ?_ 16 0 rfl⟩
  exact br_t (nI_le (a := 3) (b := 3) (by omega) (by decide)) h
/-- levelsBelow -/
theorem tx_levels_in {J : Int32 → Int32 → Int32 → Int32 → Prop} {t p : Nat} (ht : t < 6) (off w row lev : Nat) (hr : ∀ i, i < w → ts_ch p (off + i) = row + i) (hlv : ∀ i, i < w → ts_lv (off + i) = lev) (hw : w ≤ 16) (hrow : row < 1500) (hJ : J (nI (ts_dp K t p (off + w))) (nI (4 * row + 4)) (nI (w * 4)) (nI (lev + 1))) : ∀ d i : Nat, i + d = w → wX_levelsBelow_20 post J (nI t) (nI row) (nI w) (nI lev) xf xa xc K N kp ap ad cp (d + 1) (nI (ts_dp K t p (off + i))) (nI i) := by
  intro d
  induction d with
  | zero =>
    intro i hi
    obtain rfl : i = w := by omega
    exact br_t (nI_le (Nat.le_refl _) (by omega)) (tx_first (nm_r (pk_mul i 4) (nm_r (nI_1 lev) hJ)))
  | succ d ih =>
    intro i hi
    have j := ih (i + 1) (by omega)
    refine br_f (nI_ge (by omega) (by omega)) ?_
    rw [nI_add, ← hr i (by omega)]
    have hl : ts_ch p (off + i) < 2000 := by rw [hr i (by omega)]; omega
    refine tx_kindAt ht hl ?_
    by_cases z : ts_rd K t (ts_ch p (off + i)) = 0
    · rw [show off + (i + 1) = off + i + 1 from rfl, ts_dp_t z] at j
      exact br_t z (nm_r (nI_1 i) j)
    · rw [show off + (i + 1) = off + i + 1 from rfl, ts_dp_f z, hlv i (by omega)] at j
      exact br_f z (nm_r (nI_1 i) j)
theorem ts_lv1 : ∀ i, i < 4 → ts_lv (1 + i) = 1 := by decide
theorem ts_lv2 : ∀ i, i < 16 → ts_lv (5 + i) = 2 := by decide
theorem tx_levels {t p : Nat} (ht : t < 6) (hp : p < 84) (h : post (nI (ts_dp K t p 21))) : wpX_levelsBelow post (xf, xa, xc, K, N, kp, ap, ad, cp) (nI t) (nI p) := by
  refine ⟨4, br_f (nI_ge (a := 0) (b := 3) (by omega) (by decide)) ⟨2, tx_levels_in (J := wX_levelsBelow_11 post (nI t) xf xa xc K N kp ap ad cp 3) ht 0 1 p 0 (ts_r0 p) (by decide) (by omega) (by omega) ?_ 1 0 rfl⟩⟩
  refine br_f (nI_ge (a := 1) (b := 3) (by omega) (by decide)) ⟨5, tx_levels_in (J := wX_levelsBelow_11 post (nI t) xf xa xc K N kp ap ad cp 2) ht 1 4 (4 * p + 4) 1 (ts_r1 p) ts_lv1 (by omega) (by omega) ?_ 4 0 rfl⟩
  refine br_f (nI_ge (a := 2) (b := 3) (by omega) (by decide)) ⟨17, tx_levels_in (J := wX_levelsBelow_11 post (nI t) xf xa xc K N kp ap ad cp 1) ht 5 16 (4 * (4 * p + 4) + 4) 2 (ts_r2 p) ts_lv2 (by omega) (by omega) ?_ 16 0 rfl⟩
  exact br_t (nI_le (a := 3) (b := 3) (by omega) (by decide)) h
/-- copyContent -/
theorem tx_copy_in {J : Int32 → Int32 → Int32 → Int32 → Int32 → Int32 → Int32 → (Nat → Int32) → (Nat → Int32) → (Nat → Int32) → (Nat → Int32) → (Nat → Int32) → (Nat → Int32) → Prop} {t p u q : Nat} (ht : t < 6) (hu : u < 6) (off w row row' lev : Nat) (hr : ∀ i, i < w → ts_ch p (off + i) = row + i) (hr' : ∀ i, i < w → ts_ch q (off + i) = row' + i) (hw : w ≤ 16) (hrow : row < 1500) (hrow' : row' < 1500) (hJ : J (nI (4 * row + 4)) (nI (4 * row' + 4)) (nI (w * 4)) (nI (lev + 1)) xf xa xc (ts_cp K t p u q (off + w)) (ts_cp N t p u q (off + w)) kp ap ad cp) : ∀ d i : Nat, i + d = w → wX_copyContent_22 qost J (nI t) (nI u) (nI row) (nI row') (nI w) (nI lev) (d + 1) (nI i) xf xa xc (ts_cp K t p u q (off + i)) (ts_cp N t p u q (off + i)) kp ap ad cp := by
  intro d
  induction d with
  | zero =>
    intro i hi
    obtain rfl : i = w := by omega
    exact br_t (nI_le (Nat.le_refl _) (by omega)) (tx_first (tx_first (nm_r (pk_mul i 4) (nm_r (nI_1 lev) hJ))))
  | succ d ih =>
    intro i hi
    have j := ih (i + 1) (by omega)
    refine br_f (nI_ge (by omega) (by omega)) ?_
    rw [nI_add row i, nI_add row' i, ← hr i (by omega), ← hr' i (by omega)]
    have hl : ts_ch p (off + i) < 2000 := by rw [hr i (by omega)]; omega
    have hl' : ts_ch q (off + i) < 2000 := by rw [hr' i (by omega)]; omega
    exact tx_kindAt ht hl (tx_numberAt ht hl (tx_setEntry hu hl' (nm_r (nI_1 i) j)))
theorem tx_copy {t p u q : Nat} (ht : t < 6) (hp : p < 84) (hu : u < 6) (hq : q < 84) (h : qost (xf, xa, xc, ts_cp K t p u q 21, ts_cp N t p u q 21, kp, ap, ad, cp)) : wpX_copyContent qost (xf, xa, xc, K, N, kp, ap, ad, cp) (nI t) (nI p) (nI u) (nI q) := by
  refine ⟨4, br_f (nI_ge (a := 0) (b := 3) (by omega) (by decide)) ⟨2, tx_copy_in (J := wX_copyContent_13 qost (nI t) (nI u) 3) ht hu 0 1 p q 0 (ts_r0 p) (ts_r0 q) (by omega) (by omega) (by omega) ?_ 1 0 rfl⟩⟩
  refine br_f (nI_ge (a := 1) (b := 3) (by omega) (by decide)) ⟨5, tx_copy_in (J := wX_copyContent_13 qost (nI t) (nI u) 2) ht hu 1 4 (4 * p + 4) (4 * q + 4) 1 (ts_r1 p) (ts_r1 q) (by omega) (by omega) (by omega) ?_ 4 0 rfl⟩
  refine br_f (nI_ge (a := 2) (b := 3) (by omega) (by decide)) ⟨17, tx_copy_in (J := wX_copyContent_13 qost (nI t) (nI u) 1) ht hu 5 16 (4 * (4 * p + 4) + 4) (4 * (4 * q + 4) + 4) 2 (ts_r2 p) (ts_r2 q) (by omega) (by omega) (by omega) ?_ 16 0 rfl⟩
  exact br_t (nI_le (a := 3) (b := 3) (by omega) (by decide)) h
/-- sameContent -/
theorem tx_same_in {J : Int32 → Int32 → Int32 → Int32 → Prop} {t p u q : Nat} (ht : t < 6) (hu : u < 6) (off w row row' lev : Nat) (hr : ∀ i, i < w → ts_ch p (off + i) = row + i) (hr' : ∀ i, i < w → ts_ch q (off + i) = row' + i) (hw : off + w ≤ 21) (hrow : row < 1500) (hrow' : row' < 1500) (hJ : (∀ k, k < off + w → ts_rd K t (ts_ch p k) = ts_rd K u (ts_ch q k) ∧ ts_rd N t (ts_ch p k) = ts_rd N u (ts_ch q k)) → J (nI (4 * row + 4)) (nI (4 * row' + 4)) (nI (w * 4)) (nI (lev + 1))) (h0 : ¬ ts_SX K N t p u q → post 0) : ∀ d i : Nat, i + d = w → (∀ k, k < off + i → ts_rd K t (ts_ch p k) = ts_rd K u (ts_ch q k) ∧ ts_rd N t (ts_ch p k) = ts_rd N u (ts_ch q k)) → wX_sameContent_22 post J (nI t) (nI u) (nI row) (nI row') (nI w) (nI lev) xf xa xc K N kp ap ad cp (d + 1) (nI i) := by
  intro d
  induction d with
  | zero =>
    intro i hi H
    obtain rfl : i = w := by omega
    exact br_t (nI_le (Nat.le_refl _) (by omega)) (tx_first (tx_first (nm_r (pk_mul i 4) (nm_r (nI_1 lev) (hJ H)))))
  | succ d ih =>
    intro i hi H
    refine br_f (nI_ge (by omega) (by omega)) ?_
    rw [nI_add row i, nI_add row' i, ← hr i (by omega), ← hr' i (by omega)]
    have hl : ts_ch p (off + i) < 2000 := by rw [hr i (by omega)]; omega
    have hl' : ts_ch q (off + i) < 2000 := by rw [hr' i (by omega)]; omega
    refine tx_sameEntry ht hl hu hl' (fun z => ?_) (fun z => br_t rfl (h0 fun S => z (S (off + i) (by omega))))
    exact br_f (by decide) (nm_r (nI_1 i) (ih (i + 1) (by omega) fun k hk => if e : k = off + i then e ▸ z else H k (by omega)))
theorem tx_same {t p u q : Nat} (ht : t < 6) (hp : p < 84) (hu : u < 6) (hq : q < 84) (h1 : ts_SX K N t p u q → post 1) (h0 : ¬ ts_SX K N t p u q → post 0) : wpX_sameContent post (xf, xa, xc, K, N, kp, ap, ad, cp) (nI t) (nI p) (nI u) (nI q) := by
  refine ⟨4, br_f (nI_ge (a := 0) (b := 3) (by omega) (by decide)) ⟨2, tx_same_in (J := wX_sameContent_13 post (nI t) (nI u) xf xa xc K N kp ap ad cp 3) ht hu 0 1 p q 0 (ts_r0 p) (ts_r0 q) (by omega) (by omega) (by omega) (fun H1 => ?_) h0 1 0 rfl (fun k hk => absurd hk (by omega))⟩⟩
  refine br_f (nI_ge (a := 1) (b := 3) (by omega) (by decide)) ⟨5, tx_same_in (J := wX_sameContent_13 post (nI t) (nI u) xf xa xc K N kp ap ad cp 2) ht hu 1 4 (4 * p + 4) (4 * q + 4) 1 (ts_r1 p) (ts_r1 q) (by omega) (by omega) (by omega) (fun H2 => ?_) h0 4 0 rfl H1⟩
  refine br_f (nI_ge (a := 2) (b := 3) (by omega) (by decide)) ⟨17, tx_same_in (J := wX_sameContent_13 post (nI t) (nI u) xf xa xc K N kp ap ad cp 1) ht hu 5 16 (4 * (4 * p + 4) + 4) (4 * (4 * q + 4) + 4) 2 (ts_r2 p) (ts_r2 q) (by omega) (by omega) (by omega) (fun H3 => ?_) h0 16 0 rfl H2⟩
  exact br_t (nI_le (a := 3) (b := 3) (by omega) (by decide)) (h1 H3)
end
end
section
/-! X: where a path stands, what comes after it, what is found there -/
/-- q stands below p -/
def ts_B (q p : Nat) : Prop := (4 ≤ q ∧ q / 4 - 1 = p) ∨ (20 ≤ q ∧ (q / 4 - 1) / 4 - 1 = p)
def ts_lq (q : Nat) : Nat := if q < 4 then 0 else if q < 20 then 1 else 2
/-- the refusal of move and copy, 0 if there is none -/
noncomputable def ts_ref (K : Nat → Int32) (s p q : Nat) : Int32 :=
  @ite Int32 (K (84 * s + p) = 0) (Classical.propDecidable _) (-1000000004)
    (@ite Int32 (4 ≤ q → K (84 * s + (q / 4 - 1)) = 2) (Classical.propDecidable _)
      (@ite Int32 (K (84 * s + q) = 0) (Classical.propDecidable _)
        (@ite Int32 (ts_B q p ∨ 3 ≤ ts_lq q + ts_dp K s p 21) (Classical.propDecidable _) (-1000000001) 0) (-1000000003)) (-1000000002))
/-- X's answer for the path that comes next -/
def ts_nxi (p : Nat) : Int32 := if ts_nx p < 84 then nI (ts_nx p) else -1
theorem ts_nx1 {p : Nat} (h : p % 4 ≠ 3) (hp : p < 84) : ts_nxi p = nI (p + 1) := by
  have e : ts_nx p = p + 1 := if_pos h
  unfold ts_nxi
  rw [e, if_pos (by omega)]
theorem ts_nx2 {p : Nat} (h : p % 4 = 3) (hp : p < 4) : ts_nxi p = -1 := by
  have e : ts_nx p = 1000 := by unfold ts_nx; rw [if_neg (fun z => z h), if_pos hp]
  unfold ts_nxi
  rw [e, if_neg (by omega)]
theorem ts_nx3 {p : Nat} (h : p % 4 = 3) (h4 : 4 ≤ p) (hp : p < 84) (h' : (p / 4 - 1) % 4 ≠ 3) : ts_nxi p = nI (p / 4 - 1 + 1) := by
  have e : ts_nx p = p / 4 := by unfold ts_nx; rw [if_neg (fun z => z h), if_neg (by omega), if_pos h']
  unfold ts_nxi
  rw [e, if_pos (by omega), show p / 4 - 1 + 1 = p / 4 from by omega]
theorem ts_nx4 {p : Nat} (h : p % 4 = 3) (h4 : 4 ≤ p) (hp : p < 20) (h' : (p / 4 - 1) % 4 = 3) : ts_nxi p = -1 := by
  have e : ts_nx p = 1000 := by unfold ts_nx; rw [if_neg (fun z => z h), if_neg (by omega), if_neg (fun z => z h'), if_pos hp]
  unfold ts_nxi
  rw [e, if_neg (by omega)]
theorem ts_nx5 {p : Nat} (h : p % 4 = 3) (h20 : 20 ≤ p) (hp : p < 84) (h' : (p / 4 - 1) % 4 = 3) (h'' : ((p / 4 - 1) / 4 - 1) % 4 ≠ 3) : ts_nxi p = nI ((p / 4 - 1) / 4 - 1 + 1) := by
  have e : ts_nx p = (p / 4 - 1) / 4 := by unfold ts_nx; rw [if_neg (fun z => z h), if_neg (by omega), if_neg (fun z => z h'), if_neg (by omega), if_pos h'']
  unfold ts_nxi
  rw [e, if_pos (by omega), show (p / 4 - 1) / 4 - 1 + 1 = (p / 4 - 1) / 4 from by omega]
theorem ts_nx6 {p : Nat} (h : p % 4 = 3) (h20 : 20 ≤ p) (h' : (p / 4 - 1) % 4 = 3) (h'' : ((p / 4 - 1) / 4 - 1) % 4 = 3) : ts_nxi p = -1 := by
  have e : ts_nx p = 1000 := by unfold ts_nx; rw [if_neg (fun z => z h), if_neg (by omega), if_neg (fun z => z h'), if_neg (by omega), if_neg (fun z => z h'')]
  unfold ts_nxi
  rw [e, if_neg (by omega)]
section
variable {post : Int32 → Prop} {xf xa xc : Int32} {K N kp ap ad cp : Nat → Int32}
theorem tx_last {p : Nat} (hp : p < 84) (h1 : p % 4 = 3 → post 1) (h0 : p % 4 ≠ 3 → post 0) : wpX_isLastName post (nI p) := by
  have e : nI p - nI p / 4 * 4 = nI (p % 4) := pk_rem (d := 4) (by omega) (by omega) (by decide)
  refine ⟨by decide, ?_⟩
  rw [e]
  exact pk_eq (p % 4) 3 h1 h0
theorem tx_a32 {p : Nat} (hp : p < 84) (h1 : p % 4 = 3 → post (-1)) (h0 : p % 4 ≠ 3 → post (nI (p + 1))) : wX_pathAfter_32 post (nI p) := by
  unfold wX_pathAfter_32
  refine tx_last hp (fun z => br_f (by decide) (h1 z)) (fun z => br_t rfl ?_)
  rw [nI_1]; exact h0 z
theorem tx_a4 {p x n : Nat} (hp : p < 84) (hx : x < 3) (h : p < 4 ∨ p % 4 ≠ 3 → wX_pathAfter_32 post (nI p)) (h' : 4 ≤ p → p % 4 = 3 → wX_pathAfter_4 post n (nI (p / 4 - 1)) (nI (x + 1))) : wX_pathAfter_4 post (n + 1) (nI p) (nI x) := by
  refine br_f (nI_ge (b := 3) hx (by decide)) ?_
  by_cases h4 : p < 4
  · exact br_t (nI_lt (b := 4) h4 (by decide)) (h (Or.inl h4))
  · refine br_f (nI_nlt (b := 4) (by omega) (by omega)) (tx_last hp (fun z => br_f (by decide) ?_) (fun z => br_t rfl (h (Or.inr z))))
    exact tx_par_t (by omega) (by omega) (nm_r (nI_1 x) (h' (by omega) z))
theorem tx_after {p : Nat} (hp : p < 84) (h : post (ts_nxi p)) : wpX_pathAfter post (nI p) := by
  refine ⟨3, tx_a4 (x := 1) (n := 2) hp (by omega) (fun c => tx_a32 hp (fun z => ?_) (fun z => ?_)) (fun h4 z => ?_)⟩
  · rw [ts_nx2 z (by omega)] at h; exact h
  · rw [ts_nx1 z hp] at h; exact h
  · refine tx_a4 (x := 2) (n := 1) (by omega) (by omega) (fun c => tx_a32 (by omega) (fun z' => ?_) (fun z' => ?_)) (fun h4' z' => ?_)
    · rw [ts_nx4 z h4 (by omega) z'] at h; exact h
    · rw [ts_nx3 z h4 hp z'] at h; exact h
    · refine br_t (nI_le (a := 3) (b := 3) (by omega) (by decide)) (tx_a32 (by omega) (fun z'' => ?_) (fun z'' => ?_))
      · rw [ts_nx6 z (by omega) z' z''] at h; exact h
      · rw [ts_nx5 z (by omega) hp z' z''] at h; exact h
theorem tx_below {q p : Nat} (hq : q < 84) (hp : p < 84) (h1 : ts_B q p → post 1) (h0 : ¬ ts_B q p → post 0) : wpX_standsBelow post (nI q) (nI p) := by
  refine ⟨3, br_f (nI_ge (a := 1) (b := 3) (by omega) (by decide)) ?_⟩
  by_cases h4 : q < 4
  · exact br_t (nI_lt (b := 4) h4 (by decide)) (h0 (by unfold ts_B; omega))
  · refine br_f (nI_nlt (b := 4) (by omega) (by omega)) (tx_par_t (by omega) (by omega) ?_)
    by_cases e : q / 4 - 1 = p
    · exact br_t (by rw [e]) (h1 (Or.inl ⟨by omega, e⟩))
    · refine br_f (fun z => e ((nI_eq (by omega) (by omega)).mp z)) (nm_r (nI_1 1) ?_)
      refine br_f (nI_ge (a := 2) (b := 3) (by omega) (by decide)) ?_
      by_cases h20 : q < 20
      · exact br_t (nI_lt (b := 4) (by omega) (by decide)) (h0 (by unfold ts_B; omega))
      · refine br_f (nI_nlt (b := 4) (by omega) (by omega)) (tx_par_t (by omega) (by omega) ?_)
        by_cases e' : (q / 4 - 1) / 4 - 1 = p
        · exact br_t (by rw [e']) (h1 (Or.inr ⟨by omega, e'⟩))
        · refine br_f (fun z => e' ((nI_eq (by omega) (by omega)).mp z)) (nm_r (nI_1 2) ?_)
          exact br_t (nI_le (a := 3) (b := 3) (by omega) (by decide)) (h0 (by unfold ts_B; omega))
theorem tx_levelOf {q : Nat} (hq : q < 84) (h : post (nI (ts_lq q))) : wpX_levelOf post (nI q) := by
  unfold ts_lq at h
  by_cases h4 : q < 4
  · rw [if_pos h4] at h; exact br_f (nI_ge (b := 4) h4 (by decide)) h
  · rw [if_neg h4] at h
    refine br_t (nI_le (a := 4) (by omega) (by omega)) ?_
    by_cases h20 : q < 20
    · rw [if_pos h20] at h; exact br_f (nI_ge (b := 20) h20 (by decide)) h
    · rw [if_neg h20] at h; exact br_t (nI_le (a := 20) (by omega) (by omega)) h
theorem ts_lq_le (q : Nat) : ts_lq q ≤ 2 := by unfold ts_lq; split; omega; split <;> omega
theorem tx_ref {s p q : Nat} (hs : s < 2) (hp : p < 84) (hq : q < 84) (h : post (ts_ref K s p q)) : wpX_refusalToPlace post (xf, xa, xc, K, N, kp, ap, ad, cp) (nI s) (nI p) (nI q) := by
  unfold wpX_refusalToPlace
  refine tx_side_t hs (br_f (by decide) (tx_path_t hp (br_f (by decide) (tx_path_t hq (br_f (by decide) (tx_kindAt (by omega) (by omega) ?_))))))
  rw [ts_rd_t hp]
  unfold ts_ref at h
  by_cases c1 : K (84 * s + p) = 0
  · rw [if_pos c1] at h; exact br_t c1 h
  rw [if_neg c1] at h
  refine br_f c1 (tx_folder (by omega) hq (fun F => ?_) (fun F => br_t rfl (by rw [if_neg F] at h; exact h)))
  rw [if_pos F] at h
  refine br_f (by decide) (tx_kindAt (by omega) (by omega) ?_)
  rw [ts_rd_t hq]
  by_cases c3 : K (84 * s + q) = 0
  · rw [if_pos c3] at h
    refine br_t c3 (tx_below hq hp (fun B => br_f (by decide) ?_) (fun B => br_t rfl (tx_levelOf hq (tx_levels (by omega) hp ?_))))
    · rw [if_pos (Or.inl B)] at h; exact h
    · have l1 := ts_lq_le q
      have l2 := ts_dp_le K s p 21
      have l3 := (ts_lv_up 21).2
      rw [nI_add]
      by_cases c4 : ts_lq q + ts_dp K s p 21 < 3
      · rw [if_neg (fun z => z.elim B (by omega))] at h
        exact br_t (nI_lt (b := 3) c4 (by decide)) h
      · rw [if_pos (Or.inr (by omega))] at h
        exact br_f (nI_nlt (b := 3) (by omega) (by omega)) h
  · rw [if_neg c3] at h; exact br_f c3 h
theorem tx_f35 {p : Nat} (hp : p < 84) (h3 : ts_SX K N 0 p 2 p → post 3) (h2 : ¬ ts_SX K N 0 p 2 p → ts_SX K N 1 p 2 p → post 2) (h4 : ¬ ts_SX K N 0 p 2 p → ¬ ts_SX K N 1 p 2 p → post 4) : wX_findingAt_35 post (nI p) xf xa xc K N kp ap ad cp := by
  unfold wX_findingAt_35
  refine tx_same (t := 0) (u := 2) (by omega) hp (by omega) hp (fun S => br_f (by decide) (h3 S)) (fun S => br_t rfl ?_)
  exact tx_same (t := 1) (u := 2) (by omega) hp (by omega) hp (fun T => br_f (by decide) (h2 S T)) (fun T => br_t rfl (h4 S T))
theorem tx_find {p : Nat} (hp : p < 84) (h0 : ts_SX K N 0 p 1 p → post 0) (h1 : ¬ ts_SX K N 0 p 1 p → K p = 2 → K (84 + p) = 2 → post 1) (h3 : ¬ ts_SX K N 0 p 1 p → ¬ (K p = 2 ∧ K (84 + p) = 2) → ts_SX K N 0 p 2 p → post 3) (h2 : ¬ ts_SX K N 0 p 1 p → ¬ (K p = 2 ∧ K (84 + p) = 2) → ¬ ts_SX K N 0 p 2 p → ts_SX K N 1 p 2 p → post 2) (h4 : ¬ ts_SX K N 0 p 1 p → ¬ (K p = 2 ∧ K (84 + p) = 2) → ¬ ts_SX K N 0 p 2 p → ¬ ts_SX K N 1 p 2 p → post 4) : wpX_findingAt post (xf, xa, xc, K, N, kp, ap, ad, cp) (nI p) := by
  unfold wpX_findingAt
  refine tx_same (t := 0) (u := 1) (by omega) hp (by omega) hp (fun S => br_f (by decide) (h0 S)) (fun S => br_t rfl (tx_kindAt (t := 0) (by omega) (by omega) ?_))
  rw [ts_rd_t hp, Nat.mul_zero, Nat.zero_add]
  by_cases c0 : K p = 2
  · refine br_t c0 (tx_kindAt (t := 1) (by omega) (by omega) ?_)
    rw [ts_rd_t hp, Nat.mul_one]
    by_cases c1 : K (84 + p) = 2
    · exact br_t c1 (h1 S c0 c1)
    · exact br_f c1 (tx_f35 hp (h3 S fun z => c1 z.2) (h2 S fun z => c1 z.2) (h4 S fun z => c1 z.2))
  · exact br_f c0 (tx_f35 hp (h3 S fun z => c0 z.1) (h2 S fun z => c0 z.1) (h4 S fun z => c0 z.1))
end
end
section
/-! Y's private methods -/
section
variable {post : Int32 → Prop} {qost : SY → Prop} {rost : Int32 → SY → Prop} {yf ya yc : Int32} {K N kp tk ap ad cp : Nat → Int32}
theorem ts_yin {t p : Nat} (ht : t < 10) (hp : p < 84) : vp_in (84 * nI t + nI p) 840 := by
  rw [ts_iy]; exact vp_in_nI (by omega) (by decide)
theorem ts_ycl {t p : Nat} (ht : t < 10) (hp : p < 84) : (84 * nI t + nI p).toNatClampNeg = 84 * t + p := by
  rw [ts_iy]; exact nI_clamp (by omega)
theorem ty_side_t {s : Nat} (hs : s < 2) (h : post 1) : wpY_isSide post (yf, ya, yc, K, N, kp, tk, ap, ad, cp) (nI s) := by
  obtain rfl | rfl : s = 0 ∨ s = 1 := by omega
  · exact br_t rfl h
  · exact br_f (by decide) (br_t rfl h)
theorem ty_side_f {s : Int32} (h0 : ¬ s = 0) (h1 : ¬ s = 1) (h : post 0) : wpY_isSide post (yf, ya, yc, K, N, kp, tk, ap, ad, cp) s := br_f h0 (br_f h1 h)
theorem ty_path_t {p : Nat} (hp : p < 84) (h : post 1) : wpY_isPath post (yf, ya, yc, K, N, kp, tk, ap, ad, cp) (nI p) :=
  br_f (nI_pos (by omega)) (br_f (nI_nlt (a := 83) (by omega) (by decide)) h)
theorem ts_lt_le {p : Int32} (a : Nat) (ha : a < 100) (h0 : ¬ p < 0) (h : nI (a + 1) ≤ p) : nI a < p := by
  obtain ⟨j, hj, rfl⟩ := nI_of h0
  rw [nI_leI (by omega) hj] at h
  exact nI_lt (by omega) hj
theorem ty_path_f {p : Int32} (hp : p < 0 ∨ (¬ p < 0 ∧ 84 ≤ p)) (h : post 0) : wpY_isPath post (yf, ya, yc, K, N, kp, tk, ap, ad, cp) p := by
  rcases hp with hp | ⟨hn, hp⟩
  · exact br_t hp h
  · exact br_f hn (br_t (ts_lt_le 83 (by omega) hn hp) h)
theorem ty_kindAt {t p : Nat} (ht : t < 10) (hp : p < 84) (h : post (K (84 * t + p))) : wpY_kindAt post (yf, ya, yc, K, N, kp, tk, ap, ad, cp) (nI t) (nI p) := by
  refine br_t (nI_pos' (by omega)) ⟨ts_yin ht hp, ?_⟩
  rw [ts_ycl ht hp]; exact h
theorem ty_kindPt {t p k : Nat} (ht : t < 10) (h : post (ts_rd K t (ts_ch p k))) : wpY_kindAt post (yf, ya, yc, K, N, kp, tk, ap, ad, cp) (nI t) (ts_pt p k) := by
  by_cases hc : ts_ch p k < 84
  · rw [ts_rd_t hc] at h
    rw [ts_pt_t hc]; exact ty_kindAt ht hc h
  · rw [ts_rd_f hc] at h
    rw [ts_pt_f hc]; exact br_f (by decide) h
theorem ty_child_t {p n : Nat} (hp : p < 20) (h : post (nI (4 * p + 4 + n))) : wpY_child post (yf, ya, yc, K, N, kp, tk, ap, ad, cp) (nI p) (nI n) := by
  refine br_f (nI_pos (by omega)) (br_t (nI_le (b := 19) (by omega) (by decide)) ?_)
  by_cases h4 : 4 ≤ p
  · refine br_t (nI_le (a := 4) h4 (by omega)) ?_
    have e : 20 + 4 * (nI p - 4) + nI n = nI (4 * p + 4 + n) := by
      show nI 20 + nI 4 * (nI p - nI 4) + nI n = _
      rw [pk_sub h4, pk_mul, nI_add, nI_add]
      exact congrArg nI (by omega)
    rw [e]; exact h
  · refine br_f (nI_ge (b := 4) (by omega) (by decide)) ?_
    have e : 4 + 4 * nI p + nI n = nI (4 * p + 4 + n) := by
      show nI 4 + nI 4 * nI p + nI n = _
      rw [pk_mul, nI_add, nI_add]
      exact congrArg nI (by omega)
    rw [e]; exact h
theorem ty_child_f {p : Nat} {n : Int32} (hp : 20 ≤ p) (hp' : p < 2000) (h : post (-1)) : wpY_child post (yf, ya, yc, K, N, kp, tk, ap, ad, cp) (nI p) n :=
  br_f (nI_pos (by omega)) (br_f (nI_ge (a := 19) (by omega) (by omega)) h)
theorem ty_child_m {n : Int32} (h : post (-1)) : wpY_child post (yf, ya, yc, K, N, kp, tk, ap, ad, cp) (-1) n := br_t (by decide) h
theorem ty_part {p k : Nat} (hp : p < 84) (hk : k < 21) (h : post (ts_pt p k)) : wpY_part post (yf, ya, yc, K, N, kp, tk, ap, ad, cp) (nI p) (nI k) := by
  rcases ts_k3 k with rfl | ⟨a, ha, rfl⟩ | ⟨a, rfl⟩
  · rw [ts_pt_t (by rw [ts_ch_0]; exact hp)] at h
    exact br_t rfl h
  · refine br_f (nI_ne0 (by omega) (by omega)) (br_f (nI_ge (b := 5) (by omega) (by decide)) ?_)
    have e : nI (1 + a) - 1 = nI a := by
      show nI (1 + a) - nI 1 = _
      rw [pk_sub (by omega), Nat.add_sub_cancel_left]
    rw [e]
    unfold wY_part_24
    by_cases h20 : p < 20
    · refine ty_child_t h20 (br_f (nI_ge (b := 5) (by omega) (by decide)) ?_)
      rw [ts_pt_t (by rw [ts_ch_1 _ _ ha]; omega), ts_ch_1 _ _ ha] at h
      exact h
    · refine ty_child_f (by omega) (by omega) (br_f (nI_ge (b := 5) (by omega) (by decide)) ?_)
      rw [ts_pt_f (by rw [ts_ch_1 _ _ ha]; omega)] at h
      exact h
  · refine br_f (nI_ne0 (by omega) (by omega)) (br_t (nI_le (a := 5) (by omega) (by omega)) ⟨by decide, ?_⟩)
    have e0 : nI (5 + a) - 5 = nI a := by
      show nI (5 + a) - nI 5 = _
      rw [pk_sub (by omega), Nat.add_sub_cancel_left]
    have e1 : nI a / 4 = nI (a / 4) := pk_div (d := 4) (by omega) (by omega) (by decide)
    have e2 : nI a - nI (a / 4) * 4 = nI (a % 4) := by
      rw [← e1]; exact pk_rem (d := 4) (by omega) (by omega) (by decide)
    unfold wY_part_24
    rw [e0, e1, e2]
    by_cases h20 : p < 20
    · refine ty_child_t h20 (br_t (nI_le (a := 5) (by omega) (by omega)) ⟨by decide, ?_⟩)
      by_cases h4 : p < 4
      · refine ty_child_t (by omega) ?_
        rw [ts_pt_t (by rw [ts_ch_2]; omega), ts_ch_2, show 16 * p + 20 + a = 4 * (4 * p + 4 + a / 4) + 4 + a % 4 from by omega] at h
        exact h
      · refine ty_child_f (by omega) (by omega) ?_
        rw [ts_pt_f (by rw [ts_ch_2]; omega)] at h
        exact h
    · refine ty_child_f (by omega) (by omega) (br_t (nI_le (a := 5) (by omega) (by omega)) ⟨by decide, ty_child_m ?_⟩)
      rw [ts_pt_f (by rw [ts_ch_2]; omega)] at h
      exact h
theorem ty_par {p : Nat} (h4 : 4 ≤ p) (hp : p < 84) (h : post (nI (p / 4 - 1))) : wpY_parent post (yf, ya, yc, K, N, kp, tk, ap, ad, cp) (nI p) := by
  refine br_t (nI_le (a := 4) h4 (by omega)) ?_
  by_cases h20 : 20 ≤ p
  · refine br_t (nI_le (a := 20) h20 (by omega)) ⟨by decide, ?_⟩
    have e : 4 + (nI p - 20) / 4 = nI (p / 4 - 1) := by
      show nI 4 + (nI p - nI 20) / nI 4 = _
      rw [pk_sub h20, pk_div (by omega) (by omega) (by decide), nI_add]
      exact congrArg nI (by omega)
    rw [e]; exact h
  · refine br_f (nI_ge (b := 20) (by omega) (by decide)) ⟨by decide, ?_⟩
    have e : (nI p - 4) / 4 = nI (p / 4 - 1) := by
      show (nI p - nI 4) / nI 4 = _
      rw [pk_sub h4, pk_div (by omega) (by omega) (by decide)]
      exact congrArg nI (by omega)
    rw [e]; exact h
theorem ty_parent {t p : Nat} (ht : t < 10) (hp : p < 84) (h1 : (4 ≤ p → K (84 * t + (p / 4 - 1)) = 2) → post 1) (h0 : ¬ (4 ≤ p → K (84 * t + (p / 4 - 1)) = 2) → post 0) : wpY_hasParent post (yf, ya, yc, K, N, kp, tk, ap, ad, cp) (nI t) (nI p) := by
  by_cases h4 : p < 4
  · exact br_t (nI_lt (b := 4) h4 (by decide)) (h1 fun z => absurd z (by omega))
  · refine br_f (nI_nlt (b := 4) (by omega) (by omega)) (ty_par (by omega) hp (ty_kindAt ht (by omega) ?_))
    exact ⟨fun z => h1 fun _ => z, fun z => h0 fun y => z (y (by omega))⟩
/-! loops over a region -/
theorem ty_same_l {t p u q : Nat} (ht : t < 10) (hp : p < 84) (hu : u < 10) (hq : q < 84) (h1 : ts_SY K N t p u q → post 1) (h0 : ¬ ts_SY K N t p u q → post 0) : ∀ d k : Nat, k + d = 21 → (∀ j, j < k → ts_rd K t (ts_ch p j) = ts_rd K u (ts_ch q j) ∧ (ts_rd K t (ts_ch p j) = 1 → ts_rd N t (ts_ch p j) = ts_rd N u (ts_ch q j))) → wY_isSame_3 post (nI t) (nI p) (nI u) (nI q) yf ya yc K N kp tk ap ad cp (d + 1) (nI k) := by
  intro d
  induction d with
  | zero =>
    intro k hk H
    obtain rfl : k = 21 := by omega
    exact br_t (nI_le (a := 21) (b := 21) (Nat.le_refl _) (by decide)) (h1 H)
  | succ d ih =>
    intro k hk H
    have nx : (ts_rd K t (ts_ch p k) = ts_rd K u (ts_ch q k) ∧ (ts_rd K t (ts_ch p k) = 1 → ts_rd N t (ts_ch p k) = ts_rd N u (ts_ch q k))) → wY_isSame_3 post (nI t) (nI p) (nI u) (nI q) yf ya yc K N kp tk ap ad cp (d + 1) (nI (k + 1)) := fun z =>
      ih (k + 1) (by omega) fun j hj => if e : j = k then e ▸ z else H j (by omega)
    refine br_f (nI_ge (b := 21) (by omega) (by decide)) (ty_part hp (by omega) (ty_part hq (by omega) (ty_kindPt ht (ty_kindPt hu ?_))))
    by_cases z : ts_rd K t (ts_ch p k) = ts_rd K u (ts_ch q k)
    · refine br_t z ?_
      by_cases o : ts_rd K t (ts_ch p k) = 1
      · have hc := ts_rd_1 o
        have hd := ts_rd_1 (z.symm.trans o)
        rw [ts_rd_t (a := N) hc, ts_rd_t (a := N) hd] at nx
        rw [ts_pt_t hc, ts_pt_t hd, ts_ycl ht hc, ts_ycl hu hd]
        refine br_t o ⟨ts_yin ht hc, ts_yin hu hd, ?_⟩
        refine ⟨fun y => nm_r (nI_1 k) (nx ⟨z, fun _ => y⟩), fun y => h0 fun S => y ?_⟩
        have := (S k (by omega)).2 o
        rw [ts_rd_t hc, ts_rd_t hd] at this
        exact this
      · exact br_f o (nm_r (nI_1 k) (nx ⟨z, fun y => absurd y o⟩))
    · exact br_f z (h0 fun S => z (S k (by omega)).1)
theorem ty_same {t p u q : Nat} (ht : t < 10) (hp : p < 84) (hu : u < 10) (hq : q < 84) (h1 : ts_SY K N t p u q → post 1) (h0 : ¬ ts_SY K N t p u q → post 0) : wpY_isSame post (yf, ya, yc, K, N, kp, tk, ap, ad, cp) (nI t) (nI p) (nI u) (nI q) :=
  ⟨22, ty_same_l ht hp hu hq h1 h0 21 0 rfl (fun j hj => absurd hj (by omega))⟩
theorem ty_empty_l {t p : Nat} (ht : t < 10) (hp : p < 84) (h : qost (yf, ya, yc, ts_em K t p 21, N, kp, tk, ap, ad, cp)) : ∀ d k : Nat, k + d = 21 → wY_empty_2 qost (nI t) (nI p) yf ya yc (d + 1) (nI k) (ts_em K t p k) N kp tk ap ad cp := by
  intro d
  induction d with
  | zero =>
    intro k hk
    obtain rfl : k = 21 := by omega
    exact br_t (nI_le (a := 21) (b := 21) (Nat.le_refl _) (by decide)) h
  | succ d ih =>
    intro k hk
    have i := ih (k + 1) (by omega)
    rw [show ts_em K t p (k + 1) = ts_st (ts_em K t p k) t (ts_ch p k) 0 from rfl] at i
    refine br_f (nI_ge (b := 21) (by omega) (by decide)) (ty_part hp (by omega) ?_)
    by_cases hc : ts_ch p k < 84
    · rw [ts_st_t hc] at i
      rw [ts_pt_t hc]
      refine br_f (nI_pos (by omega)) ⟨ts_yin ht hc, nm_r (e' := upd (ts_em K t p k) (84 * t + ts_ch p k) 0) (by rw [ts_ycl ht hc]) (nm_r (nI_1 k) i)⟩
    · rw [ts_st_f hc] at i
      rw [ts_pt_f hc]
      exact br_t (by decide) (nm_r (nI_1 k) i)
theorem ty_empty {t p : Nat} (ht : t < 10) (hp : p < 84) (h : qost (yf, ya, yc, ts_em K t p 21, N, kp, tk, ap, ad, cp)) : wpY_empty qost (yf, ya, yc, K, N, kp, tk, ap, ad, cp) (nI t) (nI p) :=
  ⟨22, ty_empty_l ht hp h 21 0 rfl⟩
theorem ty_put_l {t p u q : Nat} (ht : t < 10) (hp : p < 84) (hu : u < 10) (hq : q < 84) (h : qost (yf, ya, yc, ts_cp K t p u q 21, ts_cp N t p u q 21, kp, tk, ap, ad, cp)) : ∀ d k : Nat, k + d = 21 → wY_put_10 qost (nI t) (nI p) (nI u) (nI q) yf ya yc (d + 1) (nI k) (ts_cp K t p u q k) (ts_cp N t p u q k) kp tk ap ad cp := by
  intro d
  induction d with
  | zero =>
    intro k hk
    obtain rfl : k = 21 := by omega
    exact br_t (nI_le (a := 21) (b := 21) (Nat.le_refl _) (by decide)) h
  | succ d ih =>
    intro k hk
    have i := ih (k + 1) (by omega)
    have st : ∀ A : Nat → Int32, ts_cp A t p u q (k + 1) = ts_st (ts_cp A t p u q k) u (ts_ch q k) (ts_rd (ts_cp A t p u q k) t (ts_ch p k)) := fun _ => rfl
    rw [st K, st N] at i
    refine br_f (nI_ge (b := 21) (by omega) (by decide)) (ty_part hp (by omega) (ty_part hq (by omega) ?_))
    by_cases hc : ts_ch q k < 84
    · rw [ts_st_t hc, ts_st_t hc] at i
      rw [ts_pt_t hc]
      refine br_f (nI_pos (by omega)) (ty_kindPt ht ⟨ts_yin hu hc, ?_⟩)
      refine nm_r (e' := upd (ts_cp K t p u q k) (84 * u + ts_ch q k) (ts_rd (ts_cp K t p u q k) t (ts_ch p k))) (by rw [ts_ycl hu hc]) ?_
      by_cases hd : ts_ch p k < 84
      · rw [ts_rd_t (a := ts_cp N t p u q k) hd] at i
        rw [ts_pt_t hd]
        exact br_t (nI_pos' (by omega)) ⟨ts_yin ht hd, ts_yin hu hc, nm_r (e' := upd (ts_cp N t p u q k) (84 * u + ts_ch q k) (ts_cp N t p u q k (84 * t + ts_ch p k))) (by rw [ts_ycl hu hc, ts_ycl ht hd]) (nm_r (nI_1 k) i)⟩
      · rw [ts_rd_f (a := ts_cp N t p u q k) hd] at i
        rw [ts_pt_f hd]
        exact br_f (by decide) ⟨ts_yin hu hc, nm_r (e' := upd (ts_cp N t p u q k) (84 * u + ts_ch q k) 0) (by rw [ts_ycl hu hc]) (nm_r (nI_1 k) i)⟩
    · rw [ts_st_f hc, ts_st_f hc] at i
      rw [ts_pt_f hc]
      exact br_t (by decide) (nm_r (nI_1 k) i)
theorem ty_put {t p u q : Nat} (ht : t < 10) (hp : p < 84) (hu : u < 10) (hq : q < 84) (h : qost (yf, ya, yc, ts_cp (ts_em K u q 21) t p u q 21, ts_cp N t p u q 21, kp, tk, ap, ad, cp)) : wpY_put qost (yf, ya, yc, K, N, kp, tk, ap, ad, cp) (nI t) (nI p) (nI u) (nI q) := by
  unfold wpY_put
  exact ty_empty hu hq ⟨22, ty_put_l ht hp hu hq h 21 0 rfl⟩
end
end
section
/-! Y's counting, testing, comparing, copying of trees -/
section
variable {post : Int32 → Prop} {qost : SY → Prop} {rost : Int32 → SY → Prop} {yf ya yc : Int32} {K N kp tk ap ad cp : Nat → Int32}
theorem ty_countIn_l {t p : Nat} (ht : t < 10) (hp : p < 84) (h : post (nI (ts_cn K t p 21))) : ∀ d k : Nat, k + d = 21 → wY_countIn_5 post (nI t) (nI p) yf ya yc K N kp tk ap ad cp (d + 1) (nI (ts_cn K t p k)) (nI k) := by
  intro d
  induction d with
  | zero =>
    intro k hk
    obtain rfl : k = 21 := by omega
    exact br_t (nI_le (a := 21) (b := 21) (Nat.le_refl _) (by decide)) h
  | succ d ih =>
    intro k hk
    have i := ih (k + 1) (by omega)
    refine br_f (nI_ge (b := 21) (by omega) (by decide)) (ty_part hp (by omega) (ty_kindPt ht ?_))
    by_cases z : ts_rd K t (ts_ch p k) = 0
    · rw [ts_cn_t z] at i
      exact br_t z (nm_r (nI_1 k) i)
    · rw [ts_cn_f z] at i
      exact br_f z (nm_r (nI_1 _) (nm_r (nI_1 k) i))
theorem ty_countIn {t p : Nat} (ht : t < 10) (hp : p < 84) (h : post (nI (ts_cn K t p 21))) : wpY_countIn post (yf, ya, yc, K, N, kp, tk, ap, ad, cp) (nI t) (nI p) :=
  ⟨22, ty_countIn_l ht hp h 21 0 rfl⟩
theorem ty_isIn2 {q p : Nat} (hq : q < 84) (hp : p < 84) (h1 : 20 ≤ q ∧ (q / 4 - 1) / 4 - 1 = p → post 1) (h0 : ¬ (20 ≤ q ∧ (q / 4 - 1) / 4 - 1 = p) → post 0) : wpY_isIn2 post (yf, ya, yc, K, N, kp, tk, ap, ad, cp) (nI q) (nI p) := by
  by_cases h20 : q ≤ 19
  · exact br_t (nI_le (b := 19) h20 (by decide)) (h0 fun z => by omega)
  · refine br_f (nI_ge (a := 19) (by omega) (by omega)) (ty_par (by omega) hq (ty_par (by omega) (by omega) ?_))
    exact pk_eq ((q / 4 - 1) / 4 - 1) p (fun e => h1 ⟨by omega, e⟩) (fun e => h0 fun z => e z.2)
theorem ty_isIn {q p : Nat} (hq : q < 84) (hp : p < 84) (h1 : ts_B q p → post 1) (h0 : ¬ ts_B q p → post 0) : wpY_isIn post (yf, ya, yc, K, N, kp, tk, ap, ad, cp) (nI q) (nI p) := by
  by_cases h4 : q ≤ 3
  · exact br_t (nI_le (b := 3) h4 (by decide)) (h0 (by unfold ts_B; omega))
  · refine br_f (nI_ge (a := 3) (by omega) (by omega)) (ty_par (by omega) hq ?_)
    refine pk_eq (q / 4 - 1) p (fun e => h1 (Or.inl ⟨by omega, e⟩)) (fun e => ?_)
    exact ty_isIn2 hq hp (fun z => br_f (by decide) (h1 (Or.inr z))) (fun z => br_t rfl (h0 fun B => B.elim (fun y => e y.2) z))
theorem ty_levels_l {t p : Nat} (ht : t < 10) (hp : p < 84) (h : post (nI (ts_dp K t p 21))) : ∀ d k : Nat, k + d = 21 → 0 < k → wY_levels_5 post (nI t) (nI p) yf ya yc K N kp tk ap ad cp (d + 1) (nI (ts_dp K t p k)) (nI k) := by
  intro d
  induction d with
  | zero =>
    intro k hk _
    obtain rfl : k = 21 := by omega
    exact br_t (nI_le (a := 21) (b := 21) (Nat.le_refl _) (by decide)) h
  | succ d ih =>
    intro k hk h0
    have i := ih (k + 1) (by omega) (by omega)
    have le := ts_dp_le K t p k
    have lv := (ts_lv_up k).2
    have J : ∀ z0 : Int32, z0 = nI (ts_lv k) → wY_levels_23 post (wY_levels_5 post (nI t) (nI p) yf ya yc K N kp tk ap ad cp (d + 1)) (nI t) (nI p) (nI (ts_dp K t p k)) (nI k) z0 yf ya yc K N kp tk ap ad cp := by
      intro z0 hz
      subst hz
      unfold wY_levels_23
      refine ty_part hp (by omega) (ty_kindPt ht ?_)
      by_cases z : ts_rd K t (ts_ch p k) = 0
      · rw [ts_dp_t z] at i
        exact br_t z (nm_r (nI_1 k) i)
      · rw [ts_dp_f z] at i
        refine br_f z ?_
        by_cases g : ts_lv k ≤ ts_dp K t p k
        · have e : ts_dp K t p k = ts_lv k := by omega
          rw [e]
          exact br_t (nI_le (Nat.le_refl _) (by omega)) (nm_r (nI_1 k) i)
        · exact br_f (nI_ge (by omega) (by omega)) (nm_r (nI_1 k) i)
    refine br_f (nI_ge (b := 21) (by omega) (by decide)) ?_
    by_cases h5 : 5 ≤ k
    · refine br_t (nI_le (a := 5) h5 (by omega)) (J 2 ?_)
      rw [show ts_lv k = 2 from by unfold ts_lv; rw [if_neg (by omega), if_neg (by omega)]]; rfl
    · refine br_f (nI_ge (b := 5) (by omega) (by decide)) (J 1 ?_)
      rw [show ts_lv k = 1 from by unfold ts_lv; rw [if_neg (by omega), if_pos (by omega)]]; rfl
theorem ts_dp_1 (K : Nat → Int32) (t p : Nat) : ts_dp K t p 1 = 0 := by
  by_cases z : ts_rd K t (ts_ch p 0) = 0
  · rw [ts_dp_t z]; rfl
  · rw [ts_dp_f z]; rfl
theorem ty_levels {t p : Nat} (ht : t < 10) (hp : p < 84) (h : post (nI (ts_dp K t p 21))) : wpY_levels post (yf, ya, yc, K, N, kp, tk, ap, ad, cp) (nI t) (nI p) := by
  have i := ty_levels_l (yf := yf) (ya := ya) (yc := yc) (N := N) (kp := kp) (tk := tk) (ap := ap) (ad := ad) (cp := cp) ht hp h 20 1 rfl (by omega)
  rw [ts_dp_1] at i
  exact ⟨21, i⟩
theorem ty_test {s p q : Nat} (hs : s < 2) (hp : p < 84) (hq : q < 84) (h : post (ts_ref K s p q)) : wpY_test post (yf, ya, yc, K, N, kp, tk, ap, ad, cp) (nI s) (nI p) (nI q) := by
  unfold wpY_test
  refine ty_side_t hs (br_f (by decide) (ty_path_t hp (br_f (by decide) (ty_path_t hq (br_f (by decide) (ty_kindAt (by omega) hp ?_))))))
  unfold ts_ref at h
  by_cases c1 : K (84 * s + p) = 0
  · rw [if_pos c1] at h; exact br_t c1 h
  rw [if_neg c1] at h
  refine br_f c1 (ty_parent (by omega) hq (fun F => ?_) (fun F => br_t rfl (by rw [if_neg F] at h; exact h)))
  rw [if_pos F] at h
  refine br_f (by decide) (ty_kindAt (by omega) hq ?_)
  by_cases c3 : K (84 * s + q) = 0
  · rw [if_pos c3] at h
    refine br_t c3 ?_
    have J : ∀ (z : Nat) (z0 : Int32), z0 = nI z → z + ts_lq q = 2 → wY_test_83 post (nI s) (nI p) (nI q) z0 yf ya yc K N kp tk ap ad cp := by
      intro z z0 hz hl
      subst hz
      unfold wY_test_83
      refine ty_isIn hq hp (fun B => br_f (by decide) ?_) (fun B => br_t rfl (ty_levels (by omega) hp ?_))
      · rw [if_pos (Or.inl B)] at h; exact h
      · have l2 := ts_dp_le K s p 21
        have l3 := (ts_lv_up 21).2
        by_cases c4 : ts_dp K s p 21 ≤ z
        · rw [if_neg (fun y => y.elim B (by omega))] at h
          exact br_t (nI_le c4 (by omega)) h
        · rw [if_pos (Or.inr (by omega))] at h
          exact br_f (nI_ge (by omega) (by omega)) h
    by_cases h20 : q ≤ 19
    · refine br_t (nI_le (b := 19) h20 (by decide)) ?_
      by_cases h4 : q ≤ 3
      · exact br_t (nI_le (b := 3) h4 (by decide)) (J 2 2 rfl (by unfold ts_lq; rw [if_pos (by omega)]))
      · exact br_f (nI_ge (a := 3) (by omega) (by omega)) (J 1 1 rfl (by unfold ts_lq; rw [if_neg (by omega), if_pos (by omega)]))
    · exact br_f (nI_ge (a := 19) (by omega) (by omega)) (J 0 0 rfl (by unfold ts_lq; rw [if_neg (by omega), if_neg (by omega)]))
  · rw [if_neg c3] at h; exact br_f c3 h
theorem ty_count_l {t : Nat} (ht : t < 10) (h : post (nI (ts_cz K t 84))) : ∀ d p : Nat, p + d = 84 → wY_count_4 post (nI t) yf ya yc K N kp tk ap ad cp (d + 1) (nI (ts_cz K t p)) (nI p) := by
  intro d
  induction d with
  | zero =>
    intro p hp
    obtain rfl : p = 84 := by omega
    exact br_t (nI_le (a := 84) (b := 84) (Nat.le_refl _) (by decide)) h
  | succ d ih =>
    intro p hp
    refine br_f (nI_ge (b := 84) (by omega) (by decide)) (ty_kindAt ht (by omega) ?_)
    have i := ih (p + 1) (by omega)
    by_cases z : K (84 * t + p) = 0
    · rw [ts_cz_t z] at i
      exact br_t z (nm_r (nI_1 p) i)
    · rw [ts_cz_f z] at i
      exact br_f z (nm_r (nI_1 _) (nm_r (nI_1 p) i))
theorem ty_count {t : Nat} (ht : t < 10) (h : post (nI (ts_cz K t 84))) : wpY_count post (yf, ya, yc, K, N, kp, tk, ap, ad, cp) (nI t) :=
  ⟨85, ty_count_l ht h 84 0 rfl⟩
theorem ty_like {t u p : Nat} (ht : t < 10) (hu : u < 10) (hp : p < 84) (h1 : K (84 * t + p) = K (84 * u + p) ∧ (K (84 * t + p) = 1 → N (84 * t + p) = N (84 * u + p)) → post 1) (h0 : ¬ (K (84 * t + p) = K (84 * u + p) ∧ (K (84 * t + p) = 1 → N (84 * t + p) = N (84 * u + p))) → post 0) : wpY_isLike post (yf, ya, yc, K, N, kp, tk, ap, ad, cp) (nI t) (nI u) (nI p) := by
  unfold wpY_isLike
  refine ty_kindAt ht hp (ty_kindAt hu hp ⟨fun z => ⟨fun o => ⟨ts_yin ht hp, ts_yin hu hp, ?_⟩, fun o => h1 ⟨z, fun y => absurd y o⟩⟩, fun z => h0 fun y => z y.1⟩)
  rw [ts_ycl ht hp, ts_ycl hu hp]
  exact ⟨fun y => h1 ⟨z, fun _ => y⟩, fun y => h0 fun w => y (w.2 o)⟩
theorem ty_changed_l {t : Nat} (ht : t < 10) (h : post (nI (ts_cq (fun i => ¬ (K (84 * t + i) = K (84 * 2 + i) ∧ (K (84 * t + i) = 1 → N (84 * t + i) = N (84 * 2 + i)))) 84))) : ∀ d p : Nat, p + d = 84 → wY_changed_15 post (nI t) yf ya yc K N kp tk ap ad cp (d + 1) (nI (ts_cq (fun i => ¬ (K (84 * t + i) = K (84 * 2 + i) ∧ (K (84 * t + i) = 1 → N (84 * t + i) = N (84 * 2 + i)))) p)) (nI p) := by
  intro d
  induction d with
  | zero =>
    intro p hp
    obtain rfl : p = 84 := by omega
    exact br_t (nI_le (a := 84) (b := 84) (Nat.le_refl _) (by decide)) h
  | succ d ih =>
    intro p hp
    have i := ih (p + 1) (by omega)
    refine br_f (nI_ge (b := 84) (by omega) (by decide)) (ty_like (u := 2) ht (by omega) (by omega) (fun z => ?_) (fun z => ?_))
    · rw [ts_cq_f (fun y => y z)] at i
      exact br_f (by decide) (nm_r (nI_1 p) i)
    · rw [ts_cq_t z] at i
      exact br_t rfl (nm_r (nI_1 _) (nm_r (nI_1 p) i))
theorem ty_same2_l (h1 : (∀ i, i < 84 → K (84 * 0 + i) = K (84 * 1 + i) ∧ (K (84 * 0 + i) = 1 → N (84 * 0 + i) = N (84 * 1 + i))) → post 1) (h0 : ¬ (∀ i, i < 84 → K (84 * 0 + i) = K (84 * 1 + i) ∧ (K (84 * 0 + i) = 1 → N (84 * 0 + i) = N (84 * 1 + i))) → post 0) : ∀ d p : Nat, p + d = 84 → (∀ i, i < p → K (84 * 0 + i) = K (84 * 1 + i) ∧ (K (84 * 0 + i) = 1 → N (84 * 0 + i) = N (84 * 1 + i))) → wY_same_2 post yf ya yc K N kp tk ap ad cp (d + 1) (nI p) := by
  intro d
  induction d with
  | zero =>
    intro p hp H
    obtain rfl : p = 84 := by omega
    exact br_t (nI_le (a := 84) (b := 84) (Nat.le_refl _) (by decide)) (h1 H)
  | succ d ih =>
    intro p hp H
    refine br_f (nI_ge (b := 84) (by omega) (by decide)) (ty_like (t := 0) (u := 1) (by omega) (by omega) (by omega) (fun z => ?_) (fun z => br_t rfl (h0 fun S => z (S p (by omega)))))
    exact br_f (by decide) (nm_r (nI_1 p) (ih (p + 1) (by omega) fun i hi => if e : i = p then e ▸ z else H i (by omega)))
theorem ty_copyTree_l {t u : Nat} (ht : t < 10) (hu : u < 10) (h : qost (yf, ya, yc, ts_ct K t u 84, ts_ct N t u 84, kp, tk, ap, ad, cp)) : ∀ d p : Nat, p + d = 84 → wY_copyTree_2 qost (nI t) (nI u) yf ya yc (d + 1) (nI p) (ts_ct K t u p) (ts_ct N t u p) kp tk ap ad cp := by
  intro d
  induction d with
  | zero =>
    intro p hp
    obtain rfl : p = 84 := by omega
    exact br_t (nI_le (a := 84) (b := 84) (Nat.le_refl _) (by decide)) h
  | succ d ih =>
    intro p hp
    have i := ih (p + 1) (by omega)
    have hp84 : p < 84 := by omega
    refine br_f (nI_ge (b := 84) hp84 (by decide)) ⟨ts_yin ht hp84, ts_yin hu hp84, ?_⟩
    refine nm_r (e' := ts_ct K t u (p + 1)) (by rw [ts_ycl ht hp84, ts_ycl hu hp84]; rfl) ⟨ts_yin ht hp84, ts_yin hu hp84, ?_⟩
    exact nm_r (e' := ts_ct N t u (p + 1)) (by rw [ts_ycl ht hp84, ts_ycl hu hp84]; rfl) (nm_r (nI_1 p) i)
theorem ty_copyTree {t u : Nat} (ht : t < 10) (hu : u < 10) (h : qost (yf, ya, yc, ts_ct K t u 84, ts_ct N t u 84, kp, tk, ap, ad, cp)) : wpY_copyTree qost (yf, ya, yc, K, N, kp, tk, ap, ad, cp) (nI t) (nI u) :=
  ⟨85, ty_copyTree_l ht hu h 84 0 rfl⟩
end
end
section
/-! one turn of Y's goOver, case by case -/
/-- both copies of an action: from side 1 - s to side s and to the last tree (Y's kinds are emptied first) -/
def ts_n2 (A : Nat → Int32) (s p : Nat) : Nat → Int32 := ts_cp (ts_cp A (1 - s) p s p 21) (1 - s) p 2 p 21
def ts_k2 (A : Nat → Int32) (s p : Nat) : Nat → Int32 := ts_cp (ts_em (ts_cp (ts_em A s p 21) (1 - s) p s p 21) 2 p 21) (1 - s) p 2 p 21
def ts_k0 (A : Nat → Int32) (p : Nat) : Nat → Int32 := ts_cp (ts_em A 2 p 21) 0 p 2 p 21
/-- Y's pile with what stands in p on it -/
def ts_tk (A : Nat → Int32) (h p : Nat) : Nat → Int32 := upd (upd (upd (upd A h (nI (4 * p + 7))) (h + 1) (nI (4 * p + 6))) (h + 2) (nI (4 * p + 5))) (h + 3) (nI (4 * p + 4))
theorem ts_1s {s : Nat} (hs : s < 2) : 1 - nI s = nI (1 - s) := by
  show nI 1 - nI s = _
  exact pk_sub (by omega)
section
variable {qost : SY → Prop} {rost : Int32 → SY → Prop} {yf ya yc m : Int32} {K N kp tk ap ad cp : Nat → Int32}
theorem ty_act {s p a : Nat} (hs : s < 2) (hp : p < 84) (ha : a < 84) (h0 : nI a = m → rost 0 (yf, nI a, yc, K, N, kp, tk, ap, ad, cp)) (h1 : ¬ nI a = m → rost 1 (yf, nI (a + 1), yc, ts_k2 K s p, ts_n2 N s p, kp, tk, upd ap a (nI p), upd ad a (nI s), cp)) : wpY_act rost (yf, nI a, yc, K, N, kp, tk, ap, ad, cp) (nI s) (nI p) m := by
  refine ⟨h0, fun z => ?_⟩
  rw [ts_1s hs]
  refine ty_put (by omega) hp (by omega) hp (ty_put (u := 2) (by omega) hp (by omega) hp ?_)
  refine ⟨vp_in_nI (by omega) (by decide), nm_r (e' := upd ap a (nI p)) (by rw [nI_clamp (by omega)]) ⟨vp_in_nI (by omega) (by decide), nm_r (e' := upd ad a (nI s)) (by rw [nI_clamp (by omega)]) (nm_r (nI_1 a) (h1 z))⟩⟩
variable {J : Int32 → Int32 → Int32 → Int32 → (Nat → Int32) → (Nat → Int32) → (Nat → Int32) → (Nat → Int32) → (Nat → Int32) → (Nat → Int32) → (Nat → Int32) → Prop}
theorem ty_push {p h : Nat} (hp : p < 20) (hh : h ≤ 9) (hJ : J (nI (h + 4)) yf ya yc K N kp (ts_tk tk h p) ap ad cp) : wY_goOver_107 qost J m (nI p) 1 yf ya yc 5 (nI h) 3 K N kp tk ap ad cp := by
  refine br_f (by decide) (ty_child_t (n := 3) hp ⟨vp_in_nI (by omega) (by decide), nm_r (e' := upd tk h (nI (4 * p + 7))) (by rw [nI_clamp (by omega)]) (nm_r (nI_1 h) (nm_r (pk_m1 2) ?_))⟩)
  refine br_f (by decide) (ty_child_t (n := 2) hp ⟨vp_in_nI (by omega) (by decide), nm_r (e' := upd (upd tk h (nI (4 * p + 7))) (h + 1) (nI (4 * p + 6))) (by rw [nI_clamp (by omega)]) (nm_r (nI_1 (h + 1)) (nm_r (pk_m1 1) ?_))⟩)
  refine br_f (by decide) (ty_child_t (n := 1) hp ⟨vp_in_nI (by omega) (by decide), nm_r (e' := upd (upd (upd tk h (nI (4 * p + 7))) (h + 1) (nI (4 * p + 6))) (h + 2) (nI (4 * p + 5))) (by rw [nI_clamp (by omega)]) (nm_r (nI_1 (h + 2)) (nm_r (pk_m1 0) ?_))⟩)
  refine br_f (by decide) (ty_child_t (n := 0) hp ⟨vp_in_nI (by omega) (by decide), nm_r (e' := ts_tk tk h p) (by rw [nI_clamp (by omega)]; rfl) (nm_r (nI_1 (h + 3)) (nm_r (e' := -1) (by decide) ?_))⟩)
  exact br_t (by decide) (br_f (by decide) hJ)
theorem ty_137_0 {p h a : Nat} (hp : p < 84) (ha : a < 84) (T : ts_SY K N 0 p 2 p) (h0 : nI a = m → J 0 yf (nI a) yc K N kp tk ap ad cp) (h1 : ¬ nI a = m → J (nI h) yf (nI (a + 1)) yc (ts_k2 K 0 p) (ts_n2 N 0 p) kp tk (upd ap a (nI p)) (upd ad a (nI 0)) cp) : wY_goOver_137 qost J m (nI h) (nI p) yf (nI a) yc K N kp tk ap ad cp := by
  unfold wY_goOver_137
  refine ty_same (t := 0) (u := 2) (by omega) hp (by omega) hp (fun _ => br_f (by decide) ?_) (fun z => absurd T z)
  exact ty_act (s := 0) (by omega) hp ha (fun z => br_t rfl (h0 z)) (fun z => br_f (by decide) (h1 z))
theorem ty_137_1 {p h a : Nat} (hp : p < 84) (ha : a < 84) (T : ¬ ts_SY K N 0 p 2 p) (U : ts_SY K N 1 p 2 p) (h0 : nI a = m → J 0 yf (nI a) yc K N kp tk ap ad cp) (h1 : ¬ nI a = m → J (nI h) yf (nI (a + 1)) yc (ts_k2 K 1 p) (ts_n2 N 1 p) kp tk (upd ap a (nI p)) (upd ad a (nI 1)) cp) : wY_goOver_137 qost J m (nI h) (nI p) yf (nI a) yc K N kp tk ap ad cp := by
  unfold wY_goOver_137
  refine ty_same (t := 0) (u := 2) (by omega) hp (by omega) hp (fun z => absurd z T) (fun _ => br_t rfl ?_)
  refine ty_same (t := 1) (u := 2) (by omega) hp (by omega) hp (fun _ => br_f (by decide) ?_) (fun z => absurd U z)
  exact ty_act (s := 1) (by omega) hp ha (fun z => br_t rfl (h0 z)) (fun z => br_f (by decide) (h1 z))
theorem ty_137_n {p h a c : Nat} (hp : p < 84) (hc : c < 84) (T : ¬ ts_SY K N 0 p 2 p) (U : ¬ ts_SY K N 1 p 2 p) (h1 : J (nI h) (-1) (nI a) (nI (c + 1)) K N kp tk ap ad (upd cp c (nI p))) : wY_goOver_137 qost J m (nI h) (nI p) (-1) (nI a) (nI c) K N kp tk ap ad cp := by
  unfold wY_goOver_137
  refine ty_same (t := 0) (u := 2) (by omega) hp (by omega) hp (fun z => absurd z T) (fun _ => br_t rfl ?_)
  refine ty_same (t := 1) (u := 2) (by omega) hp (by omega) hp (fun z => absurd z U) (fun _ => br_t rfl ?_)
  refine ⟨vp_in_nI (by omega) (by decide), nm_r (e' := upd cp c (nI p)) (by rw [nI_clamp (by omega)]) (nm_r (nI_1 c) (br_t (by decide) ?_))⟩
  exact br_f (by decide) h1
theorem ty_137_c {p h a c s : Nat} (hs : s < 2) (hp : p < 84) (ha : a < 84) (hc : c < 84) (T : ¬ ts_SY K N 0 p 2 p) (U : ¬ ts_SY K N 1 p 2 p) (h0 : nI a = m → J 0 (nI (1 - s)) (nI a) (nI (c + 1)) K N kp tk ap ad (upd cp c (nI p))) (h1 : ¬ nI a = m → J (nI h) (nI (1 - s)) (nI (a + 1)) (nI (c + 1)) (ts_k2 K s p) (ts_n2 N s p) kp tk (upd ap a (nI p)) (upd ad a (nI s)) (upd cp c (nI p))) : wY_goOver_137 qost J m (nI h) (nI p) (nI (1 - s)) (nI a) (nI c) K N kp tk ap ad cp := by
  unfold wY_goOver_137
  refine ty_same (t := 0) (u := 2) (by omega) hp (by omega) hp (fun z => absurd z T) (fun _ => br_t rfl ?_)
  refine ty_same (t := 1) (u := 2) (by omega) hp (by omega) hp (fun z => absurd z U) (fun _ => br_t rfl ?_)
  refine ⟨vp_in_nI (by omega) (by decide), nm_r (e' := upd cp c (nI p)) (by rw [nI_clamp (by omega)]) (nm_r (nI_1 c) (br_f (nI_pos (by omega)) ?_))⟩
  rw [ts_1s (by omega), show 1 - (1 - s) = s from by omega]
  exact ty_act hs hp ha (fun z => br_t rfl (br_t rfl (h0 z))) (fun z => br_f (by decide) (br_f (by decide) (h1 z)))
variable {n h p : Nat}
theorem ty_g0 (hp : p < 84) (hh : h ≤ 9) (htk : tk h = nI p) (S : ts_SY K N 0 p 1 p) (hW : wY_goOver_34 qost m n (nI h) yf ya yc (ts_k0 K p) (ts_cp N 0 p 2 p 21) kp tk ap ad cp) : wY_goOver_34 qost m (n + 1) (nI (h + 1)) yf ya yc K N kp tk ap ad cp := by
  refine br_f (nI_nle (by omega) (by omega)) (nm_r (pk_m1 h) ⟨vp_in_nI (by omega) (by decide), nm_r (e' := nI p) (by rw [nI_clamp (by omega)]; exact htk) ?_⟩)
  refine ty_same (t := 0) (u := 1) (by omega) hp (by omega) hp (fun _ => br_f (by decide) (ty_put (t := 0) (u := 2) (by omega) hp (by omega) hp ?_)) (fun z => absurd S z)
  exact br_f (by decide) hW
theorem ty_g1 (hp : p < 20) (hh : h ≤ 9) (htk : tk h = nI p) (S : ¬ ts_SY K N 0 p 1 p) (F0 : K p = 2) (F1 : K (84 + p) = 2) (hW : wY_goOver_34 qost m n (nI (h + 4)) yf ya yc (upd K (168 + p) 2) N kp (ts_tk tk h p) ap ad cp) : wY_goOver_34 qost m (n + 1) (nI (h + 1)) yf ya yc K N kp tk ap ad cp := by
  refine br_f (nI_nle (by omega) (by omega)) (nm_r (pk_m1 h) ⟨vp_in_nI (by omega) (by decide), nm_r (e' := nI p) (by rw [nI_clamp (by omega)]; exact htk) ?_⟩)
  refine ty_same (t := 0) (u := 1) (by omega) (by omega) (by omega) (by omega) (fun z => absurd z S) (fun _ => br_t rfl (ty_kindAt (t := 0) (by omega) (by omega) ?_))
  rw [Nat.mul_zero, Nat.zero_add]
  refine br_t F0 (ty_kindAt (t := 1) (by omega) (by omega) ?_)
  rw [Nat.mul_one]
  have e : (168 : Int32) + nI p = nI (168 + p) := nI_add 168 p
  rw [e]
  exact br_t F1 ⟨vp_in_nI (by omega) (by decide), nm_r (e' := upd K (168 + p) 2) (by rw [nI_clamp (by omega)]) ⟨5, ty_push hp hh hW⟩⟩
theorem ty_gx (hp : p < 84) (hh : h ≤ 9) (htk : tk h = nI p) (S : ¬ ts_SY K N 0 p 1 p) (F : ¬ (K p = 2 ∧ K (84 + p) = 2)) (H : wY_goOver_137 qost (wY_goOver_34 qost m n) m (nI h) (nI p) yf ya yc K N kp tk ap ad cp) : wY_goOver_34 qost m (n + 1) (nI (h + 1)) yf ya yc K N kp tk ap ad cp := by
  refine br_f (nI_nle (by omega) (by omega)) (nm_r (pk_m1 h) ⟨vp_in_nI (by omega) (by decide), nm_r (e' := nI p) (by rw [nI_clamp (by omega)]; exact htk) ?_⟩)
  refine ty_same (t := 0) (u := 1) (by omega) hp (by omega) hp (fun z => absurd z S) (fun _ => br_t rfl (ty_kindAt (t := 0) (by omega) hp ?_))
  rw [Nat.mul_zero, Nat.zero_add]
  by_cases F0 : K p = 2
  · refine br_t F0 (ty_kindAt (t := 1) (by omega) hp ?_)
    rw [Nat.mul_one]
    exact br_f (fun z => F ⟨F0, z⟩) H
  · exact br_f F0 H
theorem ty_gz (h : qost (yf, ya, yc, K, N, kp, tk, ap, ad, cp)) : wY_goOver_34 qost m (n + 1) (nI 0) yf ya yc K N kp tk ap ad cp :=
  br_t (by decide) h
/-- goOver begins with the four uppermost paths on the pile -/
def ts_t4 (A : Nat → Int32) : Nat → Int32 := upd (upd (upd (upd A 0 (nI 3)) 1 (nI 2)) 2 (nI 1)) 3 (nI 0)
theorem ty_start (H : ∃ n, wY_goOver_34 qost m n (nI 4) yf (nI 0) (nI 0) K N kp (ts_t4 tk) ap ad cp) : wpY_goOver qost (yf, ya, yc, K, N, kp, tk, ap, ad, cp) m := by
  refine ⟨5, br_f (by decide) ⟨vp_in_nI (n := 0) (by omega) (by decide), nm_r (e' := upd tk 0 (nI 3)) rfl (nm_r (nI_1 0) ?_)⟩⟩
  refine br_f (by decide) ⟨vp_in_nI (n := 1) (by omega) (by decide), nm_r (e' := upd (upd tk 0 (nI 3)) 1 (nI 2)) rfl (nm_r (nI_1 1) ?_)⟩
  refine br_f (by decide) ⟨vp_in_nI (n := 2) (by omega) (by decide), nm_r (e' := upd (upd (upd tk 0 (nI 3)) 1 (nI 2)) 2 (nI 1)) rfl (nm_r (nI_1 2) ?_)⟩
  refine br_f (by decide) ⟨vp_in_nI (n := 3) (by omega) (by decide), nm_r (e' := ts_t4 tk) rfl (nm_r (nI_1 3) ?_)⟩
  exact br_t (by decide) H
end
end
section
/-! X's carryOut, one turn, case by case; then carryOut against goOver -/
section
variable {post : Int32 → Prop} {rost : Int32 → SX → Prop} {xf xa xc lim : Int32} {K N kp ap ad cp : Nat → Int32} {n done p seen : Nat}
theorem tx_find0 (hp : p < 84) (S : ts_SX K N 0 p 1 p) (h : post 0) : wpX_findingAt post (xf, xa, xc, K, N, kp, ap, ad, cp) (nI p) :=
  tx_find hp (fun _ => h) (fun y => absurd S y) (fun y => absurd S y) (fun y => absurd S y) (fun y => absurd S y)
theorem tx_find1 (hp : p < 84) (S : ¬ ts_SX K N 0 p 1 p) (F0 : K p = 2) (F1 : K (84 + p) = 2) (h : post 1) : wpX_findingAt post (xf, xa, xc, K, N, kp, ap, ad, cp) (nI p) :=
  tx_find hp (fun y => absurd y S) (fun _ _ _ => h) (fun _ y => absurd ⟨F0, F1⟩ y) (fun _ y => absurd ⟨F0, F1⟩ y) (fun _ y => absurd ⟨F0, F1⟩ y)
theorem tx_find3 (hp : p < 84) (S : ¬ ts_SX K N 0 p 1 p) (F : ¬ (K p = 2 ∧ K (84 + p) = 2)) (T : ts_SX K N 0 p 2 p) (h : post 3) : wpX_findingAt post (xf, xa, xc, K, N, kp, ap, ad, cp) (nI p) :=
  tx_find hp (fun y => absurd y S) (fun _ y z => absurd ⟨y, z⟩ F) (fun _ _ _ => h) (fun _ _ y => absurd T y) (fun _ _ y => absurd T y)
theorem tx_find2 (hp : p < 84) (S : ¬ ts_SX K N 0 p 1 p) (F : ¬ (K p = 2 ∧ K (84 + p) = 2)) (T : ¬ ts_SX K N 0 p 2 p) (U : ts_SX K N 1 p 2 p) (h : post 2) : wpX_findingAt post (xf, xa, xc, K, N, kp, ap, ad, cp) (nI p) :=
  tx_find hp (fun y => absurd y S) (fun _ y z => absurd ⟨y, z⟩ F) (fun _ _ y => absurd y T) (fun _ _ _ _ => h) (fun _ _ _ y => absurd U y)
theorem tx_find4 (hp : p < 84) (S : ¬ ts_SX K N 0 p 1 p) (F : ¬ (K p = 2 ∧ K (84 + p) = 2)) (T : ¬ ts_SX K N 0 p 2 p) (U : ¬ ts_SX K N 1 p 2 p) (h : post 4) : wpX_findingAt post (xf, xa, xc, K, N, kp, ap, ad, cp) (nI p) :=
  tx_find hp (fun y => absurd y S) (fun _ y z => absurd ⟨y, z⟩ F) (fun _ _ y => absurd y T) (fun _ _ _ y => absurd y U) (fun _ _ _ _ => h)
theorem tx_c0 (hp : p < 84) (hs : seen < 84) (S : ts_SX K N 0 p 1 p) (hW : wX_carryOut_7 rost lim n (nI done) (ts_nxi p) (nI (seen + 1)) xf xa xc (ts_cp K 0 p 2 p 21) (ts_cp N 0 p 2 p 21) kp ap ad cp) : wX_carryOut_7 rost lim (n + 1) (nI done) (nI p) (nI seen) xf xa xc K N kp ap ad cp := by
  refine br_f (nI_ge (b := 84) hs (by decide)) (tx_path_t hp (br_f (by decide) (tx_find0 hp S ?_)))
  refine br_f (by decide) (br_f (by decide) (br_f (by decide) ?_))
  refine br_t rfl (br_t rfl (tx_copy (t := 0) (u := 2) (by omega) hp (by omega) hp ?_))
  exact br_f (by decide) (tx_after hp (nm_r (nI_1 seen) hW))
theorem tx_c1 (hp : p < 84) (hs : seen < 84) (S : ¬ ts_SX K N 0 p 1 p) (F0 : K p = 2) (F1 : K (84 + p) = 2) (hW : wX_carryOut_7 rost lim n (nI done) (nI (4 * p + 4)) (nI (seen + 1)) xf xa xc (ts_st K 2 p 2) (ts_st N 2 p 0) kp ap ad cp) : wX_carryOut_7 rost lim (n + 1) (nI done) (nI p) (nI seen) xf xa xc K N kp ap ad cp := by
  refine br_f (nI_ge (b := 84) hs (by decide)) (tx_path_t hp (br_f (by decide) (tx_find1 hp S F0 F1 ?_)))
  refine br_f (by decide) (br_f (by decide) (br_f (by decide) ?_))
  refine br_t rfl (br_f (by decide) (br_t rfl (tx_setEntry (t := 2) (by omega) (by omega) ?_)))
  exact br_t rfl (tx_first (nm_r (nI_1 seen) hW))
theorem tx_c4 (hp : p < 84) (hs : seen < 84) (S : ¬ ts_SX K N 0 p 1 p) (F : ¬ (K p = 2 ∧ K (84 + p) = 2)) (T : ¬ ts_SX K N 0 p 2 p) (U : ¬ ts_SX K N 1 p 2 p) (hW : wX_carryOut_7 rost lim n (nI done) (ts_nxi p) (nI (seen + 1)) (-1) xa xc K N kp ap ad cp) : wX_carryOut_7 rost lim (n + 1) (nI done) (nI p) (nI seen) (-1) xa xc K N kp ap ad cp := by
  refine br_f (nI_ge (b := 84) hs (by decide)) (tx_path_t hp (br_f (by decide) (tx_find4 hp S F T U ?_)))
  refine br_f (by decide) (br_f (by decide) (br_t rfl (br_t rfl ?_)))
  refine br_t rfl (br_f (by decide) (br_f (by decide) ?_))
  exact br_f (by decide) (tx_after hp (nm_r (nI_1 seen) hW))
theorem tx_c3 (hp : p < 84) (hs : seen < 84) (S : ¬ ts_SX K N 0 p 1 p) (F : ¬ (K p = 2 ∧ K (84 + p) = 2)) (T : ts_SX K N 0 p 2 p) (h0 : nI done = lim → rost (nI done) (xf, xa, xc, K, N, kp, ap, ad, cp)) (hW : ¬ nI done = lim → wX_carryOut_7 rost lim n (nI (done + 1)) (ts_nxi p) (nI (seen + 1)) xf xa xc (ts_n2 K 0 p) (ts_n2 N 0 p) kp ap ad cp) : wX_carryOut_7 rost lim (n + 1) (nI done) (nI p) (nI seen) xf xa xc K N kp ap ad cp := by
  refine br_f (nI_ge (b := 84) hs (by decide)) (tx_path_t hp (br_f (by decide) (tx_find3 hp S F T ?_)))
  refine br_t rfl (br_f (by decide) ⟨h0, fun z => ?_⟩)
  rw [show (1 : Int32) - 0 = nI 1 from by decide]
  refine tx_copy (u := 0) (by omega) hp (by omega) hp (tx_copy (u := 2) (by omega) hp (by omega) hp (nm_r (nI_1 done) ?_))
  exact br_f (by decide) (tx_after hp (nm_r (nI_1 seen) (hW z)))
theorem tx_c2 (hp : p < 84) (hs : seen < 84) (S : ¬ ts_SX K N 0 p 1 p) (F : ¬ (K p = 2 ∧ K (84 + p) = 2)) (T : ¬ ts_SX K N 0 p 2 p) (U : ts_SX K N 1 p 2 p) (h0 : nI done = lim → rost (nI done) (xf, xa, xc, K, N, kp, ap, ad, cp)) (hW : ¬ nI done = lim → wX_carryOut_7 rost lim n (nI (done + 1)) (ts_nxi p) (nI (seen + 1)) xf xa xc (ts_n2 K 1 p) (ts_n2 N 1 p) kp ap ad cp) : wX_carryOut_7 rost lim (n + 1) (nI done) (nI p) (nI seen) xf xa xc K N kp ap ad cp := by
  refine br_f (nI_ge (b := 84) hs (by decide)) (tx_path_t hp (br_f (by decide) (tx_find2 hp S F T U ?_)))
  refine br_f (by decide) (br_t rfl (br_f (by decide) ⟨h0, fun z => ?_⟩))
  rw [show (1 : Int32) - 1 = nI 0 from by decide]
  refine tx_copy (u := 1) (by omega) hp (by omega) hp (tx_copy (u := 2) (by omega) hp (by omega) hp (nm_r (nI_1 done) ?_))
  exact br_f (by decide) (tx_after hp (nm_r (nI_1 seen) (hW z)))
theorem tx_c5 {s : Nat} (hs2 : s < 2) (hp : p < 84) (hs : seen < 84) (S : ¬ ts_SX K N 0 p 1 p) (F : ¬ (K p = 2 ∧ K (84 + p) = 2)) (T : ¬ ts_SX K N 0 p 2 p) (U : ¬ ts_SX K N 1 p 2 p) (h0 : nI done = lim → rost (nI done) (nI (1 - s), xa, xc, K, N, kp, ap, ad, cp)) (hW : ¬ nI done = lim → wX_carryOut_7 rost lim n (nI (done + 1)) (ts_nxi p) (nI (seen + 1)) (nI (1 - s)) xa xc (ts_n2 K s p) (ts_n2 N s p) kp ap ad cp) : wX_carryOut_7 rost lim (n + 1) (nI done) (nI p) (nI seen) (nI (1 - s)) xa xc K N kp ap ad cp := by
  refine br_f (nI_ge (b := 84) hs (by decide)) (tx_path_t hp (br_f (by decide) (tx_find4 hp S F T U ?_)))
  refine br_f (by decide) (br_f (by decide) (br_t rfl (br_f (ts_m1 (by omega)) ?_)))
  rw [ts_1s (show 1 - s < 2 by omega), show 1 - (1 - s) = s from by omega]
  refine br_f (ts_m1 (by omega)) ⟨h0, fun z => ?_⟩
  rw [ts_1s hs2]
  refine tx_copy (by omega) hp (by omega) hp (tx_copy (u := 2) (by omega) hp (by omega) hp (nm_r (nI_1 done) ?_))
  exact br_f (by decide) (tx_after hp (nm_r (nI_1 seen) (hW z)))
theorem tx_cz {P : Int32} (hP : P < 0) (h : rost (nI done) (xf, xa, xc, K, N, kp, ap, ad, cp)) : wX_carryOut_7 rost lim (n + 1) (nI done) P (nI seen) xf xa xc K N kp ap ad cp :=
  ⟨fun _ => h, fun _ => tx_path_f (Or.inl hP) (br_t rfl h)⟩
end
/-- from here both sides come to one answer and to related states (d: how many turns at most) -/
def ts_F1 (lim m pf xa xc : Int32) (kp ap ad cp : Nat → Int32) (d a : Nat) (P : Int32) (seen : Nat) (K N : Nat → Int32) (x : Int32) (c : Nat) (K' N' tk ap' ad' cp' : Nat → Int32) : Prop :=
  ∃ (r c2 : Nat) (KF NF KF' NF' tkF apF adF cpF : Nat → Int32), ts_R KF NF KF' NF' ∧ ts_W KF ∧
    (∀ (rost : Int32 → SX → Prop) (n : Nat), d < n → rost (nI r) (pf, xa, xc, KF, NF, kp, ap, ad, cp) → wX_carryOut_7 rost lim n (nI a) P (nI seen) pf xa xc K N kp ap ad cp) ∧
    (∀ (qost : SY → Prop) (n : Nat), d < n → qost (pf, nI r, nI c2, KF', NF', kp, tkF, apF, adF, cpF) → wY_goOver_34 qost m n x pf (nI a) (nI c) K' N' kp tk ap' ad' cp')
section
variable {lim m pf xa xc : Int32} {kp ap ad cp : Nat → Int32}
theorem ts_F1_up {d a a1 seen seen1 c c1 : Nat} {P P1 x x1 : Int32} {K N K' N' tk ap' ad' cp' K1 N1 K1' N1' tk1 ap1 ad1 cp1 : Nat → Int32} (F : ts_F1 lim m pf xa xc kp ap ad cp d a1 P1 seen1 K1 N1 x1 c1 K1' N1' tk1 ap1 ad1 cp1)
    (hX : ∀ (rost : Int32 → SX → Prop) (n : Nat), wX_carryOut_7 rost lim n (nI a1) P1 (nI seen1) pf xa xc K1 N1 kp ap ad cp → wX_carryOut_7 rost lim (n + 1) (nI a) P (nI seen) pf xa xc K N kp ap ad cp)
    (hY : ∀ (qost : SY → Prop) (n : Nat), wY_goOver_34 qost m n x1 pf (nI a1) (nI c1) K1' N1' kp tk1 ap1 ad1 cp1 → wY_goOver_34 qost m (n + 1) x pf (nI a) (nI c) K' N' kp tk ap' ad' cp') :
    ts_F1 lim m pf xa xc kp ap ad cp (d + 1) a P seen K N x c K' N' tk ap' ad' cp' := by
  obtain ⟨r, c2, KF, NF, KF', NF', tkF, apF, adF, cpF, R, W, gX, gY⟩ := F
  refine ⟨r, c2, KF, NF, KF', NF', tkF, apF, adF, cpF, R, W, fun rost n hn h => ?_, fun qost n hn h => ?_⟩
  · obtain ⟨n, rfl⟩ : ∃ n', n = n' + 1 := ⟨n - 1, by omega⟩
    exact hX rost n (gX rost n (by omega) h)
  · obtain ⟨n, rfl⟩ : ∃ n', n = n' + 1 := ⟨n - 1, by omega⟩
    exact hY qost n (gY qost n (by omega) h)
theorem ts_F1_z {d a seen c c1 : Nat} {P x : Int32} {K N K' N' tk ap' ad' cp' cp1 : Nat → Int32} (R : ts_R K N K' N') (W : ts_W K)
    (hX : ∀ (rost : Int32 → SX → Prop) (n : Nat), rost (nI a) (pf, xa, xc, K, N, kp, ap, ad, cp) → wX_carryOut_7 rost lim (n + 1) (nI a) P (nI seen) pf xa xc K N kp ap ad cp)
    (hY : ∀ (qost : SY → Prop) (n : Nat), qost (pf, nI a, nI c1, K', N', kp, tk, ap', ad', cp1) → wY_goOver_34 qost m (n + 2) x pf (nI a) (nI c) K' N' kp tk ap' ad' cp') :
    ts_F1 lim m pf xa xc kp ap ad cp (d + 1) a P seen K N x c K' N' tk ap' ad' cp' := by
  refine ⟨a, c1, K, N, K', N', tk, ap', ad', cp1, R, W, fun rost n hn h => ?_, fun qost n hn h => ?_⟩
  · obtain ⟨n, rfl⟩ : ∃ n', n = n' + 1 := ⟨n - 1, by omega⟩
    exact hX rost n h
  · obtain ⟨n, rfl⟩ : ∃ n', n = n' + 2 := ⟨n - 2, by omega⟩
    exact hY qost n h
end
/-! what an action leaves of R, W and A -/
theorem ts_R_n2 {k n k' n' : Nat → Int32} (R : ts_R k n k' n') {s p : Nat} (hs : s < 2) : ts_R (ts_n2 k s p) (ts_n2 n s p) (ts_k2 k' s p) (ts_n2 n' s p) :=
  ts_R_cp (ts_R_cp R (ts_dj_ne p p (by omega)) (by omega)) (ts_dj_ne p p (by omega)) (by omega)
theorem ts_W_cp2 {k : Nat → Int32} (W : ts_W k) (t p : Nat) : ts_W (ts_cp k t p 2 p 21) :=
  ts_W_2 W fun i _ hn => ts_cp_fr (ts_no_t (by omega)) 21 (by omega)
theorem ts_W_n2 {k : Nat → Int32} (W : ts_W k) {s p : Nat} (hs : s < 2) (hp : p < 84) (A : ts_A k p) : ts_W (ts_n2 k s p) :=
  ts_W_cp2 (ts_W_cp W (ts_dj_ne p p (by omega)) (by omega) (by omega) hp fun h4 => (A s hs h4).1) _ _
theorem ts_A_n2 {k : Nat → Int32} {s p : Nat} (A : ts_A k p) : ts_A (ts_n2 k s p) p := by
  refine ts_A_c A fun t c _ hc => ?_
  unfold ts_n2
  rw [ts_cp_fr (fun j _ _ z => by have := ts_ch_ge p j; omega) 21 (by omega), ts_cp_fr (fun j _ _ z => by have := ts_ch_ge p j; omega) 21 (by omega)]
theorem ts_A_cp2 {k : Nat → Int32} {t p : Nat} (A : ts_A k p) : ts_A (ts_cp k t p 2 p 21) p :=
  ts_A_c A fun t c _ hc => ts_cp_fr (fun j _ _ z => by have := ts_ch_ge p j; omega) 21 (by omega)
end
section
/-! carryOut against goOver -/
section
variable {lim m pf xa xc : Int32} {kp ap ad cp : Nat → Int32}
theorem ts_nxi_t {p : Nat} (h : ts_nx p < 84) : ts_nxi p = nI (ts_nx p) := if_pos h
theorem ts_nxi_f {p : Nat} (h : ts_nx p = 1000) : ts_nxi p = -1 := if_neg (by omega)
theorem ts_sim1 (hl : ∀ a : Nat, a < 84 → (nI a = lim ↔ nI a = m)) (hpf : pf = -1 ∨ ∃ s : Nat, s < 2 ∧ pf = nI (1 - s)) : ∀ d p : Nat, p < 84 → 84 ≤ ts_ps p + d → ∀ (a seen c : Nat) (K N K' N' tk ap' ad' cp' : Nat → Int32), a ≤ ts_ps p → seen ≤ ts_ps p → c ≤ ts_ps p → ts_R K N K' N' → ts_W K → ts_A K p → tk (ts_ht p) = nI p → ts_pl tk (ts_ht p) p → ts_F1 lim m pf xa xc kp ap ad cp d a (nI p) seen K N (nI (ts_ht p + 1)) c K' N' tk ap' ad' cp' := by
  intro d
  induction d with
  | zero =>
    intro p hp hd
    have := (ts_f1 p hp).1
    omega
  | succ d ih =>
    intro p hp hd a seen c K N K' N' tk ap' ad' cp' ha hs hc R W A htk hpl
    obtain ⟨f1, f2, f3⟩ := ts_f1 p hp
    -- on to the next path
    have NX : ∀ (a1 c1 : Nat) (K1 N1 K1' N1' ap1 ad1 cp1 : Nat → Int32), a1 ≤ ts_ps p + 1 → c1 ≤ ts_ps p + 1 → ts_R K1 N1 K1' N1' → ts_W K1 → ts_A K1 p → ts_F1 lim m pf xa xc kp ap ad cp d a1 (ts_nxi p) (seen + 1) K1 N1 (nI (ts_ht p)) c1 K1' N1' tk ap1 ad1 cp1 := by
      intro a1 c1 K1 N1 K1' N1' ap1 ad1 cp1 ha1 hc1 R1 W1 A1
      rcases f3 with e | e
      · have h0 := ts_f3 p hp e
        rw [ts_nxi_f e, h0]
        refine ⟨a1, c1, K1, N1, K1', N1', tk, ap1, ad1, cp1, R1, W1, fun rost n hn h => ?_, fun qost n hn h => ?_⟩
        · obtain ⟨n, rfl⟩ : ∃ n', n = n' + 1 := ⟨n - 1, by omega⟩
          exact tx_cz (by decide) h
        · obtain ⟨n, rfl⟩ : ∃ n', n = n' + 1 := ⟨n - 1, by omega⟩
          exact ty_gz h
      · obtain ⟨g1, g2⟩ := ts_f2 p hp e
        rw [g2] at hpl
        rw [ts_nxi_t e, g2]
        exact ih (ts_nx p) e (by omega) a1 (seen + 1) c1 K1 N1 K1' N1' tk ap1 ad1 cp1 (by omega) (by omega) (by omega) R1 W1 (ts_A_nx hp e A1) hpl.1 hpl.2.2
    have S01 := ts_S_R R (t := 0) (p := p) (u := 1) (q := p) (by omega) (by omega)
    have S02 := ts_S_R R (t := 0) (p := p) (u := 2) (q := p) (by omega) (by omega)
    have S12 := ts_S_R R (t := 1) (p := p) (u := 2) (q := p) (by omega) (by omega)
    have E0 : K' p = K p := (R p (by omega)).1
    have E1 : K' (84 + p) = K (84 + p) := (R (84 + p) (by omega)).1
    by_cases S : ts_SX K N 0 p 1 p
    · exact ts_F1_up (NX a c (ts_cp K 0 p 2 p 21) (ts_cp N 0 p 2 p 21) (ts_k0 K' p) (ts_cp N' 0 p 2 p 21) ap' ad' cp' (by omega) (by omega) (ts_R_cp R (ts_dj_ne p p (by omega)) (by omega)) (ts_W_cp2 W 0 p) (ts_A_cp2 A))
        (fun rost n h => tx_c0 hp (by omega) S h) (fun qost n h => ty_g0 hp f2 htk (S01.mpr S) h)
    have S' : ¬ ts_SY K' N' 0 p 1 p := fun z => S (S01.mp z)
    by_cases F : K p = 2 ∧ K (84 + p) = 2
    · obtain ⟨F0, F1⟩ := F
      have h20 : p < 20 := ts_20 hp (R p (by omega)) (R (84 + p) (by omega)) F0 F1 S
      obtain ⟨g1, g2, _⟩ := ts_f4 p h20
      have e2 : 84 * 2 + p = 168 + p := by omega
      have R1 : ts_R (ts_st K 2 p 2) (ts_st N 2 p 0) (upd K' (168 + p) 2) N' := by
        rw [ts_st_t hp, ts_st_t hp, e2]
        exact ts_R_up R (Or.inr (Or.inr rfl)) (y := 0) (by rw [pk_us, if_neg (by decide)]) (fun z => absurd z (by decide)) (fun j hj => pk_un hj) (fun _ _ => rfl)
      have W1 : ts_W (ts_st K 2 p 2) := ts_W_2 W fun i _ hn => ts_st_n (fun _ => by omega)
      have A1 : ts_A (ts_st K 2 p 2) (4 * p + 4) := by
        refine ts_A_ch h20 (ts_A_c A fun t c ht hc => ts_st_n (fun _ => by omega)) ?_ ?_
        · rw [ts_st_n (fun _ => by omega)]; exact F0
        · rw [ts_st_n (fun _ => by omega)]; exact F1
      have hp1 : ts_pl (ts_tk tk (ts_ht p) p) (ts_ht p + 3) (4 * p + 4) := by
        refine ts_pl_push h20 hpl (fun i hi => ?_) ?_ ?_ ?_
        · unfold ts_tk; rw [pk_un (by omega), pk_un (by omega), pk_un (by omega), pk_un (by omega)]
        · unfold ts_tk; rw [pk_un (by omega), pk_un (by omega), pk_un (by omega), pk_us]
        · unfold ts_tk; rw [pk_un (by omega), pk_un (by omega), pk_us]
        · unfold ts_tk; rw [pk_un (by omega), pk_us]
      have hq1 : ts_tk tk (ts_ht p) p (ts_ht p + 3) = nI (4 * p + 4) := pk_us
      rw [← g2] at hp1 hq1
      have I := ih (4 * p + 4) (by omega) (by omega) a (seen + 1) c (ts_st K 2 p 2) (ts_st N 2 p 0) (upd K' (168 + p) 2) N' (ts_tk tk (ts_ht p) p) ap' ad' cp' (by omega) (by omega) (by omega) R1 W1 A1 hq1 hp1
      rw [g2] at I
      exact ts_F1_up I (fun rost n h => tx_c1 hp (by omega) S F0 F1 h) (fun qost n h => ty_g1 h20 f2 htk S' (E0.trans F0) (E1.trans F1) h)
    have F' : ¬ (K' p = 2 ∧ K' (84 + p) = 2) := fun z => F ⟨E0.symm.trans z.1, E1.symm.trans z.2⟩
    -- an action at p
    have R2 : ∀ s, s < 2 → ts_R (ts_n2 K s p) (ts_n2 N s p) (ts_k2 K' s p) (ts_n2 N' s p) := fun s hs2 => ts_R_n2 R hs2
    have W2 : ∀ s, s < 2 → ts_W (ts_n2 K s p) := fun s hs2 => ts_W_n2 W hs2 hp A
    by_cases T : ts_SX K N 0 p 2 p
    · by_cases L : nI a = lim
      · exact ts_F1_z (c1 := c) (cp1 := cp') R W (fun rost n h => tx_c3 hp (by omega) S F T (fun _ => h) (fun z => absurd L z)) (fun qost n h => ty_gx hp f2 htk S' F' (ty_137_0 hp (by omega) (S02.mpr T) (fun _ => ty_gz h) (fun z => absurd ((hl a (by omega)).mp L) z)))
      · exact ts_F1_up (NX (a + 1) c (ts_n2 K 0 p) (ts_n2 N 0 p) (ts_k2 K' 0 p) (ts_n2 N' 0 p) (upd ap' a (nI p)) (upd ad' a (nI 0)) cp' (by omega) (by omega) (R2 0 (by omega)) (W2 0 (by omega)) (ts_A_n2 A)) (fun rost n h => tx_c3 hp (by omega) S F T (fun z => absurd z L) (fun _ => h)) (fun qost n h => ty_gx hp f2 htk S' F' (ty_137_0 hp (by omega) (S02.mpr T) (fun z => absurd ((hl a (by omega)).mpr z) L) (fun _ => h)))
    have T' : ¬ ts_SY K' N' 0 p 2 p := fun z => T (S02.mp z)
    by_cases U : ts_SX K N 1 p 2 p
    · by_cases L : nI a = lim
      · exact ts_F1_z (c1 := c) (cp1 := cp') R W (fun rost n h => tx_c2 hp (by omega) S F T U (fun _ => h) (fun z => absurd L z)) (fun qost n h => ty_gx hp f2 htk S' F' (ty_137_1 hp (by omega) T' (S12.mpr U) (fun _ => ty_gz h) (fun z => absurd ((hl a (by omega)).mp L) z)))
      · exact ts_F1_up (NX (a + 1) c (ts_n2 K 1 p) (ts_n2 N 1 p) (ts_k2 K' 1 p) (ts_n2 N' 1 p) (upd ap' a (nI p)) (upd ad' a (nI 1)) cp' (by omega) (by omega) (R2 1 (by omega)) (W2 1 (by omega)) (ts_A_n2 A)) (fun rost n h => tx_c2 hp (by omega) S F T U (fun z => absurd z L) (fun _ => h)) (fun qost n h => ty_gx hp f2 htk S' F' (ty_137_1 hp (by omega) T' (S12.mpr U) (fun z => absurd ((hl a (by omega)).mpr z) L) (fun _ => h)))
    have U' : ¬ ts_SY K' N' 1 p 2 p := fun z => U (S12.mp z)
    rcases hpf with rfl | ⟨s, hs2, rfl⟩
    · exact ts_F1_up (NX a (c + 1) K N K' N' ap' ad' (upd cp' c (nI p)) (by omega) (by omega) R W A) (fun rost n h => tx_c4 hp (by omega) S F T U h) (fun qost n h => ty_gx hp f2 htk S' F' (ty_137_n hp (by omega) T' U' h))
    · by_cases L : nI a = lim
      · exact ts_F1_z (c1 := c + 1) (cp1 := upd cp' c (nI p)) R W (fun rost n h => tx_c5 hs2 hp (by omega) S F T U (fun _ => h) (fun z => absurd L z)) (fun qost n h => ty_gx hp f2 htk S' F' (ty_137_c hs2 hp (by omega) (by omega) T' U' (fun _ => ty_gz h) (fun z => absurd ((hl a (by omega)).mp L) z)))
      · exact ts_F1_up (NX (a + 1) (c + 1) (ts_n2 K s p) (ts_n2 N s p) (ts_k2 K' s p) (ts_n2 N' s p) (upd ap' a (nI p)) (upd ad' a (nI s)) (upd cp' c (nI p)) (by omega) (by omega) (R2 s hs2) (W2 s hs2) (ts_A_n2 A)) (fun rost n h => tx_c5 hs2 hp (by omega) S F T U (fun z => absurd z L) (fun _ => h)) (fun qost n h => ty_gx hp f2 htk S' F' (ty_137_c hs2 hp (by omega) (by omega) T' U' (fun z => absurd ((hl a (by omega)).mpr z) L) (fun _ => h)))
/-- both walks as a whole -/
theorem ts_step {ya yc : Int32} {K N K' N' tk ap' ad' cp' : Nat → Int32} (hl : ∀ a : Nat, a < 84 → (nI a = lim ↔ nI a = m)) (hpf : pf = -1 ∨ ∃ s : Nat, s < 2 ∧ pf = nI (1 - s)) (R : ts_R K N K' N') (W : ts_W K) : ∃ (r c2 : Nat) (KF NF KF' NF' tkF apF adF cpF : Nat → Int32), ts_R KF NF KF' NF' ∧ ts_W KF ∧
    (∀ rost : Int32 → SX → Prop, rost (nI r) (pf, xa, xc, KF, NF, kp, ap, ad, cp) → wpX_carryOut rost (pf, xa, xc, K, N, kp, ap, ad, cp) lim) ∧
    (∀ qost : SY → Prop, qost (pf, nI r, nI c2, KF', NF', kp, tkF, apF, adF, cpF) → wpY_goOver qost (pf, ya, yc, K', N', kp, tk, ap', ad', cp') m) := by
  obtain ⟨r, c2, KF, NF, KF', NF', tkF, apF, adF, cpF, RF, WF, hX, hY⟩ := ts_sim1 (xa := xa) (xc := xc) (kp := kp) (ap := ap) (ad := ad) (cp := cp) hl hpf 84 0 (by omega) (by omega) 0 0 0 K N K' N' (ts_t4 tk) ap' ad' cp' (by omega) (by omega) (by omega) R W (fun _ _ h => absurd h (by omega)) rfl (ts_pl_0 rfl rfl rfl)
  exact ⟨r, c2, KF, NF, KF', NF', tkF, apF, adF, cpF, RF, WF, fun rost h => ⟨85, hX rost 85 (by omega) h⟩, fun qost h => ty_start ⟨85, hY qost 85 (by omega) h⟩⟩
end
end
section
/-! X's plan, one turn, case by case; then plan against look -/
section
variable {qost : SX → Prop} {pf xa xc : Int32} {K N kp ap ad cp : Nat → Int32} {n p seen a c : Nat}
theorem tx_p0 (hp : p < 84) (hs : seen < 84) (S : ts_SX K N 0 p 1 p) (hW : wX_plan_14 qost pf n (ts_nxi p) (nI (seen + 1)) xa xc K N kp ap ad cp) : wX_plan_14 qost pf (n + 1) (nI p) (nI seen) xa xc K N kp ap ad cp := by
  refine br_f (nI_ge (b := 84) hs (by decide)) (tx_path_t hp (br_f (by decide) (tx_find0 hp S ?_)))
  refine br_f (by decide) (br_f (by decide) (br_f (by decide) ?_))
  exact br_t rfl (br_f (by decide) (br_f (by decide) (tx_after hp (nm_r (nI_1 seen) hW))))
theorem tx_p1 (hp : p < 84) (hs : seen < 84) (S : ¬ ts_SX K N 0 p 1 p) (F0 : K p = 2) (F1 : K (84 + p) = 2) (hW : wX_plan_14 qost pf n (nI (4 * p + 4)) (nI (seen + 1)) xa xc K N kp ap ad cp) : wX_plan_14 qost pf (n + 1) (nI p) (nI seen) xa xc K N kp ap ad cp := by
  refine br_f (nI_ge (b := 84) hs (by decide)) (tx_path_t hp (br_f (by decide) (tx_find1 hp S F0 F1 ?_)))
  refine br_f (by decide) (br_f (by decide) (br_f (by decide) ?_))
  exact br_t rfl (br_f (by decide) (br_t rfl (tx_first (nm_r (nI_1 seen) hW))))
theorem tx_p3 (hp : p < 84) (hs : seen < 84) (ha : a < 84) (S : ¬ ts_SX K N 0 p 1 p) (F : ¬ (K p = 2 ∧ K (84 + p) = 2)) (T : ts_SX K N 0 p 2 p) (hW : wX_plan_14 qost pf n (ts_nxi p) (nI (seen + 1)) (nI (a + 1)) xc K N kp (upd ap a (nI p)) (upd ad a (nI 0)) cp) : wX_plan_14 qost pf (n + 1) (nI p) (nI seen) (nI a) xc K N kp ap ad cp := by
  refine br_f (nI_ge (b := 84) hs (by decide)) (tx_path_t hp (br_f (by decide) (tx_find3 hp S F T ?_)))
  refine br_t rfl (br_f (by decide) ⟨vp_in_nI ha (by decide), nm_r (e' := upd ap a (nI p)) (by rw [nI_clamp (by omega)]) ⟨vp_in_nI ha (by decide), nm_r (e' := upd ad a (nI 0)) (by rw [nI_clamp (by omega)]; rfl) (nm_r (nI_1 a) ?_)⟩⟩)
  exact br_f (by decide) (br_f (by decide) (tx_after hp (nm_r (nI_1 seen) hW)))
theorem tx_p2 (hp : p < 84) (hs : seen < 84) (ha : a < 84) (S : ¬ ts_SX K N 0 p 1 p) (F : ¬ (K p = 2 ∧ K (84 + p) = 2)) (T : ¬ ts_SX K N 0 p 2 p) (U : ts_SX K N 1 p 2 p) (hW : wX_plan_14 qost pf n (ts_nxi p) (nI (seen + 1)) (nI (a + 1)) xc K N kp (upd ap a (nI p)) (upd ad a (nI 1)) cp) : wX_plan_14 qost pf (n + 1) (nI p) (nI seen) (nI a) xc K N kp ap ad cp := by
  refine br_f (nI_ge (b := 84) hs (by decide)) (tx_path_t hp (br_f (by decide) (tx_find2 hp S F T U ?_)))
  refine br_f (by decide) (br_t rfl (br_f (by decide) ⟨vp_in_nI ha (by decide), nm_r (e' := upd ap a (nI p)) (by rw [nI_clamp (by omega)]) ⟨vp_in_nI ha (by decide), nm_r (e' := upd ad a (nI 1)) (by rw [nI_clamp (by omega)]; rfl) (nm_r (nI_1 a) ?_)⟩⟩))
  exact br_f (by decide) (br_f (by decide) (tx_after hp (nm_r (nI_1 seen) hW)))
theorem tx_p4 (hp : p < 84) (hs : seen < 84) (hc : c < 84) (S : ¬ ts_SX K N 0 p 1 p) (F : ¬ (K p = 2 ∧ K (84 + p) = 2)) (T : ¬ ts_SX K N 0 p 2 p) (U : ¬ ts_SX K N 1 p 2 p) (hW : wX_plan_14 qost (-1) n (ts_nxi p) (nI (seen + 1)) xa (nI (c + 1)) K N kp ap ad (upd cp c (nI p))) : wX_plan_14 qost (-1) (n + 1) (nI p) (nI seen) xa (nI c) K N kp ap ad cp := by
  refine br_f (nI_ge (b := 84) hs (by decide)) (tx_path_t hp (br_f (by decide) (tx_find4 hp S F T U ?_)))
  refine br_f (by decide) (br_f (by decide) (br_t rfl (br_t rfl ?_)))
  refine br_t rfl (br_t rfl ⟨vp_in_nI hc (by decide), nm_r (e' := upd cp c (nI p)) (by rw [nI_clamp (by omega)]) (nm_r (nI_1 c) ?_)⟩)
  exact br_f (by decide) (tx_after hp (nm_r (nI_1 seen) hW))
theorem tx_p5 {s : Nat} (hs2 : s < 2) (hp : p < 84) (hs : seen < 84) (ha : a < 84) (hc : c < 84) (S : ¬ ts_SX K N 0 p 1 p) (F : ¬ (K p = 2 ∧ K (84 + p) = 2)) (T : ¬ ts_SX K N 0 p 2 p) (U : ¬ ts_SX K N 1 p 2 p) (hW : wX_plan_14 qost (nI (1 - s)) n (ts_nxi p) (nI (seen + 1)) (nI (a + 1)) (nI (c + 1)) K N kp (upd ap a (nI p)) (upd ad a (nI s)) (upd cp c (nI p))) : wX_plan_14 qost (nI (1 - s)) (n + 1) (nI p) (nI seen) (nI a) (nI c) K N kp ap ad cp := by
  refine br_f (nI_ge (b := 84) hs (by decide)) (tx_path_t hp (br_f (by decide) (tx_find4 hp S F T U ?_)))
  refine br_f (by decide) (br_f (by decide) (br_t rfl (br_f (ts_m1 (by omega)) ?_)))
  rw [ts_1s (show 1 - s < 2 by omega), show 1 - (1 - s) = s from by omega]
  refine br_f (ts_m1 (by omega)) ⟨vp_in_nI ha (by decide), nm_r (e' := upd ap a (nI p)) (by rw [nI_clamp (by omega)]) ⟨vp_in_nI ha (by decide), nm_r (e' := upd ad a (nI s)) (by rw [nI_clamp (by omega)]) (nm_r (nI_1 a) ?_)⟩⟩
  refine br_t rfl ⟨vp_in_nI hc (by decide), nm_r (e' := upd cp c (nI p)) (by rw [nI_clamp (by omega)]) (nm_r (nI_1 c) ?_)⟩
  exact br_f (by decide) (tx_after hp (nm_r (nI_1 seen) hW))
theorem tx_pz {P : Int32} (hP : P < 0) (h : qost (pf, xa, xc, K, N, kp, ap, ad, cp)) : wX_plan_14 qost pf (n + 1) P (nI seen) xa xc K N kp ap ad cp :=
  ⟨fun _ => h, fun _ => tx_path_f (Or.inl hP) (br_t rfl h)⟩
end
/-- from here both sides come to the same lists; Y's trees from 3 on are B and D -/
def ts_F2 (pf : Int32) (kp K N B D : Nat → Int32) (d a c : Nat) (P : Int32) (seen : Nat) (ap ad cp : Nat → Int32) (x : Int32) (K' N' tk ap' ad' cp' : Nat → Int32) : Prop :=
  ∃ (a2 c2 : Nat) (apF adF cpF KF' NF' tkF apG adG cpG : Nat → Int32), a2 ≤ 84 ∧ c2 ≤ 84 ∧ (∀ i, 252 ≤ i → KF' i = B i ∧ NF' i = D i) ∧ (∀ j, j < a2 → apG j = apF j ∧ adG j = adF j) ∧ (∀ j, j < c2 → cpG j = cpF j) ∧
    (∀ (qost : SX → Prop) (n : Nat), d < n → qost (pf, nI a2, nI c2, K, N, kp, apF, adF, cpF) → wX_plan_14 qost pf n P (nI seen) (nI a) (nI c) K N kp ap ad cp) ∧
    (∀ (qost : SY → Prop) (n : Nat), d < n → qost (pf, nI a2, nI c2, KF', NF', kp, tkF, apG, adG, cpG) → wY_goOver_34 qost 1000 n x pf (nI a) (nI c) K' N' kp tk ap' ad' cp')
theorem ts_F2_up {pf : Int32} {kp K N B D : Nat → Int32} {d a a1 seen seen1 c c1 : Nat} {P P1 x x1 : Int32} {ap ad cp K' N' tk ap' ad' cp' apX adX cpX K1' N1' tk1 ap1 ad1 cp1 : Nat → Int32} (F : ts_F2 pf kp K N B D d a1 c1 P1 seen1 apX adX cpX x1 K1' N1' tk1 ap1 ad1 cp1)
    (hX : ∀ (qost : SX → Prop) (n : Nat), wX_plan_14 qost pf n P1 (nI seen1) (nI a1) (nI c1) K N kp apX adX cpX → wX_plan_14 qost pf (n + 1) P (nI seen) (nI a) (nI c) K N kp ap ad cp)
    (hY : ∀ (qost : SY → Prop) (n : Nat), wY_goOver_34 qost 1000 n x1 pf (nI a1) (nI c1) K1' N1' kp tk1 ap1 ad1 cp1 → wY_goOver_34 qost 1000 (n + 1) x pf (nI a) (nI c) K' N' kp tk ap' ad' cp') :
    ts_F2 pf kp K N B D (d + 1) a c P seen ap ad cp x K' N' tk ap' ad' cp' := by
  obtain ⟨a2, c2, apF, adF, cpF, KF', NF', tkF, apG, adG, cpG, h1, h2, h3, h4, h5, gX, gY⟩ := F
  refine ⟨a2, c2, apF, adF, cpF, KF', NF', tkF, apG, adG, cpG, h1, h2, h3, h4, h5, fun qost n hn h => ?_, fun qost n hn h => ?_⟩
  · obtain ⟨n, rfl⟩ : ∃ n', n = n' + 1 := ⟨n - 1, by omega⟩
    exact hX qost n (gX qost n (by omega) h)
  · obtain ⟨n, rfl⟩ : ∃ n', n = n' + 1 := ⟨n - 1, by omega⟩
    exact hY qost n (gY qost n (by omega) h)
theorem ts_k0_fr {A : Nat → Int32} {p i : Nat} (h2 : ts_no 2 p i) : ts_k0 A p i = A i := by
  unfold ts_k0
  rw [ts_cp_fr h2 21 (by omega), ts_em_fr h2 21 (by omega)]
theorem ts_n2_fr {A : Nat → Int32} {s p i : Nat} (h : ts_no s p i) (h2 : ts_no 2 p i) : ts_n2 A s p i = A i := by
  unfold ts_n2
  rw [ts_cp_fr h2 21 (by omega), ts_cp_fr h 21 (by omega)]
theorem ts_k2_fr {A : Nat → Int32} {s p i : Nat} (h : ts_no s p i) (h2 : ts_no 2 p i) : ts_k2 A s p i = A i := by
  unfold ts_k2
  rw [ts_cp_fr h2 21 (by omega), ts_em_fr h2 21 (by omega), ts_cp_fr h 21 (by omega), ts_em_fr h 21 (by omega)]
theorem ts_no_ps {p q : Nat} (hp : p < 84) (hq : q < 84) (hn : ts_nx p < 84) (h : ts_ps (ts_nx p) ≤ ts_ps q) (u t : Nat) : ts_no u p (84 * t + q) := by
  intro j hj hc e
  obtain rfl : q = ts_ch p j := by omega
  have := (ts_f6 p hp j hj hc).2 hn
  omega
theorem ts_ne1000 {a : Nat} (ha : a < 84) : ¬ nI a = 1000 := fun z => by
  have := (nI_eq (a := a) (b := 1000) (by omega) (by omega)).mp z
  omega
theorem ts_ls {A B : Nat → Int32} {a : Nat} {x : Int32} (h : ∀ j, j < a → A j = B j) : ∀ j, j < a + 1 → upd A a x j = upd B a x j := by
  intro j hj
  by_cases e : j = a
  · subst e; rw [pk_us, pk_us]
  · rw [pk_un e, pk_un e]; exact h j (by omega)
end
section
/-! plan against look -/
section
variable {pf : Int32} {kp K N B D : Nat → Int32}
theorem ts_sim2 (hpf : pf = -1 ∨ ∃ s : Nat, s < 2 ∧ pf = nI (1 - s)) : ∀ d p : Nat, p < 84 → 84 ≤ ts_ps p + d → ∀ (a seen c : Nat) (ap ad cp K' N' tk ap' ad' cp' : Nat → Int32), a ≤ ts_ps p → seen ≤ ts_ps p → c ≤ ts_ps p → (∀ t q, t < 3 → q < 84 → ts_ps p ≤ ts_ps q → ts_C K N K' N' (84 * t + q)) → (∀ i, 252 ≤ i → K' i = B i ∧ N' i = D i) → (∀ j, j < a → ap' j = ap j) → (∀ j, j < a → ad' j = ad j) → (∀ j, j < c → cp' j = cp j) → tk (ts_ht p) = nI p → ts_pl tk (ts_ht p) p → ts_F2 pf kp K N B D d a c (nI p) seen ap ad cp (nI (ts_ht p + 1)) K' N' tk ap' ad' cp' := by
  intro d
  induction d with
  | zero =>
    intro p hp hd
    have := (ts_f1 p hp).1
    omega
  | succ d ih =>
    intro p hp hd a seen c ap ad cp K' N' tk ap' ad' cp' ha hs hc C O la ld lc htk hpl
    obtain ⟨f1, f2, f3⟩ := ts_f1 p hp
    have NX : ∀ (a1 c1 : Nat) (apX adX cpX K1' N1' ap1 ad1 cp1 : Nat → Int32), a1 ≤ ts_ps p + 1 → c1 ≤ ts_ps p + 1 → (∀ i, ts_no 0 p i → ts_no 1 p i → ts_no 2 p i → K1' i = K' i ∧ N1' i = N' i) → (∀ j, j < a1 → ap1 j = apX j) → (∀ j, j < a1 → ad1 j = adX j) → (∀ j, j < c1 → cp1 j = cpX j) → ts_F2 pf kp K N B D d a1 c1 (ts_nxi p) (seen + 1) apX adX cpX (nI (ts_ht p)) K1' N1' tk ap1 ad1 cp1 := by
      intro a1 c1 apX adX cpX K1' N1' ap1 ad1 cp1 ha1 hc1 E la1 ld1 lc1
      have O1 : ∀ i, 252 ≤ i → K1' i = B i ∧ N1' i = D i := fun i hi => by
        obtain ⟨e1, e2⟩ := E i (ts_no_t (by omega)) (ts_no_t (by omega)) (ts_no_t (by omega))
        rw [e1, e2]; exact O i hi
      rcases f3 with e | e
      · have h0 := ts_f3 p hp e
        rw [ts_nxi_f e, h0]
        refine ⟨a1, c1, apX, adX, cpX, K1', N1', tk, ap1, ad1, cp1, by omega, by omega, O1, fun j hj => ⟨la1 j hj, ld1 j hj⟩, lc1, fun qost n hn h => ?_, fun qost n hn h => ?_⟩
        · obtain ⟨n, rfl⟩ : ∃ n', n = n' + 1 := ⟨n - 1, by omega⟩
          exact tx_pz (by decide) h
        · obtain ⟨n, rfl⟩ : ∃ n', n = n' + 1 := ⟨n - 1, by omega⟩
          exact ty_gz h
      · obtain ⟨g1, g2⟩ := ts_f2 p hp e
        rw [g2] at hpl
        rw [ts_nxi_t e, g2]
        refine ih (ts_nx p) e (by omega) a1 (seen + 1) c1 apX adX cpX K1' N1' tk ap1 ad1 cp1 (by omega) (by omega) (by omega) (fun t q ht hq hps => ?_) O1 la1 ld1 lc1 hpl.1 hpl.2.2
        have nn := fun u => ts_no_ps hp hq e hps u t
        obtain ⟨e1, e2⟩ := E (84 * t + q) (nn 0) (nn 1) (nn 2)
        exact ts_C_c (C t q ht hq (by omega)) rfl rfl e1 e2
    have Cp : ∀ t, t < 3 → ∀ j, j < 21 → ts_ch p j < 84 → ts_C K N K' N' (84 * t + ts_ch p j) := fun t ht j hj hcj => C t _ ht hcj (ts_f6 p hp j hj hcj).1
    have S01 : ts_SY K' N' 0 p 1 p ↔ ts_SX K N 0 p 1 p := ts_S_iff (Cp 0 (by omega)) (Cp 1 (by omega))
    have S02 : ts_SY K' N' 0 p 2 p ↔ ts_SX K N 0 p 2 p := ts_S_iff (Cp 0 (by omega)) (Cp 2 (by omega))
    have S12 : ts_SY K' N' 1 p 2 p ↔ ts_SX K N 1 p 2 p := ts_S_iff (Cp 1 (by omega)) (Cp 2 (by omega))
    have C0 : ts_C K N K' N' p := by
      have := C 0 p (by omega) hp (Nat.le_refl _)
      rw [Nat.mul_zero, Nat.zero_add] at this
      exact this
    have C1 : ts_C K N K' N' (84 + p) := C 1 p (by omega) hp (Nat.le_refl _)
    have E0 := C0.1
    have E1 := C1.1
    by_cases S : ts_SX K N 0 p 1 p
    · exact ts_F2_up (NX a c ap ad cp (ts_k0 K' p) (ts_cp N' 0 p 2 p 21) ap' ad' cp' (by omega) (by omega) (fun i _ _ n2 => ⟨ts_k0_fr n2, ts_cp_fr n2 21 (by omega)⟩) la ld lc)
        (fun qost n h => tx_p0 hp (by omega) S h) (fun qost n h => ty_g0 hp f2 htk (S01.mpr S) h)
    have S' : ¬ ts_SY K' N' 0 p 1 p := fun z => S (S01.mp z)
    by_cases F : K p = 2 ∧ K (84 + p) = 2
    · obtain ⟨F0, F1⟩ := F
      have h20 : p < 20 := ts_20 hp C0 C1 F0 F1 S
      obtain ⟨g1, g2, _⟩ := ts_f4 p h20
      have hp1 : ts_pl (ts_tk tk (ts_ht p) p) (ts_ht p + 3) (4 * p + 4) := by
        refine ts_pl_push h20 hpl (fun i hi => ?_) ?_ ?_ ?_
        · unfold ts_tk; rw [pk_un (by omega), pk_un (by omega), pk_un (by omega), pk_un (by omega)]
        · unfold ts_tk; rw [pk_un (by omega), pk_un (by omega), pk_un (by omega), pk_us]
        · unfold ts_tk; rw [pk_un (by omega), pk_un (by omega), pk_us]
        · unfold ts_tk; rw [pk_un (by omega), pk_us]
      have hq1 : ts_tk tk (ts_ht p) p (ts_ht p + 3) = nI (4 * p + 4) := pk_us
      rw [← g2] at hp1 hq1
      have I := ih (4 * p + 4) (by omega) (by omega) a (seen + 1) c ap ad cp (upd K' (168 + p) 2) N' (ts_tk tk (ts_ht p) p) ap' ad' cp' (by omega) (by omega) (by omega)
        (fun t q ht hq hps => by
          have hne : q ≠ p := fun z => by subst z; omega
          exact ts_C_c (C t q ht hq (by omega)) rfl rfl (pk_un (by omega)) rfl)
        (fun i hi => ⟨(pk_un (by omega)).trans (O i hi).1, (O i hi).2⟩) la ld lc hq1 hp1
      rw [g2] at I
      exact ts_F2_up I (fun qost n h => tx_p1 hp (by omega) S F0 F1 h) (fun qost n h => ty_g1 h20 f2 htk S' (E0.trans F0) (E1.trans F1) h)
    have F' : ¬ (K' p = 2 ∧ K' (84 + p) = 2) := fun z => F ⟨E0.symm.trans z.1, E1.symm.trans z.2⟩
    have L : ¬ nI a = 1000 := ts_ne1000 (by omega)
    by_cases T : ts_SX K N 0 p 2 p
    · exact ts_F2_up (NX (a + 1) c (upd ap a (nI p)) (upd ad a (nI 0)) cp (ts_k2 K' 0 p) (ts_n2 N' 0 p) (upd ap' a (nI p)) (upd ad' a (nI 0)) cp' (by omega) (by omega) (fun i n0 _ n2 => ⟨ts_k2_fr n0 n2, ts_n2_fr n0 n2⟩) (ts_ls la) (ts_ls ld) lc) (fun qost n h => tx_p3 hp (by omega) (by omega) S F T h) (fun qost n h => ty_gx hp f2 htk S' F' (ty_137_0 hp (by omega) (S02.mpr T) (fun z => absurd z L) (fun _ => h)))
    have T' : ¬ ts_SY K' N' 0 p 2 p := fun z => T (S02.mp z)
    by_cases U : ts_SX K N 1 p 2 p
    · exact ts_F2_up (NX (a + 1) c (upd ap a (nI p)) (upd ad a (nI 1)) cp (ts_k2 K' 1 p) (ts_n2 N' 1 p) (upd ap' a (nI p)) (upd ad' a (nI 1)) cp' (by omega) (by omega) (fun i _ n1 n2 => ⟨ts_k2_fr n1 n2, ts_n2_fr n1 n2⟩) (ts_ls la) (ts_ls ld) lc) (fun qost n h => tx_p2 hp (by omega) (by omega) S F T U h) (fun qost n h => ty_gx hp f2 htk S' F' (ty_137_1 hp (by omega) T' (S12.mpr U) (fun z => absurd z L) (fun _ => h)))
    have U' : ¬ ts_SY K' N' 1 p 2 p := fun z => U (S12.mp z)
    rcases hpf with rfl | ⟨s, hs2, rfl⟩
    · exact ts_F2_up (NX a (c + 1) ap ad (upd cp c (nI p)) K' N' ap' ad' (upd cp' c (nI p)) (by omega) (by omega) (fun i _ _ _ => ⟨rfl, rfl⟩) la ld (ts_ls lc)) (fun qost n h => tx_p4 hp (by omega) (by omega) S F T U h) (fun qost n h => ty_gx hp f2 htk S' F' (ty_137_n hp (by omega) T' U' h))
    · have hno : ∀ i, ts_no 0 p i → ts_no 1 p i → ts_no s p i := fun i n0 n1 => by
        obtain rfl | rfl : s = 0 ∨ s = 1 := by omega
        · exact n0
        · exact n1
      exact ts_F2_up (NX (a + 1) (c + 1) (upd ap a (nI p)) (upd ad a (nI s)) (upd cp c (nI p)) (ts_k2 K' s p) (ts_n2 N' s p) (upd ap' a (nI p)) (upd ad' a (nI s)) (upd cp' c (nI p)) (by omega) (by omega) (fun i n0 n1 n2 => ⟨ts_k2_fr (hno i n0 n1) n2, ts_n2_fr (hno i n0 n1) n2⟩) (ts_ls la) (ts_ls ld) (ts_ls lc)) (fun qost n h => tx_p5 hs2 hp (by omega) (by omega) (by omega) S F T U h) (fun qost n h => ty_gx hp f2 htk S' F' (ty_137_c hs2 hp (by omega) (by omega) T' U' (fun z => absurd z L) (fun _ => h)))
end
/-! look: the trees aside and back -/
def ts_b3 (A : Nat → Int32) : Nat → Int32 := ts_ct (ts_ct (ts_ct A 0 6 84) 1 7 84) 2 8 84
def ts_b4 (A : Nat → Int32) : Nat → Int32 := ts_ct (ts_ct (ts_ct A 6 0 84) 7 1 84) 8 2 84
theorem ts_b3_lo {A : Nat → Int32} {i : Nat} (hi : i < 504) : ts_b3 A i = A i := by
  unfold ts_b3
  rw [ts_ct_fr (fun m hm => by omega) 84 (by omega), ts_ct_fr (fun m hm => by omega) 84 (by omega), ts_ct_fr (fun m hm => by omega) 84 (by omega)]
theorem ts_b3_6 {A : Nat → Int32} {c : Nat} (hc : c < 84) : ts_b3 A (84 * 6 + c) = A (84 * 0 + c) := by
  unfold ts_b3
  rw [ts_ct_fr (fun m hm => by omega) 84 (by omega), ts_ct_fr (fun m hm => by omega) 84 (by omega), ts_ct_tg (by omega) 84 (by omega) hc]
theorem ts_b3_7 {A : Nat → Int32} {c : Nat} (hc : c < 84) : ts_b3 A (84 * 7 + c) = A (84 * 1 + c) := by
  unfold ts_b3
  rw [ts_ct_fr (fun m hm => by omega) 84 (by omega), ts_ct_tg (by omega) 84 (by omega) hc, ts_ct_fr (fun m hm => by omega) 84 (by omega)]
theorem ts_b3_8 {A : Nat → Int32} {c : Nat} (hc : c < 84) : ts_b3 A (84 * 8 + c) = A (84 * 2 + c) := by
  unfold ts_b3
  rw [ts_ct_tg (by omega) 84 (by omega) hc, ts_ct_fr (fun m hm => by omega) 84 (by omega), ts_ct_fr (fun m hm => by omega) 84 (by omega)]
theorem ts_b4_lo {A F : Nat → Int32} (h : ∀ i, 252 ≤ i → F i = ts_b3 A i) {i : Nat} (hi : i < 504) : ts_b4 F i = A i := by
  by_cases h0 : i < 84
  · obtain ⟨c, rfl⟩ : ∃ c, i = 84 * 0 + c := ⟨i, by omega⟩
    unfold ts_b4
    rw [ts_ct_fr (fun m hm => by omega) 84 (by omega), ts_ct_fr (fun m hm => by omega) 84 (by omega), ts_ct_tg (by omega) 84 (by omega) (by omega), h _ (by omega), ts_b3_6 (by omega)]
  · by_cases h1 : i < 168
    · obtain ⟨c, rfl⟩ : ∃ c, i = 84 * 1 + c := ⟨i - 84, by omega⟩
      unfold ts_b4
      rw [ts_ct_fr (fun m hm => by omega) 84 (by omega), ts_ct_tg (by omega) 84 (by omega) (by omega), ts_ct_fr (fun m hm => by omega) 84 (by omega), h _ (by omega), ts_b3_7 (by omega)]
    · by_cases h2 : i < 252
      · obtain ⟨c, rfl⟩ : ∃ c, i = 84 * 2 + c := ⟨i - 168, by omega⟩
        unfold ts_b4
        rw [ts_ct_tg (by omega) 84 (by omega) (by omega), ts_ct_fr (fun m hm => by omega) 84 (by omega), ts_ct_fr (fun m hm => by omega) 84 (by omega), h _ (by omega), ts_b3_8 (by omega)]
      · unfold ts_b4
        rw [ts_ct_fr (fun m hm => by omega) 84 (by omega), ts_ct_fr (fun m hm => by omega) 84 (by omega), ts_ct_fr (fun m hm => by omega) 84 (by omega), h _ (by omega), ts_b3_lo hi]
section
variable {qost : SY → Prop} {yf ya yc : Int32} {K N kp tk ap ad cp : Nat → Int32}
theorem ty_lk {t n : Nat} (ht : t < 3) (h : wY_look_2 qost n (nI (t + 1)) yf ya yc (ts_ct K t (6 + t) 84) (ts_ct N t (6 + t) 84) kp tk ap ad cp) : wY_look_2 qost (n + 1) (nI t) yf ya yc K N kp tk ap ad cp := by
  have e : (6 : Int32) + nI t = nI (6 + t) := nI_add 6 t
  refine br_f (nI_ge (b := 3) ht (by decide)) ?_
  rw [e]
  exact ty_copyTree (by omega) (by omega) (nm_r (nI_1 t) h)
theorem ty_lk' {t n : Nat} (ht : t < 3) (h : wY_look_31 qost n (nI (t + 1)) yf ya yc (ts_ct K (6 + t) t 84) (ts_ct N (6 + t) t 84) kp tk ap ad cp) : wY_look_31 qost (n + 1) (nI t) yf ya yc K N kp tk ap ad cp := by
  have e : (6 : Int32) + nI t = nI (6 + t) := nI_add 6 t
  refine br_f (nI_ge (b := 3) ht (by decide)) ?_
  rw [e]
  exact ty_copyTree (by omega) (by omega) (nm_r (nI_1 t) h)
end
theorem ts_look {pf xa xc ya yc : Int32} {K N kp ap ad cp K' N' tk ap' ad' cp' : Nat → Int32} (hpf : pf = -1 ∨ ∃ s : Nat, s < 2 ∧ pf = nI (1 - s)) (R : ts_R K N K' N') : ∃ (a2 c2 : Nat) (apF adF cpF KF' NF' tkF apG adG cpG : Nat → Int32), a2 ≤ 84 ∧ c2 ≤ 84 ∧ ts_R K N KF' NF' ∧ (∀ j, j < a2 → apG j = apF j ∧ adG j = adF j) ∧ (∀ j, j < c2 → cpG j = cpF j) ∧
    (∀ qost : SX → Prop, qost (pf, nI a2, nI c2, K, N, kp, apF, adF, cpF) → wpX_plan qost (pf, xa, xc, K, N, kp, ap, ad, cp)) ∧
    (∀ qost : SY → Prop, qost (pf, nI a2, nI c2, KF', NF', kp, tkF, apG, adG, cpG) → wpY_look qost (pf, ya, yc, K', N', kp, tk, ap', ad', cp')) := by
  obtain ⟨a2, c2, apF, adF, cpF, KF', NF', tkF, apG, adG, cpG, h1, h2, h3, h4, h5, gX, gY⟩ := ts_sim2 (kp := kp) (K := K) (N := N) (B := ts_b3 K') (D := ts_b3 N') hpf 84 0 (by omega) (by omega) 0 0 0 ap ad cp (ts_b3 K') (ts_b3 N') (ts_t4 tk) ap' ad' cp' (by omega) (by omega) (by omega) (fun t q ht hq _ => ts_C_c (R (84 * t + q) (by omega)) rfl rfl (ts_b3_lo (by omega)) (ts_b3_lo (by omega))) (fun i _ => ⟨rfl, rfl⟩) (fun j hj => absurd hj (by omega)) (fun j hj => absurd hj (by omega)) (fun j hj => absurd hj (by omega)) rfl (ts_pl_0 rfl rfl rfl)
  refine ⟨a2, c2, apF, adF, cpF, ts_b4 KF', ts_b4 NF', tkF, apG, adG, cpG, h1, h2, fun i hi => ts_C_c (R i hi) rfl rfl (ts_b4_lo (fun i hi => (h3 i hi).1) hi) (ts_b4_lo (fun i hi => (h3 i hi).2) hi), h4, h5, fun qost h => ⟨85, gX qost 85 (by omega) h⟩, fun qost h => ?_⟩
  refine ⟨4, ty_lk (t := 0) (by omega) (ty_lk (t := 1) (by omega) (ty_lk (t := 2) (by omega) (br_t (by decide) (ty_start ⟨85, gY _ 85 (by omega) ?_⟩))))⟩
  exact ⟨4, ty_lk' (t := 0) (by omega) (ty_lk' (t := 1) (by omega) (ty_lk' (t := 2) (by omega) (br_t (by decide) h)))⟩
end
section
/-! the relation; the constructors; the methods that only read -/
def i_Rel (_ : Nat) (u : SX) (v : SY) : Prop := ∃ (pf xa xc ya yc : Int32) (K N kp ap ad cp K' N' tk ap' ad' cp' : Nat → Int32), u = (pf, xa, xc, K, N, kp, ap, ad, cp) ∧ v = (pf, ya, yc, K', N', kp, tk, ap', ad', cp') ∧ (pf = -1 ∨ ∃ s : Nat, s < 2 ∧ pf = nI (1 - s)) ∧ ts_R K N K' N' ∧ ts_W K
theorem i_up {k : Nat} {u : SX} {v : SY} (h : i_Rel k u v) : i_Rel (k + 4) u v := h
theorem ts_mk {k : Nat} {pf xa xc ya yc : Int32} {K N kp ap ad cp K' N' tk ap' ad' cp' : Nat → Int32} (hpf : pf = -1 ∨ ∃ s : Nat, s < 2 ∧ pf = nI (1 - s)) (R : ts_R K N K' N') (W : ts_W K) : i_Rel k (pf, xa, xc, K, N, kp, ap, ad, cp) (pf, ya, yc, K', N', kp, tk, ap', ad', cp') :=
  ⟨pf, xa, xc, ya, yc, K, N, kp, ap, ad, cp, K', N', tk, ap', ad', cp', rfl, rfl, hpf, R, W⟩
theorem i_vc0 : wpX_init (fun u => wpY_init (fun v => i_Rel 0 u v)) :=
  ts_mk (k := 0) (Or.inl rfl) (fun _ _ => ts_C_z rfl rfl rfl) (fun _ _ _ _ _ _ h => absurd rfl h)
theorem i_vc_kind {k : Nat} {u : SX} {v : SY} (I : i_Rel k u v) (hk : k + 4 ≤ 2048) (v1 : Int32) (v2 : Int32) : wpX_kind (fun r => wpY_kind (fun r' => r' = r ∧ i_Rel (k + 4) u v) v v1 v2) u v1 v2 := by
  have J := i_up I
  obtain ⟨pf, xa, xc, ya, yc, K, N, kp, ap, ad, cp, K', N', tk, ap', ad', cp', rfl, rfl, hpf, R, W⟩ := I
  unfold wpX_kind wpY_kind
  rcases ts_side v1 with ⟨s, hs, rfl⟩ | ⟨n0, n1⟩
  · rcases ts_path v2 with ⟨p, hp, rfl⟩ | hb
    · refine tx_side_t hs (br_f (by decide) (tx_path_t hp (br_f (by decide) (tx_kindAt (by omega) (by omega) ?_))))
      rw [ts_rd_t hp]
      exact ty_side_t hs (br_f (by decide) (ty_path_t hp (br_f (by decide) (ty_kindAt (by omega) hp ⟨(R _ (by omega)).1, J⟩))))
    · exact tx_side_t hs (br_f (by decide) (tx_path_f hb (br_t rfl (ty_side_t hs (br_f (by decide) (ty_path_f hb (br_t rfl ⟨rfl, J⟩)))))))
  · exact tx_side_f n0 n1 (br_t rfl (ty_side_f n0 n1 (br_t rfl ⟨rfl, J⟩)))
theorem i_vc_number {k : Nat} {u : SX} {v : SY} (I : i_Rel k u v) (hk : k + 4 ≤ 2048) (v1 : Int32) (v2 : Int32) : wpX_number (fun r => wpY_number (fun r' => r' = r ∧ i_Rel (k + 4) u v) v v1 v2) u v1 v2 := by
  have J := i_up I
  obtain ⟨pf, xa, xc, ya, yc, K, N, kp, ap, ad, cp, K', N', tk, ap', ad', cp', rfl, rfl, hpf, R, W⟩ := I
  unfold wpX_number wpY_number
  rcases ts_side v1 with ⟨s, hs, rfl⟩ | ⟨n0, n1⟩
  · rcases ts_path v2 with ⟨p, hp, rfl⟩ | hb
    · have C := R (84 * s + p) (by omega)
      refine tx_side_t hs (br_f (by decide) (tx_path_t hp (br_f (by decide) (tx_kindAt (by omega) (by omega) ?_))))
      rw [ts_rd_t hp]
      by_cases z : K (84 * s + p) = 1
      · refine br_t z (tx_numberAt (by omega) (by omega) ?_)
        rw [ts_rd_t hp]
        refine ty_side_t hs (br_f (by decide) (ty_path_t hp (br_f (by decide) (ty_kindAt (by omega) hp (br_t (C.1.trans z) ⟨ts_yin (by omega) hp, ?_⟩)))))
        rw [ts_ycl (by omega) hp]
        exact ⟨(ts_C_1 C z).symm, J⟩
      · exact br_f z (ty_side_t hs (br_f (by decide) (ty_path_t hp (br_f (by decide) (ty_kindAt (by omega) hp (br_f (fun y => z (C.1.symm.trans y)) ⟨rfl, J⟩))))))
    · exact tx_side_t hs (br_f (by decide) (tx_path_f hb (br_t rfl (ty_side_t hs (br_f (by decide) (ty_path_f hb (br_t rfl ⟨rfl, J⟩)))))))
  · exact tx_side_f n0 n1 (br_t rfl (ty_side_f n0 n1 (br_t rfl ⟨rfl, J⟩)))
theorem i_vc_lastKind {k : Nat} {u : SX} {v : SY} (I : i_Rel k u v) (hk : k + 4 ≤ 2048) (v1 : Int32) : wpX_lastKind (fun r => wpY_lastKind (fun r' => r' = r ∧ i_Rel (k + 4) u v) v v1) u v1 := by
  have J := i_up I
  obtain ⟨pf, xa, xc, ya, yc, K, N, kp, ap, ad, cp, K', N', tk, ap', ad', cp', rfl, rfl, hpf, R, W⟩ := I
  unfold wpX_lastKind wpY_lastKind
  rcases ts_path v1 with ⟨p, hp, rfl⟩ | hb
  · refine tx_path_t hp (br_f (by decide) (tx_kindAt (t := 2) (by omega) (by omega) ?_))
    rw [ts_rd_t hp]
    exact ty_path_t hp (br_f (by decide) (ty_kindAt (t := 2) (by omega) hp ⟨(R _ (by omega)).1, J⟩))
  · exact tx_path_f hb (br_t rfl (ty_path_f hb (br_t rfl ⟨rfl, J⟩)))
theorem i_vc_size {k : Nat} {u : SX} {v : SY} (I : i_Rel k u v) (hk : k + 4 ≤ 2048) (v1 : Int32) : wpX_size (fun r => wpY_size (fun r' => r' = r ∧ i_Rel (k + 4) u v) v v1) u v1 := by
  have J := i_up I
  obtain ⟨pf, xa, xc, ya, yc, K, N, kp, ap, ad, cp, K', N', tk, ap', ad', cp', rfl, rfl, hpf, R, W⟩ := I
  unfold wpX_size wpY_size
  rcases ts_side v1 with ⟨s, hs, rfl⟩ | ⟨n0, n1⟩
  · refine tx_side_t hs (br_f (by decide) (tx_size (by omega) (ty_side_t hs (br_f (by decide) (ty_count (by omega) ⟨?_, J⟩)))))
    rw [ts_cz_c 84 (fun i hi => (R (84 * s + i) (by omega)).1)]
  · exact tx_side_f n0 n1 (br_t rfl (ty_side_f n0 n1 (br_t rfl ⟨rfl, J⟩)))
theorem i_vc_changed {k : Nat} {u : SX} {v : SY} (I : i_Rel k u v) (hk : k + 4 ≤ 2048) (v1 : Int32) : wpX_changed (fun r => wpY_changed (fun r' => r' = r ∧ i_Rel (k + 4) u v) v v1) u v1 := by
  have J := i_up I
  obtain ⟨pf, xa, xc, ya, yc, K, N, kp, ap, ad, cp, K', N', tk, ap', ad', cp', rfl, rfl, hpf, R, W⟩ := I
  unfold wpX_changed wpY_changed
  rcases ts_side v1 with ⟨s, hs, rfl⟩ | ⟨n0, n1⟩
  · refine tx_side_t hs (br_f (by decide) (tx_diff (u := 2) (by omega) (by omega) (ty_side_t hs (br_f (by decide) ⟨85, ty_changed_l (by omega) ⟨?_, J⟩ 84 0 rfl⟩))))
    rw [ts_cq_c 84 (fun i hi => not_congr (ts_L_iff (R (84 * s + i) (by omega)) (R (84 * 2 + i) (by omega))))]
  · exact tx_side_f n0 n1 (br_t rfl (ty_side_f n0 n1 (br_t rfl ⟨rfl, J⟩)))
theorem i_vc_same {k : Nat} {u : SX} {v : SY} (I : i_Rel k u v) (hk : k + 4 ≤ 2048) : wpX_same (fun r => wpY_same (fun r' => r' = r ∧ i_Rel (k + 4) u v) v) u := by
  have J := i_up I
  obtain ⟨pf, xa, xc, ya, yc, K, N, kp, ap, ad, cp, K', N', tk, ap', ad', cp', rfl, rfl, hpf, R, W⟩ := I
  unfold wpX_same wpY_same
  refine tx_diff (t := 0) (u := 1) (by omega) (by omega) ?_
  have L : ∀ i, i < 84 → ((K' (84 * 0 + i) = K' (84 * 1 + i) ∧ (K' (84 * 0 + i) = 1 → N' (84 * 0 + i) = N' (84 * 1 + i))) ↔ (K (84 * 0 + i) = K (84 * 1 + i) ∧ N (84 * 0 + i) = N (84 * 1 + i))) := fun i hi => ts_L_iff (R (84 * 0 + i) (by omega)) (R (84 * 1 + i) (by omega))
  have le := ts_cq_le (fun i => ¬ (K (84 * 0 + i) = K (84 * 1 + i) ∧ N (84 * 0 + i) = N (84 * 1 + i))) 84
  by_cases z : ts_cq (fun i => ¬ (K (84 * 0 + i) = K (84 * 1 + i) ∧ N (84 * 0 + i) = N (84 * 1 + i))) 84 = 0
  · rw [z]
    have z2 := (ts_cq_0 84).mp z
    refine br_t rfl ⟨85, ty_same2_l (fun _ => ⟨rfl, J⟩) (fun y => absurd (fun i hi => (L i hi).mpr (Classical.not_not.mp (z2 i hi))) y) 84 0 rfl (fun i hi => absurd hi (by omega))⟩
  · refine br_f (nI_ne0 (by omega) (by omega)) ⟨85, ty_same2_l (fun y => absurd ((ts_cq_0 84).mpr fun i hi q => q ((L i hi).mp (y i hi))) z) (fun _ => ⟨rfl, J⟩) 84 0 rfl (fun i hi => absurd hi (by omega))⟩
/-! twins -/
section
variable {post : Int32 → Prop} {xf xa xc yf ya yc : Int32} {K N kp tk ap ad cp : Nat → Int32}
theorem tx_twins_l {s p : Nat} (hs : s < 2) (hp : p < 84) (h : post (nI (ts_cq (fun q => q ≠ p ∧ ts_SX K N s p s q) 84))) : ∀ d q : Nat, q + d = 84 → wX_twins_33 post (nI s) (nI p) xf xa xc K N kp ap ad cp (d + 1) (nI (ts_cq (fun q => q ≠ p ∧ ts_SX K N s p s q) q)) (nI q) := by
  intro d
  induction d with
  | zero =>
    intro q hq
    obtain rfl : q = 84 := by omega
    exact br_t (nI_le (a := 84) (b := 84) (Nat.le_refl _) (by decide)) h
  | succ d ih =>
    intro q hq
    have i := ih (q + 1) (by omega)
    refine br_f (nI_ge (b := 84) (by omega) (by decide)) (pk_eq q p (fun e => ?_) (fun e => ?_))
    · rw [ts_cq_f (fun y => y.1 e)] at i
      exact nm_r (nI_1 q) i
    · refine tx_same (by omega) hp (by omega) (by omega) (fun S => ?_) (fun S => ?_)
      · rw [ts_cq_t ⟨e, S⟩] at i
        exact br_f (by decide) (nm_r (nI_1 _) (nm_r (nI_1 q) i))
      · rw [ts_cq_f (fun y => S y.2)] at i
        exact br_t rfl (nm_r (nI_1 q) i)
theorem ty_twins_l {s p : Nat} (hs : s < 2) (hp : p < 84) (h : post (nI (ts_cq (fun q => q ≠ p ∧ K (84 * s + p) ≠ 0 ∧ ts_SY K N s p s q) 84))) : ∀ d q : Nat, q + d = 84 → wY_twins_24 post (nI s) (nI p) yf ya yc K N kp tk ap ad cp (d + 1) (nI (ts_cq (fun q => q ≠ p ∧ K (84 * s + p) ≠ 0 ∧ ts_SY K N s p s q) q)) (nI q) := by
  intro d
  induction d with
  | zero =>
    intro q hq
    obtain rfl : q = 84 := by omega
    exact br_t (nI_le (a := 84) (b := 84) (Nat.le_refl _) (by decide)) h
  | succ d ih =>
    intro q hq
    have i := ih (q + 1) (by omega)
    refine br_f (nI_ge (b := 84) (by omega) (by decide)) (pk_eq q p (fun e => ?_) (fun e => ?_))
    · rw [ts_cq_f (fun y => y.1 e)] at i
      exact nm_r (nI_1 q) i
    · refine ty_kindAt (by omega) hp ?_
      by_cases z : K (84 * s + p) = 0
      · rw [ts_cq_f (fun y => y.2.1 z)] at i
        exact br_t z (nm_r (nI_1 q) i)
      · refine br_f z (ty_same (by omega) hp (by omega) (by omega) (fun S => ?_) (fun S => ?_))
        · rw [ts_cq_t ⟨e, z, S⟩] at i
          exact br_f (by decide) (nm_r (nI_1 _) (nm_r (nI_1 q) i))
        · rw [ts_cq_f (fun y => S y.2.2)] at i
          exact br_t rfl (nm_r (nI_1 q) i)
end
theorem i_vc_twins {k : Nat} {u : SX} {v : SY} (I : i_Rel k u v) (hk : k + 4 ≤ 2048) (v1 : Int32) (v2 : Int32) : wpX_twins (fun r => wpY_twins (fun r' => r' = r ∧ i_Rel (k + 4) u v) v v1 v2) u v1 v2 := by
  have J := i_up I
  obtain ⟨pf, xa, xc, ya, yc, K, N, kp, ap, ad, cp, K', N', tk, ap', ad', cp', rfl, rfl, hpf, R, W⟩ := I
  unfold wpX_twins wpY_twins
  rcases ts_side v1 with ⟨s, hs, rfl⟩ | ⟨n0, n1⟩
  · rcases ts_path v2 with ⟨p, hp, rfl⟩ | hb
    · have E := (R (84 * s + p) (by omega)).1
      refine tx_side_t hs (br_f (by decide) (tx_path_t hp (br_f (by decide) (tx_kindAt (by omega) (by omega) ?_))))
      rw [ts_rd_t hp]
      by_cases z : K (84 * s + p) = 0
      · refine br_t z (ty_side_t hs (br_f (by decide) (ty_path_t hp (br_f (by decide) ⟨85, ty_twins_l hs hp ⟨?_, J⟩ 84 0 rfl⟩))))
        rw [(ts_cq_0 84).mpr (fun i _ y => y.2.1 (E.trans z))]; rfl
      · refine br_f z ⟨85, tx_twins_l hs hp ?_ 84 0 rfl⟩
        refine ty_side_t hs (br_f (by decide) (ty_path_t hp (br_f (by decide) ⟨85, ty_twins_l hs hp ⟨?_, J⟩ 84 0 rfl⟩)))
        refine congrArg nI (ts_cq_c 84 fun q hq => ?_)
        have S := ts_S_R R (t := s) (p := p) (u := s) (q := q) (by omega) (by omega)
        exact ⟨fun y => ⟨y.1, S.mp y.2.2⟩, fun y => ⟨y.1, fun w => z (E.symm.trans w), S.mpr y.2⟩⟩
    · exact tx_side_t hs (br_f (by decide) (tx_path_f hb (br_t rfl (ty_side_t hs (br_f (by decide) (ty_path_f hb (br_t rfl ⟨rfl, J⟩)))))))
  · exact tx_side_f n0 n1 (br_t rfl (ty_side_f n0 n1 (br_t rfl ⟨rfl, J⟩)))
end
section
/-! write, folder, remove, move, copy -/
theorem i_vc_write {k : Nat} {u : SX} {v : SY} (I : i_Rel k u v) (hk : k + 4 ≤ 2048) (v1 : Int32) (v2 : Int32) (v3 : Int32) : wpX_write (fun r u' => wpY_write (fun r' v' => r' = r ∧ i_Rel (k + 4) u' v') v v1 v2 v3) u v1 v2 v3 := by
  have J := i_up I
  obtain ⟨pf, xa, xc, ya, yc, K, N, kp, ap, ad, cp, K', N', tk, ap', ad', cp', rfl, rfl, hpf, R, W⟩ := I
  unfold wpX_write wpY_write
  rcases ts_side v1 with ⟨s, hs, rfl⟩ | ⟨n0, n1⟩
  · rcases ts_path v2 with ⟨p, hp, rfl⟩ | hb
    · have C := R (84 * s + p) (by omega)
      have EF : (4 ≤ p → K' (84 * s + (p / 4 - 1)) = 2) ↔ (4 ≤ p → K (84 * s + (p / 4 - 1)) = 2) := by rw [(R (84 * s + (p / 4 - 1)) (by omega)).1]
      refine tx_side_t hs (br_f (by decide) (tx_path_t hp (br_f (by decide) (tx_folder (by omega) hp (fun F => ?_) (fun F => br_t rfl ?_)))))
      · refine br_f (by decide) (tx_kindAt (by omega) (by omega) ?_)
        rw [ts_rd_t hp]
        by_cases c2 : K (84 * s + p) = 2
        · exact br_t c2 (ty_side_t hs (br_f (by decide) (ty_path_t hp (br_f (by decide) (ty_parent (by omega) hp (fun _ => br_f (by decide) (ty_kindAt (by omega) hp (br_t (C.1.trans c2) ⟨rfl, J⟩))) (fun z => absurd (EF.mpr F) z))))))
        · have RR : ts_R (upd K (84 * s + p) 1) (upd N (84 * s + p) v3) (upd K' (84 * s + p) 1) (upd N' (84 * s + p) v3) := ts_R_up R (Or.inr (Or.inl rfl)) (y := v3) (by rw [pk_us, if_pos rfl]) (fun _ => pk_us) (fun j hj => pk_un hj) (fun j hj => pk_un hj)
          have JJ : i_Rel (k + 4) (pf, xa, xc, upd K (84 * s + p) 1, upd N (84 * s + p) v3, kp, ap, ad, cp) (pf, ya, yc, upd K' (84 * s + p) 1, upd N' (84 * s + p) v3, kp, tk, ap', ad', cp') := ts_mk hpf RR (ts_W_up W 1 hp c2 F)
          refine br_f c2 (tx_setEntry (by omega) (by omega) ?_)
          rw [ts_st_t hp, ts_st_t hp]
          rcases C.2.1 with c0 | c1 | c3
          · refine br_f (by rw [c0]; decide) (ty_side_t hs (br_f (by decide) (ty_path_t hp (br_f (by decide) (ty_parent (by omega) hp (fun _ => br_f (by decide) (ty_kindAt (by omega) hp (br_f (by rw [C.1]; exact c2) ⟨ts_yin (by omega) hp, ?_⟩))) (fun z => absurd (EF.mpr F) z))))))
            exact nm_r (e' := upd K' (84 * s + p) 1) (by rw [ts_ycl (by omega) hp]) ⟨ts_yin (by omega) hp, nm_r (e' := upd N' (84 * s + p) v3) (by rw [ts_ycl (by omega) hp]) ⟨C.1.trans c0, JJ⟩⟩
          · refine br_t c1 (ty_side_t hs (br_f (by decide) (ty_path_t hp (br_f (by decide) (ty_parent (by omega) hp (fun _ => br_f (by decide) (ty_kindAt (by omega) hp (br_f (by rw [C.1]; exact c2) ⟨ts_yin (by omega) hp, ?_⟩))) (fun z => absurd (EF.mpr F) z))))))
            exact nm_r (e' := upd K' (84 * s + p) 1) (by rw [ts_ycl (by omega) hp]) ⟨ts_yin (by omega) hp, nm_r (e' := upd N' (84 * s + p) v3) (by rw [ts_ycl (by omega) hp]) ⟨C.1.trans c1, JJ⟩⟩
          · exact absurd c3 c2
      · exact ty_side_t hs (br_f (by decide) (ty_path_t hp (br_f (by decide) (ty_parent (by omega) hp (fun z => absurd (EF.mp z) F) (fun _ => br_t rfl ⟨rfl, J⟩)))))
    · exact tx_side_t hs (br_f (by decide) (tx_path_f hb (br_t rfl (ty_side_t hs (br_f (by decide) (ty_path_f hb (br_t rfl ⟨rfl, J⟩)))))))
  · exact tx_side_f n0 n1 (br_t rfl (ty_side_f n0 n1 (br_t rfl ⟨rfl, J⟩)))
theorem i_vc_folder {k : Nat} {u : SX} {v : SY} (I : i_Rel k u v) (hk : k + 4 ≤ 2048) (v1 : Int32) (v2 : Int32) : wpX_folder (fun r u' => wpY_folder (fun r' v' => r' = r ∧ i_Rel (k + 4) u' v') v v1 v2) u v1 v2 := by
  have J := i_up I
  obtain ⟨pf, xa, xc, ya, yc, K, N, kp, ap, ad, cp, K', N', tk, ap', ad', cp', rfl, rfl, hpf, R, W⟩ := I
  unfold wpX_folder wpY_folder
  rcases ts_side v1 with ⟨s, hs, rfl⟩ | ⟨n0, n1⟩
  · rcases ts_path v2 with ⟨p, hp, rfl⟩ | hb
    · have C := R (84 * s + p) (by omega)
      have EF : (4 ≤ p → K' (84 * s + (p / 4 - 1)) = 2) ↔ (4 ≤ p → K (84 * s + (p / 4 - 1)) = 2) := by rw [(R (84 * s + (p / 4 - 1)) (by omega)).1]
      refine tx_side_t hs (br_f (by decide) (tx_path_t hp (br_f (by decide) (tx_folder (by omega) hp (fun F => ?_) (fun F => br_t rfl ?_)))))
      · refine br_f (by decide) (tx_kindAt (by omega) (by omega) ?_)
        rw [ts_rd_t hp]
        by_cases c0 : K (84 * s + p) = 0
        · have RR : ts_R (upd K (84 * s + p) 2) (upd N (84 * s + p) 0) (upd K' (84 * s + p) 2) N' := ts_R_up R (Or.inr (Or.inr rfl)) (y := 0) (by rw [pk_us, if_neg (by decide)]) (fun z => absurd z (by decide)) (fun j hj => pk_un hj) (fun _ _ => rfl)
          have JJ : i_Rel (k + 4) (pf, xa, xc, upd K (84 * s + p) 2, upd N (84 * s + p) 0, kp, ap, ad, cp) (pf, ya, yc, upd K' (84 * s + p) 2, N', kp, tk, ap', ad', cp') := ts_mk hpf RR (ts_W_up W 2 hp (by rw [c0]; decide) F)
          refine br_t c0 (tx_setEntry (by omega) (by omega) ?_)
          rw [ts_st_t hp, ts_st_t hp]
          exact ty_side_t hs (br_f (by decide) (ty_path_t hp (br_f (by decide) (ty_parent (by omega) hp (fun _ => br_f (by decide) (ty_kindAt (by omega) hp (br_t (C.1.trans c0) ⟨ts_yin (by omega) hp, nm_r (e' := upd K' (84 * s + p) 2) (by rw [ts_ycl (by omega) hp]) ⟨rfl, JJ⟩⟩))) (fun z => absurd (EF.mpr F) z)))))
        · exact br_f c0 (ty_side_t hs (br_f (by decide) (ty_path_t hp (br_f (by decide) (ty_parent (by omega) hp (fun _ => br_f (by decide) (ty_kindAt (by omega) hp (br_f (fun y => c0 (C.1.symm.trans y)) ⟨rfl, J⟩))) (fun z => absurd (EF.mpr F) z))))))
      · exact ty_side_t hs (br_f (by decide) (ty_path_t hp (br_f (by decide) (ty_parent (by omega) hp (fun z => absurd (EF.mp z) F) (fun _ => br_t rfl ⟨rfl, J⟩)))))
    · exact tx_side_t hs (br_f (by decide) (tx_path_f hb (br_t rfl (ty_side_t hs (br_f (by decide) (ty_path_f hb (br_t rfl ⟨rfl, J⟩)))))))
  · exact tx_side_f n0 n1 (br_t rfl (ty_side_f n0 n1 (br_t rfl ⟨rfl, J⟩)))
theorem i_vc_remove {k : Nat} {u : SX} {v : SY} (I : i_Rel k u v) (hk : k + 4 ≤ 2048) (v1 : Int32) (v2 : Int32) : wpX_remove (fun r u' => wpY_remove (fun r' v' => r' = r ∧ i_Rel (k + 4) u' v') v v1 v2) u v1 v2 := by
  have J := i_up I
  obtain ⟨pf, xa, xc, ya, yc, K, N, kp, ap, ad, cp, K', N', tk, ap', ad', cp', rfl, rfl, hpf, R, W⟩ := I
  unfold wpX_remove wpY_remove
  rcases ts_side v1 with ⟨s, hs, rfl⟩ | ⟨n0, n1⟩
  · rcases ts_path v2 with ⟨p, hp, rfl⟩ | hb
    · have C := R (84 * s + p) (by omega)
      have cn : ts_cn K' s p 21 = ts_cn K s p 21 := ts_cn_c 21 fun j _ => ts_rd_C (ts_R_in R (by omega))
      refine tx_side_t hs (br_f (by decide) (tx_path_t hp (br_f (by decide) (tx_kindAt (by omega) (by omega) ?_))))
      rw [ts_rd_t hp]
      by_cases c0 : K (84 * s + p) = 0
      · exact br_t c0 (ty_side_t hs (br_f (by decide) (ty_path_t hp (br_f (by decide) (ty_countIn (by omega) hp (ty_kindAt (by omega) hp (br_t (C.1.trans c0) ⟨rfl, J⟩)))))))
      · refine br_f c0 (tx_clear (by omega) hp (ty_side_t hs (br_f (by decide) (ty_path_t hp (br_f (by decide) (ty_countIn (by omega) hp (ty_kindAt (by omega) hp (br_f (fun y => c0 (C.1.symm.trans y)) (ty_empty (by omega) hp ⟨?_, ts_mk hpf (ts_R_em R (by omega)) (ts_W_ec W s p)⟩)))))))))
        rw [cn]
    · exact tx_side_t hs (br_f (by decide) (tx_path_f hb (br_t rfl (ty_side_t hs (br_f (by decide) (ty_path_f hb (br_t rfl ⟨rfl, J⟩)))))))
  · exact tx_side_f n0 n1 (br_t rfl (ty_side_f n0 n1 (br_t rfl ⟨rfl, J⟩)))
/-! the refusal is one and the same -/
theorem ts_ref_c {K K' : Nat → Int32} {s p q : Nat} (hs : s < 2) (hp : p < 84) (hq : q < 84) (e : ∀ i, i < 504 → K' i = K i) : ts_ref K' s p q = ts_ref K s p q := by
  have e1 := e (84 * s + p) (by omega)
  have e2 := e (84 * s + (q / 4 - 1)) (by omega)
  have e3 := e (84 * s + q) (by omega)
  have e4 : ts_dp K' s p 21 = ts_dp K s p 21 := ts_dp_c 21 fun j _ => ts_rd_c fun hc => e _ (by omega)
  unfold ts_ref
  rw [e1, e2, e3, e4]
theorem ts_ref_0 {K : Nat → Int32} {s p q : Nat} (h : ts_ref K s p q = 0) : K (84 * s + p) ≠ 0 ∧ (4 ≤ q → K (84 * s + (q / 4 - 1)) = 2) ∧ K (84 * s + q) = 0 ∧ ¬ ts_B q p := by
  unfold ts_ref at h
  by_cases c1 : K (84 * s + p) = 0
  · rw [if_pos c1] at h; exact absurd h (by decide)
  rw [if_neg c1] at h
  by_cases c2 : 4 ≤ q → K (84 * s + (q / 4 - 1)) = 2
  · rw [if_pos c2] at h
    by_cases c3 : K (84 * s + q) = 0
    · rw [if_pos c3] at h
      by_cases c4 : ts_B q p ∨ 3 ≤ ts_lq q + ts_dp K s p 21
      · rw [if_pos c4] at h; exact absurd h (by decide)
      · exact ⟨c1, c2, c3, fun z => c4 (Or.inl z)⟩
    · rw [if_neg c3] at h; exact absurd h (by decide)
  · rw [if_neg c2] at h; exact absurd h (by decide)
theorem ts_ref_D {K : Nat → Int32} (W : ts_W K) {s p q : Nat} (hs : s < 2) (hp : p < 84) (hq : q < 84) (h : ts_ref K s p q = 0) : ts_dj s p s q := by
  obtain ⟨h1, h2, h3, h4⟩ := ts_ref_0 h
  exact ts_dj_s W hs hp hq h1 h3 (fun a b => h4 (Or.inl ⟨a, b⟩)) (fun a b => h4 (Or.inr ⟨a, b⟩))
/-- bad arguments of move and copy -/
theorem ts_args (v1 v2 v3 : Int32) : (∃ s p q : Nat, s < 2 ∧ p < 84 ∧ q < 84 ∧ v1 = nI s ∧ v2 = nI p ∧ v3 = nI q) ∨
    (∀ (P : Int32 → Prop) (Q : Int32 → Prop) (x : SX) (y : SY), P (-1000000001) → Q (-1000000001) → wpX_refusalToPlace P x v1 v2 v3 ∧ wpY_test Q y v1 v2 v3) := by
  rcases ts_side v1 with ⟨s, hs, rfl⟩ | ⟨n0, n1⟩
  · rcases ts_path v2 with ⟨p, hp, rfl⟩ | hb
    · rcases ts_path v3 with ⟨q, hq, rfl⟩ | hc
      · exact Or.inl ⟨s, p, q, hs, hp, hq, rfl, rfl, rfl⟩
      · refine Or.inr fun P Q x y hP hQ => ?_
        obtain ⟨xf, xa, xc, K, N, kp, ap, ad, cp⟩ := x
        obtain ⟨yf, ya, yc, K', N', kp', tk, ap', ad', cp'⟩ := y
        unfold wpX_refusalToPlace wpY_test
        exact ⟨tx_side_t hs (br_f (by decide) (tx_path_t hp (br_f (by decide) (tx_path_f hc (br_t rfl hP))))), ty_side_t hs (br_f (by decide) (ty_path_t hp (br_f (by decide) (ty_path_f hc (br_t rfl hQ)))))⟩
    · refine Or.inr fun P Q x y hP hQ => ?_
      obtain ⟨xf, xa, xc, K, N, kp, ap, ad, cp⟩ := x
      obtain ⟨yf, ya, yc, K', N', kp', tk, ap', ad', cp'⟩ := y
      unfold wpX_refusalToPlace wpY_test
      exact ⟨tx_side_t hs (br_f (by decide) (tx_path_f hb (br_t rfl hP))), ty_side_t hs (br_f (by decide) (ty_path_f hb (br_t rfl hQ)))⟩
  · refine Or.inr fun P Q x y hP hQ => ?_
    obtain ⟨xf, xa, xc, K, N, kp, ap, ad, cp⟩ := x
    obtain ⟨yf, ya, yc, K', N', kp', tk, ap', ad', cp'⟩ := y
    unfold wpX_refusalToPlace wpY_test
    exact ⟨tx_side_f n0 n1 (br_t rfl hP), ty_side_f n0 n1 (br_t rfl hQ)⟩
theorem i_vc_move {k : Nat} {u : SX} {v : SY} (I : i_Rel k u v) (hk : k + 4 ≤ 2048) (v1 : Int32) (v2 : Int32) (v3 : Int32) : wpX_move (fun r u' => wpY_move (fun r' v' => r' = r ∧ i_Rel (k + 4) u' v') v v1 v2 v3) u v1 v2 v3 := by
  have J := i_up I
  obtain ⟨pf, xa, xc, ya, yc, K, N, kp, ap, ad, cp, K', N', tk, ap', ad', cp', rfl, rfl, hpf, R, W⟩ := I
  unfold wpX_move wpY_move
  rcases ts_args v1 v2 v3 with ⟨s, p, q, hs, hp, hq, rfl, rfl, rfl⟩ | B
  · have e := ts_ref_c hs hp hq (fun i hi => (R i hi).1)
    refine tx_ref hs hp hq ?_
    by_cases z : ts_ref K s p q = 0
    · have D := ts_ref_D W hs hp hq z
      have h0 := ts_ref_0 z
      refine br_t z (tx_copy (by omega) hp (by omega) hq (tx_clear (by omega) hp (ty_test hs hp hq ?_)))
      refine br_t (e.trans z) (ty_put (u := 9) (q := 0) (by omega) hp (by omega) (by omega) (ty_empty (by omega) hp (ty_put (t := 9) (p := 0) (by omega) (by omega) (by omega) hq ⟨e.trans z, ?_⟩)))
      exact ts_mk hpf (ts_R_move R hs D) (ts_W_ec (ts_W_cp W D (by omega) (by omega) hq h0.2.1) s p)
    · exact br_f z (ty_test hs hp hq (br_f (fun y => z (e.symm.trans y)) ⟨e, J⟩))
  · exact (B _ (fun _ => True) _ (pf, ya, yc, K', N', kp, tk, ap', ad', cp') (br_f (by decide) ((B (fun _ => True) _ (pf, xa, xc, K, N, kp, ap, ad, cp) _ trivial (br_f (by decide) ⟨rfl, J⟩)).2)) trivial).1
theorem i_vc_copy {k : Nat} {u : SX} {v : SY} (I : i_Rel k u v) (hk : k + 4 ≤ 2048) (v1 : Int32) (v2 : Int32) (v3 : Int32) : wpX_copy (fun r u' => wpY_copy (fun r' v' => r' = r ∧ i_Rel (k + 4) u' v') v v1 v2 v3) u v1 v2 v3 := by
  have J := i_up I
  obtain ⟨pf, xa, xc, ya, yc, K, N, kp, ap, ad, cp, K', N', tk, ap', ad', cp', rfl, rfl, hpf, R, W⟩ := I
  unfold wpX_copy wpY_copy
  rcases ts_args v1 v2 v3 with ⟨s, p, q, hs, hp, hq, rfl, rfl, rfl⟩ | B
  · have e := ts_ref_c hs hp hq (fun i hi => (R i hi).1)
    refine tx_ref hs hp hq ?_
    by_cases z : ts_ref K s p q = 0
    · have D := ts_ref_D W hs hp hq z
      have h0 := ts_ref_0 z
      refine br_t z (tx_copy (by omega) hp (by omega) hq (ty_test hs hp hq ?_))
      refine br_t (e.trans z) (ty_put (u := 9) (q := 0) (by omega) hp (by omega) (by omega) (ty_put (t := 9) (p := 0) (by omega) (by omega) (by omega) hq ⟨e.trans z, ?_⟩))
      exact ts_mk hpf (ts_R_copy R hs D) (ts_W_cp W D (by omega) (by omega) hq h0.2.1)
    · exact br_f z (ty_test hs hp hq (br_f (fun y => z (e.symm.trans y)) ⟨e, J⟩))
  · exact (B _ (fun _ => True) _ (pf, ya, yc, K', N', kp, tk, ap', ad', cp') (br_f (by decide) ((B (fun _ => True) _ (pf, xa, xc, K, N, kp, ap, ad, cp) _ trivial (br_f (by decide) ⟨rfl, J⟩)).2)) trivial).1
end
section
/-! prefer, step, stepSome, actions, action, conflicts, conflict -/
theorem ts_pf3 (x : Int32) (h0 : ¬ x = 0) (h1 : ¬ x = 1) (hm : ¬ x = -1) : x < -1 ∨ (¬ x < -1 ∧ ¬ x ≤ 1) := by
  by_cases h : x < -1
  · exact Or.inl h
  · refine Or.inr ⟨h, fun h2 => ?_⟩
    rw [Int32.lt_iff_toInt_lt, show (-1 : Int32).toInt = -1 from by decide] at h
    rw [Int32.le_iff_toInt_le, show (1 : Int32).toInt = 1 from by decide] at h2
    rcases (by omega : x.toInt = -1 ∨ x.toInt = 0 ∨ x.toInt = 1) with e | e | e
    · exact hm (Int32.toInt_inj.mp (e.trans (show (-1 : Int) = (-1 : Int32).toInt from by decide)))
    · exact h0 (Int32.toInt_inj.mp (e.trans (show (0 : Int) = (0 : Int32).toInt from by decide)))
    · exact h1 (Int32.toInt_inj.mp (e.trans (show (1 : Int) = (1 : Int32).toInt from by decide)))
theorem i_vc_prefer {k : Nat} {u : SX} {v : SY} (I : i_Rel k u v) (hk : k + 4 ≤ 2048) (v1 : Int32) : wpX_prefer (fun r u' => wpY_prefer (fun r' v' => r' = r ∧ i_Rel (k + 4) u' v') v v1) u v1 := by
  have J := i_up I
  obtain ⟨pf, xa, xc, ya, yc, K, N, kp, ap, ad, cp, K', N', tk, ap', ad', cp', rfl, rfl, hpf, R, W⟩ := I
  unfold wpX_prefer wpY_prefer
  rcases ts_side v1 with ⟨s, hs, rfl⟩ | ⟨n0, n1⟩
  · refine tx_side_t hs (br_f (by decide) ?_)
    have e : nI s = nI (1 - (1 - s)) := congrArg nI (by omega)
    have hl : ¬ nI s < -1 ∧ nI s ≤ 1 := by
      obtain rfl | rfl : s = 0 ∨ s = 1 := by omega
      · decide
      · decide
    exact br_f hl.1 (br_t hl.2 ⟨rfl, ts_mk (Or.inr ⟨1 - s, by omega, e⟩) R W⟩)
  · refine tx_side_f n0 n1 (br_t rfl ?_)
    by_cases m : v1 = -1
    · subst m
      exact br_t rfl (br_f (by decide) (br_t (by decide) ⟨rfl, ts_mk (Or.inl rfl) R W⟩))
    · refine br_f m ?_
      rcases ts_pf3 v1 n0 n1 m with h | ⟨h, h'⟩
      · exact br_t h ⟨rfl, J⟩
      · exact br_f h (br_f h' ⟨rfl, J⟩)
theorem i_vc_step {k : Nat} {u : SX} {v : SY} (I : i_Rel k u v) (hk : k + 4 ≤ 2048) : wpX_step (fun r u' => wpY_step (fun r' v' => r' = r ∧ i_Rel (k + 4) u' v') v) u := by
  obtain ⟨pf, xa, xc, ya, yc, K, N, kp, ap, ad, cp, K', N', tk, ap', ad', cp', rfl, rfl, hpf, R, W⟩ := I
  unfold wpX_step wpY_step
  have hl : ∀ a : Nat, a < 84 → (nI a = 84 ↔ nI a = 1000) := fun a ha =>
    ⟨fun z => absurd ((nI_eq (b := 84) (by omega) (by omega)).mp z) (by omega), fun z => absurd z (ts_ne1000 ha)⟩
  obtain ⟨r, c2, KF, NF, KF', NF', tkF, apF, adF, cpF, RF, WF, hX, hY⟩ := ts_step (xa := xa) (xc := xc) (ya := ya) (yc := yc) (kp := kp) (ap := ap) (ad := ad) (cp := cp) (tk := tk) (ap' := ap') (ad' := ad') (cp' := cp') hl hpf R W
  exact hX _ (hY _ ⟨rfl, ts_mk hpf RF WF⟩)
theorem i_vc_stepSome {k : Nat} {u : SX} {v : SY} (I : i_Rel k u v) (hk : k + 4 ≤ 2048) (v1 : Int32) : wpX_stepSome (fun r u' => wpY_stepSome (fun r' v' => r' = r ∧ i_Rel (k + 4) u' v') v v1) u v1 := by
  have J := i_up I
  obtain ⟨pf, xa, xc, ya, yc, K, N, kp, ap, ad, cp, K', N', tk, ap', ad', cp', rfl, rfl, hpf, R, W⟩ := I
  unfold wpX_stepSome wpY_stepSome
  by_cases h : 0 ≤ v1
  · obtain ⟨r, c2, KF, NF, KF', NF', tkF, apF, adF, cpF, RF, WF, hX, hY⟩ := ts_step (lim := v1) (m := v1) (xa := xa) (xc := xc) (ya := ya) (yc := yc) (kp := kp) (ap := ap) (ad := ad) (cp := cp) (tk := tk) (ap' := ap') (ad' := ad') (cp' := cp') (fun _ _ => Iff.rfl) hpf R W
    exact br_t h (hX _ (br_t h (hY _ ⟨rfl, ts_mk hpf RF WF⟩)))
  · exact br_f h (br_f h ⟨rfl, J⟩)
theorem i_vc_actions {k : Nat} {u : SX} {v : SY} (I : i_Rel k u v) (hk : k + 4 ≤ 2048) : wpX_actions (fun r u' => wpY_actions (fun r' v' => r' = r ∧ i_Rel (k + 4) u' v') v) u := by
  obtain ⟨pf, xa, xc, ya, yc, K, N, kp, ap, ad, cp, K', N', tk, ap', ad', cp', rfl, rfl, hpf, R, W⟩ := I
  unfold wpX_actions wpY_actions
  obtain ⟨a2, c2, apF, adF, cpF, KF', NF', tkF, apG, adG, cpG, h1, h2, RF, h4, h5, gX, gY⟩ := ts_look (xa := xa) (xc := xc) (ya := ya) (yc := yc) (kp := kp) (ap := ap) (ad := ad) (cp := cp) (tk := tk) (ap' := ap') (ad' := ad') (cp' := cp') hpf R
  exact gX _ (gY _ ⟨rfl, ts_mk hpf RF W⟩)
theorem i_vc_conflicts {k : Nat} {u : SX} {v : SY} (I : i_Rel k u v) (hk : k + 4 ≤ 2048) : wpX_conflicts (fun r u' => wpY_conflicts (fun r' v' => r' = r ∧ i_Rel (k + 4) u' v') v) u := by
  obtain ⟨pf, xa, xc, ya, yc, K, N, kp, ap, ad, cp, K', N', tk, ap', ad', cp', rfl, rfl, hpf, R, W⟩ := I
  unfold wpX_conflicts wpY_conflicts
  obtain ⟨a2, c2, apF, adF, cpF, KF', NF', tkF, apG, adG, cpG, h1, h2, RF, h4, h5, gX, gY⟩ := ts_look (xa := xa) (xc := xc) (ya := ya) (yc := yc) (kp := kp) (ap := ap) (ad := ad) (cp := cp) (tk := tk) (ap' := ap') (ad' := ad') (cp' := cp') hpf R
  exact gX _ (gY _ ⟨rfl, ts_mk hpf RF W⟩)
theorem ts_idx (x : Int32) (a : Nat) (ha : a ≤ 84) : (∃ i : Nat, i < a ∧ x = nI i) ∨ x < 0 ∨ (¬ x < 0 ∧ ¬ x < nI a) := by
  by_cases h : x < 0
  · exact Or.inr (Or.inl h)
  · obtain ⟨j, hj, rfl⟩ := nI_of h
    by_cases g : j < a
    · exact Or.inl ⟨j, g, rfl⟩
    · exact Or.inr (Or.inr ⟨h, nI_nlt (by omega) hj⟩)
theorem i_vc_conflict {k : Nat} {u : SX} {v : SY} (I : i_Rel k u v) (hk : k + 4 ≤ 2048) (v1 : Int32) : wpX_conflict (fun r u' => wpY_conflict (fun r' v' => r' = r ∧ i_Rel (k + 4) u' v') v v1) u v1 := by
  obtain ⟨pf, xa, xc, ya, yc, K, N, kp, ap, ad, cp, K', N', tk, ap', ad', cp', rfl, rfl, hpf, R, W⟩ := I
  unfold wpX_conflict wpY_conflict
  obtain ⟨a2, c2, apF, adF, cpF, KF', NF', tkF, apG, adG, cpG, h1, h2, RF, h4, h5, gX, gY⟩ := ts_look (xa := xa) (xc := xc) (ya := ya) (yc := yc) (kp := kp) (ap := ap) (ad := ad) (cp := cp) (tk := tk) (ap' := ap') (ad' := ad') (cp' := cp') hpf R
  refine gX _ ?_
  rcases ts_idx v1 c2 h2 with ⟨i, hi, rfl⟩ | h | ⟨h, h'⟩
  · refine br_f (nI_pos (by omega)) (br_t (nI_lt hi (by omega)) ⟨vp_in_nI (by omega) (by decide), gY _ (br_f (nI_pos (by omega)) (br_t (nI_lt hi (by omega)) ⟨vp_in_nI (by omega) (by decide), ?_, ts_mk hpf RF W⟩))⟩)
    rw [nI_clamp (by omega)]; exact h5 i hi
  · exact br_t h (gY _ (br_t h ⟨rfl, ts_mk hpf RF W⟩))
  · exact br_f h (br_f h' (gY _ (br_f h (br_f h' ⟨rfl, ts_mk hpf RF W⟩))))
theorem ts_action {k : Nat} {pf xa xc ya yc : Int32} {K N kp ap ad cp K' N' tk ap' ad' cp' : Nat → Int32} (hpf : pf = -1 ∨ ∃ s : Nat, s < 2 ∧ pf = nI (1 - s)) (R : ts_R K N K' N') (W : ts_W K) (v1 v2 : Int32) : wX_action_12 (fun r u' => wY_action_12 (fun r' v' => r' = r ∧ i_Rel (k + 4) u' v') v1 v2 pf ya yc K' N' kp tk ap' ad' cp') v1 v2 pf xa xc K N kp ap ad cp := by
  unfold wX_action_12 wY_action_12
  obtain ⟨a2, c2, apF, adF, cpF, KF', NF', tkF, apG, adG, cpG, h1, h2, RF, h4, h5, gX, gY⟩ := ts_look (xa := xa) (xc := xc) (ya := ya) (yc := yc) (kp := kp) (ap := ap) (ad := ad) (cp := cp) (tk := tk) (ap' := ap') (ad' := ad') (cp' := cp') hpf R
  refine gX _ ?_
  rcases ts_idx v1 a2 h1 with ⟨i, hi, rfl⟩ | h | ⟨h, h'⟩
  · refine br_f (nI_pos (by omega)) (br_t (nI_lt hi (by omega)) ?_)
    by_cases z : v2 = 0
    · refine br_t z ⟨vp_in_nI (by omega) (by decide), gY _ (br_f (nI_pos (by omega)) (br_t (nI_lt hi (by omega)) (br_t z ⟨vp_in_nI (by omega) (by decide), ?_, ts_mk hpf RF W⟩)))⟩
      rw [nI_clamp (by omega)]; exact (h4 i hi).1
    · refine br_f z ⟨vp_in_nI (by omega) (by decide), gY _ (br_f (nI_pos (by omega)) (br_t (nI_lt hi (by omega)) (br_f z ⟨vp_in_nI (by omega) (by decide), ?_, ts_mk hpf RF W⟩)))⟩
      rw [nI_clamp (by omega)]; exact (h4 i hi).2
  · exact br_t h (gY _ (br_t h ⟨rfl, ts_mk hpf RF W⟩))
  · exact br_f h (br_f h' (gY _ (br_f h (br_f h' ⟨rfl, ts_mk hpf RF W⟩))))
theorem i_vc_action {k : Nat} {u : SX} {v : SY} (I : i_Rel k u v) (hk : k + 4 ≤ 2048) (v1 : Int32) (v2 : Int32) : wpX_action (fun r u' => wpY_action (fun r' v' => r' = r ∧ i_Rel (k + 4) u' v') v v1 v2) u v1 v2 := by
  have J := i_up I
  obtain ⟨pf, xa, xc, ya, yc, K, N, kp, ap, ad, cp, K', N', tk, ap', ad', cp', rfl, rfl, hpf, R, W⟩ := I
  unfold wpX_action
  by_cases z : v2 = 0
  · refine br_t z ?_
    have e : (fun (r : Int32) (u' : SX) => wpY_action (fun r' v' => r' = r ∧ i_Rel (k + 4) u' v') (pf, ya, yc, K', N', kp, tk, ap', ad', cp') v1 v2) = (fun r u' => wY_action_12 (fun r' v' => r' = r ∧ i_Rel (k + 4) u' v') v1 v2 pf ya yc K' N' kp tk ap' ad' cp') := by
      funext r u'
      exact propext ⟨fun h => h.1 z, fun h => br_t z h⟩
    rw [e]
    exact ts_action hpf R W v1 v2
  · by_cases o : v2 = 1
    · refine br_f z (br_t o ?_)
      have e : (fun (r : Int32) (u' : SX) => wpY_action (fun r' v' => r' = r ∧ i_Rel (k + 4) u' v') (pf, ya, yc, K', N', kp, tk, ap', ad', cp') v1 v2) = (fun r u' => wY_action_12 (fun r' v' => r' = r ∧ i_Rel (k + 4) u' v') v1 v2 pf ya yc K' N' kp tk ap' ad' cp') := by
        funext r u'
        exact propext ⟨fun h => (h.2 z).1 o, fun h => br_f z (br_t o h)⟩
      rw [e]
      exact ts_action hpf R W v1 v2
    · exact br_f z (br_f o (br_f z (br_f o ⟨rfl, J⟩)))
end
section
/-! keep, restore -/
theorem ts_3j (j : Nat) : (3 : Int32) + nI j = nI (3 + j) := nI_add 3 j
theorem i_vc_keep {k : Nat} {u : SX} {v : SY} (I : i_Rel k u v) (hk : k + 4 ≤ 2048) (v1 : Int32) (v2 : Int32) : wpX_keep (fun r u' => wpY_keep (fun r' v' => r' = r ∧ i_Rel (k + 4) u' v') v v1 v2) u v1 v2 := by
  have J := i_up I
  obtain ⟨pf, xa, xc, ya, yc, K, N, kp, ap, ad, cp, K', N', tk, ap', ad', cp', rfl, rfl, hpf, R, W⟩ := I
  unfold wpX_keep wpY_keep
  rcases ts_side v1 with ⟨s, hs, rfl⟩ | ⟨n0, n1⟩
  · rcases ts_place v2 with ⟨j, hj, rfl⟩ | hb | ⟨hn, hb⟩
    · have RR := ts_R_ct R (t := s) (u := 3 + j) (by omega) (by omega)
      rw [ts_3j]
      refine tx_side_t hs (br_f (by decide) (tx_place_t hj (br_f (by decide) (tx_copyTree (by omega) (by omega) ⟨vp_in_nI hj (by decide), nm_e (tx_size (by omega) ?_)⟩))))
      refine ty_side_t hs (br_f (by decide) (br_f (nI_pos (by omega)) (br_t (nI_le (b := 2) (by omega) (by decide)) (ty_copyTree (by omega) (by omega) ⟨vp_in_nI hj (by decide), nm_e (ty_count (by omega) ⟨?_, ?_⟩)⟩))))
      · rw [ts_cz_c 84 (fun i hi => (RR (84 * s + i) (by omega)).1)]
      · exact ts_mk hpf RR (ts_W_ct W (by omega) (by omega) (by omega))
    · exact tx_side_t hs (br_f (by decide) (tx_place_f (Or.inl hb) (br_t rfl (ty_side_t hs (br_f (by decide) (br_t hb ⟨rfl, J⟩))))))
    · refine tx_side_t hs (br_f (by decide) (tx_place_f (Or.inr ⟨hn, hb⟩) (br_t rfl (ty_side_t hs (br_f (by decide) (br_f hn (br_f ?_ ⟨rfl, J⟩)))))))
      exact Int32.not_le.mpr (ts_lt_le 2 (by omega) hn hb)
  · exact tx_side_f n0 n1 (br_t rfl (ty_side_f n0 n1 (br_t rfl ⟨rfl, J⟩)))
theorem i_vc_restore {k : Nat} {u : SX} {v : SY} (I : i_Rel k u v) (hk : k + 4 ≤ 2048) (v1 : Int32) (v2 : Int32) : wpX_restore (fun r u' => wpY_restore (fun r' v' => r' = r ∧ i_Rel (k + 4) u' v') v v1 v2) u v1 v2 := by
  have J := i_up I
  obtain ⟨pf, xa, xc, ya, yc, K, N, kp, ap, ad, cp, K', N', tk, ap', ad', cp', rfl, rfl, hpf, R, W⟩ := I
  unfold wpX_restore wpY_restore
  rcases ts_side v1 with ⟨s, hs, rfl⟩ | ⟨n0, n1⟩
  · rcases ts_place v2 with ⟨j, hj, rfl⟩ | hb | ⟨hn, hb⟩
    · have RR := ts_R_ct R (t := 3 + j) (u := s) (by omega) (by omega)
      rw [ts_3j]
      refine tx_side_t hs (br_f (by decide) (tx_place_t hj (br_f (by decide) ⟨vp_in_nI hj (by decide), ?_⟩)))
      by_cases z : kp (nI j).toNatClampNeg = 0
      · exact br_t z (ty_side_t hs (br_f (by decide) (br_f (nI_pos (by omega)) (br_t (nI_le (b := 2) (by omega) (by decide)) ⟨vp_in_nI hj (by decide), br_t z ⟨rfl, J⟩⟩))))
      · refine br_f z (tx_copyTree (by omega) (by omega) (tx_size (by omega) ?_))
        refine ty_side_t hs (br_f (by decide) (br_f (nI_pos (by omega)) (br_t (nI_le (b := 2) (by omega) (by decide)) ⟨vp_in_nI hj (by decide), br_f z (ty_copyTree (by omega) (by omega) (ty_count (by omega) ⟨?_, ?_⟩))⟩)))
        · rw [ts_cz_c 84 (fun i hi => (RR (84 * s + i) (by omega)).1)]
        · exact ts_mk hpf RR (ts_W_ct W (by omega) (by omega) (by omega))
    · exact tx_side_t hs (br_f (by decide) (tx_place_f (Or.inl hb) (br_t rfl (ty_side_t hs (br_f (by decide) (br_t hb ⟨rfl, J⟩))))))
    · refine tx_side_t hs (br_f (by decide) (tx_place_f (Or.inr ⟨hn, hb⟩) (br_t rfl (ty_side_t hs (br_f (by decide) (br_f hn (br_f ?_ ⟨rfl, J⟩)))))))
      exact Int32.not_le.mpr (ts_lt_le 2 (by omega) hn hb)
  · exact tx_side_f n0 n1 (br_t rfl (ty_side_f n0 n1 (br_t rfl ⟨rfl, J⟩)))
end
