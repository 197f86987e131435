/-! moving within a tree: Y goes through its spare tree 9 -/
theorem ts_ch0 {k : Nat} (hk : k < 21) : ts_ch 0 k < 84 := by
  rcases ts_k3 k with rfl | ⟨a, ha, rfl⟩ | ⟨a, rfl⟩
  · rw [ts_ch_0]; omega
  · rw [ts_ch_1 _ _ ha]; omega
  · rw [ts_ch_2]; omega
theorem ts_no_t {u q i : Nat} (h : i < 84 * u ∨ 84 * u + 84 ≤ i) : ts_no u q i := fun k _ hc e => by omega
/-- Y's copy: out of (s, p) into (9, 0), from there into (s, q); b: the kinds between the two -/
theorem ts_cp9 {a b : Nat → Int32} {s p q : Nat} (hs : s < 6) (a' : Nat → Int32) (ha : ∀ i, i < 504 → a' i = a i) (hb : ∀ j, j < 84 → b (84 * 9 + j) = ts_cp a' s p 9 0 21 (84 * 9 + j)) {k : Nat} (hk : k < 21) (hc : ts_ch q k < 84) : ts_cp b 9 0 s q 21 (84 * s + ts_ch q k) = ts_rd a s (ts_ch p k) := by
  rw [ts_cp_tg (ts_dj_ne 0 q (by omega)) hc 21 (by omega) hk, ts_rd_t (ts_ch0 hk), hb _ (ts_ch0 hk), ts_cp_tg (u := 9) (ts_dj_ne p 0 (by omega)) (ts_ch0 hk) 21 (by omega) hk]
  exact ts_rd_c fun hp => ha _ (by omega)
theorem ts_R_copy {k n k' n' : Nat → Int32} (R : ts_R k n k' n') {s p q : Nat} (hs : s < 2) (D : ts_dj s p s q) : ts_R (ts_cp k s p s q 21) (ts_cp n s p s q 21) (ts_cp (ts_em (ts_cp (ts_em k' 9 0 21) s p 9 0 21) s q 21) 9 0 s q 21) (ts_cp (ts_cp n' s p 9 0 21) 9 0 s q 21) := by
  have f9 : ∀ i, i < 504 → ts_no 9 0 i := fun i hi => ts_no_t (by omega)
  have g9 : ∀ i, i < 504 → ts_em k' 9 0 21 i = k' i := fun i hi => ts_em_fr (f9 i hi) 21 (by omega)
  intro i hi
  rcases ts_in_or s q i with h | ⟨j, hj, hc, rfl⟩
  · refine ts_C_c (R i hi) (ts_cp_fr h 21 (by omega)) (ts_cp_fr h 21 (by omega)) ?_ ?_
    · rw [ts_cp_fr h 21 (by omega), ts_em_fr h 21 (by omega), ts_cp_fr (f9 i hi) 21 (by omega), g9 i hi]
    · rw [ts_cp_fr h 21 (by omega), ts_cp_fr (f9 i hi) 21 (by omega)]
  · have e1 : ts_cp (ts_em (ts_cp (ts_em k' 9 0 21) s p 9 0 21) s q 21) 9 0 s q 21 (84 * s + ts_ch q j) = ts_rd k' s (ts_ch p j) :=
      ts_cp9 (by omega) (ts_em k' 9 0 21) g9 (fun j hj => ts_em_fr (ts_no_t (by omega)) 21 (by omega)) hj hc
    have e2 : ts_cp (ts_cp n' s p 9 0 21) 9 0 s q 21 (84 * s + ts_ch q j) = ts_rd n' s (ts_ch p j) :=
      ts_cp9 (by omega) n' (fun _ _ => rfl) (fun _ _ => rfl) hj hc
    by_cases hp : ts_ch p j < 84
    · refine ts_C_m (R (84 * s + ts_ch p j) (by omega)) ?_ ?_ ?_ ?_
      · rw [ts_cp_tg D hc 21 (by omega) hj, ts_rd_t hp]
      · rw [ts_cp_tg D hc 21 (by omega) hj, ts_rd_t hp]
      · rw [e1, ts_rd_t hp]
      · rw [e2, ts_rd_t hp]
    · refine ts_C_z ?_ ?_ ?_
      · rw [ts_cp_tg D hc 21 (by omega) hj, ts_rd_f hp]
      · rw [ts_cp_tg D hc 21 (by omega) hj, ts_rd_f hp]
      · rw [e1, ts_rd_f hp]
theorem ts_R_move {k n k' n' : Nat → Int32} (R : ts_R k n k' n') {s p q : Nat} (hs : s < 2) (D : ts_dj s p s q) : ts_R (ts_ec (ts_cp k s p s q 21) (ts_cp k s p s q 21) s p 21) (ts_ec (ts_cp k s p s q 21) (ts_cp n s p s q 21) s p 21) (ts_cp (ts_em (ts_em (ts_cp (ts_em k' 9 0 21) s p 9 0 21) s p 21) s q 21) 9 0 s q 21) (ts_cp (ts_cp n' s p 9 0 21) 9 0 s q 21) := by
  have f9 : ∀ i, i < 504 → ts_no 9 0 i := fun i hi => ts_no_t (by omega)
  have g9 : ∀ i, i < 504 → ts_em k' 9 0 21 i = k' i := fun i hi => ts_em_fr (f9 i hi) 21 (by omega)
  have Q := ts_R_copy R hs D
  intro i hi
  rcases ts_in_or s p i with h | ⟨j, hj, hc, rfl⟩
  · refine ts_C_c (Q i hi) (ts_ec_fr h 21 (by omega)) (ts_ec_fr h 21 (by omega)) ?_ rfl
    rcases ts_in_or s q i with g | ⟨j, hj, hc, rfl⟩
    · rw [ts_cp_fr g 21 (by omega), ts_em_fr g 21 (by omega), ts_em_fr h 21 (by omega), ts_cp_fr g 21 (by omega), ts_em_fr g 21 (by omega)]
    · have e1 : ts_cp (ts_em (ts_em (ts_cp (ts_em k' 9 0 21) s p 9 0 21) s p 21) s q 21) 9 0 s q 21 (84 * s + ts_ch q j) = ts_rd k' s (ts_ch p j) :=
        ts_cp9 (by omega) (ts_em k' 9 0 21) g9 (fun j hj => by rw [ts_em_fr (ts_no_t (by omega)) 21 (by omega), ts_em_fr (ts_no_t (by omega)) 21 (by omega)]) hj hc
      have e2 : ts_cp (ts_em (ts_cp (ts_em k' 9 0 21) s p 9 0 21) s q 21) 9 0 s q 21 (84 * s + ts_ch q j) = ts_rd k' s (ts_ch p j) :=
        ts_cp9 (by omega) (ts_em k' 9 0 21) g9 (fun j hj => ts_em_fr (ts_no_t (by omega)) 21 (by omega)) hj hc
      rw [e1, e2]
  · have hno := D j hj hc
    have hk := Q _ hi
    refine ts_C_z ?_ ?_ ?_
    · rw [ts_ec_tg hc 21 hj]; split
      · assumption
      · rfl
    · rw [ts_ec_tg hc 21 hj]; split
      · rename_i z
        exact ts_C_0 hk (by rw [z]; decide)
      · rfl
    · rw [ts_cp_fr hno 21 (by omega), ts_em_fr hno 21 (by omega), ts_em_tg hc 21 (by omega) hj]
/-! the way through the trees -/
/-- the path that comes when p and all below it is done; 1000: none -/
def ts_nx (p : Nat) : Nat := if p % 4 ≠ 3 then p + 1 else if p < 4 then 1000 else if (p / 4 - 1) % 4 ≠ 3 then p / 4 else if p < 20 then 1000 else if ((p / 4 - 1) / 4 - 1) % 4 ≠ 3 then (p / 4 - 1) / 4 else 1000
/-- p's place in the order of the way -/
def ts_ps (p : Nat) : Nat := if p < 4 then 21 * p else if p < 20 then 21 * (p / 4 - 1) + 1 + 5 * (p % 4) else 21 * ((p / 4 - 1) / 4 - 1) + 1 + 5 * ((p / 4 - 1) % 4) + 1 + p % 4
/-- how many wait on Y's pile when p has been taken from it -/
def ts_ht (p : Nat) : Nat := (3 - p % 4) + (if p < 4 then 0 else (3 - (p / 4 - 1) % 4) + (if p < 20 then 0 else 3 - ((p / 4 - 1) / 4 - 1) % 4))
theorem ts_f1 : ∀ p, p < 84 → ts_ps p < 84 ∧ ts_ht p ≤ 9 ∧ (ts_nx p = 1000 ∨ ts_nx p < 84) := by decide +kernel
theorem ts_f2 : ∀ p, p < 84 → ts_nx p < 84 → ts_ps p < ts_ps (ts_nx p) ∧ ts_ht p = ts_ht (ts_nx p) + 1 := by decide +kernel
theorem ts_f3 : ∀ p, p < 84 → ts_nx p = 1000 → ts_ht p = 0 := by decide +kernel
theorem ts_f4 : ∀ p, p < 20 → ts_ps (4 * p + 4) = ts_ps p + 1 ∧ ts_ht (4 * p + 4) = ts_ht p + 3 ∧ ts_ht (4 * p + 5) = ts_ht p + 2 ∧ ts_ht (4 * p + 6) = ts_ht p + 1 ∧ ts_ht (4 * p + 7) = ts_ht p := by decide +kernel
theorem ts_f5 : ∀ p, p < 20 → ts_nx (4 * p + 4) = 4 * p + 5 ∧ ts_nx (4 * p + 5) = 4 * p + 6 ∧ ts_nx (4 * p + 6) = 4 * p + 7 ∧ ts_nx (4 * p + 7) = ts_nx p := by decide +kernel
theorem ts_f6 : ∀ p, p < 84 → ∀ k, k < 21 → ts_ch p k < 84 → ts_ps p ≤ ts_ps (ts_ch p k) ∧ (ts_nx p < 84 → ts_ps (ts_ch p k) < ts_ps (ts_nx p)) := by decide +kernel
theorem ts_f7 : ∀ p, p < 84 → ts_nx p < 84 → 4 ≤ ts_nx p → 4 ≤ p ∧ (ts_nx p / 4 - 1 = p / 4 - 1 ∨ (20 ≤ p ∧ ts_nx p < 20 ∧ ts_nx p / 4 - 1 = (p / 4 - 1) / 4 - 1)) := by decide +kernel
/-- Y's pile when p has been taken from it -/
def ts_pl (a : Nat → Int32) : Nat → Nat → Prop
  | 0, p => ts_nx p = 1000
  | h + 1, p => a h = nI (ts_nx p) ∧ ts_nx p < 84 ∧ ts_pl a h (ts_nx p)
theorem ts_pl_c {a b : Nat → Int32} (h : Nat) : ∀ p, (∀ i, i < h → b i = a i) → ts_pl a h p → ts_pl b h p := by
  induction h with
  | zero => exact fun _ _ H => H
  | succ h ih => exact fun p e H => ⟨(e h (by omega)).trans H.1, H.2.1, ih _ (fun i hi => e i (by omega)) H.2.2⟩
theorem ts_pl_n {a : Nat → Int32} {h p q : Nat} (e : ts_nx q = ts_nx p) (H : ts_pl a h p) : ts_pl a h q := by
  cases h with
  | zero => exact e.trans H
  | succ h =>
    unfold ts_pl
    rw [e]; exact H
theorem ts_pl_push {a b : Nat → Int32} {h p : Nat} (hp : p < 20) (H : ts_pl a h p) (e : ∀ i, i < h → b i = a i) (e3 : b h = nI (4 * p + 7)) (e2 : b (h + 1) = nI (4 * p + 6)) (e1 : b (h + 2) = nI (4 * p + 5)) : ts_pl b (h + 3) (4 * p + 4) := by
  obtain ⟨f4, f5, f6, f7⟩ := ts_f5 p hp
  refine ⟨by rw [f4]; exact e1, by omega, ?_⟩
  rw [f4]
  refine ⟨by rw [f5]; exact e2, by omega, ?_⟩
  rw [f5]
  refine ⟨by rw [f6]; exact e3, by omega, ?_⟩
  rw [f6]
  exact ts_pl_n f7 (ts_pl_c h p e H)
theorem ts_pl_0 {a : Nat → Int32} (e0 : a 0 = nI 3) (e1 : a 1 = nI 2) (e2 : a 2 = nI 1) : ts_pl a 3 0 :=
  ⟨e2, by decide, ⟨e1, by decide, ⟨e0, by decide, rfl⟩⟩⟩
/-- both sides have folders above p -/
def ts_A (k : Nat → Int32) (p : Nat) : Prop := ∀ t, t < 2 → 4 ≤ p → k (84 * t + (p / 4 - 1)) = 2 ∧ (20 ≤ p → k (84 * t + ((p / 4 - 1) / 4 - 1)) = 2)
theorem ts_A_nx {k : Nat → Int32} {p : Nat} (hp : p < 84) (hn : ts_nx p < 84) (A : ts_A k p) : ts_A k (ts_nx p) := by
  intro t ht h4
  obtain ⟨p4, h | ⟨h20, hl, h⟩⟩ := ts_f7 p hp hn h4
  · obtain ⟨a1, a2⟩ := A t ht p4
    refine ⟨by rw [h]; exact a1, fun h20 => ?_⟩
    rw [h]; exact a2 (by omega)
  · obtain ⟨a1, a2⟩ := A t ht p4
    exact ⟨by rw [h]; exact a2 h20, fun z => by omega⟩
theorem ts_A_ch {k : Nat → Int32} {p : Nat} (hp : p < 20) (A : ts_A k p) (h0 : k p = 2) (h1 : k (84 + p) = 2) : ts_A k (4 * p + 4) := by
  have e : (4 * p + 4) / 4 - 1 = p := by omega
  intro t ht _
  rw [e]
  refine ⟨?_, fun h => (A t ht (by omega)).1⟩
  obtain rfl | rfl : t = 0 ∨ t = 1 := by omega
  · rw [Nat.mul_zero, Nat.zero_add]; exact h0
  · exact h1
theorem ts_A_c {k a : Nat → Int32} {p : Nat} (A : ts_A k p) (e : ∀ t c, t < 2 → c < p → a (84 * t + c) = k (84 * t + c)) : ts_A a p := by
  intro t ht h4
  rw [e t _ ht (by omega)]
  refine ⟨(A t ht h4).1, fun h => ?_⟩
  rw [e t _ ht (by omega)]
  exact (A t ht h4).2 h
/-- both folders and not alike: something can stand in it -/
theorem ts_20 {k n k' n' : Nat → Int32} {p : Nat} (hp : p < 84) (C0 : ts_C k n k' n' p) (C1 : ts_C k n k' n' (84 + p)) (h0 : k p = 2) (h1 : k (84 + p) = 2) (hS : ¬ ts_SX k n 0 p 1 p) : p < 20 := by
  by_cases h : p < 20
  · exact h
  · exfalso
    apply hS
    intro j hj
    by_cases j0 : j = 0
    · subst j0
      rw [ts_ch_0, ts_rd_t hp, ts_rd_t hp, ts_rd_t hp, ts_rd_t hp, Nat.mul_zero, Nat.zero_add, Nat.mul_one, h0, h1]
      exact ⟨rfl, by rw [ts_C_0 C0 (by rw [h0]; decide), ts_C_0 C1 (by rw [h1]; decide)]⟩
    · have hj84 : ¬ ts_ch p j < 84 := by
        rcases ts_k3 j with rfl | ⟨a, ha, rfl⟩ | ⟨a, rfl⟩
        · omega
        · rw [ts_ch_1 _ _ ha]; omega
        · rw [ts_ch_2]; omega
      rw [ts_rd_f hj84, ts_rd_f hj84, ts_rd_f hj84, ts_rd_f hj84]
      exact ⟨rfl, rfl⟩
/-! how deep something stands -/
def ts_lv (k : Nat) : Nat := if k = 0 then 0 else if k < 5 then 1 else 2
def ts_dp (a : Nat → Int32) (t p : Nat) : Nat → Nat
  | 0 => 0
  | m + 1 => if ts_rd a t (ts_ch p m) = 0 then ts_dp a t p m else ts_lv m
theorem ts_dp_t {a : Nat → Int32} {t p m : Nat} (h : ts_rd a t (ts_ch p m) = 0) : ts_dp a t p (m + 1) = ts_dp a t p m := if_pos h
theorem ts_dp_f {a : Nat → Int32} {t p m : Nat} (h : ¬ ts_rd a t (ts_ch p m) = 0) : ts_dp a t p (m + 1) = ts_lv m := if_neg h
theorem ts_lv_up (m : Nat) : ts_lv m ≤ ts_lv (m + 1) ∧ ts_lv m ≤ 2 := by
  unfold ts_lv
  by_cases h : m = 0
  · subst h; decide
  · rw [if_neg h, if_neg (show ¬ m + 1 = 0 by omega)]
    by_cases h5 : m < 5
    · rw [if_pos h5]; split <;> omega
    · rw [if_neg h5, if_neg (show ¬ m + 1 < 5 by omega)]; omega
theorem ts_dp_le (a : Nat → Int32) (t p m : Nat) : ts_dp a t p m ≤ ts_lv m := by
  induction m with
  | zero => exact Nat.le_refl 0
  | succ m ih =>
    have := ts_lv_up m
    by_cases z : ts_rd a t (ts_ch p m) = 0
    · rw [ts_dp_t z]; omega
    · rw [ts_dp_f z]; omega
theorem ts_dp_c {a b : Nat → Int32} {t p : Nat} (m : Nat) (h : ∀ k, k < m → ts_rd a t (ts_ch p k) = ts_rd b t (ts_ch p k)) : ts_dp a t p m = ts_dp b t p m := by
  induction m with
  | zero => rfl
  | succ m ih =>
    have e := ih (fun k hk => h k (by omega))
    have e2 := h m (by omega)
    by_cases z : ts_rd b t (ts_ch p m) = 0
    · rw [ts_dp_t z, ts_dp_t (e2.trans z), e]
    · rw [ts_dp_f z, ts_dp_f (fun y => z (e2.symm.trans y))]
/-! indices -/
theorem ts_ix (t p : Nat) : nI t * 84 + nI p = nI (84 * t + p) := by
  show nI t * nI 84 + nI p = _
  rw [pk_mul, nI_add, Nat.mul_comm]
theorem ts_iy (t p : Nat) : 84 * nI t + nI p = nI (84 * t + p) := by
  show nI 84 * nI t + nI p = _
  rw [pk_mul, nI_add]
theorem ts_4p (p : Nat) : 4 * nI p + 4 = nI (4 * p + 4) := by
  show nI 4 * nI p + nI 4 = _
  rw [pk_mul, nI_add]
/-- the k-th place as Y's part answers it -/
def ts_pt (p k : Nat) : Int32 := if ts_ch p k < 84 then nI (ts_ch p k) else -1
theorem ts_pt_t {p k : Nat} (h : ts_ch p k < 84) : ts_pt p k = nI (ts_ch p k) := if_pos h
theorem ts_pt_f {p k : Nat} (h : ¬ ts_ch p k < 84) : ts_pt p k = -1 := if_neg h
