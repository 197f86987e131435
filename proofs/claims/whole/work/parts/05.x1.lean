/-! X's private methods -/
section
variable {post : Int32 → Prop} {qost : SX → Prop} {rost : Int32 → SX → Prop} {xf xa xc : Int32} {K N kp ap ad cp : Nat → Int32}
theorem ts_xin {t p : Nat} (ht : t < 6) (hp : p < 84) : vp_in (nI t * 84 + nI p) 504 := by
  rw [ts_ix]; exact vp_in_nI (by omega) (by decide)
theorem ts_xcl {t p : Nat} (ht : t < 6) (hp : p < 84) : (nI t * 84 + nI p).toNatClampNeg = 84 * t + p := by
  rw [ts_ix]; exact nI_clamp (by omega)
theorem tx_kindAt {t p : Nat} (ht : t < 6) (hp : p < 2000) (h : post (ts_rd K t p)) : wpX_kindAt post (xf, xa, xc, K, N, kp, ap, ad, cp) (nI t) (nI p) := by
  refine br_f (nI_pos (by omega)) ?_
  by_cases h84 : p < 84
  · refine br_f (nI_ge (b := 84) h84 (by decide)) ⟨ts_xin ht h84, ?_⟩
    rw [ts_rd_t h84] at h
    rw [ts_xcl ht h84]; exact h
  · rw [ts_rd_f h84] at h
    exact br_t (nI_le (a := 84) (by omega) (by omega)) h
theorem tx_numberAt {t p : Nat} (ht : t < 6) (hp : p < 2000) (h : post (ts_rd N t p)) : wpX_numberAt post (xf, xa, xc, K, N, kp, ap, ad, cp) (nI t) (nI p) := by
  refine br_f (nI_pos (by omega)) ?_
  by_cases h84 : p < 84
  · refine br_f (nI_ge (b := 84) h84 (by decide)) ⟨ts_xin ht h84, ?_⟩
    rw [ts_rd_t h84] at h
    rw [ts_xcl ht h84]; exact h
  · rw [ts_rd_f h84] at h
    exact br_t (nI_le (a := 84) (by omega) (by omega)) h
theorem tx_setEntry {t p : Nat} {x y : Int32} (ht : t < 6) (hp : p < 2000) (h : qost (xf, xa, xc, ts_st K t p x, ts_st N t p y, kp, ap, ad, cp)) : wpX_setEntry qost (xf, xa, xc, K, N, kp, ap, ad, cp) (nI t) (nI p) x y := by
  refine br_f (nI_pos (by omega)) ?_
  by_cases h84 : p < 84
  · rw [ts_st_t h84, ts_st_t h84] at h
    refine br_f (nI_ge (b := 84) h84 (by decide)) ⟨ts_xin ht h84, ?_⟩
    refine nm_r (e' := upd K (84 * t + p) x) (by rw [ts_xcl ht h84]) ⟨ts_xin ht h84, ?_⟩
    exact nm_r (e' := upd N (84 * t + p) y) (by rw [ts_xcl ht h84]) h
  · rw [ts_st_f h84, ts_st_f h84] at h
    exact br_t (nI_le (a := 84) (by omega) (by omega)) h
theorem tx_first {p : Nat} (h : post (nI (4 * p + 4))) : wpX_firstInside post (nI p) := by
  unfold wpX_firstInside
  rw [ts_4p]; exact h
theorem ts_par_v {p : Nat} (h4 : 4 ≤ p) (hp : p < 2000) : nI p / 4 - 1 = nI (p / 4 - 1) := by
  show nI p / nI 4 - nI 1 = _
  rw [pk_div (by omega) (by omega) (by decide), pk_sub (by omega)]
theorem tx_par_t {p : Nat} (h4 : 4 ≤ p) (hp : p < 2000) (h : post (nI (p / 4 - 1))) : wpX_parentOf post (nI p) := by
  refine br_t (nI_le (a := 4) h4 (by omega)) ⟨by decide, ?_⟩
  rw [ts_par_v h4 hp]; exact h
theorem tx_par_f {p : Nat} (h4 : p < 4) (h : post (-1)) : wpX_parentOf post (nI p) :=
  br_f (nI_ge (b := 4) h4 (by decide)) h
theorem ts_m1 {n : Nat} (h : n < 2 ^ 31) : ¬ nI n = -1 := by
  intro e
  have := congrArg Int32.toInt e
  rw [nI_toInt h, show ((-1 : Int32)).toInt = -1 from by decide] at this
  omega
theorem tx_folder {t p : Nat} (ht : t < 6) (hp : p < 84) (h1 : (4 ≤ p → K (84 * t + (p / 4 - 1)) = 2) → post 1) (h0 : ¬ (4 ≤ p → K (84 * t + (p / 4 - 1)) = 2) → post 0) : wpX_standsInFolder post (xf, xa, xc, K, N, kp, ap, ad, cp) (nI t) (nI p) := by
  unfold wpX_standsInFolder
  by_cases h4 : 4 ≤ p
  · refine tx_par_t h4 (by omega) (br_f (ts_m1 (by omega)) (tx_kindAt ht (by omega) ?_))
    rw [ts_rd_t (by omega)]
    exact ⟨fun z => h1 fun _ => z, fun z => h0 fun y => z (y h4)⟩
  · exact tx_par_f (by omega) (br_t rfl (h1 fun z => absurd z h4))
theorem tx_sameEntry {t p u q : Nat} (ht : t < 6) (hp : p < 2000) (hu : u < 6) (hq : q < 2000) (h1 : ts_rd K t p = ts_rd K u q ∧ ts_rd N t p = ts_rd N u q → post 1) (h0 : ¬ (ts_rd K t p = ts_rd K u q ∧ ts_rd N t p = ts_rd N u q) → post 0) : wpX_sameEntry post (xf, xa, xc, K, N, kp, ap, ad, cp) (nI t) (nI p) (nI u) (nI q) := by
  unfold wpX_sameEntry
  refine tx_kindAt ht hp (tx_kindAt hu hq ⟨fun z => ?_, fun z => h0 fun y => z y.1⟩)
  exact tx_numberAt ht hp (tx_numberAt hu hq ⟨fun y => h1 ⟨z, y⟩, fun y => h0 fun w => y w.2⟩)
theorem tx_side_t {s : Nat} (hs : s < 2) (h : post 1) : wpX_isSide post (nI s) := by
  obtain rfl | rfl : s = 0 ∨ s = 1 := by omega
  · exact br_t rfl h
  · exact br_f (by decide) (br_t rfl h)
theorem tx_side_f {s : Int32} (h0 : ¬ s = 0) (h1 : ¬ s = 1) (h : post 0) : wpX_isSide post s := br_f h0 (br_f h1 h)
theorem tx_path_t {p : Nat} (hp : p < 84) (h : post 1) : wpX_isPath post (nI p) :=
  br_f (nI_pos (by omega)) (br_f (nI_ge (b := 84) hp (by decide)) h)
theorem tx_path_f {p : Int32} (hp : p < 0 ∨ (¬ p < 0 ∧ 84 ≤ p)) (h : post 0) : wpX_isPath post p := by
  rcases hp with hp | ⟨hn, hp⟩
  · exact br_t hp h
  · exact br_f hn (br_t hp h)
theorem ts_side (s : Int32) : (∃ t : Nat, t < 2 ∧ s = nI t) ∨ (¬ s = 0 ∧ ¬ s = 1) := by
  by_cases h0 : s = 0
  · exact Or.inl ⟨0, by omega, h0⟩
  · by_cases h1 : s = 1
    · exact Or.inl ⟨1, by omega, h1⟩
    · exact Or.inr ⟨h0, h1⟩
theorem ts_path (p : Int32) : (∃ j : Nat, j < 84 ∧ p = nI j) ∨ (p < 0 ∨ (¬ p < 0 ∧ 84 ≤ p)) := by
  by_cases h : p < 0
  · exact Or.inr (Or.inl h)
  · rcases pk_ix p (n := 84) (by decide) with h' | h' | ⟨j, hj, rfl⟩
    · exact absurd h' h
    · exact Or.inr (Or.inr ⟨h, h'⟩)
    · exact Or.inl ⟨j, hj, rfl⟩
theorem ts_place (p : Int32) : (∃ j : Nat, j < 3 ∧ p = nI j) ∨ (p < 0 ∨ (¬ p < 0 ∧ 3 ≤ p)) := by
  by_cases h : p < 0
  · exact Or.inr (Or.inl h)
  · rcases pk_ix p (n := 3) (by decide) with h' | h' | ⟨j, hj, rfl⟩
    · exact absurd h' h
    · exact Or.inr (Or.inr ⟨h, h'⟩)
    · exact Or.inl ⟨j, hj, rfl⟩
theorem tx_place_t {p : Nat} (hp : p < 3) (h : post 1) : wpX_isPlace post (nI p) :=
  br_f (nI_pos (by omega)) (br_f (nI_ge (b := 3) hp (by decide)) h)
theorem tx_place_f {p : Int32} (hp : p < 0 ∨ (¬ p < 0 ∧ 3 ≤ p)) (h : post 0) : wpX_isPlace post p := by
  rcases hp with hp | ⟨hn, hp⟩
  · exact br_t hp h
  · exact br_f hn (br_t hp h)
/-! counting in a tree -/
theorem tx_size_l {t : Nat} (ht : t < 6) (h : post (nI (ts_cz K t 84))) : ∀ d p : Nat, p + d = 84 → wX_sizeOfTree_4 post (nI t) xf xa xc K N kp ap ad cp (d + 1) (nI (ts_cz K t p)) (nI p) := by
  intro d
  induction d with
  | zero =>
    intro p hp
    obtain rfl : p = 84 := by omega
    exact br_t (nI_le (a := 84) (b := 84) (Nat.le_refl _) (by decide)) h
  | succ d ih =>
    intro p hp
    refine br_f (nI_ge (b := 84) (by omega) (by decide)) (tx_kindAt ht (by omega) ?_)
    have i := ih (p + 1) (by omega)
    rw [ts_rd_t (by omega)]
    by_cases z : K (84 * t + p) = 0
    · rw [ts_cz_t z] at i
      exact br_t z (nm_r (nI_1 p) i)
    · rw [ts_cz_f z] at i
      exact br_f z (nm_r (nI_1 _) (nm_r (nI_1 p) i))
theorem tx_size {t : Nat} (ht : t < 6) (h : post (nI (ts_cz K t 84))) : wpX_sizeOfTree post (xf, xa, xc, K, N, kp, ap, ad, cp) (nI t) :=
  ⟨85, tx_size_l ht h 84 0 rfl⟩
theorem tx_diff_l {t u : Nat} (ht : t < 6) (hu : u < 6) (h : post (nI (ts_cq (fun i => ¬ (K (84 * t + i) = K (84 * u + i) ∧ N (84 * t + i) = N (84 * u + i))) 84))) : ∀ d p : Nat, p + d = 84 → wX_differences_5 post (nI t) (nI u) xf xa xc K N kp ap ad cp (d + 1) (nI (ts_cq (fun i => ¬ (K (84 * t + i) = K (84 * u + i) ∧ N (84 * t + i) = N (84 * u + i))) p)) (nI p) := by
  intro d
  induction d with
  | zero =>
    intro p hp
    obtain rfl : p = 84 := by omega
    exact br_t (nI_le (a := 84) (b := 84) (Nat.le_refl _) (by decide)) h
  | succ d ih =>
    intro p hp
    have i := ih (p + 1) (by omega)
    have hp84 : p < 84 := by omega
    refine br_f (nI_ge (b := 84) hp84 (by decide)) (tx_sameEntry ht (by omega) hu (by omega) ?_ ?_)
    · rw [ts_rd_t hp84, ts_rd_t hp84, ts_rd_t hp84, ts_rd_t hp84]
      intro z
      rw [ts_cq_f (fun y => y z)] at i
      exact br_f (by decide) (nm_r (nI_1 p) i)
    · rw [ts_rd_t hp84, ts_rd_t hp84, ts_rd_t hp84, ts_rd_t hp84]
      intro z
      rw [ts_cq_t z] at i
      exact br_t rfl (nm_r (nI_1 _) (nm_r (nI_1 p) i))
theorem tx_diff {t u : Nat} (ht : t < 6) (hu : u < 6) (h : post (nI (ts_cq (fun i => ¬ (K (84 * t + i) = K (84 * u + i) ∧ N (84 * t + i) = N (84 * u + i))) 84))) : wpX_differences post (xf, xa, xc, K, N, kp, ap, ad, cp) (nI t) (nI u) :=
  ⟨85, tx_diff_l ht hu h 84 0 rfl⟩
theorem tx_copyTree_l {t u : Nat} (ht : t < 6) (hu : u < 6) (h : qost (xf, xa, xc, ts_ct K t u 84, ts_ct N t u 84, kp, ap, ad, cp)) : ∀ d p : Nat, p + d = 84 → wX_copyTree_2 qost (nI t) (nI u) (d + 1) (nI p) xf xa xc (ts_ct K t u p) (ts_ct N t u p) kp ap ad cp := by
  intro d
  induction d with
  | zero =>
    intro p hp
    obtain rfl : p = 84 := by omega
    exact br_t (nI_le (a := 84) (b := 84) (Nat.le_refl _) (by decide)) h
  | succ d ih =>
    intro p hp
    have i := ih (p + 1) (by omega)
    have hp84 : p < 84 := by omega
    refine br_f (nI_ge (b := 84) hp84 (by decide)) (tx_kindAt ht (by omega) (tx_numberAt ht (by omega) (tx_setEntry hu (by omega) ?_)))
    rw [ts_rd_t hp84, ts_rd_t hp84, ts_st_t hp84, ts_st_t hp84]
    exact nm_r (nI_1 p) i
theorem tx_copyTree {t u : Nat} (ht : t < 6) (hu : u < 6) (h : qost (xf, xa, xc, ts_ct K t u 84, ts_ct N t u 84, kp, ap, ad, cp)) : wpX_copyTree qost (xf, xa, xc, K, N, kp, ap, ad, cp) (nI t) (nI u) :=
  ⟨85, tx_copyTree_l ht hu h 84 0 rfl⟩
end
