/-! X's walks over a region: three rows -/
section
variable {post : Int32 → Prop} {qost : SX → Prop} {rost : Int32 → SX → Prop} {xf xa xc : Int32} {K N kp ap ad cp : Nat → Int32}
theorem ts_r0 (p : Nat) : ∀ i, i < 1 → ts_ch p (0 + i) = p + i := fun i hi => by
  obtain rfl : i = 0 := by omega
  rfl
theorem ts_r1 (p : Nat) : ∀ i, i < 4 → ts_ch p (1 + i) = 4 * p + 4 + i := fun i hi => ts_ch_1 p i hi
theorem ts_r2 (p : Nat) : ∀ i, i < 16 → ts_ch p (5 + i) = 4 * (4 * p + 4) + 4 + i := fun i _ => by rw [ts_ch_2]; omega
/-- clearContent, one row -/
theorem tx_clear_in {J : Int32 → Int32 → Int32 → Int32 → Int32 → Int32 → Int32 → (Nat → Int32) → (Nat → Int32) → (Nat → Int32) → (Nat → Int32) → (Nat → Int32) → (Nat → Int32) → Prop} {t p : Nat} (ht : t < 6) (off w row lev : Nat) (hr : ∀ i, i < w → ts_ch p (off + i) = row + i) (hw : w ≤ 16) (hrow : row < 1500) (hJ : J (nI (ts_cn K t p (off + w))) (nI (4 * row + 4)) (nI (w * 4)) (nI (lev + 1)) xf xa xc (ts_ec K K t p (off + w)) (ts_ec K N t p (off + w)) kp ap ad cp) : ∀ d i : Nat, i + d = w → wX_clearContent_20 rost J (nI t) (nI row) (nI w) (nI lev) (d + 1) (nI (ts_cn K t p (off + i))) (nI i) xf xa xc (ts_ec K K t p (off + i)) (ts_ec K N t p (off + i)) kp ap ad cp := by
  intro d
  induction d with
  | zero =>
    intro i hi
    obtain rfl : i = w := by omega
    exact br_t (nI_le (Nat.le_refl _) (by omega)) (tx_first (nm_r (pk_mul i 4) (nm_r (nI_1 lev) hJ)))
  | succ d ih =>
    intro i hi
    have j := ih (i + 1) (by omega)
    refine br_f (nI_ge (by omega) (by omega)) ?_
    rw [nI_add, ← hr i (by omega)]
    have hl : ts_ch p (off + i) < 2000 := by rw [hr i (by omega)]; omega
    refine tx_kindAt ht hl ?_
    rw [ts_ec_rd]
    by_cases z : ts_rd K t (ts_ch p (off + i)) = 0
    · rw [show off + (i + 1) = off + i + 1 from rfl, ts_cn_t z, ts_ec_t z, ts_ec_t z] at j
      exact br_t z (nm_r (nI_1 i) j)
    · rw [show off + (i + 1) = off + i + 1 from rfl, ts_cn_f z, ts_ec_f z, ts_ec_f z] at j
      exact br_f z (tx_setEntry ht hl (nm_r (nI_1 _) (nm_r (nI_1 i) j)))
theorem tx_clear {t p : Nat} (ht : t < 6) (hp : p < 84) (h : rost (nI (ts_cn K t p 21)) (xf, xa, xc, ts_ec K K t p 21, ts_ec K N t p 21, kp, ap, ad, cp)) : wpX_clearContent rost (xf, xa, xc, K, N, kp, ap, ad, cp) (nI t) (nI p) := by
  refine ⟨4, br_f (nI_ge (a := 0) (b := 3) (by omega) (by decide)) ⟨2, tx_clear_in (J := wX_clearContent_11 rost (nI t) 3) ht 0 1 p 0 (ts_r0 p) (by omega) (by omega) ?_ 1 0 rfl⟩⟩
  refine br_f (nI_ge (a := 1) (b := 3) (by omega) (by decide)) ⟨5, tx_clear_in (J := wX_clearContent_11 rost (nI t) 2) ht 1 4 (4 * p + 4) 1 (ts_r1 p) (by omega) (by omega) ?_ 4 0 rfl⟩
  refine br_f (nI_ge (a := 2) (b := 3) (by omega) (by decide)) ⟨17, tx_clear_in (J := wX_clearContent_11 rost (nI t) 1) ht 5 16 (4 * (4 * p + 4) + 4) 2 (ts_r2 p) (by omega) (by omega) ?_ 16 0 rfl⟩
  exact br_t (nI_le (a := 3) (b := 3) (by omega) (by decide)) h
/-- levelsBelow -/
theorem tx_levels_in {J : Int32 → Int32 → Int32 → Int32 → Prop} {t p : Nat} (ht : t < 6) (off w row lev : Nat) (hr : ∀ i, i < w → ts_ch p (off + i) = row + i) (hlv : ∀ i, i < w → ts_lv (off + i) = lev) (hw : w ≤ 16) (hrow : row < 1500) (hJ : J (nI (ts_dp K t p (off + w))) (nI (4 * row + 4)) (nI (w * 4)) (nI (lev + 1))) : ∀ d i : Nat, i + d = w → wX_levelsBelow_20 post J (nI t) (nI row) (nI w) (nI lev) xf xa xc K N kp ap ad cp (d + 1) (nI (ts_dp K t p (off + i))) (nI i) := by
  intro d
  induction d with
  | zero =>
    intro i hi
    obtain rfl : i = w := by omega
    exact br_t (nI_le (Nat.le_refl _) (by omega)) (tx_first (nm_r (pk_mul i 4) (nm_r (nI_1 lev) hJ)))
  | succ d ih =>
    intro i hi
    have j := ih (i + 1) (by omega)
    refine br_f (nI_ge (by omega) (by omega)) ?_
    rw [nI_add, ← hr i (by omega)]
    have hl : ts_ch p (off + i) < 2000 := by rw [hr i (by omega)]; omega
    refine tx_kindAt ht hl ?_
    by_cases z : ts_rd K t (ts_ch p (off + i)) = 0
    · rw [show off + (i + 1) = off + i + 1 from rfl, ts_dp_t z] at j
      exact br_t z (nm_r (nI_1 i) j)
    · rw [show off + (i + 1) = off + i + 1 from rfl, ts_dp_f z, hlv i (by omega)] at j
      exact br_f z (nm_r (nI_1 i) j)
theorem ts_lv1 : ∀ i, i < 4 → ts_lv (1 + i) = 1 := by decide
theorem ts_lv2 : ∀ i, i < 16 → ts_lv (5 + i) = 2 := by decide
theorem tx_levels {t p : Nat} (ht : t < 6) (hp : p < 84) (h : post (nI (ts_dp K t p 21))) : wpX_levelsBelow post (xf, xa, xc, K, N, kp, ap, ad, cp) (nI t) (nI p) := by
  refine ⟨4, br_f (nI_ge (a := 0) (b := 3) (by omega) (by decide)) ⟨2, tx_levels_in (J := wX_levelsBelow_11 post (nI t) xf xa xc K N kp ap ad cp 3) ht 0 1 p 0 (ts_r0 p) (by decide) (by omega) (by omega) ?_ 1 0 rfl⟩⟩
  refine br_f (nI_ge (a := 1) (b := 3) (by omega) (by decide)) ⟨5, tx_levels_in (J := wX_levelsBelow_11 post (nI t) xf xa xc K N kp ap ad cp 2) ht 1 4 (4 * p + 4) 1 (ts_r1 p) ts_lv1 (by omega) (by omega) ?_ 4 0 rfl⟩
  refine br_f (nI_ge (a := 2) (b := 3) (by omega) (by decide)) ⟨17, tx_levels_in (J := wX_levelsBelow_11 post (nI t) xf xa xc K N kp ap ad cp 1) ht 5 16 (4 * (4 * p + 4) + 4) 2 (ts_r2 p) ts_lv2 (by omega) (by omega) ?_ 16 0 rfl⟩
  exact br_t (nI_le (a := 3) (b := 3) (by omega) (by decide)) h
/-- copyContent -/
theorem tx_copy_in {J : Int32 → Int32 → Int32 → Int32 → Int32 → Int32 → Int32 → (Nat → Int32) → (Nat → Int32) → (Nat → Int32) → (Nat → Int32) → (Nat → Int32) → (Nat → Int32) → Prop} {t p u q : Nat} (ht : t < 6) (hu : u < 6) (off w row row' lev : Nat) (hr : ∀ i, i < w → ts_ch p (off + i) = row + i) (hr' : ∀ i, i < w → ts_ch q (off + i) = row' + i) (hw : w ≤ 16) (hrow : row < 1500) (hrow' : row' < 1500) (hJ : J (nI (4 * row + 4)) (nI (4 * row' + 4)) (nI (w * 4)) (nI (lev + 1)) xf xa xc (ts_cp K t p u q (off + w)) (ts_cp N t p u q (off + w)) kp ap ad cp) : ∀ d i : Nat, i + d = w → wX_copyContent_22 qost J (nI t) (nI u) (nI row) (nI row') (nI w) (nI lev) (d + 1) (nI i) xf xa xc (ts_cp K t p u q (off + i)) (ts_cp N t p u q (off + i)) kp ap ad cp := by
  intro d
  induction d with
  | zero =>
    intro i hi
    obtain rfl : i = w := by omega
    exact br_t (nI_le (Nat.le_refl _) (by omega)) (tx_first (tx_first (nm_r (pk_mul i 4) (nm_r (nI_1 lev) hJ))))
  | succ d ih =>
    intro i hi
    have j := ih (i + 1) (by omega)
    refine br_f (nI_ge (by omega) (by omega)) ?_
    rw [nI_add row i, nI_add row' i, ← hr i (by omega), ← hr' i (by omega)]
    have hl : ts_ch p (off + i) < 2000 := by rw [hr i (by omega)]; omega
    have hl' : ts_ch q (off + i) < 2000 := by rw [hr' i (by omega)]; omega
    exact tx_kindAt ht hl (tx_numberAt ht hl (tx_setEntry hu hl' (nm_r (nI_1 i) j)))
theorem tx_copy {t p u q : Nat} (ht : t < 6) (hp : p < 84) (hu : u < 6) (hq : q < 84) (h : qost (xf, xa, xc, ts_cp K t p u q 21, ts_cp N t p u q 21, kp, ap, ad, cp)) : wpX_copyContent qost (xf, xa, xc, K, N, kp, ap, ad, cp) (nI t) (nI p) (nI u) (nI q) := by
  refine ⟨4, br_f (nI_ge (a := 0) (b := 3) (by omega) (by decide)) ⟨2, tx_copy_in (J := wX_copyContent_13 qost (nI t) (nI u) 3) ht hu 0 1 p q 0 (ts_r0 p) (ts_r0 q) (by omega) (by omega) (by omega) ?_ 1 0 rfl⟩⟩
  refine br_f (nI_ge (a := 1) (b := 3) (by omega) (by decide)) ⟨5, tx_copy_in (J := wX_copyContent_13 qost (nI t) (nI u) 2) ht hu 1 4 (4 * p + 4) (4 * q + 4) 1 (ts_r1 p) (ts_r1 q) (by omega) (by omega) (by omega) ?_ 4 0 rfl⟩
  refine br_f (nI_ge (a := 2) (b := 3) (by omega) (by decide)) ⟨17, tx_copy_in (J := wX_copyContent_13 qost (nI t) (nI u) 1) ht hu 5 16 (4 * (4 * p + 4) + 4) (4 * (4 * q + 4) + 4) 2 (ts_r2 p) (ts_r2 q) (by omega) (by omega) (by omega) ?_ 16 0 rfl⟩
  exact br_t (nI_le (a := 3) (b := 3) (by omega) (by decide)) h
/-- sameContent -/
theorem tx_same_in {J : Int32 → Int32 → Int32 → Int32 → Prop} {t p u q : Nat} (ht : t < 6) (hu : u < 6) (off w row row' lev : Nat) (hr : ∀ i, i < w → ts_ch p (off + i) = row + i) (hr' : ∀ i, i < w → ts_ch q (off + i) = row' + i) (hw : off + w ≤ 21) (hrow : row < 1500) (hrow' : row' < 1500) (hJ : (∀ k, k < off + w → ts_rd K t (ts_ch p k) = ts_rd K u (ts_ch q k) ∧ ts_rd N t (ts_ch p k) = ts_rd N u (ts_ch q k)) → J (nI (4 * row + 4)) (nI (4 * row' + 4)) (nI (w * 4)) (nI (lev + 1))) (h0 : ¬ ts_SX K N t p u q → post 0) : ∀ d i : Nat, i + d = w → (∀ k, k < off + i → ts_rd K t (ts_ch p k) = ts_rd K u (ts_ch q k) ∧ ts_rd N t (ts_ch p k) = ts_rd N u (ts_ch q k)) → wX_sameContent_22 post J (nI t) (nI u) (nI row) (nI row') (nI w) (nI lev) xf xa xc K N kp ap ad cp (d + 1) (nI i) := by
  intro d
  induction d with
  | zero =>
    intro i hi H
    obtain rfl : i = w := by omega
    exact br_t (nI_le (Nat.le_refl _) (by omega)) (tx_first (tx_first (nm_r (pk_mul i 4) (nm_r (nI_1 lev) (hJ H)))))
  | succ d ih =>
    intro i hi H
    refine br_f (nI_ge (by omega) (by omega)) ?_
    rw [nI_add row i, nI_add row' i, ← hr i (by omega), ← hr' i (by omega)]
    have hl : ts_ch p (off + i) < 2000 := by rw [hr i (by omega)]; omega
    have hl' : ts_ch q (off + i) < 2000 := by rw [hr' i (by omega)]; omega
    refine tx_sameEntry ht hl hu hl' (fun z => ?_) (fun z => br_t rfl (h0 fun S => z (S (off + i) (by omega))))
    exact br_f (by decide) (nm_r (nI_1 i) (ih (i + 1) (by omega) fun k hk => if e : k = off + i then e ▸ z else H k (by omega)))
theorem tx_same {t p u q : Nat} (ht : t < 6) (hp : p < 84) (hu : u < 6) (hq : q < 84) (h1 : ts_SX K N t p u q → post 1) (h0 : ¬ ts_SX K N t p u q → post 0) : wpX_sameContent post (xf, xa, xc, K, N, kp, ap, ad, cp) (nI t) (nI p) (nI u) (nI q) := by
  refine ⟨4, br_f (nI_ge (a := 0) (b := 3) (by omega) (by decide)) ⟨2, tx_same_in (J := wX_sameContent_13 post (nI t) (nI u) xf xa xc K N kp ap ad cp 3) ht hu 0 1 p q 0 (ts_r0 p) (ts_r0 q) (by omega) (by omega) (by omega) (fun H1 => ?_) h0 1 0 rfl (fun k hk => absurd hk (by omega))⟩⟩
  refine br_f (nI_ge (a := 1) (b := 3) (by omega) (by decide)) ⟨5, tx_same_in (J := wX_sameContent_13 post (nI t) (nI u) xf xa xc K N kp ap ad cp 2) ht hu 1 4 (4 * p + 4) (4 * q + 4) 1 (ts_r1 p) (ts_r1 q) (by omega) (by omega) (by omega) (fun H2 => ?_) h0 4 0 rfl H1⟩
  refine br_f (nI_ge (a := 2) (b := 3) (by omega) (by decide)) ⟨17, tx_same_in (J := wX_sameContent_13 post (nI t) (nI u) xf xa xc K N kp ap ad cp 1) ht hu 5 16 (4 * (4 * p + 4) + 4) (4 * (4 * q + 4) + 4) 2 (ts_r2 p) (ts_r2 q) (by omega) (by omega) (by omega) (fun H3 => ?_) h0 16 0 rfl H2⟩
  exact br_t (nI_le (a := 3) (b := 3) (by omega) (by decide)) (h1 H3)
end
