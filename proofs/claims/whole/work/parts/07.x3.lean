/-! X: where a path stands, what comes after it, what is found there -/
/-- q stands below p -/
def ts_B (q p : Nat) : Prop := (4 ≤ q ∧ q / 4 - 1 = p) ∨ (20 ≤ q ∧ (q / 4 - 1) / 4 - 1 = p)
def ts_lq (q : Nat) : Nat := if q < 4 then 0 else if q < 20 then 1 else 2
/-- the refusal of move and copy, 0 if there is none -/
noncomputable def ts_ref (K : Nat → Int32) (s p q : Nat) : Int32 :=
  @ite Int32 (K (84 * s + p) = 0) (Classical.propDecidable _) (-1000000004)
    (@ite Int32 (4 ≤ q → K (84 * s + (q / 4 - 1)) = 2) (Classical.propDecidable _)
      (@ite Int32 (K (84 * s + q) = 0) (Classical.propDecidable _)
        (@ite Int32 (ts_B q p ∨ 3 ≤ ts_lq q + ts_dp K s p 21) (Classical.propDecidable _) (-1000000001) 0) (-1000000003)) (-1000000002))
/-- X's answer for the path that comes next -/
def ts_nxi (p : Nat) : Int32 := if ts_nx p < 84 then nI (ts_nx p) else -1
theorem ts_nx1 {p : Nat} (h : p % 4 ≠ 3) (hp : p < 84) : ts_nxi p = nI (p + 1) := by
  have e : ts_nx p = p + 1 := if_pos h
  unfold ts_nxi
  rw [e, if_pos (by omega)]
theorem ts_nx2 {p : Nat} (h : p % 4 = 3) (hp : p < 4) : ts_nxi p = -1 := by
  have e : ts_nx p = 1000 := by unfold ts_nx; rw [if_neg (fun z => z h), if_pos hp]
  unfold ts_nxi
  rw [e, if_neg (by omega)]
theorem ts_nx3 {p : Nat} (h : p % 4 = 3) (h4 : 4 ≤ p) (hp : p < 84) (h' : (p / 4 - 1) % 4 ≠ 3) : ts_nxi p = nI (p / 4 - 1 + 1) := by
  have e : ts_nx p = p / 4 := by unfold ts_nx; rw [if_neg (fun z => z h), if_neg (by omega), if_pos h']
  unfold ts_nxi
  rw [e, if_pos (by omega), show p / 4 - 1 + 1 = p / 4 from by omega]
theorem ts_nx4 {p : Nat} (h : p % 4 = 3) (h4 : 4 ≤ p) (hp : p < 20) (h' : (p / 4 - 1) % 4 = 3) : ts_nxi p = -1 := by
  have e : ts_nx p = 1000 := by unfold ts_nx; rw [if_neg (fun z => z h), if_neg (by omega), if_neg (fun z => z h'), if_pos hp]
  unfold ts_nxi
  rw [e, if_neg (by omega)]
theorem ts_nx5 {p : Nat} (h : p % 4 = 3) (h20 : 20 ≤ p) (hp : p < 84) (h' : (p / 4 - 1) % 4 = 3) (h'' : ((p / 4 - 1) / 4 - 1) % 4 ≠ 3) : ts_nxi p = nI ((p / 4 - 1) / 4 - 1 + 1) := by
  have e : ts_nx p = (p / 4 - 1) / 4 := by unfold ts_nx; rw [if_neg (fun z => z h), if_neg (by omega), if_neg (fun z => z h'), if_neg (by omega), if_pos h'']
  unfold ts_nxi
  rw [e, if_pos (by omega), show (p / 4 - 1) / 4 - 1 + 1 = (p / 4 - 1) / 4 from by omega]
theorem ts_nx6 {p : Nat} (h : p % 4 = 3) (h20 : 20 ≤ p) (h' : (p / 4 - 1) % 4 = 3) (h'' : ((p / 4 - 1) / 4 - 1) % 4 = 3) : ts_nxi p = -1 := by
  have e : ts_nx p = 1000 := by unfold ts_nx; rw [if_neg (fun z => z h), if_neg (by omega), if_neg (fun z => z h'), if_neg (by omega), if_neg (fun z => z h'')]
  unfold ts_nxi
  rw [e, if_neg (by omega)]
section
variable {post : Int32 → Prop} {xf xa xc : Int32} {K N kp ap ad cp : Nat → Int32}
theorem tx_last {p : Nat} (hp : p < 84) (h1 : p % 4 = 3 → post 1) (h0 : p % 4 ≠ 3 → post 0) : wpX_isLastName post (nI p) := by
  have e : nI p - nI p / 4 * 4 = nI (p % 4) := pk_rem (d := 4) (by omega) (by omega) (by decide)
  refine ⟨by decide, ?_⟩
  rw [e]
  exact pk_eq (p % 4) 3 h1 h0
theorem tx_a32 {p : Nat} (hp : p < 84) (h1 : p % 4 = 3 → post (-1)) (h0 : p % 4 ≠ 3 → post (nI (p + 1))) : wX_pathAfter_32 post (nI p) := by
  unfold wX_pathAfter_32
  refine tx_last hp (fun z => br_f (by decide) (h1 z)) (fun z => br_t rfl ?_)
  rw [nI_1]; exact h0 z
theorem tx_a4 {p x n : Nat} (hp : p < 84) (hx : x < 3) (h : p < 4 ∨ p % 4 ≠ 3 → wX_pathAfter_32 post (nI p)) (h' : 4 ≤ p → p % 4 = 3 → wX_pathAfter_4 post n (nI (p / 4 - 1)) (nI (x + 1))) : wX_pathAfter_4 post (n + 1) (nI p) (nI x) := by
  refine br_f (nI_ge (b := 3) hx (by decide)) ?_
  by_cases h4 : p < 4
  · exact br_t (nI_lt (b := 4) h4 (by decide)) (h (Or.inl h4))
  · refine br_f (nI_nlt (b := 4) (by omega) (by omega)) (tx_last hp (fun z => br_f (by decide) ?_) (fun z => br_t rfl (h (Or.inr z))))
    exact tx_par_t (by omega) (by omega) (nm_r (nI_1 x) (h' (by omega) z))
theorem tx_after {p : Nat} (hp : p < 84) (h : post (ts_nxi p)) : wpX_pathAfter post (nI p) := by
  refine ⟨3, tx_a4 (x := 1) (n := 2) hp (by omega) (fun c => tx_a32 hp (fun z => ?_) (fun z => ?_)) (fun h4 z => ?_)⟩
  · rw [ts_nx2 z (by omega)] at h; exact h
  · rw [ts_nx1 z hp] at h; exact h
  · refine tx_a4 (x := 2) (n := 1) (by omega) (by omega) (fun c => tx_a32 (by omega) (fun z' => ?_) (fun z' => ?_)) (fun h4' z' => ?_)
    · rw [ts_nx4 z h4 (by omega) z'] at h; exact h
    · rw [ts_nx3 z h4 hp z'] at h; exact h
    · refine br_t (nI_le (a := 3) (b := 3) (by omega) (by decide)) (tx_a32 (by omega) (fun z'' => ?_) (fun z'' => ?_))
      · rw [ts_nx6 z (by omega) z' z''] at h; exact h
      · rw [ts_nx5 z (by omega) hp z' z''] at h; exact h
theorem tx_below {q p : Nat} (hq : q < 84) (hp : p < 84) (h1 : ts_B q p → post 1) (h0 : ¬ ts_B q p → post 0) : wpX_standsBelow post (nI q) (nI p) := by
  refine ⟨3, br_f (nI_ge (a := 1) (b := 3) (by omega) (by decide)) ?_⟩
  by_cases h4 : q < 4
  · exact br_t (nI_lt (b := 4) h4 (by decide)) (h0 (by unfold ts_B; omega))
  · refine br_f (nI_nlt (b := 4) (by omega) (by omega)) (tx_par_t (by omega) (by omega) ?_)
    by_cases e : q / 4 - 1 = p
    · exact br_t (by rw [e]) (h1 (Or.inl ⟨by omega, e⟩))
    · refine br_f (fun z => e ((nI_eq (by omega) (by omega)).mp z)) (nm_r (nI_1 1) ?_)
      refine br_f (nI_ge (a := 2) (b := 3) (by omega) (by decide)) ?_
      by_cases h20 : q < 20
      · exact br_t (nI_lt (b := 4) (by omega) (by decide)) (h0 (by unfold ts_B; omega))
      · refine br_f (nI_nlt (b := 4) (by omega) (by omega)) (tx_par_t (by omega) (by omega) ?_)
        by_cases e' : (q / 4 - 1) / 4 - 1 = p
        · exact br_t (by rw [e']) (h1 (Or.inr ⟨by omega, e'⟩))
        · refine br_f (fun z => e' ((nI_eq (by omega) (by omega)).mp z)) (nm_r (nI_1 2) ?_)
          exact br_t (nI_le (a := 3) (b := 3) (by omega) (by decide)) (h0 (by unfold ts_B; omega))
theorem tx_levelOf {q : Nat} (hq : q < 84) (h : post (nI (ts_lq q))) : wpX_levelOf post (nI q) := by
  unfold ts_lq at h
  by_cases h4 : q < 4
  · rw [if_pos h4] at h; exact br_f (nI_ge (b := 4) h4 (by decide)) h
  · rw [if_neg h4] at h
    refine br_t (nI_le (a := 4) (by omega) (by omega)) ?_
    by_cases h20 : q < 20
    · rw [if_pos h20] at h; exact br_f (nI_ge (b := 20) h20 (by decide)) h
    · rw [if_neg h20] at h; exact br_t (nI_le (a := 20) (by omega) (by omega)) h
theorem ts_lq_le (q : Nat) : ts_lq q ≤ 2 := by unfold ts_lq; split; omega; split <;> omega
theorem tx_ref {s p q : Nat} (hs : s < 2) (hp : p < 84) (hq : q < 84) (h : post (ts_ref K s p q)) : wpX_refusalToPlace post (xf, xa, xc, K, N, kp, ap, ad, cp) (nI s) (nI p) (nI q) := by
  unfold wpX_refusalToPlace
  refine tx_side_t hs (br_f (by decide) (tx_path_t hp (br_f (by decide) (tx_path_t hq (br_f (by decide) (tx_kindAt (by omega) (by omega) ?_))))))
  rw [ts_rd_t hp]
  unfold ts_ref at h
  by_cases c1 : K (84 * s + p) = 0
  · rw [if_pos c1] at h; exact br_t c1 h
  rw [if_neg c1] at h
  refine br_f c1 (tx_folder (by omega) hq (fun F => ?_) (fun F => br_t rfl (by rw [if_neg F] at h; exact h)))
  rw [if_pos F] at h
  refine br_f (by decide) (tx_kindAt (by omega) (by omega) ?_)
  rw [ts_rd_t hq]
  by_cases c3 : K (84 * s + q) = 0
  · rw [if_pos c3] at h
    refine br_t c3 (tx_below hq hp (fun B => br_f (by decide) ?_) (fun B => br_t rfl (tx_levelOf hq (tx_levels (by omega) hp ?_))))
    · rw [if_pos (Or.inl B)] at h; exact h
    · have l1 := ts_lq_le q
      have l2 := ts_dp_le K s p 21
      have l3 := (ts_lv_up 21).2
      rw [nI_add]
      by_cases c4 : ts_lq q + ts_dp K s p 21 < 3
      · rw [if_neg (fun z => z.elim B (by omega))] at h
        exact br_t (nI_lt (b := 3) c4 (by decide)) h
      · rw [if_pos (Or.inr (by omega))] at h
        exact br_f (nI_nlt (b := 3) (by omega) (by omega)) h
  · rw [if_neg c3] at h; exact br_f c3 h
theorem tx_f35 {p : Nat} (hp : p < 84) (h3 : ts_SX K N 0 p 2 p → post 3) (h2 : ¬ ts_SX K N 0 p 2 p → ts_SX K N 1 p 2 p → post 2) (h4 : ¬ ts_SX K N 0 p 2 p → ¬ ts_SX K N 1 p 2 p → post 4) : wX_findingAt_35 post (nI p) xf xa xc K N kp ap ad cp := by
  unfold wX_findingAt_35
  refine tx_same (t := 0) (u := 2) (by omega) hp (by omega) hp (fun S => br_f (by decide) (h3 S)) (fun S => br_t rfl ?_)
  exact tx_same (t := 1) (u := 2) (by omega) hp (by omega) hp (fun T => br_f (by decide) (h2 S T)) (fun T => br_t rfl (h4 S T))
theorem tx_find {p : Nat} (hp : p < 84) (h0 : ts_SX K N 0 p 1 p → post 0) (h1 : ¬ ts_SX K N 0 p 1 p → K p = 2 → K (84 + p) = 2 → post 1) (h3 : ¬ ts_SX K N 0 p 1 p → ¬ (K p = 2 ∧ K (84 + p) = 2) → ts_SX K N 0 p 2 p → post 3) (h2 : ¬ ts_SX K N 0 p 1 p → ¬ (K p = 2 ∧ K (84 + p) = 2) → ¬ ts_SX K N 0 p 2 p → ts_SX K N 1 p 2 p → post 2) (h4 : ¬ ts_SX K N 0 p 1 p → ¬ (K p = 2 ∧ K (84 + p) = 2) → ¬ ts_SX K N 0 p 2 p → ¬ ts_SX K N 1 p 2 p → post 4) : wpX_findingAt post (xf, xa, xc, K, N, kp, ap, ad, cp) (nI p) := by
  unfold wpX_findingAt
  refine tx_same (t := 0) (u := 1) (by omega) hp (by omega) hp (fun S => br_f (by decide) (h0 S)) (fun S => br_t rfl (tx_kindAt (t := 0) (by omega) (by omega) ?_))
  rw [ts_rd_t hp, Nat.mul_zero, Nat.zero_add]
  by_cases c0 : K p = 2
  · refine br_t c0 (tx_kindAt (t := 1) (by omega) (by omega) ?_)
    rw [ts_rd_t hp, Nat.mul_one]
    by_cases c1 : K (84 + p) = 2
    · exact br_t c1 (h1 S c0 c1)
    · exact br_f c1 (tx_f35 hp (h3 S fun z => c1 z.2) (h2 S fun z => c1 z.2) (h4 S fun z => c1 z.2))
  · exact br_f c0 (tx_f35 hp (h3 S fun z => c0 z.1) (h2 S fun z => c0 z.1) (h4 S fun z => c0 z.1))
end
