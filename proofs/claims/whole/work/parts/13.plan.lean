/-! X's plan, one turn, case by case; then plan against look -/
section
variable {qost : SX → Prop} {pf xa xc : Int32} {K N kp ap ad cp : Nat → Int32} {n p seen a c : Nat}
theorem tx_p0 (hp : p < 84) (hs : seen < 84) (S : ts_SX K N 0 p 1 p) (hW : wX_plan_14 qost pf n (ts_nxi p) (nI (seen + 1)) xa xc K N kp ap ad cp) : wX_plan_14 qost pf (n + 1) (nI p) (nI seen) xa xc K N kp ap ad cp := by
  refine br_f (nI_ge (b := 84) hs (by decide)) (tx_path_t hp (br_f (by decide) (tx_find0 hp S ?_)))
  refine br_f (by decide) (br_f (by decide) (br_f (by decide) ?_))
  exact br_t rfl (br_f (by decide) (br_f (by decide) (tx_after hp (nm_r (nI_1 seen) hW))))
theorem tx_p1 (hp : p < 84) (hs : seen < 84) (S : ¬ ts_SX K N 0 p 1 p) (F0 : K p = 2) (F1 : K (84 + p) = 2) (hW : wX_plan_14 qost pf n (nI (4 * p + 4)) (nI (seen + 1)) xa xc K N kp ap ad cp) : wX_plan_14 qost pf (n + 1) (nI p) (nI seen) xa xc K N kp ap ad cp := by
  refine br_f (nI_ge (b := 84) hs (by decide)) (tx_path_t hp (br_f (by decide) (tx_find1 hp S F0 F1 ?_)))
  refine br_f (by decide) (br_f (by decide) (br_f (by decide) ?_))
  exact br_t rfl (br_f (by decide) (br_t rfl (tx_first (nm_r (nI_1 seen) hW))))
theorem tx_p3 (hp : p < 84) (hs : seen < 84) (ha : a < 84) (S : ¬ ts_SX K N 0 p 1 p) (F : ¬ (K p = 2 ∧ K (84 + p) = 2)) (T : ts_SX K N 0 p 2 p) (hW : wX_plan_14 qost pf n (ts_nxi p) (nI (seen + 1)) (nI (a + 1)) xc K N kp (upd ap a (nI p)) (upd ad a (nI 0)) cp) : wX_plan_14 qost pf (n + 1) (nI p) (nI seen) (nI a) xc K N kp ap ad cp := by
  refine br_f (nI_ge (b := 84) hs (by decide)) (tx_path_t hp (br_f (by decide) (tx_find3 hp S F T ?_)))
  refine br_t rfl (br_f (by decide) ⟨vp_in_nI ha (by decide), nm_r (e' := upd ap a (nI p)) (by rw [nI_clamp (by omega)]) ⟨vp_in_nI ha (by decide), nm_r (e' := upd ad a (nI 0)) (by rw [nI_clamp (by omega)]; rfl) (nm_r (nI_1 a) ?_)⟩⟩)
  exact br_f (by decide) (br_f (by decide) (tx_after hp (nm_r (nI_1 seen) hW)))
theorem tx_p2 (hp : p < 84) (hs : seen < 84) (ha : a < 84) (S : ¬ ts_SX K N 0 p 1 p) (F : ¬ (K p = 2 ∧ K (84 + p) = 2)) (T : ¬ ts_SX K N 0 p 2 p) (U : ts_SX K N 1 p 2 p) (hW : wX_plan_14 qost pf n (ts_nxi p) (nI (seen + 1)) (nI (a + 1)) xc K N kp (upd ap a (nI p)) (upd ad a (nI 1)) cp) : wX_plan_14 qost pf (n + 1) (nI p) (nI seen) (nI a) xc K N kp ap ad cp := by
  refine br_f (nI_ge (b := 84) hs (by decide)) (tx_path_t hp (br_f (by decide) (tx_find2 hp S F T U ?_)))
  refine br_f (by decide) (br_t rfl (br_f (by decide) ⟨vp_in_nI ha (by decide), nm_r (e' := upd ap a (nI p)) (by rw [nI_clamp (by omega)]) ⟨vp_in_nI ha (by decide), nm_r (e' := upd ad a (nI 1)) (by rw [nI_clamp (by omega)]; rfl) (nm_r (nI_1 a) ?_)⟩⟩))
  exact br_f (by decide) (br_f (by decide) (tx_after hp (nm_r (nI_1 seen) hW)))
theorem tx_p4 (hp : p < 84) (hs : seen < 84) (hc : c < 84) (S : ¬ ts_SX K N 0 p 1 p) (F : ¬ (K p = 2 ∧ K (84 + p) = 2)) (T : ¬ ts_SX K N 0 p 2 p) (U : ¬ ts_SX K N 1 p 2 p) (hW : wX_plan_14 qost (-1) n (ts_nxi p) (nI (seen + 1)) xa (nI (c + 1)) K N kp ap ad (upd cp c (nI p))) : wX_plan_14 qost (-1) (n + 1) (nI p) (nI seen) xa (nI c) K N kp ap ad cp := by
  refine br_f (nI_ge (b := 84) hs (by decide)) (tx_path_t hp (br_f (by decide) (tx_find4 hp S F T U ?_)))
  refine br_f (by decide) (br_f (by decide) (br_t rfl (br_t rfl ?_)))
  refine br_t rfl (br_t rfl ⟨vp_in_nI hc (by decide), nm_r (e' := upd cp c (nI p)) (by rw [nI_clamp (by omega)]) (nm_r (nI_1 c) ?_)⟩)
  exact br_f (by decide) (tx_after hp (nm_r (nI_1 seen) hW))
theorem tx_p5 {s : Nat} (hs2 : s < 2) (hp : p < 84) (hs : seen < 84) (ha : a < 84) (hc : c < 84) (S : ¬ ts_SX K N 0 p 1 p) (F : ¬ (K p = 2 ∧ K (84 + p) = 2)) (T : ¬ ts_SX K N 0 p 2 p) (U : ¬ ts_SX K N 1 p 2 p) (hW : wX_plan_14 qost (nI (1 - s)) n (ts_nxi p) (nI (seen + 1)) (nI (a + 1)) (nI (c + 1)) K N kp (upd ap a (nI p)) (upd ad a (nI s)) (upd cp c (nI p))) : wX_plan_14 qost (nI (1 - s)) (n + 1) (nI p) (nI seen) (nI a) (nI c) K N kp ap ad cp := by
  refine br_f (nI_ge (b := 84) hs (by decide)) (tx_path_t hp (br_f (by decide) (tx_find4 hp S F T U ?_)))
  refine br_f (by decide) (br_f (by decide) (br_t rfl (br_f (ts_m1 (by omega)) ?_)))
  rw [ts_1s (show 1 - s < 2 by omega), show 1 - (1 - s) = s from by omega]
  refine br_f (ts_m1 (by omega)) ⟨vp_in_nI ha (by decide), nm_r (e' := upd ap a (nI p)) (by rw [nI_clamp (by omega)]) ⟨vp_in_nI ha (by decide), nm_r (e' := upd ad a (nI s)) (by rw [nI_clamp (by omega)]) (nm_r (nI_1 a) ?_)⟩⟩
  refine br_t rfl ⟨vp_in_nI hc (by decide), nm_r (e' := upd cp c (nI p)) (by rw [nI_clamp (by omega)]) (nm_r (nI_1 c) ?_)⟩
  exact br_f (by decide) (tx_after hp (nm_r (nI_1 seen) hW))
theorem tx_pz {P : Int32} (hP : P < 0) (h : qost (pf, xa, xc, K, N, kp, ap, ad, cp)) : wX_plan_14 qost pf (n + 1) P (nI seen) xa xc K N kp ap ad cp :=
  ⟨fun _ => h, fun _ => tx_path_f (Or.inl hP) (br_t rfl h)⟩
end
/-- from here both sides come to the same lists; Y's trees from 3 on are B and D -/
def ts_F2 (pf : Int32) (kp K N B D : Nat → Int32) (d a c : Nat) (P : Int32) (seen : Nat) (ap ad cp : Nat → Int32) (x : Int32) (K' N' tk ap' ad' cp' : Nat → Int32) : Prop :=
  ∃ (a2 c2 : Nat) (apF adF cpF KF' NF' tkF apG adG cpG : Nat → Int32), a2 ≤ 84 ∧ c2 ≤ 84 ∧ (∀ i, 252 ≤ i → KF' i = B i ∧ NF' i = D i) ∧ (∀ j, j < a2 → apG j = apF j ∧ adG j = adF j) ∧ (∀ j, j < c2 → cpG j = cpF j) ∧
    (∀ (qost : SX → Prop) (n : Nat), d < n → qost (pf, nI a2, nI c2, K, N, kp, apF, adF, cpF) → wX_plan_14 qost pf n P (nI seen) (nI a) (nI c) K N kp ap ad cp) ∧
    (∀ (qost : SY → Prop) (n : Nat), d < n → qost (pf, nI a2, nI c2, KF', NF', kp, tkF, apG, adG, cpG) → wY_goOver_34 qost 1000 n x pf (nI a) (nI c) K' N' kp tk ap' ad' cp')
theorem ts_F2_up {pf : Int32} {kp K N B D : Nat → Int32} {d a a1 seen seen1 c c1 : Nat} {P P1 x x1 : Int32} {ap ad cp K' N' tk ap' ad' cp' apX adX cpX K1' N1' tk1 ap1 ad1 cp1 : Nat → Int32} (F : ts_F2 pf kp K N B D d a1 c1 P1 seen1 apX adX cpX x1 K1' N1' tk1 ap1 ad1 cp1)
    (hX : ∀ (qost : SX → Prop) (n : Nat), wX_plan_14 qost pf n P1 (nI seen1) (nI a1) (nI c1) K N kp apX adX cpX → wX_plan_14 qost pf (n + 1) P (nI seen) (nI a) (nI c) K N kp ap ad cp)
    (hY : ∀ (qost : SY → Prop) (n : Nat), wY_goOver_34 qost 1000 n x1 pf (nI a1) (nI c1) K1' N1' kp tk1 ap1 ad1 cp1 → wY_goOver_34 qost 1000 (n + 1) x pf (nI a) (nI c) K' N' kp tk ap' ad' cp') :
    ts_F2 pf kp K N B D (d + 1) a c P seen ap ad cp x K' N' tk ap' ad' cp' := by
  obtain ⟨a2, c2, apF, adF, cpF, KF', NF', tkF, apG, adG, cpG, h1, h2, h3, h4, h5, gX, gY⟩ := F
  refine ⟨a2, c2, apF, adF, cpF, KF', NF', tkF, apG, adG, cpG, h1, h2, h3, h4, h5, fun qost n hn h => ?_, fun qost n hn h => ?_⟩
  · obtain ⟨n, rfl⟩ : ∃ n', n = n' + 1 := ⟨n - 1, by omega⟩
    exact hX qost n (gX qost n (by omega) h)
  · obtain ⟨n, rfl⟩ : ∃ n', n = n' + 1 := ⟨n - 1, by omega⟩
    exact hY qost n (gY qost n (by omega) h)
theorem ts_k0_fr {A : Nat → Int32} {p i : Nat} (h2 : ts_no 2 p i) : ts_k0 A p i = A i := by
  unfold ts_k0
  rw [ts_cp_fr h2 21 (by omega), ts_em_fr h2 21 (by omega)]
theorem ts_n2_fr {A : Nat → Int32} {s p i : Nat} (h : ts_no s p i) (h2 : ts_no 2 p i) : ts_n2 A s p i = A i := by
  unfold ts_n2
  rw [ts_cp_fr h2 21 (by omega), ts_cp_fr h 21 (by omega)]
theorem ts_k2_fr {A : Nat → Int32} {s p i : Nat} (h : ts_no s p i) (h2 : ts_no 2 p i) : ts_k2 A s p i = A i := by
  unfold ts_k2
  rw [ts_cp_fr h2 21 (by omega), ts_em_fr h2 21 (by omega), ts_cp_fr h 21 (by omega), ts_em_fr h 21 (by omega)]
theorem ts_no_ps {p q : Nat} (hp : p < 84) (hq : q < 84) (hn : ts_nx p < 84) (h : ts_ps (ts_nx p) ≤ ts_ps q) (u t : Nat) : ts_no u p (84 * t + q) := by
  intro j hj hc e
  obtain rfl : q = ts_ch p j := by omega
  have := (ts_f6 p hp j hj hc).2 hn
  omega
theorem ts_ne1000 {a : Nat} (ha : a < 84) : ¬ nI a = 1000 := fun z => by
  have := (nI_eq (a := a) (b := 1000) (by omega) (by omega)).mp z
  omega
theorem ts_ls {A B : Nat → Int32} {a : Nat} {x : Int32} (h : ∀ j, j < a → A j = B j) : ∀ j, j < a + 1 → upd A a x j = upd B a x j := by
  intro j hj
  by_cases e : j = a
  · subst e; rw [pk_us, pk_us]
  · rw [pk_un e, pk_un e]; exact h j (by omega)
