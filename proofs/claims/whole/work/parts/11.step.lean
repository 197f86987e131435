/-! X's carryOut, one turn, case by case; then carryOut against goOver -/
section
variable {post : Int32 → Prop} {rost : Int32 → SX → Prop} {xf xa xc lim : Int32} {K N kp ap ad cp : Nat → Int32} {n done p seen : Nat}
theorem tx_find0 (hp : p < 84) (S : ts_SX K N 0 p 1 p) (h : post 0) : wpX_findingAt post (xf, xa, xc, K, N, kp, ap, ad, cp) (nI p) :=
  tx_find hp (fun _ => h) (fun y => absurd S y) (fun y => absurd S y) (fun y => absurd S y) (fun y => absurd S y)
theorem tx_find1 (hp : p < 84) (S : ¬ ts_SX K N 0 p 1 p) (F0 : K p = 2) (F1 : K (84 + p) = 2) (h : post 1) : wpX_findingAt post (xf, xa, xc, K, N, kp, ap, ad, cp) (nI p) :=
  tx_find hp (fun y => absurd y S) (fun _ _ _ => h) (fun _ y => absurd ⟨F0, F1⟩ y) (fun _ y => absurd ⟨F0, F1⟩ y) (fun _ y => absurd ⟨F0, F1⟩ y)
theorem tx_find3 (hp : p < 84) (S : ¬ ts_SX K N 0 p 1 p) (F : ¬ (K p = 2 ∧ K (84 + p) = 2)) (T : ts_SX K N 0 p 2 p) (h : post 3) : wpX_findingAt post (xf, xa, xc, K, N, kp, ap, ad, cp) (nI p) :=
  tx_find hp (fun y => absurd y S) (fun _ y z => absurd ⟨y, z⟩ F) (fun _ _ _ => h) (fun _ _ y => absurd T y) (fun _ _ y => absurd T y)
theorem tx_find2 (hp : p < 84) (S : ¬ ts_SX K N 0 p 1 p) (F : ¬ (K p = 2 ∧ K (84 + p) = 2)) (T : ¬ ts_SX K N 0 p 2 p) (U : ts_SX K N 1 p 2 p) (h : post 2) : wpX_findingAt post (xf, xa, xc, K, N, kp, ap, ad, cp) (nI p) :=
  tx_find hp (fun y => absurd y S) (fun _ y z => absurd ⟨y, z⟩ F) (fun _ _ y => absurd y T) (fun _ _ _ _ => h) (fun _ _ _ y => absurd U y)
theorem tx_find4 (hp : p < 84) (S : ¬ ts_SX K N 0 p 1 p) (F : ¬ (K p = 2 ∧ K (84 + p) = 2)) (T : ¬ ts_SX K N 0 p 2 p) (U : ¬ ts_SX K N 1 p 2 p) (h : post 4) : wpX_findingAt post (xf, xa, xc, K, N, kp, ap, ad, cp) (nI p) :=
  tx_find hp (fun y => absurd y S) (fun _ y z => absurd ⟨y, z⟩ F) (fun _ _ y => absurd y T) (fun _ _ _ y => absurd y U) (fun _ _ _ _ => h)
theorem tx_c0 (hp : p < 84) (hs : seen < 84) (S : ts_SX K N 0 p 1 p) (hW : wX_carryOut_7 rost lim n (nI done) (ts_nxi p) (nI (seen + 1)) xf xa xc (ts_cp K 0 p 2 p 21) (ts_cp N 0 p 2 p 21) kp ap ad cp) : wX_carryOut_7 rost lim (n + 1) (nI done) (nI p) (nI seen) xf xa xc K N kp ap ad cp := by
  refine br_f (nI_ge (b := 84) hs (by decide)) (tx_path_t hp (br_f (by decide) (tx_find0 hp S ?_)))
  refine br_f (by decide) (br_f (by decide) (br_f (by decide) ?_))
  refine br_t rfl (br_t rfl (tx_copy (t := 0) (u := 2) (by omega) hp (by omega) hp ?_))
  exact br_f (by decide) (tx_after hp (nm_r (nI_1 seen) hW))
theorem tx_c1 (hp : p < 84) (hs : seen < 84) (S : ¬ ts_SX K N 0 p 1 p) (F0 : K p = 2) (F1 : K (84 + p) = 2) (hW : wX_carryOut_7 rost lim n (nI done) (nI (4 * p + 4)) (nI (seen + 1)) xf xa xc (ts_st K 2 p 2) (ts_st N 2 p 0) kp ap ad cp) : wX_carryOut_7 rost lim (n + 1) (nI done) (nI p) (nI seen) xf xa xc K N kp ap ad cp := by
  refine br_f (nI_ge (b := 84) hs (by decide)) (tx_path_t hp (br_f (by decide) (tx_find1 hp S F0 F1 ?_)))
  refine br_f (by decide) (br_f (by decide) (br_f (by decide) ?_))
  refine br_t rfl (br_f (by decide) (br_t rfl (tx_setEntry (t := 2) (by omega) (by omega) ?_)))
  exact br_t rfl (tx_first (nm_r (nI_1 seen) hW))
theorem tx_c4 (hp : p < 84) (hs : seen < 84) (S : ¬ ts_SX K N 0 p 1 p) (F : ¬ (K p = 2 ∧ K (84 + p) = 2)) (T : ¬ ts_SX K N 0 p 2 p) (U : ¬ ts_SX K N 1 p 2 p) (hW : wX_carryOut_7 rost lim n (nI done) (ts_nxi p) (nI (seen + 1)) (-1) xa xc K N kp ap ad cp) : wX_carryOut_7 rost lim (n + 1) (nI done) (nI p) (nI seen) (-1) xa xc K N kp ap ad cp := by
  refine br_f (nI_ge (b := 84) hs (by decide)) (tx_path_t hp (br_f (by decide) (tx_find4 hp S F T U ?_)))
  refine br_f (by decide) (br_f (by decide) (br_t rfl (br_t rfl ?_)))
  refine br_t rfl (br_f (by decide) (br_f (by decide) ?_))
  exact br_f (by decide) (tx_after hp (nm_r (nI_1 seen) hW))
theorem tx_c3 (hp : p < 84) (hs : seen < 84) (S : ¬ ts_SX K N 0 p 1 p) (F : ¬ (K p = 2 ∧ K (84 + p) = 2)) (T : ts_SX K N 0 p 2 p) (h0 : nI done = lim → rost (nI done) (xf, xa, xc, K, N, kp, ap, ad, cp)) (hW : ¬ nI done = lim → wX_carryOut_7 rost lim n (nI (done + 1)) (ts_nxi p) (nI (seen + 1)) xf xa xc (ts_n2 K 0 p) (ts_n2 N 0 p) kp ap ad cp) : wX_carryOut_7 rost lim (n + 1) (nI done) (nI p) (nI seen) xf xa xc K N kp ap ad cp := by
  refine br_f (nI_ge (b := 84) hs (by decide)) (tx_path_t hp (br_f (by decide) (tx_find3 hp S F T ?_)))
  refine br_t rfl (br_f (by decide) ⟨h0, fun z => ?_⟩)
  rw [show (1 : Int32) - 0 = nI 1 from by decide]
  refine tx_copy (u := 0) (by omega) hp (by omega) hp (tx_copy (u := 2) (by omega) hp (by omega) hp (nm_r (nI_1 done) ?_))
  exact br_f (by decide) (tx_after hp (nm_r (nI_1 seen) (hW z)))
theorem tx_c2 (hp : p < 84) (hs : seen < 84) (S : ¬ ts_SX K N 0 p 1 p) (F : ¬ (K p = 2 ∧ K (84 + p) = 2)) (T : ¬ ts_SX K N 0 p 2 p) (U : ts_SX K N 1 p 2 p) (h0 : nI done = lim → rost (nI done) (xf, xa, xc, K, N, kp, ap, ad, cp)) (hW : ¬ nI done = lim → wX_carryOut_7 rost lim n (nI (done + 1)) (ts_nxi p) (nI (seen + 1)) xf xa xc (ts_n2 K 1 p) (ts_n2 N 1 p) kp ap ad cp) : wX_carryOut_7 rost lim (n + 1) (nI done) (nI p) (nI seen) xf xa xc K N kp ap ad cp := by
  refine br_f (nI_ge (b := 84) hs (by decide)) (tx_path_t hp (br_f (by decide) (tx_find2 hp S F T U ?_)))
  refine br_f (by decide) (br_t rfl (br_f (by decide) ⟨h0, fun z => ?_⟩))
  rw [show (1 : Int32) - 1 = nI 0 from by decide]
  refine tx_copy (u := 1) (by omega) hp (by omega) hp (tx_copy (u := 2) (by omega) hp (by omega) hp (nm_r (nI_1 done) ?_))
  exact br_f (by decide) (tx_after hp (nm_r (nI_1 seen) (hW z)))
theorem tx_c5 {s : Nat} (hs2 : s < 2) (hp : p < 84) (hs : seen < 84) (S : ¬ ts_SX K N 0 p 1 p) (F : ¬ (K p = 2 ∧ K (84 + p) = 2)) (T : ¬ ts_SX K N 0 p 2 p) (U : ¬ ts_SX K N 1 p 2 p) (h0 : nI done = lim → rost (nI done) (nI (1 - s), xa, xc, K, N, kp, ap, ad, cp)) (hW : ¬ nI done = lim → wX_carryOut_7 rost lim n (nI (done + 1)) (ts_nxi p) (nI (seen + 1)) (nI (1 - s)) xa xc (ts_n2 K s p) (ts_n2 N s p) kp ap ad cp) : wX_carryOut_7 rost lim (n + 1) (nI done) (nI p) (nI seen) (nI (1 - s)) xa xc K N kp ap ad cp := by
  refine br_f (nI_ge (b := 84) hs (by decide)) (tx_path_t hp (br_f (by decide) (tx_find4 hp S F T U ?_)))
  refine br_f (by decide) (br_f (by decide) (br_t rfl (br_f (ts_m1 (by omega)) ?_)))
  rw [ts_1s (show 1 - s < 2 by omega), show 1 - (1 - s) = s from by omega]
  refine br_f (ts_m1 (by omega)) ⟨h0, fun z => ?_⟩
  rw [ts_1s hs2]
  refine tx_copy (by omega) hp (by omega) hp (tx_copy (u := 2) (by omega) hp (by omega) hp (nm_r (nI_1 done) ?_))
  exact br_f (by decide) (tx_after hp (nm_r (nI_1 seen) (hW z)))
theorem tx_cz {P : Int32} (hP : P < 0) (h : rost (nI done) (xf, xa, xc, K, N, kp, ap, ad, cp)) : wX_carryOut_7 rost lim (n + 1) (nI done) P (nI seen) xf xa xc K N kp ap ad cp :=
  ⟨fun _ => h, fun _ => tx_path_f (Or.inl hP) (br_t rfl h)⟩
end
/-- from here both sides come to one answer and to related states (d: how many turns at most) -/
def ts_F1 (lim m pf xa xc : Int32) (kp ap ad cp : Nat → Int32) (d a : Nat) (P : Int32) (seen : Nat) (K N : Nat → Int32) (x : Int32) (c : Nat) (K' N' tk ap' ad' cp' : Nat → Int32) : Prop :=
  ∃ (r c2 : Nat) (KF NF KF' NF' tkF apF adF cpF : Nat → Int32), ts_R KF NF KF' NF' ∧ ts_W KF ∧
    (∀ (rost : Int32 → SX → Prop) (n : Nat), d < n → rost (nI r) (pf, xa, xc, KF, NF, kp, ap, ad, cp) → wX_carryOut_7 rost lim n (nI a) P (nI seen) pf xa xc K N kp ap ad cp) ∧
    (∀ (qost : SY → Prop) (n : Nat), d < n → qost (pf, nI r, nI c2, KF', NF', kp, tkF, apF, adF, cpF) → wY_goOver_34 qost m n x pf (nI a) (nI c) K' N' kp tk ap' ad' cp')
section
variable {lim m pf xa xc : Int32} {kp ap ad cp : Nat → Int32}
theorem ts_F1_up {d a a1 seen seen1 c c1 : Nat} {P P1 x x1 : Int32} {K N K' N' tk ap' ad' cp' K1 N1 K1' N1' tk1 ap1 ad1 cp1 : Nat → Int32} (F : ts_F1 lim m pf xa xc kp ap ad cp d a1 P1 seen1 K1 N1 x1 c1 K1' N1' tk1 ap1 ad1 cp1)
    (hX : ∀ (rost : Int32 → SX → Prop) (n : Nat), wX_carryOut_7 rost lim n (nI a1) P1 (nI seen1) pf xa xc K1 N1 kp ap ad cp → wX_carryOut_7 rost lim (n + 1) (nI a) P (nI seen) pf xa xc K N kp ap ad cp)
    (hY : ∀ (qost : SY → Prop) (n : Nat), wY_goOver_34 qost m n x1 pf (nI a1) (nI c1) K1' N1' kp tk1 ap1 ad1 cp1 → wY_goOver_34 qost m (n + 1) x pf (nI a) (nI c) K' N' kp tk ap' ad' cp') :
    ts_F1 lim m pf xa xc kp ap ad cp (d + 1) a P seen K N x c K' N' tk ap' ad' cp' := by
  obtain ⟨r, c2, KF, NF, KF', NF', tkF, apF, adF, cpF, R, W, gX, gY⟩ := F
  refine ⟨r, c2, KF, NF, KF', NF', tkF, apF, adF, cpF, R, W, fun rost n hn h => ?_, fun qost n hn h => ?_⟩
  · obtain ⟨n, rfl⟩ : ∃ n', n = n' + 1 := ⟨n - 1, by omega⟩
    exact hX rost n (gX rost n (by omega) h)
  · obtain ⟨n, rfl⟩ : ∃ n', n = n' + 1 := ⟨n - 1, by omega⟩
    exact hY qost n (gY qost n (by omega) h)
theorem ts_F1_z {d a seen c c1 : Nat} {P x : Int32} {K N K' N' tk ap' ad' cp' cp1 : Nat → Int32} (R : ts_R K N K' N') (W : ts_W K)
    (hX : ∀ (rost : Int32 → SX → Prop) (n : Nat), rost (nI a) (pf, xa, xc, K, N, kp, ap, ad, cp) → wX_carryOut_7 rost lim (n + 1) (nI a) P (nI seen) pf xa xc K N kp ap ad cp)
    (hY : ∀ (qost : SY → Prop) (n : Nat), qost (pf, nI a, nI c1, K', N', kp, tk, ap', ad', cp1) → wY_goOver_34 qost m (n + 2) x pf (nI a) (nI c) K' N' kp tk ap' ad' cp') :
    ts_F1 lim m pf xa xc kp ap ad cp (d + 1) a P seen K N x c K' N' tk ap' ad' cp' := by
  refine ⟨a, c1, K, N, K', N', tk, ap', ad', cp1, R, W, fun rost n hn h => ?_, fun qost n hn h => ?_⟩
  · obtain ⟨n, rfl⟩ : ∃ n', n = n' + 1 := ⟨n - 1, by omega⟩
    exact hX rost n h
  · obtain ⟨n, rfl⟩ : ∃ n', n = n' + 2 := ⟨n - 2, by omega⟩
    exact hY qost n h
end
/-! what an action leaves of R, W and A -/
theorem ts_R_n2 {k n k' n' : Nat → Int32} (R : ts_R k n k' n') {s p : Nat} (hs : s < 2) : ts_R (ts_n2 k s p) (ts_n2 n s p) (ts_k2 k' s p) (ts_n2 n' s p) :=
  ts_R_cp (ts_R_cp R (ts_dj_ne p p (by omega)) (by omega)) (ts_dj_ne p p (by omega)) (by omega)
theorem ts_W_cp2 {k : Nat → Int32} (W : ts_W k) (t p : Nat) : ts_W (ts_cp k t p 2 p 21) :=
  ts_W_2 W fun i _ hn => ts_cp_fr (ts_no_t (by omega)) 21 (by omega)
theorem ts_W_n2 {k : Nat → Int32} (W : ts_W k) {s p : Nat} (hs : s < 2) (hp : p < 84) (A : ts_A k p) : ts_W (ts_n2 k s p) :=
  ts_W_cp2 (ts_W_cp W (ts_dj_ne p p (by omega)) (by omega) (by omega) hp fun h4 => (A s hs h4).1) _ _
theorem ts_A_n2 {k : Nat → Int32} {s p : Nat} (A : ts_A k p) : ts_A (ts_n2 k s p) p := by
  refine ts_A_c A fun t c _ hc => ?_
  unfold ts_n2
  rw [ts_cp_fr (fun j _ _ z => by have := ts_ch_ge p j; omega) 21 (by omega), ts_cp_fr (fun j _ _ z => by have := ts_ch_ge p j; omega) 21 (by omega)]
theorem ts_A_cp2 {k : Nat → Int32} {t p : Nat} (A : ts_A k p) : ts_A (ts_cp k t p 2 p 21) p :=
  ts_A_c A fun t c _ hc => ts_cp_fr (fun j _ _ z => by have := ts_ch_ge p j; omega) 21 (by omega)
