/-! carryOut against goOver -/
section
variable {lim m pf xa xc : Int32} {kp ap ad cp : Nat → Int32}
theorem ts_nxi_t {p : Nat} (h : ts_nx p < 84) : ts_nxi p = nI (ts_nx p) := if_pos h
theorem ts_nxi_f {p : Nat} (h : ts_nx p = 1000) : ts_nxi p = -1 := if_neg (by omega)
theorem ts_sim1 (hl : ∀ a : Nat, a < 84 → (nI a = lim ↔ nI a = m)) (hpf : pf = -1 ∨ ∃ s : Nat, s < 2 ∧ pf = nI (1 - s)) : ∀ d p : Nat, p < 84 → 84 ≤ ts_ps p + d → ∀ (a seen c : Nat) (K N K' N' tk ap' ad' cp' : Nat → Int32), a ≤ ts_ps p → seen ≤ ts_ps p → c ≤ ts_ps p → ts_R K N K' N' → ts_W K → ts_A K p → tk (ts_ht p) = nI p → ts_pl tk (ts_ht p) p → ts_F1 lim m pf xa xc kp ap ad cp d a (nI p) seen K N (nI (ts_ht p + 1)) c K' N' tk ap' ad' cp' := by
  intro d
  induction d with
  | zero =>
    intro p hp hd
    have := (ts_f1 p hp).1
    omega
  | succ d ih =>
    intro p hp hd a seen c K N K' N' tk ap' ad' cp' ha hs hc R W A htk hpl
    obtain ⟨f1, f2, f3⟩ := ts_f1 p hp
    -- on to the next path
    have NX : ∀ (a1 c1 : Nat) (K1 N1 K1' N1' ap1 ad1 cp1 : Nat → Int32), a1 ≤ ts_ps p + 1 → c1 ≤ ts_ps p + 1 → ts_R K1 N1 K1' N1' → ts_W K1 → ts_A K1 p → ts_F1 lim m pf xa xc kp ap ad cp d a1 (ts_nxi p) (seen + 1) K1 N1 (nI (ts_ht p)) c1 K1' N1' tk ap1 ad1 cp1 := by
      intro a1 c1 K1 N1 K1' N1' ap1 ad1 cp1 ha1 hc1 R1 W1 A1
      rcases f3 with e | e
      · have h0 := ts_f3 p hp e
        rw [ts_nxi_f e, h0]
        refine ⟨a1, c1, K1, N1, K1', N1', tk, ap1, ad1, cp1, R1, W1, fun rost n hn h => ?_, fun qost n hn h => ?_⟩
        · obtain ⟨n, rfl⟩ : ∃ n', n = n' + 1 := ⟨n - 1, by omega⟩
          exact tx_cz (by decide) h
        · obtain ⟨n, rfl⟩ : ∃ n', n = n' + 1 := ⟨n - 1, by omega⟩
          exact ty_gz h
      · obtain ⟨g1, g2⟩ := ts_f2 p hp e
        rw [g2] at hpl
        rw [ts_nxi_t e, g2]
        exact ih (ts_nx p) e (by omega) a1 (seen + 1) c1 K1 N1 K1' N1' tk ap1 ad1 cp1 (by omega) (by omega) (by omega) R1 W1 (ts_A_nx hp e A1) hpl.1 hpl.2.2
    have S01 := ts_S_R R (t := 0) (p := p) (u := 1) (q := p) (by omega) (by omega)
    have S02 := ts_S_R R (t := 0) (p := p) (u := 2) (q := p) (by omega) (by omega)
    have S12 := ts_S_R R (t := 1) (p := p) (u := 2) (q := p) (by omega) (by omega)
    have E0 : K' p = K p := (R p (by omega)).1
    have E1 : K' (84 + p) = K (84 + p) := (R (84 + p) (by omega)).1
    by_cases S : ts_SX K N 0 p 1 p
    · exact ts_F1_up (NX a c (ts_cp K 0 p 2 p 21) (ts_cp N 0 p 2 p 21) (ts_k0 K' p) (ts_cp N' 0 p 2 p 21) ap' ad' cp' (by omega) (by omega) (ts_R_cp R (ts_dj_ne p p (by omega)) (by omega)) (ts_W_cp2 W 0 p) (ts_A_cp2 A))
        (fun rost n h => tx_c0 hp (by omega) S h) (fun qost n h => ty_g0 hp f2 htk (S01.mpr S) h)
    have S' : ¬ ts_SY K' N' 0 p 1 p := fun z => S (S01.mp z)
    by_cases F : K p = 2 ∧ K (84 + p) = 2
    · obtain ⟨F0, F1⟩ := F
      have h20 : p < 20 := ts_20 hp (R p (by omega)) (R (84 + p) (by omega)) F0 F1 S
      obtain ⟨g1, g2, _⟩ := ts_f4 p h20
      have e2 : 84 * 2 + p = 168 + p := by omega
      have R1 : ts_R (ts_st K 2 p 2) (ts_st N 2 p 0) (upd K' (168 + p) 2) N' := by
        rw [ts_st_t hp, ts_st_t hp, e2]
        exact ts_R_up R (Or.inr (Or.inr rfl)) (y := 0) (by rw [pk_us, if_neg (by decide)]) (fun z => absurd z (by decide)) (fun j hj => pk_un hj) (fun _ _ => rfl)
      have W1 : ts_W (ts_st K 2 p 2) := ts_W_2 W fun i _ hn => ts_st_n (fun _ => by omega)
      have A1 : ts_A (ts_st K 2 p 2) (4 * p + 4) := by
        refine ts_A_ch h20 (ts_A_c A fun t c ht hc => ts_st_n (fun _ => by omega)) ?_ ?_
        · rw [ts_st_n (fun _ => by omega)]; exact F0
        · rw [ts_st_n (fun _ => by omega)]; exact F1
      have hp1 : ts_pl (ts_tk tk (ts_ht p) p) (ts_ht p + 3) (4 * p + 4) := by
        refine ts_pl_push h20 hpl (fun i hi => ?_) ?_ ?_ ?_
        · unfold ts_tk; rw [pk_un (by omega), pk_un (by omega), pk_un (by omega), pk_un (by omega)]
        · unfold ts_tk; rw [pk_un (by omega), pk_un (by omega), pk_un (by omega), pk_us]
        · unfold ts_tk; rw [pk_un (by omega), pk_un (by omega), pk_us]
        · unfold ts_tk; rw [pk_un (by omega), pk_us]
      have hq1 : ts_tk tk (ts_ht p) p (ts_ht p + 3) = nI (4 * p + 4) := pk_us
      rw [← g2] at hp1 hq1
      have I := ih (4 * p + 4) (by omega) (by omega) a (seen + 1) c (ts_st K 2 p 2) (ts_st N 2 p 0) (upd K' (168 + p) 2) N' (ts_tk tk (ts_ht p) p) ap' ad' cp' (by omega) (by omega) (by omega) R1 W1 A1 hq1 hp1
      rw [g2] at I
      exact ts_F1_up I (fun rost n h => tx_c1 hp (by omega) S F0 F1 h) (fun qost n h => ty_g1 h20 f2 htk S' (E0.trans F0) (E1.trans F1) h)
    have F' : ¬ (K' p = 2 ∧ K' (84 + p) = 2) := fun z => F ⟨E0.symm.trans z.1, E1.symm.trans z.2⟩
    -- an action at p
    have R2 : ∀ s, s < 2 → ts_R (ts_n2 K s p) (ts_n2 N s p) (ts_k2 K' s p) (ts_n2 N' s p) := fun s hs2 => ts_R_n2 R hs2
    have W2 : ∀ s, s < 2 → ts_W (ts_n2 K s p) := fun s hs2 => ts_W_n2 W hs2 hp A
    by_cases T : ts_SX K N 0 p 2 p
    · by_cases L : nI a = lim
      · exact ts_F1_z (c1 := c) (cp1 := cp') R W (fun rost n h => tx_c3 hp (by omega) S F T (fun _ => h) (fun z => absurd L z)) (fun qost n h => ty_gx hp f2 htk S' F' (ty_137_0 hp (by omega) (S02.mpr T) (fun _ => ty_gz h) (fun z => absurd ((hl a (by omega)).mp L) z)))
      · exact ts_F1_up (NX (a + 1) c (ts_n2 K 0 p) (ts_n2 N 0 p) (ts_k2 K' 0 p) (ts_n2 N' 0 p) (upd ap' a (nI p)) (upd ad' a (nI 0)) cp' (by omega) (by omega) (R2 0 (by omega)) (W2 0 (by omega)) (ts_A_n2 A)) (fun rost n h => tx_c3 hp (by omega) S F T (fun z => absurd z L) (fun _ => h)) (fun qost n h => ty_gx hp f2 htk S' F' (ty_137_0 hp (by omega) (S02.mpr T) (fun z => absurd ((hl a (by omega)).mpr z) L) (fun _ => h)))
    have T' : ¬ ts_SY K' N' 0 p 2 p := fun z => T (S02.mp z)
    by_cases U : ts_SX K N 1 p 2 p
    · by_cases L : nI a = lim
      · exact ts_F1_z (c1 := c) (cp1 := cp') R W (fun rost n h => tx_c2 hp (by omega) S F T U (fun _ => h) (fun z => absurd L z)) (fun qost n h => ty_gx hp f2 htk S' F' (ty_137_1 hp (by omega) T' (S12.mpr U) (fun _ => ty_gz h) (fun z => absurd ((hl a (by omega)).mp L) z)))
      · exact ts_F1_up (NX (a + 1) c (ts_n2 K 1 p) (ts_n2 N 1 p) (ts_k2 K' 1 p) (ts_n2 N' 1 p) (upd ap' a (nI p)) (upd ad' a (nI 1)) cp' (by omega) (by omega) (R2 1 (by omega)) (W2 1 (by omega)) (ts_A_n2 A)) (fun rost n h => tx_c2 hp (by omega) S F T U (fun z => absurd z L) (fun _ => h)) (fun qost n h => ty_gx hp f2 htk S' F' (ty_137_1 hp (by omega) T' (S12.mpr U) (fun z => absurd ((hl a (by omega)).mpr z) L) (fun _ => h)))
    have U' : ¬ ts_SY K' N' 1 p 2 p := fun z => U (S12.mp z)
    rcases hpf with rfl | ⟨s, hs2, rfl⟩
    · exact ts_F1_up (NX a (c + 1) K N K' N' ap' ad' (upd cp' c (nI p)) (by omega) (by omega) R W A) (fun rost n h => tx_c4 hp (by omega) S F T U h) (fun qost n h => ty_gx hp f2 htk S' F' (ty_137_n hp (by omega) T' U' h))
    · by_cases L : nI a = lim
      · exact ts_F1_z (c1 := c + 1) (cp1 := upd cp' c (nI p)) R W (fun rost n h => tx_c5 hs2 hp (by omega) S F T U (fun _ => h) (fun z => absurd L z)) (fun qost n h => ty_gx hp f2 htk S' F' (ty_137_c hs2 hp (by omega) (by omega) T' U' (fun _ => ty_gz h) (fun z => absurd ((hl a (by omega)).mp L) z)))
      · exact ts_F1_up (NX (a + 1) (c + 1) (ts_n2 K s p) (ts_n2 N s p) (ts_k2 K' s p) (ts_n2 N' s p) (upd ap' a (nI p)) (upd ad' a (nI s)) (upd cp' c (nI p)) (by omega) (by omega) (R2 s hs2) (W2 s hs2) (ts_A_n2 A)) (fun rost n h => tx_c5 hs2 hp (by omega) S F T U (fun z => absurd z L) (fun _ => h)) (fun qost n h => ty_gx hp f2 htk S' F' (ty_137_c hs2 hp (by omega) (by omega) T' U' (fun z => absurd ((hl a (by omega)).mpr z) L) (fun _ => h)))
/-- both walks as a whole -/
theorem ts_step {ya yc : Int32} {K N K' N' tk ap' ad' cp' : Nat → Int32} (hl : ∀ a : Nat, a < 84 → (nI a = lim ↔ nI a = m)) (hpf : pf = -1 ∨ ∃ s : Nat, s < 2 ∧ pf = nI (1 - s)) (R : ts_R K N K' N') (W : ts_W K) : ∃ (r c2 : Nat) (KF NF KF' NF' tkF apF adF cpF : Nat → Int32), ts_R KF NF KF' NF' ∧ ts_W KF ∧
    (∀ rost : Int32 → SX → Prop, rost (nI r) (pf, xa, xc, KF, NF, kp, ap, ad, cp) → wpX_carryOut rost (pf, xa, xc, K, N, kp, ap, ad, cp) lim) ∧
    (∀ qost : SY → Prop, qost (pf, nI r, nI c2, KF', NF', kp, tkF, apF, adF, cpF) → wpY_goOver qost (pf, ya, yc, K', N', kp, tk, ap', ad', cp') m) := by
  obtain ⟨r, c2, KF, NF, KF', NF', tkF, apF, adF, cpF, RF, WF, hX, hY⟩ := ts_sim1 (xa := xa) (xc := xc) (kp := kp) (ap := ap) (ad := ad) (cp := cp) hl hpf 84 0 (by omega) (by omega) 0 0 0 K N K' N' (ts_t4 tk) ap' ad' cp' (by omega) (by omega) (by omega) R W (fun _ _ h => absurd h (by omega)) rfl (ts_pl_0 rfl rfl rfl)
  exact ⟨r, c2, KF, NF, KF', NF', tkF, apF, adF, cpF, RF, WF, fun rost h => ⟨85, hX rost 85 (by omega) h⟩, fun qost h => ty_start ⟨85, hY qost 85 (by omega) h⟩⟩
end
