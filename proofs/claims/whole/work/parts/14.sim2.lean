/-! plan against look -/
section
variable {pf : Int32} {kp K N B D : Nat → Int32}
theorem ts_sim2 (hpf : pf = -1 ∨ ∃ s : Nat, s < 2 ∧ pf = nI (1 - s)) : ∀ d p : Nat, p < 84 → 84 ≤ ts_ps p + d → ∀ (a seen c : Nat) (ap ad cp K' N' tk ap' ad' cp' : Nat → Int32), a ≤ ts_ps p → seen ≤ ts_ps p → c ≤ ts_ps p → (∀ t q, t < 3 → q < 84 → ts_ps p ≤ ts_ps q → ts_C K N K' N' (84 * t + q)) → (∀ i, 252 ≤ i → K' i = B i ∧ N' i = D i) → (∀ j, j < a → ap' j = ap j) → (∀ j, j < a → ad' j = ad j) → (∀ j, j < c → cp' j = cp j) → tk (ts_ht p) = nI p → ts_pl tk (ts_ht p) p → ts_F2 pf kp K N B D d a c (nI p) seen ap ad cp (nI (ts_ht p + 1)) K' N' tk ap' ad' cp' := by
  intro d
  induction d with
  | zero =>
    intro p hp hd
    have := (ts_f1 p hp).1
    omega
  | succ d ih =>
    intro p hp hd a seen c ap ad cp K' N' tk ap' ad' cp' ha hs hc C O la ld lc htk hpl
    obtain ⟨f1, f2, f3⟩ := ts_f1 p hp
    have NX : ∀ (a1 c1 : Nat) (apX adX cpX K1' N1' ap1 ad1 cp1 : Nat → Int32), a1 ≤ ts_ps p + 1 → c1 ≤ ts_ps p + 1 → (∀ i, ts_no 0 p i → ts_no 1 p i → ts_no 2 p i → K1' i = K' i ∧ N1' i = N' i) → (∀ j, j < a1 → ap1 j = apX j) → (∀ j, j < a1 → ad1 j = adX j) → (∀ j, j < c1 → cp1 j = cpX j) → ts_F2 pf kp K N B D d a1 c1 (ts_nxi p) (seen + 1) apX adX cpX (nI (ts_ht p)) K1' N1' tk ap1 ad1 cp1 := by
      intro a1 c1 apX adX cpX K1' N1' ap1 ad1 cp1 ha1 hc1 E la1 ld1 lc1
      have O1 : ∀ i, 252 ≤ i → K1' i = B i ∧ N1' i = D i := fun i hi => by
        obtain ⟨e1, e2⟩ := E i (ts_no_t (by omega)) (ts_no_t (by omega)) (ts_no_t (by omega))
        rw [e1, e2]; exact O i hi
      rcases f3 with e | e
      · have h0 := ts_f3 p hp e
        rw [ts_nxi_f e, h0]
        refine ⟨a1, c1, apX, adX, cpX, K1', N1', tk, ap1, ad1, cp1, by omega, by omega, O1, fun j hj => ⟨la1 j hj, ld1 j hj⟩, lc1, fun qost n hn h => ?_, fun qost n hn h => ?_⟩
        · obtain ⟨n, rfl⟩ : ∃ n', n = n' + 1 := ⟨n - 1, by omega⟩
          exact tx_pz (by decide) h
        · obtain ⟨n, rfl⟩ : ∃ n', n = n' + 1 := ⟨n - 1, by omega⟩
          exact ty_gz h
      · obtain ⟨g1, g2⟩ := ts_f2 p hp e
        rw [g2] at hpl
        rw [ts_nxi_t e, g2]
        refine ih (ts_nx p) e (by omega) a1 (seen + 1) c1 apX adX cpX K1' N1' tk ap1 ad1 cp1 (by omega) (by omega) (by omega) (fun t q ht hq hps => ?_) O1 la1 ld1 lc1 hpl.1 hpl.2.2
        have nn := fun u => ts_no_ps hp hq e hps u t
        obtain ⟨e1, e2⟩ := E (84 * t + q) (nn 0) (nn 1) (nn 2)
        exact ts_C_c (C t q ht hq (by omega)) rfl rfl e1 e2
    have Cp : ∀ t, t < 3 → ∀ j, j < 21 → ts_ch p j < 84 → ts_C K N K' N' (84 * t + ts_ch p j) := fun t ht j hj hcj => C t _ ht hcj (ts_f6 p hp j hj hcj).1
    have S01 : ts_SY K' N' 0 p 1 p ↔ ts_SX K N 0 p 1 p := ts_S_iff (Cp 0 (by omega)) (Cp 1 (by omega))
    have S02 : ts_SY K' N' 0 p 2 p ↔ ts_SX K N 0 p 2 p := ts_S_iff (Cp 0 (by omega)) (Cp 2 (by omega))
    have S12 : ts_SY K' N' 1 p 2 p ↔ ts_SX K N 1 p 2 p := ts_S_iff (Cp 1 (by omega)) (Cp 2 (by omega))
    have C0 : ts_C K N K' N' p := by
      have := C 0 p (by omega) hp (Nat.le_refl _)
      rw [Nat.mul_zero, Nat.zero_add] at this
      exact this
    have C1 : ts_C K N K' N' (84 + p) := C 1 p (by omega) hp (Nat.le_refl _)
    have E0 := C0.1
    have E1 := C1.1
    by_cases S : ts_SX K N 0 p 1 p
    · exact ts_F2_up (NX a c ap ad cp (ts_k0 K' p) (ts_cp N' 0 p 2 p 21) ap' ad' cp' (by omega) (by omega) (fun i _ _ n2 => ⟨ts_k0_fr n2, ts_cp_fr n2 21 (by omega)⟩) la ld lc)
        (fun qost n h => tx_p0 hp (by omega) S h) (fun qost n h => ty_g0 hp f2 htk (S01.mpr S) h)
    have S' : ¬ ts_SY K' N' 0 p 1 p := fun z => S (S01.mp z)
    by_cases F : K p = 2 ∧ K (84 + p) = 2
    · obtain ⟨F0, F1⟩ := F
      have h20 : p < 20 := ts_20 hp C0 C1 F0 F1 S
      obtain ⟨g1, g2, _⟩ := ts_f4 p h20
      have hp1 : ts_pl (ts_tk tk (ts_ht p) p) (ts_ht p + 3) (4 * p + 4) := by
        refine ts_pl_push h20 hpl (fun i hi => ?_) ?_ ?_ ?_
        · unfold ts_tk; rw [pk_un (by omega), pk_un (by omega), pk_un (by omega), pk_un (by omega)]
        · unfold ts_tk; rw [pk_un (by omega), pk_un (by omega), pk_un (by omega), pk_us]
        · unfold ts_tk; rw [pk_un (by omega), pk_un (by omega), pk_us]
        · unfold ts_tk; rw [pk_un (by omega), pk_us]
      have hq1 : ts_tk tk (ts_ht p) p (ts_ht p + 3) = nI (4 * p + 4) := pk_us
      rw [← g2] at hp1 hq1
      have I := ih (4 * p + 4) (by omega) (by omega) a (seen + 1) c ap ad cp (upd K' (168 + p) 2) N' (ts_tk tk (ts_ht p) p) ap' ad' cp' (by omega) (by omega) (by omega)
        (fun t q ht hq hps => by
          have hne : q ≠ p := fun z => by subst z; omega
          exact ts_C_c (C t q ht hq (by omega)) rfl rfl (pk_un (by omega)) rfl)
        (fun i hi => ⟨(pk_un (by omega)).trans (O i hi).1, (O i hi).2⟩) la ld lc hq1 hp1
      rw [g2] at I
      exact ts_F2_up I (fun qost n h => tx_p1 hp (by omega) S F0 F1 h) (fun qost n h => ty_g1 h20 f2 htk S' (E0.trans F0) (E1.trans F1) h)
    have F' : ¬ (K' p = 2 ∧ K' (84 + p) = 2) := fun z => F ⟨E0.symm.trans z.1, E1.symm.trans z.2⟩
    have L : ¬ nI a = 1000 := ts_ne1000 (by omega)
    by_cases T : ts_SX K N 0 p 2 p
    · exact ts_F2_up (NX (a + 1) c (upd ap a (nI p)) (upd ad a (nI 0)) cp (ts_k2 K' 0 p) (ts_n2 N' 0 p) (upd ap' a (nI p)) (upd ad' a (nI 0)) cp' (by omega) (by omega) (fun i n0 _ n2 => ⟨ts_k2_fr n0 n2, ts_n2_fr n0 n2⟩) (ts_ls la) (ts_ls ld) lc) (fun qost n h => tx_p3 hp (by omega) (by omega) S F T h) (fun qost n h => ty_gx hp f2 htk S' F' (ty_137_0 hp (by omega) (S02.mpr T) (fun z => absurd z L) (fun _ => h)))
    have T' : ¬ ts_SY K' N' 0 p 2 p := fun z => T (S02.mp z)
    by_cases U : ts_SX K N 1 p 2 p
    · exact ts_F2_up (NX (a + 1) c (upd ap a (nI p)) (upd ad a (nI 1)) cp (ts_k2 K' 1 p) (ts_n2 N' 1 p) (upd ap' a (nI p)) (upd ad' a (nI 1)) cp' (by omega) (by omega) (fun i _ n1 n2 => ⟨ts_k2_fr n1 n2, ts_n2_fr n1 n2⟩) (ts_ls la) (ts_ls ld) lc) (fun qost n h => tx_p2 hp (by omega) (by omega) S F T U h) (fun qost n h => ty_gx hp f2 htk S' F' (ty_137_1 hp (by omega) T' (S12.mpr U) (fun z => absurd z L) (fun _ => h)))
    have U' : ¬ ts_SY K' N' 1 p 2 p := fun z => U (S12.mp z)
    rcases hpf with rfl | ⟨s, hs2, rfl⟩
    · exact ts_F2_up (NX a (c + 1) ap ad (upd cp c (nI p)) K' N' ap' ad' (upd cp' c (nI p)) (by omega) (by omega) (fun i _ _ _ => ⟨rfl, rfl⟩) la ld (ts_ls lc)) (fun qost n h => tx_p4 hp (by omega) (by omega) S F T U h) (fun qost n h => ty_gx hp f2 htk S' F' (ty_137_n hp (by omega) T' U' h))
    · have hno : ∀ i, ts_no 0 p i → ts_no 1 p i → ts_no s p i := fun i n0 n1 => by
        obtain rfl | rfl : s = 0 ∨ s = 1 := by omega
        · exact n0
        · exact n1
      exact ts_F2_up (NX (a + 1) (c + 1) (upd ap a (nI p)) (upd ad a (nI s)) (upd cp c (nI p)) (ts_k2 K' s p) (ts_n2 N' s p) (upd ap' a (nI p)) (upd ad' a (nI s)) (upd cp' c (nI p)) (by omega) (by omega) (fun i n0 n1 n2 => ⟨ts_k2_fr (hno i n0 n1) n2, ts_n2_fr (hno i n0 n1) n2⟩) (ts_ls la) (ts_ls ld) (ts_ls lc)) (fun qost n h => tx_p5 hs2 hp (by omega) (by omega) (by omega) S F T U h) (fun qost n h => ty_gx hp f2 htk S' F' (ty_137_c hs2 hp (by omega) (by omega) T' U' (fun z => absurd z L) (fun _ => h)))
end
/-! look: the trees aside and back -/
def ts_b3 (A : Nat → Int32) : Nat → Int32 := ts_ct (ts_ct (ts_ct A 0 6 84) 1 7 84) 2 8 84
def ts_b4 (A : Nat → Int32) : Nat → Int32 := ts_ct (ts_ct (ts_ct A 6 0 84) 7 1 84) 8 2 84
theorem ts_b3_lo {A : Nat → Int32} {i : Nat} (hi : i < 504) : ts_b3 A i = A i := by
  unfold ts_b3
  rw [ts_ct_fr (fun m hm => by omega) 84 (by omega), ts_ct_fr (fun m hm => by omega) 84 (by omega), ts_ct_fr (fun m hm => by omega) 84 (by omega)]
theorem ts_b3_6 {A : Nat → Int32} {c : Nat} (hc : c < 84) : ts_b3 A (84 * 6 + c) = A (84 * 0 + c) := by
  unfold ts_b3
  rw [ts_ct_fr (fun m hm => by omega) 84 (by omega), ts_ct_fr (fun m hm => by omega) 84 (by omega), ts_ct_tg (by omega) 84 (by omega) hc]
theorem ts_b3_7 {A : Nat → Int32} {c : Nat} (hc : c < 84) : ts_b3 A (84 * 7 + c) = A (84 * 1 + c) := by
  unfold ts_b3
  rw [ts_ct_fr (fun m hm => by omega) 84 (by omega), ts_ct_tg (by omega) 84 (by omega) hc, ts_ct_fr (fun m hm => by omega) 84 (by omega)]
theorem ts_b3_8 {A : Nat → Int32} {c : Nat} (hc : c < 84) : ts_b3 A (84 * 8 + c) = A (84 * 2 + c) := by
  unfold ts_b3
  rw [ts_ct_tg (by omega) 84 (by omega) hc, ts_ct_fr (fun m hm => by omega) 84 (by omega), ts_ct_fr (fun m hm => by omega) 84 (by omega)]
theorem ts_b4_lo {A F : Nat → Int32} (h : ∀ i, 252 ≤ i → F i = ts_b3 A i) {i : Nat} (hi : i < 504) : ts_b4 F i = A i := by
  by_cases h0 : i < 84
  · obtain ⟨c, rfl⟩ : ∃ c, i = 84 * 0 + c := ⟨i, by omega⟩
    unfold ts_b4
    rw [ts_ct_fr (fun m hm => by omega) 84 (by omega), ts_ct_fr (fun m hm => by omega) 84 (by omega), ts_ct_tg (by omega) 84 (by omega) (by omega), h _ (by omega), ts_b3_6 (by omega)]
  · by_cases h1 : i < 168
    · obtain ⟨c, rfl⟩ : ∃ c, i = 84 * 1 + c := ⟨i - 84, by omega⟩
      unfold ts_b4
      rw [ts_ct_fr (fun m hm => by omega) 84 (by omega), ts_ct_tg (by omega) 84 (by omega) (by omega), ts_ct_fr (fun m hm => by omega) 84 (by omega), h _ (by omega), ts_b3_7 (by omega)]
    · by_cases h2 : i < 252
      · obtain ⟨c, rfl⟩ : ∃ c, i = 84 * 2 + c := ⟨i - 168, by omega⟩
        unfold ts_b4
        rw [ts_ct_tg (by omega) 84 (by omega) (by omega), ts_ct_fr (fun m hm => by omega) 84 (by omega), ts_ct_fr (fun m hm => by omega) 84 (by omega), h _ (by omega), ts_b3_8 (by omega)]
      · unfold ts_b4
        rw [ts_ct_fr (fun m hm => by omega) 84 (by omega), ts_ct_fr (fun m hm => by omega) 84 (by omega), ts_ct_fr (fun m hm => by omega) 84 (by omega), h _ (by omega), ts_b3_lo hi]
section
variable {qost : SY → Prop} {yf ya yc : Int32} {K N kp tk ap ad cp : Nat → Int32}
theorem ty_lk {t n : Nat} (ht : t < 3) (h : wY_look_2 qost n (nI (t + 1)) yf ya yc (ts_ct K t (6 + t) 84) (ts_ct N t (6 + t) 84) kp tk ap ad cp) : wY_look_2 qost (n + 1) (nI t) yf ya yc K N kp tk ap ad cp := by
  have e : (6 : Int32) + nI t = nI (6 + t) := nI_add 6 t
  refine br_f (nI_ge (b := 3) ht (by decide)) ?_
  rw [e]
  exact ty_copyTree (by omega) (by omega) (nm_r (nI_1 t) h)
theorem ty_lk' {t n : Nat} (ht : t < 3) (h : wY_look_31 qost n (nI (t + 1)) yf ya yc (ts_ct K (6 + t) t 84) (ts_ct N (6 + t) t 84) kp tk ap ad cp) : wY_look_31 qost (n + 1) (nI t) yf ya yc K N kp tk ap ad cp := by
  have e : (6 : Int32) + nI t = nI (6 + t) := nI_add 6 t
  refine br_f (nI_ge (b := 3) ht (by decide)) ?_
  rw [e]
  exact ty_copyTree (by omega) (by omega) (nm_r (nI_1 t) h)
end
theorem ts_look {pf xa xc ya yc : Int32} {K N kp ap ad cp K' N' tk ap' ad' cp' : Nat → Int32} (hpf : pf = -1 ∨ ∃ s : Nat, s < 2 ∧ pf = nI (1 - s)) (R : ts_R K N K' N') : ∃ (a2 c2 : Nat) (apF adF cpF KF' NF' tkF apG adG cpG : Nat → Int32), a2 ≤ 84 ∧ c2 ≤ 84 ∧ ts_R K N KF' NF' ∧ (∀ j, j < a2 → apG j = apF j ∧ adG j = adF j) ∧ (∀ j, j < c2 → cpG j = cpF j) ∧
    (∀ qost : SX → Prop, qost (pf, nI a2, nI c2, K, N, kp, apF, adF, cpF) → wpX_plan qost (pf, xa, xc, K, N, kp, ap, ad, cp)) ∧
    (∀ qost : SY → Prop, qost (pf, nI a2, nI c2, KF', NF', kp, tkF, apG, adG, cpG) → wpY_look qost (pf, ya, yc, K', N', kp, tk, ap', ad', cp')) := by
  obtain ⟨a2, c2, apF, adF, cpF, KF', NF', tkF, apG, adG, cpG, h1, h2, h3, h4, h5, gX, gY⟩ := ts_sim2 (kp := kp) (K := K) (N := N) (B := ts_b3 K') (D := ts_b3 N') hpf 84 0 (by omega) (by omega) 0 0 0 ap ad cp (ts_b3 K') (ts_b3 N') (ts_t4 tk) ap' ad' cp' (by omega) (by omega) (by omega) (fun t q ht hq _ => ts_C_c (R (84 * t + q) (by omega)) rfl rfl (ts_b3_lo (by omega)) (ts_b3_lo (by omega))) (fun i _ => ⟨rfl, rfl⟩) (fun j hj => absurd hj (by omega)) (fun j hj => absurd hj (by omega)) (fun j hj => absurd hj (by omega)) rfl (ts_pl_0 rfl rfl rfl)
  refine ⟨a2, c2, apF, adF, cpF, ts_b4 KF', ts_b4 NF', tkF, apG, adG, cpG, h1, h2, fun i hi => ts_C_c (R i hi) rfl rfl (ts_b4_lo (fun i hi => (h3 i hi).1) hi) (ts_b4_lo (fun i hi => (h3 i hi).2) hi), h4, h5, fun qost h => ⟨85, gX qost 85 (by omega) h⟩, fun qost h => ?_⟩
  refine ⟨4, ty_lk (t := 0) (by omega) (ty_lk (t := 1) (by omega) (ty_lk (t := 2) (by omega) (br_t (by decide) (ty_start ⟨85, gY _ 85 (by omega) ?_⟩))))⟩
  exact ⟨4, ty_lk' (t := 0) (by omega) (ty_lk' (t := 1) (by omega) (ty_lk' (t := 2) (by omega) (br_t (by decide) h)))⟩
