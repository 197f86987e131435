/-! one turn of Y's goOver, case by case -/
/-- both copies of an action: from side 1 - s to side s and to the last tree (Y's kinds are emptied first) -/
def ts_n2 (A : Nat → Int32) (s p : Nat) : Nat → Int32 := ts_cp (ts_cp A (1 - s) p s p 21) (1 - s) p 2 p 21
def ts_k2 (A : Nat → Int32) (s p : Nat) : Nat → Int32 := ts_cp (ts_em (ts_cp (ts_em A s p 21) (1 - s) p s p 21) 2 p 21) (1 - s) p 2 p 21
def ts_k0 (A : Nat → Int32) (p : Nat) : Nat → Int32 := ts_cp (ts_em A 2 p 21) 0 p 2 p 21
/-- Y's pile with what stands in p on it -/
def ts_tk (A : Nat → Int32) (h p : Nat) : Nat → Int32 := upd (upd (upd (upd A h (nI (4 * p + 7))) (h + 1) (nI (4 * p + 6))) (h + 2) (nI (4 * p + 5))) (h + 3) (nI (4 * p + 4))
theorem ts_1s {s : Nat} (hs : s < 2) : 1 - nI s = nI (1 - s) := by
  show nI 1 - nI s = _
  exact pk_sub (by omega)
section
variable {qost : SY → Prop} {rost : Int32 → SY → Prop} {yf ya yc m : Int32} {K N kp tk ap ad cp : Nat → Int32}
theorem ty_act {s p a : Nat} (hs : s < 2) (hp : p < 84) (ha : a < 84) (h0 : nI a = m → rost 0 (yf, nI a, yc, K, N, kp, tk, ap, ad, cp)) (h1 : ¬ nI a = m → rost 1 (yf, nI (a + 1), yc, ts_k2 K s p, ts_n2 N s p, kp, tk, upd ap a (nI p), upd ad a (nI s), cp)) : wpY_act rost (yf, nI a, yc, K, N, kp, tk, ap, ad, cp) (nI s) (nI p) m := by
  refine ⟨h0, fun z => ?_⟩
  rw [ts_1s hs]
  refine ty_put (by omega) hp (by omega) hp (ty_put (u := 2) (by omega) hp (by omega) hp ?_)
  refine ⟨vp_in_nI (by omega) (by decide), nm_r (e' := upd ap a (nI p)) (by rw [nI_clamp (by omega)]) ⟨vp_in_nI (by omega) (by decide), nm_r (e' := upd ad a (nI s)) (by rw [nI_clamp (by omega)]) (nm_r (nI_1 a) (h1 z))⟩⟩
variable {J : Int32 → Int32 → Int32 → Int32 → (Nat → Int32) → (Nat → Int32) → (Nat → Int32) → (Nat → Int32) → (Nat → Int32) → (Nat → Int32) → (Nat → Int32) → Prop}
theorem ty_push {p h : Nat} (hp : p < 20) (hh : h ≤ 9) (hJ : J (nI (h + 4)) yf ya yc K N kp (ts_tk tk h p) ap ad cp) : wY_goOver_107 qost J m (nI p) 1 yf ya yc 5 (nI h) 3 K N kp tk ap ad cp := by
  refine br_f (by decide) (ty_child_t (n := 3) hp ⟨vp_in_nI (by omega) (by decide), nm_r (e' := upd tk h (nI (4 * p + 7))) (by rw [nI_clamp (by omega)]) (nm_r (nI_1 h) (nm_r (pk_m1 2) ?_))⟩)
  refine br_f (by decide) (ty_child_t (n := 2) hp ⟨vp_in_nI (by omega) (by decide), nm_r (e' := upd (upd tk h (nI (4 * p + 7))) (h + 1) (nI (4 * p + 6))) (by rw [nI_clamp (by omega)]) (nm_r (nI_1 (h + 1)) (nm_r (pk_m1 1) ?_))⟩)
  refine br_f (by decide) (ty_child_t (n := 1) hp ⟨vp_in_nI (by omega) (by decide), nm_r (e' := upd (upd (upd tk h (nI (4 * p + 7))) (h + 1) (nI (4 * p + 6))) (h + 2) (nI (4 * p + 5))) (by rw [nI_clamp (by omega)]) (nm_r (nI_1 (h + 2)) (nm_r (pk_m1 0) ?_))⟩)
  refine br_f (by decide) (ty_child_t (n := 0) hp ⟨vp_in_nI (by omega) (by decide), nm_r (e' := ts_tk tk h p) (by rw [nI_clamp (by omega)]; rfl) (nm_r (nI_1 (h + 3)) (nm_r (e' := -1) (by decide) ?_))⟩)
  exact br_t (by decide) (br_f (by decide) hJ)
theorem ty_137_0 {p h a : Nat} (hp : p < 84) (ha : a < 84) (T : ts_SY K N 0 p 2 p) (h0 : nI a = m → J 0 yf (nI a) yc K N kp tk ap ad cp) (h1 : ¬ nI a = m → J (nI h) yf (nI (a + 1)) yc (ts_k2 K 0 p) (ts_n2 N 0 p) kp tk (upd ap a (nI p)) (upd ad a (nI 0)) cp) : wY_goOver_137 qost J m (nI h) (nI p) yf (nI a) yc K N kp tk ap ad cp := by
  unfold wY_goOver_137
  refine ty_same (t := 0) (u := 2) (by omega) hp (by omega) hp (fun _ => br_f (by decide) ?_) (fun z => absurd T z)
  exact ty_act (s := 0) (by omega) hp ha (fun z => br_t rfl (h0 z)) (fun z => br_f (by decide) (h1 z))
theorem ty_137_1 {p h a : Nat} (hp : p < 84) (ha : a < 84) (T : ¬ ts_SY K N 0 p 2 p) (U : ts_SY K N 1 p 2 p) (h0 : nI a = m → J 0 yf (nI a) yc K N kp tk ap ad cp) (h1 : ¬ nI a = m → J (nI h) yf (nI (a + 1)) yc (ts_k2 K 1 p) (ts_n2 N 1 p) kp tk (upd ap a (nI p)) (upd ad a (nI 1)) cp) : wY_goOver_137 qost J m (nI h) (nI p) yf (nI a) yc K N kp tk ap ad cp := by
  unfold wY_goOver_137
  refine ty_same (t := 0) (u := 2) (by omega) hp (by omega) hp (fun z => absurd z T) (fun _ => br_t rfl ?_)
  refine ty_same (t := 1) (u := 2) (by omega) hp (by omega) hp (fun _ => br_f (by decide) ?_) (fun z => absurd U z)
  exact ty_act (s := 1) (by omega) hp ha (fun z => br_t rfl (h0 z)) (fun z => br_f (by decide) (h1 z))
theorem ty_137_n {p h a c : Nat} (hp : p < 84) (hc : c < 84) (T : ¬ ts_SY K N 0 p 2 p) (U : ¬ ts_SY K N 1 p 2 p) (h1 : J (nI h) (-1) (nI a) (nI (c + 1)) K N kp tk ap ad (upd cp c (nI p))) : wY_goOver_137 qost J m (nI h) (nI p) (-1) (nI a) (nI c) K N kp tk ap ad cp := by
  unfold wY_goOver_137
  refine ty_same (t := 0) (u := 2) (by omega) hp (by omega) hp (fun z => absurd z T) (fun _ => br_t rfl ?_)
  refine ty_same (t := 1) (u := 2) (by omega) hp (by omega) hp (fun z => absurd z U) (fun _ => br_t rfl ?_)
  refine ⟨vp_in_nI (by omega) (by decide), nm_r (e' := upd cp c (nI p)) (by rw [nI_clamp (by omega)]) (nm_r (nI_1 c) (br_t (by decide) ?_))⟩
  exact br_f (by decide) h1
theorem ty_137_c {p h a c s : Nat} (hs : s < 2) (hp : p < 84) (ha : a < 84) (hc : c < 84) (T : ¬ ts_SY K N 0 p 2 p) (U : ¬ ts_SY K N 1 p 2 p) (h0 : nI a = m → J 0 (nI (1 - s)) (nI a) (nI (c + 1)) K N kp tk ap ad (upd cp c (nI p))) (h1 : ¬ nI a = m → J (nI h) (nI (1 - s)) (nI (a + 1)) (nI (c + 1)) (ts_k2 K s p) (ts_n2 N s p) kp tk (upd ap a (nI p)) (upd ad a (nI s)) (upd cp c (nI p))) : wY_goOver_137 qost J m (nI h) (nI p) (nI (1 - s)) (nI a) (nI c) K N kp tk ap ad cp := by
  unfold wY_goOver_137
  refine ty_same (t := 0) (u := 2) (by omega) hp (by omega) hp (fun z => absurd z T) (fun _ => br_t rfl ?_)
  refine ty_same (t := 1) (u := 2) (by omega) hp (by omega) hp (fun z => absurd z U) (fun _ => br_t rfl ?_)
  refine ⟨vp_in_nI (by omega) (by decide), nm_r (e' := upd cp c (nI p)) (by rw [nI_clamp (by omega)]) (nm_r (nI_1 c) (br_f (nI_pos (by omega)) ?_))⟩
  rw [ts_1s (by omega), show 1 - (1 - s) = s from by omega]
  exact ty_act hs hp ha (fun z => br_t rfl (br_t rfl (h0 z))) (fun z => br_f (by decide) (br_f (by decide) (h1 z)))
variable {n h p : Nat}
theorem ty_g0 (hp : p < 84) (hh : h ≤ 9) (htk : tk h = nI p) (S : ts_SY K N 0 p 1 p) (hW : wY_goOver_34 qost m n (nI h) yf ya yc (ts_k0 K p) (ts_cp N 0 p 2 p 21) kp tk ap ad cp) : wY_goOver_34 qost m (n + 1) (nI (h + 1)) yf ya yc K N kp tk ap ad cp := by
  refine br_f (nI_nle (by omega) (by omega)) (nm_r (pk_m1 h) ⟨vp_in_nI (by omega) (by decide), nm_r (e' := nI p) (by rw [nI_clamp (by omega)]; exact htk) ?_⟩)
  refine ty_same (t := 0) (u := 1) (by omega) hp (by omega) hp (fun _ => br_f (by decide) (ty_put (t := 0) (u := 2) (by omega) hp (by omega) hp ?_)) (fun z => absurd S z)
  exact br_f (by decide) hW
theorem ty_g1 (hp : p < 20) (hh : h ≤ 9) (htk : tk h = nI p) (S : ¬ ts_SY K N 0 p 1 p) (F0 : K p = 2) (F1 : K (84 + p) = 2) (hW : wY_goOver_34 qost m n (nI (h + 4)) yf ya yc (upd K (168 + p) 2) N kp (ts_tk tk h p) ap ad cp) : wY_goOver_34 qost m (n + 1) (nI (h + 1)) yf ya yc K N kp tk ap ad cp := by
  refine br_f (nI_nle (by omega) (by omega)) (nm_r (pk_m1 h) ⟨vp_in_nI (by omega) (by decide), nm_r (e' := nI p) (by rw [nI_clamp (by omega)]; exact htk) ?_⟩)
  refine ty_same (t := 0) (u := 1) (by omega) (by omega) (by omega) (by omega) (fun z => absurd z S) (fun _ => br_t rfl (ty_kindAt (t := 0) (by omega) (by omega) ?_))
  rw [Nat.mul_zero, Nat.zero_add]
  refine br_t F0 (ty_kindAt (t := 1) (by omega) (by omega) ?_)
  rw [Nat.mul_one]
  have e : (168 : Int32) + nI p = nI (168 + p) := nI_add 168 p
  rw [e]
  exact br_t F1 ⟨vp_in_nI (by omega) (by decide), nm_r (e' := upd K (168 + p) 2) (by rw [nI_clamp (by omega)]) ⟨5, ty_push hp hh hW⟩⟩
theorem ty_gx (hp : p < 84) (hh : h ≤ 9) (htk : tk h = nI p) (S : ¬ ts_SY K N 0 p 1 p) (F : ¬ (K p = 2 ∧ K (84 + p) = 2)) (H : wY_goOver_137 qost (wY_goOver_34 qost m n) m (nI h) (nI p) yf ya yc K N kp tk ap ad cp) : wY_goOver_34 qost m (n + 1) (nI (h + 1)) yf ya yc K N kp tk ap ad cp := by
  refine br_f (nI_nle (by omega) (by omega)) (nm_r (pk_m1 h) ⟨vp_in_nI (by omega) (by decide), nm_r (e' := nI p) (by rw [nI_clamp (by omega)]; exact htk) ?_⟩)
  refine ty_same (t := 0) (u := 1) (by omega) hp (by omega) hp (fun z => absurd z S) (fun _ => br_t rfl (ty_kindAt (t := 0) (by omega) hp ?_))
  rw [Nat.mul_zero, Nat.zero_add]
  by_cases F0 : K p = 2
  · refine br_t F0 (ty_kindAt (t := 1) (by omega) hp ?_)
    rw [Nat.mul_one]
    exact br_f (fun z => F ⟨F0, z⟩) H
  · exact br_f F0 H
theorem ty_gz (h : qost (yf, ya, yc, K, N, kp, tk, ap, ad, cp)) : wY_goOver_34 qost m (n + 1) (nI 0) yf ya yc K N kp tk ap ad cp :=
  br_t (by decide) h
/-- goOver begins with the four uppermost paths on the pile -/
def ts_t4 (A : Nat → Int32) : Nat → Int32 := upd (upd (upd (upd A 0 (nI 3)) 1 (nI 2)) 2 (nI 1)) 3 (nI 0)
theorem ty_start (H : ∃ n, wY_goOver_34 qost m n (nI 4) yf (nI 0) (nI 0) K N kp (ts_t4 tk) ap ad cp) : wpY_goOver qost (yf, ya, yc, K, N, kp, tk, ap, ad, cp) m := by
  refine ⟨5, br_f (by decide) ⟨vp_in_nI (n := 0) (by omega) (by decide), nm_r (e' := upd tk 0 (nI 3)) rfl (nm_r (nI_1 0) ?_)⟩⟩
  refine br_f (by decide) ⟨vp_in_nI (n := 1) (by omega) (by decide), nm_r (e' := upd (upd tk 0 (nI 3)) 1 (nI 2)) rfl (nm_r (nI_1 1) ?_)⟩
  refine br_f (by decide) ⟨vp_in_nI (n := 2) (by omega) (by decide), nm_r (e' := upd (upd (upd tk 0 (nI 3)) 1 (nI 2)) 2 (nI 1)) rfl (nm_r (nI_1 2) ?_)⟩
  refine br_f (by decide) ⟨vp_in_nI (n := 3) (by omega) (by decide), nm_r (e' := ts_t4 tk) rfl (nm_r (nI_1 3) ?_)⟩
  exact br_t (by decide) H
end
