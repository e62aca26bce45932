-- remove
section
variable {c o j e : Nat} {P K : Nat → Nat} {V : Nat → Int32}
theorem tp_xmdP (hT : tp_T c o P K) (hd : 0 < j) (hb : tp_fb c P j e) {fs f0 f1 : Int64} {pa ka va : Nat → Int32} (hA : tp_AX c P K V pa ka va) {post : SX → Prop}
    (h : ∀ pa ka va, tp_AX (c - (e - j)) (tp_rP c j e (e - j) P) (tp_rK j (e - j) K) (tp_rV j (e - j) V) pa ka va → post (nI (c - (e - j)), nI (tp_rf e (e - j) o), fs, f0, f1, pa, ka, va)) :
    wpX_moveDown post (nI c, nI o, fs, f0, f1, pa, ka, va) (nI e) (nI e - nI j) := by
  have hb' := hb
  obtain ⟨b1, b2, b3, b4⟩ := hb'
  rw [pk_sub (by omega)]
  refine ⟨c + 1, tp_xmd hT hd hb rfl h (c + 1) e pa ka va (by omega) (by omega) b2 ?_ ?_⟩
  · rw [show e - (e - j) = j by omega]
    exact tp_AX_eq (by omega) (tp_r_lo P K V) hA
  · exact fun i h1 h2 => ⟨hA.1.2 i (by omega) h2, hA.2.1 i h2, hA.2.2 i h2⟩
theorem tp_ymdP (hT : tp_T c o P K) (hd : 0 < j) (hb : tp_fb c P j e) {fs : Int64} {pa te wo : Nat → Int32} {kp : Nat → Int64} (hA : tp_AY c P K V pa te wo) {post : Int32 → SY → Prop}
    (h : ∀ pa te wo kp, tp_AY (c - (e - j)) (tp_rP c j e (e - j) P) (tp_rK j (e - j) K) (tp_rV j (e - j) V) pa te wo → kp 0 = 0 → kp 1 = 0 → post (nI (c - (e - j))) (nI (c - (e - j)), nI (tp_rf e (e - j) o), 1, pa, te, wo, kp)) :
    ∃ n, wY_remove_69 post (nI e) (nI (e - j)) (nI c) (nI o) fs n (nI e) pa te wo kp := by
  have hb' := hb
  obtain ⟨b1, b2, b3, b4⟩ := hb'
  refine ⟨c + 1, tp_ymd hT hd hb rfl h (c + 1) e pa te wo kp (by omega) (by omega) b2 ?_ ?_⟩
  · rw [show e - (e - j) = j by omega]
    exact tp_AY_eq (by omega) (tp_r_lo P K V) hA
  · exact fun i h1 h2 => ⟨hA.1.2 i (by omega) h2, hA.2.1 i h2, hA.2.2.1 i h2, hA.2.2.2 i h2⟩
theorem tp_yrmNo (hT : tp_T c o P K) {fs : Int64} {pa te wo : Nat → Int32} {kp : Nat → Int64} (hA : tp_AY c P K V pa te wo) {post : Int32 → SY → Prop} (hj : j < 2 ^ 31) (hn : j = 0 ∨ c ≤ j ∨ j = o ∨ tp_B P j o = true)
    (h : post (-1) (nI c, nI o, fs, pa, te, wo, kp)) : wpY_remove post (nI c, nI o, fs, pa, te, wo, kp) (nI j) := by
  have hc := hT.2.1
  have hoc := hT.2.2.1 c (by have := hT.1; omega)
  rw [hT.2.2.2.1] at hoc
  refine pk_lt j 1 (fun _ => h) (fun z => pk_le c j (fun _ => h) (fun y => pk_eq j o (fun _ => h) (fun e => tp_yB hT hA.1 y hoc (tp_zt (fun b => ?_) (fun _ => h)))))
  exfalso
  rcases hn with hn | hn | hn | hn
  · omega
  · omega
  · omega
  · rw [b] at hn; cases hn
theorem tp_yrmGo (hT : tp_T c o P K) (hd : 0 < j) (hjc : j < c) (hb : tp_fb c P j e) (ho : o ≠ j) (hob : tp_B P j o = false) {fs : Int64} {pa te wo : Nat → Int32} {kp : Nat → Int64} (hA : tp_AY c P K V pa te wo) {post : Int32 → SY → Prop}
    (h : ∀ pa te wo kp, tp_AY (c - (e - j)) (tp_rP c j e (e - j) P) (tp_rK j (e - j) K) (tp_rV j (e - j) V) pa te wo → kp 0 = 0 → kp 1 = 0 → post (nI (c - (e - j))) (nI (c - (e - j)), nI (tp_rf e (e - j) o), 1, pa, te, wo, kp)) :
    wpY_remove post (nI c, nI o, fs, pa, te, wo, kp) (nI j) := by
  have hc := hT.2.1
  have hoc := hT.2.2.1 c (by have := hT.1; omega)
  rw [hT.2.2.2.1] at hoc
  have b1 := hb.1
  refine pk_lt j 1 (fun z => absurd z (by omega)) (fun z => pk_le c j (fun y => absurd y (by omega)) (fun y => pk_eq j o (fun q => absurd q.symm ho) (fun q => tp_yB hT hA.1 y hoc ?_)))
  rw [hob]
  exact br_t rfl (nm_r (nI_1 j) ⟨c + 1, tp_yfb hT hA.1 hjc hb (tp_ymdP hT hd hb hA h) (c + 1) (j + 1) (by omega) (by omega) (by omega)⟩)
end
theorem i_vc_remove {k : Nat} {u : SX} {v : SY} (I : i_Rel k u v) (hk : k + 4 ≤ 2048) (v1 : Int32) : wpX_remove (fun r u' => wpY_remove (fun r' v' => r' = r ∧ i_Rel (k + 4) u' v') v v1) u v1 := by
  obtain ⟨c, o, P, K, V, s, k0, k1, pa, ka, va, pb, te, wo, kp, rfl, rfl, hT, hX, hY, h0, h1, is, i0, i1⟩ := I
  have hc := hT.2.1
  have hc1 := hT.1
  have hoc := hT.2.2.1 c (by omega)
  rw [hT.2.2.2.1] at hoc
  have R : i_Rel (k + 4) (nI c, nI o, s, k0, k1, pa, ka, va) (nI c, nI o, s, pb, te, wo, kp) := tp_rel (k + 4) hT hX hY h0 h1 is i0 i1
  by_cases n0 : v1 < 0
  · exact br_t (Int32.le_of_lt n0) (br_t (Int32.lt_trans n0 (by decide)) ⟨rfl, R⟩)
  · obtain ⟨j, hj, rfl⟩ := nI_of n0
    refine pk_le j 0 (fun z => tp_yrmNo hT hY hj (Or.inl (by omega)) ⟨rfl, R⟩) (fun z => pk_lt j c (fun y => pk_eq j o (fun q => tp_yrmNo hT hY hj (Or.inr (Or.inr (Or.inl q))) ⟨rfl, R⟩) (fun q => tp_xB hT hX.1 hoc y (tp_zt (fun b => ?_) (fun b => tp_yrmNo hT hY hj (Or.inr (Or.inr (Or.inr b))) ⟨rfl, R⟩)))) (fun y => tp_yrmNo hT hY hj (Or.inr (Or.inl y)) ⟨rfl, R⟩))
    obtain ⟨e, hb⟩ := tp_fb_ex P y
    have b1 := hb.1
    have b2 := hb.2.1
    refine nm_r (nI_1 j) ⟨c + 1, tp_xfb hT hX.1 y hb ?_ (c + 1) (j + 1) (by omega) (by omega) (by omega)⟩
    refine tp_xmdP hT z hb hX (fun pa' ka' va' AX => ?_)
    show wpY_remove (fun r' v' => r' = nI (c - (e - j)) ∧ i_Rel (k + 4) (nI (c - (e - j)), nI (tp_rf e (e - j) o), 1, 0, 0, pa', ka', va') v') (nI c, nI o, s, pb, te, wo, kp) (nI j)
    refine tp_yrmGo hT z y hb (fun w => q w.symm) b hY (fun pb' te' wo' kp' AY e0 e1 => ⟨rfl, ?_⟩)
    exact tp_rel (k + 4) (tp_rT hT z hb rfl (fun w => q w.symm) b) AX AY e0 e1 (tp_In_1 (by omega)) (tp_In_0 _) (tp_In_0 _)
-- step
theorem tp_xstR {post : Int32 → SX → Prop} {u : SX} {p0 p1 p2 : Int32} (hn : ¬ ((∃ x t : Nat, x ≤ 10 ∧ t ≤ 10 ∧ p0 = nI x ∧ p1 = nI t) ∧ ¬ p2 < -48 ∧ p2 ≤ 48)) (h : post (-1) u) : wpX_step post u p0 p1 p2 := by
  obtain ⟨fc, fo, fs, f0, f1, pa, ka, va⟩ := u
  unfold wpX_step
  refine tp_xaa (fun _ => ?_) (fun x t hx ht ex et => ?_)
  · exact br_t rfl h
  · exact br_f (by decide) (br_c (fun _ => h) (fun z => br_c (fun y => absurd ⟨⟨x, t, hx, ht, ex, et⟩, z, y⟩ hn) (fun _ => h)))
theorem tp_ystR {post : Int32 → SY → Prop} {u : SY} {p0 p1 p2 : Int32} (hn : ¬ ((∃ x t : Nat, x ≤ 10 ∧ t ≤ 10 ∧ p0 = nI x ∧ p1 = nI t) ∧ ¬ p2 < -48 ∧ p2 ≤ 48)) (h : post (-1) u) : wpY_step post u p0 p1 p2 := by
  obtain ⟨fc, fo, fs, pa, te, wo, kp⟩ := u
  unfold wpY_step
  refine tp_yrf (fun _ => ?_) (fun x t hx ht ex et => ?_)
  · exact br_f (by decide) h
  · exact br_t rfl (br_c (fun _ => h) (fun z => br_c (fun y => absurd ⟨⟨x, t, hx, ht, ex, et⟩, z, y⟩ hn) (fun _ => h)))
theorem tp_xstY {post : Int32 → SX → Prop} {fc fo : Int32} {fs f0 f1 : Int64} {pa ka va : Nat → Int32} {x t : Nat} {p : Int32} (hx : x ≤ 10) (ht : t ≤ 10) (z : ¬ p < -48) (y : p ≤ 48) (h : ∃ n, wX_step_28 post (nI x) (nI t) p fc fo fs f0 f1 pa ka va n 0 0) : wpX_step post (fc, fo, fs, f0, f1, pa, ka, va) (nI x) (nI t) p := by
  unfold wpX_step
  refine tp_xaa (fun q => absurd ⟨x, t, hx, ht, rfl, rfl⟩ q) (fun _ _ _ _ _ _ => ?_)
  exact br_f (by decide) (br_f z (br_t y h))
theorem tp_ystY {post : Int32 → SY → Prop} {fc fo : Int32} {fs : Int64} {pa te wo : Nat → Int32} {kp : Nat → Int64} {x t : Nat} {p : Int32} (hx : x ≤ 10) (ht : t ≤ 10) (z : ¬ p < -48) (y : p ≤ 48) (h : ∃ n, wY_step_28 post (nI x) (nI t) p fc fo fs pa te wo kp n 0 0) : wpY_step post (fc, fo, fs, pa, te, wo, kp) (nI x) (nI t) p := by
  unfold wpY_step
  refine tp_yrf (fun q => absurd ⟨x, t, hx, ht, rfl, rfl⟩ q) (fun _ _ _ _ _ _ => ?_)
  exact br_t rfl (br_f z (br_t y h))
theorem i_vc_step {k : Nat} {u : SX} {v : SY} (I : i_Rel k u v) (hk : k + 4 ≤ 2048) (v1 : Int32) (v2 : Int32) (v3 : Int32) : wpX_step (fun r u' => wpY_step (fun r' v' => r' = r ∧ i_Rel (k + 4) u' v') v v1 v2 v3) u v1 v2 v3 := by
  by_cases ok : (∃ x t : Nat, x ≤ 10 ∧ t ≤ 10 ∧ v1 = nI x ∧ v2 = nI t) ∧ ¬ v3 < -48 ∧ v3 ≤ 48
  · obtain ⟨c, o, P, K, V, s, k0, k1, pa, ka, va, pb, te, wo, kp, rfl, rfl, hT, hX, hY, h0, h1, is, i0, i1⟩ := I
    obtain ⟨⟨x, t, hx, ht, rfl, rfl⟩, z, y⟩ := ok
    have hc := hT.2.1
    rcases tp_pl z y with ⟨a, ha, rfl⟩ | ⟨a, ha0, ha, rfl⟩
    · refine tp_xstY hx ht z y ⟨c + 1, tp_xst (F := fun n => tp_F (tp_q P K x t n) c (tp_rb x) false a) hT hX hx ht (fun n hn po h => tp_xAt _ hc hx ha h) ?_ (c + 1) 0 0 (by omega) (by omega) rfl⟩
      refine tp_ystY hx ht z y ⟨c + 1, tp_yst (F := fun n => tp_F (tp_q P K x t n) c (tp_rb x) false a) hT (fun n hn po h => tp_yF hT hY hx ht hn (by rw [tp_FY hc ha]; exact h)) ⟨rfl, ?_⟩ (c + 1) 0 0 (by omega) (by omega) rfl⟩
      exact tp_rel (k + 4) hT hX hY h0 h1 (tp_In_st s (fun n => tp_In_F _ (by omega) _ _ _) c) i0 i1
    · refine tp_xstY hx ht z y ⟨c + 1, tp_xst (F := fun n => tp_F (tp_q P K x t n) c (tp_rb x) true a) hT hX hx ht (fun n hn po h => tp_xAtN _ hc hx ha0 ha h) ?_ (c + 1) 0 0 (by omega) (by omega) rfl⟩
      refine tp_ystY hx ht z y ⟨c + 1, tp_yst (F := fun n => tp_F (tp_q P K x t n) c (tp_rb x) true a) hT (fun n hn po h => tp_yF hT hY hx ht hn (by rw [tp_FYN hc ha0 ha]; exact h)) ⟨rfl, ?_⟩ (c + 1) 0 0 (by omega) (by omega) rfl⟩
      exact tp_rel (k + 4) hT hX hY h0 h1 (tp_In_st s (fun n => tp_In_F _ (by omega) _ _ _) c) i0 i1
  · exact tp_xstR ok (tp_ystR ok ⟨rfl, i_up I⟩)
-- having
theorem tp_bz (v : Int32) : ∃ w : Bool, lw_bz v = tp_z w := by
  rcases lw_bz_01 v with h | h
  · exact ⟨false, h⟩
  · exact ⟨true, h⟩
theorem tp_xhvR {post : Int32 → SX → Prop} {u : SX} {p0 p1 p2 : Int32} (hn : ¬ (∃ x t : Nat, x ≤ 10 ∧ t ≤ 10 ∧ p0 = nI x ∧ p1 = nI t)) (h : post (-1) u) : wpX_having post u p0 p1 p2 := by
  obtain ⟨fc, fo, fs, f0, f1, pa, ka, va⟩ := u
  unfold wpX_having
  refine tp_xaa (fun _ => ?_) (fun x t hx ht ex et => absurd ⟨x, t, hx, ht, ex, et⟩ hn)
  exact br_t rfl h
theorem tp_yhvR {post : Int32 → SY → Prop} {u : SY} {p0 p1 p2 : Int32} (hn : ¬ (∃ x t : Nat, x ≤ 10 ∧ t ≤ 10 ∧ p0 = nI x ∧ p1 = nI t)) (h : post (-1) u) : wpY_having post u p0 p1 p2 := by
  obtain ⟨fc, fo, fs, pa, te, wo, kp⟩ := u
  unfold wpY_having
  refine tp_yrf (fun _ => ?_) (fun x t hx ht ex et => absurd ⟨x, t, hx, ht, ex, et⟩ hn)
  exact br_f (by decide) h
theorem tp_xhvY {post : Int32 → SX → Prop} {fc fo : Int32} {fs f0 f1 : Int64} {pa ka va : Nat → Int32} {x t : Nat} {p : Int32} (hx : x ≤ 10) (ht : t ≤ 10) (h : ∃ n, wX_having_16 post (nI x) (nI t) p fc fo fs f0 f1 pa ka va n 0 0) : wpX_having post (fc, fo, fs, f0, f1, pa, ka, va) (nI x) (nI t) p := by
  unfold wpX_having
  refine tp_xaa (fun q => absurd ⟨x, t, hx, ht, rfl, rfl⟩ q) (fun _ _ _ _ _ _ => ?_)
  exact br_f (by decide) h
theorem tp_yhvY {post : Int32 → SY → Prop} {fc fo : Int32} {fs : Int64} {pa te wo : Nat → Int32} {kp : Nat → Int64} {x t : Nat} {p : Int32} (hx : x ≤ 10) (ht : t ≤ 10) (h : ∃ n, wY_having_13 post (nI x) (nI t) p fc fo pa te wo kp n 0 fs) : wpY_having post (fc, fo, fs, pa, te, wo, kp) (nI x) (nI t) p := by
  unfold wpY_having
  refine tp_yrf (fun q => absurd ⟨x, t, hx, ht, rfl, rfl⟩ q) (fun _ _ _ _ _ _ => ?_)
  exact br_t rfl h
theorem i_vc_having {k : Nat} {u : SX} {v : SY} (I : i_Rel k u v) (hk : k + 4 ≤ 2048) (v1 : Int32) (v2 : Int32) (v3 : Int32) : wpX_having (fun r u' => wpY_having (fun r' v' => r' = r ∧ i_Rel (k + 4) u' v') v v1 v2 (lw_bz v3)) u v1 v2 (lw_bz v3) := by
  by_cases ok : (∃ x t : Nat, x ≤ 10 ∧ t ≤ 10 ∧ v1 = nI x ∧ v2 = nI t)
  · obtain ⟨c, o, P, K, V, s, k0, k1, pa, ka, va, pb, te, wo, kp, rfl, rfl, hT, hX, hY, h0, h1, is, i0, i1⟩ := I
    obtain ⟨x, t, hx, ht, rfl, rfl⟩ := ok
    have hc := hT.2.1
    obtain ⟨w, ew⟩ := tp_bz v3
    rw [ew]
    refine tp_xhvY hx ht ⟨c + 1, tp_xhv (g := fun n => (tp_any (tp_q P K x t n) c == w)) hT hX hx ht (fun _ => rfl) ?_ (c + 1) 0 0 (by omega) (by omega) rfl⟩
    refine tp_yhvY hx ht ⟨c + 1, tp_yhv (g := fun n => (tp_any (tp_q P K x t n) c == w)) hT hY hx ht (fun _ => rfl) ?_ (c + 1) 0 s (by omega) (by omega) rfl⟩
    rw [tp_hv_mk _ (by omega) is]
    exact ⟨rfl, tp_rel (k + 4) hT hX hY h0 h1 (tp_In_mk _ (by omega)) i0 i1⟩
  · exact tp_xhvR ok (tp_yhvR ok ⟨rfl, i_up I⟩)
theorem i_vc_valued {k : Nat} {u : SX} {v : SY} (I : i_Rel k u v) (hk : k + 4 ≤ 2048) (v1 : Int32) (v2 : Int32) : wpX_valued (fun r u' => wpY_valued (fun r' v' => r' = r ∧ i_Rel (k + 4) u' v') v v1 v2) u v1 v2 := by
  obtain ⟨c, o, P, K, V, s, k0, k1, pa, ka, va, pb, te, wo, kp, rfl, rfl, hT, hX, hY, h0, h1, is, i0, i1⟩ := I
  have hc := hT.2.1
  unfold wpX_valued
  refine ⟨c + 1, tp_xtb hT hX ⟨c + 1, tp_xvl (g := fun n => tp_any (tp_vh P K V v1 v2 n) c) hT hX (fun _ => rfl) ?_ (c + 1) 0 0 (by omega) (by omega) rfl⟩ (c + 1) 0 0 (by omega) (by omega) rfl⟩
  refine ⟨c + 1, tp_yv2 (g := fun n => tp_any (tp_vh P K V v1 v2 n) c) hT hY (fun _ => rfl) ?_ (c + 1) 0 s (by omega) (by omega) rfl⟩
  rw [tp_hv_mk _ (by omega) is]
  exact ⟨rfl, tp_rel (k + 4) hT hX hY h0 h1 (tp_In_mk _ (by omega)) i0 i1⟩
-- keep and mix
theorem tp_sl01 (x : Int32) : x &&& 1 = nI 0 ∨ x &&& 1 = nI 1 := by
  obtain ⟨w, hw, ew⟩ := pk_andE x (m := 1) 1 (by decide)
  rcases (show w = 0 ∨ w = 1 by omega) with e | e
  · subst e; exact Or.inl ew
  · subst e; exact Or.inr ew
theorem i_vc_keep {k : Nat} {u : SX} {v : SY} (I : i_Rel k u v) (hk : k + 4 ≤ 2048) (v1 : Int32) : wpX_keep (fun u' => wpY_keep (fun v' => i_Rel (k + 4) u' v') v v1) u v1 := by
  obtain ⟨c, o, P, K, V, s, k0, k1, pa, ka, va, pb, te, wo, kp, rfl, rfl, hT, hX, hY, h0, h1, is, i0, i1⟩ := I
  unfold wpX_keep wpY_keep
  rcases tp_sl01 v1 with e | e
  · rw [e]
    exact br_t rfl ⟨vp_in_nI (by omega) (by omega), nm_e (tp_rel (k + 4) hT hX hY pk_uLs ((pk_uLn (by decide)).trans h1) is is i1)⟩
  · rw [e]
    exact br_f (by decide) ⟨vp_in_nI (by omega) (by omega), nm_e (tp_rel (k + 4) hT hX hY ((pk_uLn (by decide)).trans h0) pk_uLs is i0 is)⟩
theorem tp_mx {k c o : Nat} {P K : Nat → Nat} {V : Nat → Int32} {s k0 k1 kz : Int64} {pa ka va pb te wo : Nat → Int32} {kp : Nat → Int64} (hT : tp_T c o P K) (hX : tp_AX c P K V pa ka va) (hY : tp_AY c P K V pb te wo) (h0 : kp 0 = k0) (h1 : kp 1 = k1) (is : tp_In c s) (i0 : tp_In c k0) (i1 : tp_In c k1) (v1 v2 : Int32)
    (hz : vp_in (v1 &&& 1) 2) (ez : kp (v1 &&& 1).toNatClampNeg = kz) (iz : tp_In c kz) :
    wX_mix_17 (fun r u' => wpY_mix (fun r' v' => r' = r ∧ i_Rel (k + 4) u' v') (nI c, nI o, s, pb, te, wo, kp) v1 v2) v2 kz (nI c) (nI o) s k0 k1 pa ka va := by
  have R : i_Rel (k + 4) (nI c, nI o, s, k0, k1, pa, ka, va) (nI c, nI o, s, pb, te, wo, kp) := tp_rel (k + 4) hT hX hY h0 h1 is i0 i1
  by_cases n0 : v2 < 0
  · exact br_t n0 (br_t n0 ⟨rfl, R⟩)
  · by_cases n2 : 2 < v2
    · exact br_f n0 (br_t n2 (br_f n0 (br_f (Int32.not_le.mpr n2) ⟨rfl, R⟩)))
    · have n3 := Int32.not_lt.mp n2
      refine br_f n0 (br_f n2 (br_c (fun e => nm_e (tp_xZ (br_f n0 (br_t n3 ⟨hz, nm_r ez (br_t e (tp_yZ ⟨rfl, ?_⟩))⟩)))) (fun e => br_c (fun e1 => nm_e (tp_xZ (br_f n0 (br_t n3 ⟨hz, nm_r ez (br_f e (br_t e1 (tp_yZ ⟨rfl, ?_⟩)))⟩)))) (fun e1 => br_c (fun e2 => nm_e (tp_xZ (br_f n0 (br_t n3 ⟨hz, nm_r ez (br_f e (br_f e1 (tp_yZ ⟨rfl, ?_⟩)))⟩)))) (fun _ => trivial)))))
      · exact tp_rel (k + 4) hT hX hY h0 h1 (tp_In_and is) i0 i1
      · exact tp_rel (k + 4) hT hX hY h0 h1 (tp_In_or is iz) i0 i1
      · exact tp_rel (k + 4) hT hX hY h0 h1 (tp_In_and is) i0 i1
theorem i_vc_mix {k : Nat} {u : SX} {v : SY} (I : i_Rel k u v) (hk : k + 4 ≤ 2048) (v1 : Int32) (v2 : Int32) : wpX_mix (fun r u' => wpY_mix (fun r' v' => r' = r ∧ i_Rel (k + 4) u' v') v v1 v2) u v1 v2 := by
  obtain ⟨c, o, P, K, V, s, k0, k1, pa, ka, va, pb, te, wo, kp, rfl, rfl, hT, hX, hY, h0, h1, is, i0, i1⟩ := I
  rcases tp_sl01 v1 with e | e
  · exact br_t e (tp_mx hT hX hY h0 h1 is i0 i1 v1 v2 (by rw [e]; exact vp_in_nI (by omega) (by omega)) (by rw [e]; exact h0) i0)
  · exact br_f (by rw [e]; decide) (tp_mx hT hX hY h0 h1 is i0 i1 v1 v2 (by rw [e]; exact vp_in_nI (by omega) (by omega)) (by rw [e]; exact h1) i1)
theorem i_vc_node {k : Nat} {u : SX} {v : SY} (I : i_Rel k u v) (hk : k + 4 ≤ 2048) (v1 : Int32) : wpX_node (fun r => wpY_node (fun r' => r' = r ∧ i_Rel (k + 4) u v) v v1) u v1 := by
  have R := i_up I
  obtain ⟨c, o, P, K, V, s, k0, k1, pa, ka, va, pb, te, wo, kp, rfl, rfl, hT, hX, hY, h0, h1, is, i0, i1⟩ := I
  obtain ⟨r, hx, hy⟩ := tp_nd (c := c) (fo := nI o) (go := nI o) (fs := s) (f0 := k0) (f1 := k1) (pa := pa) (ka := ka) (va := va) (pb := pb) (te := te) (wo := wo) (kp := kp) hT.2.1 v1 (c + 1) 0 0 (by omega) (by omega)
  exact ⟨c + 1, hx _ ⟨c + 1, hy _ ⟨rfl, R⟩⟩⟩
theorem i_vc_sum {k : Nat} {u : SX} {v : SY} (I : i_Rel k u v) (hk : k + 4 ≤ 2048) : wpX_sum (fun r => wpY_sum (fun r' => r' = r ∧ i_Rel (k + 4) u v) v) u := by
  have R := i_up I
  obtain ⟨c, o, P, K, V, s, k0, k1, pa, ka, va, pb, te, wo, kp, rfl, rfl, hT, hX, hY, h0, h1, is, i0, i1⟩ := I
  obtain ⟨r, hx, hy⟩ := tp_sm (fo := nI o) (go := nI o) (fs := s) (f0 := k0) (f1 := k1) (kp := kp) hT hX hY (c + 1) 0 0 (by omega) (by omega)
  exact ⟨c + 1, hx _ ⟨c + 1, hy _ ⟨rfl, R⟩⟩⟩
