-- the relation: one tree, one set, two kept sets
def i_Rel (k : Nat) (u : SX) (v : SY) : Prop :=
  ∃ (c o : Nat) (P K : Nat → Nat) (V : Nat → Int32) (s k0 k1 : Int64) (pa ka va pb te wo : Nat → Int32) (kp : Nat → Int64),
    u = (nI c, nI o, s, k0, k1, pa, ka, va) ∧ v = (nI c, nI o, s, pb, te, wo, kp) ∧ tp_T c o P K ∧ tp_AX c P K V pa ka va ∧ tp_AY c P K V pb te wo ∧ kp 0 = k0 ∧ kp 1 = k1 ∧ tp_In c s ∧ tp_In c k0 ∧ tp_In c k1
theorem tp_rel (k : Nat) {c o : Nat} {P K : Nat → Nat} {V : Nat → Int32} {s k0 k1 : Int64} {pa ka va pb te wo : Nat → Int32} {kp : Nat → Int64} (hT : tp_T c o P K) (hX : tp_AX c P K V pa ka va) (hY : tp_AY c P K V pb te wo) (h0 : kp 0 = k0) (h1 : kp 1 = k1) (is : tp_In c s) (i0 : tp_In c k0) (i1 : tp_In c k1) : i_Rel k (nI c, nI o, s, k0, k1, pa, ka, va) (nI c, nI o, s, pb, te, wo, kp) :=
  ⟨c, o, P, K, V, s, k0, k1, pa, ka, va, pb, te, wo, kp, rfl, rfl, hT, hX, hY, h0, h1, is, i0, i1⟩
theorem i_up {k : Nat} {u : SX} {v : SY} (h : i_Rel k u v) : i_Rel (k + 4) u v := h
theorem i_vc0 : wpX_init (fun u => wpY_init (fun v => i_Rel 0 u v)) := by
  refine nm_e (nm_e ?_)
  refine tp_rel 0 (c := 1) (o := 0) (P := fun _ => 0) (K := fun _ => 0) (V := fun _ => 0) ?_ ?_ ?_ rfl rfl (tp_In_1 (by omega)) (tp_In_0 1) (tp_In_0 1)
  · exact ⟨by omega, by omega, fun j h => h, rfl, fun _ _ _ _ _ _ => Nat.le_refl _, fun _ _ => Nat.zero_le _⟩
  · exact ⟨⟨pk_us, fun j h1 h2 => absurd h2 (by omega)⟩, fun _ _ => rfl, fun _ _ h => absurd (show (0 : Nat) = 8 from h) (by decide)⟩
  · exact ⟨⟨pk_us, fun j h1 h2 => absurd h2 (by omega)⟩, fun _ _ => rfl, fun _ _ h => absurd (show (0 : Nat) = 8 from h) (by decide), fun _ _ _ => rfl⟩
-- a node more
section
variable {c o : Nat} {P K : Nat → Nat} {V : Nat → Int32}
theorem tp_xap (hT : tp_T c o P K) (hc : c < 48) {fs f0 f1 : Int64} {pa ka va : Nat → Int32} (hA : tp_AX c P K V pa ka va) {post : SX → Prop} (o' : Nat) {w : Nat} {x xv : Int32} (hx : w = 8 → x = xv)
    (h : ∀ pa ka va, tp_AX (c + 1) (tp_aP c o' P) (tp_aK c w K) (tp_aV c xv V) pa ka va → post (nI (c + 1), nI o, 1, 0, 0, pa, ka, va)) : wpX_append post (nI c, nI o, fs, f0, f1, pa, ka, va) (nI w) x := by
  have vi : vp_in (nI c) 48 := vp_in_nI hc (by omega)
  have ei : (nI c).toNatClampNeg = c := nI_clamp (by omega)
  have h1 := hT.1
  have A1 : tp_AX c (tp_aP c o' P) (tp_aK c w K) (tp_aV c xv V) pa ka va := tp_AX_eq (Nat.le_refl _) (fun j hj => ⟨if_pos (by omega), if_neg (by omega), if_neg (by omega)⟩) hA
  have A2 := tp_AX_put (z := nI o) (kz := nI w) (vz := x) A1 (by omega) (by unfold tp_aP; rw [if_pos (Nat.le_refl _), hT.2.2.2.1]) (by unfold tp_aK; rw [if_pos rfl]) (by unfold tp_aK tp_aV; rw [if_pos rfl, if_pos rfl]; exact hx)
  exact ⟨vi, nm_r (by rw [ei]) ⟨vi, nm_r (by rw [ei]) ⟨vi, nm_r (by rw [ei]) (nm_r (nI_1 c) (h _ _ _ A2))⟩⟩⟩
theorem tp_yad (hT : tp_T c o P K) (hc : c < 48) {fs : Int64} {pa te wo : Nat → Int32} {kp : Nat → Int64} (hA : tp_AY c P K V pa te wo) {post : Int32 → SY → Prop} {w : Nat} {b : Bool} {x xv : Int32} (hb : b = decide (w = 8)) (hx : w = 8 → x = xv) (hw : w ≠ 8 → x = nI w)
    (h : ∀ pa te wo kp, tp_AY (c + 1) (tp_aP c (cond b o c) P) (tp_aK c w K) (tp_aV c xv V) pa te wo → kp 0 = 0 → kp 1 = 0 → post (nI (c + 1)) (nI (c + 1), nI (cond b o c), 1, pa, te, wo, kp)) : wpY_add post (nI c, nI o, fs, pa, te, wo, kp) (tp_z b) x := by
  have vi : vp_in (nI c) 48 := vp_in_nI hc (by omega)
  have ei : (nI c).toNatClampNeg = c := nI_clamp (by omega)
  have h1 := hT.1
  have A1 : tp_AY c (tp_aP c (cond b o c) P) (tp_aK c w K) (tp_aV c xv V) pa te wo := tp_AY_eq (Nat.le_refl _) (fun j hj => ⟨if_pos (by omega), if_neg (by omega), if_neg (by omega)⟩) hA
  have A2 := tp_AY_put (z := nI o) (tz := tp_z b) (wz := x) A1 (by omega) (by unfold tp_aP; rw [if_pos (Nat.le_refl _), hT.2.2.2.1]) (by unfold tp_aK; rw [if_pos rfl, hb]) (by unfold tp_aK tp_aV; rw [if_pos rfl, if_pos rfl]; exact hx) (by unfold tp_aK; rw [if_pos rfl]; exact hw)
  refine pk_eq c 48 (fun z => absurd z (by omega)) (fun _ => ⟨vi, nm_r (by rw [ei]) ⟨vi, nm_r (by rw [ei, tp_narz]) ⟨vi, nm_r (by rw [ei]) (tp_zt (fun e => ?_) (fun e => ?_))⟩⟩⟩)
  · subst e
    exact nm_r (nI_1 c) (tp_yrs (fun kq k0 k1 => h _ _ _ kq A2 k0 k1))
  · subst e
    exact nm_r (nI_1 c) (tp_yrs (fun kq k0 k1 => h _ _ _ kq A2 k0 k1))
end
theorem i_vc_open {k : Nat} {u : SX} {v : SY} (I : i_Rel k u v) (hk : k + 4 ≤ 2048) (v1 : Int32) : wpX_open (fun r u' => wpY_open (fun r' v' => r' = r ∧ i_Rel (k + 4) u' v') v v1) u v1 := by
  obtain ⟨c, o, P, K, V, s, k0, k1, pa, ka, va, pb, te, wo, kp, rfl, rfl, hT, hX, hY, h0, h1, is, i0, i1⟩ := I
  have hc := hT.2.1
  obtain ⟨w, hw, ew⟩ := pk_andE v1 (m := 7) 3 (by decide)
  refine pk_lt c 48 (fun z => ?_) (fun z => pk_eq c 48 (fun _ => ⟨rfl, tp_rel _ hT hX hY h0 h1 is i0 i1⟩) (fun y => absurd hc (by omega)))
  unfold wpY_open
  rw [ew]
  refine tp_xap hT z hX c (w := w) (xv := 0) (fun e => absurd e (by omega)) (fun pa' ka' va' AX => ?_)
  refine tp_yad (b := false) hT z hY (w := w) (xv := 0) (by symm; exact decide_eq_false (by omega)) (fun e => absurd e (by omega)) (fun _ => rfl) (fun pb' te' wo' kp' AY e0 e1 => ⟨rfl, ?_⟩)
  exact tp_rel _ (tp_aT hT z (by omega) (Or.inr rfl)) AX AY e0 e1 (tp_In_1 (by omega)) (tp_In_0 _) (tp_In_0 _)
theorem i_vc_text {k : Nat} {u : SX} {v : SY} (I : i_Rel k u v) (hk : k + 4 ≤ 2048) (v1 : Int32) : wpX_text (fun r u' => wpY_text (fun r' v' => r' = r ∧ i_Rel (k + 4) u' v') v v1) u v1 := by
  obtain ⟨c, o, P, K, V, s, k0, k1, pa, ka, va, pb, te, wo, kp, rfl, rfl, hT, hX, hY, h0, h1, is, i0, i1⟩ := I
  have hc := hT.2.1
  refine pk_lt c 48 (fun z => ?_) (fun z => pk_eq c 48 (fun _ => ⟨rfl, tp_rel _ hT hX hY h0 h1 is i0 i1⟩) (fun y => absurd hc (by omega)))
  unfold wpY_text
  refine tp_xap hT z hX o (w := 8) (xv := v1) (fun _ => rfl) (fun pa' ka' va' AX => ?_)
  refine tp_yad (b := true) hT z hY (w := 8) (xv := v1) rfl (fun _ => rfl) (fun e => absurd rfl e) (fun pb' te' wo' kp' AY e0 e1 => ⟨rfl, ?_⟩)
  exact tp_rel _ (tp_aT hT z (by omega) (Or.inl rfl)) AX AY e0 e1 (tp_In_1 (by omega)) (tp_In_0 _) (tp_In_0 _)
theorem i_vc_start {k : Nat} {u : SX} {v : SY} (I : i_Rel k u v) (hk : k + 4 ≤ 2048) : wpX_start (fun u' => wpY_start (fun v' => i_Rel (k + 4) u' v') v) u := by
  obtain ⟨c, o, P, K, V, s, k0, k1, pa, ka, va, pb, te, wo, kp, rfl, rfl, hT, hX, hY, h0, h1, is, i0, i1⟩ := I
  exact tp_rel (k + 4) hT hX hY h0 h1 (tp_In_1 hT.1) i0 i1
-- the open element's parent: the tree as it stands, the next node's parent another
def tp_cP (c p : Nat) (P : Nat → Nat) : Nat → Nat := fun j => if j = c then p else P j
theorem tp_cT {c o : Nat} {P K : Nat → Nat} (hT : tp_T c o P K) (ho : 0 < o) : tp_T c (P o) (tp_cP c (P o) P) K := by
  obtain ⟨h1, h2, h3, h4, h5, h6⟩ := hT
  have hoc := h3 c (by omega)
  have hpo := h3 o ho
  refine ⟨h1, h2, fun j j0 => ?_, if_pos rfl, fun i j i0 ij jc => ?_, h6⟩
  · unfold tp_cP
    split
    · omega
    · exact h3 j j0
  · unfold tp_cP
    rw [if_neg (show ¬ i = c by omega)]
    by_cases e : j = c
    · rw [if_pos e]
      intro z
      by_cases q : i = o
      · subst q; exact Nat.le_refl _
      · rcases Nat.lt_or_ge i o with w | w
        · exact h5 i o i0 w (by omega) z
        · have := h5 i c i0 (by omega) (Nat.le_refl _) (by omega)
          have := h5 o i
          omega
    · rw [if_neg e]; exact h5 i j i0 ij jc
theorem i_vc_close {k : Nat} {u : SX} {v : SY} (I : i_Rel k u v) (hk : k + 4 ≤ 2048) : wpX_close (fun r u' => wpY_close (fun r' v' => r' = r ∧ i_Rel (k + 4) u' v') v) u := by
  obtain ⟨c, o, P, K, V, s, k0, k1, pa, ka, va, pb, te, wo, kp, rfl, rfl, hT, hX, hY, h0, h1, is, i0, i1⟩ := I
  have hc := hT.2.1
  have hc1 := hT.1
  have hoc := hT.2.2.1 c (by omega)
  rw [hT.2.2.2.1] at hoc
  have vo : vp_in (nI o) 48 := vp_in_nI (by omega) (by omega)
  refine pk_eq o 0 (fun z => br_t (by rw [z]; rfl) ⟨rfl, tp_rel _ hT hX hY h0 h1 is i0 i1⟩) (fun z => ⟨vo, nm_r (e' := nI (P o)) ?_ (br_f (nI_ne0 (by omega) (by omega)) ⟨vo, nm_r (e' := nI (P o)) ?_ ⟨rfl, ?_⟩⟩)⟩)
  · rw [nI_clamp (by omega)]; exact hX.1.2 o (by omega) hoc
  · rw [nI_clamp (by omega)]; exact hY.1.2 o (by omega) hoc
  · have e : ∀ j, j < c → tp_cP c (P o) P j = P j ∧ K j = K j ∧ V j = V j := fun j hj => ⟨if_neg (by omega), rfl, rfl⟩
    exact tp_rel _ (tp_cT hT (by omega)) (tp_AX_eq (Nat.le_refl _) e hX) (tp_AY_eq (Nat.le_refl _) e hY) h0 h1 is i0 i1
