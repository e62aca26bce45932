theorem tp_narz (b : Bool) : vp_nar .boolean (tp_z b) = tp_z b := by cases b <;> rfl
theorem tp_rP_at {c d e k i : Nat} (P : Nat → Nat) (hk : k = e - d) (h1 : d < e) (h2 : e ≤ i) (h3 : i ≤ c) : tp_rP c d e k P (i - k) = tp_rf e k (P i) := by
  unfold tp_rP
  rw [if_neg (by omega), if_pos (by omega), show i - k + k = i by omega]
theorem tp_rK_at {d e k i : Nat} (K : Nat → Nat) (hk : k = e - d) (h1 : d < e) (h2 : e ≤ i) : tp_rK d k K (i - k) = K i := by
  unfold tp_rK
  rw [if_neg (by omega), show i - k + k = i by omega]
theorem tp_rV_at {d e k i : Nat} (V : Nat → Int32) (hk : k = e - d) (h1 : d < e) (h2 : e ≤ i) : tp_rV d k V (i - k) = V i := by
  unfold tp_rV
  rw [if_neg (by omega), show i - k + k = i by omega]
theorem tp_r_lo {c d e k : Nat} (P K : Nat → Nat) (V : Nat → Int32) : ∀ j, j < d → tp_rP c d e k P j = P j ∧ tp_rK d k K j = K j ∧ tp_rV d k V j = V j :=
  fun _ hj => ⟨if_pos hj, if_pos hj, if_pos hj⟩
section
variable {c o d e k : Nat} {P K : Nat → Nat} {V : Nat → Int32}
variable {fc fo : Int32} {fs f0 f1 : Int64}
theorem tp_x40 {post : SX → Prop} {J : Int32 → (Nat → Int32) → (Nat → Int32) → (Nat → Int32) → Prop} {x1 z0 : Int32} {i : Nat} {pa ka va : Nat → Int32} (hi : i < 48) (hk : k ≤ i)
    (h : J (nI (i + 1)) (upd pa (i - k) z0) (upd ka (i - k) (ka i)) (upd va (i - k) (va i))) : wX_moveDown_40 post J x1 (nI k) (nI i) z0 (nI i - nI k) fc fo fs f0 f1 pa ka va := by
  have vi : vp_in (nI i) 48 := vp_in_nI hi (by omega)
  have vm : vp_in (nI i - nI k) 48 := by rw [pk_sub hk]; exact vp_in_nI (by omega) (by omega)
  have ec : (nI i - nI k).toNatClampNeg = i - k := by rw [pk_sub hk]; exact nI_clamp (by omega)
  have ei : (nI i).toNatClampNeg = i := nI_clamp (by omega)
  exact ⟨vm, nm_r (by rw [ec]) ⟨vi, vm, nm_r (by rw [ec, ei]) ⟨vi, vm, nm_r (by rw [ec, ei]) (nm_r (nI_1 i) h)⟩⟩⟩
theorem tp_xmd (hT : tp_T c o P K) (hd : 0 < d) (hb : tp_fb c P d e) (hk : k = e - d) {post : SX → Prop}
    (h : ∀ pa ka va, tp_AX (c - k) (tp_rP c d e k P) (tp_rK d k K) (tp_rV d k V) pa ka va → post (nI (c - k), nI (tp_rf e k o), fs, f0, f1, pa, ka, va)) :
    ∀ f i pa ka va, c - i < f → e ≤ i → i ≤ c → tp_AX (i - k) (tp_rP c d e k P) (tp_rK d k K) (tp_rV d k V) pa ka va → (∀ j, i ≤ j → j < c → pa j = nI (P j) ∧ ka j = nI (K j) ∧ (K j = 8 → va j = V j)) →
    wX_moveDown_2 post (nI e) (nI k) (nI c) (nI o) fs f0 f1 f (nI i) pa ka va := by
  obtain ⟨b1, b2, b3, b4⟩ := hb
  obtain ⟨h1, h2, h3, h4, h5, h6⟩ := hT
  have hoc := h3 c (by omega)
  intro f
  induction f with
  | zero => intro i pa ka va i1; omega
  | succ f ih =>
    intro i pa ka va i1 i2 i3 hA hR
    refine pk_le c i (fun z => ?_) (fun z => ⟨vp_in_nI (by omega) (by omega), ?_⟩)
    · have : i = c := by omega
      subst this
      have hp := h pa ka va hA
      unfold tp_rf at hp
      refine pk_lt o e (fun y => nm_r (pk_sub (by omega)) ?_) (fun y => nm_r (pk_sub (by omega)) (nm_r (pk_sub (by omega)) ?_))
      · rw [if_pos y] at hp; exact hp
      · rw [if_neg (by omega)] at hp; exact hp
    · have hr := hR i (Nat.le_refl _) z
      have hp := h3 i (by omega)
      refine nm_r (e' := nI (P i)) (by rw [nI_clamp (by omega)]; exact hr.1) ?_
      have go : ∀ z0 : Int32, z0 = nI (tp_rf e k (P i)) → wX_moveDown_40 post (wX_moveDown_2 post (nI e) (nI k) (nI c) (nI o) fs f0 f1 f) (nI e) (nI k) (nI i) z0 (nI i - nI k) (nI c) (nI o) fs f0 f1 pa ka va := by
        intro z0 hz
        refine tp_x40 (by omega) (by omega) (ih (i + 1) _ _ _ (by omega) (by omega) (by omega) ?_ ?_)
        · rw [show i + 1 - k = i - k + 1 by omega]
          refine tp_AX_put hA (by omega) ?_ ?_ ?_
          · rw [hz, tp_rP_at P hk b1 i2 i3]
          · rw [tp_rK_at K hk b1 i2]; exact hr.2.1
          · rw [tp_rK_at K hk b1 i2, tp_rV_at V hk b1 i2]; exact hr.2.2
        · intro j ij jc
          rw [pk_un (by omega), pk_un (by omega), pk_un (by omega)]
          exact hR j (by omega) jc
      refine pk_lt (P i) e (fun y => go _ ?_) (fun y => go _ ?_)
      · rw [tp_rf, if_pos y]
      · rw [tp_rf, if_neg (by omega), pk_sub (by omega)]
theorem tp_xfb (hT : tp_T c o P K) {pa ka va : Nat → Int32} (hA : tp_AP c P pa) (hdc : d < c) (hb : tp_fb c P d e) {post : Int32 → Prop} (h : post (nI e)) : ∀ f i, c - i < f → d < i → i ≤ e →
    wX_firstBehind_4 post (nI d) (nI c) fo fs f0 f1 pa ka va f (nI i) := by
  have hc := hT.2.1
  obtain ⟨b1, b2, b3, b4⟩ := hb
  intro f
  induction f with
  | zero => intro i i1; omega
  | succ f ih =>
    intro i i1 i2 i3
    refine pk_le c i (fun z => ?_) (fun z => tp_xB hT hA z hdc (tp_zt (fun y => ?_) (fun y => nm_r (nI_1 i) (ih (i + 1) (by omega) (by omega) ?_))))
    · have : e = c := by omega
      subst this; exact h
    · have : i = e := by
        rcases Nat.lt_or_ge i e with w | w
        · rw [b3 i i2 w] at y; cases y
        · omega
      subst this; exact h
    · rcases Nat.lt_or_ge i e with w | w
      · omega
      · have : i = e := by omega
        subst this
        rw [b4 z] at y; cases y
end
section
variable {c o d e k : Nat} {P K : Nat → Nat} {V : Nat → Int32}
variable {fc fo : Int32} {fs : Int64}
theorem tp_y116 {post : Int32 → SY → Prop} {J : Int32 → (Nat → Int32) → (Nat → Int32) → (Nat → Int32) → (Nat → Int64) → Prop} {x2 z0 : Int32} {i : Nat} {pa te wo : Nat → Int32} {kp : Nat → Int64} (hi : i < 48) (hk : k ≤ i)
    (h : J (nI (i + 1)) (upd pa (i - k) z0) (upd te (i - k) (vp_nar .boolean (te i))) (upd wo (i - k) (wo i)) kp) : wY_remove_116 post J x2 (nI k) (nI i) z0 (nI i - nI k) fc fo fs pa te wo kp := by
  have vi : vp_in (nI i) 48 := vp_in_nI hi (by omega)
  have vm : vp_in (nI i - nI k) 48 := by rw [pk_sub hk]; exact vp_in_nI (by omega) (by omega)
  have ec : (nI i - nI k).toNatClampNeg = i - k := by rw [pk_sub hk]; exact nI_clamp (by omega)
  have ei : (nI i).toNatClampNeg = i := nI_clamp (by omega)
  exact ⟨vm, nm_r (by rw [ec]) ⟨vi, vm, nm_r (by rw [ec, ei]) ⟨vi, vm, nm_r (by rw [ec, ei]) (nm_r (nI_1 i) h)⟩⟩⟩
theorem tp_yrs {post : SY → Prop} {pa te wo : Nat → Int32} {kp : Nat → Int64} (h : ∀ kq : Nat → Int64, kq 0 = 0 → kq 1 = 0 → post (fc, fo, 1, pa, te, wo, kq)) : wpY_reset post (fc, fo, fs, pa, te, wo, kp) :=
  nm_e (nm_e (h _ rfl rfl))
theorem tp_ymd (hT : tp_T c o P K) (hd : 0 < d) (hb : tp_fb c P d e) (hk : k = e - d) {post : Int32 → SY → Prop}
    (h : ∀ pa te wo kp, tp_AY (c - k) (tp_rP c d e k P) (tp_rK d k K) (tp_rV d k V) pa te wo → kp 0 = 0 → kp 1 = 0 → post (nI (c - k)) (nI (c - k), nI (tp_rf e k o), 1, pa, te, wo, kp)) :
    ∀ f i pa te wo kp, c - i < f → e ≤ i → i ≤ c → tp_AY (i - k) (tp_rP c d e k P) (tp_rK d k K) (tp_rV d k V) pa te wo → (∀ j, i ≤ j → j < c → pa j = nI (P j) ∧ te j = tp_z (decide (K j = 8)) ∧ (K j = 8 → wo j = V j) ∧ (K j ≠ 8 → wo j = nI (K j))) →
    wY_remove_69 post (nI e) (nI k) (nI c) (nI o) fs f (nI i) pa te wo kp := by
  obtain ⟨b1, b2, b3, b4⟩ := hb
  obtain ⟨h1, h2, h3, h4, h5, h6⟩ := hT
  have hoc := h3 c (by omega)
  intro f
  induction f with
  | zero => intro i pa te wo kp i1; omega
  | succ f ih =>
    intro i pa te wo kp i1 i2 i3 hA hR
    refine pk_le c i (fun z => nm_r (pk_sub (by omega)) ?_) (fun z => ⟨vp_in_nI (by omega) (by omega), ?_⟩)
    · have : i = c := by omega
      subst this
      refine pk_lt o e (fun y => tp_yrs (fun kq k0 k1 => ?_)) (fun y => nm_r (pk_sub (by omega)) (tp_yrs (fun kq k0 k1 => ?_)))
      · have hp := h pa te wo kq hA k0 k1
        unfold tp_rf at hp
        rw [if_pos y] at hp; exact hp
      · have hp := h pa te wo kq hA k0 k1
        unfold tp_rf at hp
        rw [if_neg (by omega)] at hp; exact hp
    · have hr := hR i (Nat.le_refl _) z
      have hp := h3 i (by omega)
      have e0 : pa (nI i).toNatClampNeg = nI (P i) := by rw [nI_clamp (by omega)]; exact hr.1
      rw [e0]
      have go : ∀ z0 : Int32, z0 = nI (tp_rf e k (P i)) → wY_remove_116 post (wY_remove_69 post (nI e) (nI k) (nI c) (nI o) fs f) (nI e) (nI k) (nI i) z0 (nI i - nI k) (nI c) (nI o) fs pa te wo kp := by
        intro z0 hz
        refine tp_y116 (by omega) (by omega) (ih (i + 1) _ _ _ _ (by omega) (by omega) (by omega) ?_ ?_)
        · rw [show i + 1 - k = i - k + 1 by omega]
          refine tp_AY_put hA (by omega) ?_ ?_ ?_ ?_
          · rw [hz, tp_rP_at P hk b1 i2 i3]
          · rw [tp_rK_at K hk b1 i2, hr.2.1, tp_narz]
          · rw [tp_rK_at K hk b1 i2, tp_rV_at V hk b1 i2]; exact hr.2.2.1
          · rw [tp_rK_at K hk b1 i2]; exact hr.2.2.2
        · intro j ij jc
          rw [pk_un (by omega), pk_un (by omega), pk_un (by omega)]
          exact hR j (by omega) jc
      have vi : vp_in (nI i) 48 := vp_in_nI (by omega) (by omega)
      refine pk_lt (P i) e (fun y => ⟨vi, go _ ?_⟩) (fun y => ⟨vi, go _ ?_⟩)
      · rw [tp_rf, if_pos y]
      · rw [tp_rf, if_neg (by omega), pk_sub (by omega)]
theorem tp_yfb (hT : tp_T c o P K) {pa te wo : Nat → Int32} {kp : Nat → Int64} (hA : tp_AP c P pa) (hdc : d < c) (hb : tp_fb c P d e) {post : Int32 → SY → Prop} (h : ∃ n, wY_remove_69 post (nI e) (nI (e - d)) (nI c) fo fs n (nI e) pa te wo kp) : ∀ f i, c - i < f → d < i → i ≤ e →
    wY_remove_39 post (nI d) (nI c) fo fs pa te wo kp f (nI i) := by
  have hc := hT.2.1
  obtain ⟨b1, b2, b3, b4⟩ := hb
  intro f
  induction f with
  | zero => intro i i1; omega
  | succ f ih =>
    intro i i1 i2 i3
    refine pk_le c i (fun z => nm_r (pk_sub (by omega)) ?_) (fun z => tp_yB hT hA hdc z (tp_zt (fun y => nm_r (pk_sub (by omega)) ?_) (fun y => nm_r (nI_1 i) (ih (i + 1) (by omega) (by omega) ?_))))
    · have : i = e := by omega
      subst this; exact h
    · have : i = e := by
        rcases Nat.lt_or_ge i e with w | w
        · rw [b3 i i2 w] at y; cases y
        · omega
      subst this; exact h
    · rcases Nat.lt_or_ge i e with w | w
      · omega
      · have : i = e := by omega
        subst this
        rw [b4 z] at y; cases y
end
