-- size
theorem tp_xsz {post : Int32 → Prop} {s : Int64} (h : post (nI (tp_c (tp_g s) 48))) : ∀ f i d, 48 - i < f → i ≤ 48 → d = tp_c (tp_g s) i → wX_size_4 post s f (nI d) (nI i) := by
  intro f
  induction f with
  | zero => intro i d h1; omega
  | succ f ih =>
    intro i d h1 h2 hd
    refine pk_le 48 i (fun z => ?_) (fun z => tp_xH s (by omega) (tp_zt (fun e => nm_r (nI_1 i) (ih _ _ (by omega) (by omega) ?_)) (fun e => nm_r (nI_1 d) (nm_r (nI_1 i) (ih _ _ (by omega) (by omega) ?_)))))
    · have : i = 48 := by omega
      subst this hd; exact h
    · rw [tp_cf e, hd]
    · rw [tp_ct e, hd]
theorem tp_xZ {post : Int32 → Prop} {s : Int64} (h : post (nI (tp_c (tp_g s) 48))) : wpX_size post s :=
  ⟨49, tp_xsz h 49 0 0 (by omega) (by omega) rfl⟩
section
variable {fc fo : Int32} {fs : Int64} {pa te wo : Nat → Int32} {kp : Nat → Int64}
theorem tp_ysz {post : Int32 → Prop} (h : post (nI (tp_c (tp_g fs) 48))) : ∀ f i d, 48 - i < f → i ≤ 48 → d = tp_c (tp_g fs) i → wY_size_4 post fc fo fs pa te wo kp f (nI d) (nI i) := by
  intro f
  induction f with
  | zero => intro i d h1; omega
  | succ f ih =>
    intro i d h1 h2 hd
    refine pk_le 48 i (fun z => ?_) (fun z => nm_r (e' := nI (tp_c (tp_g fs) (i + 1))) ?_ (nm_r (nI_1 i) (ih _ _ (by omega) (by omega) rfl)))
    · have : i = 48 := by omega
      subst this hd; exact h
    · rw [tp_sr fs (by omega)]
      cases e : tp_g fs i
      · rw [tp_cf e, hd]; exact Int32.add_zero _
      · rw [tp_ct e, hd]; exact nI_1 _
theorem tp_yZ {post : Int32 → Prop} (h : post (nI (tp_c (tp_g fs) 48))) : wpY_size post (fc, fo, fs, pa, te, wo, kp) :=
  ⟨49, tp_ysz h 49 0 0 (by omega) (by omega) rfl⟩
end
-- nothing beyond the nodes
def tp_In (c : Nat) (s : Int64) : Prop := ∀ j, c ≤ j → tp_g s j = false
theorem tp_In_mk (f : Nat → Bool) {c : Nat} (hc : c ≤ 64) : tp_In c (tp_mk f c) := fun j hj => by
  rw [tp_gmk f c hc]; simp [show ¬ j < c by omega]
theorem tp_In_0 (c : Nat) : tp_In c 0 := fun j _ => tp_0 j
theorem tp_In_1 {c : Nat} (h : 1 ≤ c) : tp_In c 1 := fun j hj => by rw [tp_1]; simp; omega
theorem tp_In_or {c : Nat} {s t : Int64} (h : tp_In c s) (h' : tp_In c t) : tp_In c (s ||| t) := fun j hj => by rw [tp_or, h j hj, h' j hj]; rfl
theorem tp_In_and {c : Nat} {s t : Int64} (h : tp_In c s) : tp_In c (s &&& t) := fun j hj => by rw [tp_and, h j hj]; rfl
theorem tp_In_F (q : Nat → Bool) {c : Nat} (hc : c ≤ 64) (b ng : Bool) (a : Nat) : tp_In c (tp_F q c b ng a) := by
  unfold tp_F
  split
  · exact tp_In_mk _ hc
  · exact tp_In_mk _ hc
-- step
def tp_st (s : Int64) (F : Nat → Int64) : Nat → Int64
  | 0 => 0
  | n + 1 => if tp_g s n = true then tp_st s F n ||| F n else tp_st s F n
theorem tp_In_st {c : Nat} (s : Int64) {F : Nat → Int64} (h : ∀ n, tp_In c (F n)) : ∀ n, tp_In c (tp_st s F n)
  | 0 => tp_In_0 c
  | n + 1 => by
    unfold tp_st
    split
    · exact tp_In_or (tp_In_st s h n) (h n)
    · exact tp_In_st s h n
section
variable {c o : Nat} {P K : Nat → Nat} {V : Nat → Int32}
variable {fo : Int32} {fs f0 f1 : Int64} {pa ka va : Nat → Int32}
theorem tp_xst (hT : tp_T c o P K) (hA : tp_AX c P K V pa ka va) {post : Int32 → SX → Prop} {x t : Nat} {p : Int32} {F : Nat → Int64} (hx : x ≤ 10) (ht : t ≤ 10)
    (hF : ∀ n, n < c → ∀ po : Int64 → Prop, po (F n) → wpX_atPlace po (tp_mk (tp_q P K x t n) c) (nI x) p)
    (h : post (nI (tp_c (tp_g (tp_st fs F c)) 48)) (nI c, fo, tp_st fs F c, f0, f1, pa, ka, va)) : ∀ f i s, c - i < f → i ≤ c → s = tp_st fs F i →
    wX_step_28 post (nI x) (nI t) p (nI c) fo fs f0 f1 pa ka va f s (nI i) := by
  have hc := hT.2.1
  intro f
  induction f with
  | zero => intro i s h1; omega
  | succ f ih =>
    intro i s h1 h2 hs
    refine pk_le c i (fun z => tp_xZ ?_) (fun z => tp_xH fs (by omega) (tp_zt (fun e => nm_r (nI_1 i) (ih _ _ (by omega) (by omega) ?_)) (fun e => tp_xR hT hA hx ht z (hF i z _ (nm_e (nm_r (nI_1 i) (ih _ _ (by omega) (by omega) ?_)))))))
    · have : i = c := by omega
      subst this hs; exact h
    · rw [hs, tp_st, if_neg (by rw [e]; decide)]
    · rw [hs, tp_st, if_pos e]
theorem tp_xaa {post : Int32 → Prop} {p0 p1 : Int32} (h0 : ¬ (∃ x t : Nat, x ≤ 10 ∧ t ≤ 10 ∧ p0 = nI x ∧ p1 = nI t) → post 0) (h1 : ∀ x t : Nat, x ≤ 10 → t ≤ 10 → p0 = nI x → p1 = nI t → post 1) : wpX_isAxisAndTest post p0 p1 := by
  refine br_c (fun z => h0 ?_) (fun z => br_c (fun y => h0 ?_) (fun y => br_c (fun w => h0 ?_) (fun w => br_c (fun v => h0 ?_) (fun v => ?_))))
  · rintro ⟨x, t, hx, ht, rfl, rfl⟩; exact nI_pos (by omega) z
  · rintro ⟨x, t, hx, ht, rfl, rfl⟩
    have := (nI_ltI (a := 10) (by omega) (by omega)).mp y
    omega
  · rintro ⟨x, t, hx, ht, rfl, rfl⟩; exact nI_pos (by omega) w
  · rintro ⟨x, t, hx, ht, rfl, rfl⟩
    have := (nI_ltI (a := 10) (by omega) (by omega)).mp v
    omega
  · obtain ⟨x, hx, ex⟩ := nI_of2 (M := 10) (n := 10) (by decide) z (Int32.not_lt.mp y)
    obtain ⟨t, ht, et⟩ := nI_of2 (M := 10) (n := 10) (by decide) w (Int32.not_lt.mp v)
    exact h1 x t hx ht ex et
theorem tp_yrf {post : Int32 → Prop} {p0 p1 : Int32} (h1 : ¬ (∃ x t : Nat, x ≤ 10 ∧ t ≤ 10 ∧ p0 = nI x ∧ p1 = nI t) → post 1) (h0 : ∀ x t : Nat, x ≤ 10 → t ≤ 10 → p0 = nI x → p1 = nI t → post 0) : wpY_refused post p0 p1 := by
  refine br_c (fun z => h1 ?_) (fun z => br_c (fun y => h1 ?_) (fun y => br_c (fun w => h1 ?_) (fun w => br_c (fun v => ?_) (fun v => h1 ?_))))
  · rintro ⟨x, t, hx, ht, rfl, rfl⟩; exact nI_pos (by omega) z
  · rintro ⟨x, t, hx, ht, rfl, rfl⟩
    have := (nI_ltI (a := 10) (by omega) (by omega)).mp y
    omega
  · rintro ⟨x, t, hx, ht, rfl, rfl⟩; exact nI_pos (by omega) w
  · obtain ⟨x, hx, ex⟩ := nI_of2 (M := 10) (n := 10) (by decide) z (Int32.not_lt.mp y)
    obtain ⟨t, ht, et⟩ := nI_of2 (M := 10) (n := 10) (by decide) w v
    exact h0 x t hx ht ex et
  · rintro ⟨x, t, hx, ht, rfl, rfl⟩
    exact v (nI_le (b := 10) ht (by omega))
theorem tp_pl {p : Int32} (h : ¬ p < -48) (h' : p ≤ 48) : (∃ a : Nat, a ≤ 48 ∧ p = nI a) ∨ (∃ a : Nat, 0 < a ∧ a ≤ 48 ∧ p = -nI a) := by
  by_cases z : p < 0
  · right
    have h1 : -48 ≤ p.toInt := by
      have := Int32.not_lt.mp h
      rw [Int32.le_iff_toInt_le, show (-48 : Int32).toInt = -48 by decide] at this
      exact this
    have h2 : p.toInt < 0 := by
      rw [Int32.lt_iff_toInt_lt, show (0 : Int32).toInt = 0 by decide] at z
      exact z
    refine ⟨(-p.toInt).toNat, by omega, by omega, ?_⟩
    apply Int32.toInt_inj.mp
    rw [sb_negT (by omega)]
    omega
  · left
    exact nI_of2 (M := 48) (n := 48) (by decide) z h'
-- having and valued on the class's side
theorem tp_xhv (hT : tp_T c o P K) (hA : tp_AX c P K V pa ka va) {post : Int32 → SX → Prop} {x t : Nat} {wt : Bool} (hx : x ≤ 10) (ht : t ≤ 10) {g : Nat → Bool} (hg : ∀ n, g n = (tp_any (tp_q P K x t n) c == wt))
    (h : post (nI (tp_c (tp_g (tp_mk (fun n => tp_g fs n && g n) c)) 48)) (nI c, fo, tp_mk (fun n => tp_g fs n && g n) c, f0, f1, pa, ka, va)) : ∀ f i s, c - i < f → i ≤ c → s = tp_mk (fun n => tp_g fs n && g n) i →
    wX_having_16 post (nI x) (nI t) (tp_z wt) (nI c) fo fs f0 f1 pa ka va f s (nI i) := by
  have hc := hT.2.1
  intro f
  induction f with
  | zero => intro i s h1; omega
  | succ f ih =>
    intro i s h1 h2 hs
    have key : i < c → ∀ b : Bool, (tp_g fs i = true) → b = tp_any (tp_q P K x t i) c → wX_having_59 post (wX_having_16 post (nI x) (nI t) (tp_z wt) (nI c) fo fs f0 f1 pa ka va f) (nI x) (nI t) (tp_z wt) s (nI i) (tp_z b) (nI c) fo fs f0 f1 pa ka va := by
      intro hi b hb e
      refine br_c (fun y => nm_e (nm_r (nI_1 i) (ih _ _ (by omega) (by omega) ?_))) (fun y => nm_r (nI_1 i) (ih _ _ (by omega) (by omega) ?_))
      · have : g i = true := by
          rw [hg, ← e]
          cases b <;> cases wt <;> first | rfl | exact absurd y (by decide)
        rw [tp_mkt (by rw [hb, this]; rfl), hs]; rfl
      · have : g i = false := by
          rw [hg, ← e]
          cases b <;> cases wt <;> first | rfl | exact absurd rfl y
        rw [tp_mkf (by rw [this, Bool.and_false]), hs]
    refine pk_le c i (fun z => tp_xZ ?_) (fun z => tp_xH fs (by omega) (tp_zt (fun e => nm_r (nI_1 i) (ih _ _ (by omega) (by omega) ?_)) (fun e => tp_xR hT hA hx ht z (br_c (fun y => key z false e ?_) (fun y => key z true e ?_)))))
    · have : i = c := by omega
      subst this hs; exact h
    · rw [tp_mkf (by rw [e]; rfl), hs]
    · exact ((tp_mk_0 _ (by omega)).mp y).symm
    · exact (ts_nf (fun u => y ((tp_mk_0 _ (by omega)).mpr u))).symm
def tp_tm (K : Nat → Nat) (V : Nat → Int32) (lo hi : Int32) : Nat → Bool := fun m => decide (K m = 8) && (decide (¬ V m < lo) && decide (¬ hi < V m))
def tp_vh (P K : Nat → Nat) (V : Nat → Int32) (lo hi : Int32) (n : Nat) : Nat → Bool := fun m => (decide (m = n) || tp_B P n m) && tp_tm K V lo hi m
theorem tp_xtb (hT : tp_T c o P K) (hA : tp_AX c P K V pa ka va) {post : Int64 → Prop} {lo hi : Int32} (h : post (tp_mk (tp_tm K V lo hi) c)) : ∀ f i s, c - i < f → i ≤ c → s = tp_mk (tp_tm K V lo hi) i →
    wX_textsBetween_5 post lo hi (nI c) fo fs f0 f1 pa ka va f s (nI i) := by
  have hc := hT.2.1
  intro f
  induction f with
  | zero => intro i s h1; omega
  | succ f ih =>
    intro i s h1 h2 hs
    refine pk_le c i (fun z => ?_) (fun z => ⟨vp_in_nI (by omega) (by omega), ?_⟩)
    · have : i = c := by omega
      subst this hs; exact h
    · have hk := hT.2.2.2.2.2 i z
      rw [show ka (nI i).toNatClampNeg = nI (K i) by rw [nI_clamp (by omega)]; exact hA.2.1 i z]
      refine pk_eq (K i) 8 (fun e => ⟨vp_in_nI (by omega) (by omega), ?_⟩) (fun e => nm_r (nI_1 i) (ih _ _ (by omega) (by omega) ?_))
      · rw [show va (nI i).toNatClampNeg = V i by rw [nI_clamp (by omega)]; exact hA.2.2 i z e]
        refine br_c (fun y => nm_r (nI_1 i) (ih _ _ (by omega) (by omega) ?_)) (fun y => ⟨vp_in_nI (by omega) (by omega), br_c (fun w => nm_r (nI_1 i) (ih _ _ (by omega) (by omega) ?_)) (fun w => nm_e (nm_r (nI_1 i) (ih _ _ (by omega) (by omega) ?_)))⟩)
        · rw [tp_mkf (by simp [tp_tm, y]), hs]
        · rw [tp_mkf (by simp only [tp_tm, w]; simp), hs]
        · rw [tp_mkt (by simp only [tp_tm, y, w, e]; simp), hs]; rfl
      · rw [tp_mkf (by simp [tp_tm, e]), hs]
theorem tp_xvl (hT : tp_T c o P K) (hA : tp_AX c P K V pa ka va) {post : Int32 → SX → Prop} {lo hi : Int32} {g : Nat → Bool} (hg : ∀ n, g n = tp_any (tp_vh P K V lo hi n) c)
    (h : post (nI (tp_c (tp_g (tp_mk (fun n => tp_g fs n && g n) c)) 48)) (nI c, fo, tp_mk (fun n => tp_g fs n && g n) c, f0, f1, pa, ka, va)) : ∀ f i s, c - i < f → i ≤ c → s = tp_mk (fun n => tp_g fs n && g n) i →
    wX_valued_13 post (tp_mk (tp_tm K V lo hi) c) (nI c) fo fs f0 f1 pa ka va f s (nI i) := by
  have hc := hT.2.1
  intro f
  induction f with
  | zero => intro i s h1; omega
  | succ f ih =>
    intro i s h1 h2 hs
    have ev : tp_mk (fun m => tp_L P 9 i m && tp_S K 8 m) c &&& tp_mk (tp_tm K V lo hi) c = tp_mk (tp_vh P K V lo hi i) c := by
      rw [tp_mk_and _ _ (by omega)]
      refine tp_mk_congr (by omega) (fun j _ => ?_)
      simp only [tp_L, tp_S, tp_vh, tp_tm]
      cases (decide (j = i) || tp_B P i j) <;> cases h8 : decide (K j = 8) <;> simp
    refine pk_le c i (fun z => tp_xZ ?_) (fun z => tp_xH fs (by omega) (tp_zt (fun e => nm_r (nI_1 i) (ih _ _ (by omega) (by omega) ?_)) (fun e => tp_xR (x := 9) (t := 8) hT hA (by omega) (by omega) z ?_)))
    · have : i = c := by omega
      subst this hs; exact h
    · rw [tp_mkf (by rw [e]; rfl), hs]
    · rw [ev]
      refine br_c (fun y => nm_r (nI_1 i) (ih _ _ (by omega) (by omega) ?_)) (fun y => nm_e (nm_r (nI_1 i) (ih _ _ (by omega) (by omega) ?_)))
      · rw [tp_mkf (by rw [hg, (tp_mk_0 _ (by omega)).mp y, Bool.and_false]), hs]
      · rw [tp_mkt (by rw [e, hg, ts_nf (fun u => y ((tp_mk_0 _ (by omega)).mpr u))]; rfl), hs]; rfl
end
