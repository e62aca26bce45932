-- what the reference finds
def tp_q (P K : Nat → Nat) (x t n : Nat) : Nat → Bool := fun m => tp_L P x n m && tp_S K t m
def tp_gy (q : Nat → Bool) (c : Nat) (b : Bool) (p w : Int32) : Nat → Bool := fun j => q j && (decide (p = 0) || decide (nI (tp_rk q c b j) = w))
theorem tp_mkt {f : Nat → Bool} {n : Nat} (h : f n = true) : tp_mk f (n + 1) = tp_mk f n ||| tp_b n := if_pos h
theorem tp_mkf {f : Nat → Bool} {n : Nat} (h : f n = false) : tp_mk f (n + 1) = tp_mk f n := if_neg (by rw [h]; decide)
theorem tp_mbt {f : Nat → Bool} {c n : Nat} (h : f (c - 1 - n) = true) : tp_mb f c (n + 1) = tp_mb f c n ||| tp_b (c - 1 - n) := if_pos h
theorem tp_mbf {f : Nat → Bool} {c n : Nat} (h : f (c - 1 - n) = false) : tp_mb f c (n + 1) = tp_mb f c n := if_neg (by rw [h]; decide)
theorem tp_gy_t {q : Nat → Bool} {c : Nat} {b : Bool} {p w : Int32} {j : Nat} (h : q j = true) (z : p = 0 ∨ nI (tp_rk q c b j) = w) : tp_gy q c b p w j = true := by
  unfold tp_gy; rcases z with z | z <;> simp [h, z]
theorem tp_gy_f {q : Nat → Bool} {c : Nat} {b : Bool} {p w : Int32} {j : Nat} (z : ¬ (p = 0 ∨ nI (tp_rk q c b j) = w)) : tp_gy q c b p w j = false := by
  unfold tp_gy; simp only [not_or] at z; simp [z]
theorem tp_gy_q {q : Nat → Bool} {c : Nat} {b : Bool} {p w : Int32} {j : Nat} (h : q j = false) : tp_gy q c b p w j = false := by
  unfold tp_gy; simp [h]
section
variable {c o : Nat} {P K : Nat → Nat} {V : Nat → Int32}
variable {fo : Int32} {fs : Int64} {pa te wo : Nat → Int32} {kp : Nat → Int64}
theorem tp_y103 (hT : tp_T c o P K) (hA : tp_AY c P K V pa te wo) {post : Int64 → Prop} {J : Int64 → Int32 → Int32 → Prop} {x t n i m d : Nat} {p w : Int32} {r : Int64} (hx : x ≤ 10) (ht : t ≤ 10) (hn : n < c) (hm : m < c)
    (h0 : tp_q P K x t n m = false → J r (nI d) (nI (i + 1)))
    (h1 : tp_q P K x t n m = true → (p = 0 ∨ nI (d + 1) = w) → J (r ||| tp_b m) (nI (d + 1)) (nI (i + 1)))
    (h2 : tp_q P K x t n m = true → ¬ (p = 0 ∨ nI (d + 1) = w) → J r (nI (d + 1)) (nI (i + 1))) :
    wY_found_103 post J (nI n) (nI x) (nI t) p w r (nI d) (nI i) (nI m) (nI c) fo fs pa te wo kp := by
  unfold tp_q at h0 h1 h2
  refine tp_yL hT hA.1 hx hn hm (tp_zt (fun e => nm_r (nI_1 i) (h0 (by rw [e]; rfl))) (fun e => tp_yS hT hA ht hm (tp_zt (fun e2 => nm_r (nI_1 i) (h0 (by rw [e, e2]; rfl))) (fun e2 => nm_r (nI_1 d) (br_c (fun z => nm_e (nm_r (nI_1 i) ?_)) (fun z => br_c (fun y => nm_e (nm_r (nI_1 i) ?_)) (fun y => nm_r (nI_1 i) ?_)))))))
  · exact h1 (by rw [e, e2]; rfl) (Or.inl z)
  · exact h1 (by rw [e, e2]; rfl) (Or.inr y)
  · exact h2 (by rw [e, e2]; rfl) (fun u => u.elim z y)
theorem tp_y73F (hT : tp_T c o P K) (hA : tp_AY c P K V pa te wo) {post : Int64 → Prop} {x t n : Nat} {p w : Int32} (hx : x ≤ 10) (ht : t ≤ 10) (hn : n < c) (hb : tp_bw x = false)
    (h : post (tp_mk (tp_gy (tp_q P K x t n) c false p w) c)) : ∀ f i r d, c - i < f → i ≤ c → r = tp_mk (tp_gy (tp_q P K x t n) c false p w) i → d = tp_c (tp_q P K x t n) i →
    wY_found_73 post (nI n) (nI x) (nI t) p w (nI c) fo fs pa te wo kp f r (nI d) (nI i) := by
  have hc := hT.2.1
  intro f
  induction f with
  | zero => intro i r d h1; omega
  | succ f ih =>
    intro i r d h1 h2 hr hd
    refine pk_le c i (fun z => ?_) (fun z => tp_ybw hx ?_)
    · have : i = c := by omega
      subst this hr; exact h
    · rw [hb]
      have ek : tp_q P K x t n i = true → tp_rk (tp_q P K x t n) c false i = d + 1 := fun e => by
        unfold tp_rk; rw [cond_false, tp_ct e, hd]
      refine br_t rfl (tp_y103 hT hA hx ht hn z (fun e => ih _ _ _ (by omega) (by omega) ?_ ?_) (fun e y => ih _ _ _ (by omega) (by omega) ?_ ?_) (fun e y => ih _ _ _ (by omega) (by omega) ?_ ?_))
      · rw [tp_mkf (tp_gy_q e), hr]
      · rw [tp_cf e, hd]
      · rw [tp_mkt (tp_gy_t e (by rw [ek e]; exact y)), hr]
      · rw [tp_ct e, hd]
      · rw [tp_mkf (tp_gy_f (by rw [ek e]; exact y)), hr]
      · rw [tp_ct e, hd]
theorem tp_yback {i : Nat} (h : i < c) : (nI c - 1) - nI i = nI (c - 1 - i) := by
  rw [show (nI c - 1 : Int32) = nI (c - 1) from pk_sub (b := 1) (by omega), pk_sub (by omega)]
theorem tp_y73B (hT : tp_T c o P K) (hA : tp_AY c P K V pa te wo) {post : Int64 → Prop} {x t n : Nat} {p w : Int32} (hx : x ≤ 10) (ht : t ≤ 10) (hn : n < c) (hb : tp_bw x = true)
    (h : post (tp_mk (tp_gy (tp_q P K x t n) c true p w) c)) : ∀ f i r d, c - i < f → i ≤ c → r = tp_mb (tp_gy (tp_q P K x t n) c true p w) c i → d = tp_c (tp_q P K x t n) c - tp_c (tp_q P K x t n) (c - i) →
    wY_found_73 post (nI n) (nI x) (nI t) p w (nI c) fo fs pa te wo kp f r (nI d) (nI i) := by
  have hc := hT.2.1
  intro f
  induction f with
  | zero => intro i r d h1; omega
  | succ f ih =>
    intro i r d h1 h2 hr hd
    refine pk_le c i (fun z => ?_) (fun z => tp_ybw hx ?_)
    · have : i = c := by omega
      subst this hr
      rw [tp_mb_mk _ (by omega)]; exact h
    · rw [hb]
      refine br_f (by decide) ?_
      rw [tp_yback z]
      have e1 : c - i = c - 1 - i + 1 := by omega
      have e2 : c - (i + 1) = c - 1 - i := by omega
      have hm := tp_c_mono (tp_q P K x t n) (show c - i ≤ c by omega)
      have ek : tp_q P K x t n (c - 1 - i) = true → d + 1 = tp_c (tp_q P K x t n) c - tp_c (tp_q P K x t n) (c - 1 - i) := fun e => by
        rw [e1, tp_ct e] at hd hm; omega
      have ek2 : tp_q P K x t n (c - 1 - i) = true → tp_rk (tp_q P K x t n) c true (c - 1 - i) = d + 1 := fun e => by
        unfold tp_rk; rw [cond_true, ek e]
      refine tp_y103 hT hA hx ht hn (by omega) (fun e => ih _ _ _ (by omega) (by omega) ?_ ?_) (fun e y => ih _ _ _ (by omega) (by omega) ?_ ?_) (fun e y => ih _ _ _ (by omega) (by omega) ?_ ?_)
      · rw [tp_mbf (tp_gy_q e), hr]
      · rw [hd, e1, tp_cf e, e2]
      · rw [tp_mbt (tp_gy_t e (by rw [ek2 e]; exact y)), hr]
      · rw [ek e, e2]
      · rw [tp_mbf (tp_gy_f (by rw [ek2 e]; exact y)), hr]
      · rw [ek e, e2]
theorem tp_y73 (hT : tp_T c o P K) (hA : tp_AY c P K V pa te wo) {post : Int64 → Prop} {x t n : Nat} {p w : Int32} (hx : x ≤ 10) (ht : t ≤ 10) (hn : n < c)
    (h : post (tp_mk (tp_gy (tp_q P K x t n) c (tp_bw x) p w) c)) : ∃ f, wY_found_73 post (nI n) (nI x) (nI t) p w (nI c) fo fs pa te wo kp f 0 0 0 := by
  cases e : tp_bw x
  · rw [e] at h
    exact ⟨c + 1, tp_y73F hT hA hx ht hn e h (c + 1) 0 0 0 (by omega) (by omega) rfl rfl⟩
  · rw [e] at h
    exact ⟨c + 1, tp_y73B hT hA hx ht hn e h (c + 1) 0 0 0 (by omega) (by omega) rfl (by rw [Nat.sub_zero, Nat.sub_self])⟩
-- the count ahead of it
theorem tp_y6 (hT : tp_T c o P K) (hA : tp_AY c P K V pa te wo) {post : Int64 → Prop} {x t n : Nat} {p : Int32} (hx : x ≤ 10) (ht : t ≤ 10) (hn : n < c)
    (h : post (tp_mk (tp_gy (tp_q P K x t n) c (tp_bw x) p (if 0 ≤ p then p else nI (tp_c (tp_q P K x t n) c) + p + 1)) c)) : ∀ f i d, c - i < f → i ≤ c → d = tp_c (tp_q P K x t n) i →
    wY_found_6 post (nI n) (nI x) (nI t) p (nI c) fo fs pa te wo kp f (nI d) (nI i) := by
  have hc := hT.2.1
  intro f
  induction f with
  | zero => intro i d h1; omega
  | succ f ih =>
    intro i d h1 h2 hd
    refine pk_le c i (fun z => ?_) (fun z => tp_yL hT hA.1 hx hn z (tp_zt (fun e => nm_r (nI_1 i) (ih _ _ (by omega) (by omega) ?_)) (fun e => tp_yS hT hA ht z (tp_zt (fun e2 => nm_r (nI_1 i) (ih _ _ (by omega) (by omega) ?_)) (fun e2 => nm_r (nI_1 d) (nm_r (nI_1 i) (ih _ _ (by omega) (by omega) ?_)))))))
    · have : i = c := by omega
      subst this hd
      refine br_c (fun y => ?_) (fun y => nm_e ?_)
      · rw [if_pos y] at h
        exact tp_y73 hT hA hx ht hn h
      · rw [if_neg y] at h
        exact tp_y73 hT hA hx ht hn h
    · rw [tp_cf (by unfold tp_q; rw [e]; rfl), hd]
    · rw [tp_cf (by unfold tp_q; rw [e, e2]; rfl), hd]
    · rw [tp_ct (by unfold tp_q; rw [e, e2]; rfl), hd]
theorem tp_yF (hT : tp_T c o P K) (hA : tp_AY c P K V pa te wo) {post : Int64 → Prop} {x t n : Nat} {p : Int32} (hx : x ≤ 10) (ht : t ≤ 10) (hn : n < c)
    (h : post (tp_mk (tp_gy (tp_q P K x t n) c (tp_bw x) p (if 0 ≤ p then p else nI (tp_c (tp_q P K x t n) c) + p + 1)) c)) :
    wpY_found post (nI c, fo, fs, pa, te, wo, kp) (nI n) (nI x) (nI t) p :=
  ⟨c + 1, tp_y6 hT hA hx ht hn h (c + 1) 0 0 (by omega) (by omega) rfl⟩
end
-- the two pictures are one
theorem tp_gy0 (q : Nat → Bool) (c : Nat) (b : Bool) (w : Int32) (j : Nat) : tp_gy q c b 0 w j = q j := by unfold tp_gy; simp
theorem tp_rk_sum {q : Nat → Bool} {c j : Nat} (hj : j < c) (h : q j = true) : tp_rk q c true j + tp_rk q c false j = tp_c q c + 1 := by
  unfold tp_rk
  rw [cond_true, cond_false, tp_ct h]
  have := tp_c_str hj h
  omega
theorem tp_rk_one {q : Nat → Bool} {c j : Nat} (hj : j < c) (h : q j = true) (h1 : tp_c q c ≤ 1) (b : Bool) : tp_rk q c b j = tp_rk q c (!b) j := by
  have s := tp_rk_sum hj h
  have m := tp_c_str hj h
  have e1 : tp_rk q c true j = 1 := by unfold tp_rk; rw [cond_true]; omega
  have e2 : tp_rk q c false j = 1 := by omega
  cases b
  · exact e2.trans e1.symm
  · exact e1.trans e2.symm
theorem tp_c_one {q : Nat → Bool} {p : Nat} (h : ∀ j, q j = true → j = p) : ∀ c, tp_c q c ≤ if p < c then 1 else 0
  | 0 => by simp [tp_c]
  | c + 1 => by
    have ih := tp_c_one h c
    by_cases e : q c = true
    · rw [tp_ct e]
      have := h c e
      subst this
      simp at ih ⊢
      exact ih
    · rw [tp_cf (ts_nt e)]
      refine Nat.le_trans ih ?_
      split
      · rw [if_pos (by omega)]; exact Nat.le_refl _
      · exact Nat.zero_le _
theorem tp_rk_bw {P K : Nat → Nat} {c x t n j : Nat} (hj : j < c) (h : tp_q P K x t n j = true) (b : Bool) : tp_rk (tp_q P K x t n) c (tp_bw x ^^ b) j = tp_rk (tp_q P K x t n) c (tp_rb x ^^ b) j := by
  by_cases e : x = 2
  · subst e
    have o1 : tp_c (tp_q P K 2 t n) c ≤ 1 := by
      refine Nat.le_trans (tp_c_one (p := P n) (fun j hj => ?_) c) (by split <;> omega)
      simp [tp_q, tp_L] at hj
      exact hj.1.2.symm
    have e1 : tp_bw 2 = true := rfl
    have e2 : tp_rb 2 = false := rfl
    rw [e1, e2]
    cases b
    · exact tp_rk_one hj h o1 true
    · exact tp_rk_one hj h o1 false
  · rw [show tp_bw x = tp_rb x by simp [tp_bw, e]]
theorem tp_FY {P K : Nat → Nat} {c x t n a : Nat} (hc : c ≤ 48) (ha : a ≤ 48) : tp_mk (tp_gy (tp_q P K x t n) c (tp_bw x) (nI a) (if (0 : Int32) ≤ nI a then nI a else nI (tp_c (tp_q P K x t n) c) + nI a + 1)) c = tp_F (tp_q P K x t n) c (tp_rb x) false a := by
  rw [if_pos (nI_pos' (by omega))]
  unfold tp_F
  by_cases e : a = 0
  · subst e
    rw [if_pos rfl, nI_0]
    exact tp_mk_congr (by omega) (fun j _ => tp_gy0 _ _ _ _ _)
  · rw [if_neg e]
    unfold tp_pk
    refine tp_mk_congr (by omega) (fun j hj => ?_)
    by_cases h : tp_q P K x t n j = true
    · have r := tp_rk_bw hj h false
      rw [Bool.xor_false, Bool.xor_false] at r
      have l1 := tp_c_le (tp_q P K x t n) c
      have l2 := tp_rk_sum hj h
      have l3 : tp_rk (tp_q P K x t n) c (tp_rb x) j ≤ 100 := by cases tp_rb x <;> omega
      unfold tp_gy
      rw [r, Bool.xor_false, h]
      have z1 : ¬ nI a = 0 := nI_ne0 (by omega) (by omega)
      simp only [z1, decide_false, Bool.false_or, Bool.true_and]
      exact decide_eq_decide.mpr (nI_eq (by omega) (by omega))
    · rw [tp_gy_q (ts_nt h), ts_nt h]; rfl
theorem tp_FYN {P K : Nat → Nat} {c x t n a : Nat} (hc : c ≤ 48) (h0 : 0 < a) (ha : a ≤ 48) : tp_mk (tp_gy (tp_q P K x t n) c (tp_bw x) (-nI a) (if (0 : Int32) ≤ -nI a then -nI a else nI (tp_c (tp_q P K x t n) c) + -nI a + 1)) c = tp_F (tp_q P K x t n) c (tp_rb x) true a := by
  obtain ⟨n0, n1, n2⟩ := tp_ng0 h0 ha
  rw [if_neg (Int32.not_le.mpr n2)]
  unfold tp_F
  rw [if_neg (by omega)]
  unfold tp_pk
  refine tp_mk_congr (by omega) (fun j hj => ?_)
  by_cases h : tp_q P K x t n j = true
  · have r := tp_rk_bw hj h true
    have l1 := tp_c_le (tp_q P K x t n) c
    have l2 := tp_rk_sum hj h
    have l3 : tp_rk (tp_q P K x t n) c (tp_bw x) j + tp_rk (tp_q P K x t n) c (tp_bw x ^^ true) j = tp_c (tp_q P K x t n) c + 1 := by
      cases tp_bw x
      · simp only [Bool.false_xor]; omega
      · simp only [Bool.true_xor]; exact l2
    unfold tp_gy
    rw [← r, h]
    simp only [n0, decide_false, Bool.false_or, Bool.true_and]
    apply decide_eq_decide.mpr
    generalize tp_rk (tp_q P K x t n) c (tp_bw x) j = d at l3
    generalize tp_rk (tp_q P K x t n) c (tp_bw x ^^ true) j = d' at l3
    generalize tp_c (tp_q P K x t n) c = C at l3 l1
    have e : nI C + -nI a + 1 = nI (C + 1) - nI a := by
      rw [← nI_1, Int32.sub_eq_add_neg, Int32.add_assoc, Int32.add_comm (-nI a) 1, ← Int32.add_assoc]
    rw [e]
    constructor
    · intro z
      have y := congrArg Int32.toInt z
      rw [nI_toInt (by omega), pk_sub_toInt (by omega) (by omega)] at y
      omega
    · intro z
      rw [pk_sub (by omega)]
      congr 1; omega
  · rw [tp_gy_q (ts_nt h), ts_nt h]; rfl
