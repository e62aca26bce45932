-- places: pick and atPlace of the class
def tp_rk (f : Nat → Bool) (N : Nat) (b : Bool) (j : Nat) : Nat := cond b (tp_c f N - tp_c f j) (tp_c f (j + 1))
def tp_rb (x : Nat) : Bool := decide (x = 4) || (decide (x = 6) || (decide (x = 8) || decide (x = 10)))
def tp_bw (x : Nat) : Bool := decide (x = 2) || tp_rb x
theorem tp_xH {post : Int32 → Prop} (s : Int64) {n : Nat} (hn : n < 64) (h : post (tp_z (tp_g s n))) : wpX_holds post s (nI n) := by
  refine ek_if (tp_hx s hn) (fun e => ?_) (fun e => ?_)
  · rw [e] at h; exact h
  · rw [ts_nf e] at h; exact h
theorem tp_xrb {post : Int32 → Prop} {x : Nat} (hx : x ≤ 10) (h : post (tp_z (tp_rb x))) : wpX_runsBackwards post (nI x) := by
  refine pk_eq x 4 (fun e => ?_) (fun e4 => pk_eq x 6 (fun e => ?_) (fun e6 => pk_eq x 8 (fun e => ?_) (fun e8 => pk_eq x 10 (fun e => ?_) (fun e10 => ?_))))
  · subst e; exact h
  · subst e; exact h
  · subst e; exact h
  · subst e; exact h
  · rw [show tp_rb x = false by simp [tp_rb, e4, e6, e8, e10]] at h; exact h
theorem tp_ybw {post : Int32 → Prop} {x : Nat} (hx : x ≤ 10) (h : post (tp_z (tp_bw x))) : wpY_backwards post (nI x) := by
  refine pk_eq x 2 (fun e => ?_) (fun e2 => pk_eq x 4 (fun e => ?_) (fun e4 => pk_eq x 6 (fun e => ?_) (fun e6 => pk_eq x 8 (fun e => ?_) (fun e8 => pk_eq x 10 (fun e => ?_) (fun e10 => ?_)))))
  · subst e; exact h
  · subst e; exact h
  · subst e; exact h
  · subst e; exact h
  · subst e; exact h
  · rw [show tp_bw x = false by simp [tp_bw, tp_rb, e2, e4, e6, e8, e10]] at h; exact h
-- the one of rank a, or none
def tp_pk (f : Nat → Bool) (N : Nat) (b : Bool) (a : Nat) : Int64 := tp_mk (fun j => f j && decide (tp_rk f N b j = a)) N
theorem tp_pk_at {f : Nat → Bool} {N : Nat} {b : Bool} {a i : Nat} (hN : N ≤ 64) (hi : i < N) (hf : f i = true) (h : tp_rk f N b i = a) : tp_pk f N b a = tp_b i := by
  apply tp_ext
  intro j _
  unfold tp_pk
  rw [tp_gmk _ N hN, tp_gb (by omega)]
  by_cases e : i = j
  · subst e; simp [hi, hf, h]
  · simp only [e, decide_false]
    by_cases hj : j < N
    · by_cases hg : f j = true
      · have : ¬ tp_rk f N b j = a := by
          intro z
          have m1 := tp_c_str hi hf
          have m2 := tp_c_str hj hg
          cases b
          · unfold tp_rk at h z
            simp only [cond_false] at h z
            rw [tp_ct hf] at h
            rw [tp_ct hg] at z
            exact e (tp_c_inj hf hg (by omega))
          · unfold tp_rk at h z
            simp only [cond_true] at h z
            exact e (tp_c_inj hf hg (by omega))
        simp [this]
      · simp [ts_nt hg]
    · simp [hj]
theorem tp_pk_no {f : Nat → Bool} {N : Nat} {b : Bool} {a : Nat} (hN : N ≤ 64) (h : tp_c f N < a) : tp_pk f N b a = 0 := by
  apply tp_ext
  intro j _
  unfold tp_pk
  rw [tp_gmk _ N hN, tp_0]
  by_cases hj : j < N
  · have : ¬ tp_rk f N b j = a := by
      intro z
      have m1 := tp_c_mono f (show j + 1 ≤ N by omega)
      cases b
      · unfold tp_rk at z; simp only [cond_false] at z; omega
      · unfold tp_rk at z; simp only [cond_true] at z; omega
    simp [this]
  · simp [hj]
theorem tp_x27 {post : Int64 → Prop} {J : Int32 → Int32 → Prop} {s : Int64} {x3 : Int32} {a d i z : Nat} (hz : z < 64) (ha : a < 100) (hd : d < 100)
    (h0 : tp_g s z = false → J (nI d) (nI (i + 1))) (h1 : tp_g s z = true → d + 1 = a → post (tp_b z)) (h2 : tp_g s z = true → d + 1 ≠ a → J (nI (d + 1)) (nI (i + 1))) :
    wX_pick_27 post J s (nI a) x3 (nI d) (nI i) (nI z) :=
  tp_xH s hz (tp_zt (fun e => nm_r (nI_1 i) (h0 e)) (fun e => nm_r (nI_1 d) (pk_eq (d + 1) a (fun q => h1 e q) (fun q => nm_r (nI_1 i) (h2 e q)))))
theorem tp_x47 {i : Nat} (h : i < 48) : (47 : Int32) - nI i = nI (47 - i) := pk_sub (a := 47) (by omega)
theorem tp_xpF {post : Int64 → Prop} {s : Int64} {a : Nat} (ha : a < 100) (h : post (tp_pk (tp_g s) 48 false a)) : ∀ f i, 48 - i < f → i ≤ 48 → tp_c (tp_g s) i < a → wX_pick_6 post s (nI a) (tp_z false) f (nI (tp_c (tp_g s) i)) (nI i) := by
  intro f
  induction f with
  | zero => intro i h1; omega
  | succ f ih =>
    intro i h1 h2 h3
    have hle := tp_c_le (tp_g s) i
    refine pk_le 48 i (fun z => ?_) (fun z => br_t rfl (tp_x27 (by omega) ha (by omega) (fun e => ?_) (fun e q => ?_) (fun e q => ?_)))
    · have : i = 48 := by omega
      subst this
      rw [tp_pk_no (by omega) h3] at h; exact h
    · rw [← tp_cf e]
      exact ih (i + 1) (by omega) (by omega) (by rw [tp_cf e]; exact h3)
    · rw [tp_pk_at (b := false) (by omega) z e (show tp_rk (tp_g s) 48 false i = a by unfold tp_rk; rw [cond_false, tp_ct e]; exact q)] at h
      exact h
    · rw [← tp_ct e]
      exact ih (i + 1) (by omega) (by omega) (by rw [tp_ct e]; omega)
theorem tp_xpB {post : Int64 → Prop} {s : Int64} {a : Nat} (ha : a < 100) (h : post (tp_pk (tp_g s) 48 true a)) : ∀ f i d, 48 - i < f → i ≤ 48 → d = tp_c (tp_g s) 48 - tp_c (tp_g s) (48 - i) → d < a → wX_pick_6 post s (nI a) (tp_z true) f (nI d) (nI i) := by
  intro f
  induction f with
  | zero => intro i d h1; omega
  | succ f ih =>
    intro i d h1 h2 hd h3
    have hle := tp_c_le (tp_g s) 48
    have hm := tp_c_mono (tp_g s) (show 48 - i ≤ 48 by omega)
    refine pk_le 48 i (fun z => ?_) (fun z => br_f (by decide) ?_)
    · have : i = 48 := by omega
      subst this
      have e0 : tp_c (tp_g s) (48 - 48) = 0 := rfl
      rw [tp_pk_no (by omega) (by omega)] at h; exact h
    · rw [tp_x47 z]
      have e48 : 48 - i = 47 - i + 1 := by omega
      have e47 : 48 - (i + 1) = 47 - i := by omega
      have m1 := tp_c1 (tp_g s) (47 - i)
      refine tp_x27 (by omega) ha (by omega) (fun e => ?_) (fun e q => ?_) (fun e q => ?_)
      · refine ih (i + 1) d (by omega) (by omega) ?_ h3
        rw [hd, e48, e47, tp_cf e]
      · rw [tp_pk_at (b := true) (i := 47 - i) (by omega) (by omega) e (show tp_rk (tp_g s) 48 true (47 - i) = a by
          unfold tp_rk; rw [cond_true]; rw [e48, tp_ct e] at hd hm; omega)] at h
        exact h
      · refine ih (i + 1) (d + 1) (by omega) (by omega) ?_ (by omega)
        rw [e48, tp_ct e] at hd hm
        rw [e47]; omega
theorem tp_xp {post : Int64 → Prop} {s : Int64} {a : Nat} {b : Bool} (h0 : 0 < a) (ha : a < 100) (h : post (tp_pk (tp_g s) 48 b a)) : wpX_pick post s (nI a) (tp_z b) := by
  cases b
  · exact ⟨49, tp_xpF ha h 49 0 (by omega) (by omega) h0⟩
  · exact ⟨49, tp_xpB ha h 49 0 0 (by omega) (by omega) (by rw [Nat.sub_zero, Nat.sub_self]) h0⟩
theorem tp_c_hi {f : Nat → Bool} {c : Nat} (h : ∀ i, c ≤ i → f i = false) : ∀ d, tp_c f (c + d) = tp_c f c
  | 0 => rfl
  | d + 1 => by rw [show c + (d + 1) = (c + d) + 1 from rfl, tp_cf (h _ (by omega)), tp_c_hi h d]
theorem tp_pk_mk (q : Nat → Bool) {c : Nat} (hc : c ≤ 48) (b : Bool) (a : Nat) : tp_pk (tp_g (tp_mk q c)) 48 b a = tp_pk q c b a := by
  have e1 : ∀ i, i ≤ c → tp_c (tp_g (tp_mk q c)) i = tp_c q i := fun i hi => tp_c_congr i (fun j hj => by rw [tp_gmk q c (by omega)]; simp [show j < c by omega])
  have e2 : tp_c (tp_g (tp_mk q c)) 48 = tp_c q c := by
    have := tp_c_hi (f := tp_g (tp_mk q c)) (c := c) (fun i hi => by rw [tp_gmk q c (by omega)]; simp [show ¬ i < c by omega]) (48 - c)
    rw [show c + (48 - c) = 48 by omega] at this
    rw [this, e1 c (Nat.le_refl _)]
  unfold tp_pk
  apply tp_mk_eq (by omega) (by omega)
  intro i _
  rw [tp_gmk q c (by omega)]
  by_cases hi : i < c
  · have : tp_rk (tp_g (tp_mk q c)) 48 b i = tp_rk q c b i := by
      unfold tp_rk; rw [e2, e1 i (by omega), e1 (i + 1) (by omega)]
    rw [this]
    simp [hi, show i < 48 by omega]
  · simp [hi]
-- what atPlace finds: place a from the one side, or from the other
def tp_F (q : Nat → Bool) (c : Nat) (b ng : Bool) (a : Nat) : Int64 := if a = 0 then tp_mk q c else tp_pk q c (b ^^ ng) a
theorem tp_xAt {post : Int64 → Prop} (q : Nat → Bool) {c x a : Nat} (hc : c ≤ 48) (hx : x ≤ 10) (ha : a ≤ 48) (h : post (tp_F q c (tp_rb x) false a)) : wpX_atPlace post (tp_mk q c) (nI x) (nI a) := by
  unfold tp_F at h
  refine pk_eq a 0 (fun e => ?_) (fun e => tp_xrb hx (pk_le a 0 (fun z => absurd z (by omega)) (fun z => tp_xp z (by omega) ?_)))
  · rw [if_pos e] at h; exact h
  · rw [if_neg e, Bool.xor_false] at h
    rw [tp_pk_mk q hc]; exact h
theorem tp_ng0 {a : Nat} (h0 : 0 < a) (ha : a ≤ 48) : ¬ -nI a = 0 ∧ -nI a ≤ 0 ∧ -nI a < 0 := by
  have e := sb_negT (w := a) (by omega)
  refine ⟨fun z => ?_, ?_, ?_⟩
  · rw [z, show (0 : Int32).toInt = 0 by decide] at e; omega
  · rw [Int32.le_iff_toInt_le, e, show (0 : Int32).toInt = 0 by decide]; omega
  · rw [Int32.lt_iff_toInt_lt, e, show (0 : Int32).toInt = 0 by decide]; omega
theorem tp_xAtN {post : Int64 → Prop} (q : Nat → Bool) {c x a : Nat} (hc : c ≤ 48) (hx : x ≤ 10) (h0 : 0 < a) (ha : a ≤ 48) (h : post (tp_F q c (tp_rb x) true a)) : wpX_atPlace post (tp_mk q c) (nI x) (-nI a) := by
  unfold tp_F at h
  rw [if_neg (by omega), Bool.xor_true] at h
  obtain ⟨n0, n1, _⟩ := tp_ng0 h0 ha
  refine br_f n0 (tp_xrb hx (br_t n1 ?_))
  rw [Int32.neg_neg]
  refine tp_zt (fun e => ?_) (fun e => ?_)
  · exact tp_xp (b := true) h0 (by omega) (by rw [tp_pk_mk q hc]; rw [e] at h; exact h)
  · exact tp_xp (b := false) h0 (by omega) (by rw [tp_pk_mk q hc]; rw [e] at h; exact h)
