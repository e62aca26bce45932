theorem tp_gy0k (q : Nat → Bool) {c : Nat} {b : Bool} {w : Int32} (hc : c ≤ 64) : tp_mk (tp_gy q c b 0 w) c = tp_mk q c := tp_mk_congr hc (fun j _ => tp_gy0 q c b w j)
section
variable {c o : Nat} {P K : Nat → Nat} {V : Nat → Int32}
variable {fo : Int32} {fs : Int64} {pa te wo : Nat → Int32} {kp : Nat → Int64}
theorem tp_yst (hT : tp_T c o P K) {post : Int32 → SY → Prop} {x t : Nat} {p : Int32} {F : Nat → Int64}
    (hF : ∀ n, n < c → ∀ po : Int64 → Prop, po (F n) → wpY_found po (nI c, fo, fs, pa, te, wo, kp) (nI n) (nI x) (nI t) p)
    (h : post (nI (tp_c (tp_g (tp_st fs F c)) 48)) (nI c, fo, tp_st fs F c, pa, te, wo, kp)) : ∀ f i s, c - i < f → i ≤ c → s = tp_st fs F i →
    wY_step_28 post (nI x) (nI t) p (nI c) fo fs pa te wo kp f s (nI i) := by
  have hc := hT.2.1
  intro f
  induction f with
  | zero => intro i s h1; omega
  | succ f ih =>
    intro i s h1 h2 hs
    refine pk_le c i (fun z => tp_yZ ?_) (fun z => ek_if (tp_hy fs (by omega)) (fun e => hF i z _ (nm_e (nm_r (nI_1 i) (ih _ _ (by omega) (by omega) ?_)))) (fun e => nm_r (nI_1 i) (ih _ _ (by omega) (by omega) ?_)))
    · have : i = c := by omega
      subst this hs; exact h
    · rw [hs, tp_st, if_pos e]
    · rw [hs, tp_st, if_neg e]
-- sets that lose members
def tp_hv (s : Int64) (g : Nat → Bool) : Nat → Int64
  | 0 => s
  | n + 1 => if g n = true then tp_hv s g n else tp_hv s g n &&& (tp_b n ^^^ (-1))
theorem tp_ghv (s : Int64) (g : Nat → Bool) : ∀ n, n ≤ 64 → ∀ i, i < 64 → tp_g (tp_hv s g n) i = (tp_g s i && (decide (n ≤ i) || g i))
  | 0, _, i, _ => by rw [show tp_hv s g 0 = s from rfl]; simp
  | n + 1, hn, i, hi => by
    have ih := tp_ghv s g n (by omega) i hi
    unfold tp_hv
    by_cases e : n = i
    · subst e
      have d1 : decide (n + 1 ≤ n) = false := by simp
      rw [d1, Bool.false_or]
      by_cases h : g n = true
      · rw [if_pos h, ih, h]; simp
      · rw [if_neg h, tp_and, tp_xor, tp_gb (by omega), tp_m1 n (by omega), ts_nt h]; simp
    · have d1 : decide (n + 1 ≤ i) = decide (n ≤ i) := by apply decide_eq_decide.mpr; omega
      rw [d1]
      by_cases h : g n = true
      · rw [if_pos h, ih]
      · rw [if_neg h, tp_and, tp_xor, tp_gb (by omega), tp_m1 i hi, ih]; simp [e]
theorem tp_hv_mk {s : Int64} {c : Nat} (g : Nat → Bool) (hc : c ≤ 64) (h : tp_In c s) : tp_hv s g c = tp_mk (fun n => tp_g s n && g n) c := by
  apply tp_ext
  intro i hi
  rw [tp_ghv s g c hc i hi, tp_gmk _ c hc i]
  by_cases z : i < c
  · simp [z, show ¬ c ≤ i by omega]
  · rw [h i (by omega)]; simp
theorem tp_yhv (hT : tp_T c o P K) (hA : tp_AY c P K V pa te wo) {post : Int32 → SY → Prop} {x t : Nat} {wt : Bool} {s0 : Int64} (hx : x ≤ 10) (ht : t ≤ 10) {g : Nat → Bool} (hg : ∀ n, g n = (tp_any (tp_q P K x t n) c == wt))
    (h : post (nI (tp_c (tp_g (tp_hv s0 g c)) 48)) (nI c, fo, tp_hv s0 g c, pa, te, wo, kp)) : ∀ f i s, c - i < f → i ≤ c → s = tp_hv s0 g i →
    wY_having_13 post (nI x) (nI t) (tp_z wt) (nI c) fo pa te wo kp f (nI i) s := by
  have hc := hT.2.1
  intro f
  induction f with
  | zero => intro i s h1; omega
  | succ f ih =>
    intro i s h1 h2 hs
    have key : i < c → ∀ b : Bool, b = tp_any (tp_q P K x t i) c → wY_having_41 post (wY_having_13 post (nI x) (nI t) (tp_z wt) (nI c) fo pa te wo kp f) (nI x) (nI t) (tp_z wt) (nI i) (tp_z b) (nI c) fo s pa te wo kp := by
      intro hi b e
      refine br_c (fun y => nm_r (nI_1 i) (ih _ _ (by omega) (by omega) ?_)) (fun y => nm_e (nm_r (nI_1 i) (ih _ _ (by omega) (by omega) ?_)))
      · have : g i = true := by
          rw [hg, ← e]
          cases b <;> cases wt <;> first | rfl | exact absurd y (by decide)
        rw [tp_hv, if_pos this, hs]
      · have : g i = false := by
          rw [hg, ← e]
          cases b <;> cases wt <;> first | rfl | exact absurd rfl y
        rw [tp_hv, if_neg (by rw [this]; decide), hs]; rfl
    refine pk_le c i (fun z => tp_yZ ?_) (fun z => tp_yF (p := 0) hT hA hx ht z ?_)
    · have : i = c := by omega
      subst this hs; exact h
    · rw [tp_gy0k _ (by omega)]
      refine br_c (fun y => key z false ?_) (fun y => key z true ?_)
      · exact ((tp_mk_0 _ (by omega)).mp y).symm
      · exact (ts_nf (fun u => y ((tp_mk_0 _ (by omega)).mpr u))).symm
theorem tp_yv46 (hT : tp_T c o P K) (hA : tp_AY c P K V pa te wo) {post : Int32 → SY → Prop} {J2 : Int32 → Int64 → Prop} {J : Int32 → Int32 → Prop} {lo hi x3 x4 : Int32} {m : Nat} {b : Bool} (hm : m < c)
    (h0 : (b && tp_tm K V lo hi m) = false → J x4 (nI (m + 1))) (h1 : (b && tp_tm K V lo hi m) = true → J 1 (nI (m + 1))) :
    wY_valued_46 post J2 J lo hi x3 x4 (nI m) (tp_z b) (nI c) fo fs pa te wo kp := by
  have hc := hT.2.1
  refine tp_zt (fun e => nm_r (nI_1 m) (h0 (by rw [e]; rfl))) (fun e => ⟨vp_in_nI (by omega) (by omega), ?_⟩)
  rw [show te (nI m).toNatClampNeg = tp_z (decide (K m = 8)) by rw [nI_clamp (by omega)]; exact hA.2.1 m hm]
  refine tp_zt (fun k => nm_r (nI_1 m) (h0 (by unfold tp_tm; rw [k]; simp))) (fun k => ⟨vp_in_nI (by omega) (by omega), ?_⟩)
  have k8 : K m = 8 := by simpa using k
  rw [show wo (nI m).toNatClampNeg = V m by rw [nI_clamp (by omega)]; exact hA.2.2.1 m hm k8]
  refine br_c (fun y => nm_r (nI_1 m) (h0 (by simp [tp_tm, y]))) (fun y => ⟨vp_in_nI (by omega) (by omega), br_c (fun w => nm_r (nI_1 m) (h0 (by simp only [tp_tm, w]; simp))) (fun w => nm_r (nI_1 m) (h1 (by simp only [tp_tm, y, w, k8, e]; simp)))⟩)
theorem tp_yv16 (hT : tp_T c o P K) (hA : tp_AY c P K V pa te wo) {post : Int32 → SY → Prop} {J2 : Int32 → Int64 → Prop} {lo hi : Int32} {n : Nat} (hn : n < c)
    (h0 : tp_any (tp_vh P K V lo hi n) c = false → J2 (nI (n + 1)) (fs &&& (tp_b n ^^^ (-1)))) (h1 : tp_any (tp_vh P K V lo hi n) c = true → J2 (nI (n + 1)) fs) : ∀ f i b, c - i < f → i ≤ c → b = tp_any (tp_vh P K V lo hi n) i →
    wY_valued_16 post J2 lo hi (nI n) (nI c) fo fs pa te wo kp f (tp_z b) (nI i) := by
  have hc := hT.2.1
  intro f
  induction f with
  | zero => intro i b h1; omega
  | succ f ih =>
    intro i b i1 i2 hb
    have key : i < c → ∀ d : Bool, d = (decide (i = n) || tp_B P n i) → wY_valued_46 post J2 (wY_valued_16 post J2 lo hi (nI n) (nI c) fo fs pa te wo kp f) lo hi (nI n) (tp_z b) (nI i) (tp_z d) (nI c) fo fs pa te wo kp := by
      intro z d hd
      refine tp_yv46 hT hA z (fun e => ih (i + 1) b (by omega) (by omega) ?_) (fun e => ih (i + 1) true (by omega) (by omega) ?_)
      · rw [tp_any, ← hb]; unfold tp_vh; rw [← hd, e, Bool.or_false]
      · rw [tp_any]; unfold tp_vh; rw [← hd, e, Bool.or_true]
    refine pk_le c i (fun z => ?_) (fun z => pk_eq i n (fun e => key z true ?_) (fun e => tp_yB hT hA.1 hn z (tp_zt (fun y => key z false ?_) (fun y => key z true ?_))))
    · have : i = c := by omega
      subst this hb
      exact tp_zt (fun e => nm_e (nm_r (nI_1 n) (h0 e))) (fun e => nm_r (nI_1 n) (h1 e))
    · simp [e]
    · simp [e, y]
    · simp [y]
theorem tp_yv2 (hT : tp_T c o P K) (hA : tp_AY c P K V pa te wo) {post : Int32 → SY → Prop} {lo hi : Int32} {s0 : Int64} {g : Nat → Bool} (hg : ∀ n, g n = tp_any (tp_vh P K V lo hi n) c)
    (h : post (nI (tp_c (tp_g (tp_hv s0 g c)) 48)) (nI c, fo, tp_hv s0 g c, pa, te, wo, kp)) : ∀ f i s, c - i < f → i ≤ c → s = tp_hv s0 g i →
    wY_valued_2 post lo hi (nI c) fo pa te wo kp f (nI i) s := by
  have hc := hT.2.1
  intro f
  induction f with
  | zero => intro i s h1; omega
  | succ f ih =>
    intro i s h1 h2 hs
    refine pk_le c i (fun z => tp_yZ ?_) (fun z => ⟨c + 1, tp_yv16 hT hA z (fun e => ih _ _ (by omega) (by omega) ?_) (fun e => ih _ _ (by omega) (by omega) ?_) (c + 1) 0 false (by omega) (by omega) rfl⟩)
    · have : i = c := by omega
      subst this hs; exact h
    · rw [tp_hv, if_neg (by rw [hg, e]; decide), hs]
    · rw [tp_hv, if_pos (by rw [hg, e]), hs]
end
section
variable {c o : Nat} {P K : Nat → Nat} {V : Nat → Int32}
variable {fo go : Int32} {fs f0 f1 : Int64} {pa ka va pb te wo : Nat → Int32} {kp : Nat → Int64}
-- node and sum, in lockstep
theorem tp_nd (hc : c ≤ 48) (x1 : Int32) : ∀ f i d, c - i < f → i ≤ c → ∃ r : Int32, (∀ post : Int32 → Prop, post r → wX_node_4 post x1 (nI c) fo fs f0 f1 pa ka va f d (nI i)) ∧ (∀ post : Int32 → Prop, post r → wY_node_4 post x1 (nI c) go fs pb te wo kp f d (nI i)) := by
  intro f
  induction f with
  | zero => intro i d h1; omega
  | succ f ih =>
    intro i d h1 h2
    by_cases z : i < c
    · have n1 : ¬ nI c ≤ nI i := nI_ge z (by omega)
      cases e : tp_g fs i
      · obtain ⟨r, hX, hY⟩ := ih (i + 1) d (by omega) (by omega)
        refine ⟨r, fun post h => br_f n1 (tp_xH fs (by omega) ?_), fun post h => br_f n1 (br_f (fun y => ?_) (nm_r (nI_1 i) (hY post h)))⟩
        · rw [e]; exact br_t rfl (nm_r (nI_1 i) (hX post h))
        · rw [tp_hy fs (by omega), e] at y; cases y
      · by_cases q : d = x1
        · refine ⟨nI i, fun post h => br_f n1 (tp_xH fs (by omega) ?_), fun post h => br_f n1 (br_t ((tp_hy fs (by omega)).mpr e) (br_t q h))⟩
          rw [e]; exact br_f (by decide) (br_t q h)
        · obtain ⟨r, hX, hY⟩ := ih (i + 1) (d + 1) (by omega) (by omega)
          refine ⟨r, fun post h => br_f n1 (tp_xH fs (by omega) ?_), fun post h => br_f n1 (br_t ((tp_hy fs (by omega)).mpr e) (br_f q (nm_e (nm_r (nI_1 i) (hY post h)))))⟩
          rw [e]; exact br_f (by decide) (br_f q (nm_e (nm_r (nI_1 i) (hX post h))))
    · have n1 : nI c ≤ nI i := nI_le (by omega) (by omega)
      exact ⟨-1, fun post h => br_t n1 h, fun post h => br_t n1 h⟩
theorem tp_sm (hT : tp_T c o P K) (hA : tp_AX c P K V pa ka va) (hB : tp_AY c P K V pb te wo) : ∀ f i d, c - i < f → i ≤ c → ∃ r : Int32, (∀ post : Int32 → Prop, post r → wX_sum_4 post (nI c) fo fs f0 f1 pa ka va f d (nI i)) ∧ (∀ post : Int32 → Prop, post r → wY_sum_4 post (nI c) go fs pb te wo kp f d (nI i)) := by
  have hc := hT.2.1
  intro f
  induction f with
  | zero => intro i d h1; omega
  | succ f ih =>
    intro i d h1 h2
    by_cases z : i < c
    · have n1 : ¬ nI c ≤ nI i := nI_ge z (by omega)
      have hk := hT.2.2.2.2.2 i z
      have vi : vp_in (nI i) 48 := vp_in_nI (by omega) (by omega)
      have ek : ka (nI i).toNatClampNeg = nI (K i) := by rw [nI_clamp (by omega)]; exact hA.2.1 i z
      have et : te (nI i).toNatClampNeg = tp_z (decide (K i = 8)) := by rw [nI_clamp (by omega)]; exact hB.2.1 i z
      cases e : tp_g fs i
      · obtain ⟨r, hX, hY⟩ := ih (i + 1) d (by omega) (by omega)
        refine ⟨r, fun post h => br_f n1 (tp_xH fs (by omega) ?_), fun post h => br_f n1 (br_f (fun y => ?_) (nm_r (nI_1 i) (hY post h)))⟩
        · rw [e]; exact br_t rfl (nm_r (nI_1 i) (hX post h))
        · rw [tp_hy fs (by omega), e] at y; cases y
      · by_cases q : K i = 8
        · obtain ⟨r, hX, hY⟩ := ih (i + 1) (d + V i) (by omega) (by omega)
          have ev : va (nI i).toNatClampNeg = V i := by rw [nI_clamp (by omega)]; exact hA.2.2 i z q
          have ew : wo (nI i).toNatClampNeg = V i := by rw [nI_clamp (by omega)]; exact hB.2.2.1 i z q
          refine ⟨r, fun post h => br_f n1 (tp_xH fs (by omega) ?_), fun post h => br_f n1 (br_t ((tp_hy fs (by omega)).mpr e) ⟨vi, br_f ?_ ⟨vi, nm_r (by rw [ew]) (nm_r (nI_1 i) (hY post h))⟩⟩)⟩
          · rw [e]; exact br_f (by decide) ⟨vi, br_t (by rw [ek, q]; rfl) ⟨vi, nm_r (by rw [ev]) (nm_r (nI_1 i) (hX post h))⟩⟩
          · rw [et, decide_eq_true q]; decide
        · obtain ⟨r, hX, hY⟩ := ih (i + 1) d (by omega) (by omega)
          refine ⟨r, fun post h => br_f n1 (tp_xH fs (by omega) ?_), fun post h => br_f n1 (br_t ((tp_hy fs (by omega)).mpr e) ⟨vi, br_t ?_ (nm_r (nI_1 i) (hY post h))⟩)⟩
          · rw [e]
            refine br_f (by decide) ⟨vi, br_f ?_ (nm_r (nI_1 i) (hX post h))⟩
            rw [ek]; exact fun y => q ((nI_eq (b := 8) (by omega) (by omega)).mp y)
          · rw [et, decide_eq_false q]; rfl
    · have n1 : nI c ≤ nI i := nI_le (by omega) (by omega)
      exact ⟨d, fun post h => br_t n1 h, fun post h => br_t n1 h⟩
end
