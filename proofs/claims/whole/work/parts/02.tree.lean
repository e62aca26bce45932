-- below, in a tree whose parents have lesser numbers
def tp_z (b : Bool) : Int32 := cond b 1 0
theorem tp_zt {A B : Prop} {b : Bool} (f : b = false → A) (g : b = true → B) : (tp_z b = 0 → A) ∧ (¬ tp_z b = 0 → B) := by
  cases b
  · exact ⟨fun _ => f rfl, fun h => absurd rfl h⟩
  · exact ⟨fun h => absurd h (by decide), fun _ => g rfl⟩
theorem tp_zn (b : Bool) : narrow .boolean (.int (tp_z b)) = .int (tp_z b) := by cases b <;> rfl
def tp_bl (P : Nat → Nat) (a : Nat) : Nat → Nat → Bool
  | 0, _ => false
  | f + 1, n => decide (a < n) && (decide (P n = a) || tp_bl P a f (P n))
def tp_B (P : Nat → Nat) (a n : Nat) : Bool := tp_bl P a n n
theorem tp_bl_st {P : Nat → Nat} (hf : ∀ j, 0 < j → P j < j) (a : Nat) : ∀ f n, n ≤ f → ∀ f', n ≤ f' → tp_bl P a f n = tp_bl P a f' n := by
  intro f
  induction f with
  | zero =>
    intro n hn f' hf'
    have : n = 0 := by omega
    subst this
    cases f' with
    | zero => rfl
    | succ f' => unfold tp_bl; simp
  | succ f ih =>
    intro n hn f' hf'
    cases f' with
    | zero =>
      have : n = 0 := by omega
      subst this
      unfold tp_bl; simp
    | succ f' =>
      unfold tp_bl
      by_cases h : a < n
      · have := hf n (by omega)
        rw [ih (P n) (by omega) f' (by omega)]
      · simp [h]
theorem tp_B_eq {P : Nat → Nat} (hf : ∀ j, 0 < j → P j < j) (a n : Nat) : tp_B P a n = (decide (a < n) && (decide (P n = a) || tp_B P a (P n))) := by
  unfold tp_B
  by_cases h : a < n
  · rw [tp_bl_st hf a n n (Nat.le_refl _) (n + 1) (by omega)]
    have := hf n (by omega)
    rw [tp_bl_st hf a (P n) (P n) (Nat.le_refl _) n (by omega)]
    rfl
  · cases n with
    | zero => unfold tp_bl; simp
    | succ n => unfold tp_bl; simp [h]
theorem tp_B_no {P : Nat → Nat} (hf : ∀ j, 0 < j → P j < j) {a n : Nat} (h : n ≤ a) : tp_B P a n = false := by
  rw [tp_B_eq hf]; simp [show ¬ a < n by omega]
theorem tp_B_lt {P : Nat → Nat} (hf : ∀ j, 0 < j → P j < j) {a n : Nat} (h : tp_B P a n = true) : a < n := by
  rcases Nat.lt_or_ge a n with z | z
  · exact z
  · rw [tp_B_no hf z] at h; cases h
theorem tp_B_up {P : Nat → Nat} (hf : ∀ j, 0 < j → P j < j) {a n : Nat} (h0 : 0 < n) (h : P n = a ∨ tp_B P a (P n) = true) : tp_B P a n = true := by
  have hp := hf n h0
  rw [tp_B_eq hf]
  rcases h with h | h
  · simp [h, show a < n by omega]
  · have := tp_B_lt hf h
    simp [h, show a < n by omega]
-- a itself, or below
def tp_R (P : Nat → Nat) (a n : Nat) : Bool := decide (n = a) || tp_B P a n
theorem tp_R_step {P : Nat → Nat} (hf : ∀ j, 0 < j → P j < j) {a n : Nat} (h0 : 0 < n) (h : n ≠ a) : tp_R P a n = tp_R P a (P n) := by
  have hp := hf n h0
  unfold tp_R
  rw [tp_B_eq hf a n]
  rcases Nat.lt_or_ge a n with z | z
  · simp [z, h]
  · rw [tp_B_no hf (show P n ≤ a by omega)]
    simp [h, show ¬ a < n by omega, show ¬ P n = a by omega]
theorem tp_R_B {P : Nat → Nat} (hf : ∀ j, 0 < j → P j < j) {a n : Nat} (h0 : 0 < n) : tp_B P a n = tp_R P a (P n) := by
  by_cases e : n = a
  · have hp := hf n h0
    rw [tp_B_no hf (by omega)]
    unfold tp_R
    rw [tp_B_no hf (by omega)]
    simp [show ¬ P n = a by omega]
  · rw [← tp_R_step hf h0 e]
    unfold tp_R
    simp [e]
-- the tree: c nodes, the parent of node c (the next one) is the open element
def tp_T (c o : Nat) (P K : Nat → Nat) : Prop :=
  1 ≤ c ∧ c ≤ 48 ∧ (∀ j, 0 < j → P j < j) ∧ P c = o ∧ (∀ i j, 0 < i → i < j → j ≤ c → P j < i → P j ≤ P i) ∧ (∀ j, j < c → K j ≤ 8)
def tp_AP (c : Nat) (P : Nat → Nat) (pa : Nat → Int32) : Prop := pa 0 = -1 ∧ ∀ j, 0 < j → j < c → pa j = nI (P j)
def tp_AX (c : Nat) (P K : Nat → Nat) (V : Nat → Int32) (pa ka va : Nat → Int32) : Prop :=
  tp_AP c P pa ∧ (∀ j, j < c → ka j = nI (K j)) ∧ (∀ j, j < c → K j = 8 → va j = V j)
def tp_AY (c : Nat) (P K : Nat → Nat) (V : Nat → Int32) (pa te wo : Nat → Int32) : Prop :=
  tp_AP c P pa ∧ (∀ j, j < c → te j = tp_z (decide (K j = 8))) ∧ (∀ j, j < c → K j = 8 → wo j = V j) ∧ (∀ j, j < c → K j ≠ 8 → wo j = nI (K j))
section
variable {c o : Nat} {P K : Nat → Nat} {V : Nat → Int32}
variable {fc fo : Int32} {fs f0 f1 : Int64} {pa ka va : Nat → Int32}
theorem tp_x30 (hT : tp_T c o P K) {post : Int32 → Prop} {l a t : Nat} (hl : l < 48) (ha : a < 48) (ht : t ≤ a) (h : post (tp_z (tp_R P a t && decide (l ≠ a)))) :
    wX_isBelow_30 post (nI l) (nI a) (nI t) fc fo fs f0 f1 pa ka va := by
  have hf := hT.2.2.1
  unfold tp_R at h
  rw [tp_B_no hf ht] at h
  refine pk_eq t a (fun e => pk_eq l a (fun e2 => ?_) (fun e2 => ?_)) (fun e => ?_)
  · simpa [e, e2, tp_z] using h
  · simpa [e, e2, tp_z] using h
  · simpa [e, tp_z] using h
theorem tp_x5 (hT : tp_T c o P K) (hA : tp_AP c P pa) {post : Int32 → Prop} {l a : Nat} (hl : l < 48) (ha : a < 48) : ∀ n t s : Nat, t < n → t < c → t + s ≤ 47 → post (tp_z (tp_R P a t && decide (l ≠ a))) →
    wX_isBelow_5 post (nI l) (nI a) fc fo fs f0 f1 pa ka va n (nI t) (nI s) := by
  have hf := hT.2.2.1
  have hc := hT.2.1
  intro n
  induction n with
  | zero => intro t s h; omega
  | succ n ih =>
    intro t s h1 h2 h3 h
    refine pk_le 48 s (fun z => absurd z (by omega)) (fun _ => pk_le t a (fun z => tp_x30 hT hl ha z h) (fun z => ⟨vp_in_nI (by omega) (by omega), ?_⟩))
    have hp := hf t (by omega)
    refine nm_r (e' := nI (P t)) ?_ (nm_r (nI_1 s) (ih (P t) (s + 1) (by omega) (by omega) (by omega) ?_))
    · rw [nI_clamp (by omega)]; exact hA.2 t (by omega) h2
    · rw [← tp_R_step hf (by omega) (by omega)]; exact h
theorem tp_xB (hT : tp_T c o P K) (hA : tp_AP c P pa) {post : Int32 → Prop} {l a : Nat} (hl : l < c) (ha : a < c) (h : post (tp_z (tp_B P a l))) :
    wpX_isBelow post (fc, fo, fs, f0, f1, pa, ka, va) (nI l) (nI a) := by
  have hf := hT.2.2.1
  have hc := hT.2.1
  refine ⟨l + 1, tp_x5 hT hA (by omega) (by omega) (l + 1) l 0 (by omega) hl (by omega) ?_⟩
  have e : (tp_R P a l && decide (l ≠ a)) = tp_B P a l := by
    unfold tp_R
    by_cases z : l = a
    · rw [tp_B_no hf (by omega)]; simp [z]
    · simp [z]
  rw [e]; exact h
end
section
variable {c o : Nat} {P K : Nat → Nat} {V : Nat → Int32}
variable {fc fo : Int32} {fs : Int64} {pa te wo : Nat → Int32} {kp : Nat → Int64}
theorem tp_m1ne {a : Nat} (ha : a < 48) : ¬ (-1 : Int32) = nI a := by
  intro h
  have e := congrArg Int32.toInt h
  rw [nI_toInt (by omega), show (-1 : Int32).toInt = -1 by decide] at e
  omega
theorem tp_y26 {post : Int32 → Prop} {a : Nat} (ha : a < 48) (h : post 0) : wY_above_26 post (nI a) (-1) fc fo fs pa te wo kp :=
  br_f (tp_m1ne ha) h
theorem tp_y7 (hT : tp_T c o P K) (hA : tp_AP c P pa) {post : Int32 → Prop} {a : Nat} (ha : a < 48) : ∀ n t : Nat, t + 1 < n → t < c → post (tp_z (tp_R P a t)) →
    wY_above_7 post (nI a) fc fo fs pa te wo kp n (nI t) := by
  have hf := hT.2.2.1
  have hc := hT.2.1
  intro n
  induction n with
  | zero => intro t h; omega
  | succ n ih =>
    intro t h1 h2 h
    refine br_f (nI_pos (by omega)) (pk_eq t a (fun e => br_t (by rw [e]) ?_) (fun e => ⟨vp_in_nI (by omega) (by omega), ?_⟩))
    · have : tp_R P a t = true := by unfold tp_R; simp [e]
      rw [this] at h; exact h
    · by_cases h0 : t = 0
      · have e0 : pa (nI t).toNatClampNeg = -1 := by rw [nI_clamp (by omega), h0]; exact hA.1
        refine nm_r e0 ?_
        have : tp_R P a t = false := by
          unfold tp_R; rw [tp_B_no hf (by omega)]; simp [e]
        rw [this] at h
        obtain ⟨m, rfl⟩ : ∃ m, n = m + 1 := ⟨n - 1, by omega⟩
        exact br_t (by decide) (tp_y26 ha h)
      · have hp := hf t (by omega)
        refine nm_r (e' := nI (P t)) ?_ (ih (P t) (by omega) (by omega) ?_)
        · rw [nI_clamp (by omega)]; exact hA.2 t (by omega) h2
        · rw [← tp_R_step hf (by omega) e]; exact h
theorem tp_yB (hT : tp_T c o P K) (hA : tp_AP c P pa) {post : Int32 → Prop} {a n : Nat} (ha : a < c) (hn : n < c) (h : post (tp_z (tp_B P a n))) :
    wpY_above post (fc, fo, fs, pa, te, wo, kp) (nI a) (nI n) := by
  have hf := hT.2.2.1
  have hc := hT.2.1
  refine ⟨vp_in_nI (by omega) (by omega), ?_⟩
  by_cases h0 : n = 0
  · have e0 : pa (nI n).toNatClampNeg = -1 := by rw [nI_clamp (by omega), h0]; exact hA.1
    refine nm_r e0 ⟨1, br_t (by decide) (tp_y26 (by omega) ?_)⟩
    rw [tp_B_no hf (by omega)] at h; exact h
  · have hp := hf n (by omega)
    refine nm_r (e' := nI (P n)) ?_ ⟨P n + 2, tp_y7 hT hA (by omega) (P n + 2) (P n) (by omega) (by omega) ?_⟩
    · rw [nI_clamp (by omega)]; exact hA.2 n (by omega) hn
    · rw [← tp_R_B hf (by omega)]; exact h
end
