-- where an axis leads, what a test lets through
def tp_L (P : Nat → Nat) (x n m : Nat) : Bool := match x with
  | 0 => decide (m = n)
  | 1 => decide (0 < m) && decide (P m = n)
  | 2 => decide (0 < n) && decide (P n = m)
  | 3 => tp_B P n m
  | 4 => tp_B P m n
  | 5 => decide (n < m) && (decide (0 < m) && (decide (0 < n) && decide (P m = P n)))
  | 6 => decide (m < n) && (decide (0 < m) && (decide (0 < n) && decide (P m = P n)))
  | 7 => decide (n < m) && !tp_B P n m
  | 8 => decide (m < n) && !tp_B P m n
  | 9 => decide (m = n) || tp_B P n m
  | _ => decide (m = n) || tp_B P m n
def tp_S (K : Nat → Nat) (t m : Nat) : Bool := if t = 10 then true else if t = 9 then !decide (K m = 8) else decide (K m = t)
theorem tp_if {C : Prop} {post : Int32 → Prop} {b : Bool} (e : C ↔ b = true) (h : post (tp_z b)) : (C → post 1) ∧ (¬ C → post 0) := by
  cases b
  · exact ⟨fun z => absurd (e.mp z) (by decide), fun _ => h⟩
  · exact ⟨fun _ => h, fun z => absurd (e.mpr rfl) z⟩
theorem tp_ifn {C : Prop} {post : Int32 → Prop} {b : Bool} (e : C ↔ b = true) (h : post (tp_z (!b))) : (C → post 0) ∧ (¬ C → post 1) := by
  cases b
  · exact ⟨fun z => absurd (e.mp z) (by decide), fun _ => h⟩
  · exact ⟨fun _ => h, fun z => absurd (e.mpr rfl) z⟩
theorem tp_dq {a b : Nat} (ha : a < 2 ^ 31) (hb : b < 2 ^ 31) : nI a = nI b ↔ decide (a = b) = true := by
  rw [nI_eq ha hb]; simp
theorem tp_pe {c o : Nat} {P K : Nat → Nat} {pa : Nat → Int32} (hT : tp_T c o P K) (hA : tp_AP c P pa) {m n : Nat} (hm : m < c) (hn : n < c) : pa (nI m).toNatClampNeg = nI n ↔ (decide (0 < m) && decide (P m = n)) = true := by
  have hc := hT.2.1
  rw [nI_clamp (by omega)]
  by_cases h0 : m = 0
  · subst h0
    rw [hA.1]
    simp [tp_m1ne (show n < 48 by omega)]
  · have hp := hT.2.2.1 m (by omega)
    rw [hA.2 m (by omega) hm, nI_eq (by omega) (by omega)]
    simp [show 0 < m by omega]
theorem tp_pe2 {c o : Nat} {P K : Nat → Nat} {pa : Nat → Int32} (hT : tp_T c o P K) (hA : tp_AP c P pa) {m n : Nat} (hm : m < c) (hn : n < c) (hd : m ≠ n) : pa (nI m).toNatClampNeg = pa (nI n).toNatClampNeg ↔ (decide (0 < m) && (decide (0 < n) && decide (P m = P n))) = true := by
  have hc := hT.2.1
  by_cases h0 : n = 0
  · have hp := hT.2.2.1 m (by omega)
    rw [nI_clamp (show n < 2 ^ 31 by omega), nI_clamp (show m < 2 ^ 31 by omega), h0, hA.1, hA.2 m (by omega) hm]
    simp
    exact fun e => tp_m1ne (show P m < 48 by omega) e.symm
  · have hp := hT.2.2.1 n (by omega)
    rw [show pa (nI n).toNatClampNeg = nI (P n) by rw [nI_clamp (by omega)]; exact hA.2 n (by omega) hn, tp_pe hT hA hm (show P n < c by omega)]
    simp [show 0 < n by omega]
theorem tp_ax {x : Nat} (h : x ≤ 10) : x = 0 ∨ x = 1 ∨ x = 2 ∨ x = 3 ∨ x = 4 ∨ x = 5 ∨ x = 6 ∨ x = 7 ∨ x = 8 ∨ x = 9 ∨ x = 10 := by omega
section
variable {c o : Nat} {P K : Nat → Nat} {V : Nat → Int32}
variable {fc fo : Int32} {fs f0 f1 : Int64} {pa ka va : Nat → Int32}
theorem tp_xL0 (hT : tp_T c o P K) (hA : tp_AP c P pa) {post : Int32 → Prop} {n m : Nat} (hn : n < c) (hm : m < c) (h : post (tp_z (tp_L P 0 n m))) :
    wpX_leads post (fc, fo, fs, f0, f1, pa, ka, va) (nI 0) (nI n) (nI m) := by
  have hc := hT.2.1
  exact br_f (by decide) (br_f (by decide) (br_t rfl (tp_if (tp_dq (by omega) (by omega)) h)))
theorem tp_xL1 (hT : tp_T c o P K) (hA : tp_AP c P pa) {post : Int32 → Prop} {n m : Nat} (hn : n < c) (hm : m < c) (h : post (tp_z (tp_L P 1 n m))) :
    wpX_leads post (fc, fo, fs, f0, f1, pa, ka, va) (nI 1) (nI n) (nI m) := by
  have hc := hT.2.1
  exact br_f (by decide) (br_f (by decide) (br_f (by decide) (br_t rfl (⟨vp_in_nI (by omega) (by omega), tp_if (tp_pe hT hA hm hn) h⟩))))
theorem tp_xL2 (hT : tp_T c o P K) (hA : tp_AP c P pa) {post : Int32 → Prop} {n m : Nat} (hn : n < c) (hm : m < c) (h : post (tp_z (tp_L P 2 n m))) :
    wpX_leads post (fc, fo, fs, f0, f1, pa, ka, va) (nI 2) (nI n) (nI m) := by
  have hc := hT.2.1
  exact br_f (by decide) (br_f (by decide) (br_f (by decide) (br_f (by decide) (br_t rfl (⟨vp_in_nI (by omega) (by omega), tp_if (tp_pe hT hA hn hm) h⟩)))))
theorem tp_xL3 (hT : tp_T c o P K) (hA : tp_AP c P pa) {post : Int32 → Prop} {n m : Nat} (hn : n < c) (hm : m < c) (h : post (tp_z (tp_L P 3 n m))) :
    wpX_leads post (fc, fo, fs, f0, f1, pa, ka, va) (nI 3) (nI n) (nI m) := by
  have hc := hT.2.1
  exact br_f (by decide) (br_f (by decide) (br_f (by decide) (br_f (by decide) (br_f (by decide) (br_t rfl (tp_xB hT hA hm hn ⟨tp_zn _, h⟩))))))
theorem tp_xL4 (hT : tp_T c o P K) (hA : tp_AP c P pa) {post : Int32 → Prop} {n m : Nat} (hn : n < c) (hm : m < c) (h : post (tp_z (tp_L P 4 n m))) :
    wpX_leads post (fc, fo, fs, f0, f1, pa, ka, va) (nI 4) (nI n) (nI m) := by
  have hc := hT.2.1
  exact br_f (by decide) (br_f (by decide) (br_f (by decide) (br_f (by decide) (br_f (by decide) (br_f (by decide) (br_t rfl (tp_xB hT hA hn hm ⟨tp_zn _, h⟩)))))))
theorem tp_xL5 (hT : tp_T c o P K) (hA : tp_AP c P pa) {post : Int32 → Prop} {n m : Nat} (hn : n < c) (hm : m < c) (h : post (tp_z (tp_L P 5 n m))) :
    wpX_leads post (fc, fo, fs, f0, f1, pa, ka, va) (nI 5) (nI n) (nI m) := by
  have hc := hT.2.1
  exact br_f (by decide) (br_f (by decide) (br_f (by decide) (br_f (by decide) (br_f (by decide) (br_f (by decide) (br_f (by decide) (br_t rfl (pk_le m n (fun z => by rw [show tp_L P 5 n m = false by simp [tp_L, show ¬ n < m by omega]] at h; exact h) (fun z => ⟨vp_in_nI (by omega) (by omega), vp_in_nI (by omega) (by omega), tp_if (tp_pe2 hT hA hm hn (by omega)) (by rw [show tp_L P 5 n m = (decide (0 < m) && (decide (0 < n) && decide (P m = P n))) by simp [tp_L, z]] at h; exact h)⟩)))))))))
theorem tp_xL6 (hT : tp_T c o P K) (hA : tp_AP c P pa) {post : Int32 → Prop} {n m : Nat} (hn : n < c) (hm : m < c) (h : post (tp_z (tp_L P 6 n m))) :
    wpX_leads post (fc, fo, fs, f0, f1, pa, ka, va) (nI 6) (nI n) (nI m) := by
  have hc := hT.2.1
  exact br_f (by decide) (br_f (by decide) (br_f (by decide) (br_f (by decide) (br_f (by decide) (br_f (by decide) (br_f (by decide) (br_f (by decide) (br_t rfl (pk_le n m (fun z => by rw [show tp_L P 6 n m = false by simp [tp_L, show ¬ m < n by omega]] at h; exact h) (fun z => ⟨vp_in_nI (by omega) (by omega), vp_in_nI (by omega) (by omega), tp_if (tp_pe2 hT hA hm hn (by omega)) (by rw [show tp_L P 6 n m = (decide (0 < m) && (decide (0 < n) && decide (P m = P n))) by simp [tp_L, z]] at h; exact h)⟩))))))))))
theorem tp_xL7 (hT : tp_T c o P K) (hA : tp_AP c P pa) {post : Int32 → Prop} {n m : Nat} (hn : n < c) (hm : m < c) (h : post (tp_z (tp_L P 7 n m))) :
    wpX_leads post (fc, fo, fs, f0, f1, pa, ka, va) (nI 7) (nI n) (nI m) := by
  have hc := hT.2.1
  exact br_f (by decide) (br_f (by decide) (br_f (by decide) (br_f (by decide) (br_f (by decide) (br_f (by decide) (br_f (by decide) (br_f (by decide) (br_f (by decide) (br_t rfl (pk_le m n (fun z => by rw [show tp_L P 7 n m = false by simp [tp_L, show ¬ n < m by omega]] at h; exact h) (fun z => tp_xB hT hA hm hn (tp_zt (fun e => by rw [show tp_L P 7 n m = true by simp [tp_L, z, e]] at h; exact h) (fun e => by rw [show tp_L P 7 n m = false by simp [tp_L, e]] at h; exact h)))))))))))))
theorem tp_xL8 (hT : tp_T c o P K) (hA : tp_AP c P pa) {post : Int32 → Prop} {n m : Nat} (hn : n < c) (hm : m < c) (h : post (tp_z (tp_L P 8 n m))) :
    wpX_leads post (fc, fo, fs, f0, f1, pa, ka, va) (nI 8) (nI n) (nI m) := by
  have hc := hT.2.1
  exact br_f (by decide) (br_f (by decide) (br_f (by decide) (br_f (by decide) (br_f (by decide) (br_f (by decide) (br_f (by decide) (br_f (by decide) (br_f (by decide) (br_f (by decide) (br_t rfl (pk_le n m (fun z => by rw [show tp_L P 8 n m = false by simp [tp_L, show ¬ m < n by omega]] at h; exact h) (fun z => tp_xB hT hA hn hm (tp_zt (fun e => by rw [show tp_L P 8 n m = true by simp [tp_L, z, e]] at h; exact h) (fun e => by rw [show tp_L P 8 n m = false by simp [tp_L, e]] at h; exact h))))))))))))))
theorem tp_xL9 (hT : tp_T c o P K) (hA : tp_AP c P pa) {post : Int32 → Prop} {n m : Nat} (hn : n < c) (hm : m < c) (h : post (tp_z (tp_L P 9 n m))) :
    wpX_leads post (fc, fo, fs, f0, f1, pa, ka, va) (nI 9) (nI n) (nI m) := by
  have hc := hT.2.1
  exact br_f (by decide) (br_f (by decide) (br_f (by decide) (br_f (by decide) (br_f (by decide) (br_f (by decide) (br_f (by decide) (br_f (by decide) (br_f (by decide) (br_f (by decide) (br_f (by decide) (br_t rfl (pk_eq m n (fun z => by rw [show tp_L P 9 n m = true by simp [tp_L, z]] at h; exact h) (fun z => tp_xB hT hA hm hn (tp_zt (fun e => by rw [show tp_L P 9 n m = false by simp [tp_L, z, e]] at h; exact h) (fun e => by rw [show tp_L P 9 n m = true by simp [tp_L, e]] at h; exact h)))))))))))))))
theorem tp_xL10 (hT : tp_T c o P K) (hA : tp_AP c P pa) {post : Int32 → Prop} {n m : Nat} (hn : n < c) (hm : m < c) (h : post (tp_z (tp_L P 10 n m))) :
    wpX_leads post (fc, fo, fs, f0, f1, pa, ka, va) (nI 10) (nI n) (nI m) := by
  have hc := hT.2.1
  exact br_f (by decide) (br_f (by decide) (br_f (by decide) (br_f (by decide) (br_f (by decide) (br_f (by decide) (br_f (by decide) (br_f (by decide) (br_f (by decide) (br_f (by decide) (br_f (by decide) (br_f (by decide) (br_t rfl (pk_eq m n (fun z => by rw [show tp_L P 10 n m = true by simp [tp_L, z]] at h; exact h) (fun z => tp_xB hT hA hn hm (tp_zt (fun e => by rw [show tp_L P 10 n m = false by simp [tp_L, z, e]] at h; exact h) (fun e => by rw [show tp_L P 10 n m = true by simp [tp_L, e]] at h; exact h))))))))))))))))
theorem tp_xL (hT : tp_T c o P K) (hA : tp_AP c P pa) {post : Int32 → Prop} {x n m : Nat} (hx : x ≤ 10) (hn : n < c) (hm : m < c) (h : post (tp_z (tp_L P x n m))) :
    wpX_leads post (fc, fo, fs, f0, f1, pa, ka, va) (nI x) (nI n) (nI m) := by
  rcases tp_ax hx with e | e | e | e | e | e | e | e | e | e | e <;> subst e
  · exact tp_xL0 hT hA hn hm h
  · exact tp_xL1 hT hA hn hm h
  · exact tp_xL2 hT hA hn hm h
  · exact tp_xL3 hT hA hn hm h
  · exact tp_xL4 hT hA hn hm h
  · exact tp_xL5 hT hA hn hm h
  · exact tp_xL6 hT hA hn hm h
  · exact tp_xL7 hT hA hn hm h
  · exact tp_xL8 hT hA hn hm h
  · exact tp_xL9 hT hA hn hm h
  · exact tp_xL10 hT hA hn hm h
theorem tp_xS (hT : tp_T c o P K) (hA : tp_AX c P K V pa ka va) {post : Int32 → Prop} {t m : Nat} (ht : t ≤ 10) (hm : m < c) (h : post (tp_z (tp_S K t m))) :
    wpX_passes post (fc, fo, fs, f0, f1, pa, ka, va) (nI m) (nI t) := by
  have hc := hT.2.1
  have hk := hT.2.2.2.2.2 m hm
  have ek : ka (nI m).toNatClampNeg = nI (K m) := by rw [nI_clamp (by omega)]; exact hA.2.1 m hm
  refine pk_eq t 10 (fun e => ?_) (fun e => pk_eq t 9 (fun e9 => ⟨vp_in_nI (by omega) (by omega), ?_⟩) (fun e9 => ⟨vp_in_nI (by omega) (by omega), ?_⟩))
  · subst e; exact h
  · subst e9
    rw [ek]
    exact tp_ifn (tp_dq (b := 8) (by omega) (by omega)) h
  · rw [ek]
    refine tp_if (tp_dq (by omega) (by omega)) ?_
    rw [show tp_S K t m = decide (K m = t) by simp [tp_S, e, e9]] at h
    exact h
theorem tp_xRl (hT : tp_T c o P K) (hA : tp_AX c P K V pa ka va) {post : Int64 → Prop} {x t n : Nat} (hx : x ≤ 10) (ht : t ≤ 10) (hn : n < c) (h : post (tp_mk (fun m => tp_L P x n m && tp_S K t m) c)) : ∀ f i s, c - i < f → i ≤ c → s = tp_mk (fun m => tp_L P x n m && tp_S K t m) i →
    wX_reachedFrom_6 post (nI n) (nI x) (nI t) (nI c) fo fs f0 f1 pa ka va f s (nI i) := by
  have hc := hT.2.1
  intro f
  induction f with
  | zero => intro i s h1; omega
  | succ f ih =>
    intro i s h1 h2 hs
    refine pk_le c i (fun z => ?_) (fun z => tp_xS hT hA ht z (tp_zt (fun e => nm_r (nI_1 i) (ih _ _ (by omega) (by omega) ?_)) (fun e => tp_xL hT hA.1 hx hn z (tp_zt (fun e2 => nm_r (nI_1 i) (ih _ _ (by omega) (by omega) ?_)) (fun e2 => nm_e (nm_r (nI_1 i) (ih _ _ (by omega) (by omega) ?_)))))))
    · have : i = c := by omega
      subst this hs; exact h
    · rw [hs, tp_mk, if_neg (by simp [e])]
    · rw [hs, tp_mk, if_neg (by simp [e2])]
    · rw [hs, tp_mk, if_pos (by simp [e, e2])]; rfl
theorem tp_xR (hT : tp_T c o P K) (hA : tp_AX c P K V pa ka va) {post : Int64 → Prop} {x t n : Nat} (hx : x ≤ 10) (ht : t ≤ 10) (hn : n < c) (h : post (tp_mk (fun m => tp_L P x n m && tp_S K t m) c)) :
    wpX_reachedFrom post (nI c, fo, fs, f0, f1, pa, ka, va) (nI n) (nI x) (nI t) :=
  ⟨c + 1, tp_xRl hT hA hx ht hn h (c + 1) 0 0 (by omega) (by omega) rfl⟩
end
section
variable {c o : Nat} {P K : Nat → Nat} {V : Nat → Int32}
variable {fc fo : Int32} {fs : Int64} {pa te wo : Nat → Int32} {kp : Nat → Int64}
theorem tp_yL0 (hT : tp_T c o P K) (hA : tp_AP c P pa) {post : Int32 → Prop} {n m : Nat} {b : Bool} (hn : n < c) (hm : m < c) (hb : b = (decide (0 < m) && (decide (0 < n) && decide (P m = P n)))) (h : post (tp_z (tp_L P 0 n m))) :
    wY_leads_29 post (nI 0) (nI n) (nI m) (tp_z b) fc fo fs pa te wo kp := by
  have hc := hT.2.1
  exact br_t rfl (tp_if (tp_dq (by omega) (by omega)) h)
theorem tp_yL1 (hT : tp_T c o P K) (hA : tp_AP c P pa) {post : Int32 → Prop} {n m : Nat} {b : Bool} (hn : n < c) (hm : m < c) (hb : b = (decide (0 < m) && (decide (0 < n) && decide (P m = P n)))) (h : post (tp_z (tp_L P 1 n m))) :
    wY_leads_29 post (nI 1) (nI n) (nI m) (tp_z b) fc fo fs pa te wo kp := by
  have hc := hT.2.1
  exact br_f (by decide) (br_t rfl (⟨vp_in_nI (by omega) (by omega), tp_if (tp_pe hT hA hm hn) h⟩))
theorem tp_yL2 (hT : tp_T c o P K) (hA : tp_AP c P pa) {post : Int32 → Prop} {n m : Nat} {b : Bool} (hn : n < c) (hm : m < c) (hb : b = (decide (0 < m) && (decide (0 < n) && decide (P m = P n)))) (h : post (tp_z (tp_L P 2 n m))) :
    wY_leads_29 post (nI 2) (nI n) (nI m) (tp_z b) fc fo fs pa te wo kp := by
  have hc := hT.2.1
  exact br_f (by decide) (br_f (by decide) (br_t rfl (⟨vp_in_nI (by omega) (by omega), tp_if (tp_pe hT hA hn hm) h⟩)))
theorem tp_yL3 (hT : tp_T c o P K) (hA : tp_AP c P pa) {post : Int32 → Prop} {n m : Nat} {b : Bool} (hn : n < c) (hm : m < c) (hb : b = (decide (0 < m) && (decide (0 < n) && decide (P m = P n)))) (h : post (tp_z (tp_L P 3 n m))) :
    wY_leads_29 post (nI 3) (nI n) (nI m) (tp_z b) fc fo fs pa te wo kp := by
  have hc := hT.2.1
  exact br_f (by decide) (br_f (by decide) (br_f (by decide) (br_t rfl (tp_yB hT hA hn hm ⟨tp_zn _, h⟩))))
theorem tp_yL4 (hT : tp_T c o P K) (hA : tp_AP c P pa) {post : Int32 → Prop} {n m : Nat} {b : Bool} (hn : n < c) (hm : m < c) (hb : b = (decide (0 < m) && (decide (0 < n) && decide (P m = P n)))) (h : post (tp_z (tp_L P 4 n m))) :
    wY_leads_29 post (nI 4) (nI n) (nI m) (tp_z b) fc fo fs pa te wo kp := by
  have hc := hT.2.1
  exact br_f (by decide) (br_f (by decide) (br_f (by decide) (br_f (by decide) (br_t rfl (tp_yB hT hA hm hn ⟨tp_zn _, h⟩)))))
theorem tp_yL5 (hT : tp_T c o P K) (hA : tp_AP c P pa) {post : Int32 → Prop} {n m : Nat} {b : Bool} (hn : n < c) (hm : m < c) (hb : b = (decide (0 < m) && (decide (0 < n) && decide (P m = P n)))) (h : post (tp_z (tp_L P 5 n m))) :
    wY_leads_29 post (nI 5) (nI n) (nI m) (tp_z b) fc fo fs pa te wo kp := by
  have hc := hT.2.1
  exact br_f (by decide) (br_f (by decide) (br_f (by decide) (br_f (by decide) (br_f (by decide) (br_t rfl (tp_zt (fun e => by rw [show tp_L P 5 n m = false by rw [hb] at e; simp only [tp_L]; rw [e, Bool.and_false]] at h; exact h) (fun e => pk_le m n (fun z => by rw [show tp_L P 5 n m = false by simp [tp_L, show ¬ n < m by omega]] at h; exact h) (fun z => by rw [show tp_L P 5 n m = true by rw [hb] at e; simp only [tp_L]; rw [e]; simp [z]] at h; exact h))))))))
theorem tp_yL6 (hT : tp_T c o P K) (hA : tp_AP c P pa) {post : Int32 → Prop} {n m : Nat} {b : Bool} (hn : n < c) (hm : m < c) (hb : b = (decide (0 < m) && (decide (0 < n) && decide (P m = P n)))) (h : post (tp_z (tp_L P 6 n m))) :
    wY_leads_29 post (nI 6) (nI n) (nI m) (tp_z b) fc fo fs pa te wo kp := by
  have hc := hT.2.1
  exact br_f (by decide) (br_f (by decide) (br_f (by decide) (br_f (by decide) (br_f (by decide) (br_f (by decide) (br_t rfl (tp_zt (fun e => by rw [show tp_L P 6 n m = false by rw [hb] at e; simp only [tp_L]; rw [e, Bool.and_false]] at h; exact h) (fun e => pk_le n m (fun z => by rw [show tp_L P 6 n m = false by simp [tp_L, show ¬ m < n by omega]] at h; exact h) (fun z => by rw [show tp_L P 6 n m = true by rw [hb] at e; simp only [tp_L]; rw [e]; simp [z]] at h; exact h)))))))))
theorem tp_yL7 (hT : tp_T c o P K) (hA : tp_AP c P pa) {post : Int32 → Prop} {n m : Nat} {b : Bool} (hn : n < c) (hm : m < c) (hb : b = (decide (0 < m) && (decide (0 < n) && decide (P m = P n)))) (h : post (tp_z (tp_L P 7 n m))) :
    wY_leads_29 post (nI 7) (nI n) (nI m) (tp_z b) fc fo fs pa te wo kp := by
  have hc := hT.2.1
  exact br_f (by decide) (br_f (by decide) (br_f (by decide) (br_f (by decide) (br_f (by decide) (br_f (by decide) (br_f (by decide) (br_t rfl (pk_le m n (fun z => by rw [show tp_L P 7 n m = false by simp [tp_L, show ¬ n < m by omega]] at h; exact h) (fun z => tp_yB hT hA hn hm (tp_zt (fun e => by rw [show tp_L P 7 n m = true by simp [tp_L, z, e]] at h; exact h) (fun e => by rw [show tp_L P 7 n m = false by simp [tp_L, e]] at h; exact h)))))))))))
theorem tp_yL8 (hT : tp_T c o P K) (hA : tp_AP c P pa) {post : Int32 → Prop} {n m : Nat} {b : Bool} (hn : n < c) (hm : m < c) (hb : b = (decide (0 < m) && (decide (0 < n) && decide (P m = P n)))) (h : post (tp_z (tp_L P 8 n m))) :
    wY_leads_29 post (nI 8) (nI n) (nI m) (tp_z b) fc fo fs pa te wo kp := by
  have hc := hT.2.1
  exact br_f (by decide) (br_f (by decide) (br_f (by decide) (br_f (by decide) (br_f (by decide) (br_f (by decide) (br_f (by decide) (br_f (by decide) (br_t rfl (pk_le n m (fun z => by rw [show tp_L P 8 n m = false by simp [tp_L, show ¬ m < n by omega]] at h; exact h) (fun z => tp_yB hT hA hm hn (tp_zt (fun e => by rw [show tp_L P 8 n m = true by simp [tp_L, z, e]] at h; exact h) (fun e => by rw [show tp_L P 8 n m = false by simp [tp_L, e]] at h; exact h))))))))))))
theorem tp_yL9 (hT : tp_T c o P K) (hA : tp_AP c P pa) {post : Int32 → Prop} {n m : Nat} {b : Bool} (hn : n < c) (hm : m < c) (hb : b = (decide (0 < m) && (decide (0 < n) && decide (P m = P n)))) (h : post (tp_z (tp_L P 9 n m))) :
    wY_leads_29 post (nI 9) (nI n) (nI m) (tp_z b) fc fo fs pa te wo kp := by
  have hc := hT.2.1
  exact br_f (by decide) (br_f (by decide) (br_f (by decide) (br_f (by decide) (br_f (by decide) (br_f (by decide) (br_f (by decide) (br_f (by decide) (br_f (by decide) (br_t rfl (pk_eq m n (fun z => by rw [show tp_L P 9 n m = true by simp [tp_L, z]] at h; exact h) (fun z => tp_yB hT hA hn hm (tp_zt (fun e => by rw [show tp_L P 9 n m = false by simp [tp_L, z, e]] at h; exact h) (fun e => by rw [show tp_L P 9 n m = true by simp [tp_L, e]] at h; exact h)))))))))))))
theorem tp_yL10 (hT : tp_T c o P K) (hA : tp_AP c P pa) {post : Int32 → Prop} {n m : Nat} {b : Bool} (hn : n < c) (hm : m < c) (hb : b = (decide (0 < m) && (decide (0 < n) && decide (P m = P n)))) (h : post (tp_z (tp_L P 10 n m))) :
    wY_leads_29 post (nI 10) (nI n) (nI m) (tp_z b) fc fo fs pa te wo kp := by
  have hc := hT.2.1
  exact br_f (by decide) (br_f (by decide) (br_f (by decide) (br_f (by decide) (br_f (by decide) (br_f (by decide) (br_f (by decide) (br_f (by decide) (br_f (by decide) (br_f (by decide) ((pk_eq m n (fun z => by rw [show tp_L P 10 n m = true by simp [tp_L, z]] at h; exact h) (fun z => tp_yB hT hA hm hn (tp_zt (fun e => by rw [show tp_L P 10 n m = false by simp [tp_L, z, e]] at h; exact h) (fun e => by rw [show tp_L P 10 n m = true by simp [tp_L, e]] at h; exact h))))))))))))))
theorem tp_yL29 (hT : tp_T c o P K) (hA : tp_AP c P pa) {post : Int32 → Prop} {x n m : Nat} {b : Bool} (hx : x ≤ 10) (hn : n < c) (hm : m < c) (hb : b = (decide (0 < m) && (decide (0 < n) && decide (P m = P n)))) (h : post (tp_z (tp_L P x n m))) :
    wY_leads_29 post (nI x) (nI n) (nI m) (tp_z b) fc fo fs pa te wo kp := by
  rcases tp_ax hx with e | e | e | e | e | e | e | e | e | e | e <;> subst e
  · exact tp_yL0 hT hA hn hm hb h
  · exact tp_yL1 hT hA hn hm hb h
  · exact tp_yL2 hT hA hn hm hb h
  · exact tp_yL3 hT hA hn hm hb h
  · exact tp_yL4 hT hA hn hm hb h
  · exact tp_yL5 hT hA hn hm hb h
  · exact tp_yL6 hT hA hn hm hb h
  · exact tp_yL7 hT hA hn hm hb h
  · exact tp_yL8 hT hA hn hm hb h
  · exact tp_yL9 hT hA hn hm hb h
  · exact tp_yL10 hT hA hn hm hb h
theorem tp_yL (hT : tp_T c o P K) (hA : tp_AP c P pa) {post : Int32 → Prop} {x n m : Nat} (hx : x ≤ 10) (hn : n < c) (hm : m < c) (h : post (tp_z (tp_L P x n m))) :
    wpY_leads post (fc, fo, fs, pa, te, wo, kp) (nI x) (nI n) (nI m) := by
  have hc := hT.2.1
  refine ⟨vp_in_nI (by omega) (by omega), ?_⟩
  by_cases h0 : n = 0
  · have e0 : pa (nI n).toNatClampNeg = -1 := by rw [nI_clamp (by omega), h0]; exact hA.1
    rw [e0]
    exact br_t (by decide) (tp_yL29 (b := false) hT hA hx hn hm (by simp [h0]) h)
  · have hp := hT.2.2.1 n (by omega)
    have e0 : pa (nI n).toNatClampNeg = nI (P n) := by rw [nI_clamp (by omega)]; exact hA.2 n (by omega) hn
    rw [e0]
    have q := tp_pe hT hA hm (show P n < c by omega)
    refine br_f (nI_pos (by omega)) ⟨vp_in_nI (by omega) (by omega), vp_in_nI (by omega) (by omega), br_c (fun z => ?_) (fun z => ?_)⟩
    · refine tp_yL29 (b := true) hT hA hx hn hm ?_ h
      have z' := q.mp z.symm
      simp at z'
      simp [z', show 0 < n by omega]
    · refine tp_yL29 (b := false) hT hA hx hn hm ?_ h
      have z' := ts_nt (fun y => z (q.mpr y).symm)
      symm
      simp only [show decide (0 < n) = true by simp; omega, Bool.true_and]
      exact z'
theorem tp_yS (hT : tp_T c o P K) (hA : tp_AY c P K V pa te wo) {post : Int32 → Prop} {t m : Nat} (ht : t ≤ 10) (hm : m < c) (h : post (tp_z (tp_S K t m))) :
    wpY_passes post (fc, fo, fs, pa, te, wo, kp) (nI t) (nI m) := by
  have hc := hT.2.1
  have hk := hT.2.2.2.2.2 m hm
  have et : te (nI m).toNatClampNeg = tp_z (decide (K m = 8)) := by rw [nI_clamp (by omega)]; exact hA.2.1 m hm
  refine pk_eq t 10 (fun e => ?_) (fun e => pk_eq t 8 (fun e8 => ⟨vp_in_nI (by omega) (by omega), ?_⟩) (fun e8 => ⟨vp_in_nI (by omega) (by omega), ?_⟩))
  · subst e; exact h
  · subst e8
    rw [et]
    exact ⟨tp_zn _, h⟩
  · rw [et]
    refine tp_zt (fun z => pk_eq t 9 (fun e9 => ?_) (fun e9 => ⟨vp_in_nI (by omega) (by omega), ?_⟩)) (fun z => ?_)
    · rw [show tp_S K t m = true by simp at z; simp [tp_S, e9, z]] at h; exact h
    · have z' : K m ≠ 8 := by simpa using z
      rw [show wo (nI m).toNatClampNeg = nI (K m) by rw [nI_clamp (by omega)]; exact hA.2.2.2 m hm z']
      refine tp_if (tp_dq (by omega) (by omega)) ?_
      rw [show tp_S K t m = decide (K m = t) by simp [tp_S, e, e9]] at h
      exact h
    · have z' : K m = 8 := by simpa using z
      rw [show tp_S K t m = false by simp [tp_S, e, z']; omega] at h
      exact h
end
