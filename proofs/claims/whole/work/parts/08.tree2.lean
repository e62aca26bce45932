theorem pk_least (P : Nat → Prop) (h : ∃ k, P k) : ∃ k, P k ∧ ∀ j, j < k → ¬ P j := by
  obtain ⟨k, hk⟩ := h
  induction k using Nat.strongRecOn with
  | ind k ih =>
    by_cases e : ∃ j, j < k ∧ P j
    · obtain ⟨j, hj, pj⟩ := e
      exact ih j hj pj
    · exact ⟨k, hk, fun j hj pj => e ⟨j, hj, pj⟩⟩
-- arrays: one more node, and trees that agree
theorem tp_AX_put {m : Nat} {P K : Nat → Nat} {V pa ka va : Nat → Int32} {z kz vz : Int32} (h : tp_AX m P K V pa ka va) (h0 : 0 < m) (hz : z = nI (P m)) (hk : kz = nI (K m)) (hv : K m = 8 → vz = V m) : tp_AX (m + 1) P K V (upd pa m z) (upd ka m kz) (upd va m vz) := by
  refine ⟨⟨?_, fun j j0 hj => ?_⟩, fun j hj => ?_, fun j hj k8 => ?_⟩
  · rw [pk_un (by omega)]; exact h.1.1
  · by_cases e : j = m
    · subst e; rw [pk_us]; exact hz
    · rw [pk_un e]; exact h.1.2 j j0 (by omega)
  · by_cases e : j = m
    · subst e; rw [pk_us]; exact hk
    · rw [pk_un e]; exact h.2.1 j (by omega)
  · by_cases e : j = m
    · subst e; rw [pk_us]; exact hv k8
    · rw [pk_un e]; exact h.2.2 j (by omega) k8
theorem tp_AY_put {m : Nat} {P K : Nat → Nat} {V pa te wo : Nat → Int32} {z tz wz : Int32} (h : tp_AY m P K V pa te wo) (h0 : 0 < m) (hz : z = nI (P m)) (ht : tz = tp_z (decide (K m = 8))) (hv : K m = 8 → wz = V m) (hw : K m ≠ 8 → wz = nI (K m)) : tp_AY (m + 1) P K V (upd pa m z) (upd te m tz) (upd wo m wz) := by
  refine ⟨⟨?_, fun j j0 hj => ?_⟩, fun j hj => ?_, fun j hj k8 => ?_, fun j hj k8 => ?_⟩
  · rw [pk_un (by omega)]; exact h.1.1
  · by_cases e : j = m
    · subst e; rw [pk_us]; exact hz
    · rw [pk_un e]; exact h.1.2 j j0 (by omega)
  · by_cases e : j = m
    · subst e; rw [pk_us]; exact ht
    · rw [pk_un e]; exact h.2.1 j (by omega)
  · by_cases e : j = m
    · subst e; rw [pk_us]; exact hv k8
    · rw [pk_un e]; exact h.2.2.1 j (by omega) k8
  · by_cases e : j = m
    · subst e; rw [pk_us]; exact hw k8
    · rw [pk_un e]; exact h.2.2.2 j (by omega) k8
theorem tp_AX_eq {c d : Nat} {P K P' K' : Nat → Nat} {V V' pa ka va : Nat → Int32} (hd : d ≤ c) (e : ∀ j, j < d → P' j = P j ∧ K' j = K j ∧ V' j = V j) (h : tp_AX c P K V pa ka va) : tp_AX d P' K' V' pa ka va := by
  refine ⟨⟨h.1.1, fun j j0 hj => ?_⟩, fun j hj => ?_, fun j hj k8 => ?_⟩
  · rw [(e j hj).1]; exact h.1.2 j j0 (by omega)
  · rw [(e j hj).2.1]; exact h.2.1 j (by omega)
  · rw [(e j hj).2.2]; rw [(e j hj).2.1] at k8; exact h.2.2 j (by omega) k8
theorem tp_AY_eq {c d : Nat} {P K P' K' : Nat → Nat} {V V' pa te wo : Nat → Int32} (hd : d ≤ c) (e : ∀ j, j < d → P' j = P j ∧ K' j = K j ∧ V' j = V j) (h : tp_AY c P K V pa te wo) : tp_AY d P' K' V' pa te wo := by
  refine ⟨⟨h.1.1, fun j j0 hj => ?_⟩, fun j hj => ?_, fun j hj k8 => ?_, fun j hj k8 => ?_⟩
  · rw [(e j hj).1]; exact h.1.2 j j0 (by omega)
  · rw [(e j hj).2.1]; exact h.2.1 j (by omega)
  · rw [(e j hj).2.2]; rw [(e j hj).2.1] at k8; exact h.2.2.1 j (by omega) k8
  · rw [(e j hj).2.1]; rw [(e j hj).2.1] at k8; exact h.2.2.2 j (by omega) k8
-- a node more
def tp_aP (c o' : Nat) (P : Nat → Nat) : Nat → Nat := fun j => if j ≤ c then P j else if j = c + 1 then o' else 0
def tp_aK (c k : Nat) (K : Nat → Nat) : Nat → Nat := fun j => if j = c then k else K j
def tp_aV (c : Nat) (x : Int32) (V : Nat → Int32) : Nat → Int32 := fun j => if j = c then x else V j
theorem tp_aT {c o k o' : Nat} {P K : Nat → Nat} (hT : tp_T c o P K) (hc : c < 48) (hk : k ≤ 8) (ho : o' = o ∨ o' = c) : tp_T (c + 1) o' (tp_aP c o' P) (tp_aK c k K) := by
  obtain ⟨h1, h2, h3, h4, h5, h6⟩ := hT
  have hoc := h3 c (by omega)
  refine ⟨by omega, by omega, fun j j0 => ?_, ?_, fun i j i0 ij jc => ?_, fun j hj => ?_⟩
  · have := h3 j j0
    unfold tp_aP
    split
    · exact this
    · split <;> omega
  · unfold tp_aP
    rw [if_neg (by omega), if_pos rfl]
  · unfold tp_aP
    rw [if_pos (show i ≤ c by omega)]
    by_cases e : j ≤ c
    · rw [if_pos e]; exact h5 i j i0 ij e
    · rw [if_neg e, if_pos (by omega)]
      intro z
      rcases ho with ho | ho
      · by_cases ic : i = c
        · subst ic; omega
        · have := h5 i c i0 (by omega) (by omega) (by omega)
          omega
      · omega
  · unfold tp_aK
    split
    · exact hk
    · exact h6 j (by omega)
-- a node and all below it less: d the node, e the first behind, k = e - d
def tp_rf (e k y : Nat) : Nat := if y < e then y else y - k
def tp_rP (c d e k : Nat) (P : Nat → Nat) : Nat → Nat := fun j => if j < d then P j else if j + k ≤ c then tp_rf e k (P (j + k)) else 0
def tp_rK (d k : Nat) (K : Nat → Nat) : Nat → Nat := fun j => if j < d then K j else K (j + k)
def tp_rV (d k : Nat) (V : Nat → Int32) : Nat → Int32 := fun j => if j < d then V j else V (j + k)
def tp_fb (c : Nat) (P : Nat → Nat) (d e : Nat) : Prop := d < e ∧ e ≤ c ∧ (∀ j, d < j → j < e → tp_B P d j = true) ∧ (e < c → tp_B P d e = false)
theorem tp_fb_ex {c d : Nat} (P : Nat → Nat) (h : d < c) : ∃ e, tp_fb c P d e := by
  obtain ⟨e, ⟨h1, h2⟩, h3⟩ := pk_least (fun j => d < j ∧ (j = c ∨ tp_B P d j = false)) ⟨c, h, Or.inl rfl⟩
  have hec : e ≤ c := by
    rcases Nat.lt_or_ge c e with z | z
    · exact absurd ⟨h, Or.inl rfl⟩ (h3 c z)
    · exact z
  refine ⟨e, h1, hec, fun j dj je => ?_, fun z => ?_⟩
  · exact ts_nf (fun u => h3 j je ⟨dj, Or.inr u⟩)
  · exact h2.resolve_left (by omega)
theorem tp_fb_out {c o d e : Nat} {P K : Nat → Nat} (hT : tp_T c o P K) (hd : 0 < d) (hb : tp_fb c P d e) (ho : o ≠ d) (hob : tp_B P d o = false) : ∀ i, e ≤ i → i ≤ c → P i < d ∨ e ≤ P i := by
  obtain ⟨h1, h2, h3, h4, h5, h6⟩ := hT
  obtain ⟨b1, b2, b3, b4⟩ := hb
  have hpe := h3 e (by omega)
  have key : P e < d ∨ e ≤ P e := by
    rcases Nat.lt_or_ge (P e) d with z | z
    · exact Or.inl z
    · exfalso
      by_cases q : P e = d
      · by_cases ec : e = c
        · subst ec; exact ho (h4.symm.trans q)
        · have := tp_B_up h3 (show 0 < e by omega) (Or.inl q)
          rw [b4 (by omega)] at this; cases this
      · have w := b3 (P e) (by omega) hpe
        by_cases ec : e = c
        · subst ec; rw [h4, hob] at w; cases w
        · have := tp_B_up h3 (show 0 < e by omega) (Or.inr w)
          rw [b4 (by omega)] at this; cases this
  intro i ei ic
  by_cases q : i = e
  · subst q; exact key
  · rcases Nat.lt_or_ge (P i) e with z | z
    · have := h5 e i (by omega) (by omega) ic z
      omega
    · exact Or.inr z
theorem tp_rT {c o d e k : Nat} {P K : Nat → Nat} (hT : tp_T c o P K) (hd : 0 < d) (hb : tp_fb c P d e) (hk : k = e - d) (ho : o ≠ d) (hob : tp_B P d o = false) : tp_T (c - k) (tp_rf e k o) (tp_rP c d e k P) (tp_rK d k K) := by
  have hout := tp_fb_out hT hd hb ho hob
  obtain ⟨h1, h2, h3, h4, h5, h6⟩ := hT
  obtain ⟨b1, b2, b3, b4⟩ := hb
  refine ⟨by omega, by omega, fun j j0 => ?_, ?_, fun i j i0 ij jc => ?_, fun j hj => ?_⟩
  · unfold tp_rP tp_rf
    by_cases z : j < d
    · rw [if_pos z]; exact h3 j j0
    · rw [if_neg z]
      by_cases y : j + k ≤ c
      · rw [if_pos y]
        have := h3 (j + k) (by omega)
        have := hout (j + k) (by omega) y
        split <;> omega
      · rw [if_neg y]; exact j0
  · unfold tp_rP
    rw [if_neg (by omega), if_pos (by omega), show c - k + k = c by omega, h4]
  · unfold tp_rP tp_rf
    by_cases jd : j < d
    · rw [if_pos jd, if_pos (show i < d by omega)]
      exact h5 i j i0 ij (by omega)
    · rw [if_neg jd, if_pos (show j + k ≤ c by omega)]
      have oj := hout (j + k) (by omega) (by omega)
      by_cases id : i < d
      · rw [if_pos id]
        have n := h5 i (j + k) i0 (by omega) (by omega)
        split
        · exact n
        · intro z; omega
      · rw [if_neg id, if_pos (show i + k ≤ c by omega)]
        have oi := hout (i + k) (by omega) (by omega)
        have n := h5 (i + k) (j + k) (by omega) (by omega) (by omega)
        generalize P (j + k) = a at *
        generalize P (i + k) = b at *
        split <;> split <;> omega
  · unfold tp_rK
    split
    · exact h6 j (by omega)
    · exact h6 (j + k) (by omega)
