section
-- rows of kit/rows (pasted)
theorem pk_us {f : Nat → Int32} {k : Nat} {x : Int32} : upd f k x k = x := if_pos rfl
theorem pk_un {f : Nat → Int32} {k j : Nat} {x : Int32} (h : j ≠ k) : upd f k x j = f j := if_neg h
theorem pk_uLs {f : Nat → Int64} {k : Nat} {x : Int64} : vp_updL f k x k = x := if_pos rfl
theorem pk_uLn {f : Nat → Int64} {k j : Nat} {x : Int64} (h : j ≠ k) : vp_updL f k x j = f j := if_neg h
theorem pk_sub {a b : Nat} (h : b ≤ a) : nI a - nI b = nI (a - b) := by
  obtain ⟨c, rfl⟩ : ∃ c, a = c + b := ⟨a - b, by omega⟩
  rw [← nI_add, Int32.add_sub_cancel, Nat.add_sub_cancel]
theorem pk_m1 (n : Nat) : nI (n + 1) + (-1) = nI n := by
  rw [← nI_1, Int32.add_assoc, show (1 : Int32) + (-1) = 0 from rfl, Int32.add_zero]
theorem pk_sub_toInt {a b : Nat} (ha : a < 2 ^ 30) (hb : b < 2 ^ 30) : (nI a - nI b).toInt = (a : Int) - b := by
  rw [Int32.toInt_sub, nI_toInt (by omega), nI_toInt (by omega)]
  exact Int.bmod_eq_of_le (by omega) (by omega)
theorem pk_ix (x : Int32) {n : Nat} (hn : n < 2 ^ 31) : x < 0 ∨ nI n ≤ x ∨ ∃ j : Nat, j < n ∧ x = nI j := by
  by_cases h : x < 0
  · exact Or.inl h
  · obtain ⟨j, hj, rfl⟩ := nI_of h
    by_cases h2 : j < n
    · exact Or.inr (Or.inr ⟨j, h2, rfl⟩)
    · exact Or.inr (Or.inl (nI_le (by omega) hj))
theorem pk_le {x y : Int32} {A B : Prop} (a b : Nat) (f : a ≤ b → A) (g : b < a → B) (hx : x = nI a := by rfl) (hy : y = nI b := by rfl) (ha : a < 2 ^ 31 := by omega) (hb : b < 2 ^ 31 := by omega) : (x ≤ y → A) ∧ (¬ x ≤ y → B) := by
  subst hx hy
  rw [nI_leI ha hb]
  exact ⟨f, fun z => g (by omega)⟩
theorem pk_lt {x y : Int32} {A B : Prop} (a b : Nat) (f : a < b → A) (g : b ≤ a → B) (hx : x = nI a := by rfl) (hy : y = nI b := by rfl) (ha : a < 2 ^ 31 := by omega) (hb : b < 2 ^ 31 := by omega) : (x < y → A) ∧ (¬ x < y → B) := by
  subst hx hy
  rw [nI_ltI ha hb]
  exact ⟨f, fun z => g (by omega)⟩
theorem pk_eq {x y : Int32} {A B : Prop} (a b : Nat) (f : a = b → A) (g : a ≠ b → B) (hx : x = nI a := by rfl) (hy : y = nI b := by rfl) (ha : a < 2 ^ 31 := by omega) (hb : b < 2 ^ 31 := by omega) : (x = y → A) ∧ (¬ x = y → B) := by
  subst hx hy
  rw [nI_eq ha hb]
  exact ⟨f, g⟩
theorem pk_in {x : Int32} (n N : Nat) (h : n < N) (hx : x = nI n := by rfl) (hN : N < 2 ^ 31 := by omega) : vp_in x N := by
  subst hx
  exact vp_in_nI h hN
theorem pk_cl {x : Int32} (n : Nat) (hx : x = nI n := by rfl) (h : n < 2 ^ 31 := by omega) : x.toNatClampNeg = n := by
  subst hx
  exact nI_clamp h
theorem pk_tn {n : Nat} (h : n < 2 ^ 32) : (nI n).toBitVec.toNat = n := Nat.mod_eq_of_lt h
theorem pk_and (x : Int32) {m : Int32} (k : Nat) (hm : m.toBitVec.toNat = 2 ^ k - 1) : x &&& m = nI (x.toBitVec.toNat % 2 ^ k) := by
  apply Int32.toBitVec_inj.mp
  apply BitVec.eq_of_toNat_eq
  rw [Int32.toBitVec_and, BitVec.toNat_and, hm, Nat.and_two_pow_sub_one_eq_mod]
  show _ = (BitVec.ofNat 32 _).toNat
  rw [BitVec.toNat_ofNat]
  exact (Nat.mod_eq_of_lt (Nat.lt_of_le_of_lt (Nat.mod_le _ _) x.toBitVec.isLt)).symm
theorem pk_andE (x : Int32) {m : Int32} (k : Nat) (hm : m.toBitVec.toNat = 2 ^ k - 1) : ∃ j : Nat, j < 2 ^ k ∧ x &&& m = nI j := ⟨_, Nat.mod_lt _ (Nat.two_pow_pos k), pk_and x k hm⟩
theorem pk_andIn (x : Int32) {m : Int32} (k : Nat) (hm : m.toBitVec.toNat = 2 ^ k - 1) (hk : k ≤ 30) : vp_in (x &&& m) (2 ^ k) := by
  obtain ⟨j, hj, e⟩ := pk_andE x k hm
  rw [e]
  exact vp_in_nI hj (Nat.lt_of_le_of_lt (Nat.pow_le_pow_right (by decide) hk) (by decide))
theorem ek_if {c d A B : Prop} (e : c ↔ d) (f : d → A) (g : ¬ d → B) : (c → A) ∧ (¬ c → B) :=
  ⟨fun z => f (e.mp z), fun z => g (fun y => z (e.mpr y))⟩
theorem sb_negT {w : Nat} (h : w < 2 ^ 31) : (-nI w).toInt = -(w : Int) := by
  rw [Int32.toInt_neg, nI_toInt h]
  exact Int.bmod_eq_of_le (by omega) (by omega)
theorem ts_nf {x : Bool} (h : ¬ x = false) : x = true := by cases x <;> first | rfl | exact absurd rfl h
theorem ts_nt {x : Bool} (h : ¬ x = true) : x = false := by cases x <;> first | rfl | exact absurd rfl h
theorem ts_bit {w : Int64} {s : UInt64} {j : Nat} (hj : j < 64) (hs : s.toNat = j) : ((w.toUInt64 >>> s).toInt64 &&& 1) = 0 ↔ w.toBitVec.getLsbD j = false := by
  have e : (w.toUInt64 >>> s).toInt64.toBitVec = w.toBitVec >>> j := by
    apply BitVec.eq_of_toNat_eq
    show (w.toUInt64 >>> s).toNat = _
    rw [UInt64.toNat_shiftRight, hs, Nat.mod_eq_of_lt hj, BitVec.toNat_ushiftRight]
    rfl
  rw [← Int64.toBitVec_inj, Int64.toBitVec_and, e]
  show w.toBitVec >>> j &&& 1#64 = 0#64 ↔ _
  constructor
  · intro h
    have t := congrArg (fun x => x.getLsbD 0) h
    simpa using t
  · intro h
    apply BitVec.eq_of_getLsbD_eq
    intro i hi
    cases i with
    | zero => simp [h]
    | succ i => simp
theorem wb_c : ∀ k, k < 64 → ((nI k).toInt64 &&& 63) = lN k := by decide +kernel
-- bits of a long
def tp_g (x : Int64) (i : Nat) : Bool := x.toBitVec.getLsbD i
theorem tp_ext {x y : Int64} (h : ∀ i, i < 64 → tp_g x i = tp_g y i) : x = y := Int64.toBitVec_inj.mp (BitVec.eq_of_getLsbD_eq h)
theorem tp_or (x y : Int64) (i : Nat) : tp_g (x ||| y) i = (tp_g x i || tp_g y i) := by
  unfold tp_g; rw [Int64.toBitVec_or, BitVec.getLsbD_or]
theorem tp_and (x y : Int64) (i : Nat) : tp_g (x &&& y) i = (tp_g x i && tp_g y i) := by
  unfold tp_g; rw [Int64.toBitVec_and, BitVec.getLsbD_and]
theorem tp_xor (x y : Int64) (i : Nat) : tp_g (x ^^^ y) i = (tp_g x i ^^ tp_g y i) := by
  unfold tp_g; rw [Int64.toBitVec_xor, BitVec.getLsbD_xor]
theorem tp_0 (i : Nat) : tp_g 0 i = false := by
  show (0#64).getLsbD i = false
  exact BitVec.getLsbD_zero
theorem tp_1' : ∀ i, i < 64 → tp_g 1 i = decide (i = 0) := by decide +kernel
theorem tp_big {x : Int64} {i : Nat} (h : 64 ≤ i) : tp_g x i = false := BitVec.getLsbD_of_ge _ _ h
theorem tp_1 (i : Nat) : tp_g 1 i = decide (i = 0) := by
  by_cases h : i < 64
  · exact tp_1' i h
  · rw [tp_big (by omega)]; symm; exact decide_eq_false (by omega)
theorem tp_m1 : ∀ i, i < 64 → tp_g (-1) i = true := by decide +kernel
def tp_b (n : Nat) : Int64 := (1 : Int64) <<< ((nI n).toInt64 &&& 63)
theorem tp_b_tp : ∀ n, n < 64 → (tp_b n).toBitVec = BitVec.twoPow 64 n := by decide +kernel
theorem tp_gb {n : Nat} (hn : n < 64) (i : Nat) : tp_g (tp_b n) i = decide (n = i) := by
  unfold tp_g; rw [tp_b_tp n hn, BitVec.getLsbD_twoPow]; simp [hn]
theorem tp_cu : ∀ k, k < 64 → ((nI k).toInt64.toUInt64 &&& Int64.toUInt64 63).toNat = k := by decide +kernel
theorem tp_hx (x : Int64) {n : Nat} (hn : n < 64) : ((x.toUInt64 >>> ((nI n).toInt64.toUInt64 &&& Int64.toUInt64 63)).toInt64 &&& 1) = 0 ↔ tp_g x n = false :=
  ts_bit hn (tp_cu n hn)
theorem tp_sl : ∀ n, n < 64 → (((nI n).toInt64 &&& 63).toBitVec.smod 64).toNat = n := by decide +kernel
theorem tp_sr0 (x : Int64) {n : Nat} (hn : n < 64) : tp_g (x >>> ((nI n).toInt64 &&& 63)) 0 = tp_g x n := by
  unfold tp_g
  rw [Int64.toBitVec_shiftRight]
  show (x.toBitVec.sshiftRight (((nI n).toInt64 &&& 63).toBitVec.smod 64).toNat).getLsbD 0 = _
  rw [tp_sl n hn, BitVec.getLsbD_sshiftRight]
  simp [hn]
theorem tp_sr (x : Int64) {n : Nat} (hn : n < 64) : ((x >>> ((nI n).toInt64 &&& 63)) &&& 1) = cond (tp_g x n) 1 0 := by
  apply tp_ext
  intro i hi
  rw [tp_and, tp_1]
  by_cases h : i = 0
  · subst h
    rw [tp_sr0 x hn]
    cases tp_g x n
    · simp [tp_0]
    · simp [tp_1]
  · cases tp_g x n
    · simp [tp_0, h]
    · simp [tp_1, h]
theorem tp_hy (x : Int64) {n : Nat} (hn : n < 64) : ((x >>> ((nI n).toInt64 &&& 63)) &&& 1) = 1 ↔ tp_g x n = true := by
  rw [tp_sr x hn]
  cases tp_g x n
  · constructor
    · intro h; exact absurd h (by decide)
    · intro h; cases h
  · exact ⟨fun _ => rfl, fun _ => rfl⟩
-- a set made of the numbers below n
def tp_mk (f : Nat → Bool) : Nat → Int64
  | 0 => 0
  | n + 1 => if f n = true then tp_mk f n ||| tp_b n else tp_mk f n
theorem tp_gmk (f : Nat → Bool) : ∀ n, n ≤ 64 → ∀ i, tp_g (tp_mk f n) i = (decide (i < n) && f i)
  | 0, _, i => by rw [show tp_mk f 0 = 0 from rfl, tp_0]; simp
  | n + 1, hn, i => by
    have ih := tp_gmk f n (by omega) i
    unfold tp_mk
    by_cases h : f n = true
    · rw [if_pos h, tp_or, ih, tp_gb (by omega)]
      by_cases e : n = i
      · subst e; simp [h]
      · have : (decide (i < n + 1)) = decide (i < n) := by apply decide_eq_decide.mpr; omega
        rw [this]; simp [e]
    · rw [if_neg h, ih]
      by_cases e : n = i
      · subst e; simp [ts_nt h]
      · have : (decide (i < n + 1)) = decide (i < n) := by apply decide_eq_decide.mpr; omega
        rw [this]
-- the same from above: the numbers from c - n below c
def tp_mb (f : Nat → Bool) (c : Nat) : Nat → Int64
  | 0 => 0
  | n + 1 => if f (c - 1 - n) = true then tp_mb f c n ||| tp_b (c - 1 - n) else tp_mb f c n
theorem tp_gmb (f : Nat → Bool) (c : Nat) (hc : c ≤ 64) : ∀ n, n ≤ c → ∀ i, tp_g (tp_mb f c n) i = (decide (c - n ≤ i) && (decide (i < c) && f i))
  | 0, _, i => by
    rw [show tp_mb f c 0 = 0 from rfl, tp_0]
    by_cases h : i < c
    · simp [h, show ¬ c ≤ i by omega]
    · simp [h]
  | n + 1, hn, i => by
    have ih := tp_gmb f c hc n (by omega) i
    unfold tp_mb
    by_cases e : c - 1 - n = i
    · have h1 : c - (n + 1) ≤ i := by omega
      have h2 : ¬ c - n ≤ i := by omega
      have h3 : i < c := by omega
      rw [e]
      by_cases h : f i = true
      · rw [if_pos h, tp_or, ih, tp_gb (by omega)]; simp [h, h1, h3]
      · rw [if_neg h, ih]; simp [ts_nt h]
    · have : (decide (c - (n + 1) ≤ i)) = decide (c - n ≤ i) := by apply decide_eq_decide.mpr; omega
      rw [this, ← ih]
      by_cases h : f (c - 1 - n) = true
      · rw [if_pos h, tp_or, tp_gb (by omega)]; simp [e]
      · rw [if_neg h]
theorem tp_mb_mk (f : Nat → Bool) {c : Nat} (hc : c ≤ 64) : tp_mb f c c = tp_mk f c := by
  apply tp_ext
  intro i _
  rw [tp_gmb f c hc c (Nat.le_refl _) i, tp_gmk f c hc i]
  simp
theorem tp_mk_eq {f h : Nat → Bool} {c d : Nat} (hc : c ≤ 64) (hd : d ≤ 64) (e : ∀ i, i < 64 → (decide (i < c) && f i) = (decide (i < d) && h i)) : tp_mk f c = tp_mk h d := by
  apply tp_ext
  intro i hi
  rw [tp_gmk f c hc i, tp_gmk h d hd i, e i hi]
theorem tp_mk_congr {f h : Nat → Bool} {c : Nat} (hc : c ≤ 64) (e : ∀ i, i < c → f i = h i) : tp_mk f c = tp_mk h c := by
  apply tp_mk_eq hc hc
  intro i _
  by_cases z : i < c
  · rw [e i z]
  · simp [z]
-- how many below n
def tp_c (f : Nat → Bool) : Nat → Nat
  | 0 => 0
  | n + 1 => if f n = true then tp_c f n + 1 else tp_c f n
theorem tp_ct {f : Nat → Bool} {n : Nat} (h : f n = true) : tp_c f (n + 1) = tp_c f n + 1 := if_pos h
theorem tp_cf {f : Nat → Bool} {n : Nat} (h : f n = false) : tp_c f (n + 1) = tp_c f n := if_neg (by rw [h]; decide)
theorem tp_c1 (f : Nat → Bool) (n : Nat) : tp_c f n ≤ tp_c f (n + 1) ∧ tp_c f (n + 1) ≤ tp_c f n + 1 := by
  by_cases h : f n = true
  · rw [tp_ct h]; omega
  · rw [tp_cf (ts_nt h)]; omega
theorem tp_c_le (f : Nat → Bool) : ∀ n, tp_c f n ≤ n
  | 0 => Nat.le_refl _
  | n + 1 => by have := tp_c_le f n; have := tp_c1 f n; omega
theorem tp_c_add (f : Nat → Bool) (a : Nat) : ∀ d, tp_c f a ≤ tp_c f (a + d)
  | 0 => Nat.le_refl _
  | d + 1 => Nat.le_trans (tp_c_add f a d) (tp_c1 f (a + d)).1
theorem tp_c_mono (f : Nat → Bool) {a b : Nat} (h : a ≤ b) : tp_c f a ≤ tp_c f b := by
  have := tp_c_add f a (b - a)
  rwa [show a + (b - a) = b by omega] at this
theorem tp_c_str {f : Nat → Bool} {a b : Nat} (h : a < b) (z : f a = true) : tp_c f a + 1 ≤ tp_c f b := by
  rw [← tp_ct z]; exact tp_c_mono f h
theorem tp_c_inj {f : Nat → Bool} {a b : Nat} (ha : f a = true) (hb : f b = true) (e : tp_c f a = tp_c f b) : a = b := by
  rcases Nat.lt_trichotomy a b with h | h | h
  · have := tp_c_str h ha; omega
  · exact h
  · have := tp_c_str h hb; omega
theorem tp_c_congr {f h : Nat → Bool} : ∀ c, (∀ i, i < c → f i = h i) → tp_c f c = tp_c h c
  | 0, _ => rfl
  | c + 1, e => by
    have ih := tp_c_congr (f := f) (h := h) c (fun i z => e i (by omega))
    unfold tp_c
    rw [e c (by omega), ih]
-- is there one below n
def tp_any (f : Nat → Bool) : Nat → Bool
  | 0 => false
  | n + 1 => tp_any f n || f n
theorem tp_any_iff (f : Nat → Bool) : ∀ n, tp_any f n = true ↔ ∃ i, i < n ∧ f i = true
  | 0 => ⟨fun h => (nomatch h), fun ⟨i, h, _⟩ => absurd h (Nat.not_lt_zero i)⟩
  | n + 1 => by
    unfold tp_any
    rw [Bool.or_eq_true, tp_any_iff f n]
    constructor
    · rintro (⟨i, h, z⟩ | z)
      · exact ⟨i, by omega, z⟩
      · exact ⟨n, by omega, z⟩
    · rintro ⟨i, h, z⟩
      by_cases e : i = n
      · subst e; exact Or.inr z
      · exact Or.inl ⟨i, by omega, z⟩
theorem tp_mk_0 (f : Nat → Bool) {n : Nat} (hn : n ≤ 64) : tp_mk f n = 0 ↔ tp_any f n = false := by
  constructor
  · intro h
    apply ts_nt
    intro z
    obtain ⟨i, hi, y⟩ := (tp_any_iff f n).mp z
    have e := tp_gmk f n hn i
    rw [h, tp_0, y] at e
    simp [hi] at e
  · intro h
    apply tp_ext
    intro i _
    rw [tp_gmk f n hn i, tp_0]
    by_cases hi : i < n
    · have : ¬ f i = true := fun y => by
        have := (tp_any_iff f n).mpr ⟨i, hi, y⟩
        rw [h] at this; cases this
      rw [ts_nt this]; simp
    · simp [hi]
theorem tp_mk_and (f h : Nat → Bool) {n : Nat} (hn : n ≤ 64) : tp_mk f n &&& tp_mk h n = tp_mk (fun i => f i && h i) n := by
  apply tp_ext
  intro i _
  rw [tp_and, tp_gmk f n hn, tp_gmk h n hn, tp_gmk _ n hn]
  cases decide (i < n) <;> simp
theorem tp_mk_self (x : Int64) {c : Nat} (hc : c ≤ 64) (h : ∀ i, c ≤ i → tp_g x i = false) : tp_mk (tp_g x) c = x := by
  apply tp_ext
  intro i _
  rw [tp_gmk _ c hc]
  by_cases z : i < c
  · simp [z]
  · rw [h i (by omega)]; simp
end
section
-- below, in a tree whose parents have lesser numbers
def tp_z (b : Bool) : Int32 := cond b 1 0
theorem tp_zt {A B : Prop} {b : Bool} (f : b = false → A) (g : b = true → B) : (tp_z b = 0 → A) ∧ (¬ tp_z b = 0 → B) := by
  cases b
  · exact ⟨fun _ => f rfl, fun h => absurd rfl h⟩
  · exact ⟨fun h => absurd h (by decide), fun _ => g rfl⟩
theorem tp_zn (b : Bool) : narrow .boolean (.int (tp_z b)) = .int (tp_z b) := by cases b <;> rfl
def tp_bl (P : Nat → Nat) (a : Nat) : Nat → Nat → Bool
  | 0, _ => false
  | f + 1, n => decide (a < n) && (decide (P n = a) || tp_bl P a f (P n))
def tp_B (P : Nat → Nat) (a n : Nat) : Bool := tp_bl P a n n
theorem tp_bl_st {P : Nat → Nat} (hf : ∀ j, 0 < j → P j < j) (a : Nat) : ∀ f n, n ≤ f → ∀ f', n ≤ f' → tp_bl P a f n = tp_bl P a f' n := by
  intro f
  induction f with
  | zero =>
    intro n hn f' hf'
    have : n = 0 := by omega
    subst this
    cases f' with
    | zero => rfl
    | succ f' => unfold tp_bl; simp
  | succ f ih =>
    intro n hn f' hf'
    cases f' with
    | zero =>
      have : n = 0 := by omega
      subst this
      unfold tp_bl; simp
    | succ f' =>
      unfold tp_bl
      by_cases h : a < n
      · have := hf n (by omega)
        rw [ih (P n) (by omega) f' (by omega)]
      · simp [h]
theorem tp_B_eq {P : Nat → Nat} (hf : ∀ j, 0 < j → P j < j) (a n : Nat) : tp_B P a n = (decide (a < n) && (decide (P n = a) || tp_B P a (P n))) := by
  unfold tp_B
  by_cases h : a < n
  · rw [tp_bl_st hf a n n (Nat.le_refl _) (n + 1) (by omega)]
    have := hf n (by omega)
    rw [tp_bl_st hf a (P n) (P n) (Nat.le_refl _) n (by omega)]
    rfl
  · cases n with
    | zero => unfold tp_bl; simp
    | succ n => unfold tp_bl; simp [h]
theorem tp_B_no {P : Nat → Nat} (hf : ∀ j, 0 < j → P j < j) {a n : Nat} (h : n ≤ a) : tp_B P a n = false := by
  rw [tp_B_eq hf]; simp [show ¬ a < n by omega]
theorem tp_B_lt {P : Nat → Nat} (hf : ∀ j, 0 < j → P j < j) {a n : Nat} (h : tp_B P a n = true) : a < n := by
  rcases Nat.lt_or_ge a n with z | z
  · exact z
  · rw [tp_B_no hf z] at h; cases h
theorem tp_B_up {P : Nat → Nat} (hf : ∀ j, 0 < j → P j < j) {a n : Nat} (h0 : 0 < n) (h : P n = a ∨ tp_B P a (P n) = true) : tp_B P a n = true := by
  have hp := hf n h0
  rw [tp_B_eq hf]
  rcases h with h | h
  · simp [h, show a < n by omega]
  · have := tp_B_lt hf h
    simp [h, show a < n by omega]
-- a itself, or below
def tp_R (P : Nat → Nat) (a n : Nat) : Bool := decide (n = a) || tp_B P a n
theorem tp_R_step {P : Nat → Nat} (hf : ∀ j, 0 < j → P j < j) {a n : Nat} (h0 : 0 < n) (h : n ≠ a) : tp_R P a n = tp_R P a (P n) := by
  have hp := hf n h0
  unfold tp_R
  rw [tp_B_eq hf a n]
  rcases Nat.lt_or_ge a n with z | z
  · simp [z, h]
  · rw [tp_B_no hf (show P n ≤ a by omega)]
    simp [h, show ¬ a < n by omega, show ¬ P n = a by omega]
theorem tp_R_B {P : Nat → Nat} (hf : ∀ j, 0 < j → P j < j) {a n : Nat} (h0 : 0 < n) : tp_B P a n = tp_R P a (P n) := by
  by_cases e : n = a
  · have hp := hf n h0
    rw [tp_B_no hf (by omega)]
    unfold tp_R
    rw [tp_B_no hf (by omega)]
    simp [show ¬ P n = a by omega]
  · rw [← tp_R_step hf h0 e]
    unfold tp_R
    simp [e]
-- the tree: c nodes, the parent of node c (the next one) is the open element
def tp_T (c o : Nat) (P K : Nat → Nat) : Prop :=
  1 ≤ c ∧ c ≤ 48 ∧ (∀ j, 0 < j → P j < j) ∧ P c = o ∧ (∀ i j, 0 < i → i < j → j ≤ c → P j < i → P j ≤ P i) ∧ (∀ j, j < c → K j ≤ 8)
def tp_AP (c : Nat) (P : Nat → Nat) (pa : Nat → Int32) : Prop := pa 0 = -1 ∧ ∀ j, 0 < j → j < c → pa j = nI (P j)
def tp_AX (c : Nat) (P K : Nat → Nat) (V : Nat → Int32) (pa ka va : Nat → Int32) : Prop :=
  tp_AP c P pa ∧ (∀ j, j < c → ka j = nI (K j)) ∧ (∀ j, j < c → K j = 8 → va j = V j)
def tp_AY (c : Nat) (P K : Nat → Nat) (V : Nat → Int32) (pa te wo : Nat → Int32) : Prop :=
  tp_AP c P pa ∧ (∀ j, j < c → te j = tp_z (decide (K j = 8))) ∧ (∀ j, j < c → K j = 8 → wo j = V j) ∧ (∀ j, j < c → K j ≠ 8 → wo j = nI (K j))
section
variable {c o : Nat} {P K : Nat → Nat} {V : Nat → Int32}
variable {fc fo : Int32} {fs f0 f1 : Int64} {pa ka va : Nat → Int32}
theorem tp_x30 (hT : tp_T c o P K) {post : Int32 → Prop} {l a t : Nat} (hl : l < 48) (ha : a < 48) (ht : t ≤ a) (h : post (tp_z (tp_R P a t && decide (l ≠ a)))) :
    wX_isBelow_30 post (nI l) (nI a) (nI t) fc fo fs f0 f1 pa ka va := by
  have hf := hT.2.2.1
  unfold tp_R at h
  rw [tp_B_no hf ht] at h
  refine pk_eq t a (fun e => pk_eq l a (fun e2 => ?_) (fun e2 => ?_)) (fun e => ?_)
  · simpa [e, e2, tp_z] using h
  · simpa [e, e2, tp_z] using h
  · simpa [e, tp_z] using h
theorem tp_x5 (hT : tp_T c o P K) (hA : tp_AP c P pa) {post : Int32 → Prop} {l a : Nat} (hl : l < 48) (ha : a < 48) : ∀ n t s : Nat, t < n → t < c → t + s ≤ 47 → post (tp_z (tp_R P a t && decide (l ≠ a))) →
    wX_isBelow_5 post (nI l) (nI a) fc fo fs f0 f1 pa ka va n (nI t) (nI s) := by
  have hf := hT.2.2.1
  have hc := hT.2.1
  intro n
  induction n with
  | zero => intro t s h; omega
  | succ n ih =>
    intro t s h1 h2 h3 h
    refine pk_le 48 s (fun z => absurd z (by omega)) (fun _ => pk_le t a (fun z => tp_x30 hT hl ha z h) (fun z => ⟨vp_in_nI (by omega) (by omega), ?_⟩))
    have hp := hf t (by omega)
    refine nm_r (e' := nI (P t)) ?_ (nm_r (nI_1 s) (ih (P t) (s + 1) (by omega) (by omega) (by omega) ?_))
    · rw [nI_clamp (by omega)]; exact hA.2 t (by omega) h2
    · rw [← tp_R_step hf (by omega) (by omega)]; exact h
theorem tp_xB (hT : tp_T c o P K) (hA : tp_AP c P pa) {post : Int32 → Prop} {l a : Nat} (hl : l < c) (ha : a < c) (h : post (tp_z (tp_B P a l))) :
    wpX_isBelow post (fc, fo, fs, f0, f1, pa, ka, va) (nI l) (nI a) := by
  have hf := hT.2.2.1
  have hc := hT.2.1
  refine ⟨l + 1, tp_x5 hT hA (by omega) (by omega) (l + 1) l 0 (by omega) hl (by omega) ?_⟩
  have e : (tp_R P a l && decide (l ≠ a)) = tp_B P a l := by
    unfold tp_R
    by_cases z : l = a
    · rw [tp_B_no hf (by omega)]; simp [z]
    · simp [z]
  rw [e]; exact h
end
section
variable {c o : Nat} {P K : Nat → Nat} {V : Nat → Int32}
variable {fc fo : Int32} {fs : Int64} {pa te wo : Nat → Int32} {kp : Nat → Int64}
theorem tp_m1ne {a : Nat} (ha : a < 48) : ¬ (-1 : Int32) = nI a := by
  intro h
  have e := congrArg Int32.toInt h
  rw [nI_toInt (by omega), show (-1 : Int32).toInt = -1 by decide] at e
  omega
theorem tp_y26 {post : Int32 → Prop} {a : Nat} (ha : a < 48) (h : post 0) : wY_above_26 post (nI a) (-1) fc fo fs pa te wo kp :=
  br_f (tp_m1ne ha) h
theorem tp_y7 (hT : tp_T c o P K) (hA : tp_AP c P pa) {post : Int32 → Prop} {a : Nat} (ha : a < 48) : ∀ n t : Nat, t + 1 < n → t < c → post (tp_z (tp_R P a t)) →
    wY_above_7 post (nI a) fc fo fs pa te wo kp n (nI t) := by
  have hf := hT.2.2.1
  have hc := hT.2.1
  intro n
  induction n with
  | zero => intro t h; omega
  | succ n ih =>
    intro t h1 h2 h
    refine br_f (nI_pos (by omega)) (pk_eq t a (fun e => br_t (by rw [e]) ?_) (fun e => ⟨vp_in_nI (by omega) (by omega), ?_⟩))
    · have : tp_R P a t = true := by unfold tp_R; simp [e]
      rw [this] at h; exact h
    · by_cases h0 : t = 0
      · have e0 : pa (nI t).toNatClampNeg = -1 := by rw [nI_clamp (by omega), h0]; exact hA.1
        refine nm_r e0 ?_
        have : tp_R P a t = false := by
          unfold tp_R; rw [tp_B_no hf (by omega)]; simp [e]
        rw [this] at h
        obtain ⟨m, rfl⟩ : ∃ m, n = m + 1 := ⟨n - 1, by omega⟩
        exact br_t (by decide) (tp_y26 ha h)
      · have hp := hf t (by omega)
        refine nm_r (e' := nI (P t)) ?_ (ih (P t) (by omega) (by omega) ?_)
        · rw [nI_clamp (by omega)]; exact hA.2 t (by omega) h2
        · rw [← tp_R_step hf (by omega) e]; exact h
theorem tp_yB (hT : tp_T c o P K) (hA : tp_AP c P pa) {post : Int32 → Prop} {a n : Nat} (ha : a < c) (hn : n < c) (h : post (tp_z (tp_B P a n))) :
    wpY_above post (fc, fo, fs, pa, te, wo, kp) (nI a) (nI n) := by
  have hf := hT.2.2.1
  have hc := hT.2.1
  refine ⟨vp_in_nI (by omega) (by omega), ?_⟩
  by_cases h0 : n = 0
  · have e0 : pa (nI n).toNatClampNeg = -1 := by rw [nI_clamp (by omega), h0]; exact hA.1
    refine nm_r e0 ⟨1, br_t (by decide) (tp_y26 (by omega) ?_)⟩
    rw [tp_B_no hf (by omega)] at h; exact h
  · have hp := hf n (by omega)
    refine nm_r (e' := nI (P n)) ?_ ⟨P n + 2, tp_y7 hT hA (by omega) (P n + 2) (P n) (by omega) (by omega) ?_⟩
    · rw [nI_clamp (by omega)]; exact hA.2 n (by omega) hn
    · rw [← tp_R_B hf (by omega)]; exact h
end
end
section
-- where an axis leads, what a test lets through
def tp_L (P : Nat → Nat) (x n m : Nat) : Bool := match x with
  | 0 => decide (m = n)
  | 1 => decide (0 < m) && decide (P m = n)
  | 2 => decide (0 < n) && decide (P n = m)
  | 3 => tp_B P n m
  | 4 => tp_B P m n
  | 5 => decide (n < m) && (decide (0 < m) && (decide (0 < n) && decide (P m = P n)))
  | 6 => decide (m < n) && (decide (0 < m) && (decide (0 < n) && decide (P m = P n)))
  | 7 => decide (n < m) && !tp_B P n m
  | 8 => decide (m < n) && !tp_B P m n
  | 9 => decide (m = n) || tp_B P n m
  | _ => decide (m = n) || tp_B P m n
def tp_S (K : Nat → Nat) (t m : Nat) : Bool := if t = 10 then true else if t = 9 then !decide (K m = 8) else decide (K m = t)
theorem tp_if {C : Prop} {post : Int32 → Prop} {b : Bool} (e : C ↔ b = true) (h : post (tp_z b)) : (C → post 1) ∧ (¬ C → post 0) := by
  cases b
  · exact ⟨fun z => absurd (e.mp z) (by decide), fun _ => h⟩
  · exact ⟨fun _ => h, fun z => absurd (e.mpr rfl) z⟩
theorem tp_ifn {C : Prop} {post : Int32 → Prop} {b : Bool} (e : C ↔ b = true) (h : post (tp_z (!b))) : (C → post 0) ∧ (¬ C → post 1) := by
  cases b
  · exact ⟨fun z => absurd (e.mp z) (by decide), fun _ => h⟩
  · exact ⟨fun _ => h, fun z => absurd (e.mpr rfl) z⟩
theorem tp_dq {a b : Nat} (ha : a < 2 ^ 31) (hb : b < 2 ^ 31) : nI a = nI b ↔ decide (a = b) = true := by
  rw [nI_eq ha hb]; simp
theorem tp_pe {c o : Nat} {P K : Nat → Nat} {pa : Nat → Int32} (hT : tp_T c o P K) (hA : tp_AP c P pa) {m n : Nat} (hm : m < c) (hn : n < c) : pa (nI m).toNatClampNeg = nI n ↔ (decide (0 < m) && decide (P m = n)) = true := by
  have hc := hT.2.1
  rw [nI_clamp (by omega)]
  by_cases h0 : m = 0
  · subst h0
    rw [hA.1]
    simp [tp_m1ne (show n < 48 by omega)]
  · have hp := hT.2.2.1 m (by omega)
    rw [hA.2 m (by omega) hm, nI_eq (by omega) (by omega)]
    simp [show 0 < m by omega]
theorem tp_pe2 {c o : Nat} {P K : Nat → Nat} {pa : Nat → Int32} (hT : tp_T c o P K) (hA : tp_AP c P pa) {m n : Nat} (hm : m < c) (hn : n < c) (hd : m ≠ n) : pa (nI m).toNatClampNeg = pa (nI n).toNatClampNeg ↔ (decide (0 < m) && (decide (0 < n) && decide (P m = P n))) = true := by
  have hc := hT.2.1
  by_cases h0 : n = 0
  · have hp := hT.2.2.1 m (by omega)
    rw [nI_clamp (show n < 2 ^ 31 by omega), nI_clamp (show m < 2 ^ 31 by omega), h0, hA.1, hA.2 m (by omega) hm]
    simp
    exact fun e => tp_m1ne (show P m < 48 by omega) e.symm
  · have hp := hT.2.2.1 n (by omega)
    rw [show pa (nI n).toNatClampNeg = nI (P n) by rw [nI_clamp (by omega)]; exact hA.2 n (by omega) hn, tp_pe hT hA hm (show P n < c by omega)]
    simp [show 0 < n by omega]
theorem tp_ax {x : Nat} (h : x ≤ 10) : x = 0 ∨ x = 1 ∨ x = 2 ∨ x = 3 ∨ x = 4 ∨ x = 5 ∨ x = 6 ∨ x = 7 ∨ x = 8 ∨ x = 9 ∨ x = 10 := by omega
section
variable {c o : Nat} {P K : Nat → Nat} {V : Nat → Int32}
variable {fc fo : Int32} {fs f0 f1 : Int64} {pa ka va : Nat → Int32}
theorem tp_xL0 (hT : tp_T c o P K) (hA : tp_AP c P pa) {post : Int32 → Prop} {n m : Nat} (hn : n < c) (hm : m < c) (h : post (tp_z (tp_L P 0 n m))) :
    wpX_leads post (fc, fo, fs, f0, f1, pa, ka, va) (nI 0) (nI n) (nI m) := by
  have hc := hT.2.1
  exact br_f (by decide) (br_f (by decide) (br_t rfl (tp_if (tp_dq (by omega) (by omega)) h)))
theorem tp_xL1 (hT : tp_T c o P K) (hA : tp_AP c P pa) {post : Int32 → Prop} {n m : Nat} (hn : n < c) (hm : m < c) (h : post (tp_z (tp_L P 1 n m))) :
    wpX_leads post (fc, fo, fs, f0, f1, pa, ka, va) (nI 1) (nI n) (nI m) := by
  have hc := hT.2.1
  exact br_f (by decide) (br_f (by decide) (br_f (by decide) (br_t rfl (⟨vp_in_nI (by omega) (by omega), tp_if (tp_pe hT hA hm hn) h⟩))))
theorem tp_xL2 (hT : tp_T c o P K) (hA : tp_AP c P pa) {post : Int32 → Prop} {n m : Nat} (hn : n < c) (hm : m < c) (h : post (tp_z (tp_L P 2 n m))) :
    wpX_leads post (fc, fo, fs, f0, f1, pa, ka, va) (nI 2) (nI n) (nI m) := by
  have hc := hT.2.1
  exact br_f (by decide) (br_f (by decide) (br_f (by decide) (br_f (by decide) (br_t rfl (⟨vp_in_nI (by omega) (by omega), tp_if (tp_pe hT hA hn hm) h⟩)))))
theorem tp_xL3 (hT : tp_T c o P K) (hA : tp_AP c P pa) {post : Int32 → Prop} {n m : Nat} (hn : n < c) (hm : m < c) (h : post (tp_z (tp_L P 3 n m))) :
    wpX_leads post (fc, fo, fs, f0, f1, pa, ka, va) (nI 3) (nI n) (nI m) := by
  have hc := hT.2.1
  exact br_f (by decide) (br_f (by decide) (br_f (by decide) (br_f (by decide) (br_f (by decide) (br_t rfl (tp_xB hT hA hm hn ⟨tp_zn _, h⟩))))))
theorem tp_xL4 (hT : tp_T c o P K) (hA : tp_AP c P pa) {post : Int32 → Prop} {n m : Nat} (hn : n < c) (hm : m < c) (h : post (tp_z (tp_L P 4 n m))) :
    wpX_leads post (fc, fo, fs, f0, f1, pa, ka, va) (nI 4) (nI n) (nI m) := by
  have hc := hT.2.1
  exact br_f (by decide) (br_f (by decide) (br_f (by decide) (br_f (by decide) (br_f (by decide) (br_f (by decide) (br_t rfl (tp_xB hT hA hn hm ⟨tp_zn _, h⟩)))))))
theorem tp_xL5 (hT : tp_T c o P K) (hA : tp_AP c P pa) {post : Int32 → Prop} {n m : Nat} (hn : n < c) (hm : m < c) (h : post (tp_z (tp_L P 5 n m))) :
    wpX_leads post (fc, fo, fs, f0, f1, pa, ka, va) (nI 5) (nI n) (nI m) := by
  have hc := hT.2.1
  exact br_f (by decide) (br_f (by decide) (br_f (by decide) (br_f (by decide) (br_f (by decide) (br_f (by decide) (br_f (by decide) (br_t rfl (pk_le m n (fun z => by rw [show tp_L P 5 n m = false by simp [tp_L, show ¬ n < m by omega]] at h; exact h) (fun z => ⟨vp_in_nI (by omega) (by omega), vp_in_nI (by omega) (by omega), tp_if (tp_pe2 hT hA hm hn (by omega)) (by rw [show tp_L P 5 n m = (decide (0 < m) && (decide (0 < n) && decide (P m = P n))) by simp [tp_L, z]] at h; exact h)⟩)))))))))
theorem tp_xL6 (hT : tp_T c o P K) (hA : tp_AP c P pa) {post : Int32 → Prop} {n m : Nat} (hn : n < c) (hm : m < c) (h : post (tp_z (tp_L P 6 n m))) :
    wpX_leads post (fc, fo, fs, f0, f1, pa, ka, va) (nI 6) (nI n) (nI m) := by
  have hc := hT.2.1
  exact br_f (by decide) (br_f (by decide) (br_f (by decide) (br_f (by decide) (br_f (by decide) (br_f (by decide) (br_f (by decide) (br_f (by decide) (br_t rfl (pk_le n m (fun z => by rw [show tp_L P 6 n m = false by simp [tp_L, show ¬ m < n by omega]] at h; exact h) (fun z => ⟨vp_in_nI (by omega) (by omega), vp_in_nI (by omega) (by omega), tp_if (tp_pe2 hT hA hm hn (by omega)) (by rw [show tp_L P 6 n m = (decide (0 < m) && (decide (0 < n) && decide (P m = P n))) by simp [tp_L, z]] at h; exact h)⟩))))))))))
theorem tp_xL7 (hT : tp_T c o P K) (hA : tp_AP c P pa) {post : Int32 → Prop} {n m : Nat} (hn : n < c) (hm : m < c) (h : post (tp_z (tp_L P 7 n m))) :
    wpX_leads post (fc, fo, fs, f0, f1, pa, ka, va) (nI 7) (nI n) (nI m) := by
  have hc := hT.2.1
  exact br_f (by decide) (br_f (by decide) (br_f (by decide) (br_f (by decide) (br_f (by decide) (br_f (by decide) (br_f (by decide) (br_f (by decide) (br_f (by decide) (br_t rfl (pk_le m n (fun z => by rw [show tp_L P 7 n m = false by simp [tp_L, show ¬ n < m by omega]] at h; exact h) (fun z => tp_xB hT hA hm hn (tp_zt (fun e => by rw [show tp_L P 7 n m = true by simp [tp_L, z, e]] at h; exact h) (fun e => by rw [show tp_L P 7 n m = false by simp [tp_L, e]] at h; exact h)))))))))))))
theorem tp_xL8 (hT : tp_T c o P K) (hA : tp_AP c P pa) {post : Int32 → Prop} {n m : Nat} (hn : n < c) (hm : m < c) (h : post (tp_z (tp_L P 8 n m))) :
    wpX_leads post (fc, fo, fs, f0, f1, pa, ka, va) (nI 8) (nI n) (nI m) := by
  have hc := hT.2.1
  exact br_f (by decide) (br_f (by decide) (br_f (by decide) (br_f (by decide) (br_f (by decide) (br_f (by decide) (br_f (by decide) (br_f (by decide) (br_f (by decide) (br_f (by decide) (br_t rfl (pk_le n m (fun z => by rw [show tp_L P 8 n m = false by simp [tp_L, show ¬ m < n by omega]] at h; exact h) (fun z => tp_xB hT hA hn hm (tp_zt (fun e => by rw [show tp_L P 8 n m = true by simp [tp_L, z, e]] at h; exact h) (fun e => by rw [show tp_L P 8 n m = false by simp [tp_L, e]] at h; exact h))))))))))))))
theorem tp_xL9 (hT : tp_T c o P K) (hA : tp_AP c P pa) {post : Int32 → Prop} {n m : Nat} (hn : n < c) (hm : m < c) (h : post (tp_z (tp_L P 9 n m))) :
    wpX_leads post (fc, fo, fs, f0, f1, pa, ka, va) (nI 9) (nI n) (nI m) := by
  have hc := hT.2.1
  exact br_f (by decide) (br_f (by decide) (br_f (by decide) (br_f (by decide) (br_f (by decide) (br_f (by decide) (br_f (by decide) (br_f (by decide) (br_f (by decide) (br_f (by decide) (br_f (by decide) (br_t rfl (pk_eq m n (fun z => by rw [show tp_L P 9 n m = true by simp [tp_L, z]] at h; exact h) (fun z => tp_xB hT hA hm hn (tp_zt (fun e => by rw [show tp_L P 9 n m = false by simp [tp_L, z, e]] at h; exact h) (fun e => by rw [show tp_L P 9 n m = true by simp [tp_L, e]] at h; exact h)))))))))))))))
theorem tp_xL10 (hT : tp_T c o P K) (hA : tp_AP c P pa) {post : Int32 → Prop} {n m : Nat} (hn : n < c) (hm : m < c) (h : post (tp_z (tp_L P 10 n m))) :
    wpX_leads post (fc, fo, fs, f0, f1, pa, ka, va) (nI 10) (nI n) (nI m) := by
  have hc := hT.2.1
  exact br_f (by decide) (br_f (by decide) (br_f (by decide) (br_f (by decide) (br_f (by decide) (br_f (by decide) (br_f (by decide) (br_f (by decide) (br_f (by decide) (br_f (by decide) (br_f (by decide) (br_f (by decide) (br_t rfl (pk_eq m n (fun z => by rw [show tp_L P 10 n m = true by simp [tp_L, z]] at h; exact h) (fun z => tp_xB hT hA hn hm (tp_zt (fun e => by rw [show tp_L P 10 n m = false by simp [tp_L, z, e]] at h; exact h) (fun e => by rw [show tp_L P 10 n m = true by simp [tp_L, e]] at h; exact h))))))))))))))))
theorem tp_xL (hT : tp_T c o P K) (hA : tp_AP c P pa) {post : Int32 → Prop} {x n m : Nat} (hx : x ≤ 10) (hn : n < c) (hm : m < c) (h : post (tp_z (tp_L P x n m))) :
    wpX_leads post (fc, fo, fs, f0, f1, pa, ka, va) (nI x) (nI n) (nI m) := by
  rcases tp_ax hx with e | e | e | e | e | e | e | e | e | e | e <;> subst e
  · exact tp_xL0 hT hA hn hm h
  · exact tp_xL1 hT hA hn hm h
  · exact tp_xL2 hT hA hn hm h
  · exact tp_xL3 hT hA hn hm h
  · exact tp_xL4 hT hA hn hm h
  · exact tp_xL5 hT hA hn hm h
  · exact tp_xL6 hT hA hn hm h
  · exact tp_xL7 hT hA hn hm h
  · exact tp_xL8 hT hA hn hm h
  · exact tp_xL9 hT hA hn hm h
  · exact tp_xL10 hT hA hn hm h
theorem tp_xS (hT : tp_T c o P K) (hA : tp_AX c P K V pa ka va) {post : Int32 → Prop} {t m : Nat} (ht : t ≤ 10) (hm : m < c) (h : post (tp_z (tp_S K t m))) :
    wpX_passes post (fc, fo, fs, f0, f1, pa, ka, va) (nI m) (nI t) := by
  have hc := hT.2.1
  have hk := hT.2.2.2.2.2 m hm
  have ek : ka (nI m).toNatClampNeg = nI (K m) := by rw [nI_clamp (by omega)]; exact hA.2.1 m hm
  refine pk_eq t 10 (fun e => ?_) (fun e => pk_eq t 9 (fun e9 => ⟨vp_in_nI (by omega) (by omega), ?_⟩) (fun e9 => ⟨vp_in_nI (by omega) (by omega), ?_⟩))
  · subst e; exact h
  · subst e9
    rw [ek]
    exact tp_ifn (tp_dq (b := 8) (by omega) (by omega)) h
  · rw [ek]
    refine tp_if (tp_dq (by omega) (by omega)) ?_
    rw [show tp_S K t m = decide (K m = t) by simp [tp_S, e, e9]] at h
    exact h
theorem tp_xRl (hT : tp_T c o P K) (hA : tp_AX c P K V pa ka va) {post : Int64 → Prop} {x t n : Nat} (hx : x ≤ 10) (ht : t ≤ 10) (hn : n < c) (h : post (tp_mk (fun m => tp_L P x n m && tp_S K t m) c)) : ∀ f i s, c - i < f → i ≤ c → s = tp_mk (fun m => tp_L P x n m && tp_S K t m) i →
    wX_reachedFrom_6 post (nI n) (nI x) (nI t) (nI c) fo fs f0 f1 pa ka va f s (nI i) := by
  have hc := hT.2.1
  intro f
  induction f with
  | zero => intro i s h1; omega
  | succ f ih =>
    intro i s h1 h2 hs
    refine pk_le c i (fun z => ?_) (fun z => tp_xS hT hA ht z (tp_zt (fun e => nm_r (nI_1 i) (ih _ _ (by omega) (by omega) ?_)) (fun e => tp_xL hT hA.1 hx hn z (tp_zt (fun e2 => nm_r (nI_1 i) (ih _ _ (by omega) (by omega) ?_)) (fun e2 => nm_e (nm_r (nI_1 i) (ih _ _ (by omega) (by omega) ?_)))))))
    · have : i = c := by omega
      subst this hs; exact h
    · rw [hs, tp_mk, if_neg (by simp [e])]
    · rw [hs, tp_mk, if_neg (by simp [e2])]
    · rw [hs, tp_mk, if_pos (by simp [e, e2])]; rfl
theorem tp_xR (hT : tp_T c o P K) (hA : tp_AX c P K V pa ka va) {post : Int64 → Prop} {x t n : Nat} (hx : x ≤ 10) (ht : t ≤ 10) (hn : n < c) (h : post (tp_mk (fun m => tp_L P x n m && tp_S K t m) c)) :
    wpX_reachedFrom post (nI c, fo, fs, f0, f1, pa, ka, va) (nI n) (nI x) (nI t) :=
  ⟨c + 1, tp_xRl hT hA hx ht hn h (c + 1) 0 0 (by omega) (by omega) rfl⟩
end
section
variable {c o : Nat} {P K : Nat → Nat} {V : Nat → Int32}
variable {fc fo : Int32} {fs : Int64} {pa te wo : Nat → Int32} {kp : Nat → Int64}
theorem tp_yL0 (hT : tp_T c o P K) (hA : tp_AP c P pa) {post : Int32 → Prop} {n m : Nat} {b : Bool} (hn : n < c) (hm : m < c) (hb : b = (decide (0 < m) && (decide (0 < n) && decide (P m = P n)))) (h : post (tp_z (tp_L P 0 n m))) :
    wY_leads_29 post (nI 0) (nI n) (nI m) (tp_z b) fc fo fs pa te wo kp := by
  have hc := hT.2.1
  exact br_t rfl (tp_if (tp_dq (by omega) (by omega)) h)
theorem tp_yL1 (hT : tp_T c o P K) (hA : tp_AP c P pa) {post : Int32 → Prop} {n m : Nat} {b : Bool} (hn : n < c) (hm : m < c) (hb : b = (decide (0 < m) && (decide (0 < n) && decide (P m = P n)))) (h : post (tp_z (tp_L P 1 n m))) :
    wY_leads_29 post (nI 1) (nI n) (nI m) (tp_z b) fc fo fs pa te wo kp := by
  have hc := hT.2.1
  exact br_f (by decide) (br_t rfl (⟨vp_in_nI (by omega) (by omega), tp_if (tp_pe hT hA hm hn) h⟩))
theorem tp_yL2 (hT : tp_T c o P K) (hA : tp_AP c P pa) {post : Int32 → Prop} {n m : Nat} {b : Bool} (hn : n < c) (hm : m < c) (hb : b = (decide (0 < m) && (decide (0 < n) && decide (P m = P n)))) (h : post (tp_z (tp_L P 2 n m))) :
    wY_leads_29 post (nI 2) (nI n) (nI m) (tp_z b) fc fo fs pa te wo kp := by
  have hc := hT.2.1
  exact br_f (by decide) (br_f (by decide) (br_t rfl (⟨vp_in_nI (by omega) (by omega), tp_if (tp_pe hT hA hn hm) h⟩)))
theorem tp_yL3 (hT : tp_T c o P K) (hA : tp_AP c P pa) {post : Int32 → Prop} {n m : Nat} {b : Bool} (hn : n < c) (hm : m < c) (hb : b = (decide (0 < m) && (decide (0 < n) && decide (P m = P n)))) (h : post (tp_z (tp_L P 3 n m))) :
    wY_leads_29 post (nI 3) (nI n) (nI m) (tp_z b) fc fo fs pa te wo kp := by
  have hc := hT.2.1
  exact br_f (by decide) (br_f (by decide) (br_f (by decide) (br_t rfl (tp_yB hT hA hn hm ⟨tp_zn _, h⟩))))
theorem tp_yL4 (hT : tp_T c o P K) (hA : tp_AP c P pa) {post : Int32 → Prop} {n m : Nat} {b : Bool} (hn : n < c) (hm : m < c) (hb : b = (decide (0 < m) && (decide (0 < n) && decide (P m = P n)))) (h : post (tp_z (tp_L P 4 n m))) :
    wY_leads_29 post (nI 4) (nI n) (nI m) (tp_z b) fc fo fs pa te wo kp := by
  have hc := hT.2.1
  exact br_f (by decide) (br_f (by decide) (br_f (by decide) (br_f (by decide) (br_t rfl (tp_yB hT hA hm hn ⟨tp_zn _, h⟩)))))
theorem tp_yL5 (hT : tp_T c o P K) (hA : tp_AP c P pa) {post : Int32 → Prop} {n m : Nat} {b : Bool} (hn : n < c) (hm : m < c) (hb : b = (decide (0 < m) && (decide (0 < n) && decide (P m = P n)))) (h : post (tp_z (tp_L P 5 n m))) :
    wY_leads_29 post (nI 5) (nI n) (nI m) (tp_z b) fc fo fs pa te wo kp := by
  have hc := hT.2.1
  exact br_f (by decide) (br_f (by decide) (br_f (by decide) (br_f (by decide) (br_f (by decide) (br_t rfl (tp_zt (fun e => by rw [show tp_L P 5 n m = false by rw [hb] at e; simp only [tp_L]; rw [e, Bool.and_false]] at h; exact h) (fun e => pk_le m n (fun z => by rw [show tp_L P 5 n m = false by simp [tp_L, show ¬ n < m by omega]] at h; exact h) (fun z => by rw [show tp_L P 5 n m = true by rw [hb] at e; simp only [tp_L]; rw [e]; simp [z]] at h; exact h))))))))
theorem tp_yL6 (hT : tp_T c o P K) (hA : tp_AP c P pa) {post : Int32 → Prop} {n m : Nat} {b : Bool} (hn : n < c) (hm : m < c) (hb : b = (decide (0 < m) && (decide (0 < n) && decide (P m = P n)))) (h : post (tp_z (tp_L P 6 n m))) :
    wY_leads_29 post (nI 6) (nI n) (nI m) (tp_z b) fc fo fs pa te wo kp := by
  have hc := hT.2.1
  exact br_f (by decide) (br_f (by decide) (br_f (by decide) (br_f (by decide) (br_f (by decide) (br_f (by decide) (br_t rfl (tp_zt (fun e => by rw [show tp_L P 6 n m = false by rw [hb] at e; simp only [tp_L]; rw [e, Bool.and_false]] at h; exact h) (fun e => pk_le n m (fun z => by rw [show tp_L P 6 n m = false by simp [tp_L, show ¬ m < n by omega]] at h; exact h) (fun z => by rw [show tp_L P 6 n m = true by rw [hb] at e; simp only [tp_L]; rw [e]; simp [z]] at h; exact h)))))))))
theorem tp_yL7 (hT : tp_T c o P K) (hA : tp_AP c P pa) {post : Int32 → Prop} {n m : Nat} {b : Bool} (hn : n < c) (hm : m < c) (hb : b = (decide (0 < m) && (decide (0 < n) && decide (P m = P n)))) (h : post (tp_z (tp_L P 7 n m))) :
    wY_leads_29 post (nI 7) (nI n) (nI m) (tp_z b) fc fo fs pa te wo kp := by
  have hc := hT.2.1
  exact br_f (by decide) (br_f (by decide) (br_f (by decide) (br_f (by decide) (br_f (by decide) (br_f (by decide) (br_f (by decide) (br_t rfl (pk_le m n (fun z => by rw [show tp_L P 7 n m = false by simp [tp_L, show ¬ n < m by omega]] at h; exact h) (fun z => tp_yB hT hA hn hm (tp_zt (fun e => by rw [show tp_L P 7 n m = true by simp [tp_L, z, e]] at h; exact h) (fun e => by rw [show tp_L P 7 n m = false by simp [tp_L, e]] at h; exact h)))))))))))
theorem tp_yL8 (hT : tp_T c o P K) (hA : tp_AP c P pa) {post : Int32 → Prop} {n m : Nat} {b : Bool} (hn : n < c) (hm : m < c) (hb : b = (decide (0 < m) && (decide (0 < n) && decide (P m = P n)))) (h : post (tp_z (tp_L P 8 n m))) :
    wY_leads_29 post (nI 8) (nI n) (nI m) (tp_z b) fc fo fs pa te wo kp := by
  have hc := hT.2.1
  exact br_f (by decide) (br_f (by decide) (br_f (by decide) (br_f (by decide) (br_f (by decide) (br_f (by decide) (br_f (by decide) (br_f (by decide) (br_t rfl (pk_le n m (fun z => by rw [show tp_L P 8 n m = false by simp [tp_L, show ¬ m < n by omega]] at h; exact h) (fun z => tp_yB hT hA hm hn (tp_zt (fun e => by rw [show tp_L P 8 n m = true by simp [tp_L, z, e]] at h; exact h) (fun e => by rw [show tp_L P 8 n m = false by simp [tp_L, e]] at h; exact h))))))))))))
theorem tp_yL9 (hT : tp_T c o P K) (hA : tp_AP c P pa) {post : Int32 → Prop} {n m : Nat} {b : Bool} (hn : n < c) (hm : m < c) (hb : b = (decide (0 < m) && (decide (0 < n) && decide (P m = P n)))) (h : post (tp_z (tp_L P 9 n m))) :
    wY_leads_29 post (nI 9) (nI n) (nI m) (tp_z b) fc fo fs pa te wo kp := by
  have hc := hT.2.1
  exact br_f (by decide) (br_f (by decide) (br_f (by decide) (br_f (by decide) (br_f (by decide) (br_f (by decide) (br_f (by decide) (br_f (by decide) (br_f (by decide) (br_t rfl (pk_eq m n (fun z => by rw [show tp_L P 9 n m = true by simp [tp_L, z]] at h; exact h) (fun z => tp_yB hT hA hn hm (tp_zt (fun e => by rw [show tp_L P 9 n m = false by simp [tp_L, z, e]] at h; exact h) (fun e => by rw [show tp_L P 9 n m = true by simp [tp_L, e]] at h; exact h)))))))))))))
theorem tp_yL10 (hT : tp_T c o P K) (hA : tp_AP c P pa) {post : Int32 → Prop} {n m : Nat} {b : Bool} (hn : n < c) (hm : m < c) (hb : b = (decide (0 < m) && (decide (0 < n) && decide (P m = P n)))) (h : post (tp_z (tp_L P 10 n m))) :
    wY_leads_29 post (nI 10) (nI n) (nI m) (tp_z b) fc fo fs pa te wo kp := by
  have hc := hT.2.1
  exact br_f (by decide) (br_f (by decide) (br_f (by decide) (br_f (by decide) (br_f (by decide) (br_f (by decide) (br_f (by decide) (br_f (by decide) (br_f (by decide) (br_f (by decide) ((pk_eq m n (fun z => by rw [show tp_L P 10 n m = true by simp [tp_L, z]] at h; exact h) (fun z => tp_yB hT hA hm hn (tp_zt (fun e => by rw [show tp_L P 10 n m = false by simp [tp_L, z, e]] at h; exact h) (fun e => by rw [show tp_L P 10 n m = true by simp [tp_L, e]] at h; exact h))))))))))))))
theorem tp_yL29 (hT : tp_T c o P K) (hA : tp_AP c P pa) {post : Int32 → Prop} {x n m : Nat} {b : Bool} (hx : x ≤ 10) (hn : n < c) (hm : m < c) (hb : b = (decide (0 < m) && (decide (0 < n) && decide (P m = P n)))) (h : post (tp_z (tp_L P x n m))) :
    wY_leads_29 post (nI x) (nI n) (nI m) (tp_z b) fc fo fs pa te wo kp := by
  rcases tp_ax hx with e | e | e | e | e | e | e | e | e | e | e <;> subst e
  · exact tp_yL0 hT hA hn hm hb h
  · exact tp_yL1 hT hA hn hm hb h
  · exact tp_yL2 hT hA hn hm hb h
  · exact tp_yL3 hT hA hn hm hb h
  · exact tp_yL4 hT hA hn hm hb h
  · exact tp_yL5 hT hA hn hm hb h
  · exact tp_yL6 hT hA hn hm hb h
  · exact tp_yL7 hT hA hn hm hb h
  · exact tp_yL8 hT hA hn hm hb h
  · exact tp_yL9 hT hA hn hm hb h
  · exact tp_yL10 hT hA hn hm hb h
theorem tp_yL (hT : tp_T c o P K) (hA : tp_AP c P pa) {post : Int32 → Prop} {x n m : Nat} (hx : x ≤ 10) (hn : n < c) (hm : m < c) (h : post (tp_z (tp_L P x n m))) :
    wpY_leads post (fc, fo, fs, pa, te, wo, kp) (nI x) (nI n) (nI m) := by
  have hc := hT.2.1
  refine ⟨vp_in_nI (by omega) (by omega), ?_⟩
  by_cases h0 : n = 0
  · have e0 : pa (nI n).toNatClampNeg = -1 := by rw [nI_clamp (by omega), h0]; exact hA.1
    rw [e0]
    exact br_t (by decide) (tp_yL29 (b := false) hT hA hx hn hm (by simp [h0]) h)
  · have hp := hT.2.2.1 n (by omega)
    have e0 : pa (nI n).toNatClampNeg = nI (P n) := by rw [nI_clamp (by omega)]; exact hA.2 n (by omega) hn
    rw [e0]
    have q := tp_pe hT hA hm (show P n < c by omega)
    refine br_f (nI_pos (by omega)) ⟨vp_in_nI (by omega) (by omega), vp_in_nI (by omega) (by omega), br_c (fun z => ?_) (fun z => ?_)⟩
    · refine tp_yL29 (b := true) hT hA hx hn hm ?_ h
      have z' := q.mp z.symm
      simp at z'
      simp [z', show 0 < n by omega]
    · refine tp_yL29 (b := false) hT hA hx hn hm ?_ h
      have z' := ts_nt (fun y => z (q.mpr y).symm)
      symm
      simp only [show decide (0 < n) = true by simp; omega, Bool.true_and]
      exact z'
theorem tp_yS (hT : tp_T c o P K) (hA : tp_AY c P K V pa te wo) {post : Int32 → Prop} {t m : Nat} (ht : t ≤ 10) (hm : m < c) (h : post (tp_z (tp_S K t m))) :
    wpY_passes post (fc, fo, fs, pa, te, wo, kp) (nI t) (nI m) := by
  have hc := hT.2.1
  have hk := hT.2.2.2.2.2 m hm
  have et : te (nI m).toNatClampNeg = tp_z (decide (K m = 8)) := by rw [nI_clamp (by omega)]; exact hA.2.1 m hm
  refine pk_eq t 10 (fun e => ?_) (fun e => pk_eq t 8 (fun e8 => ⟨vp_in_nI (by omega) (by omega), ?_⟩) (fun e8 => ⟨vp_in_nI (by omega) (by omega), ?_⟩))
  · subst e; exact h
  · subst e8
    rw [et]
    exact ⟨tp_zn _, h⟩
  · rw [et]
    refine tp_zt (fun z => pk_eq t 9 (fun e9 => ?_) (fun e9 => ⟨vp_in_nI (by omega) (by omega), ?_⟩)) (fun z => ?_)
    · rw [show tp_S K t m = true by simp at z; simp [tp_S, e9, z]] at h; exact h
    · have z' : K m ≠ 8 := by simpa using z
      rw [show wo (nI m).toNatClampNeg = nI (K m) by rw [nI_clamp (by omega)]; exact hA.2.2.2 m hm z']
      refine tp_if (tp_dq (by omega) (by omega)) ?_
      rw [show tp_S K t m = decide (K m = t) by simp [tp_S, e, e9]] at h
      exact h
    · have z' : K m = 8 := by simpa using z
      rw [show tp_S K t m = false by simp [tp_S, e, z']; omega] at h
      exact h
end
end
section
-- places: pick and atPlace of the class
def tp_rk (f : Nat → Bool) (N : Nat) (b : Bool) (j : Nat) : Nat := cond b (tp_c f N - tp_c f j) (tp_c f (j + 1))
def tp_rb (x : Nat) : Bool := decide (x = 4) || (decide (x = 6) || (decide (x = 8) || decide (x = 10)))
def tp_bw (x : Nat) : Bool := decide (x = 2) || tp_rb x
theorem tp_xH {post : Int32 → Prop} (s : Int64) {n : Nat} (hn : n < 64) (h : post (tp_z (tp_g s n))) : wpX_holds post s (nI n) := by
  refine ek_if (tp_hx s hn) (fun e => ?_) (fun e => ?_)
  · rw [e] at h; exact h
  · rw [ts_nf e] at h; exact h
theorem tp_xrb {post : Int32 → Prop} {x : Nat} (hx : x ≤ 10) (h : post (tp_z (tp_rb x))) : wpX_runsBackwards post (nI x) := by
  refine pk_eq x 4 (fun e => ?_) (fun e4 => pk_eq x 6 (fun e => ?_) (fun e6 => pk_eq x 8 (fun e => ?_) (fun e8 => pk_eq x 10 (fun e => ?_) (fun e10 => ?_))))
  · subst e; exact h
  · subst e; exact h
  · subst e; exact h
  · subst e; exact h
  · rw [show tp_rb x = false by simp [tp_rb, e4, e6, e8, e10]] at h; exact h
theorem tp_ybw {post : Int32 → Prop} {x : Nat} (hx : x ≤ 10) (h : post (tp_z (tp_bw x))) : wpY_backwards post (nI x) := by
  refine pk_eq x 2 (fun e => ?_) (fun e2 => pk_eq x 4 (fun e => ?_) (fun e4 => pk_eq x 6 (fun e => ?_) (fun e6 => pk_eq x 8 (fun e => ?_) (fun e8 => pk_eq x 10 (fun e => ?_) (fun e10 => ?_)))))
  · subst e; exact h
  · subst e; exact h
  · subst e; exact h
  · subst e; exact h
  · subst e; exact h
  · rw [show tp_bw x = false by simp [tp_bw, tp_rb, e2, e4, e6, e8, e10]] at h; exact h
-- the one of rank a, or none
def tp_pk (f : Nat → Bool) (N : Nat) (b : Bool) (a : Nat) : Int64 := tp_mk (fun j => f j && decide (tp_rk f N b j = a)) N
theorem tp_pk_at {f : Nat → Bool} {N : Nat} {b : Bool} {a i : Nat} (hN : N ≤ 64) (hi : i < N) (hf : f i = true) (h : tp_rk f N b i = a) : tp_pk f N b a = tp_b i := by
  apply tp_ext
  intro j _
  unfold tp_pk
  rw [tp_gmk _ N hN, tp_gb (by omega)]
  by_cases e : i = j
  · subst e; simp [hi, hf, h]
  · simp only [e, decide_false]
    by_cases hj : j < N
    · by_cases hg : f j = true
      · have : ¬ tp_rk f N b j = a := by
          intro z
          have m1 := tp_c_str hi hf
          have m2 := tp_c_str hj hg
          cases b
          · unfold tp_rk at h z
            simp only [cond_false] at h z
            rw [tp_ct hf] at h
            rw [tp_ct hg] at z
            exact e (tp_c_inj hf hg (by omega))
          · unfold tp_rk at h z
            simp only [cond_true] at h z
            exact e (tp_c_inj hf hg (by omega))
        simp [this]
      · simp [ts_nt hg]
    · simp [hj]
theorem tp_pk_no {f : Nat → Bool} {N : Nat} {b : Bool} {a : Nat} (hN : N ≤ 64) (h : tp_c f N < a) : tp_pk f N b a = 0 := by
  apply tp_ext
  intro j _
  unfold tp_pk
  rw [tp_gmk _ N hN, tp_0]
  by_cases hj : j < N
  · have : ¬ tp_rk f N b j = a := by
      intro z
      have m1 := tp_c_mono f (show j + 1 ≤ N by omega)
      cases b
      · unfold tp_rk at z; simp only [cond_false] at z; omega
      · unfold tp_rk at z; simp only [cond_true] at z; omega
    simp [this]
  · simp [hj]
theorem tp_x27 {post : Int64 → Prop} {J : Int32 → Int32 → Prop} {s : Int64} {x3 : Int32} {a d i z : Nat} (hz : z < 64) (ha : a < 100) (hd : d < 100)
    (h0 : tp_g s z = false → J (nI d) (nI (i + 1))) (h1 : tp_g s z = true → d + 1 = a → post (tp_b z)) (h2 : tp_g s z = true → d + 1 ≠ a → J (nI (d + 1)) (nI (i + 1))) :
    wX_pick_27 post J s (nI a) x3 (nI d) (nI i) (nI z) :=
  tp_xH s hz (tp_zt (fun e => nm_r (nI_1 i) (h0 e)) (fun e => nm_r (nI_1 d) (pk_eq (d + 1) a (fun q => h1 e q) (fun q => nm_r (nI_1 i) (h2 e q)))))
theorem tp_x47 {i : Nat} (h : i < 48) : (47 : Int32) - nI i = nI (47 - i) := pk_sub (a := 47) (by omega)
theorem tp_xpF {post : Int64 → Prop} {s : Int64} {a : Nat} (ha : a < 100) (h : post (tp_pk (tp_g s) 48 false a)) : ∀ f i, 48 - i < f → i ≤ 48 → tp_c (tp_g s) i < a → wX_pick_6 post s (nI a) (tp_z false) f (nI (tp_c (tp_g s) i)) (nI i) := by
  intro f
  induction f with
  | zero => intro i h1; omega
  | succ f ih =>
    intro i h1 h2 h3
    have hle := tp_c_le (tp_g s) i
    refine pk_le 48 i (fun z => ?_) (fun z => br_t rfl (tp_x27 (by omega) ha (by omega) (fun e => ?_) (fun e q => ?_) (fun e q => ?_)))
    · have : i = 48 := by omega
      subst this
      rw [tp_pk_no (by omega) h3] at h; exact h
    · rw [← tp_cf e]
      exact ih (i + 1) (by omega) (by omega) (by rw [tp_cf e]; exact h3)
    · rw [tp_pk_at (b := false) (by omega) z e (show tp_rk (tp_g s) 48 false i = a by unfold tp_rk; rw [cond_false, tp_ct e]; exact q)] at h
      exact h
    · rw [← tp_ct e]
      exact ih (i + 1) (by omega) (by omega) (by rw [tp_ct e]; omega)
theorem tp_xpB {post : Int64 → Prop} {s : Int64} {a : Nat} (ha : a < 100) (h : post (tp_pk (tp_g s) 48 true a)) : ∀ f i d, 48 - i < f → i ≤ 48 → d = tp_c (tp_g s) 48 - tp_c (tp_g s) (48 - i) → d < a → wX_pick_6 post s (nI a) (tp_z true) f (nI d) (nI i) := by
  intro f
  induction f with
  | zero => intro i d h1; omega
  | succ f ih =>
    intro i d h1 h2 hd h3
    have hle := tp_c_le (tp_g s) 48
    have hm := tp_c_mono (tp_g s) (show 48 - i ≤ 48 by omega)
    refine pk_le 48 i (fun z => ?_) (fun z => br_f (by decide) ?_)
    · have : i = 48 := by omega
      subst this
      have e0 : tp_c (tp_g s) (48 - 48) = 0 := rfl
      rw [tp_pk_no (by omega) (by omega)] at h; exact h
    · rw [tp_x47 z]
      have e48 : 48 - i = 47 - i + 1 := by omega
      have e47 : 48 - (i + 1) = 47 - i := by omega
      have m1 := tp_c1 (tp_g s) (47 - i)
      refine tp_x27 (by omega) ha (by omega) (fun e => ?_) (fun e q => ?_) (fun e q => ?_)
      · refine ih (i + 1) d (by omega) (by omega) ?_ h3
        rw [hd, e48, e47, tp_cf e]
      · rw [tp_pk_at (b := true) (i := 47 - i) (by omega) (by omega) e (show tp_rk (tp_g s) 48 true (47 - i) = a by
          unfold tp_rk; rw [cond_true]; rw [e48, tp_ct e] at hd hm; omega)] at h
        exact h
      · refine ih (i + 1) (d + 1) (by omega) (by omega) ?_ (by omega)
        rw [e48, tp_ct e] at hd hm
        rw [e47]; omega
theorem tp_xp {post : Int64 → Prop} {s : Int64} {a : Nat} {b : Bool} (h0 : 0 < a) (ha : a < 100) (h : post (tp_pk (tp_g s) 48 b a)) : wpX_pick post s (nI a) (tp_z b) := by
  cases b
  · exact ⟨49, tp_xpF ha h 49 0 (by omega) (by omega) h0⟩
  · exact ⟨49, tp_xpB ha h 49 0 0 (by omega) (by omega) (by rw [Nat.sub_zero, Nat.sub_self]) h0⟩
theorem tp_c_hi {f : Nat → Bool} {c : Nat} (h : ∀ i, c ≤ i → f i = false) : ∀ d, tp_c f (c + d) = tp_c f c
  | 0 => rfl
  | d + 1 => by rw [show c + (d + 1) = (c + d) + 1 from rfl, tp_cf (h _ (by omega)), tp_c_hi h d]
theorem tp_pk_mk (q : Nat → Bool) {c : Nat} (hc : c ≤ 48) (b : Bool) (a : Nat) : tp_pk (tp_g (tp_mk q c)) 48 b a = tp_pk q c b a := by
  have e1 : ∀ i, i ≤ c → tp_c (tp_g (tp_mk q c)) i = tp_c q i := fun i hi => tp_c_congr i (fun j hj => by rw [tp_gmk q c (by omega)]; simp [show j < c by omega])
  have e2 : tp_c (tp_g (tp_mk q c)) 48 = tp_c q c := by
    have := tp_c_hi (f := tp_g (tp_mk q c)) (c := c) (fun i hi => by rw [tp_gmk q c (by omega)]; simp [show ¬ i < c by omega]) (48 - c)
    rw [show c + (48 - c) = 48 by omega] at this
    rw [this, e1 c (Nat.le_refl _)]
  unfold tp_pk
  apply tp_mk_eq (by omega) (by omega)
  intro i _
  rw [tp_gmk q c (by omega)]
  by_cases hi : i < c
  · have : tp_rk (tp_g (tp_mk q c)) 48 b i = tp_rk q c b i := by
      unfold tp_rk; rw [e2, e1 i (by omega), e1 (i + 1) (by omega)]
    rw [this]
    simp [hi, show i < 48 by omega]
  · simp [hi]
-- what atPlace finds: place a from the one side, or from the other
def tp_F (q : Nat → Bool) (c : Nat) (b ng : Bool) (a : Nat) : Int64 := if a = 0 then tp_mk q c else tp_pk q c (b ^^ ng) a
theorem tp_xAt {post : Int64 → Prop} (q : Nat → Bool) {c x a : Nat} (hc : c ≤ 48) (hx : x ≤ 10) (ha : a ≤ 48) (h : post (tp_F q c (tp_rb x) false a)) : wpX_atPlace post (tp_mk q c) (nI x) (nI a) := by
  unfold tp_F at h
  refine pk_eq a 0 (fun e => ?_) (fun e => tp_xrb hx (pk_le a 0 (fun z => absurd z (by omega)) (fun z => tp_xp z (by omega) ?_)))
  · rw [if_pos e] at h; exact h
  · rw [if_neg e, Bool.xor_false] at h
    rw [tp_pk_mk q hc]; exact h
theorem tp_ng0 {a : Nat} (h0 : 0 < a) (ha : a ≤ 48) : ¬ -nI a = 0 ∧ -nI a ≤ 0 ∧ -nI a < 0 := by
  have e := sb_negT (w := a) (by omega)
  refine ⟨fun z => ?_, ?_, ?_⟩
  · rw [z, show (0 : Int32).toInt = 0 by decide] at e; omega
  · rw [Int32.le_iff_toInt_le, e, show (0 : Int32).toInt = 0 by decide]; omega
  · rw [Int32.lt_iff_toInt_lt, e, show (0 : Int32).toInt = 0 by decide]; omega
theorem tp_xAtN {post : Int64 → Prop} (q : Nat → Bool) {c x a : Nat} (hc : c ≤ 48) (hx : x ≤ 10) (h0 : 0 < a) (ha : a ≤ 48) (h : post (tp_F q c (tp_rb x) true a)) : wpX_atPlace post (tp_mk q c) (nI x) (-nI a) := by
  unfold tp_F at h
  rw [if_neg (by omega), Bool.xor_true] at h
  obtain ⟨n0, n1, _⟩ := tp_ng0 h0 ha
  refine br_f n0 (tp_xrb hx (br_t n1 ?_))
  rw [Int32.neg_neg]
  refine tp_zt (fun e => ?_) (fun e => ?_)
  · exact tp_xp (b := true) h0 (by omega) (by rw [tp_pk_mk q hc]; rw [e] at h; exact h)
  · exact tp_xp (b := false) h0 (by omega) (by rw [tp_pk_mk q hc]; rw [e] at h; exact h)
end
section
-- what the reference finds
def tp_q (P K : Nat → Nat) (x t n : Nat) : Nat → Bool := fun m => tp_L P x n m && tp_S K t m
def tp_gy (q : Nat → Bool) (c : Nat) (b : Bool) (p w : Int32) : Nat → Bool := fun j => q j && (decide (p = 0) || decide (nI (tp_rk q c b j) = w))
theorem tp_mkt {f : Nat → Bool} {n : Nat} (h : f n = true) : tp_mk f (n + 1) = tp_mk f n ||| tp_b n := if_pos h
theorem tp_mkf {f : Nat → Bool} {n : Nat} (h : f n = false) : tp_mk f (n + 1) = tp_mk f n := if_neg (by rw [h]; decide)
theorem tp_mbt {f : Nat → Bool} {c n : Nat} (h : f (c - 1 - n) = true) : tp_mb f c (n + 1) = tp_mb f c n ||| tp_b (c - 1 - n) := if_pos h
theorem tp_mbf {f : Nat → Bool} {c n : Nat} (h : f (c - 1 - n) = false) : tp_mb f c (n + 1) = tp_mb f c n := if_neg (by rw [h]; decide)
theorem tp_gy_t {q : Nat → Bool} {c : Nat} {b : Bool} {p w : Int32} {j : Nat} (h : q j = true) (z : p = 0 ∨ nI (tp_rk q c b j) = w) : tp_gy q c b p w j = true := by
  unfold tp_gy; rcases z with z | z <;> simp [h, z]
theorem tp_gy_f {q : Nat → Bool} {c : Nat} {b : Bool} {p w : Int32} {j : Nat} (z : ¬ (p = 0 ∨ nI (tp_rk q c b j) = w)) : tp_gy q c b p w j = false := by
  unfold tp_gy; simp only [not_or] at z; simp [z]
theorem tp_gy_q {q : Nat → Bool} {c : Nat} {b : Bool} {p w : Int32} {j : Nat} (h : q j = false) : tp_gy q c b p w j = false := by
  unfold tp_gy; simp [h]
section
variable {c o : Nat} {P K : Nat → Nat} {V : Nat → Int32}
variable {fo : Int32} {fs : Int64} {pa te wo : Nat → Int32} {kp : Nat → Int64}
theorem tp_y103 (hT : tp_T c o P K) (hA : tp_AY c P K V pa te wo) {post : Int64 → Prop} {J : Int64 → Int32 → Int32 → Prop} {x t n i m d : Nat} {p w : Int32} {r : Int64} (hx : x ≤ 10) (ht : t ≤ 10) (hn : n < c) (hm : m < c)
    (h0 : tp_q P K x t n m = false → J r (nI d) (nI (i + 1)))
    (h1 : tp_q P K x t n m = true → (p = 0 ∨ nI (d + 1) = w) → J (r ||| tp_b m) (nI (d + 1)) (nI (i + 1)))
    (h2 : tp_q P K x t n m = true → ¬ (p = 0 ∨ nI (d + 1) = w) → J r (nI (d + 1)) (nI (i + 1))) :
    wY_found_103 post J (nI n) (nI x) (nI t) p w r (nI d) (nI i) (nI m) (nI c) fo fs pa te wo kp := by
  unfold tp_q at h0 h1 h2
  refine tp_yL hT hA.1 hx hn hm (tp_zt (fun e => nm_r (nI_1 i) (h0 (by rw [e]; rfl))) (fun e => tp_yS hT hA ht hm (tp_zt (fun e2 => nm_r (nI_1 i) (h0 (by rw [e, e2]; rfl))) (fun e2 => nm_r (nI_1 d) (br_c (fun z => nm_e (nm_r (nI_1 i) ?_)) (fun z => br_c (fun y => nm_e (nm_r (nI_1 i) ?_)) (fun y => nm_r (nI_1 i) ?_)))))))
  · exact h1 (by rw [e, e2]; rfl) (Or.inl z)
  · exact h1 (by rw [e, e2]; rfl) (Or.inr y)
  · exact h2 (by rw [e, e2]; rfl) (fun u => u.elim z y)
theorem tp_y73F (hT : tp_T c o P K) (hA : tp_AY c P K V pa te wo) {post : Int64 → Prop} {x t n : Nat} {p w : Int32} (hx : x ≤ 10) (ht : t ≤ 10) (hn : n < c) (hb : tp_bw x = false)
    (h : post (tp_mk (tp_gy (tp_q P K x t n) c false p w) c)) : ∀ f i r d, c - i < f → i ≤ c → r = tp_mk (tp_gy (tp_q P K x t n) c false p w) i → d = tp_c (tp_q P K x t n) i →
    wY_found_73 post (nI n) (nI x) (nI t) p w (nI c) fo fs pa te wo kp f r (nI d) (nI i) := by
  have hc := hT.2.1
  intro f
  induction f with
  | zero => intro i r d h1; omega
  | succ f ih =>
    intro i r d h1 h2 hr hd
    refine pk_le c i (fun z => ?_) (fun z => tp_ybw hx ?_)
    · have : i = c := by omega
      subst this hr; exact h
    · rw [hb]
      have ek : tp_q P K x t n i = true → tp_rk (tp_q P K x t n) c false i = d + 1 := fun e => by
        unfold tp_rk; rw [cond_false, tp_ct e, hd]
      refine br_t rfl (tp_y103 hT hA hx ht hn z (fun e => ih _ _ _ (by omega) (by omega) ?_ ?_) (fun e y => ih _ _ _ (by omega) (by omega) ?_ ?_) (fun e y => ih _ _ _ (by omega) (by omega) ?_ ?_))
      · rw [tp_mkf (tp_gy_q e), hr]
      · rw [tp_cf e, hd]
      · rw [tp_mkt (tp_gy_t e (by rw [ek e]; exact y)), hr]
      · rw [tp_ct e, hd]
      · rw [tp_mkf (tp_gy_f (by rw [ek e]; exact y)), hr]
      · rw [tp_ct e, hd]
theorem tp_yback {i : Nat} (h : i < c) : (nI c - 1) - nI i = nI (c - 1 - i) := by
  rw [show (nI c - 1 : Int32) = nI (c - 1) from pk_sub (b := 1) (by omega), pk_sub (by omega)]
theorem tp_y73B (hT : tp_T c o P K) (hA : tp_AY c P K V pa te wo) {post : Int64 → Prop} {x t n : Nat} {p w : Int32} (hx : x ≤ 10) (ht : t ≤ 10) (hn : n < c) (hb : tp_bw x = true)
    (h : post (tp_mk (tp_gy (tp_q P K x t n) c true p w) c)) : ∀ f i r d, c - i < f → i ≤ c → r = tp_mb (tp_gy (tp_q P K x t n) c true p w) c i → d = tp_c (tp_q P K x t n) c - tp_c (tp_q P K x t n) (c - i) →
    wY_found_73 post (nI n) (nI x) (nI t) p w (nI c) fo fs pa te wo kp f r (nI d) (nI i) := by
  have hc := hT.2.1
  intro f
  induction f with
  | zero => intro i r d h1; omega
  | succ f ih =>
    intro i r d h1 h2 hr hd
    refine pk_le c i (fun z => ?_) (fun z => tp_ybw hx ?_)
    · have : i = c := by omega
      subst this hr
      rw [tp_mb_mk _ (by omega)]; exact h
    · rw [hb]
      refine br_f (by decide) ?_
      rw [tp_yback z]
      have e1 : c - i = c - 1 - i + 1 := by omega
      have e2 : c - (i + 1) = c - 1 - i := by omega
      have hm := tp_c_mono (tp_q P K x t n) (show c - i ≤ c by omega)
      have ek : tp_q P K x t n (c - 1 - i) = true → d + 1 = tp_c (tp_q P K x t n) c - tp_c (tp_q P K x t n) (c - 1 - i) := fun e => by
        rw [e1, tp_ct e] at hd hm; omega
      have ek2 : tp_q P K x t n (c - 1 - i) = true → tp_rk (tp_q P K x t n) c true (c - 1 - i) = d + 1 := fun e => by
        unfold tp_rk; rw [cond_true, ek e]
      refine tp_y103 hT hA hx ht hn (by omega) (fun e => ih _ _ _ (by omega) (by omega) ?_ ?_) (fun e y => ih _ _ _ (by omega) (by omega) ?_ ?_) (fun e y => ih _ _ _ (by omega) (by omega) ?_ ?_)
      · rw [tp_mbf (tp_gy_q e), hr]
      · rw [hd, e1, tp_cf e, e2]
      · rw [tp_mbt (tp_gy_t e (by rw [ek2 e]; exact y)), hr]
      · rw [ek e, e2]
      · rw [tp_mbf (tp_gy_f (by rw [ek2 e]; exact y)), hr]
      · rw [ek e, e2]
theorem tp_y73 (hT : tp_T c o P K) (hA : tp_AY c P K V pa te wo) {post : Int64 → Prop} {x t n : Nat} {p w : Int32} (hx : x ≤ 10) (ht : t ≤ 10) (hn : n < c)
    (h : post (tp_mk (tp_gy (tp_q P K x t n) c (tp_bw x) p w) c)) : ∃ f, wY_found_73 post (nI n) (nI x) (nI t) p w (nI c) fo fs pa te wo kp f 0 0 0 := by
  cases e : tp_bw x
  · rw [e] at h
    exact ⟨c + 1, tp_y73F hT hA hx ht hn e h (c + 1) 0 0 0 (by omega) (by omega) rfl rfl⟩
  · rw [e] at h
    exact ⟨c + 1, tp_y73B hT hA hx ht hn e h (c + 1) 0 0 0 (by omega) (by omega) rfl (by rw [Nat.sub_zero, Nat.sub_self])⟩
-- the count ahead of it
theorem tp_y6 (hT : tp_T c o P K) (hA : tp_AY c P K V pa te wo) {post : Int64 → Prop} {x t n : Nat} {p : Int32} (hx : x ≤ 10) (ht : t ≤ 10) (hn : n < c)
    (h : post (tp_mk (tp_gy (tp_q P K x t n) c (tp_bw x) p (if 0 ≤ p then p else nI (tp_c (tp_q P K x t n) c) + p + 1)) c)) : ∀ f i d, c - i < f → i ≤ c → d = tp_c (tp_q P K x t n) i →
    wY_found_6 post (nI n) (nI x) (nI t) p (nI c) fo fs pa te wo kp f (nI d) (nI i) := by
  have hc := hT.2.1
  intro f
  induction f with
  | zero => intro i d h1; omega
  | succ f ih =>
    intro i d h1 h2 hd
    refine pk_le c i (fun z => ?_) (fun z => tp_yL hT hA.1 hx hn z (tp_zt (fun e => nm_r (nI_1 i) (ih _ _ (by omega) (by omega) ?_)) (fun e => tp_yS hT hA ht z (tp_zt (fun e2 => nm_r (nI_1 i) (ih _ _ (by omega) (by omega) ?_)) (fun e2 => nm_r (nI_1 d) (nm_r (nI_1 i) (ih _ _ (by omega) (by omega) ?_)))))))
    · have : i = c := by omega
      subst this hd
      refine br_c (fun y => ?_) (fun y => nm_e ?_)
      · rw [if_pos y] at h
        exact tp_y73 hT hA hx ht hn h
      · rw [if_neg y] at h
        exact tp_y73 hT hA hx ht hn h
    · rw [tp_cf (by unfold tp_q; rw [e]; rfl), hd]
    · rw [tp_cf (by unfold tp_q; rw [e, e2]; rfl), hd]
    · rw [tp_ct (by unfold tp_q; rw [e, e2]; rfl), hd]
theorem tp_yF (hT : tp_T c o P K) (hA : tp_AY c P K V pa te wo) {post : Int64 → Prop} {x t n : Nat} {p : Int32} (hx : x ≤ 10) (ht : t ≤ 10) (hn : n < c)
    (h : post (tp_mk (tp_gy (tp_q P K x t n) c (tp_bw x) p (if 0 ≤ p then p else nI (tp_c (tp_q P K x t n) c) + p + 1)) c)) :
    wpY_found post (nI c, fo, fs, pa, te, wo, kp) (nI n) (nI x) (nI t) p :=
  ⟨c + 1, tp_y6 hT hA hx ht hn h (c + 1) 0 0 (by omega) (by omega) rfl⟩
end
-- the two pictures are one
theorem tp_gy0 (q : Nat → Bool) (c : Nat) (b : Bool) (w : Int32) (j : Nat) : tp_gy q c b 0 w j = q j := by unfold tp_gy; simp
theorem tp_rk_sum {q : Nat → Bool} {c j : Nat} (hj : j < c) (h : q j = true) : tp_rk q c true j + tp_rk q c false j = tp_c q c + 1 := by
  unfold tp_rk
  rw [cond_true, cond_false, tp_ct h]
  have := tp_c_str hj h
  omega
theorem tp_rk_one {q : Nat → Bool} {c j : Nat} (hj : j < c) (h : q j = true) (h1 : tp_c q c ≤ 1) (b : Bool) : tp_rk q c b j = tp_rk q c (!b) j := by
  have s := tp_rk_sum hj h
  have m := tp_c_str hj h
  have e1 : tp_rk q c true j = 1 := by unfold tp_rk; rw [cond_true]; omega
  have e2 : tp_rk q c false j = 1 := by omega
  cases b
  · exact e2.trans e1.symm
  · exact e1.trans e2.symm
theorem tp_c_one {q : Nat → Bool} {p : Nat} (h : ∀ j, q j = true → j = p) : ∀ c, tp_c q c ≤ if p < c then 1 else 0
  | 0 => by simp [tp_c]
  | c + 1 => by
    have ih := tp_c_one h c
    by_cases e : q c = true
    · rw [tp_ct e]
      have := h c e
      subst this
      simp at ih ⊢
      exact ih
    · rw [tp_cf (ts_nt e)]
      refine Nat.le_trans ih ?_
      split
      · rw [if_pos (by omega)]; exact Nat.le_refl _
      · exact Nat.zero_le _
theorem tp_rk_bw {P K : Nat → Nat} {c x t n j : Nat} (hj : j < c) (h : tp_q P K x t n j = true) (b : Bool) : tp_rk (tp_q P K x t n) c (tp_bw x ^^ b) j = tp_rk (tp_q P K x t n) c (tp_rb x ^^ b) j := by
  by_cases e : x = 2
  · subst e
    have o1 : tp_c (tp_q P K 2 t n) c ≤ 1 := by
      refine Nat.le_trans (tp_c_one (p := P n) (fun j hj => ?_) c) (by split <;> omega)
      simp [tp_q, tp_L] at hj
      exact hj.1.2.symm
    have e1 : tp_bw 2 = true := rfl
    have e2 : tp_rb 2 = false := rfl
    rw [e1, e2]
    cases b
    · exact tp_rk_one hj h o1 true
    · exact tp_rk_one hj h o1 false
  · rw [show tp_bw x = tp_rb x by simp [tp_bw, e]]
theorem tp_FY {P K : Nat → Nat} {c x t n a : Nat} (hc : c ≤ 48) (ha : a ≤ 48) : tp_mk (tp_gy (tp_q P K x t n) c (tp_bw x) (nI a) (if (0 : Int32) ≤ nI a then nI a else nI (tp_c (tp_q P K x t n) c) + nI a + 1)) c = tp_F (tp_q P K x t n) c (tp_rb x) false a := by
  rw [if_pos (nI_pos' (by omega))]
  unfold tp_F
  by_cases e : a = 0
  · subst e
    rw [if_pos rfl, nI_0]
    exact tp_mk_congr (by omega) (fun j _ => tp_gy0 _ _ _ _ _)
  · rw [if_neg e]
    unfold tp_pk
    refine tp_mk_congr (by omega) (fun j hj => ?_)
    by_cases h : tp_q P K x t n j = true
    · have r := tp_rk_bw hj h false
      rw [Bool.xor_false, Bool.xor_false] at r
      have l1 := tp_c_le (tp_q P K x t n) c
      have l2 := tp_rk_sum hj h
      have l3 : tp_rk (tp_q P K x t n) c (tp_rb x) j ≤ 100 := by cases tp_rb x <;> omega
      unfold tp_gy
      rw [r, Bool.xor_false, h]
      have z1 : ¬ nI a = 0 := nI_ne0 (by omega) (by omega)
      simp only [z1, decide_false, Bool.false_or, Bool.true_and]
      exact decide_eq_decide.mpr (nI_eq (by omega) (by omega))
    · rw [tp_gy_q (ts_nt h), ts_nt h]; rfl
theorem tp_FYN {P K : Nat → Nat} {c x t n a : Nat} (hc : c ≤ 48) (h0 : 0 < a) (ha : a ≤ 48) : tp_mk (tp_gy (tp_q P K x t n) c (tp_bw x) (-nI a) (if (0 : Int32) ≤ -nI a then -nI a else nI (tp_c (tp_q P K x t n) c) + -nI a + 1)) c = tp_F (tp_q P K x t n) c (tp_rb x) true a := by
  obtain ⟨n0, n1, n2⟩ := tp_ng0 h0 ha
  rw [if_neg (Int32.not_le.mpr n2)]
  unfold tp_F
  rw [if_neg (by omega)]
  unfold tp_pk
  refine tp_mk_congr (by omega) (fun j hj => ?_)
  by_cases h : tp_q P K x t n j = true
  · have r := tp_rk_bw hj h true
    have l1 := tp_c_le (tp_q P K x t n) c
    have l2 := tp_rk_sum hj h
    have l3 : tp_rk (tp_q P K x t n) c (tp_bw x) j + tp_rk (tp_q P K x t n) c (tp_bw x ^^ true) j = tp_c (tp_q P K x t n) c + 1 := by
      cases tp_bw x
      · simp only [Bool.false_xor]; omega
      · simp only [Bool.true_xor]; exact l2
    unfold tp_gy
    rw [← r, h]
    simp only [n0, decide_false, Bool.false_or, Bool.true_and]
    apply decide_eq_decide.mpr
    generalize tp_rk (tp_q P K x t n) c (tp_bw x) j = d at l3
    generalize tp_rk (tp_q P K x t n) c (tp_bw x ^^ true) j = d' at l3
    generalize tp_c (tp_q P K x t n) c = C at l3 l1
    have e : nI C + -nI a + 1 = nI (C + 1) - nI a := by
      rw [← nI_1, Int32.sub_eq_add_neg, Int32.add_assoc, Int32.add_comm (-nI a) 1, ← Int32.add_assoc]
    rw [e]
    constructor
    · intro z
      have y := congrArg Int32.toInt z
      rw [nI_toInt (by omega), pk_sub_toInt (by omega) (by omega)] at y
      omega
    · intro z
      rw [pk_sub (by omega)]
      congr 1; omega
  · rw [tp_gy_q (ts_nt h), ts_nt h]; rfl
end
section
-- size
theorem tp_xsz {post : Int32 → Prop} {s : Int64} (h : post (nI (tp_c (tp_g s) 48))) : ∀ f i d, 48 - i < f → i ≤ 48 → d = tp_c (tp_g s) i → wX_size_4 post s f (nI d) (nI i) := by
  intro f
  induction f with
  | zero => intro i d h1; omega
  | succ f ih =>
    intro i d h1 h2 hd
    refine pk_le 48 i (fun z => ?_) (fun z => tp_xH s (by omega) (tp_zt (fun e => nm_r (nI_1 i) (ih _ _ (by omega) (by omega) ?_)) (fun e => nm_r (nI_1 d) (nm_r (nI_1 i) (ih _ _ (by omega) (by omega) ?_)))))
    · have : i = 48 := by omega
      subst this hd; exact h
    · rw [tp_cf e, hd]
    · rw [tp_ct e, hd]
theorem tp_xZ {post : Int32 → Prop} {s : Int64} (h : post (nI (tp_c (tp_g s) 48))) : wpX_size post s :=
  ⟨49, tp_xsz h 49 0 0 (by omega) (by omega) rfl⟩
section
variable {fc fo : Int32} {fs : Int64} {pa te wo : Nat → Int32} {kp : Nat → Int64}
theorem tp_ysz {post : Int32 → Prop} (h : post (nI (tp_c (tp_g fs) 48))) : ∀ f i d, 48 - i < f → i ≤ 48 → d = tp_c (tp_g fs) i → wY_size_4 post fc fo fs pa te wo kp f (nI d) (nI i) := by
  intro f
  induction f with
  | zero => intro i d h1; omega
  | succ f ih =>
    intro i d h1 h2 hd
    refine pk_le 48 i (fun z => ?_) (fun z => nm_r (e' := nI (tp_c (tp_g fs) (i + 1))) ?_ (nm_r (nI_1 i) (ih _ _ (by omega) (by omega) rfl)))
    · have : i = 48 := by omega
      subst this hd; exact h
    · rw [tp_sr fs (by omega)]
      cases e : tp_g fs i
      · rw [tp_cf e, hd]; exact Int32.add_zero _
      · rw [tp_ct e, hd]; exact nI_1 _
theorem tp_yZ {post : Int32 → Prop} (h : post (nI (tp_c (tp_g fs) 48))) : wpY_size post (fc, fo, fs, pa, te, wo, kp) :=
  ⟨49, tp_ysz h 49 0 0 (by omega) (by omega) rfl⟩
end
-- nothing beyond the nodes
def tp_In (c : Nat) (s : Int64) : Prop := ∀ j, c ≤ j → tp_g s j = false
theorem tp_In_mk (f : Nat → Bool) {c : Nat} (hc : c ≤ 64) : tp_In c (tp_mk f c) := fun j hj => by
  rw [tp_gmk f c hc]; simp [show ¬ j < c by omega]
theorem tp_In_0 (c : Nat) : tp_In c 0 := fun j _ => tp_0 j
theorem tp_In_1 {c : Nat} (h : 1 ≤ c) : tp_In c 1 := fun j hj => by rw [tp_1]; simp; omega
theorem tp_In_or {c : Nat} {s t : Int64} (h : tp_In c s) (h' : tp_In c t) : tp_In c (s ||| t) := fun j hj => by rw [tp_or, h j hj, h' j hj]; rfl
theorem tp_In_and {c : Nat} {s t : Int64} (h : tp_In c s) : tp_In c (s &&& t) := fun j hj => by rw [tp_and, h j hj]; rfl
theorem tp_In_F (q : Nat → Bool) {c : Nat} (hc : c ≤ 64) (b ng : Bool) (a : Nat) : tp_In c (tp_F q c b ng a) := by
  unfold tp_F
  split
  · exact tp_In_mk _ hc
  · exact tp_In_mk _ hc
-- step
def tp_st (s : Int64) (F : Nat → Int64) : Nat → Int64
  | 0 => 0
  | n + 1 => if tp_g s n = true then tp_st s F n ||| F n else tp_st s F n
theorem tp_In_st {c : Nat} (s : Int64) {F : Nat → Int64} (h : ∀ n, tp_In c (F n)) : ∀ n, tp_In c (tp_st s F n)
  | 0 => tp_In_0 c
  | n + 1 => by
    unfold tp_st
    split
    · exact tp_In_or (tp_In_st s h n) (h n)
    · exact tp_In_st s h n
section
variable {c o : Nat} {P K : Nat → Nat} {V : Nat → Int32}
variable {fo : Int32} {fs f0 f1 : Int64} {pa ka va : Nat → Int32}
theorem tp_xst (hT : tp_T c o P K) (hA : tp_AX c P K V pa ka va) {post : Int32 → SX → Prop} {x t : Nat} {p : Int32} {F : Nat → Int64} (hx : x ≤ 10) (ht : t ≤ 10)
    (hF : ∀ n, n < c → ∀ po : Int64 → Prop, po (F n) → wpX_atPlace po (tp_mk (tp_q P K x t n) c) (nI x) p)
    (h : post (nI (tp_c (tp_g (tp_st fs F c)) 48)) (nI c, fo, tp_st fs F c, f0, f1, pa, ka, va)) : ∀ f i s, c - i < f → i ≤ c → s = tp_st fs F i →
    wX_step_28 post (nI x) (nI t) p (nI c) fo fs f0 f1 pa ka va f s (nI i) := by
  have hc := hT.2.1
  intro f
  induction f with
  | zero => intro i s h1; omega
  | succ f ih =>
    intro i s h1 h2 hs
    refine pk_le c i (fun z => tp_xZ ?_) (fun z => tp_xH fs (by omega) (tp_zt (fun e => nm_r (nI_1 i) (ih _ _ (by omega) (by omega) ?_)) (fun e => tp_xR hT hA hx ht z (hF i z _ (nm_e (nm_r (nI_1 i) (ih _ _ (by omega) (by omega) ?_)))))))
    · have : i = c := by omega
      subst this hs; exact h
    · rw [hs, tp_st, if_neg (by rw [e]; decide)]
    · rw [hs, tp_st, if_pos e]
theorem tp_xaa {post : Int32 → Prop} {p0 p1 : Int32} (h0 : ¬ (∃ x t : Nat, x ≤ 10 ∧ t ≤ 10 ∧ p0 = nI x ∧ p1 = nI t) → post 0) (h1 : ∀ x t : Nat, x ≤ 10 → t ≤ 10 → p0 = nI x → p1 = nI t → post 1) : wpX_isAxisAndTest post p0 p1 := by
  refine br_c (fun z => h0 ?_) (fun z => br_c (fun y => h0 ?_) (fun y => br_c (fun w => h0 ?_) (fun w => br_c (fun v => h0 ?_) (fun v => ?_))))
  · rintro ⟨x, t, hx, ht, rfl, rfl⟩; exact nI_pos (by omega) z
  · rintro ⟨x, t, hx, ht, rfl, rfl⟩
    have := (nI_ltI (a := 10) (by omega) (by omega)).mp y
    omega
  · rintro ⟨x, t, hx, ht, rfl, rfl⟩; exact nI_pos (by omega) w
  · rintro ⟨x, t, hx, ht, rfl, rfl⟩
    have := (nI_ltI (a := 10) (by omega) (by omega)).mp v
    omega
  · obtain ⟨x, hx, ex⟩ := nI_of2 (M := 10) (n := 10) (by decide) z (Int32.not_lt.mp y)
    obtain ⟨t, ht, et⟩ := nI_of2 (M := 10) (n := 10) (by decide) w (Int32.not_lt.mp v)
    exact h1 x t hx ht ex et
theorem tp_yrf {post : Int32 → Prop} {p0 p1 : Int32} (h1 : ¬ (∃ x t : Nat, x ≤ 10 ∧ t ≤ 10 ∧ p0 = nI x ∧ p1 = nI t) → post 1) (h0 : ∀ x t : Nat, x ≤ 10 → t ≤ 10 → p0 = nI x → p1 = nI t → post 0) : wpY_refused post p0 p1 := by
  refine br_c (fun z => h1 ?_) (fun z => br_c (fun y => h1 ?_) (fun y => br_c (fun w => h1 ?_) (fun w => br_c (fun v => ?_) (fun v => h1 ?_))))
  · rintro ⟨x, t, hx, ht, rfl, rfl⟩; exact nI_pos (by omega) z
  · rintro ⟨x, t, hx, ht, rfl, rfl⟩
    have := (nI_ltI (a := 10) (by omega) (by omega)).mp y
    omega
  · rintro ⟨x, t, hx, ht, rfl, rfl⟩; exact nI_pos (by omega) w
  · obtain ⟨x, hx, ex⟩ := nI_of2 (M := 10) (n := 10) (by decide) z (Int32.not_lt.mp y)
    obtain ⟨t, ht, et⟩ := nI_of2 (M := 10) (n := 10) (by decide) w v
    exact h0 x t hx ht ex et
  · rintro ⟨x, t, hx, ht, rfl, rfl⟩
    exact v (nI_le (b := 10) ht (by omega))
theorem tp_pl {p : Int32} (h : ¬ p < -48) (h' : p ≤ 48) : (∃ a : Nat, a ≤ 48 ∧ p = nI a) ∨ (∃ a : Nat, 0 < a ∧ a ≤ 48 ∧ p = -nI a) := by
  by_cases z : p < 0
  · right
    have h1 : -48 ≤ p.toInt := by
      have := Int32.not_lt.mp h
      rw [Int32.le_iff_toInt_le, show (-48 : Int32).toInt = -48 by decide] at this
      exact this
    have h2 : p.toInt < 0 := by
      rw [Int32.lt_iff_toInt_lt, show (0 : Int32).toInt = 0 by decide] at z
      exact z
    refine ⟨(-p.toInt).toNat, by omega, by omega, ?_⟩
    apply Int32.toInt_inj.mp
    rw [sb_negT (by omega)]
    omega
  · left
    exact nI_of2 (M := 48) (n := 48) (by decide) z h'
-- having and valued on the class's side
theorem tp_xhv (hT : tp_T c o P K) (hA : tp_AX c P K V pa ka va) {post : Int32 → SX → Prop} {x t : Nat} {wt : Bool} (hx : x ≤ 10) (ht : t ≤ 10) {g : Nat → Bool} (hg : ∀ n, g n = (tp_any (tp_q P K x t n) c == wt))
    (h : post (nI (tp_c (tp_g (tp_mk (fun n => tp_g fs n && g n) c)) 48)) (nI c, fo, tp_mk (fun n => tp_g fs n && g n) c, f0, f1, pa, ka, va)) : ∀ f i s, c - i < f → i ≤ c → s = tp_mk (fun n => tp_g fs n && g n) i →
    wX_having_16 post (nI x) (nI t) (tp_z wt) (nI c) fo fs f0 f1 pa ka va f s (nI i) := by
  have hc := hT.2.1
  intro f
  induction f with
  | zero => intro i s h1; omega
  | succ f ih =>
    intro i s h1 h2 hs
    have key : i < c → ∀ b : Bool, (tp_g fs i = true) → b = tp_any (tp_q P K x t i) c → wX_having_59 post (wX_having_16 post (nI x) (nI t) (tp_z wt) (nI c) fo fs f0 f1 pa ka va f) (nI x) (nI t) (tp_z wt) s (nI i) (tp_z b) (nI c) fo fs f0 f1 pa ka va := by
      intro hi b hb e
      refine br_c (fun y => nm_e (nm_r (nI_1 i) (ih _ _ (by omega) (by omega) ?_))) (fun y => nm_r (nI_1 i) (ih _ _ (by omega) (by omega) ?_))
      · have : g i = true := by
          rw [hg, ← e]
          cases b <;> cases wt <;> first | rfl | exact absurd y (by decide)
        rw [tp_mkt (by rw [hb, this]; rfl), hs]; rfl
      · have : g i = false := by
          rw [hg, ← e]
          cases b <;> cases wt <;> first | rfl | exact absurd rfl y
        rw [tp_mkf (by rw [this, Bool.and_false]), hs]
    refine pk_le c i (fun z => tp_xZ ?_) (fun z => tp_xH fs (by omega) (tp_zt (fun e => nm_r (nI_1 i) (ih _ _ (by omega) (by omega) ?_)) (fun e => tp_xR hT hA hx ht z (br_c (fun y => key z false e ?_) (fun y => key z true e ?_)))))
    · have : i = c := by omega
      subst this hs; exact h
    · rw [tp_mkf (by rw [e]; rfl), hs]
    · exact ((tp_mk_0 _ (by omega)).mp y).symm
    · exact (ts_nf (fun u => y ((tp_mk_0 _ (by omega)).mpr u))).symm
def tp_tm (K : Nat → Nat) (V : Nat → Int32) (lo hi : Int32) : Nat → Bool := fun m => decide (K m = 8) && (decide (¬ V m < lo) && decide (¬ hi < V m))
def tp_vh (P K : Nat → Nat) (V : Nat → Int32) (lo hi : Int32) (n : Nat) : Nat → Bool := fun m => (decide (m = n) || tp_B P n m) && tp_tm K V lo hi m
theorem tp_xtb (hT : tp_T c o P K) (hA : tp_AX c P K V pa ka va) {post : Int64 → Prop} {lo hi : Int32} (h : post (tp_mk (tp_tm K V lo hi) c)) : ∀ f i s, c - i < f → i ≤ c → s = tp_mk (tp_tm K V lo hi) i →
    wX_textsBetween_5 post lo hi (nI c) fo fs f0 f1 pa ka va f s (nI i) := by
  have hc := hT.2.1
  intro f
  induction f with
  | zero => intro i s h1; omega
  | succ f ih =>
    intro i s h1 h2 hs
    refine pk_le c i (fun z => ?_) (fun z => ⟨vp_in_nI (by omega) (by omega), ?_⟩)
    · have : i = c := by omega
      subst this hs; exact h
    · have hk := hT.2.2.2.2.2 i z
      rw [show ka (nI i).toNatClampNeg = nI (K i) by rw [nI_clamp (by omega)]; exact hA.2.1 i z]
      refine pk_eq (K i) 8 (fun e => ⟨vp_in_nI (by omega) (by omega), ?_⟩) (fun e => nm_r (nI_1 i) (ih _ _ (by omega) (by omega) ?_))
      · rw [show va (nI i).toNatClampNeg = V i by rw [nI_clamp (by omega)]; exact hA.2.2 i z e]
        refine br_c (fun y => nm_r (nI_1 i) (ih _ _ (by omega) (by omega) ?_)) (fun y => ⟨vp_in_nI (by omega) (by omega), br_c (fun w => nm_r (nI_1 i) (ih _ _ (by omega) (by omega) ?_)) (fun w => nm_e (nm_r (nI_1 i) (ih _ _ (by omega) (by omega) ?_)))⟩)
        · rw [tp_mkf (by simp [tp_tm, y]), hs]
        · rw [tp_mkf (by simp only [tp_tm, w]; simp), hs]
        · rw [tp_mkt (by simp only [tp_tm, y, w, e]; simp), hs]; rfl
      · rw [tp_mkf (by simp [tp_tm, e]), hs]
theorem tp_xvl (hT : tp_T c o P K) (hA : tp_AX c P K V pa ka va) {post : Int32 → SX → Prop} {lo hi : Int32} {g : Nat → Bool} (hg : ∀ n, g n = tp_any (tp_vh P K V lo hi n) c)
    (h : post (nI (tp_c (tp_g (tp_mk (fun n => tp_g fs n && g n) c)) 48)) (nI c, fo, tp_mk (fun n => tp_g fs n && g n) c, f0, f1, pa, ka, va)) : ∀ f i s, c - i < f → i ≤ c → s = tp_mk (fun n => tp_g fs n && g n) i →
    wX_valued_13 post (tp_mk (tp_tm K V lo hi) c) (nI c) fo fs f0 f1 pa ka va f s (nI i) := by
  have hc := hT.2.1
  intro f
  induction f with
  | zero => intro i s h1; omega
  | succ f ih =>
    intro i s h1 h2 hs
    have ev : tp_mk (fun m => tp_L P 9 i m && tp_S K 8 m) c &&& tp_mk (tp_tm K V lo hi) c = tp_mk (tp_vh P K V lo hi i) c := by
      rw [tp_mk_and _ _ (by omega)]
      refine tp_mk_congr (by omega) (fun j _ => ?_)
      simp only [tp_L, tp_S, tp_vh, tp_tm]
      cases (decide (j = i) || tp_B P i j) <;> cases h8 : decide (K j = 8) <;> simp
    refine pk_le c i (fun z => tp_xZ ?_) (fun z => tp_xH fs (by omega) (tp_zt (fun e => nm_r (nI_1 i) (ih _ _ (by omega) (by omega) ?_)) (fun e => tp_xR (x := 9) (t := 8) hT hA (by omega) (by omega) z ?_)))
    · have : i = c := by omega
      subst this hs; exact h
    · rw [tp_mkf (by rw [e]; rfl), hs]
    · rw [ev]
      refine br_c (fun y => nm_r (nI_1 i) (ih _ _ (by omega) (by omega) ?_)) (fun y => nm_e (nm_r (nI_1 i) (ih _ _ (by omega) (by omega) ?_)))
      · rw [tp_mkf (by rw [hg, (tp_mk_0 _ (by omega)).mp y, Bool.and_false]), hs]
      · rw [tp_mkt (by rw [e, hg, ts_nf (fun u => y ((tp_mk_0 _ (by omega)).mpr u))]; rfl), hs]; rfl
end
end
section
theorem tp_gy0k (q : Nat → Bool) {c : Nat} {b : Bool} {w : Int32} (hc : c ≤ 64) : tp_mk (tp_gy q c b 0 w) c = tp_mk q c := tp_mk_congr hc (fun j _ => tp_gy0 q c b w j)
section
variable {c o : Nat} {P K : Nat → Nat} {V : Nat → Int32}
variable {fo : Int32} {fs : Int64} {pa te wo : Nat → Int32} {kp : Nat → Int64}
theorem tp_yst (hT : tp_T c o P K) {post : Int32 → SY → Prop} {x t : Nat} {p : Int32} {F : Nat → Int64}
    (hF : ∀ n, n < c → ∀ po : Int64 → Prop, po (F n) → wpY_found po (nI c, fo, fs, pa, te, wo, kp) (nI n) (nI x) (nI t) p)
    (h : post (nI (tp_c (tp_g (tp_st fs F c)) 48)) (nI c, fo, tp_st fs F c, pa, te, wo, kp)) : ∀ f i s, c - i < f → i ≤ c → s = tp_st fs F i →
    wY_step_28 post (nI x) (nI t) p (nI c) fo fs pa te wo kp f s (nI i) := by
  have hc := hT.2.1
  intro f
  induction f with
  | zero => intro i s h1; omega
  | succ f ih =>
    intro i s h1 h2 hs
    refine pk_le c i (fun z => tp_yZ ?_) (fun z => ek_if (tp_hy fs (by omega)) (fun e => hF i z _ (nm_e (nm_r (nI_1 i) (ih _ _ (by omega) (by omega) ?_)))) (fun e => nm_r (nI_1 i) (ih _ _ (by omega) (by omega) ?_)))
    · have : i = c := by omega
      subst this hs; exact h
    · rw [hs, tp_st, if_pos e]
    · rw [hs, tp_st, if_neg e]
-- sets that lose members
def tp_hv (s : Int64) (g : Nat → Bool) : Nat → Int64
  | 0 => s
  | n + 1 => if g n = true then tp_hv s g n else tp_hv s g n &&& (tp_b n ^^^ (-1))
theorem tp_ghv (s : Int64) (g : Nat → Bool) : ∀ n, n ≤ 64 → ∀ i, i < 64 → tp_g (tp_hv s g n) i = (tp_g s i && (decide (n ≤ i) || g i))
  | 0, _, i, _ => by rw [show tp_hv s g 0 = s from rfl]; simp
  | n + 1, hn, i, hi => by
    have ih := tp_ghv s g n (by omega) i hi
    unfold tp_hv
    by_cases e : n = i
    · subst e
      have d1 : decide (n + 1 ≤ n) = false := by simp
      rw [d1, Bool.false_or]
      by_cases h : g n = true
      · rw [if_pos h, ih, h]; simp
      · rw [if_neg h, tp_and, tp_xor, tp_gb (by omega), tp_m1 n (by omega), ts_nt h]; simp
    · have d1 : decide (n + 1 ≤ i) = decide (n ≤ i) := by apply decide_eq_decide.mpr; omega
      rw [d1]
      by_cases h : g n = true
      · rw [if_pos h, ih]
      · rw [if_neg h, tp_and, tp_xor, tp_gb (by omega), tp_m1 i hi, ih]; simp [e]
theorem tp_hv_mk {s : Int64} {c : Nat} (g : Nat → Bool) (hc : c ≤ 64) (h : tp_In c s) : tp_hv s g c = tp_mk (fun n => tp_g s n && g n) c := by
  apply tp_ext
  intro i hi
  rw [tp_ghv s g c hc i hi, tp_gmk _ c hc i]
  by_cases z : i < c
  · simp [z, show ¬ c ≤ i by omega]
  · rw [h i (by omega)]; simp
theorem tp_yhv (hT : tp_T c o P K) (hA : tp_AY c P K V pa te wo) {post : Int32 → SY → Prop} {x t : Nat} {wt : Bool} {s0 : Int64} (hx : x ≤ 10) (ht : t ≤ 10) {g : Nat → Bool} (hg : ∀ n, g n = (tp_any (tp_q P K x t n) c == wt))
    (h : post (nI (tp_c (tp_g (tp_hv s0 g c)) 48)) (nI c, fo, tp_hv s0 g c, pa, te, wo, kp)) : ∀ f i s, c - i < f → i ≤ c → s = tp_hv s0 g i →
    wY_having_13 post (nI x) (nI t) (tp_z wt) (nI c) fo pa te wo kp f (nI i) s := by
  have hc := hT.2.1
  intro f
  induction f with
  | zero => intro i s h1; omega
  | succ f ih =>
    intro i s h1 h2 hs
    have key : i < c → ∀ b : Bool, b = tp_any (tp_q P K x t i) c → wY_having_41 post (wY_having_13 post (nI x) (nI t) (tp_z wt) (nI c) fo pa te wo kp f) (nI x) (nI t) (tp_z wt) (nI i) (tp_z b) (nI c) fo s pa te wo kp := by
      intro hi b e
      refine br_c (fun y => nm_r (nI_1 i) (ih _ _ (by omega) (by omega) ?_)) (fun y => nm_e (nm_r (nI_1 i) (ih _ _ (by omega) (by omega) ?_)))
      · have : g i = true := by
          rw [hg, ← e]
          cases b <;> cases wt <;> first | rfl | exact absurd y (by decide)
        rw [tp_hv, if_pos this, hs]
      · have : g i = false := by
          rw [hg, ← e]
          cases b <;> cases wt <;> first | rfl | exact absurd rfl y
        rw [tp_hv, if_neg (by rw [this]; decide), hs]; rfl
    refine pk_le c i (fun z => tp_yZ ?_) (fun z => tp_yF (p := 0) hT hA hx ht z ?_)
    · have : i = c := by omega
      subst this hs; exact h
    · rw [tp_gy0k _ (by omega)]
      refine br_c (fun y => key z false ?_) (fun y => key z true ?_)
      · exact ((tp_mk_0 _ (by omega)).mp y).symm
      · exact (ts_nf (fun u => y ((tp_mk_0 _ (by omega)).mpr u))).symm
theorem tp_yv46 (hT : tp_T c o P K) (hA : tp_AY c P K V pa te wo) {post : Int32 → SY → Prop} {J2 : Int32 → Int64 → Prop} {J : Int32 → Int32 → Prop} {lo hi x3 x4 : Int32} {m : Nat} {b : Bool} (hm : m < c)
    (h0 : (b && tp_tm K V lo hi m) = false → J x4 (nI (m + 1))) (h1 : (b && tp_tm K V lo hi m) = true → J 1 (nI (m + 1))) :
    wY_valued_46 post J2 J lo hi x3 x4 (nI m) (tp_z b) (nI c) fo fs pa te wo kp := by
  have hc := hT.2.1
  refine tp_zt (fun e => nm_r (nI_1 m) (h0 (by rw [e]; rfl))) (fun e => ⟨vp_in_nI (by omega) (by omega), ?_⟩)
  rw [show te (nI m).toNatClampNeg = tp_z (decide (K m = 8)) by rw [nI_clamp (by omega)]; exact hA.2.1 m hm]
  refine tp_zt (fun k => nm_r (nI_1 m) (h0 (by unfold tp_tm; rw [k]; simp))) (fun k => ⟨vp_in_nI (by omega) (by omega), ?_⟩)
  have k8 : K m = 8 := by simpa using k
  rw [show wo (nI m).toNatClampNeg = V m by rw [nI_clamp (by omega)]; exact hA.2.2.1 m hm k8]
  refine br_c (fun y => nm_r (nI_1 m) (h0 (by simp [tp_tm, y]))) (fun y => ⟨vp_in_nI (by omega) (by omega), br_c (fun w => nm_r (nI_1 m) (h0 (by simp only [tp_tm, w]; simp))) (fun w => nm_r (nI_1 m) (h1 (by simp only [tp_tm, y, w, k8, e]; simp)))⟩)
theorem tp_yv16 (hT : tp_T c o P K) (hA : tp_AY c P K V pa te wo) {post : Int32 → SY → Prop} {J2 : Int32 → Int64 → Prop} {lo hi : Int32} {n : Nat} (hn : n < c)
    (h0 : tp_any (tp_vh P K V lo hi n) c = false → J2 (nI (n + 1)) (fs &&& (tp_b n ^^^ (-1)))) (h1 : tp_any (tp_vh P K V lo hi n) c = true → J2 (nI (n + 1)) fs) : ∀ f i b, c - i < f → i ≤ c → b = tp_any (tp_vh P K V lo hi n) i →
    wY_valued_16 post J2 lo hi (nI n) (nI c) fo fs pa te wo kp f (tp_z b) (nI i) := by
  have hc := hT.2.1
  intro f
  induction f with
  | zero => intro i b h1; omega
  | succ f ih =>
    intro i b i1 i2 hb
    have key : i < c → ∀ d : Bool, d = (decide (i = n) || tp_B P n i) → wY_valued_46 post J2 (wY_valued_16 post J2 lo hi (nI n) (nI c) fo fs pa te wo kp f) lo hi (nI n) (tp_z b) (nI i) (tp_z d) (nI c) fo fs pa te wo kp := by
      intro z d hd
      refine tp_yv46 hT hA z (fun e => ih (i + 1) b (by omega) (by omega) ?_) (fun e => ih (i + 1) true (by omega) (by omega) ?_)
      · rw [tp_any, ← hb]; unfold tp_vh; rw [← hd, e, Bool.or_false]
      · rw [tp_any]; unfold tp_vh; rw [← hd, e, Bool.or_true]
    refine pk_le c i (fun z => ?_) (fun z => pk_eq i n (fun e => key z true ?_) (fun e => tp_yB hT hA.1 hn z (tp_zt (fun y => key z false ?_) (fun y => key z true ?_))))
    · have : i = c := by omega
      subst this hb
      exact tp_zt (fun e => nm_e (nm_r (nI_1 n) (h0 e))) (fun e => nm_r (nI_1 n) (h1 e))
    · simp [e]
    · simp [e, y]
    · simp [y]
theorem tp_yv2 (hT : tp_T c o P K) (hA : tp_AY c P K V pa te wo) {post : Int32 → SY → Prop} {lo hi : Int32} {s0 : Int64} {g : Nat → Bool} (hg : ∀ n, g n = tp_any (tp_vh P K V lo hi n) c)
    (h : post (nI (tp_c (tp_g (tp_hv s0 g c)) 48)) (nI c, fo, tp_hv s0 g c, pa, te, wo, kp)) : ∀ f i s, c - i < f → i ≤ c → s = tp_hv s0 g i →
    wY_valued_2 post lo hi (nI c) fo pa te wo kp f (nI i) s := by
  have hc := hT.2.1
  intro f
  induction f with
  | zero => intro i s h1; omega
  | succ f ih =>
    intro i s h1 h2 hs
    refine pk_le c i (fun z => tp_yZ ?_) (fun z => ⟨c + 1, tp_yv16 hT hA z (fun e => ih _ _ (by omega) (by omega) ?_) (fun e => ih _ _ (by omega) (by omega) ?_) (c + 1) 0 false (by omega) (by omega) rfl⟩)
    · have : i = c := by omega
      subst this hs; exact h
    · rw [tp_hv, if_neg (by rw [hg, e]; decide), hs]
    · rw [tp_hv, if_pos (by rw [hg, e]), hs]
end
section
variable {c o : Nat} {P K : Nat → Nat} {V : Nat → Int32}
variable {fo go : Int32} {fs f0 f1 : Int64} {pa ka va pb te wo : Nat → Int32} {kp : Nat → Int64}
-- node and sum, in lockstep
theorem tp_nd (hc : c ≤ 48) (x1 : Int32) : ∀ f i d, c - i < f → i ≤ c → ∃ r : Int32, (∀ post : Int32 → Prop, post r → wX_node_4 post x1 (nI c) fo fs f0 f1 pa ka va f d (nI i)) ∧ (∀ post : Int32 → Prop, post r → wY_node_4 post x1 (nI c) go fs pb te wo kp f d (nI i)) := by
  intro f
  induction f with
  | zero => intro i d h1; omega
  | succ f ih =>
    intro i d h1 h2
    by_cases z : i < c
    · have n1 : ¬ nI c ≤ nI i := nI_ge z (by omega)
      cases e : tp_g fs i
      · obtain ⟨r, hX, hY⟩ := ih (i + 1) d (by omega) (by omega)
        refine ⟨r, fun post h => br_f n1 (tp_xH fs (by omega) ?_), fun post h => br_f n1 (br_f (fun y => ?_) (nm_r (nI_1 i) (hY post h)))⟩
        · rw [e]; exact br_t rfl (nm_r (nI_1 i) (hX post h))
        · rw [tp_hy fs (by omega), e] at y; cases y
      · by_cases q : d = x1
        · refine ⟨nI i, fun post h => br_f n1 (tp_xH fs (by omega) ?_), fun post h => br_f n1 (br_t ((tp_hy fs (by omega)).mpr e) (br_t q h))⟩
          rw [e]; exact br_f (by decide) (br_t q h)
        · obtain ⟨r, hX, hY⟩ := ih (i + 1) (d + 1) (by omega) (by omega)
          refine ⟨r, fun post h => br_f n1 (tp_xH fs (by omega) ?_), fun post h => br_f n1 (br_t ((tp_hy fs (by omega)).mpr e) (br_f q (nm_e (nm_r (nI_1 i) (hY post h)))))⟩
          rw [e]; exact br_f (by decide) (br_f q (nm_e (nm_r (nI_1 i) (hX post h))))
    · have n1 : nI c ≤ nI i := nI_le (by omega) (by omega)
      exact ⟨-1, fun post h => br_t n1 h, fun post h => br_t n1 h⟩
theorem tp_sm (hT : tp_T c o P K) (hA : tp_AX c P K V pa ka va) (hB : tp_AY c P K V pb te wo) : ∀ f i d, c - i < f → i ≤ c → ∃ r : Int32, (∀ post : Int32 → Prop, post r → wX_sum_4 post (nI c) fo fs f0 f1 pa ka va f d (nI i)) ∧ (∀ post : Int32 → Prop, post r → wY_sum_4 post (nI c) go fs pb te wo kp f d (nI i)) := by
  have hc := hT.2.1
  intro f
  induction f with
  | zero => intro i d h1; omega
  | succ f ih =>
    intro i d h1 h2
    by_cases z : i < c
    · have n1 : ¬ nI c ≤ nI i := nI_ge z (by omega)
      have hk := hT.2.2.2.2.2 i z
      have vi : vp_in (nI i) 48 := vp_in_nI (by omega) (by omega)
      have ek : ka (nI i).toNatClampNeg = nI (K i) := by rw [nI_clamp (by omega)]; exact hA.2.1 i z
      have et : te (nI i).toNatClampNeg = tp_z (decide (K i = 8)) := by rw [nI_clamp (by omega)]; exact hB.2.1 i z
      cases e : tp_g fs i
      · obtain ⟨r, hX, hY⟩ := ih (i + 1) d (by omega) (by omega)
        refine ⟨r, fun post h => br_f n1 (tp_xH fs (by omega) ?_), fun post h => br_f n1 (br_f (fun y => ?_) (nm_r (nI_1 i) (hY post h)))⟩
        · rw [e]; exact br_t rfl (nm_r (nI_1 i) (hX post h))
        · rw [tp_hy fs (by omega), e] at y; cases y
      · by_cases q : K i = 8
        · obtain ⟨r, hX, hY⟩ := ih (i + 1) (d + V i) (by omega) (by omega)
          have ev : va (nI i).toNatClampNeg = V i := by rw [nI_clamp (by omega)]; exact hA.2.2 i z q
          have ew : wo (nI i).toNatClampNeg = V i := by rw [nI_clamp (by omega)]; exact hB.2.2.1 i z q
          refine ⟨r, fun post h => br_f n1 (tp_xH fs (by omega) ?_), fun post h => br_f n1 (br_t ((tp_hy fs (by omega)).mpr e) ⟨vi, br_f ?_ ⟨vi, nm_r (by rw [ew]) (nm_r (nI_1 i) (hY post h))⟩⟩)⟩
          · rw [e]; exact br_f (by decide) ⟨vi, br_t (by rw [ek, q]; rfl) ⟨vi, nm_r (by rw [ev]) (nm_r (nI_1 i) (hX post h))⟩⟩
          · rw [et, decide_eq_true q]; decide
        · obtain ⟨r, hX, hY⟩ := ih (i + 1) d (by omega) (by omega)
          refine ⟨r, fun post h => br_f n1 (tp_xH fs (by omega) ?_), fun post h => br_f n1 (br_t ((tp_hy fs (by omega)).mpr e) ⟨vi, br_t ?_ (nm_r (nI_1 i) (hY post h))⟩)⟩
          · rw [e]
            refine br_f (by decide) ⟨vi, br_f ?_ (nm_r (nI_1 i) (hX post h))⟩
            rw [ek]; exact fun y => q ((nI_eq (b := 8) (by omega) (by omega)).mp y)
          · rw [et, decide_eq_false q]; rfl
    · have n1 : nI c ≤ nI i := nI_le (by omega) (by omega)
      exact ⟨d, fun post h => br_t n1 h, fun post h => br_t n1 h⟩
end
end
section
theorem pk_least (P : Nat → Prop) (h : ∃ k, P k) : ∃ k, P k ∧ ∀ j, j < k → ¬ P j := by
  obtain ⟨k, hk⟩ := h
  induction k using Nat.strongRecOn with
  | ind k ih =>
    by_cases e : ∃ j, j < k ∧ P j
    · obtain ⟨j, hj, pj⟩ := e
      exact ih j hj pj
    · exact ⟨k, hk, fun j hj pj => e ⟨j, hj, pj⟩⟩
-- arrays: one more node, and trees that agree
theorem tp_AX_put {m : Nat} {P K : Nat → Nat} {V pa ka va : Nat → Int32} {z kz vz : Int32} (h : tp_AX m P K V pa ka va) (h0 : 0 < m) (hz : z = nI (P m)) (hk : kz = nI (K m)) (hv : K m = 8 → vz = V m) : tp_AX (m + 1) P K V (upd pa m z) (upd ka m kz) (upd va m vz) := by
  refine ⟨⟨?_, fun j j0 hj => ?_⟩, fun j hj => ?_, fun j hj k8 => ?_⟩
  · rw [pk_un (by omega)]; exact h.1.1
  · by_cases e : j = m
    · subst e; rw [pk_us]; exact hz
    · rw [pk_un e]; exact h.1.2 j j0 (by omega)
  · by_cases e : j = m
    · subst e; rw [pk_us]; exact hk
    · rw [pk_un e]; exact h.2.1 j (by omega)
  · by_cases e : j = m
    · subst e; rw [pk_us]; exact hv k8
    · rw [pk_un e]; exact h.2.2 j (by omega) k8
theorem tp_AY_put {m : Nat} {P K : Nat → Nat} {V pa te wo : Nat → Int32} {z tz wz : Int32} (h : tp_AY m P K V pa te wo) (h0 : 0 < m) (hz : z = nI (P m)) (ht : tz = tp_z (decide (K m = 8))) (hv : K m = 8 → wz = V m) (hw : K m ≠ 8 → wz = nI (K m)) : tp_AY (m + 1) P K V (upd pa m z) (upd te m tz) (upd wo m wz) := by
  refine ⟨⟨?_, fun j j0 hj => ?_⟩, fun j hj => ?_, fun j hj k8 => ?_, fun j hj k8 => ?_⟩
  · rw [pk_un (by omega)]; exact h.1.1
  · by_cases e : j = m
    · subst e; rw [pk_us]; exact hz
    · rw [pk_un e]; exact h.1.2 j j0 (by omega)
  · by_cases e : j = m
    · subst e; rw [pk_us]; exact ht
    · rw [pk_un e]; exact h.2.1 j (by omega)
  · by_cases e : j = m
    · subst e; rw [pk_us]; exact hv k8
    · rw [pk_un e]; exact h.2.2.1 j (by omega) k8
  · by_cases e : j = m
    · subst e; rw [pk_us]; exact hw k8
    · rw [pk_un e]; exact h.2.2.2 j (by omega) k8
theorem tp_AX_eq {c d : Nat} {P K P' K' : Nat → Nat} {V V' pa ka va : Nat → Int32} (hd : d ≤ c) (e : ∀ j, j < d → P' j = P j ∧ K' j = K j ∧ V' j = V j) (h : tp_AX c P K V pa ka va) : tp_AX d P' K' V' pa ka va := by
  refine ⟨⟨h.1.1, fun j j0 hj => ?_⟩, fun j hj => ?_, fun j hj k8 => ?_⟩
  · rw [(e j hj).1]; exact h.1.2 j j0 (by omega)
  · rw [(e j hj).2.1]; exact h.2.1 j (by omega)
  · rw [(e j hj).2.2]; rw [(e j hj).2.1] at k8; exact h.2.2 j (by omega) k8
theorem tp_AY_eq {c d : Nat} {P K P' K' : Nat → Nat} {V V' pa te wo : Nat → Int32} (hd : d ≤ c) (e : ∀ j, j < d → P' j = P j ∧ K' j = K j ∧ V' j = V j) (h : tp_AY c P K V pa te wo) : tp_AY d P' K' V' pa te wo := by
  refine ⟨⟨h.1.1, fun j j0 hj => ?_⟩, fun j hj => ?_, fun j hj k8 => ?_, fun j hj k8 => ?_⟩
  · rw [(e j hj).1]; exact h.1.2 j j0 (by omega)
  · rw [(e j hj).2.1]; exact h.2.1 j (by omega)
  · rw [(e j hj).2.2]; rw [(e j hj).2.1] at k8; exact h.2.2.1 j (by omega) k8
  · rw [(e j hj).2.1]; rw [(e j hj).2.1] at k8; exact h.2.2.2 j (by omega) k8
-- a node more
def tp_aP (c o' : Nat) (P : Nat → Nat) : Nat → Nat := fun j => if j ≤ c then P j else if j = c + 1 then o' else 0
def tp_aK (c k : Nat) (K : Nat → Nat) : Nat → Nat := fun j => if j = c then k else K j
def tp_aV (c : Nat) (x : Int32) (V : Nat → Int32) : Nat → Int32 := fun j => if j = c then x else V j
theorem tp_aT {c o k o' : Nat} {P K : Nat → Nat} (hT : tp_T c o P K) (hc : c < 48) (hk : k ≤ 8) (ho : o' = o ∨ o' = c) : tp_T (c + 1) o' (tp_aP c o' P) (tp_aK c k K) := by
  obtain ⟨h1, h2, h3, h4, h5, h6⟩ := hT
  have hoc := h3 c (by omega)
  refine ⟨by omega, by omega, fun j j0 => ?_, ?_, fun i j i0 ij jc => ?_, fun j hj => ?_⟩
  · have := h3 j j0
    unfold tp_aP
    split
    · exact this
    · split <;> omega
  · unfold tp_aP
    rw [if_neg (by omega), if_pos rfl]
  · unfold tp_aP
    rw [if_pos (show i ≤ c by omega)]
    by_cases e : j ≤ c
    · rw [if_pos e]; exact h5 i j i0 ij e
    · rw [if_neg e, if_pos (by omega)]
      intro z
      rcases ho with ho | ho
      · by_cases ic : i = c
        · subst ic; omega
        · have := h5 i c i0 (by omega) (by omega) (by omega)
          omega
      · omega
  · unfold tp_aK
    split
    · exact hk
    · exact h6 j (by omega)
-- a node and all below it less: d the node, e the first behind, k = e - d
def tp_rf (e k y : Nat) : Nat := if y < e then y else y - k
def tp_rP (c d e k : Nat) (P : Nat → Nat) : Nat → Nat := fun j => if j < d then P j else if j + k ≤ c then tp_rf e k (P (j + k)) else 0
def tp_rK (d k : Nat) (K : Nat → Nat) : Nat → Nat := fun j => if j < d then K j else K (j + k)
def tp_rV (d k : Nat) (V : Nat → Int32) : Nat → Int32 := fun j => if j < d then V j else V (j + k)
def tp_fb (c : Nat) (P : Nat → Nat) (d e : Nat) : Prop := d < e ∧ e ≤ c ∧ (∀ j, d < j → j < e → tp_B P d j = true) ∧ (e < c → tp_B P d e = false)
theorem tp_fb_ex {c d : Nat} (P : Nat → Nat) (h : d < c) : ∃ e, tp_fb c P d e := by
  obtain ⟨e, ⟨h1, h2⟩, h3⟩ := pk_least (fun j => d < j ∧ (j = c ∨ tp_B P d j = false)) ⟨c, h, Or.inl rfl⟩
  have hec : e ≤ c := by
    rcases Nat.lt_or_ge c e with z | z
    · exact absurd ⟨h, Or.inl rfl⟩ (h3 c z)
    · exact z
  refine ⟨e, h1, hec, fun j dj je => ?_, fun z => ?_⟩
  · exact ts_nf (fun u => h3 j je ⟨dj, Or.inr u⟩)
  · exact h2.resolve_left (by omega)
theorem tp_fb_out {c o d e : Nat} {P K : Nat → Nat} (hT : tp_T c o P K) (hd : 0 < d) (hb : tp_fb c P d e) (ho : o ≠ d) (hob : tp_B P d o = false) : ∀ i, e ≤ i → i ≤ c → P i < d ∨ e ≤ P i := by
  obtain ⟨h1, h2, h3, h4, h5, h6⟩ := hT
  obtain ⟨b1, b2, b3, b4⟩ := hb
  have hpe := h3 e (by omega)
  have key : P e < d ∨ e ≤ P e := by
    rcases Nat.lt_or_ge (P e) d with z | z
    · exact Or.inl z
    · exfalso
      by_cases q : P e = d
      · by_cases ec : e = c
        · subst ec; exact ho (h4.symm.trans q)
        · have := tp_B_up h3 (show 0 < e by omega) (Or.inl q)
          rw [b4 (by omega)] at this; cases this
      · have w := b3 (P e) (by omega) hpe
        by_cases ec : e = c
        · subst ec; rw [h4, hob] at w; cases w
        · have := tp_B_up h3 (show 0 < e by omega) (Or.inr w)
          rw [b4 (by omega)] at this; cases this
  intro i ei ic
  by_cases q : i = e
  · subst q; exact key
  · rcases Nat.lt_or_ge (P i) e with z | z
    · have := h5 e i (by omega) (by omega) ic z
      omega
    · exact Or.inr z
theorem tp_rT {c o d e k : Nat} {P K : Nat → Nat} (hT : tp_T c o P K) (hd : 0 < d) (hb : tp_fb c P d e) (hk : k = e - d) (ho : o ≠ d) (hob : tp_B P d o = false) : tp_T (c - k) (tp_rf e k o) (tp_rP c d e k P) (tp_rK d k K) := by
  have hout := tp_fb_out hT hd hb ho hob
  obtain ⟨h1, h2, h3, h4, h5, h6⟩ := hT
  obtain ⟨b1, b2, b3, b4⟩ := hb
  refine ⟨by omega, by omega, fun j j0 => ?_, ?_, fun i j i0 ij jc => ?_, fun j hj => ?_⟩
  · unfold tp_rP tp_rf
    by_cases z : j < d
    · rw [if_pos z]; exact h3 j j0
    · rw [if_neg z]
      by_cases y : j + k ≤ c
      · rw [if_pos y]
        have := h3 (j + k) (by omega)
        have := hout (j + k) (by omega) y
        split <;> omega
      · rw [if_neg y]; exact j0
  · unfold tp_rP
    rw [if_neg (by omega), if_pos (by omega), show c - k + k = c by omega, h4]
  · unfold tp_rP tp_rf
    by_cases jd : j < d
    · rw [if_pos jd, if_pos (show i < d by omega)]
      exact h5 i j i0 ij (by omega)
    · rw [if_neg jd, if_pos (show j + k ≤ c by omega)]
      have oj := hout (j + k) (by omega) (by omega)
      by_cases id : i < d
      · rw [if_pos id]
        have n := h5 i (j + k) i0 (by omega) (by omega)
        split
        · exact n
        · intro z; omega
      · rw [if_neg id, if_pos (show i + k ≤ c by omega)]
        have oi := hout (i + k) (by omega) (by omega)
        have n := h5 (i + k) (j + k) (by omega) (by omega) (by omega)
        generalize P (j + k) = a at *
        generalize P (i + k) = b at *
        split <;> split <;> omega
  · unfold tp_rK
    split
    · exact h6 j (by omega)
    · exact h6 (j + k) (by omega)
end
section
theorem tp_narz (b : Bool) : vp_nar .boolean (tp_z b) = tp_z b := by cases b <;> rfl
theorem tp_rP_at {c d e k i : Nat} (P : Nat → Nat) (hk : k = e - d) (h1 : d < e) (h2 : e ≤ i) (h3 : i ≤ c) : tp_rP c d e k P (i - k) = tp_rf e k (P i) := by
  unfold tp_rP
  rw [if_neg (by omega), if_pos (by omega), show i - k + k = i by omega]
theorem tp_rK_at {d e k i : Nat} (K : Nat → Nat) (hk : k = e - d) (h1 : d < e) (h2 : e ≤ i) : tp_rK d k K (i - k) = K i := by
  unfold tp_rK
  rw [if_neg (by omega), show i - k + k = i by omega]
theorem tp_rV_at {d e k i : Nat} (V : Nat → Int32) (hk : k = e - d) (h1 : d < e) (h2 : e ≤ i) : tp_rV d k V (i - k) = V i := by
  unfold tp_rV
  rw [if_neg (by omega), show i - k + k = i by omega]
theorem tp_r_lo {c d e k : Nat} (P K : Nat → Nat) (V : Nat → Int32) : ∀ j, j < d → tp_rP c d e k P j = P j ∧ tp_rK d k K j = K j ∧ tp_rV d k V j = V j :=
  fun _ hj => ⟨if_pos hj, if_pos hj, if_pos hj⟩
section
variable {c o d e k : Nat} {P K : Nat → Nat} {V : Nat → Int32}
variable {fc fo : Int32} {fs f0 f1 : Int64}
theorem tp_x40 {post : SX → Prop} {J : Int32 → (Nat → Int32) → (Nat → Int32) → (Nat → Int32) → Prop} {x1 z0 : Int32} {i : Nat} {pa ka va : Nat → Int32} (hi : i < 48) (hk : k ≤ i)
    (h : J (nI (i + 1)) (upd pa (i - k) z0) (upd ka (i - k) (ka i)) (upd va (i - k) (va i))) : wX_moveDown_40 post J x1 (nI k) (nI i) z0 (nI i - nI k) fc fo fs f0 f1 pa ka va := by
  have vi : vp_in (nI i) 48 := vp_in_nI hi (by omega)
  have vm : vp_in (nI i - nI k) 48 := by rw [pk_sub hk]; exact vp_in_nI (by omega) (by omega)
  have ec : (nI i - nI k).toNatClampNeg = i - k := by rw [pk_sub hk]; exact nI_clamp (by omega)
  have ei : (nI i).toNatClampNeg = i := nI_clamp (by omega)
  exact ⟨vm, nm_r (by rw [ec]) ⟨vi, vm, nm_r (by rw [ec, ei]) ⟨vi, vm, nm_r (by rw [ec, ei]) (nm_r (nI_1 i) h)⟩⟩⟩
theorem tp_xmd (hT : tp_T c o P K) (hd : 0 < d) (hb : tp_fb c P d e) (hk : k = e - d) {post : SX → Prop}
    (h : ∀ pa ka va, tp_AX (c - k) (tp_rP c d e k P) (tp_rK d k K) (tp_rV d k V) pa ka va → post (nI (c - k), nI (tp_rf e k o), fs, f0, f1, pa, ka, va)) :
    ∀ f i pa ka va, c - i < f → e ≤ i → i ≤ c → tp_AX (i - k) (tp_rP c d e k P) (tp_rK d k K) (tp_rV d k V) pa ka va → (∀ j, i ≤ j → j < c → pa j = nI (P j) ∧ ka j = nI (K j) ∧ (K j = 8 → va j = V j)) →
    wX_moveDown_2 post (nI e) (nI k) (nI c) (nI o) fs f0 f1 f (nI i) pa ka va := by
  obtain ⟨b1, b2, b3, b4⟩ := hb
  obtain ⟨h1, h2, h3, h4, h5, h6⟩ := hT
  have hoc := h3 c (by omega)
  intro f
  induction f with
  | zero => intro i pa ka va i1; omega
  | succ f ih =>
    intro i pa ka va i1 i2 i3 hA hR
    refine pk_le c i (fun z => ?_) (fun z => ⟨vp_in_nI (by omega) (by omega), ?_⟩)
    · have : i = c := by omega
      subst this
      have hp := h pa ka va hA
      unfold tp_rf at hp
      refine pk_lt o e (fun y => nm_r (pk_sub (by omega)) ?_) (fun y => nm_r (pk_sub (by omega)) (nm_r (pk_sub (by omega)) ?_))
      · rw [if_pos y] at hp; exact hp
      · rw [if_neg (by omega)] at hp; exact hp
    · have hr := hR i (Nat.le_refl _) z
      have hp := h3 i (by omega)
      refine nm_r (e' := nI (P i)) (by rw [nI_clamp (by omega)]; exact hr.1) ?_
      have go : ∀ z0 : Int32, z0 = nI (tp_rf e k (P i)) → wX_moveDown_40 post (wX_moveDown_2 post (nI e) (nI k) (nI c) (nI o) fs f0 f1 f) (nI e) (nI k) (nI i) z0 (nI i - nI k) (nI c) (nI o) fs f0 f1 pa ka va := by
        intro z0 hz
        refine tp_x40 (by omega) (by omega) (ih (i + 1) _ _ _ (by omega) (by omega) (by omega) ?_ ?_)
        · rw [show i + 1 - k = i - k + 1 by omega]
          refine tp_AX_put hA (by omega) ?_ ?_ ?_
          · rw [hz, tp_rP_at P hk b1 i2 i3]
          · rw [tp_rK_at K hk b1 i2]; exact hr.2.1
          · rw [tp_rK_at K hk b1 i2, tp_rV_at V hk b1 i2]; exact hr.2.2
        · intro j ij jc
          rw [pk_un (by omega), pk_un (by omega), pk_un (by omega)]
          exact hR j (by omega) jc
      refine pk_lt (P i) e (fun y => go _ ?_) (fun y => go _ ?_)
      · rw [tp_rf, if_pos y]
      · rw [tp_rf, if_neg (by omega), pk_sub (by omega)]
theorem tp_xfb (hT : tp_T c o P K) {pa ka va : Nat → Int32} (hA : tp_AP c P pa) (hdc : d < c) (hb : tp_fb c P d e) {post : Int32 → Prop} (h : post (nI e)) : ∀ f i, c - i < f → d < i → i ≤ e →
    wX_firstBehind_4 post (nI d) (nI c) fo fs f0 f1 pa ka va f (nI i) := by
  have hc := hT.2.1
  obtain ⟨b1, b2, b3, b4⟩ := hb
  intro f
  induction f with
  | zero => intro i i1; omega
  | succ f ih =>
    intro i i1 i2 i3
    refine pk_le c i (fun z => ?_) (fun z => tp_xB hT hA z hdc (tp_zt (fun y => ?_) (fun y => nm_r (nI_1 i) (ih (i + 1) (by omega) (by omega) ?_))))
    · have : e = c := by omega
      subst this; exact h
    · have : i = e := by
        rcases Nat.lt_or_ge i e with w | w
        · rw [b3 i i2 w] at y; cases y
        · omega
      subst this; exact h
    · rcases Nat.lt_or_ge i e with w | w
      · omega
      · have : i = e := by omega
        subst this
        rw [b4 z] at y; cases y
end
section
variable {c o d e k : Nat} {P K : Nat → Nat} {V : Nat → Int32}
variable {fc fo : Int32} {fs : Int64}
theorem tp_y116 {post : Int32 → SY → Prop} {J : Int32 → (Nat → Int32) → (Nat → Int32) → (Nat → Int32) → (Nat → Int64) → Prop} {x2 z0 : Int32} {i : Nat} {pa te wo : Nat → Int32} {kp : Nat → Int64} (hi : i < 48) (hk : k ≤ i)
    (h : J (nI (i + 1)) (upd pa (i - k) z0) (upd te (i - k) (vp_nar .boolean (te i))) (upd wo (i - k) (wo i)) kp) : wY_remove_116 post J x2 (nI k) (nI i) z0 (nI i - nI k) fc fo fs pa te wo kp := by
  have vi : vp_in (nI i) 48 := vp_in_nI hi (by omega)
  have vm : vp_in (nI i - nI k) 48 := by rw [pk_sub hk]; exact vp_in_nI (by omega) (by omega)
  have ec : (nI i - nI k).toNatClampNeg = i - k := by rw [pk_sub hk]; exact nI_clamp (by omega)
  have ei : (nI i).toNatClampNeg = i := nI_clamp (by omega)
  exact ⟨vm, nm_r (by rw [ec]) ⟨vi, vm, nm_r (by rw [ec, ei]) ⟨vi, vm, nm_r (by rw [ec, ei]) (nm_r (nI_1 i) h)⟩⟩⟩
theorem tp_yrs {post : SY → Prop} {pa te wo : Nat → Int32} {kp : Nat → Int64} (h : ∀ kq : Nat → Int64, kq 0 = 0 → kq 1 = 0 → post (fc, fo, 1, pa, te, wo, kq)) : wpY_reset post (fc, fo, fs, pa, te, wo, kp) :=
  nm_e (nm_e (h _ rfl rfl))
theorem tp_ymd (hT : tp_T c o P K) (hd : 0 < d) (hb : tp_fb c P d e) (hk : k = e - d) {post : Int32 → SY → Prop}
    (h : ∀ pa te wo kp, tp_AY (c - k) (tp_rP c d e k P) (tp_rK d k K) (tp_rV d k V) pa te wo → kp 0 = 0 → kp 1 = 0 → post (nI (c - k)) (nI (c - k), nI (tp_rf e k o), 1, pa, te, wo, kp)) :
    ∀ f i pa te wo kp, c - i < f → e ≤ i → i ≤ c → tp_AY (i - k) (tp_rP c d e k P) (tp_rK d k K) (tp_rV d k V) pa te wo → (∀ j, i ≤ j → j < c → pa j = nI (P j) ∧ te j = tp_z (decide (K j = 8)) ∧ (K j = 8 → wo j = V j) ∧ (K j ≠ 8 → wo j = nI (K j))) →
    wY_remove_69 post (nI e) (nI k) (nI c) (nI o) fs f (nI i) pa te wo kp := by
  obtain ⟨b1, b2, b3, b4⟩ := hb
  obtain ⟨h1, h2, h3, h4, h5, h6⟩ := hT
  have hoc := h3 c (by omega)
  intro f
  induction f with
  | zero => intro i pa te wo kp i1; omega
  | succ f ih =>
    intro i pa te wo kp i1 i2 i3 hA hR
    refine pk_le c i (fun z => nm_r (pk_sub (by omega)) ?_) (fun z => ⟨vp_in_nI (by omega) (by omega), ?_⟩)
    · have : i = c := by omega
      subst this
      refine pk_lt o e (fun y => tp_yrs (fun kq k0 k1 => ?_)) (fun y => nm_r (pk_sub (by omega)) (tp_yrs (fun kq k0 k1 => ?_)))
      · have hp := h pa te wo kq hA k0 k1
        unfold tp_rf at hp
        rw [if_pos y] at hp; exact hp
      · have hp := h pa te wo kq hA k0 k1
        unfold tp_rf at hp
        rw [if_neg (by omega)] at hp; exact hp
    · have hr := hR i (Nat.le_refl _) z
      have hp := h3 i (by omega)
      have e0 : pa (nI i).toNatClampNeg = nI (P i) := by rw [nI_clamp (by omega)]; exact hr.1
      rw [e0]
      have go : ∀ z0 : Int32, z0 = nI (tp_rf e k (P i)) → wY_remove_116 post (wY_remove_69 post (nI e) (nI k) (nI c) (nI o) fs f) (nI e) (nI k) (nI i) z0 (nI i - nI k) (nI c) (nI o) fs pa te wo kp := by
        intro z0 hz
        refine tp_y116 (by omega) (by omega) (ih (i + 1) _ _ _ _ (by omega) (by omega) (by omega) ?_ ?_)
        · rw [show i + 1 - k = i - k + 1 by omega]
          refine tp_AY_put hA (by omega) ?_ ?_ ?_ ?_
          · rw [hz, tp_rP_at P hk b1 i2 i3]
          · rw [tp_rK_at K hk b1 i2, hr.2.1, tp_narz]
          · rw [tp_rK_at K hk b1 i2, tp_rV_at V hk b1 i2]; exact hr.2.2.1
          · rw [tp_rK_at K hk b1 i2]; exact hr.2.2.2
        · intro j ij jc
          rw [pk_un (by omega), pk_un (by omega), pk_un (by omega)]
          exact hR j (by omega) jc
      have vi : vp_in (nI i) 48 := vp_in_nI (by omega) (by omega)
      refine pk_lt (P i) e (fun y => ⟨vi, go _ ?_⟩) (fun y => ⟨vi, go _ ?_⟩)
      · rw [tp_rf, if_pos y]
      · rw [tp_rf, if_neg (by omega), pk_sub (by omega)]
theorem tp_yfb (hT : tp_T c o P K) {pa te wo : Nat → Int32} {kp : Nat → Int64} (hA : tp_AP c P pa) (hdc : d < c) (hb : tp_fb c P d e) {post : Int32 → SY → Prop} (h : ∃ n, wY_remove_69 post (nI e) (nI (e - d)) (nI c) fo fs n (nI e) pa te wo kp) : ∀ f i, c - i < f → d < i → i ≤ e →
    wY_remove_39 post (nI d) (nI c) fo fs pa te wo kp f (nI i) := by
  have hc := hT.2.1
  obtain ⟨b1, b2, b3, b4⟩ := hb
  intro f
  induction f with
  | zero => intro i i1; omega
  | succ f ih =>
    intro i i1 i2 i3
    refine pk_le c i (fun z => nm_r (pk_sub (by omega)) ?_) (fun z => tp_yB hT hA hdc z (tp_zt (fun y => nm_r (pk_sub (by omega)) ?_) (fun y => nm_r (nI_1 i) (ih (i + 1) (by omega) (by omega) ?_))))
    · have : i = e := by omega
      subst this; exact h
    · have : i = e := by
        rcases Nat.lt_or_ge i e with w | w
        · rw [b3 i i2 w] at y; cases y
        · omega
      subst this; exact h
    · rcases Nat.lt_or_ge i e with w | w
      · omega
      · have : i = e := by omega
        subst this
        rw [b4 z] at y; cases y
end
end
section
-- the relation: one tree, one set, two kept sets
def i_Rel (k : Nat) (u : SX) (v : SY) : Prop :=
  ∃ (c o : Nat) (P K : Nat → Nat) (V : Nat → Int32) (s k0 k1 : Int64) (pa ka va pb te wo : Nat → Int32) (kp : Nat → Int64),
    u = (nI c, nI o, s, k0, k1, pa, ka, va) ∧ v = (nI c, nI o, s, pb, te, wo, kp) ∧ tp_T c o P K ∧ tp_AX c P K V pa ka va ∧ tp_AY c P K V pb te wo ∧ kp 0 = k0 ∧ kp 1 = k1 ∧ tp_In c s ∧ tp_In c k0 ∧ tp_In c k1
theorem tp_rel (k : Nat) {c o : Nat} {P K : Nat → Nat} {V : Nat → Int32} {s k0 k1 : Int64} {pa ka va pb te wo : Nat → Int32} {kp : Nat → Int64} (hT : tp_T c o P K) (hX : tp_AX c P K V pa ka va) (hY : tp_AY c P K V pb te wo) (h0 : kp 0 = k0) (h1 : kp 1 = k1) (is : tp_In c s) (i0 : tp_In c k0) (i1 : tp_In c k1) : i_Rel k (nI c, nI o, s, k0, k1, pa, ka, va) (nI c, nI o, s, pb, te, wo, kp) :=
  ⟨c, o, P, K, V, s, k0, k1, pa, ka, va, pb, te, wo, kp, rfl, rfl, hT, hX, hY, h0, h1, is, i0, i1⟩
theorem i_up {k : Nat} {u : SX} {v : SY} (h : i_Rel k u v) : i_Rel (k + 4) u v := h
theorem i_vc0 : wpX_init (fun u => wpY_init (fun v => i_Rel 0 u v)) := by
  refine nm_e (nm_e ?_)
  refine tp_rel 0 (c := 1) (o := 0) (P := fun _ => 0) (K := fun _ => 0) (V := fun _ => 0) ?_ ?_ ?_ rfl rfl (tp_In_1 (by omega)) (tp_In_0 1) (tp_In_0 1)
  · exact ⟨by omega, by omega, fun j h => h, rfl, fun _ _ _ _ _ _ => Nat.le_refl _, fun _ _ => Nat.zero_le _⟩
  · exact ⟨⟨pk_us, fun j h1 h2 => absurd h2 (by omega)⟩, fun _ _ => rfl, fun _ _ h => absurd (show (0 : Nat) = 8 from h) (by decide)⟩
  · exact ⟨⟨pk_us, fun j h1 h2 => absurd h2 (by omega)⟩, fun _ _ => rfl, fun _ _ h => absurd (show (0 : Nat) = 8 from h) (by decide), fun _ _ _ => rfl⟩
-- a node more
section
variable {c o : Nat} {P K : Nat → Nat} {V : Nat → Int32}
theorem tp_xap (hT : tp_T c o P K) (hc : c < 48) {fs f0 f1 : Int64} {pa ka va : Nat → Int32} (hA : tp_AX c P K V pa ka va) {post : SX → Prop} (o' : Nat) {w : Nat} {x xv : Int32} (hx : w = 8 → x = xv)
    (h : ∀ pa ka va, tp_AX (c + 1) (tp_aP c o' P) (tp_aK c w K) (tp_aV c xv V) pa ka va → post (nI (c + 1), nI o, 1, 0, 0, pa, ka, va)) : wpX_append post (nI c, nI o, fs, f0, f1, pa, ka, va) (nI w) x := by
  have vi : vp_in (nI c) 48 := vp_in_nI hc (by omega)
  have ei : (nI c).toNatClampNeg = c := nI_clamp (by omega)
  have h1 := hT.1
  have A1 : tp_AX c (tp_aP c o' P) (tp_aK c w K) (tp_aV c xv V) pa ka va := tp_AX_eq (Nat.le_refl _) (fun j hj => ⟨if_pos (by omega), if_neg (by omega), if_neg (by omega)⟩) hA
  have A2 := tp_AX_put (z := nI o) (kz := nI w) (vz := x) A1 (by omega) (by unfold tp_aP; rw [if_pos (Nat.le_refl _), hT.2.2.2.1]) (by unfold tp_aK; rw [if_pos rfl]) (by unfold tp_aK tp_aV; rw [if_pos rfl, if_pos rfl]; exact hx)
  exact ⟨vi, nm_r (by rw [ei]) ⟨vi, nm_r (by rw [ei]) ⟨vi, nm_r (by rw [ei]) (nm_r (nI_1 c) (h _ _ _ A2))⟩⟩⟩
theorem tp_yad (hT : tp_T c o P K) (hc : c < 48) {fs : Int64} {pa te wo : Nat → Int32} {kp : Nat → Int64} (hA : tp_AY c P K V pa te wo) {post : Int32 → SY → Prop} {w : Nat} {b : Bool} {x xv : Int32} (hb : b = decide (w = 8)) (hx : w = 8 → x = xv) (hw : w ≠ 8 → x = nI w)
    (h : ∀ pa te wo kp, tp_AY (c + 1) (tp_aP c (cond b o c) P) (tp_aK c w K) (tp_aV c xv V) pa te wo → kp 0 = 0 → kp 1 = 0 → post (nI (c + 1)) (nI (c + 1), nI (cond b o c), 1, pa, te, wo, kp)) : wpY_add post (nI c, nI o, fs, pa, te, wo, kp) (tp_z b) x := by
  have vi : vp_in (nI c) 48 := vp_in_nI hc (by omega)
  have ei : (nI c).toNatClampNeg = c := nI_clamp (by omega)
  have h1 := hT.1
  have A1 : tp_AY c (tp_aP c (cond b o c) P) (tp_aK c w K) (tp_aV c xv V) pa te wo := tp_AY_eq (Nat.le_refl _) (fun j hj => ⟨if_pos (by omega), if_neg (by omega), if_neg (by omega)⟩) hA
  have A2 := tp_AY_put (z := nI o) (tz := tp_z b) (wz := x) A1 (by omega) (by unfold tp_aP; rw [if_pos (Nat.le_refl _), hT.2.2.2.1]) (by unfold tp_aK; rw [if_pos rfl, hb]) (by unfold tp_aK tp_aV; rw [if_pos rfl, if_pos rfl]; exact hx) (by unfold tp_aK; rw [if_pos rfl]; exact hw)
  refine pk_eq c 48 (fun z => absurd z (by omega)) (fun _ => ⟨vi, nm_r (by rw [ei]) ⟨vi, nm_r (by rw [ei, tp_narz]) ⟨vi, nm_r (by rw [ei]) (tp_zt (fun e => ?_) (fun e => ?_))⟩⟩⟩)
  · subst e
    exact nm_r (nI_1 c) (tp_yrs (fun kq k0 k1 => h _ _ _ kq A2 k0 k1))
  · subst e
    exact nm_r (nI_1 c) (tp_yrs (fun kq k0 k1 => h _ _ _ kq A2 k0 k1))
end
theorem i_vc_open {k : Nat} {u : SX} {v : SY} (I : i_Rel k u v) (hk : k + 4 ≤ 2048) (v1 : Int32) : wpX_open (fun r u' => wpY_open (fun r' v' => r' = r ∧ i_Rel (k + 4) u' v') v v1) u v1 := by
  obtain ⟨c, o, P, K, V, s, k0, k1, pa, ka, va, pb, te, wo, kp, rfl, rfl, hT, hX, hY, h0, h1, is, i0, i1⟩ := I
  have hc := hT.2.1
  obtain ⟨w, hw, ew⟩ := pk_andE v1 (m := 7) 3 (by decide)
  refine pk_lt c 48 (fun z => ?_) (fun z => pk_eq c 48 (fun _ => ⟨rfl, tp_rel _ hT hX hY h0 h1 is i0 i1⟩) (fun y => absurd hc (by omega)))
  unfold wpY_open
  rw [ew]
  refine tp_xap hT z hX c (w := w) (xv := 0) (fun e => absurd e (by omega)) (fun pa' ka' va' AX => ?_)
  refine tp_yad (b := false) hT z hY (w := w) (xv := 0) (by symm; exact decide_eq_false (by omega)) (fun e => absurd e (by omega)) (fun _ => rfl) (fun pb' te' wo' kp' AY e0 e1 => ⟨rfl, ?_⟩)
  exact tp_rel _ (tp_aT hT z (by omega) (Or.inr rfl)) AX AY e0 e1 (tp_In_1 (by omega)) (tp_In_0 _) (tp_In_0 _)
theorem i_vc_text {k : Nat} {u : SX} {v : SY} (I : i_Rel k u v) (hk : k + 4 ≤ 2048) (v1 : Int32) : wpX_text (fun r u' => wpY_text (fun r' v' => r' = r ∧ i_Rel (k + 4) u' v') v v1) u v1 := by
  obtain ⟨c, o, P, K, V, s, k0, k1, pa, ka, va, pb, te, wo, kp, rfl, rfl, hT, hX, hY, h0, h1, is, i0, i1⟩ := I
  have hc := hT.2.1
  refine pk_lt c 48 (fun z => ?_) (fun z => pk_eq c 48 (fun _ => ⟨rfl, tp_rel _ hT hX hY h0 h1 is i0 i1⟩) (fun y => absurd hc (by omega)))
  unfold wpY_text
  refine tp_xap hT z hX o (w := 8) (xv := v1) (fun _ => rfl) (fun pa' ka' va' AX => ?_)
  refine tp_yad (b := true) hT z hY (w := 8) (xv := v1) rfl (fun _ => rfl) (fun e => absurd rfl e) (fun pb' te' wo' kp' AY e0 e1 => ⟨rfl, ?_⟩)
  exact tp_rel _ (tp_aT hT z (by omega) (Or.inl rfl)) AX AY e0 e1 (tp_In_1 (by omega)) (tp_In_0 _) (tp_In_0 _)
theorem i_vc_start {k : Nat} {u : SX} {v : SY} (I : i_Rel k u v) (hk : k + 4 ≤ 2048) : wpX_start (fun u' => wpY_start (fun v' => i_Rel (k + 4) u' v') v) u := by
  obtain ⟨c, o, P, K, V, s, k0, k1, pa, ka, va, pb, te, wo, kp, rfl, rfl, hT, hX, hY, h0, h1, is, i0, i1⟩ := I
  exact tp_rel (k + 4) hT hX hY h0 h1 (tp_In_1 hT.1) i0 i1
-- the open element's parent: the tree as it stands, the next node's parent another
def tp_cP (c p : Nat) (P : Nat → Nat) : Nat → Nat := fun j => if j = c then p else P j
theorem tp_cT {c o : Nat} {P K : Nat → Nat} (hT : tp_T c o P K) (ho : 0 < o) : tp_T c (P o) (tp_cP c (P o) P) K := by
  obtain ⟨h1, h2, h3, h4, h5, h6⟩ := hT
  have hoc := h3 c (by omega)
  have hpo := h3 o ho
  refine ⟨h1, h2, fun j j0 => ?_, if_pos rfl, fun i j i0 ij jc => ?_, h6⟩
  · unfold tp_cP
    split
    · omega
    · exact h3 j j0
  · unfold tp_cP
    rw [if_neg (show ¬ i = c by omega)]
    by_cases e : j = c
    · rw [if_pos e]
      intro z
      by_cases q : i = o
      · subst q; exact Nat.le_refl _
      · rcases Nat.lt_or_ge i o with w | w
        · exact h5 i o i0 w (by omega) z
        · have := h5 i c i0 (by omega) (Nat.le_refl _) (by omega)
          have := h5 o i
          omega
    · rw [if_neg e]; exact h5 i j i0 ij jc
theorem i_vc_close {k : Nat} {u : SX} {v : SY} (I : i_Rel k u v) (hk : k + 4 ≤ 2048) : wpX_close (fun r u' => wpY_close (fun r' v' => r' = r ∧ i_Rel (k + 4) u' v') v) u := by
  obtain ⟨c, o, P, K, V, s, k0, k1, pa, ka, va, pb, te, wo, kp, rfl, rfl, hT, hX, hY, h0, h1, is, i0, i1⟩ := I
  have hc := hT.2.1
  have hc1 := hT.1
  have hoc := hT.2.2.1 c (by omega)
  rw [hT.2.2.2.1] at hoc
  have vo : vp_in (nI o) 48 := vp_in_nI (by omega) (by omega)
  refine pk_eq o 0 (fun z => br_t (by rw [z]; rfl) ⟨rfl, tp_rel _ hT hX hY h0 h1 is i0 i1⟩) (fun z => ⟨vo, nm_r (e' := nI (P o)) ?_ (br_f (nI_ne0 (by omega) (by omega)) ⟨vo, nm_r (e' := nI (P o)) ?_ ⟨rfl, ?_⟩⟩)⟩)
  · rw [nI_clamp (by omega)]; exact hX.1.2 o (by omega) hoc
  · rw [nI_clamp (by omega)]; exact hY.1.2 o (by omega) hoc
  · have e : ∀ j, j < c → tp_cP c (P o) P j = P j ∧ K j = K j ∧ V j = V j := fun j hj => ⟨if_neg (by omega), rfl, rfl⟩
    exact tp_rel _ (tp_cT hT (by omega)) (tp_AX_eq (Nat.le_refl _) e hX) (tp_AY_eq (Nat.le_refl _) e hY) h0 h1 is i0 i1
end
section
-- remove
section
variable {c o j e : Nat} {P K : Nat → Nat} {V : Nat → Int32}
theorem tp_xmdP (hT : tp_T c o P K) (hd : 0 < j) (hb : tp_fb c P j e) {fs f0 f1 : Int64} {pa ka va : Nat → Int32} (hA : tp_AX c P K V pa ka va) {post : SX → Prop}
    (h : ∀ pa ka va, tp_AX (c - (e - j)) (tp_rP c j e (e - j) P) (tp_rK j (e - j) K) (tp_rV j (e - j) V) pa ka va → post (nI (c - (e - j)), nI (tp_rf e (e - j) o), fs, f0, f1, pa, ka, va)) :
    wpX_moveDown post (nI c, nI o, fs, f0, f1, pa, ka, va) (nI e) (nI e - nI j) := by
  have hb' := hb
  obtain ⟨b1, b2, b3, b4⟩ := hb'
  rw [pk_sub (by omega)]
  refine ⟨c + 1, tp_xmd hT hd hb rfl h (c + 1) e pa ka va (by omega) (by omega) b2 ?_ ?_⟩
  · rw [show e - (e - j) = j by omega]
    exact tp_AX_eq (by omega) (tp_r_lo P K V) hA
  · exact fun i h1 h2 => ⟨hA.1.2 i (by omega) h2, hA.2.1 i h2, hA.2.2 i h2⟩
theorem tp_ymdP (hT : tp_T c o P K) (hd : 0 < j) (hb : tp_fb c P j e) {fs : Int64} {pa te wo : Nat → Int32} {kp : Nat → Int64} (hA : tp_AY c P K V pa te wo) {post : Int32 → SY → Prop}
    (h : ∀ pa te wo kp, tp_AY (c - (e - j)) (tp_rP c j e (e - j) P) (tp_rK j (e - j) K) (tp_rV j (e - j) V) pa te wo → kp 0 = 0 → kp 1 = 0 → post (nI (c - (e - j))) (nI (c - (e - j)), nI (tp_rf e (e - j) o), 1, pa, te, wo, kp)) :
    ∃ n, wY_remove_69 post (nI e) (nI (e - j)) (nI c) (nI o) fs n (nI e) pa te wo kp := by
  have hb' := hb
  obtain ⟨b1, b2, b3, b4⟩ := hb'
  refine ⟨c + 1, tp_ymd hT hd hb rfl h (c + 1) e pa te wo kp (by omega) (by omega) b2 ?_ ?_⟩
  · rw [show e - (e - j) = j by omega]
    exact tp_AY_eq (by omega) (tp_r_lo P K V) hA
  · exact fun i h1 h2 => ⟨hA.1.2 i (by omega) h2, hA.2.1 i h2, hA.2.2.1 i h2, hA.2.2.2 i h2⟩
theorem tp_yrmNo (hT : tp_T c o P K) {fs : Int64} {pa te wo : Nat → Int32} {kp : Nat → Int64} (hA : tp_AY c P K V pa te wo) {post : Int32 → SY → Prop} (hj : j < 2 ^ 31) (hn : j = 0 ∨ c ≤ j ∨ j = o ∨ tp_B P j o = true)
    (h : post (-1) (nI c, nI o, fs, pa, te, wo, kp)) : wpY_remove post (nI c, nI o, fs, pa, te, wo, kp) (nI j) := by
  have hc := hT.2.1
  have hoc := hT.2.2.1 c (by have := hT.1; omega)
  rw [hT.2.2.2.1] at hoc
  refine pk_lt j 1 (fun _ => h) (fun z => pk_le c j (fun _ => h) (fun y => pk_eq j o (fun _ => h) (fun e => tp_yB hT hA.1 y hoc (tp_zt (fun b => ?_) (fun _ => h)))))
  exfalso
  rcases hn with hn | hn | hn | hn
  · omega
  · omega
  · omega
  · rw [b] at hn; cases hn
theorem tp_yrmGo (hT : tp_T c o P K) (hd : 0 < j) (hjc : j < c) (hb : tp_fb c P j e) (ho : o ≠ j) (hob : tp_B P j o = false) {fs : Int64} {pa te wo : Nat → Int32} {kp : Nat → Int64} (hA : tp_AY c P K V pa te wo) {post : Int32 → SY → Prop}
    (h : ∀ pa te wo kp, tp_AY (c - (e - j)) (tp_rP c j e (e - j) P) (tp_rK j (e - j) K) (tp_rV j (e - j) V) pa te wo → kp 0 = 0 → kp 1 = 0 → post (nI (c - (e - j))) (nI (c - (e - j)), nI (tp_rf e (e - j) o), 1, pa, te, wo, kp)) :
    wpY_remove post (nI c, nI o, fs, pa, te, wo, kp) (nI j) := by
  have hc := hT.2.1
  have hoc := hT.2.2.1 c (by have := hT.1; omega)
  rw [hT.2.2.2.1] at hoc
  have b1 := hb.1
  refine pk_lt j 1 (fun z => absurd z (by omega)) (fun z => pk_le c j (fun y => absurd y (by omega)) (fun y => pk_eq j o (fun q => absurd q.symm ho) (fun q => tp_yB hT hA.1 y hoc ?_)))
  rw [hob]
  exact br_t rfl (nm_r (nI_1 j) ⟨c + 1, tp_yfb hT hA.1 hjc hb (tp_ymdP hT hd hb hA h) (c + 1) (j + 1) (by omega) (by omega) (by omega)⟩)
end
theorem i_vc_remove {k : Nat} {u : SX} {v : SY} (I : i_Rel k u v) (hk : k + 4 ≤ 2048) (v1 : Int32) : wpX_remove (fun r u' => wpY_remove (fun r' v' => r' = r ∧ i_Rel (k + 4) u' v') v v1) u v1 := by
  obtain ⟨c, o, P, K, V, s, k0, k1, pa, ka, va, pb, te, wo, kp, rfl, rfl, hT, hX, hY, h0, h1, is, i0, i1⟩ := I
  have hc := hT.2.1
  have hc1 := hT.1
  have hoc := hT.2.2.1 c (by omega)
  rw [hT.2.2.2.1] at hoc
  have R : i_Rel (k + 4) (nI c, nI o, s, k0, k1, pa, ka, va) (nI c, nI o, s, pb, te, wo, kp) := tp_rel (k + 4) hT hX hY h0 h1 is i0 i1
  by_cases n0 : v1 < 0
  · exact br_t (Int32.le_of_lt n0) (br_t (Int32.lt_trans n0 (by decide)) ⟨rfl, R⟩)
  · obtain ⟨j, hj, rfl⟩ := nI_of n0
    refine pk_le j 0 (fun z => tp_yrmNo hT hY hj (Or.inl (by omega)) ⟨rfl, R⟩) (fun z => pk_lt j c (fun y => pk_eq j o (fun q => tp_yrmNo hT hY hj (Or.inr (Or.inr (Or.inl q))) ⟨rfl, R⟩) (fun q => tp_xB hT hX.1 hoc y (tp_zt (fun b => ?_) (fun b => tp_yrmNo hT hY hj (Or.inr (Or.inr (Or.inr b))) ⟨rfl, R⟩)))) (fun y => tp_yrmNo hT hY hj (Or.inr (Or.inl y)) ⟨rfl, R⟩))
    obtain ⟨e, hb⟩ := tp_fb_ex P y
    have b1 := hb.1
    have b2 := hb.2.1
    refine nm_r (nI_1 j) ⟨c + 1, tp_xfb hT hX.1 y hb ?_ (c + 1) (j + 1) (by omega) (by omega) (by omega)⟩
    refine tp_xmdP hT z hb hX (fun pa' ka' va' AX => ?_)
    show wpY_remove (fun r' v' => r' = nI (c - (e - j)) ∧ i_Rel (k + 4) (nI (c - (e - j)), nI (tp_rf e (e - j) o), 1, 0, 0, pa', ka', va') v') (nI c, nI o, s, pb, te, wo, kp) (nI j)
    refine tp_yrmGo hT z y hb (fun w => q w.symm) b hY (fun pb' te' wo' kp' AY e0 e1 => ⟨rfl, ?_⟩)
    exact tp_rel (k + 4) (tp_rT hT z hb rfl (fun w => q w.symm) b) AX AY e0 e1 (tp_In_1 (by omega)) (tp_In_0 _) (tp_In_0 _)
-- step
theorem tp_xstR {post : Int32 → SX → Prop} {u : SX} {p0 p1 p2 : Int32} (hn : ¬ ((∃ x t : Nat, x ≤ 10 ∧ t ≤ 10 ∧ p0 = nI x ∧ p1 = nI t) ∧ ¬ p2 < -48 ∧ p2 ≤ 48)) (h : post (-1) u) : wpX_step post u p0 p1 p2 := by
  obtain ⟨fc, fo, fs, f0, f1, pa, ka, va⟩ := u
  unfold wpX_step
  refine tp_xaa (fun _ => ?_) (fun x t hx ht ex et => ?_)
  · exact br_t rfl h
  · exact br_f (by decide) (br_c (fun _ => h) (fun z => br_c (fun y => absurd ⟨⟨x, t, hx, ht, ex, et⟩, z, y⟩ hn) (fun _ => h)))
theorem tp_ystR {post : Int32 → SY → Prop} {u : SY} {p0 p1 p2 : Int32} (hn : ¬ ((∃ x t : Nat, x ≤ 10 ∧ t ≤ 10 ∧ p0 = nI x ∧ p1 = nI t) ∧ ¬ p2 < -48 ∧ p2 ≤ 48)) (h : post (-1) u) : wpY_step post u p0 p1 p2 := by
  obtain ⟨fc, fo, fs, pa, te, wo, kp⟩ := u
  unfold wpY_step
  refine tp_yrf (fun _ => ?_) (fun x t hx ht ex et => ?_)
  · exact br_f (by decide) h
  · exact br_t rfl (br_c (fun _ => h) (fun z => br_c (fun y => absurd ⟨⟨x, t, hx, ht, ex, et⟩, z, y⟩ hn) (fun _ => h)))
theorem tp_xstY {post : Int32 → SX → Prop} {fc fo : Int32} {fs f0 f1 : Int64} {pa ka va : Nat → Int32} {x t : Nat} {p : Int32} (hx : x ≤ 10) (ht : t ≤ 10) (z : ¬ p < -48) (y : p ≤ 48) (h : ∃ n, wX_step_28 post (nI x) (nI t) p fc fo fs f0 f1 pa ka va n 0 0) : wpX_step post (fc, fo, fs, f0, f1, pa, ka, va) (nI x) (nI t) p := by
  unfold wpX_step
  refine tp_xaa (fun q => absurd ⟨x, t, hx, ht, rfl, rfl⟩ q) (fun _ _ _ _ _ _ => ?_)
  exact br_f (by decide) (br_f z (br_t y h))
theorem tp_ystY {post : Int32 → SY → Prop} {fc fo : Int32} {fs : Int64} {pa te wo : Nat → Int32} {kp : Nat → Int64} {x t : Nat} {p : Int32} (hx : x ≤ 10) (ht : t ≤ 10) (z : ¬ p < -48) (y : p ≤ 48) (h : ∃ n, wY_step_28 post (nI x) (nI t) p fc fo fs pa te wo kp n 0 0) : wpY_step post (fc, fo, fs, pa, te, wo, kp) (nI x) (nI t) p := by
  unfold wpY_step
  refine tp_yrf (fun q => absurd ⟨x, t, hx, ht, rfl, rfl⟩ q) (fun _ _ _ _ _ _ => ?_)
  exact br_t rfl (br_f z (br_t y h))
theorem i_vc_step {k : Nat} {u : SX} {v : SY} (I : i_Rel k u v) (hk : k + 4 ≤ 2048) (v1 : Int32) (v2 : Int32) (v3 : Int32) : wpX_step (fun r u' => wpY_step (fun r' v' => r' = r ∧ i_Rel (k + 4) u' v') v v1 v2 v3) u v1 v2 v3 := by
  by_cases ok : (∃ x t : Nat, x ≤ 10 ∧ t ≤ 10 ∧ v1 = nI x ∧ v2 = nI t) ∧ ¬ v3 < -48 ∧ v3 ≤ 48
  · obtain ⟨c, o, P, K, V, s, k0, k1, pa, ka, va, pb, te, wo, kp, rfl, rfl, hT, hX, hY, h0, h1, is, i0, i1⟩ := I
    obtain ⟨⟨x, t, hx, ht, rfl, rfl⟩, z, y⟩ := ok
    have hc := hT.2.1
    rcases tp_pl z y with ⟨a, ha, rfl⟩ | ⟨a, ha0, ha, rfl⟩
    · refine tp_xstY hx ht z y ⟨c + 1, tp_xst (F := fun n => tp_F (tp_q P K x t n) c (tp_rb x) false a) hT hX hx ht (fun n hn po h => tp_xAt _ hc hx ha h) ?_ (c + 1) 0 0 (by omega) (by omega) rfl⟩
      refine tp_ystY hx ht z y ⟨c + 1, tp_yst (F := fun n => tp_F (tp_q P K x t n) c (tp_rb x) false a) hT (fun n hn po h => tp_yF hT hY hx ht hn (by rw [tp_FY hc ha]; exact h)) ⟨rfl, ?_⟩ (c + 1) 0 0 (by omega) (by omega) rfl⟩
      exact tp_rel (k + 4) hT hX hY h0 h1 (tp_In_st s (fun n => tp_In_F _ (by omega) _ _ _) c) i0 i1
    · refine tp_xstY hx ht z y ⟨c + 1, tp_xst (F := fun n => tp_F (tp_q P K x t n) c (tp_rb x) true a) hT hX hx ht (fun n hn po h => tp_xAtN _ hc hx ha0 ha h) ?_ (c + 1) 0 0 (by omega) (by omega) rfl⟩
      refine tp_ystY hx ht z y ⟨c + 1, tp_yst (F := fun n => tp_F (tp_q P K x t n) c (tp_rb x) true a) hT (fun n hn po h => tp_yF hT hY hx ht hn (by rw [tp_FYN hc ha0 ha]; exact h)) ⟨rfl, ?_⟩ (c + 1) 0 0 (by omega) (by omega) rfl⟩
      exact tp_rel (k + 4) hT hX hY h0 h1 (tp_In_st s (fun n => tp_In_F _ (by omega) _ _ _) c) i0 i1
  · exact tp_xstR ok (tp_ystR ok ⟨rfl, i_up I⟩)
-- having
theorem tp_bz (v : Int32) : ∃ w : Bool, lw_bz v = tp_z w := by
  rcases lw_bz_01 v with h | h
  · exact ⟨false, h⟩
  · exact ⟨true, h⟩
theorem tp_xhvR {post : Int32 → SX → Prop} {u : SX} {p0 p1 p2 : Int32} (hn : ¬ (∃ x t : Nat, x ≤ 10 ∧ t ≤ 10 ∧ p0 = nI x ∧ p1 = nI t)) (h : post (-1) u) : wpX_having post u p0 p1 p2 := by
  obtain ⟨fc, fo, fs, f0, f1, pa, ka, va⟩ := u
  unfold wpX_having
  refine tp_xaa (fun _ => ?_) (fun x t hx ht ex et => absurd ⟨x, t, hx, ht, ex, et⟩ hn)
  exact br_t rfl h
theorem tp_yhvR {post : Int32 → SY → Prop} {u : SY} {p0 p1 p2 : Int32} (hn : ¬ (∃ x t : Nat, x ≤ 10 ∧ t ≤ 10 ∧ p0 = nI x ∧ p1 = nI t)) (h : post (-1) u) : wpY_having post u p0 p1 p2 := by
  obtain ⟨fc, fo, fs, pa, te, wo, kp⟩ := u
  unfold wpY_having
  refine tp_yrf (fun _ => ?_) (fun x t hx ht ex et => absurd ⟨x, t, hx, ht, ex, et⟩ hn)
  exact br_f (by decide) h
theorem tp_xhvY {post : Int32 → SX → Prop} {fc fo : Int32} {fs f0 f1 : Int64} {pa ka va : Nat → Int32} {x t : Nat} {p : Int32} (hx : x ≤ 10) (ht : t ≤ 10) (h : ∃ n, wX_having_16 post (nI x) (nI t) p fc fo fs f0 f1 pa ka va n 0 0) : wpX_having post (fc, fo, fs, f0, f1, pa, ka, va) (nI x) (nI t) p := by
  unfold wpX_having
  refine tp_xaa (fun q => absurd ⟨x, t, hx, ht, rfl, rfl⟩ q) (fun _ _ _ _ _ _ => ?_)
  exact br_f (by decide) h
theorem tp_yhvY {post : Int32 → SY → Prop} {fc fo : Int32} {fs : Int64} {pa te wo : Nat → Int32} {kp : Nat → Int64} {x t : Nat} {p : Int32} (hx : x ≤ 10) (ht : t ≤ 10) (h : ∃ n, wY_having_13 post (nI x) (nI t) p fc fo pa te wo kp n 0 fs) : wpY_having post (fc, fo, fs, pa, te, wo, kp) (nI x) (nI t) p := by
  unfold wpY_having
  refine tp_yrf (fun q => absurd ⟨x, t, hx, ht, rfl, rfl⟩ q) (fun _ _ _ _ _ _ => ?_)
  exact br_t rfl h
theorem i_vc_having {k : Nat} {u : SX} {v : SY} (I : i_Rel k u v) (hk : k + 4 ≤ 2048) (v1 : Int32) (v2 : Int32) (v3 : Int32) : wpX_having (fun r u' => wpY_having (fun r' v' => r' = r ∧ i_Rel (k + 4) u' v') v v1 v2 (lw_bz v3)) u v1 v2 (lw_bz v3) := by
  by_cases ok : (∃ x t : Nat, x ≤ 10 ∧ t ≤ 10 ∧ v1 = nI x ∧ v2 = nI t)
  · obtain ⟨c, o, P, K, V, s, k0, k1, pa, ka, va, pb, te, wo, kp, rfl, rfl, hT, hX, hY, h0, h1, is, i0, i1⟩ := I
    obtain ⟨x, t, hx, ht, rfl, rfl⟩ := ok
    have hc := hT.2.1
    obtain ⟨w, ew⟩ := tp_bz v3
    rw [ew]
    refine tp_xhvY hx ht ⟨c + 1, tp_xhv (g := fun n => (tp_any (tp_q P K x t n) c == w)) hT hX hx ht (fun _ => rfl) ?_ (c + 1) 0 0 (by omega) (by omega) rfl⟩
    refine tp_yhvY hx ht ⟨c + 1, tp_yhv (g := fun n => (tp_any (tp_q P K x t n) c == w)) hT hY hx ht (fun _ => rfl) ?_ (c + 1) 0 s (by omega) (by omega) rfl⟩
    rw [tp_hv_mk _ (by omega) is]
    exact ⟨rfl, tp_rel (k + 4) hT hX hY h0 h1 (tp_In_mk _ (by omega)) i0 i1⟩
  · exact tp_xhvR ok (tp_yhvR ok ⟨rfl, i_up I⟩)
theorem i_vc_valued {k : Nat} {u : SX} {v : SY} (I : i_Rel k u v) (hk : k + 4 ≤ 2048) (v1 : Int32) (v2 : Int32) : wpX_valued (fun r u' => wpY_valued (fun r' v' => r' = r ∧ i_Rel (k + 4) u' v') v v1 v2) u v1 v2 := by
  obtain ⟨c, o, P, K, V, s, k0, k1, pa, ka, va, pb, te, wo, kp, rfl, rfl, hT, hX, hY, h0, h1, is, i0, i1⟩ := I
  have hc := hT.2.1
  unfold wpX_valued
  refine ⟨c + 1, tp_xtb hT hX ⟨c + 1, tp_xvl (g := fun n => tp_any (tp_vh P K V v1 v2 n) c) hT hX (fun _ => rfl) ?_ (c + 1) 0 0 (by omega) (by omega) rfl⟩ (c + 1) 0 0 (by omega) (by omega) rfl⟩
  refine ⟨c + 1, tp_yv2 (g := fun n => tp_any (tp_vh P K V v1 v2 n) c) hT hY (fun _ => rfl) ?_ (c + 1) 0 s (by omega) (by omega) rfl⟩
  rw [tp_hv_mk _ (by omega) is]
  exact ⟨rfl, tp_rel (k + 4) hT hX hY h0 h1 (tp_In_mk _ (by omega)) i0 i1⟩
-- keep and mix
theorem tp_sl01 (x : Int32) : x &&& 1 = nI 0 ∨ x &&& 1 = nI 1 := by
  obtain ⟨w, hw, ew⟩ := pk_andE x (m := 1) 1 (by decide)
  rcases (show w = 0 ∨ w = 1 by omega) with e | e
  · subst e; exact Or.inl ew
  · subst e; exact Or.inr ew
theorem i_vc_keep {k : Nat} {u : SX} {v : SY} (I : i_Rel k u v) (hk : k + 4 ≤ 2048) (v1 : Int32) : wpX_keep (fun u' => wpY_keep (fun v' => i_Rel (k + 4) u' v') v v1) u v1 := by
  obtain ⟨c, o, P, K, V, s, k0, k1, pa, ka, va, pb, te, wo, kp, rfl, rfl, hT, hX, hY, h0, h1, is, i0, i1⟩ := I
  unfold wpX_keep wpY_keep
  rcases tp_sl01 v1 with e | e
  · rw [e]
    exact br_t rfl ⟨vp_in_nI (by omega) (by omega), nm_e (tp_rel (k + 4) hT hX hY pk_uLs ((pk_uLn (by decide)).trans h1) is is i1)⟩
  · rw [e]
    exact br_f (by decide) ⟨vp_in_nI (by omega) (by omega), nm_e (tp_rel (k + 4) hT hX hY ((pk_uLn (by decide)).trans h0) pk_uLs is i0 is)⟩
theorem tp_mx {k c o : Nat} {P K : Nat → Nat} {V : Nat → Int32} {s k0 k1 kz : Int64} {pa ka va pb te wo : Nat → Int32} {kp : Nat → Int64} (hT : tp_T c o P K) (hX : tp_AX c P K V pa ka va) (hY : tp_AY c P K V pb te wo) (h0 : kp 0 = k0) (h1 : kp 1 = k1) (is : tp_In c s) (i0 : tp_In c k0) (i1 : tp_In c k1) (v1 v2 : Int32)
    (hz : vp_in (v1 &&& 1) 2) (ez : kp (v1 &&& 1).toNatClampNeg = kz) (iz : tp_In c kz) :
    wX_mix_17 (fun r u' => wpY_mix (fun r' v' => r' = r ∧ i_Rel (k + 4) u' v') (nI c, nI o, s, pb, te, wo, kp) v1 v2) v2 kz (nI c) (nI o) s k0 k1 pa ka va := by
  have R : i_Rel (k + 4) (nI c, nI o, s, k0, k1, pa, ka, va) (nI c, nI o, s, pb, te, wo, kp) := tp_rel (k + 4) hT hX hY h0 h1 is i0 i1
  by_cases n0 : v2 < 0
  · exact br_t n0 (br_t n0 ⟨rfl, R⟩)
  · by_cases n2 : 2 < v2
    · exact br_f n0 (br_t n2 (br_f n0 (br_f (Int32.not_le.mpr n2) ⟨rfl, R⟩)))
    · have n3 := Int32.not_lt.mp n2
      refine br_f n0 (br_f n2 (br_c (fun e => nm_e (tp_xZ (br_f n0 (br_t n3 ⟨hz, nm_r ez (br_t e (tp_yZ ⟨rfl, ?_⟩))⟩)))) (fun e => br_c (fun e1 => nm_e (tp_xZ (br_f n0 (br_t n3 ⟨hz, nm_r ez (br_f e (br_t e1 (tp_yZ ⟨rfl, ?_⟩)))⟩)))) (fun e1 => br_c (fun e2 => nm_e (tp_xZ (br_f n0 (br_t n3 ⟨hz, nm_r ez (br_f e (br_f e1 (tp_yZ ⟨rfl, ?_⟩)))⟩)))) (fun _ => trivial)))))
      · exact tp_rel (k + 4) hT hX hY h0 h1 (tp_In_and is) i0 i1
      · exact tp_rel (k + 4) hT hX hY h0 h1 (tp_In_or is iz) i0 i1
      · exact tp_rel (k + 4) hT hX hY h0 h1 (tp_In_and is) i0 i1
theorem i_vc_mix {k : Nat} {u : SX} {v : SY} (I : i_Rel k u v) (hk : k + 4 ≤ 2048) (v1 : Int32) (v2 : Int32) : wpX_mix (fun r u' => wpY_mix (fun r' v' => r' = r ∧ i_Rel (k + 4) u' v') v v1 v2) u v1 v2 := by
  obtain ⟨c, o, P, K, V, s, k0, k1, pa, ka, va, pb, te, wo, kp, rfl, rfl, hT, hX, hY, h0, h1, is, i0, i1⟩ := I
  rcases tp_sl01 v1 with e | e
  · exact br_t e (tp_mx hT hX hY h0 h1 is i0 i1 v1 v2 (by rw [e]; exact vp_in_nI (by omega) (by omega)) (by rw [e]; exact h0) i0)
  · exact br_f (by rw [e]; decide) (tp_mx hT hX hY h0 h1 is i0 i1 v1 v2 (by rw [e]; exact vp_in_nI (by omega) (by omega)) (by rw [e]; exact h1) i1)
theorem i_vc_node {k : Nat} {u : SX} {v : SY} (I : i_Rel k u v) (hk : k + 4 ≤ 2048) (v1 : Int32) : wpX_node (fun r => wpY_node (fun r' => r' = r ∧ i_Rel (k + 4) u v) v v1) u v1 := by
  have R := i_up I
  obtain ⟨c, o, P, K, V, s, k0, k1, pa, ka, va, pb, te, wo, kp, rfl, rfl, hT, hX, hY, h0, h1, is, i0, i1⟩ := I
  obtain ⟨r, hx, hy⟩ := tp_nd (c := c) (fo := nI o) (go := nI o) (fs := s) (f0 := k0) (f1 := k1) (pa := pa) (ka := ka) (va := va) (pb := pb) (te := te) (wo := wo) (kp := kp) hT.2.1 v1 (c + 1) 0 0 (by omega) (by omega)
  exact ⟨c + 1, hx _ ⟨c + 1, hy _ ⟨rfl, R⟩⟩⟩
theorem i_vc_sum {k : Nat} {u : SX} {v : SY} (I : i_Rel k u v) (hk : k + 4 ≤ 2048) : wpX_sum (fun r => wpY_sum (fun r' => r' = r ∧ i_Rel (k + 4) u v) v) u := by
  have R := i_up I
  obtain ⟨c, o, P, K, V, s, k0, k1, pa, ka, va, pb, te, wo, kp, rfl, rfl, hT, hX, hY, h0, h1, is, i0, i1⟩ := I
  obtain ⟨r, hx, hy⟩ := tp_sm (fo := nI o) (go := nI o) (fs := s) (f0 := k0) (f1 := k1) (kp := kp) hT hX hY (c + 1) 0 0 (by omega) (by omega)
  exact ⟨c + 1, hx _ ⟨c + 1, hy _ ⟨rfl, R⟩⟩⟩
end
