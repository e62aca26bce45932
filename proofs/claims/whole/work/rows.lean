section
-- rows of kit/rows (pasted)
theorem pk_us {f : Nat → Int32} {k : Nat} {x : Int32} : upd f k x k = x := if_pos rfl
theorem pk_un {f : Nat → Int32} {k j : Nat} {x : Int32} (h : j ≠ k) : upd f k x j = f j := if_neg h
theorem pk_uLs {f : Nat → Int64} {k : Nat} {x : Int64} : vp_updL f k x k = x := if_pos rfl
theorem pk_uLn {f : Nat → Int64} {k j : Nat} {x : Int64} (h : j ≠ k) : vp_updL f k x j = f j := if_neg h
theorem pk_sub {a b : Nat} (h : b ≤ a) : nI a - nI b = nI (a - b) := by
  obtain ⟨c, rfl⟩ : ∃ c, a = c + b := ⟨a - b, by omega⟩
  rw [← nI_add, Int32.add_sub_cancel, Nat.add_sub_cancel]
theorem pk_m1 (n : Nat) : nI (n + 1) + (-1) = nI n := by
  rw [← nI_1, Int32.add_assoc, show (1 : Int32) + (-1) = 0 from rfl, Int32.add_zero]
theorem pk_sub_toInt {a b : Nat} (ha : a < 2 ^ 30) (hb : b < 2 ^ 30) : (nI a - nI b).toInt = (a : Int) - b := by
  rw [Int32.toInt_sub, nI_toInt (by omega), nI_toInt (by omega)]
  exact Int.bmod_eq_of_le (by omega) (by omega)
theorem pk_ix (x : Int32) {n : Nat} (hn : n < 2 ^ 31) : x < 0 ∨ nI n ≤ x ∨ ∃ j : Nat, j < n ∧ x = nI j := by
  by_cases h : x < 0
  · exact Or.inl h
  · obtain ⟨j, hj, rfl⟩ := nI_of h
    by_cases h2 : j < n
    · exact Or.inr (Or.inr ⟨j, h2, rfl⟩)
    · exact Or.inr (Or.inl (nI_le (by omega) hj))
theorem pk_le {x y : Int32} {A B : Prop} (a b : Nat) (f : a ≤ b → A) (g : b < a → B) (hx : x = nI a := by rfl) (hy : y = nI b := by rfl) (ha : a < 2 ^ 31 := by omega) (hb : b < 2 ^ 31 := by omega) : (x ≤ y → A) ∧ (¬ x ≤ y → B) := by
  subst hx hy
  rw [nI_leI ha hb]
  exact ⟨f, fun z => g (by omega)⟩
theorem pk_lt {x y : Int32} {A B : Prop} (a b : Nat) (f : a < b → A) (g : b ≤ a → B) (hx : x = nI a := by rfl) (hy : y = nI b := by rfl) (ha : a < 2 ^ 31 := by omega) (hb : b < 2 ^ 31 := by omega) : (x < y → A) ∧ (¬ x < y → B) := by
  subst hx hy
  rw [nI_ltI ha hb]
  exact ⟨f, fun z => g (by omega)⟩
theorem pk_eq {x y : Int32} {A B : Prop} (a b : Nat) (f : a = b → A) (g : a ≠ b → B) (hx : x = nI a := by rfl) (hy : y = nI b := by rfl) (ha : a < 2 ^ 31 := by omega) (hb : b < 2 ^ 31 := by omega) : (x = y → A) ∧ (¬ x = y → B) := by
  subst hx hy
  rw [nI_eq ha hb]
  exact ⟨f, g⟩
theorem pk_in {x : Int32} (n N : Nat) (h : n < N) (hx : x = nI n := by rfl) (hN : N < 2 ^ 31 := by omega) : vp_in x N := by
  subst hx
  exact vp_in_nI h hN
theorem pk_cl {x : Int32} (n : Nat) (hx : x = nI n := by rfl) (h : n < 2 ^ 31 := by omega) : x.toNatClampNeg = n := by
  subst hx
  exact nI_clamp h
theorem pk_tn {n : Nat} (h : n < 2 ^ 32) : (nI n).toBitVec.toNat = n := Nat.mod_eq_of_lt h
theorem pk_and (x : Int32) {m : Int32} (k : Nat) (hm : m.toBitVec.toNat = 2 ^ k - 1) : x &&& m = nI (x.toBitVec.toNat % 2 ^ k) := by
  apply Int32.toBitVec_inj.mp
  apply BitVec.eq_of_toNat_eq
  rw [Int32.toBitVec_and, BitVec.toNat_and, hm, Nat.and_two_pow_sub_one_eq_mod]
  show _ = (BitVec.ofNat 32 _).toNat
  rw [BitVec.toNat_ofNat]
  exact (Nat.mod_eq_of_lt (Nat.lt_of_le_of_lt (Nat.mod_le _ _) x.toBitVec.isLt)).symm
theorem pk_andE (x : Int32) {m : Int32} (k : Nat) (hm : m.toBitVec.toNat = 2 ^ k - 1) : ∃ j : Nat, j < 2 ^ k ∧ x &&& m = nI j := ⟨_, Nat.mod_lt _ (Nat.two_pow_pos k), pk_and x k hm⟩
theorem pk_andIn (x : Int32) {m : Int32} (k : Nat) (hm : m.toBitVec.toNat = 2 ^ k - 1) (hk : k ≤ 30) : vp_in (x &&& m) (2 ^ k) := by
  obtain ⟨j, hj, e⟩ := pk_andE x k hm
  rw [e]
  exact vp_in_nI hj (Nat.lt_of_le_of_lt (Nat.pow_le_pow_right (by decide) hk) (by decide))
theorem ek_if {c d A B : Prop} (e : c ↔ d) (f : d → A) (g : ¬ d → B) : (c → A) ∧ (¬ c → B) :=
  ⟨fun z => f (e.mp z), fun z => g (fun y => z (e.mpr y))⟩
theorem sb_negT {w : Nat} (h : w < 2 ^ 31) : (-nI w).toInt = -(w : Int) := by
  rw [Int32.toInt_neg, nI_toInt h]
  exact Int.bmod_eq_of_le (by omega) (by omega)
theorem ts_nf {x : Bool} (h : ¬ x = false) : x = true := by cases x <;> first | rfl | exact absurd rfl h
theorem ts_nt {x : Bool} (h : ¬ x = true) : x = false := by cases x <;> first | rfl | exact absurd rfl h
theorem ts_bit {w : Int64} {s : UInt64} {j : Nat} (hj : j < 64) (hs : s.toNat = j) : ((w.toUInt64 >>> s).toInt64 &&& 1) = 0 ↔ w.toBitVec.getLsbD j = false := by
  have e : (w.toUInt64 >>> s).toInt64.toBitVec = w.toBitVec >>> j := by
    apply BitVec.eq_of_toNat_eq
    show (w.toUInt64 >>> s).toNat = _
    rw [UInt64.toNat_shiftRight, hs, Nat.mod_eq_of_lt hj, BitVec.toNat_ushiftRight]
    rfl
  rw [← Int64.toBitVec_inj, Int64.toBitVec_and, e]
  show w.toBitVec >>> j &&& 1#64 = 0#64 ↔ _
  constructor
  · intro h
    have t := congrArg (fun x => x.getLsbD 0) h
    simpa using t
  · intro h
    apply BitVec.eq_of_getLsbD_eq
    intro i hi
    cases i with
    | zero => simp [h]
    | succ i => simp
theorem wb_c : ∀ k, k < 64 → ((nI k).toInt64 &&& 63) = lN k := by decide +kernel
-- bits of a long
def tp_g (x : Int64) (i : Nat) : Bool := x.toBitVec.getLsbD i
theorem tp_ext {x y : Int64} (h : ∀ i, i < 64 → tp_g x i = tp_g y i) : x = y := Int64.toBitVec_inj.mp (BitVec.eq_of_getLsbD_eq h)
theorem tp_or (x y : Int64) (i : Nat) : tp_g (x ||| y) i = (tp_g x i || tp_g y i) := by
  unfold tp_g; rw [Int64.toBitVec_or, BitVec.getLsbD_or]
theorem tp_and (x y : Int64) (i : Nat) : tp_g (x &&& y) i = (tp_g x i && tp_g y i) := by
  unfold tp_g; rw [Int64.toBitVec_and, BitVec.getLsbD_and]
theorem tp_xor (x y : Int64) (i : Nat) : tp_g (x ^^^ y) i = (tp_g x i ^^ tp_g y i) := by
  unfold tp_g; rw [Int64.toBitVec_xor, BitVec.getLsbD_xor]
theorem tp_0 (i : Nat) : tp_g 0 i = false := by
  show (0#64).getLsbD i = false
  exact BitVec.getLsbD_zero
theorem tp_1' : ∀ i, i < 64 → tp_g 1 i = decide (i = 0) := by decide +kernel
theorem tp_big {x : Int64} {i : Nat} (h : 64 ≤ i) : tp_g x i = false := BitVec.getLsbD_of_ge _ _ h
theorem tp_1 (i : Nat) : tp_g 1 i = decide (i = 0) := by
  by_cases h : i < 64
  · exact tp_1' i h
  · rw [tp_big (by omega)]; symm; exact decide_eq_false (by omega)
theorem tp_m1 : ∀ i, i < 64 → tp_g (-1) i = true := by decide +kernel
def tp_b (n : Nat) : Int64 := (1 : Int64) <<< ((nI n).toInt64 &&& 63)
theorem tp_b_tp : ∀ n, n < 64 → (tp_b n).toBitVec = BitVec.twoPow 64 n := by decide +kernel
theorem tp_gb {n : Nat} (hn : n < 64) (i : Nat) : tp_g (tp_b n) i = decide (n = i) := by
  unfold tp_g; rw [tp_b_tp n hn, BitVec.getLsbD_twoPow]; simp [hn]
theorem tp_cu : ∀ k, k < 64 → ((nI k).toInt64.toUInt64 &&& Int64.toUInt64 63).toNat = k := by decide +kernel
theorem tp_hx (x : Int64) {n : Nat} (hn : n < 64) : ((x.toUInt64 >>> ((nI n).toInt64.toUInt64 &&& Int64.toUInt64 63)).toInt64 &&& 1) = 0 ↔ tp_g x n = false :=
  ts_bit hn (tp_cu n hn)
theorem tp_sl : ∀ n, n < 64 → (((nI n).toInt64 &&& 63).toBitVec.smod 64).toNat = n := by decide +kernel
theorem tp_sr0 (x : Int64) {n : Nat} (hn : n < 64) : tp_g (x >>> ((nI n).toInt64 &&& 63)) 0 = tp_g x n := by
  unfold tp_g
  rw [Int64.toBitVec_shiftRight]
  show (x.toBitVec.sshiftRight (((nI n).toInt64 &&& 63).toBitVec.smod 64).toNat).getLsbD 0 = _
  rw [tp_sl n hn, BitVec.getLsbD_sshiftRight]
  simp [hn]
theorem tp_sr (x : Int64) {n : Nat} (hn : n < 64) : ((x >>> ((nI n).toInt64 &&& 63)) &&& 1) = cond (tp_g x n) 1 0 := by
  apply tp_ext
  intro i hi
  rw [tp_and, tp_1]
  by_cases h : i = 0
  · subst h
    rw [tp_sr0 x hn]
    cases tp_g x n
    · simp [tp_0]
    · simp [tp_1]
  · cases tp_g x n
    · simp [tp_0, h]
    · simp [tp_1, h]
theorem tp_hy (x : Int64) {n : Nat} (hn : n < 64) : ((x >>> ((nI n).toInt64 &&& 63)) &&& 1) = 1 ↔ tp_g x n = true := by
  rw [tp_sr x hn]
  cases tp_g x n
  · constructor
    · intro h; exact absurd h (by decide)
    · intro h; cases h
  · exact ⟨fun _ => rfl, fun _ => rfl⟩
-- a set made of the numbers below n
def tp_mk (f : Nat → Bool) : Nat → Int64
  | 0 => 0
  | n + 1 => if f n = true then tp_mk f n ||| tp_b n else tp_mk f n
theorem tp_gmk (f : Nat → Bool) : ∀ n, n ≤ 64 → ∀ i, tp_g (tp_mk f n) i = (decide (i < n) && f i)
  | 0, _, i => by rw [show tp_mk f 0 = 0 from rfl, tp_0]; simp
  | n + 1, hn, i => by
    have ih := tp_gmk f n (by omega) i
    unfold tp_mk
    by_cases h : f n = true
    · rw [if_pos h, tp_or, ih, tp_gb (by omega)]
      by_cases e : n = i
      · subst e; simp [h]
      · have : (decide (i < n + 1)) = decide (i < n) := by apply decide_eq_decide.mpr; omega
        rw [this]; simp [e]
    · rw [if_neg h, ih]
      by_cases e : n = i
      · subst e; simp [ts_nt h]
      · have : (decide (i < n + 1)) = decide (i < n) := by apply decide_eq_decide.mpr; omega
        rw [this]
-- the same from above: the numbers from c - n below c
def tp_mb (f : Nat → Bool) (c : Nat) : Nat → Int64
  | 0 => 0
  | n + 1 => if f (c - 1 - n) = true then tp_mb f c n ||| tp_b (c - 1 - n) else tp_mb f c n
theorem tp_gmb (f : Nat → Bool) (c : Nat) (hc : c ≤ 64) : ∀ n, n ≤ c → ∀ i, tp_g (tp_mb f c n) i = (decide (c - n ≤ i) && (decide (i < c) && f i))
  | 0, _, i => by
    rw [show tp_mb f c 0 = 0 from rfl, tp_0]
    by_cases h : i < c
    · simp [h, show ¬ c ≤ i by omega]
    · simp [h]
  | n + 1, hn, i => by
    have ih := tp_gmb f c hc n (by omega) i
    unfold tp_mb
    by_cases e : c - 1 - n = i
    · have h1 : c - (n + 1) ≤ i := by omega
      have h2 : ¬ c - n ≤ i := by omega
      have h3 : i < c := by omega
      rw [e]
      by_cases h : f i = true
      · rw [if_pos h, tp_or, ih, tp_gb (by omega)]; simp [h, h1, h3]
      · rw [if_neg h, ih]; simp [ts_nt h]
    · have : (decide (c - (n + 1) ≤ i)) = decide (c - n ≤ i) := by apply decide_eq_decide.mpr; omega
      rw [this, ← ih]
      by_cases h : f (c - 1 - n) = true
      · rw [if_pos h, tp_or, tp_gb (by omega)]; simp [e]
      · rw [if_neg h]
theorem tp_mb_mk (f : Nat → Bool) {c : Nat} (hc : c ≤ 64) : tp_mb f c c = tp_mk f c := by
  apply tp_ext
  intro i _
  rw [tp_gmb f c hc c (Nat.le_refl _) i, tp_gmk f c hc i]
  simp
theorem tp_mk_eq {f h : Nat → Bool} {c d : Nat} (hc : c ≤ 64) (hd : d ≤ 64) (e : ∀ i, i < 64 → (decide (i < c) && f i) = (decide (i < d) && h i)) : tp_mk f c = tp_mk h d := by
  apply tp_ext
  intro i hi
  rw [tp_gmk f c hc i, tp_gmk h d hd i, e i hi]
theorem tp_mk_congr {f h : Nat → Bool} {c : Nat} (hc : c ≤ 64) (e : ∀ i, i < c → f i = h i) : tp_mk f c = tp_mk h c := by
  apply tp_mk_eq hc hc
  intro i _
  by_cases z : i < c
  · rw [e i z]
  · simp [z]
-- how many below n
def tp_c (f : Nat → Bool) : Nat → Nat
  | 0 => 0
  | n + 1 => if f n = true then tp_c f n + 1 else tp_c f n
theorem tp_ct {f : Nat → Bool} {n : Nat} (h : f n = true) : tp_c f (n + 1) = tp_c f n + 1 := if_pos h
theorem tp_cf {f : Nat → Bool} {n : Nat} (h : f n = false) : tp_c f (n + 1) = tp_c f n := if_neg (by rw [h]; decide)
theorem tp_c1 (f : Nat → Bool) (n : Nat) : tp_c f n ≤ tp_c f (n + 1) ∧ tp_c f (n + 1) ≤ tp_c f n + 1 := by
  by_cases h : f n = true
  · rw [tp_ct h]; omega
  · rw [tp_cf (ts_nt h)]; omega
theorem tp_c_le (f : Nat → Bool) : ∀ n, tp_c f n ≤ n
  | 0 => Nat.le_refl _
  | n + 1 => by have := tp_c_le f n; have := tp_c1 f n; omega
theorem tp_c_add (f : Nat → Bool) (a : Nat) : ∀ d, tp_c f a ≤ tp_c f (a + d)
  | 0 => Nat.le_refl _
  | d + 1 => Nat.le_trans (tp_c_add f a d) (tp_c1 f (a + d)).1
theorem tp_c_mono (f : Nat → Bool) {a b : Nat} (h : a ≤ b) : tp_c f a ≤ tp_c f b := by
  have := tp_c_add f a (b - a)
  rwa [show a + (b - a) = b by omega] at this
theorem tp_c_str {f : Nat → Bool} {a b : Nat} (h : a < b) (z : f a = true) : tp_c f a + 1 ≤ tp_c f b := by
  rw [← tp_ct z]; exact tp_c_mono f h
theorem tp_c_inj {f : Nat → Bool} {a b : Nat} (ha : f a = true) (hb : f b = true) (e : tp_c f a = tp_c f b) : a = b := by
  rcases Nat.lt_trichotomy a b with h | h | h
  · have := tp_c_str h ha; omega
  · exact h
  · have := tp_c_str h hb; omega
theorem tp_c_congr {f h : Nat → Bool} : ∀ c, (∀ i, i < c → f i = h i) → tp_c f c = tp_c h c
  | 0, _ => rfl
  | c + 1, e => by
    have ih := tp_c_congr (f := f) (h := h) c (fun i z => e i (by omega))
    unfold tp_c
    rw [e c (by omega), ih]
-- is there one below n
def tp_any (f : Nat → Bool) : Nat → Bool
  | 0 => false
  | n + 1 => tp_any f n || f n
theorem tp_any_iff (f : Nat → Bool) : ∀ n, tp_any f n = true ↔ ∃ i, i < n ∧ f i = true
  | 0 => ⟨fun h => (nomatch h), fun ⟨i, h, _⟩ => absurd h (Nat.not_lt_zero i)⟩
  | n + 1 => by
    unfold tp_any
    rw [Bool.or_eq_true, tp_any_iff f n]
    constructor
    · rintro (⟨i, h, z⟩ | z)
      · exact ⟨i, by omega, z⟩
      · exact ⟨n, by omega, z⟩
    · rintro ⟨i, h, z⟩
      by_cases e : i = n
      · subst e; exact Or.inr z
      · exact Or.inl ⟨i, by omega, z⟩
theorem tp_mk_0 (f : Nat → Bool) {n : Nat} (hn : n ≤ 64) : tp_mk f n = 0 ↔ tp_any f n = false := by
  constructor
  · intro h
    apply ts_nt
    intro z
    obtain ⟨i, hi, y⟩ := (tp_any_iff f n).mp z
    have e := tp_gmk f n hn i
    rw [h, tp_0, y] at e
    simp [hi] at e
  · intro h
    apply tp_ext
    intro i _
    rw [tp_gmk f n hn i, tp_0]
    by_cases hi : i < n
    · have : ¬ f i = true := fun y => by
        have := (tp_any_iff f n).mpr ⟨i, hi, y⟩
        rw [h] at this; cases this
      rw [ts_nt this]; simp
    · simp [hi]
theorem tp_mk_and (f h : Nat → Bool) {n : Nat} (hn : n ≤ 64) : tp_mk f n &&& tp_mk h n = tp_mk (fun i => f i && h i) n := by
  apply tp_ext
  intro i _
  rw [tp_and, tp_gmk f n hn, tp_gmk h n hn, tp_gmk _ n hn]
  cases decide (i < n) <;> simp
theorem tp_mk_self (x : Int64) {c : Nat} (hc : c ≤ 64) (h : ∀ i, c ≤ i → tp_g x i = false) : tp_mk (tp_g x) c = x := by
  apply tp_ext
  intro i _
  rw [tp_gmk _ c hc]
  by_cases z : i < c
  · simp [z]
  · rw [h i (by omega)]; simp
end
section
-- below, in a tree whose parents have lesser numbers
def tp_z (b : Bool) : Int32 := cond b 1 0
theorem tp_zt {A B : Prop} {b : Bool} (f : b = false → A) (g : b = true → B) : (tp_z b = 0 → A) ∧ (¬ tp_z b = 0 → B) := by
  cases b
  · exact ⟨fun _ => f rfl, fun h => absurd rfl h⟩
  · exact ⟨fun h => absurd h (by decide), fun _ => g rfl⟩
theorem tp_zn (b : Bool) : narrow .boolean (.int (tp_z b)) = .int (tp_z b) := by cases b <;> rfl
def tp_bl (P : Nat → Nat) (a : Nat) : Nat → Nat → Bool
  | 0, _ => false
  | f + 1, n => decide (a < n) && (decide (P n = a) || tp_bl P a f (P n))
def tp_B (P : Nat → Nat) (a n : Nat) : Bool := tp_bl P a n n
theorem tp_bl_st {P : Nat → Nat} (hf : ∀ j, 0 < j → P j < j) (a : Nat) : ∀ f n, n ≤ f → ∀ f', n ≤ f' → tp_bl P a f n = tp_bl P a f' n := by
  intro f
  induction f with
  | zero =>
    intro n hn f' hf'
    have : n = 0 := by omega
    subst this
    cases f' with
    | zero => rfl
    | succ f' => unfold tp_bl; simp
  | succ f ih =>
    intro n hn f' hf'
    cases f' with
    | zero =>
      have : n = 0 := by omega
      subst this
      unfold tp_bl; simp
    | succ f' =>
      unfold tp_bl
      by_cases h : a < n
      · have := hf n (by omega)
        rw [ih (P n) (by omega) f' (by omega)]
      · simp [h]
theorem tp_B_eq {P : Nat → Nat} (hf : ∀ j, 0 < j → P j < j) (a n : Nat) : tp_B P a n = (decide (a < n) && (decide (P n = a) || tp_B P a (P n))) := by
  unfold tp_B
  by_cases h : a < n
  · rw [tp_bl_st hf a n n (Nat.le_refl _) (n + 1) (by omega)]
    have := hf n (by omega)
    rw [tp_bl_st hf a (P n) (P n) (Nat.le_refl _) n (by omega)]
    rfl
  · cases n with
    | zero => unfold tp_bl; simp
    | succ n => unfold tp_bl; simp [h]
theorem tp_B_no {P : Nat → Nat} (hf : ∀ j, 0 < j → P j < j) {a n : Nat} (h : n ≤ a) : tp_B P a n = false := by
  rw [tp_B_eq hf]; simp [show ¬ a < n by omega]
theorem tp_B_lt {P : Nat → Nat} (hf : ∀ j, 0 < j → P j < j) {a n : Nat} (h : tp_B P a n = true) : a < n := by
  rcases Nat.lt_or_ge a n with z | z
  · exact z
  · rw [tp_B_no hf z] at h; cases h
theorem tp_B_up {P : Nat → Nat} (hf : ∀ j, 0 < j → P j < j) {a n : Nat} (h0 : 0 < n) (h : P n = a ∨ tp_B P a (P n) = true) : tp_B P a n = true := by
  have hp := hf n h0
  rw [tp_B_eq hf]
  rcases h with h | h
  · simp [h, show a < n by omega]
  · have := tp_B_lt hf h
    simp [h, show a < n by omega]
-- a itself, or below
def tp_R (P : Nat → Nat) (a n : Nat) : Bool := decide (n = a) || tp_B P a n
theorem tp_R_step {P : Nat → Nat} (hf : ∀ j, 0 < j → P j < j) {a n : Nat} (h0 : 0 < n) (h : n ≠ a) : tp_R P a n = tp_R P a (P n) := by
  have hp := hf n h0
  unfold tp_R
  rw [tp_B_eq hf a n]
  rcases Nat.lt_or_ge a n with z | z
  · simp [z, h]
  · rw [tp_B_no hf (show P n ≤ a by omega)]
    simp [h, show ¬ a < n by omega, show ¬ P n = a by omega]
theorem tp_R_B {P : Nat → Nat} (hf : ∀ j, 0 < j → P j < j) {a n : Nat} (h0 : 0 < n) : tp_B P a n = tp_R P a (P n) := by
  by_cases e : n = a
  · have hp := hf n h0
    rw [tp_B_no hf (by omega)]
    unfold tp_R
    rw [tp_B_no hf (by omega)]
    simp [show ¬ P n = a by omega]
  · rw [← tp_R_step hf h0 e]
    unfold tp_R
    simp [e]
-- the tree: c nodes, the parent of node c (the next one) is the open element
def tp_T (c o : Nat) (P K : Nat → Nat) : Prop :=
  1 ≤ c ∧ c ≤ 48 ∧ (∀ j, 0 < j → P j < j) ∧ P c = o ∧ (∀ i j, 0 < i → i < j → j ≤ c → P j < i → P j ≤ P i) ∧ (∀ j, j < c → K j ≤ 8)
def tp_AP (c : Nat) (P : Nat → Nat) (pa : Nat → Int32) : Prop := pa 0 = -1 ∧ ∀ j, 0 < j → j < c → pa j = nI (P j)
def tp_AX (c : Nat) (P K : Nat → Nat) (V : Nat → Int32) (pa ka va : Nat → Int32) : Prop :=
  tp_AP c P pa ∧ (∀ j, j < c → ka j = nI (K j)) ∧ (∀ j, j < c → K j = 8 → va j = V j)
def tp_AY (c : Nat) (P K : Nat → Nat) (V : Nat → Int32) (pa te wo : Nat → Int32) : Prop :=
  tp_AP c P pa ∧ (∀ j, j < c → te j = tp_z (decide (K j = 8))) ∧ (∀ j, j < c → K j = 8 → wo j = V j) ∧ (∀ j, j < c → K j ≠ 8 → wo j = nI (K j))
section
variable {c o : Nat} {P K : Nat → Nat} {V : Nat → Int32}
variable {fc fo : Int32} {fs f0 f1 : Int64} {pa ka va : Nat → Int32}
theorem tp_x30 (hT : tp_T c o P K) {post : Int32 → Prop} {l a t : Nat} (hl : l < 48) (ha : a < 48) (ht : t ≤ a) (h : post (tp_z (tp_R P a t && decide (l ≠ a)))) :
    wX_isBelow_30 post (nI l) (nI a) (nI t) fc fo fs f0 f1 pa ka va := by
  have hf := hT.2.2.1
  unfold tp_R at h
  rw [tp_B_no hf ht] at h
  refine pk_eq t a (fun e => pk_eq l a (fun e2 => ?_) (fun e2 => ?_)) (fun e => ?_)
  · simpa [e, e2, tp_z] using h
  · simpa [e, e2, tp_z] using h
  · simpa [e, tp_z] using h
theorem tp_x5 (hT : tp_T c o P K) (hA : tp_AP c P pa) {post : Int32 → Prop} {l a : Nat} (hl : l < 48) (ha : a < 48) : ∀ n t s : Nat, t < n → t < c → t + s ≤ 47 → post (tp_z (tp_R P a t && decide (l ≠ a))) →
    wX_isBelow_5 post (nI l) (nI a) fc fo fs f0 f1 pa ka va n (nI t) (nI s) := by
  have hf := hT.2.2.1
  have hc := hT.2.1
  intro n
  induction n with
  | zero => intro t s h; omega
  | succ n ih =>
    intro t s h1 h2 h3 h
    refine pk_le 48 s (fun z => absurd z (by omega)) (fun _ => pk_le t a (fun z => tp_x30 hT hl ha z h) (fun z => ⟨vp_in_nI (by omega) (by omega), ?_⟩))
    have hp := hf t (by omega)
    refine nm_r (e' := nI (P t)) ?_ (nm_r (nI_1 s) (ih (P t) (s + 1) (by omega) (by omega) (by omega) ?_))
    · rw [nI_clamp (by omega)]; exact hA.2 t (by omega) h2
    · rw [← tp_R_step hf (by omega) (by omega)]; exact h
theorem tp_xB (hT : tp_T c o P K) (hA : tp_AP c P pa) {post : Int32 → Prop} {l a : Nat} (hl : l < c) (ha : a < c) (h : post (tp_z (tp_B P a l))) :
    wpX_isBelow post (fc, fo, fs, f0, f1, pa, ka, va) (nI l) (nI a) := by
  have hf := hT.2.2.1
  have hc := hT.2.1
  refine ⟨l + 1, tp_x5 hT hA (by omega) (by omega) (l + 1) l 0 (by omega) hl (by omega) ?_⟩
  have e : (tp_R P a l && decide (l ≠ a)) = tp_B P a l := by
    unfold tp_R
    by_cases z : l = a
    · rw [tp_B_no hf (by omega)]; simp [z]
    · simp [z]
  rw [e]; exact h
end
section
variable {c o : Nat} {P K : Nat → Nat} {V : Nat → Int32}
variable {fc fo : Int32} {fs : Int64} {pa te wo : Nat → Int32} {kp : Nat → Int64}
theorem tp_m1ne {a : Nat} (ha : a < 48) : ¬ (-1 : Int32) = nI a := by
  intro h
  have e := congrArg Int32.toInt h
  rw [nI_toInt (by omega), show (-1 : Int32).toInt = -1 by decide] at e
  omega
theorem tp_y26 {post : Int32 → Prop} {a : Nat} (ha : a < 48) (h : post 0) : wY_above_26 post (nI a) (-1) fc fo fs pa te wo kp :=
  br_f (tp_m1ne ha) h
theorem tp_y7 (hT : tp_T c o P K) (hA : tp_AP c P pa) {post : Int32 → Prop} {a : Nat} (ha : a < 48) : ∀ n t : Nat, t + 1 < n → t < c → post (tp_z (tp_R P a t)) →
    wY_above_7 post (nI a) fc fo fs pa te wo kp n (nI t) := by
  have hf := hT.2.2.1
  have hc := hT.2.1
  intro n
  induction n with
  | zero => intro t h; omega
  | succ n ih =>
    intro t h1 h2 h
    refine br_f (nI_pos (by omega)) (pk_eq t a (fun e => br_t (by rw [e]) ?_) (fun e => ⟨vp_in_nI (by omega) (by omega), ?_⟩))
    · have : tp_R P a t = true := by unfold tp_R; simp [e]
      rw [this] at h; exact h
    · by_cases h0 : t = 0
      · have e0 : pa (nI t).toNatClampNeg = -1 := by rw [nI_clamp (by omega), h0]; exact hA.1
        refine nm_r e0 ?_
        have : tp_R P a t = false := by
          unfold tp_R; rw [tp_B_no hf (by omega)]; simp [e]
        rw [this] at h
        obtain ⟨m, rfl⟩ : ∃ m, n = m + 1 := ⟨n - 1, by omega⟩
        exact br_t (by decide) (tp_y26 ha h)
      · have hp := hf t (by omega)
        refine nm_r (e' := nI (P t)) ?_ (ih (P t) (by omega) (by omega) ?_)
        · rw [nI_clamp (by omega)]; exact hA.2 t (by omega) h2
        · rw [← tp_R_step hf (by omega) e]; exact h
theorem tp_yB (hT : tp_T c o P K) (hA : tp_AP c P pa) {post : Int32 → Prop} {a n : Nat} (ha : a < c) (hn : n < c) (h : post (tp_z (tp_B P a n))) :
    wpY_above post (fc, fo, fs, pa, te, wo, kp) (nI a) (nI n) := by
  have hf := hT.2.2.1
  have hc := hT.2.1
  refine ⟨vp_in_nI (by omega) (by omega), ?_⟩
  by_cases h0 : n = 0
  · have e0 : pa (nI n).toNatClampNeg = -1 := by rw [nI_clamp (by omega), h0]; exact hA.1
    refine nm_r e0 ⟨1, br_t (by decide) (tp_y26 (by omega) ?_)⟩
    rw [tp_B_no hf (by omega)] at h; exact h
  · have hp := hf n (by omega)
    refine nm_r (e' := nI (P n)) ?_ ⟨P n + 2, tp_y7 hT hA (by omega) (P n + 2) (P n) (by omega) (by omega) ?_⟩
    · rw [nI_clamp (by omega)]; exact hA.2 n (by omega) hn
    · rw [← tp_R_B hf (by omega)]; exact h
end
end
section
-- where an axis leads, what a test lets through
def tp_L (P : Nat → Nat) (x n m : Nat) : Bool := match x with
  | 0 => decide (m = n)
  | 1 => decide (0 < m) && decide (P m = n)
  | 2 => decide (0 < n) && decide (P n = m)
  | 3 => tp_B P n m
  | 4 => tp_B P m n
  | 5 => decide (n < m) && (decide (0 < m) && (decide (0 < n) && decide (P m = P n)))
  | 6 => decide (m < n) && (decide (0 < m) && (decide (0 < n) && decide (P m = P n)))
  | 7 => decide (n < m) && !tp_B P n m
  | 8 => decide (m < n) && !tp_B P m n
  | 9 => decide (m = n) || tp_B P n m
  | _ => decide (m = n) || tp_B P m n
def tp_S (K : Nat → Nat) (t m : Nat) : Bool := if t = 10 then true else if t = 9 then !decide (K m = 8) else decide (K m = t)
theorem tp_if {C : Prop} {post : Int32 → Prop} {b : Bool} (e : C ↔ b = true) (h : post (tp_z b)) : (C → post 1) ∧ (¬ C → post 0) := by
  cases b
  · exact ⟨fun z => absurd (e.mp z) (by decide), fun _ => h⟩
  · exact ⟨fun _ => h, fun z => absurd (e.mpr rfl) z⟩
theorem tp_ifn {C : Prop} {post : Int32 → Prop} {b : Bool} (e : C ↔ b = true) (h : post (tp_z (!b))) : (C → post 0) ∧ (¬ C → post 1) := by
  cases b
  · exact ⟨fun z => absurd (e.mp z) (by decide), fun _ => h⟩
  · exact ⟨fun _ => h, fun z => absurd (e.mpr rfl) z⟩
theorem tp_dq {a b : Nat} (ha : a < 2 ^ 31) (hb : b < 2 ^ 31) : nI a = nI b ↔ decide (a = b) = true := by
  rw [nI_eq ha hb]; simp
theorem tp_pe {c o : Nat} {P K : Nat → Nat} {pa : Nat → Int32} (hT : tp_T c o P K) (hA : tp_AP c P pa) {m n : Nat} (hm : m < c) (hn : n < c) : pa (nI m).toNatClampNeg = nI n ↔ (decide (0 < m) && decide (P m = n)) = true := by
  have hc := hT.2.1
  rw [nI_clamp (by omega)]
  by_cases h0 : m = 0
  · subst h0
    rw [hA.1]
    simp [tp_m1ne (show n < 48 by omega)]
  · have hp := hT.2.2.1 m (by omega)
    rw [hA.2 m (by omega) hm, nI_eq (by omega) (by omega)]
    simp [show 0 < m by omega]
theorem tp_pe2 {c o : Nat} {P K : Nat → Nat} {pa : Nat → Int32} (hT : tp_T c o P K) (hA : tp_AP c P pa) {m n : Nat} (hm : m < c) (hn : n < c) (hd : m ≠ n) : pa (nI m).toNatClampNeg = pa (nI n).toNatClampNeg ↔ (decide (0 < m) && (decide (0 < n) && decide (P m = P n))) = true := by
  have hc := hT.2.1
  by_cases h0 : n = 0
  · have hp := hT.2.2.1 m (by omega)
    rw [nI_clamp (show n < 2 ^ 31 by omega), nI_clamp (show m < 2 ^ 31 by omega), h0, hA.1, hA.2 m (by omega) hm]
    simp
    exact fun e => tp_m1ne (show P m < 48 by omega) e.symm
  · have hp := hT.2.2.1 n (by omega)
    rw [show pa (nI n).toNatClampNeg = nI (P n) by rw [nI_clamp (by omega)]; exact hA.2 n (by omega) hn, tp_pe hT hA hm (show P n < c by omega)]
    simp [show 0 < n by omega]
theorem tp_ax {x : Nat} (h : x ≤ 10) : x = 0 ∨ x = 1 ∨ x = 2 ∨ x = 3 ∨ x = 4 ∨ x = 5 ∨ x = 6 ∨ x = 7 ∨ x = 8 ∨ x = 9 ∨ x = 10 := by omega
section
variable {c o : Nat} {P K : Nat → Nat} {V : Nat → Int32}
variable {fc fo : Int32} {fs f0 f1 : Int64} {pa ka va : Nat → Int32}
theorem tp_xL0 (hT : tp_T c o P K) (hA : tp_AP c P pa) {post : Int32 → Prop} {n m : Nat} (hn : n < c) (hm : m < c) (h : post (tp_z (tp_L P 0 n m))) :
    wpX_leads post (fc, fo, fs, f0, f1, pa, ka, va) (nI 0) (nI n) (nI m) := by
  have hc := hT.2.1
  exact br_f (by decide) (br_f (by decide) (br_t rfl (tp_if (tp_dq (by omega) (by omega)) h)))
theorem tp_xL1 (hT : tp_T c o P K) (hA : tp_AP c P pa) {post : Int32 → Prop} {n m : Nat} (hn : n < c) (hm : m < c) (h : post (tp_z (tp_L P 1 n m))) :
    wpX_leads post (fc, fo, fs, f0, f1, pa, ka, va) (nI 1) (nI n) (nI m) := by
  have hc := hT.2.1
  exact br_f (by decide) (br_f (by decide) (br_f (by decide) (br_t rfl (⟨vp_in_nI (by omega) (by omega), tp_if (tp_pe hT hA hm hn) h⟩))))
theorem tp_xL2 (hT : tp_T c o P K) (hA : tp_AP c P pa) {post : Int32 → Prop} {n m : Nat} (hn : n < c) (hm : m < c) (h : post (tp_z (tp_L P 2 n m))) :
    wpX_leads post (fc, fo, fs, f0, f1, pa, ka, va) (nI 2) (nI n) (nI m) := by
  have hc := hT.2.1
  exact br_f (by decide) (br_f (by decide) (br_f (by decide) (br_f (by decide) (br_t rfl (⟨vp_in_nI (by omega) (by omega), tp_if (tp_pe hT hA hn hm) h⟩)))))
theorem tp_xL3 (hT : tp_T c o P K) (hA : tp_AP c P pa) {post : Int32 → Prop} {n m : Nat} (hn : n < c) (hm : m < c) (h : post (tp_z (tp_L P 3 n m))) :
    wpX_leads post (fc, fo, fs, f0, f1, pa, ka, va) (nI 3) (nI n) (nI m) := by
  have hc := hT.2.1
  exact br_f (by decide) (br_f (by decide) (br_f (by decide) (br_f (by decide) (br_f (by decide) (br_t rfl (tp_xB hT hA hm hn ⟨tp_zn _, h⟩))))))
theorem tp_xL4 (hT : tp_T c o P K) (hA : tp_AP c P pa) {post : Int32 → Prop} {n m : Nat} (hn : n < c) (hm : m < c) (h : post (tp_z (tp_L P 4 n m))) :
    wpX_leads post (fc, fo, fs, f0, f1, pa, ka, va) (nI 4) (nI n) (nI m) := by
  have hc := hT.2.1
  exact br_f (by decide) (br_f (by decide) (br_f (by decide) (br_f (by decide) (br_f (by decide) (br_f (by decide) (br_t rfl (tp_xB hT hA hn hm ⟨tp_zn _, h⟩)))))))
theorem tp_xL5 (hT : tp_T c o P K) (hA : tp_AP c P pa) {post : Int32 → Prop} {n m : Nat} (hn : n < c) (hm : m < c) (h : post (tp_z (tp_L P 5 n m))) :
    wpX_leads post (fc, fo, fs, f0, f1, pa, ka, va) (nI 5) (nI n) (nI m) := by
  have hc := hT.2.1
  exact br_f (by decide) (br_f (by decide) (br_f (by decide) (br_f (by decide) (br_f (by decide) (br_f (by decide) (br_f (by decide) (br_t rfl (pk_le m n (fun z => by rw [show tp_L P 5 n m = false by simp [tp_L, show ¬ n < m by omega]] at h; exact h) (fun z => ⟨vp_in_nI (by omega) (by omega), vp_in_nI (by omega) (by omega), tp_if (tp_pe2 hT hA hm hn (by omega)) (by rw [show tp_L P 5 n m = (decide (0 < m) && (decide (0 < n) && decide (P m = P n))) by simp [tp_L, z]] at h; exact h)⟩)))))))))
theorem tp_xL6 (hT : tp_T c o P K) (hA : tp_AP c P pa) {post : Int32 → Prop} {n m : Nat} (hn : n < c) (hm : m < c) (h : post (tp_z (tp_L P 6 n m))) :
    wpX_leads post (fc, fo, fs, f0, f1, pa, ka, va) (nI 6) (nI n) (nI m) := by
  have hc := hT.2.1
  exact br_f (by decide) (br_f (by decide) (br_f (by decide) (br_f (by decide) (br_f (by decide) (br_f (by decide) (br_f (by decide) (br_f (by decide) (br_t rfl (pk_le n m (fun z => by rw [show tp_L P 6 n m = false by simp [tp_L, show ¬ m < n by omega]] at h; exact h) (fun z => ⟨vp_in_nI (by omega) (by omega), vp_in_nI (by omega) (by omega), tp_if (tp_pe2 hT hA hm hn (by omega)) (by rw [show tp_L P 6 n m = (decide (0 < m) && (decide (0 < n) && decide (P m = P n))) by simp [tp_L, z]] at h; exact h)⟩))))))))))
theorem tp_xL7 (hT : tp_T c o P K) (hA : tp_AP c P pa) {post : Int32 → Prop} {n m : Nat} (hn : n < c) (hm : m < c) (h : post (tp_z (tp_L P 7 n m))) :
    wpX_leads post (fc, fo, fs, f0, f1, pa, ka, va) (nI 7) (nI n) (nI m) := by
  have hc := hT.2.1
  exact br_f (by decide) (br_f (by decide) (br_f (by decide) (br_f (by decide) (br_f (by decide) (br_f (by decide) (br_f (by decide) (br_f (by decide) (br_f (by decide) (br_t rfl (pk_le m n (fun z => by rw [show tp_L P 7 n m = false by simp [tp_L, show ¬ n < m by omega]] at h; exact h) (fun z => tp_xB hT hA hm hn (tp_zt (fun e => by rw [show tp_L P 7 n m = true by simp [tp_L, z, e]] at h; exact h) (fun e => by rw [show tp_L P 7 n m = false by simp [tp_L, e]] at h; exact h)))))))))))))
theorem tp_xL8 (hT : tp_T c o P K) (hA : tp_AP c P pa) {post : Int32 → Prop} {n m : Nat} (hn : n < c) (hm : m < c) (h : post (tp_z (tp_L P 8 n m))) :
    wpX_leads post (fc, fo, fs, f0, f1, pa, ka, va) (nI 8) (nI n) (nI m) := by
  have hc := hT.2.1
  exact br_f (by decide) (br_f (by decide) (br_f (by decide) (br_f (by decide) (br_f (by decide) (br_f (by decide) (br_f (by decide) (br_f (by decide) (br_f (by decide) (br_f (by decide) (br_t rfl (pk_le n m (fun z => by rw [show tp_L P 8 n m = false by simp [tp_L, show ¬ m < n by omega]] at h; exact h) (fun z => tp_xB hT hA hn hm (tp_zt (fun e => by rw [show tp_L P 8 n m = true by simp [tp_L, z, e]] at h; exact h) (fun e => by rw [show tp_L P 8 n m = false by simp [tp_L, e]] at h; exact h))))))))))))))
theorem tp_xL9 (hT : tp_T c o P K) (hA : tp_AP c P pa) {post : Int32 → Prop} {n m : Nat} (hn : n < c) (hm : m < c) (h : post (tp_z (tp_L P 9 n m))) :
    wpX_leads post (fc, fo, fs, f0, f1, pa, ka, va) (nI 9) (nI n) (nI m) := by
  have hc := hT.2.1
  exact br_f (by decide) (br_f (by decide) (br_f (by decide) (br_f (by decide) (br_f (by decide) (br_f (by decide) (br_f (by decide) (br_f (by decide) (br_f (by decide) (br_f (by decide) (br_f (by decide) (br_t rfl (pk_eq m n (fun z => by rw [show tp_L P 9 n m = true by simp [tp_L, z]] at h; exact h) (fun z => tp_xB hT hA hm hn (tp_zt (fun e => by rw [show tp_L P 9 n m = false by simp [tp_L, z, e]] at h; exact h) (fun e => by rw [show tp_L P 9 n m = true by simp [tp_L, e]] at h; exact h)))))))))))))))
theorem tp_xL10 (hT : tp_T c o P K) (hA : tp_AP c P pa) {post : Int32 → Prop} {n m : Nat} (hn : n < c) (hm : m < c) (h : post (tp_z (tp_L P 10 n m))) :
    wpX_leads post (fc, fo, fs, f0, f1, pa, ka, va) (nI 10) (nI n) (nI m) := by
  have hc := hT.2.1
  exact br_f (by decide) (br_f (by decide) (br_f (by decide) (br_f (by decide) (br_f (by decide) (br_f (by decide) (br_f (by decide) (br_f (by decide) (br_f (by decide) (br_f (by decide) (br_f (by decide) (br_f (by decide) (br_t rfl (pk_eq m n (fun z => by rw [show tp_L P 10 n m = true by simp [tp_L, z]] at h; exact h) (fun z => tp_xB hT hA hn hm (tp_zt (fun e => by rw [show tp_L P 10 n m = false by simp [tp_L, z, e]] at h; exact h) (fun e => by rw [show tp_L P 10 n m = true by simp [tp_L, e]] at h; exact h))))))))))))))))
theorem tp_xL (hT : tp_T c o P K) (hA : tp_AP c P pa) {post : Int32 → Prop} {x n m : Nat} (hx : x ≤ 10) (hn : n < c) (hm : m < c) (h : post (tp_z (tp_L P x n m))) :
    wpX_leads post (fc, fo, fs, f0, f1, pa, ka, va) (nI x) (nI n) (nI m) := by
  rcases tp_ax hx with e | e | e | e | e | e | e | e | e | e | e <;> subst e
  · exact tp_xL0 hT hA hn hm h
  · exact tp_xL1 hT hA hn hm h
  · exact tp_xL2 hT hA hn hm h
  · exact tp_xL3 hT hA hn hm h
  · exact tp_xL4 hT hA hn hm h
  · exact tp_xL5 hT hA hn hm h
  · exact tp_xL6 hT hA hn hm h
  · exact tp_xL7 hT hA hn hm h
  · exact tp_xL8 hT hA hn hm h
  · exact tp_xL9 hT hA hn hm h
  · exact tp_xL10 hT hA hn hm h
theorem tp_xS (hT : tp_T c o P K) (hA : tp_AX c P K V pa ka va) {post : Int32 → Prop} {t m : Nat} (ht : t ≤ 10) (hm : m < c) (h : post (tp_z (tp_S K t m))) :
    wpX_passes post (fc, fo, fs, f0, f1, pa, ka, va) (nI m) (nI t) := by
  have hc := hT.2.1
  have hk := hT.2.2.2.2.2 m hm
  have ek : ka (nI m).toNatClampNeg = nI (K m) := by rw [nI_clamp (by omega)]; exact hA.2.1 m hm
  refine pk_eq t 10 (fun e => ?_) (fun e => pk_eq t 9 (fun e9 => ⟨vp_in_nI (by omega) (by omega), ?_⟩) (fun e9 => ⟨vp_in_nI (by omega) (by omega), ?_⟩))
  · subst e; exact h
  · subst e9
    rw [ek]
    exact tp_ifn (tp_dq (b := 8) (by omega) (by omega)) h
  · rw [ek]
    refine tp_if (tp_dq (by omega) (by omega)) ?_
    rw [show tp_S K t m = decide (K m = t) by simp [tp_S, e, e9]] at h
    exact h
theorem tp_xRl (hT : tp_T c o P K) (hA : tp_AX c P K V pa ka va) {post : Int64 → Prop} {x t n : Nat} (hx : x ≤ 10) (ht : t ≤ 10) (hn : n < c) (h : post (tp_mk (fun m => tp_L P x n m && tp_S K t m) c)) : ∀ f i s, c - i < f → i ≤ c → s = tp_mk (fun m => tp_L P x n m && tp_S K t m) i →
    wX_reachedFrom_6 post (nI n) (nI x) (nI t) (nI c) fo fs f0 f1 pa ka va f s (nI i) := by
  have hc := hT.2.1
  intro f
  induction f with
  | zero => intro i s h1; omega
  | succ f ih =>
    intro i s h1 h2 hs
    refine pk_le c i (fun z => ?_) (fun z => tp_xS hT hA ht z (tp_zt (fun e => nm_r (nI_1 i) (ih _ _ (by omega) (by omega) ?_)) (fun e => tp_xL hT hA.1 hx hn z (tp_zt (fun e2 => nm_r (nI_1 i) (ih _ _ (by omega) (by omega) ?_)) (fun e2 => nm_e (nm_r (nI_1 i) (ih _ _ (by omega) (by omega) ?_)))))))
    · have : i = c := by omega
      subst this hs; exact h
    · rw [hs, tp_mk, if_neg (by simp [e])]
    · rw [hs, tp_mk, if_neg (by simp [e2])]
    · rw [hs, tp_mk, if_pos (by simp [e, e2])]; rfl
theorem tp_xR (hT : tp_T c o P K) (hA : tp_AX c P K V pa ka va) {post : Int64 → Prop} {x t n : Nat} (hx : x ≤ 10) (ht : t ≤ 10) (hn : n < c) (h : post (tp_mk (fun m => tp_L P x n m && tp_S K t m) c)) :
    wpX_reachedFrom post (nI c, fo, fs, f0, f1, pa, ka, va) (nI n) (nI x) (nI t) :=
  ⟨c + 1, tp_xRl hT hA hx ht hn h (c + 1) 0 0 (by omega) (by omega) rfl⟩
end
section
variable {c o : Nat} {P K : Nat → Nat} {V : Nat → Int32}
variable {fc fo : Int32} {fs : Int64} {pa te wo : Nat → Int32} {kp : Nat → Int64}
theorem tp_yL0 (hT : tp_T c o P K) (hA : tp_AP c P pa) {post : Int32 → Prop} {n m : Nat} {b : Bool} (hn : n < c) (hm : m < c) (hb : b = (decide (0 < m) && (decide (0 < n) && decide (P m = P n)))) (h : post (tp_z (tp_L P 0 n m))) :
    wY_leads_29 post (nI 0) (nI n) (nI m) (tp_z b) fc fo fs pa te wo kp := by
  have hc := hT.2.1
  exact br_t rfl (tp_if (tp_dq (by omega) (by omega)) h)
theorem tp_yL1 (hT : tp_T c o P K) (hA : tp_AP c P pa) {post : Int32 → Prop} {n m : Nat} {b : Bool} (hn : n < c) (hm : m < c) (hb : b = (decide (0 < m) && (decide (0 < n) && decide (P m = P n)))) (h : post (tp_z (tp_L P 1 n m))) :
    wY_leads_29 post (nI 1) (nI n) (nI m) (tp_z b) fc fo fs pa te wo kp := by
  have hc := hT.2.1
  exact br_f (by decide) (br_t rfl (⟨vp_in_nI (by omega) (by omega), tp_if (tp_pe hT hA hm hn) h⟩))
theorem tp_yL2 (hT : tp_T c o P K) (hA : tp_AP c P pa) {post : Int32 → Prop} {n m : Nat} {b : Bool} (hn : n < c) (hm : m < c) (hb : b = (decide (0 < m) && (decide (0 < n) && decide (P m = P n)))) (h : post (tp_z (tp_L P 2 n m))) :
    wY_leads_29 post (nI 2) (nI n) (nI m) (tp_z b) fc fo fs pa te wo kp := by
  have hc := hT.2.1
  exact br_f (by decide) (br_f (by decide) (br_t rfl (⟨vp_in_nI (by omega) (by omega), tp_if (tp_pe hT hA hn hm) h⟩)))
theorem tp_yL3 (hT : tp_T c o P K) (hA : tp_AP c P pa) {post : Int32 → Prop} {n m : Nat} {b : Bool} (hn : n < c) (hm : m < c) (hb : b = (decide (0 < m) && (decide (0 < n) && decide (P m = P n)))) (h : post (tp_z (tp_L P 3 n m))) :
    wY_leads_29 post (nI 3) (nI n) (nI m) (tp_z b) fc fo fs pa te wo kp := by
  have hc := hT.2.1
  exact br_f (by decide) (br_f (by decide) (br_f (by decide) (br_t rfl (tp_yB hT hA hn hm ⟨tp_zn _, h⟩))))
theorem tp_yL4 (hT : tp_T c o P K) (hA : tp_AP c P pa) {post : Int32 → Prop} {n m : Nat} {b : Bool} (hn : n < c) (hm : m < c) (hb : b = (decide (0 < m) && (decide (0 < n) && decide (P m = P n)))) (h : post (tp_z (tp_L P 4 n m))) :
    wY_leads_29 post (nI 4) (nI n) (nI m) (tp_z b) fc fo fs pa te wo kp := by
  have hc := hT.2.1
  exact br_f (by decide) (br_f (by decide) (br_f (by decide) (br_f (by decide) (br_t rfl (tp_yB hT hA hm hn ⟨tp_zn _, h⟩)))))
theorem tp_yL5 (hT : tp_T c o P K) (hA : tp_AP c P pa) {post : Int32 → Prop} {n m : Nat} {b : Bool} (hn : n < c) (hm : m < c) (hb : b = (decide (0 < m) && (decide (0 < n) && decide (P m = P n)))) (h : post (tp_z (tp_L P 5 n m))) :
    wY_leads_29 post (nI 5) (nI n) (nI m) (tp_z b) fc fo fs pa te wo kp := by
  have hc := hT.2.1
  exact br_f (by decide) (br_f (by decide) (br_f (by decide) (br_f (by decide) (br_f (by decide) (br_t rfl (tp_zt (fun e => by rw [show tp_L P 5 n m = false by rw [hb] at e; simp only [tp_L]; rw [e, Bool.and_false]] at h; exact h) (fun e => pk_le m n (fun z => by rw [show tp_L P 5 n m = false by simp [tp_L, show ¬ n < m by omega]] at h; exact h) (fun z => by rw [show tp_L P 5 n m = true by rw [hb] at e; simp only [tp_L]; rw [e]; simp [z]] at h; exact h))))))))
theorem tp_yL6 (hT : tp_T c o P K) (hA : tp_AP c P pa) {post : Int32 → Prop} {n m : Nat} {b : Bool} (hn : n < c) (hm : m < c) (hb : b = (decide (0 < m) && (decide (0 < n) && decide (P m = P n)))) (h : post (tp_z (tp_L P 6 n m))) :
    wY_leads_29 post (nI 6) (nI n) (nI m) (tp_z b) fc fo fs pa te wo kp := by
  have hc := hT.2.1
  exact br_f (by decide) (br_f (by decide) (br_f (by decide) (br_f (by decide) (br_f (by decide) (br_f (by decide) (br_t rfl (tp_zt (fun e => by rw [show tp_L P 6 n m = false by rw [hb] at e; simp only [tp_L]; rw [e, Bool.and_false]] at h; exact h) (fun e => pk_le n m (fun z => by rw [show tp_L P 6 n m = false by simp [tp_L, show ¬ m < n by omega]] at h; exact h) (fun z => by rw [show tp_L P 6 n m = true by rw [hb] at e; simp only [tp_L]; rw [e]; simp [z]] at h; exact h)))))))))
theorem tp_yL7 (hT : tp_T c o P K) (hA : tp_AP c P pa) {post : Int32 → Prop} {n m : Nat} {b : Bool} (hn : n < c) (hm : m < c) (hb : b = (decide (0 < m) && (decide (0 < n) && decide (P m = P n)))) (h : post (tp_z (tp_L P 7 n m))) :
    wY_leads_29 post (nI 7) (nI n) (nI m) (tp_z b) fc fo fs pa te wo kp := by
  have hc := hT.2.1
  exact br_f (by decide) (br_f (by decide) (br_f (by decide) (br_f (by decide) (br_f (by decide) (br_f (by decide) (br_f (by decide) (br_t rfl (pk_le m n (fun z => by rw [show tp_L P 7 n m = false by simp [tp_L, show ¬ n < m by omega]] at h; exact h) (fun z => tp_yB hT hA hn hm (tp_zt (fun e => by rw [show tp_L P 7 n m = true by simp [tp_L, z, e]] at h; exact h) (fun e => by rw [show tp_L P 7 n m = false by simp [tp_L, e]] at h; exact h)))))))))))
theorem tp_yL8 (hT : tp_T c o P K) (hA : tp_AP c P pa) {post : Int32 → Prop} {n m : Nat} {b : Bool} (hn : n < c) (hm : m < c) (hb : b = (decide (0 < m) && (decide (0 < n) && decide (P m = P n)))) (h : post (tp_z (tp_L P 8 n m))) :
    wY_leads_29 post (nI 8) (nI n) (nI m) (tp_z b) fc fo fs pa te wo kp := by
  have hc := hT.2.1
  exact br_f (by decide) (br_f (by decide) (br_f (by decide) (br_f (by decide) (br_f (by decide) (br_f (by decide) (br_f (by decide) (br_f (by decide) (br_t rfl (pk_le n m (fun z => by rw [show tp_L P 8 n m = false by simp [tp_L, show ¬ m < n by omega]] at h; exact h) (fun z => tp_yB hT hA hm hn (tp_zt (fun e => by rw [show tp_L P 8 n m = true by simp [tp_L, z, e]] at h; exact h) (fun e => by rw [show tp_L P 8 n m = false by simp [tp_L, e]] at h; exact h))))))))))))
theorem tp_yL9 (hT : tp_T c o P K) (hA : tp_AP c P pa) {post : Int32 → Prop} {n m : Nat} {b : Bool} (hn : n < c) (hm : m < c) (hb : b = (decide (0 < m) && (decide (0 < n) && decide (P m = P n)))) (h : post (tp_z (tp_L P 9 n m))) :
    wY_leads_29 post (nI 9) (nI n) (nI m) (tp_z b) fc fo fs pa te wo kp := by
  have hc := hT.2.1
  exact br_f (by decide) (br_f (by decide) (br_f (by decide) (br_f (by decide) (br_f (by decide) (br_f (by decide) (br_f (by decide) (br_f (by decide) (br_f (by decide) (br_t rfl (pk_eq m n (fun z => by rw [show tp_L P 9 n m = true by simp [tp_L, z]] at h; exact h) (fun z => tp_yB hT hA hn hm (tp_zt (fun e => by rw [show tp_L P 9 n m = false by simp [tp_L, z, e]] at h; exact h) (fun e => by rw [show tp_L P 9 n m = true by simp [tp_L, e]] at h; exact h)))))))))))))
theorem tp_yL10 (hT : tp_T c o P K) (hA : tp_AP c P pa) {post : Int32 → Prop} {n m : Nat} {b : Bool} (hn : n < c) (hm : m < c) (hb : b = (decide (0 < m) && (decide (0 < n) && decide (P m = P n)))) (h : post (tp_z (tp_L P 10 n m))) :
    wY_leads_29 post (nI 10) (nI n) (nI m) (tp_z b) fc fo fs pa te wo kp := by
  have hc := hT.2.1
  exact br_f (by decide) (br_f (by decide) (br_f (by decide) (br_f (by decide) (br_f (by decide) (br_f (by decide) (br_f (by decide) (br_f (by decide) (br_f (by decide) (br_f (by decide) ((pk_eq m n (fun z => by rw [show tp_L P 10 n m = true by simp [tp_L, z]] at h; exact h) (fun z => tp_yB hT hA hm hn (tp_zt (fun e => by rw [show tp_L P 10 n m = false by simp [tp_L, z, e]] at h; exact h) (fun e => by rw [show tp_L P 10 n m = true by simp [tp_L, e]] at h; exact h))))))))))))))
theorem tp_yL29 (hT : tp_T c o P K) (hA : tp_AP c P pa) {post : Int32 → Prop} {x n m : Nat} {b : Bool} (hx : x ≤ 10) (hn : n < c) (hm : m < c) (hb : b = (decide (0 < m) && (decide (0 < n) && decide (P m = P n)))) (h : post (tp_z (tp_L P x n m))) :
    wY_leads_29 post (nI x) (nI n) (nI m) (tp_z b) fc fo fs pa te wo kp := by
  rcases tp_ax hx with e | e | e | e | e | e | e | e | e | e | e <;> subst e
  · exact tp_yL0 hT hA hn hm hb h
  · exact tp_yL1 hT hA hn hm hb h
  · exact tp_yL2 hT hA hn hm hb h
  · exact tp_yL3 hT hA hn hm hb h
  · exact tp_yL4 hT hA hn hm hb h
  · exact tp_yL5 hT hA hn hm hb h
  · exact tp_yL6 hT hA hn hm hb h
  · exact tp_yL7 hT hA hn hm hb h
  · exact tp_yL8 hT hA hn hm hb h
  · exact tp_yL9 hT hA hn hm hb h
  · exact tp_yL10 hT hA hn hm hb h
theorem tp_yL (hT : tp_T c o P K) (hA : tp_AP c P pa) {post : Int32 → Prop} {x n m : Nat} (hx : x ≤ 10) (hn : n < c) (hm : m < c) (h : post (tp_z (tp_L P x n m))) :
    wpY_leads post (fc, fo, fs, pa, te, wo, kp) (nI x) (nI n) (nI m) := by
  have hc := hT.2.1
  refine ⟨vp_in_nI (by omega) (by omega), ?_⟩
  by_cases h0 : n = 0
  · have e0 : pa (nI n).toNatClampNeg = -1 := by rw [nI_clamp (by omega), h0]; exact hA.1
    rw [e0]
    exact br_t (by decide) (tp_yL29 (b := false) hT hA hx hn hm (by simp [h0]) h)
  · have hp := hT.2.2.1 n (by omega)
    have e0 : pa (nI n).toNatClampNeg = nI (P n) := by rw [nI_clamp (by omega)]; exact hA.2 n (by omega) hn
    rw [e0]
    have q := tp_pe hT hA hm (show P n < c by omega)
    refine br_f (nI_pos (by omega)) ⟨vp_in_nI (by omega) (by omega), vp_in_nI (by omega) (by omega), br_c (fun z => ?_) (fun z => ?_)⟩
    · refine tp_yL29 (b := true) hT hA hx hn hm ?_ h
      have z' := q.mp z.symm
      simp at z'
      simp [z', show 0 < n by omega]
    · refine tp_yL29 (b := false) hT hA hx hn hm ?_ h
      have z' := ts_nt (fun y => z (q.mpr y).symm)
      symm
      simp only [show decide (0 < n) = true by simp; omega, Bool.true_and]
      exact z'
theorem tp_yS (hT : tp_T c o P K) (hA : tp_AY c P K V pa te wo) {post : Int32 → Prop} {t m : Nat} (ht : t ≤ 10) (hm : m < c) (h : post (tp_z (tp_S K t m))) :
    wpY_passes post (fc, fo, fs, pa, te, wo, kp) (nI t) (nI m) := by
  have hc := hT.2.1
  have hk := hT.2.2.2.2.2 m hm
  have et : te (nI m).toNatClampNeg = tp_z (decide (K m = 8)) := by rw [nI_clamp (by omega)]; exact hA.2.1 m hm
  refine pk_eq t 10 (fun e => ?_) (fun e => pk_eq t 8 (fun e8 => ⟨vp_in_nI (by omega) (by omega), ?_⟩) (fun e8 => ⟨vp_in_nI (by omega) (by omega), ?_⟩))
  · subst e; exact h
  · subst e8
    rw [et]
    exact ⟨tp_zn _, h⟩
  · rw [et]
    refine tp_zt (fun z => pk_eq t 9 (fun e9 => ?_) (fun e9 => ⟨vp_in_nI (by omega) (by omega), ?_⟩)) (fun z => ?_)
    · rw [show tp_S K t m = true by simp at z; simp [tp_S, e9, z]] at h; exact h
    · have z' : K m ≠ 8 := by simpa using z
      rw [show wo (nI m).toNatClampNeg = nI (K m) by rw [nI_clamp (by omega)]; exact hA.2.2.2 m hm z']
      refine tp_if (tp_dq (by omega) (by omega)) ?_
      rw [show tp_S K t m = decide (K m = t) by simp [tp_S, e, e9]] at h
      exact h
    · have z' : K m = 8 := by simpa using z
      rw [show tp_S K t m = false by simp [tp_S, e, z']; omega] at h
      exact h
end
end
