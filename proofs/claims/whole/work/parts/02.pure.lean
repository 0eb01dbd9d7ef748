/-! bits of a long, counts, and the numbers that both sides reckon -/
def qs_b (w : Int64) (x : Nat) : Bool := w.toBitVec.getLsbD x
theorem qs_ext {w r : Int64} (h : ∀ x, x < 64 → qs_b w x = qs_b r x) : w = r := Int64.toBitVec_inj.mp (BitVec.eq_of_getLsbD_eq (fun i hi => h i hi))
theorem qs_or (x y : Int64) (i : Nat) : qs_b (x ||| y) i = (qs_b x i || qs_b y i) := by unfold qs_b; rw [Int64.toBitVec_or, BitVec.getLsbD_or]
theorem qs_and (x y : Int64) (i : Nat) : qs_b (x &&& y) i = (qs_b x i && qs_b y i) := by unfold qs_b; rw [Int64.toBitVec_and, BitVec.getLsbD_and]
theorem qs_xor (x y : Int64) (i : Nat) : qs_b (x ^^^ y) i = (qs_b x i ^^ qs_b y i) := by unfold qs_b; rw [Int64.toBitVec_xor, BitVec.getLsbD_xor]
theorem qs_0 (x : Nat) : qs_b 0 x = false := BitVec.getLsbD_zero
theorem qs_m1 : ∀ x, x < 64 → qs_b (-1) x = true := by decide +kernel
theorem qs_m2 (b : Bool) (n : Nat) (h : b = decide (n % 2 = 1)) : n % 2 = b.toNat := by
  subst h
  rcases Nat.mod_two_eq_zero_or_one n with h | h <;> simp [h]
theorem qs_val (w : Int64) {x : Nat} (hx : x < 64) : ((w.toUInt64 >>> ((nI x).toInt64.toUInt64 &&& Int64.toUInt64 63)).toInt64) &&& 1 = lN (qs_b w x).toNat := by
  obtain ⟨n, hn, rfl⟩ := wb_of w
  rw [wb_bit hn hx]
  have e : qs_b (lN n) x = decide (n / 2 ^ x % 2 = 1) := by
    show (BitVec.ofNat 64 n).getLsbD x = _
    rw [BitVec.getLsbD_ofNat, Nat.testBit_eq_decide_div_mod_eq, decide_eq_true hx, Bool.true_and]
  rw [qs_m2 _ _ e]
theorem qs_sb (b : Bool) {i x : Nat} (hi : i < 64) (hx : x < 64) : qs_b (lN b.toNat <<< ((nI i).toInt64 &&& 63)) x = (decide (x = i) && b) := by
  rw [wb_shl _ hi]
  cases b
  · show (BitVec.ofNat 64 (0 * 2 ^ i)).getLsbD x = _
    rw [Nat.zero_mul, Bool.and_false]
    exact BitVec.getLsbD_zero
  · show (BitVec.ofNat 64 (1 * 2 ^ i)).getLsbD x = _
    rw [Nat.one_mul, BitVec.getLsbD_ofNat, Nat.testBit_two_pow, decide_eq_true hx, Bool.true_and, Bool.and_true]
    exact decide_eq_decide.mpr eq_comm
theorem qs_s1 {i x : Nat} (hi : i < 64) (hx : x < 64) : qs_b ((1 : Int64) <<< ((nI i).toInt64 &&& 63)) x = decide (x = i) := by
  have h := qs_sb true hi hx
  rw [Bool.and_true] at h
  exact h
/-! counts -/
def qs_cnt (f : Nat → Bool) : Nat → Nat
  | 0 => 0
  | n + 1 => qs_cnt f n + (f n).toNat
theorem qs_cnt_le (f : Nat → Bool) (n : Nat) : qs_cnt f n ≤ n := by
  induction n with
  | zero => exact Nat.le_refl 0
  | succ n ih =>
    show qs_cnt f n + (f n).toNat ≤ n + 1
    have := Bool.toNat_le (f n)
    omega
theorem qs_cnt_cg {f g : Nat → Bool} {n : Nat} (h : ∀ x, x < n → f x = g x) : qs_cnt f n = qs_cnt g n := by
  induction n with
  | zero => rfl
  | succ n ih =>
    show qs_cnt f n + (f n).toNat = qs_cnt g n + (g n).toNat
    rw [ih (fun x hx => h x (by omega)), h n (by omega)]
theorem qs_cnt_not (f : Nat → Bool) (n : Nat) : qs_cnt (fun x => !f x) n + qs_cnt f n = n := by
  induction n with
  | zero => rfl
  | succ n ih =>
    show qs_cnt (fun x => !f x) n + (!f n).toNat + (qs_cnt f n + (f n).toNat) = n + 1
    cases f n <;> simp <;> omega
theorem qs_cnt_0 (f : Nat → Bool) (n : Nat) : qs_cnt f n = 0 ↔ ∀ x, x < n → f x = false := by
  induction n with
  | zero => exact ⟨fun _ x hx => absurd hx (Nat.not_lt_zero x), fun _ => rfl⟩
  | succ n ih =>
    show qs_cnt f n + (f n).toNat = 0 ↔ _
    constructor
    · intro h x hx
      have h1 : qs_cnt f n = 0 := by omega
      have h2 : (f n).toNat = 0 := by omega
      rcases Nat.lt_or_ge x n with z | z
      · exact ih.mp h1 x z
      · have : x = n := by omega
        subst this
        cases e : f x
        · rfl
        · rw [e] at h2; exact absurd h2 (by decide)
    · intro h
      rw [ih.mpr (fun x hx => h x (by omega)), h n (by omega)]
      rfl
theorem qs_cnt_n (f : Nat → Bool) (n : Nat) : qs_cnt f n = n ↔ ∀ x, x < n → f x = true := by
  have h1 := qs_cnt_not f n
  have h2 := qs_cnt_0 (fun x => !f x) n
  constructor
  · intro h x hx
    have h3 := h2.mp (by omega) x hx
    cases e : f x
    · simp [e] at h3
    · rfl
  · intro h
    have h3 := h2.mpr (fun x hx => by simp [h x hx])
    omega
/-! the digits of a point, the product of two points -/
def qs_sz (p : Nat) : Nat := qs_cnt p.testBit 6
def qs_par (a x : Nat) : Bool := decide (qs_sz (a &&& x) % 2 = 1)
theorem qs_and64 (a : Nat) {x : Nat} (hx : x < 64) : a &&& x < 64 := Nat.and_lt_two_pow (n := 6) a hx
theorem qs_xor64 {a x : Nat} (ha : a < 64) (hx : x < 64) : a ^^^ x < 64 := Nat.xor_lt_two_pow (n := 6) ha hx
theorem qs_sz_le (p : Nat) : qs_sz p ≤ 6 := qs_cnt_le _ 6
theorem qs_sz_pos : ∀ p, p < 64 → 0 < p → 0 < qs_sz p := by decide +kernel
theorem qs_and1 (n : Nat) : nI n &&& 1 = nI (n % 2) := by
  show nI n &&& nI 1 = _
  rw [nx_and, Nat.and_one_is_mod]
theorem qs_tb (p i : Nat) : p / 2 ^ i % 2 = (p.testBit i).toNat := qs_m2 _ _ (Nat.testBit_eq_decide_div_mod_eq)
theorem qs_ubit {p i : Nat} (hp : p < 64) (hi : i < 6) : ((nI p).toUInt32 >>> ((nI i).toUInt32 &&& Int32.toUInt32 31)).toInt32 &&& 1 = nI (p.testBit i).toNat := by
  rw [nx_ush (by omega) (by omega), qs_and1, Nat.shiftRight_eq_div_pow, qs_tb]
theorem qs_sbit {p i : Nat} (hp : p < 64) (hi : i < 6) : (nI p >>> (nI i &&& 31)) &&& 1 = nI (p.testBit i).toNat := by
  rw [pk_shrN (by omega) _ i (s_l i (by omega)), qs_and1, qs_tb]
theorem qs_pl (s : Nat) (b : Bool) (h : b = decide (s % 2 = 1)) : (nI s &&& 1).toInt64 = lN b.toNat := by
  rw [qs_and1, qs_m2 _ _ h, nI_l (by have := Bool.toNat_le b; omega)]
theorem qs_pi (s : Nat) (b : Bool) (h : b = decide (s % 2 = 1)) : nI s &&& 1 = nI b.toNat := by
  rw [qs_and1, qs_m2 _ _ h]
theorem qs_sh : ∀ i, i < 6 → (1 : Int32) <<< (nI i &&& 31) = nI (2 ^ i) := by decide +kernel
theorem qs_sh64 : ∀ i, i < 6 → 2 ^ i < 64 := by decide +kernel
theorem qs_bi {b c : Bool} : nI b.toNat = nI c.toNat ↔ b = c := by cases b <;> cases c <;> decide
theorem qs_bx (b c : Bool) : nI b.toNat ^^^ nI c.toNat = nI (b ^^ c).toNat := by cases b <;> cases c <;> decide
theorem qs_ba (b c : Bool) : nI b.toNat &&& nI c.toNat = nI (b && c).toNat := by cases b <;> cases c <;> decide
theorem qs_bo (b c : Bool) : nI b.toNat ||| nI c.toNat = nI (b || c).toNat := by cases b <;> cases c <;> decide
theorem qs_bn (b : Bool) : 1 - nI b.toNat = nI (!b).toNat := by cases b <;> decide
/-- where no digit of x stands outside u: as the reference asks it -/
theorem qs_sub : ∀ x, x < 64 → ∀ u, u < 64 → ((nI x &&& (nI u ^^^ (-1))) = 0 ↔ x &&& u = x) := by decide +kernel
/-! the numbers that are reckoned of a table -/
def qs_fm (f : Nat → Bool) (u : Nat) : Nat := qs_cnt (fun x => f x && decide (x &&& u = x)) 64 % 2
def qs_df (f : Nat → Bool) (a : Nat) : Nat := qs_cnt (fun x => f x ^^ qs_par a x) 64
def qs_sp (f : Nat → Bool) (a : Nat) : Int32 := 64 - 2 * nI (qs_df f a)
def qs_ch (f : Nat → Bool) (a : Nat) : Nat := if 64 - qs_df f a < qs_df f a then 64 - qs_df f a else qs_df f a
def qs_sm (f : Nat → Bool) (a : Nat) : Nat := qs_cnt (fun x => !(f x ^^ f (x ^^^ a))) 64
theorem qs_df_le (f : Nat → Bool) (a : Nat) : qs_df f a ≤ 64 := qs_cnt_le _ 64
theorem qs_sm_le (f : Nat → Bool) (a : Nat) : qs_sm f a ≤ 64 := qs_cnt_le _ 64
theorem qs_ch_le (f : Nat → Bool) (a : Nat) : qs_ch f a ≤ 32 := by
  have := qs_df_le f a
  unfold qs_ch
  split <;> omega
theorem qs_fm_le (f : Nat → Bool) (u : Nat) : qs_fm f u < 2 := Nat.mod_lt _ (by decide)
/-! a long built point by point -/
def qs_up (f : Nat → Bool) (i : Nat) (r : Int64) : Prop := ∀ x, x < 64 → qs_b r x = (decide (x < i) && f x)
theorem qs_up_0 (f : Nat → Bool) : qs_up f 0 0 := fun x _ => by rw [qs_0, decide_eq_false (Nat.not_lt_zero x), Bool.false_and]
theorem qs_up_s {f : Nat → Bool} {i : Nat} {r : Int64} (hi : i < 64) (h : qs_up f i r) : qs_up f (i + 1) (r ||| (lN (f i).toNat <<< ((nI i).toInt64 &&& 63))) := fun x hx => by
  rw [qs_or, h x hx, qs_sb _ hi hx]
  rcases Nat.lt_trichotomy x i with z | z | z
  · simp [z, show ¬ x = i by omega, show x < i + 1 by omega]
  · subst z; simp
  · simp [show ¬ x < i by omega, show ¬ x = i by omega, show ¬ x < i + 1 by omega]
theorem qs_up_t {f : Nat → Bool} {i : Nat} {r : Int64} (hi : i < 64) (hf : f i = true) (h : qs_up f i r) : qs_up f (i + 1) (r ||| ((1 : Int64) <<< ((nI i).toInt64 &&& 63))) := by
  have e := qs_up_s hi h
  rw [hf] at e
  exact e
theorem qs_up_f {f : Nat → Bool} {i : Nat} {r : Int64} (hf : f i = false) (h : qs_up f i r) : qs_up f (i + 1) r := fun x hx => by
  rw [h x hx]
  rcases Nat.lt_trichotomy x i with z | z | z
  · simp [z, show x < i + 1 by omega]
  · subst z; simp [hf]
  · simp [show ¬ x < i by omega, show ¬ x < i + 1 by omega]
theorem qs_up_e {f : Nat → Bool} {r : Int64} (h : qs_up f 64 r) : ∀ x, x < 64 → qs_b r x = f x := fun x hx => by
  rw [h x hx, decide_eq_true hx, Bool.true_and]
