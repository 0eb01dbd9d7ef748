section
/-! rows of the kit, pasted (kit/rows): stores, numbers, branches, shifts -/
theorem pk_us {f : Nat → Int32} {k : Nat} {x : Int32} : upd f k x k = x := if_pos rfl
theorem pk_un {f : Nat → Int32} {k j : Nat} {x : Int32} (h : j ≠ k) : upd f k x j = f j := if_neg h
theorem pk_uLs {f : Nat → Int64} {k : Nat} {x : Int64} : vp_updL f k x k = x := if_pos rfl
theorem pk_uLn {f : Nat → Int64} {k j : Nat} {x : Int64} (h : j ≠ k) : vp_updL f k x j = f j := if_neg h
theorem pk_sub {a b : Nat} (h : b ≤ a) : nI a - nI b = nI (a - b) := by
  obtain ⟨c, rfl⟩ : ∃ c, a = c + b := ⟨a - b, by omega⟩
  rw [← nI_add, Int32.add_sub_cancel, Nat.add_sub_cancel]
theorem pk_mul (a b : Nat) : nI a * nI b = nI (a * b) := (Int32.ofNat_mul a b).symm
theorem pk_div {a d : Nat} (ha : a < 2 ^ 31) (h0 : 0 < d) (hd : d < 2 ^ 31) : nI a / nI d = nI (a / d) := by
  apply Int32.toInt_inj.mp
  rw [lg_idiv_nonneg (by rw [nI_toInt ha]; omega) (by rw [nI_toInt hd]; omega), nI_toInt ha, nI_toInt hd, nI_toInt (Nat.lt_of_le_of_lt (Nat.div_le_self a d) ha)]
  first | rfl | exact (Int.natCast_ediv _ _).symm
theorem pk_rem {a d : Nat} (ha : a < 2 ^ 31) (h0 : 0 < d) (hd : d < 2 ^ 31) : nI a - nI a / nI d * nI d = nI (a % d) := by
  rw [pk_div ha h0 hd, pk_mul, pk_sub (Nat.div_mul_le_self a d)]
  exact congrArg nI (by have := Nat.div_add_mod' a d; omega)
theorem pk_ix (x : Int32) {n : Nat} (hn : n < 2 ^ 31) : x < 0 ∨ nI n ≤ x ∨ ∃ j : Nat, j < n ∧ x = nI j := by
  by_cases h : x < 0
  · exact Or.inl h
  · obtain ⟨j, hj, rfl⟩ := nI_of h
    by_cases h2 : j < n
    · exact Or.inr (Or.inr ⟨j, h2, rfl⟩)
    · exact Or.inr (Or.inl (nI_le (by omega) hj))
theorem pk_le {x y : Int32} {A B : Prop} (a b : Nat) (f : a ≤ b → A) (g : b < a → B) (hx : x = nI a := by rfl) (hy : y = nI b := by rfl) (ha : a < 2 ^ 31 := by omega) (hb : b < 2 ^ 31 := by omega) : (x ≤ y → A) ∧ (¬ x ≤ y → B) := by
  subst hx hy
  rw [nI_leI ha hb]
  exact ⟨f, fun z => g (by omega)⟩
theorem pk_lt {x y : Int32} {A B : Prop} (a b : Nat) (f : a < b → A) (g : b ≤ a → B) (hx : x = nI a := by rfl) (hy : y = nI b := by rfl) (ha : a < 2 ^ 31 := by omega) (hb : b < 2 ^ 31 := by omega) : (x < y → A) ∧ (¬ x < y → B) := by
  subst hx hy
  rw [nI_ltI ha hb]
  exact ⟨f, fun z => g (by omega)⟩
theorem pk_eq {x y : Int32} {A B : Prop} (a b : Nat) (f : a = b → A) (g : a ≠ b → B) (hx : x = nI a := by rfl) (hy : y = nI b := by rfl) (ha : a < 2 ^ 31 := by omega) (hb : b < 2 ^ 31 := by omega) : (x = y → A) ∧ (¬ x = y → B) := by
  subst hx hy
  rw [nI_eq ha hb]
  exact ⟨f, g⟩
theorem pk_in {x : Int32} (n N : Nat) (h : n < N) (hx : x = nI n := by rfl) (hN : N < 2 ^ 31 := by omega) : vp_in x N := by
  subst hx
  exact vp_in_nI h hN
theorem pk_cl {x : Int32} (n : Nat) (hx : x = nI n := by rfl) (h : n < 2 ^ 31 := by omega) : x.toNatClampNeg = n := by
  subst hx
  exact nI_clamp h
theorem pk_tn {n : Nat} (h : n < 2 ^ 32) : (nI n).toBitVec.toNat = n := Nat.mod_eq_of_lt h
theorem pk_shr (a s : Int32) (k : Nat) (hs : (s.toBitVec.smod 32).toNat = k) : (a >>> s).toInt = a.toInt >>> k := by
  show (a.toBitVec.sshiftRight (s.toBitVec.smod 32).toNat).toInt = _
  rw [hs, BitVec.toInt_sshiftRight]
  rfl
theorem pk_shrN {n : Nat} (h : n < 2 ^ 31) (s : Int32) (k : Nat) (hs : (s.toBitVec.smod 32).toNat = k) : nI n >>> s = nI (n / 2 ^ k) := by
  apply Int32.toInt_inj.mp
  have h2 : n / 2 ^ k ≤ n := Nat.div_le_self _ _
  rw [pk_shr _ _ k hs, nI_toInt h, nI_toInt (by omega), Int.shiftRight_eq_div_pow]
  rfl
theorem s_l : ∀ n, n < 32 → ((nI n &&& 31).toBitVec.smod 32).toNat = n := by decide +kernel
theorem nx_and (a b : Nat) : nI a &&& nI b = nI (a &&& b) := by
  apply Int32.toBitVec_inj.1
  show BitVec.ofNat 32 a &&& BitVec.ofNat 32 b = BitVec.ofNat 32 (a &&& b)
  apply BitVec.eq_of_getLsbD_eq
  intro i hi
  simp [hi]
theorem nx_xor (a b : Nat) : nI a ^^^ nI b = nI (a ^^^ b) := by
  apply Int32.toBitVec_inj.1
  show BitVec.ofNat 32 a ^^^ BitVec.ofNat 32 b = BitVec.ofNat 32 (a ^^^ b)
  apply BitVec.eq_of_getLsbD_eq
  intro i hi
  simp [hi]
theorem nx_cnt : ∀ j : Fin 32, (UInt32.ofNat j.val &&& Int32.toUInt32 31).toNat % 32 = j.val := by decide +kernel
theorem nx_ush {k j : Nat} (hk : k < 65536) (hj : j < 32) : ((nI k).toUInt32 >>> ((nI j).toUInt32 &&& Int32.toUInt32 31)).toInt32 = nI (k >>> j) := by
  have hs : k >>> j ≤ k := by
    rw [Nat.shiftRight_eq_div_pow]
    exact Nat.div_le_self _ _
  have e2 : UInt32.ofNat k >>> (UInt32.ofNat j &&& Int32.toUInt32 31) = UInt32.ofNat (k >>> j) := by
    apply UInt32.toNat_inj.1
    have h1 : (UInt32.ofNat k).toNat = k := Nat.mod_eq_of_lt (by omega)
    have h2 : (UInt32.ofNat (k >>> j)).toNat = k >>> j := Nat.mod_eq_of_lt (by omega)
    rw [UInt32.toNat_shiftRight, nx_cnt ⟨j, hj⟩, h1, h2]
  show (UInt32.ofNat k >>> (UInt32.ofNat j &&& Int32.toUInt32 31)).toInt32 = _
  rw [e2]
  rfl
theorem wb_tb (n : Nat) : (lN n).toBitVec = BitVec.ofNat 64 n := rfl
theorem wb_inj {a b : Int64} (h : a.toBitVec = b.toBitVec) : a = b := Int64.toBitVec_inj.mp h
theorem wb_tn {n : Nat} (h : n < 2 ^ 64) : (lN n).toBitVec.toNat = n := by rw [wb_tb, BitVec.toNat_ofNat, Nat.mod_eq_of_lt h]
theorem wb_of (x : Int64) : ∃ n, n < 2 ^ 64 ∧ x = lN n := ⟨x.toBitVec.toNat, x.toBitVec.isLt, wb_inj (by rw [wb_tb]; simp)⟩
theorem wb_c : ∀ k, k < 64 → ((nI k).toInt64 &&& 63) = lN k := by decide +kernel
theorem wb_cu : ∀ k, k < 64 → ((nI k).toInt64.toUInt64 &&& Int64.toUInt64 63) = UInt64.ofNat k := by decide +kernel
theorem wb_sm : ∀ k, k < 64 → (BitVec.ofNat 64 k).smod 64 = BitVec.ofNat 64 k := by decide +kernel
theorem wb_pw {a b : Nat} (h : a ≤ b) : 2 ^ b = 2 ^ a * 2 ^ (b - a) := by rw [← Nat.pow_add]; congr 1; omega
theorem wb_lt2 {a b : Nat} (h : a < b) : 2 ^ a < 2 ^ b := Nat.pow_lt_pow_right (by decide) h
theorem wb_mod (n : Nat) : lN n = lN (n % 2 ^ 64) := wb_inj (by rw [wb_tb, wb_tb]; apply BitVec.eq_of_toNat_eq; rw [BitVec.toNat_ofNat, BitVec.toNat_ofNat, Nat.mod_mod])
theorem wb_shr {n k : Nat} (hn : n < 2 ^ 64) (hk : k < 64) : ((lN n).toUInt64 >>> ((nI k).toInt64.toUInt64 &&& Int64.toUInt64 63)).toInt64 = lN (n / 2 ^ k) := by
  rw [wb_cu k hk]
  apply wb_inj
  apply BitVec.eq_of_toNat_eq
  show ((lN n).toUInt64 >>> UInt64.ofNat k).toNat = (BitVec.ofNat 64 _).toNat
  have h1 : (UInt64.ofNat k).toNat = k := by
    show (BitVec.ofNat 64 k).toNat = k
    rw [BitVec.toNat_ofNat, Nat.mod_eq_of_lt (by omega)]
  have h2 : (lN n).toUInt64.toNat = n := wb_tn hn
  rw [UInt64.toNat_shiftRight, h1, h2, Nat.mod_eq_of_lt hk, Nat.shiftRight_eq_div_pow, BitVec.toNat_ofNat, Nat.mod_eq_of_lt (Nat.lt_of_le_of_lt (Nat.div_le_self _ _) hn)]
theorem wb_shl (n : Nat) {k : Nat} (hk : k < 64) : lN n <<< ((nI k).toInt64 &&& 63) = lN (n * 2 ^ k) := by
  rw [wb_c k hk]
  apply wb_inj
  rw [Int64.toBitVec_shiftLeft, wb_tb, wb_tb, wb_tb, wb_sm k hk]
  apply BitVec.eq_of_toNat_eq
  rw [BitVec.shiftLeft_eq', BitVec.toNat_shiftLeft, BitVec.toNat_ofNat, BitVec.toNat_ofNat, BitVec.toNat_ofNat, Nat.mod_eq_of_lt (show k < 2 ^ 64 by omega), Nat.shiftLeft_eq, Nat.mul_mod, Nat.mod_mod, ← Nat.mul_mod]
theorem wb_and {a b : Nat} (ha : a < 2 ^ 64) (hb : b < 2 ^ 64) : lN a &&& lN b = lN (a &&& b) := by
  apply wb_inj
  rw [Int64.toBitVec_and, wb_tb, wb_tb, wb_tb]
  apply BitVec.eq_of_toNat_eq
  rw [BitVec.toNat_and, BitVec.toNat_ofNat, BitVec.toNat_ofNat, BitVec.toNat_ofNat, Nat.mod_eq_of_lt ha, Nat.mod_eq_of_lt hb, Nat.mod_eq_of_lt (Nat.and_lt_two_pow _ hb)]
theorem wb_or {a b : Nat} (ha : a < 2 ^ 64) (hb : b < 2 ^ 64) : lN a ||| lN b = lN (a ||| b) := by
  apply wb_inj
  rw [Int64.toBitVec_or, wb_tb, wb_tb, wb_tb]
  apply BitVec.eq_of_toNat_eq
  rw [BitVec.toNat_or, BitVec.toNat_ofNat, BitVec.toNat_ofNat, BitVec.toNat_ofNat, Nat.mod_eq_of_lt ha, Nat.mod_eq_of_lt hb, Nat.mod_eq_of_lt (Nat.or_lt_two_pow ha hb)]
theorem wb_mask {n k : Nat} (hn : n < 2 ^ 64) (hk : k < 64) : lN n &&& lN (2 ^ k - 1) = lN (n % 2 ^ k) := by
  rw [wb_and hn (by have := wb_lt2 hk; omega), Nat.and_two_pow_sub_one_eq_mod]
theorem wb_a1 {n : Nat} (hn : n < 2 ^ 64) : lN n &&& 1 = lN (n % 2) := wb_mask (k := 1) hn (by decide)
theorem wb_bit {n k : Nat} (hn : n < 2 ^ 64) (hk : k < 64) : ((lN n).toUInt64 >>> ((nI k).toInt64.toUInt64 &&& Int64.toUInt64 63)).toInt64 &&& 1 = lN (n / 2 ^ k % 2) := by
  rw [wb_shr hn hk, wb_a1 (Nat.lt_of_le_of_lt (Nat.div_le_self _ _) hn)]
end
section
/-! bits of a long, counts, and the numbers that both sides reckon -/
def qs_b (w : Int64) (x : Nat) : Bool := w.toBitVec.getLsbD x
theorem qs_ext {w r : Int64} (h : ∀ x, x < 64 → qs_b w x = qs_b r x) : w = r := Int64.toBitVec_inj.mp (BitVec.eq_of_getLsbD_eq (fun i hi => h i hi))
theorem qs_or (x y : Int64) (i : Nat) : qs_b (x ||| y) i = (qs_b x i || qs_b y i) := by unfold qs_b; rw [Int64.toBitVec_or, BitVec.getLsbD_or]
theorem qs_and (x y : Int64) (i : Nat) : qs_b (x &&& y) i = (qs_b x i && qs_b y i) := by unfold qs_b; rw [Int64.toBitVec_and, BitVec.getLsbD_and]
theorem qs_xor (x y : Int64) (i : Nat) : qs_b (x ^^^ y) i = (qs_b x i ^^ qs_b y i) := by unfold qs_b; rw [Int64.toBitVec_xor, BitVec.getLsbD_xor]
theorem qs_0 (x : Nat) : qs_b 0 x = false := BitVec.getLsbD_zero
theorem qs_m1 : ∀ x, x < 64 → qs_b (-1) x = true := by decide +kernel
theorem qs_m2 (b : Bool) (n : Nat) (h : b = decide (n % 2 = 1)) : n % 2 = b.toNat := by
  subst h
  rcases Nat.mod_two_eq_zero_or_one n with h | h <;> simp [h]
theorem qs_val (w : Int64) {x : Nat} (hx : x < 64) : ((w.toUInt64 >>> ((nI x).toInt64.toUInt64 &&& Int64.toUInt64 63)).toInt64) &&& 1 = lN (qs_b w x).toNat := by
  obtain ⟨n, hn, rfl⟩ := wb_of w
  rw [wb_bit hn hx]
  have e : qs_b (lN n) x = decide (n / 2 ^ x % 2 = 1) := by
    show (BitVec.ofNat 64 n).getLsbD x = _
    rw [BitVec.getLsbD_ofNat, Nat.testBit_eq_decide_div_mod_eq, decide_eq_true hx, Bool.true_and]
  rw [qs_m2 _ _ e]
theorem qs_sb (b : Bool) {i x : Nat} (hi : i < 64) (hx : x < 64) : qs_b (lN b.toNat <<< ((nI i).toInt64 &&& 63)) x = (decide (x = i) && b) := by
  rw [wb_shl _ hi]
  cases b
  · show (BitVec.ofNat 64 (0 * 2 ^ i)).getLsbD x = _
    rw [Nat.zero_mul, Bool.and_false]
    exact BitVec.getLsbD_zero
  · show (BitVec.ofNat 64 (1 * 2 ^ i)).getLsbD x = _
    rw [Nat.one_mul, BitVec.getLsbD_ofNat, Nat.testBit_two_pow, decide_eq_true hx, Bool.true_and, Bool.and_true]
    exact decide_eq_decide.mpr eq_comm
theorem qs_s1 {i x : Nat} (hi : i < 64) (hx : x < 64) : qs_b ((1 : Int64) <<< ((nI i).toInt64 &&& 63)) x = decide (x = i) := by
  have h := qs_sb true hi hx
  rw [Bool.and_true] at h
  exact h
/-! counts -/
def qs_cnt (f : Nat → Bool) : Nat → Nat
  | 0 => 0
  | n + 1 => qs_cnt f n + (f n).toNat
theorem qs_cnt_le (f : Nat → Bool) (n : Nat) : qs_cnt f n ≤ n := by
  induction n with
  | zero => exact Nat.le_refl 0
  | succ n ih =>
    show qs_cnt f n + (f n).toNat ≤ n + 1
    have := Bool.toNat_le (f n)
    omega
theorem qs_cnt_cg {f g : Nat → Bool} {n : Nat} (h : ∀ x, x < n → f x = g x) : qs_cnt f n = qs_cnt g n := by
  induction n with
  | zero => rfl
  | succ n ih =>
    show qs_cnt f n + (f n).toNat = qs_cnt g n + (g n).toNat
    rw [ih (fun x hx => h x (by omega)), h n (by omega)]
theorem qs_cnt_not (f : Nat → Bool) (n : Nat) : qs_cnt (fun x => !f x) n + qs_cnt f n = n := by
  induction n with
  | zero => rfl
  | succ n ih =>
    show qs_cnt (fun x => !f x) n + (!f n).toNat + (qs_cnt f n + (f n).toNat) = n + 1
    cases f n <;> simp <;> omega
theorem qs_cnt_0 (f : Nat → Bool) (n : Nat) : qs_cnt f n = 0 ↔ ∀ x, x < n → f x = false := by
  induction n with
  | zero => exact ⟨fun _ x hx => absurd hx (Nat.not_lt_zero x), fun _ => rfl⟩
  | succ n ih =>
    show qs_cnt f n + (f n).toNat = 0 ↔ _
    constructor
    · intro h x hx
      have h1 : qs_cnt f n = 0 := by omega
      have h2 : (f n).toNat = 0 := by omega
      rcases Nat.lt_or_ge x n with z | z
      · exact ih.mp h1 x z
      · have : x = n := by omega
        subst this
        cases e : f x
        · rfl
        · rw [e] at h2; exact absurd h2 (by decide)
    · intro h
      rw [ih.mpr (fun x hx => h x (by omega)), h n (by omega)]
      rfl
theorem qs_cnt_n (f : Nat → Bool) (n : Nat) : qs_cnt f n = n ↔ ∀ x, x < n → f x = true := by
  have h1 := qs_cnt_not f n
  have h2 := qs_cnt_0 (fun x => !f x) n
  constructor
  · intro h x hx
    have h3 := h2.mp (by omega) x hx
    cases e : f x
    · simp [e] at h3
    · rfl
  · intro h
    have h3 := h2.mpr (fun x hx => by simp [h x hx])
    omega
/-! the digits of a point, the product of two points -/
def qs_sz (p : Nat) : Nat := qs_cnt p.testBit 6
def qs_par (a x : Nat) : Bool := decide (qs_sz (a &&& x) % 2 = 1)
theorem qs_and64 (a : Nat) {x : Nat} (hx : x < 64) : a &&& x < 64 := Nat.and_lt_two_pow (n := 6) a hx
theorem qs_xor64 {a x : Nat} (ha : a < 64) (hx : x < 64) : a ^^^ x < 64 := Nat.xor_lt_two_pow (n := 6) ha hx
theorem qs_sz_le (p : Nat) : qs_sz p ≤ 6 := qs_cnt_le _ 6
theorem qs_sz_pos : ∀ p, p < 64 → 0 < p → 0 < qs_sz p := by decide +kernel
theorem qs_and1 (n : Nat) : nI n &&& 1 = nI (n % 2) := by
  show nI n &&& nI 1 = _
  rw [nx_and, Nat.and_one_is_mod]
theorem qs_tb (p i : Nat) : p / 2 ^ i % 2 = (p.testBit i).toNat := qs_m2 _ _ (Nat.testBit_eq_decide_div_mod_eq)
theorem qs_ubit {p i : Nat} (hp : p < 64) (hi : i < 6) : ((nI p).toUInt32 >>> ((nI i).toUInt32 &&& Int32.toUInt32 31)).toInt32 &&& 1 = nI (p.testBit i).toNat := by
  rw [nx_ush (by omega) (by omega), qs_and1, Nat.shiftRight_eq_div_pow, qs_tb]
theorem qs_sbit {p i : Nat} (hp : p < 64) (hi : i < 6) : (nI p >>> (nI i &&& 31)) &&& 1 = nI (p.testBit i).toNat := by
  rw [pk_shrN (by omega) _ i (s_l i (by omega)), qs_and1, qs_tb]
theorem qs_pl (s : Nat) (b : Bool) (h : b = decide (s % 2 = 1)) : (nI s &&& 1).toInt64 = lN b.toNat := by
  rw [qs_and1, qs_m2 _ _ h, nI_l (by have := Bool.toNat_le b; omega)]
theorem qs_pi (s : Nat) (b : Bool) (h : b = decide (s % 2 = 1)) : nI s &&& 1 = nI b.toNat := by
  rw [qs_and1, qs_m2 _ _ h]
theorem qs_sh : ∀ i, i < 6 → (1 : Int32) <<< (nI i &&& 31) = nI (2 ^ i) := by decide +kernel
theorem qs_sh64 : ∀ i, i < 6 → 2 ^ i < 64 := by decide +kernel
theorem qs_bi {b c : Bool} : nI b.toNat = nI c.toNat ↔ b = c := by cases b <;> cases c <;> decide
theorem qs_bx (b c : Bool) : nI b.toNat ^^^ nI c.toNat = nI (b ^^ c).toNat := by cases b <;> cases c <;> decide
theorem qs_ba (b c : Bool) : nI b.toNat &&& nI c.toNat = nI (b && c).toNat := by cases b <;> cases c <;> decide
theorem qs_bo (b c : Bool) : nI b.toNat ||| nI c.toNat = nI (b || c).toNat := by cases b <;> cases c <;> decide
theorem qs_bn (b : Bool) : 1 - nI b.toNat = nI (!b).toNat := by cases b <;> decide
/-- where no digit of x stands outside u: as the reference asks it -/
theorem qs_sub : ∀ x, x < 64 → ∀ u, u < 64 → ((nI x &&& (nI u ^^^ (-1))) = 0 ↔ x &&& u = x) := by decide +kernel
/-! the numbers that are reckoned of a table -/
def qs_fm (f : Nat → Bool) (u : Nat) : Nat := qs_cnt (fun x => f x && decide (x &&& u = x)) 64 % 2
def qs_df (f : Nat → Bool) (a : Nat) : Nat := qs_cnt (fun x => f x ^^ qs_par a x) 64
def qs_sp (f : Nat → Bool) (a : Nat) : Int32 := 64 - 2 * nI (qs_df f a)
def qs_ch (f : Nat → Bool) (a : Nat) : Nat := if 64 - qs_df f a < qs_df f a then 64 - qs_df f a else qs_df f a
def qs_sm (f : Nat → Bool) (a : Nat) : Nat := qs_cnt (fun x => !(f x ^^ f (x ^^^ a))) 64
theorem qs_df_le (f : Nat → Bool) (a : Nat) : qs_df f a ≤ 64 := qs_cnt_le _ 64
theorem qs_sm_le (f : Nat → Bool) (a : Nat) : qs_sm f a ≤ 64 := qs_cnt_le _ 64
theorem qs_ch_le (f : Nat → Bool) (a : Nat) : qs_ch f a ≤ 32 := by
  have := qs_df_le f a
  unfold qs_ch
  split <;> omega
theorem qs_fm_le (f : Nat → Bool) (u : Nat) : qs_fm f u < 2 := Nat.mod_lt _ (by decide)
/-! a long built point by point -/
def qs_up (f : Nat → Bool) (i : Nat) (r : Int64) : Prop := ∀ x, x < 64 → qs_b r x = (decide (x < i) && f x)
theorem qs_up_0 (f : Nat → Bool) : qs_up f 0 0 := fun x _ => by rw [qs_0, decide_eq_false (Nat.not_lt_zero x), Bool.false_and]
theorem qs_up_s {f : Nat → Bool} {i : Nat} {r : Int64} (hi : i < 64) (h : qs_up f i r) : qs_up f (i + 1) (r ||| (lN (f i).toNat <<< ((nI i).toInt64 &&& 63))) := fun x hx => by
  rw [qs_or, h x hx, qs_sb _ hi hx]
  rcases Nat.lt_trichotomy x i with z | z | z
  · simp [z, show ¬ x = i by omega, show x < i + 1 by omega]
  · subst z; simp
  · simp [show ¬ x < i by omega, show ¬ x = i by omega, show ¬ x < i + 1 by omega]
theorem qs_up_t {f : Nat → Bool} {i : Nat} {r : Int64} (hi : i < 64) (hf : f i = true) (h : qs_up f i r) : qs_up f (i + 1) (r ||| ((1 : Int64) <<< ((nI i).toInt64 &&& 63))) := by
  have e := qs_up_s hi h
  rw [hf] at e
  exact e
theorem qs_up_f {f : Nat → Bool} {i : Nat} {r : Int64} (hf : f i = false) (h : qs_up f i r) : qs_up f (i + 1) r := fun x hx => by
  rw [h x hx]
  rcases Nat.lt_trichotomy x i with z | z | z
  · simp [z, show x < i + 1 by omega]
  · subst z; simp [hf]
  · simp [show ¬ x < i by omega, show ¬ x < i + 1 by omega]
theorem qs_up_e {f : Nat → Bool} {r : Int64} (h : qs_up f 64 r) : ∀ x, x < 64 → qs_b r x = f x := fun x hx => by
  rw [h x hx, decide_eq_true hx, Bool.true_and]
end
section
/-! the component's own private methods, each with a general post -/
theorem qs_10 : ¬ (1 : Int32) = 0 := by decide
theorem qs_c4 {t : Nat} (h : t < 4) : (nI t).toNatClampNeg = t := nI_clamp (by omega)
theorem qs_i4 {t : Nat} (h : t < 4) : vp_in (nI t) 4 := vp_in_nI h (by decide)
theorem qs_xT {t : Nat} (h : t < 4) (post : Int32 → Prop) (hp : post 1) : wpX_isTable post (nI t) :=
  br_f (nI_pos (by omega)) (br_f (nI_ge (b := 4) h (by decide)) hp)
theorem qs_xP {x : Nat} (h : x < 64) (post : Int32 → Prop) (hp : post 1) : wpX_isPoint post (nI x) :=
  br_f (nI_pos (by omega)) (br_f (nI_ge (b := 64) h (by decide)) hp)
theorem qs_xVal (w : Int64) {x : Nat} (hx : x < 64) (post : Int32 → Prop) (hp : post (nI (qs_b w x).toNat)) : wpX_valueAt post w (nI x) := by
  unfold wpX_valueAt
  rw [qs_val w hx, lN_i]
  exact hp
theorem qs_xCountL (w : Int64) (post : Int32 → Prop) (hp : post (nI (qs_cnt (qs_b w) 64))) : ∀ d i : Nat, i + d = 64 → wX_countOnes_4 post w (d + 1) (nI (qs_cnt (qs_b w) i)) (nI i) := by
  intro d
  induction d with
  | zero =>
    intro i hi
    have e : i = 64 := by omega
    subst e
    exact br_t (nI_le (a := 64) (Nat.le_refl _) (by decide)) hp
  | succ d ih =>
    intro i hi
    exact br_f (nI_ge (b := 64) (by omega) (by decide)) (qs_xVal w (by omega) _ (nm_r (nI_add _ _) (nm_r (nI_1 i) (ih (i + 1) (by omega)))))
theorem qs_xCount (w : Int64) (post : Int32 → Prop) (hp : post (nI (qs_cnt (qs_b w) 64))) : wpX_countOnes post w :=
  ⟨65, qs_xCountL w post hp 64 0 rfl⟩
theorem qs_xSizeL {p : Nat} (h : p < 64) (post : Int32 → Prop) (hp : post (nI (qs_sz p))) : ∀ d i : Nat, i + d = 6 → wX_sizeOf_4 post (nI p) (d + 1) (nI (qs_cnt p.testBit i)) (nI i) := by
  intro d
  induction d with
  | zero =>
    intro i hi
    have e : i = 6 := by omega
    subst e
    exact br_t (nI_le (a := 6) (Nat.le_refl _) (by decide)) hp
  | succ d ih =>
    intro i hi
    exact br_f (nI_ge (b := 6) (by omega) (by decide)) (nm_r (e' := nI (qs_cnt p.testBit (i + 1))) (by rw [qs_ubit h (by omega), nI_add]; rfl) (nm_r (nI_1 i) (ih (i + 1) (by omega))))
theorem qs_xSize {v : Int32} {p : Nat} (hv : v = nI p) (h : p < 64) (post : Int32 → Prop) (hp : post (nI (qs_sz p))) : wpX_sizeOf post v := by
  subst hv
  exact ⟨7, qs_xSizeL h post hp 6 0 rfl⟩
theorem qs_xMovedL (w : Int64) {a : Nat} (ha : a < 64) (post : Int64 → Prop) (hp : ∀ r, (∀ x, x < 64 → qs_b r x = qs_b w (x ^^^ a)) → post r) : ∀ (d i : Nat) (r : Int64), i + d = 64 → qs_up (fun x => qs_b w (x ^^^ a)) i r → wX_moved_5 post w (nI a) (d + 1) r (nI i) := by
  intro d
  induction d with
  | zero =>
    intro i r hi hr
    have e : i = 64 := by omega
    subst e
    exact br_t (nI_le (a := 64) (Nat.le_refl _) (by decide)) (hp r (qs_up_e hr))
  | succ d ih =>
    intro i r hi hr
    exact br_f (nI_ge (b := 64) (by omega) (by decide)) (nm_r (e' := lN (qs_b w (i ^^^ a)).toNat) (by rw [nx_xor]; exact qs_val w (qs_xor64 (by omega) ha)) (nm_e (nm_r (nI_1 i) (ih (i + 1) _ (by omega) (qs_up_s (by omega) hr)))))
theorem qs_xMoved (w : Int64) {v : Int32} {a : Nat} (hv : v = nI a) (ha : a < 64) (post : Int64 → Prop) (hp : ∀ r, (∀ x, x < 64 → qs_b r x = qs_b w (x ^^^ a)) → post r) : wpX_moved post w v := by
  subst hv
  exact ⟨65, qs_xMovedL w ha post hp 64 0 0 rfl (qs_up_0 _)⟩
theorem qs_xLinL {a : Nat} (ha : a < 64) (post : Int64 → Prop) (hp : ∀ r, (∀ x, x < 64 → qs_b r x = qs_par a x) → post r) : ∀ (d i : Nat) (r : Int64), i + d = 64 → qs_up (qs_par a) i r → wX_linear_4 post (nI a) (d + 1) r (nI i) := by
  intro d
  induction d with
  | zero =>
    intro i r hi hr
    have e : i = 64 := by omega
    subst e
    exact br_t (nI_le (a := 64) (Nat.le_refl _) (by decide)) (hp r (qs_up_e hr))
  | succ d ih =>
    intro i r hi hr
    exact br_f (nI_ge (b := 64) (by omega) (by decide)) (qs_xSize (nx_and a i) (qs_and64 a (by omega)) _ (nm_r (e' := lN (qs_par a i).toNat) (qs_pl _ _ rfl) (nm_e (nm_r (nI_1 i) (ih (i + 1) _ (by omega) (qs_up_s (by omega) hr))))))
theorem qs_xLin {a : Nat} (ha : a < 64) (post : Int64 → Prop) (hp : ∀ r, (∀ x, x < 64 → qs_b r x = qs_par a x) → post r) : wpX_linear post (nI a) :=
  ⟨65, qs_xLinL ha post hp 64 0 0 rfl (qs_up_0 _)⟩
theorem qs_xHoldL {u : Nat} (hu : u < 64) (post : Int64 → Prop) (hp : ∀ r, (∀ x, x < 64 → qs_b r x = decide (x &&& u = u)) → post r) : ∀ (d i : Nat) (r : Int64), i + d = 64 → qs_up (fun x => decide (x &&& u = u)) i r → wX_pointsHolding_4 post (nI u) (d + 1) r (nI i) := by
  intro d
  induction d with
  | zero =>
    intro i r hi hr
    have e : i = 64 := by omega
    subst e
    exact br_t (nI_le (a := 64) (Nat.le_refl _) (by decide)) (hp r (qs_up_e hr))
  | succ d ih =>
    intro i r hi hr
    refine br_f (nI_ge (b := 64) (by omega) (by decide)) (pk_eq (i &&& u) u (fun z => ?_) (fun z => ?_) (nx_and i u) rfl (by have := qs_and64 i hu; omega) (by omega))
    · exact nm_e (nm_r (nI_1 i) (ih (i + 1) _ (by omega) (qs_up_t (by omega) (decide_eq_true z) hr)))
    · exact nm_r (nI_1 i) (ih (i + 1) _ (by omega) (qs_up_f (decide_eq_false z) hr))
theorem qs_xHold {u : Nat} (hu : u < 64) (post : Int64 → Prop) (hp : ∀ r, (∀ x, x < 64 → qs_b r x = decide (x &&& u = u)) → post r) : wpX_pointsHolding post (nI u) :=
  ⟨65, qs_xHoldL hu post hp 64 0 0 rfl (qs_up_0 _)⟩
theorem qs_xWithL {u : Nat} (hu : u < 64) (post : Int64 → Prop) (hp : ∀ r, (∀ x, x < 64 → qs_b r x = decide (x &&& u = x)) → post r) : ∀ (d i : Nat) (r : Int64), i + d = 64 → qs_up (fun x => decide (x &&& u = x)) i r → wX_pointsWithin_4 post (nI u) (d + 1) r (nI i) := by
  intro d
  induction d with
  | zero =>
    intro i r hi hr
    have e : i = 64 := by omega
    subst e
    exact br_t (nI_le (a := 64) (Nat.le_refl _) (by decide)) (hp r (qs_up_e hr))
  | succ d ih =>
    intro i r hi hr
    refine br_f (nI_ge (b := 64) (by omega) (by decide)) (pk_eq (i &&& u) i (fun z => ?_) (fun z => ?_) (nx_and i u) rfl (by have := qs_and64 i hu; omega) (by omega))
    · exact nm_e (nm_r (nI_1 i) (ih (i + 1) _ (by omega) (qs_up_t (by omega) (decide_eq_true z) hr)))
    · exact nm_r (nI_1 i) (ih (i + 1) _ (by omega) (qs_up_f (decide_eq_false z) hr))
theorem qs_xWith {u : Nat} (hu : u < 64) (post : Int64 → Prop) (hp : ∀ r, (∀ x, x < 64 → qs_b r x = decide (x &&& u = x)) → post r) : wpX_pointsWithin post (nI u) :=
  ⟨65, qs_xWithL hu post hp 64 0 0 rfl (qs_up_0 _)⟩
theorem qs_xForm (w : Int64) {u : Nat} (hu : u < 64) (post : Int32 → Prop) (hp : post (nI (qs_fm (qs_b w) u))) : wpX_formAt post w (nI u) := by
  unfold wpX_formAt
  refine qs_xWith hu _ (fun r hr => qs_xCount _ _ ?_)
  have e : qs_cnt (qs_b (w &&& r)) 64 = qs_cnt (fun x => qs_b w x && decide (x &&& u = x)) 64 := qs_cnt_cg (fun x hx => by rw [qs_and, hr x hx])
  rw [e, qs_and1]
  exact hp
theorem qs_xDf (w r : Int64) {a : Nat} (hr : ∀ x, x < 64 → qs_b r x = qs_par a x) : qs_cnt (qs_b (w ^^^ r)) 64 = qs_df (qs_b w) a := qs_cnt_cg (fun x hx => by rw [qs_xor, hr x hx])
theorem qs_xSigns (w : Int64) (post : Int32 → Prop) (hp : post (64 - 2 * nI (qs_cnt (qs_b w) 64))) : wpX_sumOfSigns post w := by
  unfold wpX_sumOfSigns
  exact qs_xCount w _ hp
theorem qs_xSpec (w : Int64) {a : Nat} (ha : a < 64) (post : Int32 → Prop) (hp : post (qs_sp (qs_b w) a)) : wpX_spectrumAt post w (nI a) := by
  unfold wpX_spectrumAt
  refine qs_xLin ha _ (fun r hr => qs_xSigns _ _ ?_)
  rw [qs_xDf w r hr]
  exact hp
theorem qs_xChange (w : Int64) {a : Nat} (ha : a < 64) (post : Int32 → Prop) (hp : post (nI (qs_ch (qs_b w) a))) : wpX_changesTowards post w (nI a) := by
  unfold wpX_changesTowards
  refine qs_xLin ha _ (fun r hr => qs_xCount _ _ ?_)
  rw [qs_xDf w r hr]
  have hc := qs_df_le (qs_b w) a
  have e : (64 : Int32) - nI (qs_df (qs_b w) a) = nI (64 - qs_df (qs_b w) a) := pk_sub (a := 64) hc
  rw [e]
  refine pk_lt (64 - qs_df (qs_b w) a) (qs_df (qs_b w) a) (fun z => ?_) (fun z => ?_)
  · rw [qs_ch, if_pos z] at hp
    exact hp
  · rw [qs_ch, if_neg (by omega)] at hp
    exact hp
end
section
/-! the reference's private methods; row t of its array is f -/
def qs_row (A : Nat → Int32) (t : Nat) (f : Nat → Bool) : Prop := ∀ x, x < 64 → A (64 * t + x) = nI (f x).toNat
theorem qs_ix (t x : Nat) : (64 * nI t) + nI x = nI (64 * t + x) := by
  have e : (64 : Int32) * nI t = nI (64 * t) := pk_mul 64 t
  rw [e, nI_add]
theorem qs_in {t x : Nat} (ht : t < 4) (hx : x < 64) : vp_in ((64 * nI t) + nI x) 256 := by
  rw [qs_ix]
  exact vp_in_nI (by omega) (by decide)
theorem qs_cl {t x : Nat} (ht : t < 4) (hx : x < 64) : ((64 * nI t) + nI x).toNatClampNeg = 64 * t + x := by
  rw [qs_ix]
  exact nI_clamp (by omega)
theorem qs_rd {A : Nat → Int32} {t x : Nat} {f : Nat → Bool} (h : qs_row A t f) (ht : t < 4) (hx : x < 64) : A ((64 * nI t) + nI x).toNatClampNeg = nI (f x).toNat := by
  rw [qs_cl ht hx]
  exact h x hx
theorem qs_inX {t x a : Nat} (ht : t < 4) (hx : x < 64) (ha : a < 64) : vp_in ((64 * nI t) + (nI x ^^^ nI a)) 256 := by
  rw [nx_xor]
  exact qs_in ht (qs_xor64 hx ha)
theorem qs_rdX {A : Nat → Int32} {t x a : Nat} {f : Nat → Bool} (h : qs_row A t f) (ht : t < 4) (hx : x < 64) (ha : a < 64) : A ((64 * nI t) + (nI x ^^^ nI a)).toNatClampNeg = nI (f (x ^^^ a)).toNat := by
  rw [nx_xor]
  exact qs_rd h ht (qs_xor64 hx ha)
theorem qs_yT (v : SY) {t : Nat} (h : t < 4) (post : Int32 → Prop) (hp : post 1) : wpY_isTable post v (nI t) :=
  br_f (nI_pos (by omega)) (br_f (nI_nlt (a := 3) (by omega) (by decide)) hp)
theorem qs_yP (v : SY) {x : Nat} (h : x < 64) (post : Int32 → Prop) (hp : post 1) : wpY_isPoint post v (nI x) :=
  br_f (nI_pos (by omega)) (br_f (nI_nlt (a := 63) (by omega) (by decide)) hp)
/-- a first argument: a table, or one that both sides refuse -/
theorem qs_tab (v : Int32) : (∃ t : Nat, t < 4 ∧ v = nI t) ∨ ((∀ post : Int32 → Prop, post 0 → wpX_isTable post v) ∧ ∀ (post : Int32 → Prop) (s : SY), post 0 → wpY_isTable post s v) := by
  rcases pk_ix v (n := 4) (by decide) with h | h | ⟨j, hj, e⟩
  · exact Or.inr ⟨fun _ hp => br_t h hp, fun _ _ hp => br_t h hp⟩
  · by_cases h0 : v < 0
    · exact Or.inr ⟨fun _ hp => br_t h0 hp, fun _ _ hp => br_t h0 hp⟩
    · obtain ⟨j, hj, rfl⟩ := nI_of h0
      rw [nI_leI (by decide) hj] at h
      exact Or.inr ⟨fun _ hp => br_f h0 (br_t (nI_le (a := 4) h hj) hp), fun _ _ hp => br_f h0 (br_t (nI_lt (a := 3) (by omega) hj) hp)⟩
  · exact Or.inl ⟨j, hj, e⟩
theorem qs_pnt (v : Int32) : (∃ x : Nat, x < 64 ∧ v = nI x) ∨ ((∀ post : Int32 → Prop, post 0 → wpX_isPoint post v) ∧ ∀ (post : Int32 → Prop) (s : SY), post 0 → wpY_isPoint post s v) := by
  rcases pk_ix v (n := 64) (by decide) with h | h | ⟨j, hj, e⟩
  · exact Or.inr ⟨fun _ hp => br_t h hp, fun _ _ hp => br_t h hp⟩
  · by_cases h0 : v < 0
    · exact Or.inr ⟨fun _ hp => br_t h0 hp, fun _ _ hp => br_t h0 hp⟩
    · obtain ⟨j, hj, rfl⟩ := nI_of h0
      rw [nI_leI (by decide) hj] at h
      exact Or.inr ⟨fun _ hp => br_f h0 (br_t (nI_le (a := 64) h hj) hp), fun _ _ hp => br_f h0 (br_t (nI_lt (a := 63) (by omega) hj) hp)⟩
  · exact Or.inl ⟨j, hj, e⟩
theorem qs_ySizeL (A M : Nat → Int32) {p : Nat} (h : p < 64) (post : Int32 → Prop) (hp : post (nI (qs_sz p))) : ∀ d i : Nat, i + d = 6 → wY_sizeOf_4 post (nI p) A M (d + 1) (nI (qs_cnt p.testBit i)) (nI i) := by
  intro d
  induction d with
  | zero =>
    intro i hi
    have e : i = 6 := by omega
    subst e
    exact br_t (nI_le (a := 6) (Nat.le_refl _) (by decide)) hp
  | succ d ih =>
    intro i hi
    exact br_f (nI_ge (b := 6) (by omega) (by decide)) (nm_r (e' := nI (qs_cnt p.testBit (i + 1))) (by rw [qs_sbit h (by omega), nI_add]; rfl) (nm_r (nI_1 i) (ih (i + 1) (by omega))))
theorem qs_ySize (A M : Nat → Int32) {v : Int32} {p : Nat} (hv : v = nI p) (h : p < 64) (post : Int32 → Prop) (hp : post (nI (qs_sz p))) : wpY_sizeOf post (A, M) v := by
  subst hv
  exact ⟨7, qs_ySizeL A M h post hp 6 0 rfl⟩
theorem qs_yProd (A M : Nat → Int32) (a : Nat) {x : Nat} (hx : x < 64) (post : Int32 → Prop) (hp : post (nI (qs_par a x).toNat)) : wpY_product post (A, M) (nI a) (nI x) := by
  refine qs_ySize A M (nx_and a x) (qs_and64 a hx) (fun r => post (r &&& 1)) ?_
  show post (nI (qs_sz (a &&& x)) &&& 1)
  rw [qs_pi _ (qs_par a x) rfl]
  exact hp
theorem qs_yCountL (A M : Nat → Int32) {t : Nat} (ht : t < 4) {f : Nat → Bool} (hA : qs_row A t f) (post : Int32 → Prop) (hp : post (nI (qs_cnt f 64))) : ∀ d i : Nat, i + d = 64 → wY_countOnes_4 post (nI t) A M (d + 1) (nI (qs_cnt f i)) (nI i) := by
  intro d
  induction d with
  | zero =>
    intro i hi
    have e : i = 64 := by omega
    subst e
    exact br_t (nI_le (a := 64) (Nat.le_refl _) (by decide)) hp
  | succ d ih =>
    intro i hi
    exact br_f (nI_ge (b := 64) (by omega) (by decide)) ⟨qs_in ht (by omega), nm_r (e' := nI (qs_cnt f (i + 1))) (by rw [qs_rd hA ht (by omega), nI_add]; rfl) (nm_r (nI_1 i) (ih (i + 1) (by omega)))⟩
theorem qs_yCount (A M : Nat → Int32) {t : Nat} (ht : t < 4) {f : Nat → Bool} (hA : qs_row A t f) (post : Int32 → Prop) (hp : post (nI (qs_cnt f 64))) : wpY_countOnes post (A, M) (nI t) :=
  ⟨65, qs_yCountL A M ht hA post hp 64 0 rfl⟩
theorem qs_x2 (c : Nat) (b : Bool) : nI (c % 2) ^^^ nI b.toNat = nI ((c + b.toNat) % 2) := by
  cases b
  · rw [show false.toNat = 0 from rfl, nx_xor, Nat.xor_zero, Nat.add_zero]
  · rcases Nat.mod_two_eq_zero_or_one c with h | h
    · rw [show true.toNat = 1 from rfl, h, show (c + 1) % 2 = 1 by omega]; decide
    · rw [show true.toNat = 1 from rfl, h, show (c + 1) % 2 = 0 by omega]; decide
theorem qs_yFormL (A M : Nat → Int32) {t u : Nat} (ht : t < 4) (hu : u < 64) {f : Nat → Bool} (hA : qs_row A t f) (post : Int32 → Prop) (hp : post (nI (qs_fm f u))) : ∀ d i : Nat, i + d = 64 → wY_formAt_5 post (nI t) (nI u) A M (d + 1) (nI (qs_cnt (fun x => f x && decide (x &&& u = x)) i % 2)) (nI i) := by
  intro d
  induction d with
  | zero =>
    intro i hi
    have e : i = 64 := by omega
    subst e
    exact br_t (nI_le (a := 64) (Nat.le_refl _) (by decide)) hp
  | succ d ih =>
    intro i hi
    have H := ih (i + 1) (by omega)
    refine br_f (nI_ge (b := 64) (by omega) (by decide)) (br_c (fun z => ?_) (fun z => ?_))
    · rw [qs_sub i (by omega) u hu] at z
      have e : qs_cnt (fun x => f x && decide (x &&& u = x)) (i + 1) = qs_cnt (fun x => f x && decide (x &&& u = x)) i + (f i).toNat := by
        show _ + (f i && decide (i &&& u = i)).toNat = _
        rw [decide_eq_true z, Bool.and_true]
      rw [e] at H
      exact ⟨qs_in ht (by omega), nm_r (by rw [qs_rd hA ht (by omega)]; exact qs_x2 _ _) (nm_r (nI_1 i) H)⟩
    · rw [qs_sub i (by omega) u hu] at z
      have e : qs_cnt (fun x => f x && decide (x &&& u = x)) (i + 1) = qs_cnt (fun x => f x && decide (x &&& u = x)) i := by
        show _ + (f i && decide (i &&& u = i)).toNat = _
        rw [decide_eq_false z, Bool.and_false]
        rfl
      rw [e] at H
      exact nm_r (nI_1 i) H
theorem qs_yForm (A M : Nat → Int32) {t u : Nat} (ht : t < 4) (hu : u < 64) {f : Nat → Bool} (hA : qs_row A t f) (post : Int32 → Prop) (hp : post (nI (qs_fm f u))) : wpY_formAt post (A, M) (nI t) (nI u) :=
  ⟨65, qs_yFormL A M ht hu hA post hp 64 0 rfl⟩
theorem qs_ar1 (i c : Nat) : nI i - 2 * nI c + 1 = nI (i + 1) - 2 * nI c := by
  rw [nI_succ]
  grind
theorem qs_ar2 (i c : Nat) : nI i - 2 * nI c - 1 = nI (i + 1) - 2 * nI (c + 1) := by
  rw [nI_succ, nI_succ]
  grind
theorem qs_ySpecL (A M : Nat → Int32) {t a : Nat} (ht : t < 4) {f : Nat → Bool} (hA : qs_row A t f) (post : Int32 → Prop) (hp : post (qs_sp f a)) : ∀ d i : Nat, i + d = 64 → wY_spectrumAt_5 post (nI t) (nI a) A M (d + 1) (nI i - 2 * nI (qs_cnt (fun x => f x ^^ qs_par a x) i)) (nI i) := by
  intro d
  induction d with
  | zero =>
    intro i hi
    have e : i = 64 := by omega
    subst e
    exact br_t (nI_le (a := 64) (Nat.le_refl _) (by decide)) hp
  | succ d ih =>
    intro i hi
    have H := ih (i + 1) (by omega)
    refine br_f (nI_ge (b := 64) (by omega) (by decide)) ⟨qs_in ht (by omega), qs_yProd A M a (by omega) _ ?_⟩
    rw [qs_rd hA ht (by omega), qs_bi]
    refine br_c (fun z => ?_) (fun z => ?_)
    · have e : qs_cnt (fun x => f x ^^ qs_par a x) (i + 1) = qs_cnt (fun x => f x ^^ qs_par a x) i := by
        show _ + (f i ^^ qs_par a i).toNat = _
        rw [z, Bool.xor_self]
        rfl
      rw [e] at H
      exact nm_r (qs_ar1 _ _) (nm_r (nI_1 i) H)
    · have e : qs_cnt (fun x => f x ^^ qs_par a x) (i + 1) = qs_cnt (fun x => f x ^^ qs_par a x) i + 1 := by
        show _ + (f i ^^ qs_par a i).toNat = _
        have e2 : (f i ^^ qs_par a i) = true := by
          revert z
          cases f i <;> cases qs_par a i <;> decide
        rw [e2]
        rfl
      rw [e] at H
      exact nm_r (qs_ar2 _ _) (nm_r (nI_1 i) H)
theorem qs_ySpec (A M : Nat → Int32) {t a : Nat} (ht : t < 4) {f : Nat → Bool} (hA : qs_row A t f) (post : Int32 → Prop) (hp : post (qs_sp f a)) : wpY_spectrumAt post (A, M) (nI t) (nI a) := by
  have H := qs_ySpecL A M ht hA post hp 64 0 rfl
  rw [show nI 0 - 2 * nI (qs_cnt (fun x => f x ^^ qs_par a x) 0) = 0 from (by decide : nI 0 - 2 * nI 0 = 0)] at H
  exact ⟨65, H⟩
theorem qs_yChL (A M : Nat → Int32) {t a : Nat} (ht : t < 4) {f : Nat → Bool} (hA : qs_row A t f) (post : Int32 → Prop) (hp : post (nI (qs_ch f a))) : ∀ d i : Nat, i + d = 64 → wY_changes_5 post (nI t) (nI a) A M (d + 1) (nI (qs_cnt (fun x => f x ^^ qs_par a x) i)) (nI i) := by
  intro d
  induction d with
  | zero =>
    intro i hi
    have e : i = 64 := by omega
    subst e
    refine br_t (nI_le (a := 64) (Nat.le_refl _) (by decide)) ?_
    have hc := qs_df_le f a
    have e : (64 : Int32) - nI (qs_df f a) = nI (64 - qs_df f a) := pk_sub (a := 64) hc
    show (64 - nI (qs_df f a) ≤ nI (qs_df f a) → post (64 - nI (qs_df f a))) ∧ (¬ 64 - nI (qs_df f a) ≤ nI (qs_df f a) → post (nI (qs_df f a)))
    rw [e]
    refine pk_le (64 - qs_df f a) (qs_df f a) (fun z => ?_) (fun z => ?_)
    · have e2 : qs_ch f a = 64 - qs_df f a := by
        unfold qs_ch
        split <;> omega
      rw [e2] at hp
      exact hp
    · rw [qs_ch, if_neg (by omega)] at hp
      exact hp
  | succ d ih =>
    intro i hi
    have H := ih (i + 1) (by omega)
    refine br_f (nI_ge (b := 64) (by omega) (by decide)) ⟨qs_in ht (by omega), qs_yProd A M a (by omega) _ ?_⟩
    rw [qs_rd hA ht (by omega), qs_bi]
    refine br_c (fun z => ?_) (fun z => ?_)
    · have e : qs_cnt (fun x => f x ^^ qs_par a x) (i + 1) = qs_cnt (fun x => f x ^^ qs_par a x) i := by
        show _ + (f i ^^ qs_par a i).toNat = _
        rw [z, Bool.xor_self]
        rfl
      rw [e] at H
      exact nm_r (nI_1 i) H
    · have e : qs_cnt (fun x => f x ^^ qs_par a x) (i + 1) = qs_cnt (fun x => f x ^^ qs_par a x) i + 1 := by
        show _ + (f i ^^ qs_par a i).toNat = _
        have e2 : (f i ^^ qs_par a i) = true := by
          revert z
          cases f i <;> cases qs_par a i <;> decide
        rw [e2]
        rfl
      rw [e] at H
      exact nm_r (nI_1 _) (nm_r (nI_1 i) H)
theorem qs_yCh (A M : Nat → Int32) {t a : Nat} (ht : t < 4) {f : Nat → Bool} (hA : qs_row A t f) (post : Int32 → Prop) (hp : post (nI (qs_ch f a))) : wpY_changes post (A, M) (nI t) (nI a) :=
  ⟨65, qs_yChL A M ht hA post hp 64 0 rfl⟩
theorem qs_ySmL (A M : Nat → Int32) {t a : Nat} (ht : t < 4) (ha : a < 64) {f : Nat → Bool} (hA : qs_row A t f) (post : Int32 → Prop) (hp : post (nI (qs_sm f a))) : ∀ d i : Nat, i + d = 64 → wY_sames_5 post (nI t) (nI a) A M (d + 1) (nI (qs_cnt (fun x => !(f x ^^ f (x ^^^ a))) i)) (nI i) := by
  intro d
  induction d with
  | zero =>
    intro i hi
    have e : i = 64 := by omega
    subst e
    exact br_t (nI_le (a := 64) (Nat.le_refl _) (by decide)) hp
  | succ d ih =>
    intro i hi
    have H := ih (i + 1) (by omega)
    refine br_f (nI_ge (b := 64) (by omega) (by decide)) ⟨qs_in ht (by omega), qs_inX ht (by omega) ha, ?_⟩
    rw [qs_rd hA ht (by omega), qs_rdX hA ht (by omega) ha, qs_bi]
    refine br_c (fun z => ?_) (fun z => ?_)
    · have e : qs_cnt (fun x => !(f x ^^ f (x ^^^ a))) (i + 1) = qs_cnt (fun x => !(f x ^^ f (x ^^^ a))) i + 1 := by
        show _ + (!(f i ^^ f (i ^^^ a))).toNat = _
        rw [z, Bool.xor_self]
        rfl
      rw [e] at H
      exact nm_r (nI_1 _) (nm_r (nI_1 i) H)
    · have e : qs_cnt (fun x => !(f x ^^ f (x ^^^ a))) (i + 1) = qs_cnt (fun x => !(f x ^^ f (x ^^^ a))) i := by
        show _ + (!(f i ^^ f (i ^^^ a))).toNat = _
        have e2 : (f i ^^ f (i ^^^ a)) = true := by
          revert z
          cases f i <;> cases f (i ^^^ a) <;> decide
        rw [e2]
        rfl
      rw [e] at H
      exact nm_r (nI_1 i) H
theorem qs_ySm (A M : Nat → Int32) {v : Int32} {t a : Nat} (hv : v = nI a) (ht : t < 4) (ha : a < 64) {f : Nat → Bool} (hA : qs_row A t f) (post : Int32 → Prop) (hp : post (nI (qs_sm f a))) : wpY_sames post (A, M) (nI t) v := by
  subst hv
  exact ⟨65, qs_ySmL A M ht ha hA post hp 64 0 rfl⟩
end
section
/-! the relation: the reference's row t holds, point by point, the bits of the component's long t -/
def i_Rel (_ : Nat) (u : SX) (v : SY) : Prop := ∀ t, t < 4 → qs_row v.1 t (qs_b (u t))
theorem i_up {k : Nat} {u : SX} {v : SY} (h : i_Rel k u v) : i_Rel (k + 5) u v := h
theorem i_vc0 : wpX_init (fun u => wpY_init (fun v => i_Rel 0 u v)) := by
  unfold wpX_init wpY_init
  intro t ht x hx
  show (0 : Int32) = nI (qs_b 0 x).toNat
  rw [qs_0]
  rfl
theorem i_vc_value {k : Nat} {u : SX} {v : SY} (I : i_Rel k u v) (hk : k + 5 ≤ 2560) (v1 : Int32) (v2 : Int32) : wpX_value (fun r => wpY_value (fun r' => r' = r ∧ i_Rel (k + 5) u v) v v1 v2) u v1 v2 := by
  obtain ⟨A, M⟩ := v
  unfold wpX_value wpY_value
  dsimp only
  rcases qs_tab v1 with ⟨t, ht, rfl⟩ | ⟨bX, bY⟩
  · rcases qs_pnt v2 with ⟨x, hx, rfl⟩ | ⟨bX, bY⟩
    · rw [qs_c4 ht]
      exact qs_xT ht _ (br_f qs_10 (qs_xP hx _ (br_f qs_10 ⟨qs_i4 ht, qs_xVal _ hx _ (qs_yT _ ht _ (br_f qs_10 (qs_yP _ hx _ (br_f qs_10 ⟨qs_in ht hx, qs_rd (I t ht) ht hx, I⟩))))⟩)))
    · exact qs_xT ht _ (br_f qs_10 (bX _ (br_t rfl (qs_yT _ ht _ (br_f qs_10 (bY _ _ (br_t rfl ⟨rfl, I⟩)))))))
  · exact bX _ (br_t rfl (bY _ _ (br_t rfl ⟨rfl, I⟩)))
theorem i_vc_ones {k : Nat} {u : SX} {v : SY} (I : i_Rel k u v) (hk : k + 5 ≤ 2560) (v1 : Int32) : wpX_ones (fun r => wpY_ones (fun r' => r' = r ∧ i_Rel (k + 5) u v) v v1) u v1 := by
  obtain ⟨A, M⟩ := v
  unfold wpX_ones wpY_ones
  dsimp only
  rcases qs_tab v1 with ⟨t, ht, rfl⟩ | ⟨bX, bY⟩
  · rw [qs_c4 ht]
    exact qs_xT ht _ (br_f qs_10 ⟨qs_i4 ht, qs_xCount _ _ (qs_yT _ ht _ (br_f qs_10 (qs_yCount A M ht (I t ht) _ ⟨rfl, I⟩)))⟩)
  · exact bX _ (br_t rfl (bY _ _ (br_t rfl ⟨rfl, I⟩)))
theorem i_vc_form {k : Nat} {u : SX} {v : SY} (I : i_Rel k u v) (hk : k + 5 ≤ 2560) (v1 : Int32) (v2 : Int32) : wpX_form (fun r => wpY_form (fun r' => r' = r ∧ i_Rel (k + 5) u v) v v1 v2) u v1 v2 := by
  obtain ⟨A, M⟩ := v
  unfold wpX_form wpY_form
  dsimp only
  rcases qs_tab v1 with ⟨t, ht, rfl⟩ | ⟨bX, bY⟩
  · rcases qs_pnt v2 with ⟨x, hx, rfl⟩ | ⟨bX, bY⟩
    · rw [qs_c4 ht]
      exact qs_xT ht _ (br_f qs_10 (qs_xP hx _ (br_f qs_10 ⟨qs_i4 ht, qs_xForm _ hx _ (qs_yT _ ht _ (br_f qs_10 (qs_yP _ hx _ (br_f qs_10 (qs_yForm A M ht hx (I t ht) _ ⟨rfl, I⟩)))))⟩)))
    · exact qs_xT ht _ (br_f qs_10 (bX _ (br_t rfl (qs_yT _ ht _ (br_f qs_10 (bY _ _ (br_t rfl ⟨rfl, I⟩)))))))
  · exact bX _ (br_t rfl (bY _ _ (br_t rfl ⟨rfl, I⟩)))
theorem i_vc_spectrum {k : Nat} {u : SX} {v : SY} (I : i_Rel k u v) (hk : k + 5 ≤ 2560) (v1 : Int32) (v2 : Int32) : wpX_spectrum (fun r => wpY_spectrum (fun r' => r' = r ∧ i_Rel (k + 5) u v) v v1 v2) u v1 v2 := by
  obtain ⟨A, M⟩ := v
  unfold wpX_spectrum wpY_spectrum
  dsimp only
  rcases qs_tab v1 with ⟨t, ht, rfl⟩ | ⟨bX, bY⟩
  · rcases qs_pnt v2 with ⟨x, hx, rfl⟩ | ⟨bX, bY⟩
    · rw [qs_c4 ht]
      exact qs_xT ht _ (br_f qs_10 (qs_xP hx _ (br_f qs_10 ⟨qs_i4 ht, qs_xSpec _ hx _ (qs_yT _ ht _ (br_f qs_10 (qs_yP _ hx _ (br_f qs_10 (qs_ySpec A M ht (I t ht) _ ⟨rfl, I⟩)))))⟩)))
    · exact qs_xT ht _ (br_f qs_10 (bX _ (br_t rfl (qs_yT _ ht _ (br_f qs_10 (bY _ _ (br_t rfl ⟨rfl, I⟩)))))))
  · exact bX _ (br_t rfl (bY _ _ (br_t rfl ⟨rfl, I⟩)))
theorem qs_mvd (w r : Int64) {a : Nat} (hr : ∀ x, x < 64 → qs_b r x = qs_b w (x ^^^ a)) : qs_sm (qs_b w) a + qs_cnt (qs_b (w ^^^ r)) 64 = 64 := by
  have e : qs_cnt (qs_b (w ^^^ r)) 64 = qs_cnt (fun x => qs_b w x ^^ qs_b w (x ^^^ a)) 64 := qs_cnt_cg (fun x hx => by rw [qs_xor, hr x hx])
  rw [e]
  exact qs_cnt_not (fun x => qs_b w x ^^ qs_b w (x ^^^ a)) 64
theorem qs_ar3 (s c : Nat) (h : s + c = 64) : 2 * nI s - 64 = 64 - 2 * nI c := by
  have e : nI s = 64 - nI c := by
    rw [show s = 64 - c by omega]
    exact (pk_sub (a := 64) (by omega)).symm
  rw [e]
  grind
theorem i_vc_autocorrelation {k : Nat} {u : SX} {v : SY} (I : i_Rel k u v) (hk : k + 5 ≤ 2560) (v1 : Int32) (v2 : Int32) : wpX_autocorrelation (fun r => wpY_autocorrelation (fun r' => r' = r ∧ i_Rel (k + 5) u v) v v1 v2) u v1 v2 := by
  obtain ⟨A, M⟩ := v
  unfold wpX_autocorrelation wpY_autocorrelation
  dsimp only
  rcases qs_tab v1 with ⟨t, ht, rfl⟩ | ⟨bX, bY⟩
  · rcases qs_pnt v2 with ⟨x, hx, rfl⟩ | ⟨bX, bY⟩
    · rw [qs_c4 ht]
      exact qs_xT ht _ (br_f qs_10 (qs_xP hx _ (br_f qs_10 ⟨qs_i4 ht, qs_xMoved _ rfl hx _ (fun r hr => ⟨qs_i4 ht, qs_xSigns _ _ (qs_yT _ ht _ (br_f qs_10 (qs_yP _ hx _ (br_f qs_10 (qs_ySm A M rfl ht hx (I t ht) _ ⟨qs_ar3 _ _ (qs_mvd _ r hr), I⟩)))))⟩)⟩)))
    · exact qs_xT ht _ (br_f qs_10 (bX _ (br_t rfl (qs_yT _ ht _ (br_f qs_10 (bY _ _ (br_t rfl ⟨rfl, I⟩)))))))
  · exact bX _ (br_t rfl (bY _ _ (br_t rfl ⟨rfl, I⟩)))
end
section
/-! the methods that store -/
def qs_arr (A : Nat → Int32) (F : Nat → Nat → Bool) : Prop := ∀ t, t < 4 → qs_row A t (F t)
def qs_mx (F : Nat → Nat → Bool) (t : Nat) (g : Nat → Bool) (i : Nat) : Nat → Nat → Bool := fun t' x => if t' = t ∧ x < i then g x else F t' x
theorem qs_mx_s {A : Nat → Int32} {F : Nat → Nat → Bool} {t : Nat} {g : Nat → Bool} {i : Nat} {v : Int32} (h : qs_arr A (qs_mx F t g i)) (ht : t < 4) (hi : i < 64) (hv : v = nI (g i).toNat) : qs_arr (upd A ((64 * nI t) + nI i).toNatClampNeg v) (qs_mx F t g (i + 1)) := by
  intro t' ht' x hx
  rw [qs_cl ht hi]
  by_cases e : t' = t ∧ x = i
  · obtain ⟨rfl, rfl⟩ := e
    rw [pk_us, hv]
    unfold qs_mx
    rw [if_pos ⟨rfl, by omega⟩]
  · rw [pk_un (by omega), h t' ht' x hx]
    have e2 : (t' = t ∧ x < i + 1) ↔ (t' = t ∧ x < i) := by omega
    unfold qs_mx
    simp only [e2]
theorem qs_mx_0 {A : Nat → Int32} {F : Nat → Nat → Bool} {t : Nat} {g : Nat → Bool} (h : qs_arr A F) : qs_arr A (qs_mx F t g 0) := by
  intro t' ht' x hx
  rw [h t' ht' x hx]
  unfold qs_mx
  rw [if_neg (by omega)]
theorem qs_mx_r {A : Nat → Int32} {F : Nat → Nat → Bool} {t : Nat} {g : Nat → Bool} (ht : t < 4) (h : qs_arr A (qs_mx F t g 64)) : qs_row A t g := by
  intro x hx
  rw [h t ht x hx]
  unfold qs_mx
  rw [if_pos ⟨rfl, hx⟩]
theorem qs_rel {U : Nat → Int64} {A : Nat → Int32} {t : Nat} {g : Nat → Bool} {w : Int64} (hA : qs_arr A (qs_mx (fun s => qs_b (U s)) t g 64)) (hw : ∀ x, x < 64 → qs_b w x = g x) : ∀ t', t' < 4 → qs_row A t' (qs_b (vp_updL U t w t')) := by
  intro t' ht' x hx
  rw [hA t' ht' x hx]
  unfold qs_mx
  by_cases e : t' = t
  · subst e
    rw [pk_uLs, hw x hx, if_pos ⟨rfl, hx⟩]
  · rw [pk_uLn e, if_neg (fun z => e z.1)]
/-! put -/
theorem qs_xPut (U : Nat → Int64) {t x : Nat} (ht : t < 4) (hx : x < 64) (b : Bool) (post : Int32 → SX → Prop) (hp : ∀ w, (∀ y, y < 64 → qs_b w y = if y = x then b else qs_b (U t) y) → post (nI (qs_b (U t) x).toNat) (vp_updL U t w)) : wX_put_27 post (nI t) (nI x) (nI b.toNat) U := by
  unfold wX_put_27
  rw [qs_c4 ht]
  refine nm_e ⟨qs_i4 ht, qs_xVal _ hx _ ?_⟩
  cases b
  · refine br_f (by decide) ⟨qs_i4 ht, qs_i4 ht, nm_e (hp _ fun y hy => ?_)⟩
    rw [qs_and, qs_xor, qs_s1 hx hy, qs_m1 y hy]
    by_cases e : y = x <;> simp [e]
  · refine br_t rfl ⟨qs_i4 ht, qs_i4 ht, nm_e (hp _ fun y hy => ?_)⟩
    rw [qs_or, qs_s1 hx hy]
    by_cases e : y = x <;> simp [e]
theorem qs_relput {U : Nat → Int64} {A : Nat → Int32} {t x : Nat} {b : Bool} {w : Int64} (I : ∀ t, t < 4 → qs_row A t (qs_b (U t))) (ht : t < 4) (hx : x < 64) (hw : ∀ y, y < 64 → qs_b w y = if y = x then b else qs_b (U t) y) : ∀ t', t' < 4 → qs_row (upd A ((64 * nI t) + nI x).toNatClampNeg (nI b.toNat)) t' (qs_b (vp_updL U t w t')) := by
  intro t' ht' y hy
  rw [qs_cl ht hx]
  by_cases e : t' = t
  · subst e
    rw [pk_uLs, hw y hy]
    by_cases e2 : y = x
    · subst e2
      rw [pk_us, if_pos rfl]
    · rw [pk_un (by omega), if_neg e2]
      exact I t' ht' y hy
  · rw [pk_uLn e, pk_un (by omega)]
    exact I t' ht' y hy
theorem qs_01 (v : Int32) : (∃ b : Bool, v = nI b.toNat) ∨ (¬ v = 0 ∧ ¬ v = 1 ∧ (v < 0 ∨ (¬ v < 0 ∧ ¬ v ≤ 1))) := by
  by_cases h0 : v = 0
  · exact Or.inl ⟨false, h0⟩
  · by_cases h1 : v = 1
    · exact Or.inl ⟨true, h1⟩
    · refine Or.inr ⟨h0, h1, ?_⟩
      by_cases hn : v < 0
      · exact Or.inl hn
      · refine Or.inr ⟨hn, fun h => ?_⟩
        obtain ⟨j, hj, rfl⟩ := nI_of hn
        have h2 : j ≤ 1 := (nI_leI (b := 1) hj (by decide)).mp h
        rcases (show j = 0 ∨ j = 1 by omega) with z | z
        · subst z; exact h0 rfl
        · subst z; exact h1 rfl
theorem qs_bp (b : Bool) : ¬ nI b.toNat < 0 ∧ nI b.toNat ≤ 1 := by cases b <;> decide
theorem i_vc_put {k : Nat} {u : SX} {v : SY} (I : i_Rel k u v) (hk : k + 5 ≤ 2560) (v1 : Int32) (v2 : Int32) (v3 : Int32) : wpX_put (fun r u' => wpY_put (fun r' v' => r' = r ∧ i_Rel (k + 5) u' v') v v1 v2 v3) u v1 v2 v3 := by
  obtain ⟨A, M⟩ := v
  unfold wpX_put wpY_put
  dsimp only
  rcases qs_tab v1 with ⟨t, ht, rfl⟩ | ⟨bX, bY⟩
  · rcases qs_pnt v2 with ⟨x, hx, rfl⟩ | ⟨bX, bY⟩
    · refine qs_xT ht _ (br_f qs_10 (qs_xP hx _ (br_f qs_10 ?_)))
      rcases qs_01 v3 with ⟨b, rfl⟩ | ⟨h0, h1, h2⟩
      · cases b
        · exact br_t rfl (qs_xPut u ht hx false _ (fun w hw => qs_yT _ ht _ (br_f qs_10 (qs_yP _ hx _ (br_f qs_10 (br_f (qs_bp false).1 (br_t (qs_bp false).2 ⟨qs_in ht hx, nm_e ⟨qs_in ht hx, nm_e ⟨qs_rd (I t ht) ht hx, qs_relput I ht hx hw⟩⟩⟩)))))))
        · exact br_f (by decide) (br_t rfl (qs_xPut u ht hx true _ (fun w hw => qs_yT _ ht _ (br_f qs_10 (qs_yP _ hx _ (br_f qs_10 (br_f (qs_bp true).1 (br_t (qs_bp true).2 ⟨qs_in ht hx, nm_e ⟨qs_in ht hx, nm_e ⟨qs_rd (I t ht) ht hx, qs_relput I ht hx hw⟩⟩⟩))))))))
      · refine br_f h0 (br_f h1 (qs_yT _ ht _ (br_f qs_10 (qs_yP _ hx _ (br_f qs_10 ?_)))))
        rcases h2 with h2 | ⟨h2, h3⟩
        · exact br_t h2 ⟨rfl, I⟩
        · exact br_f h2 (br_f h3 ⟨rfl, I⟩)
    · exact qs_xT ht _ (br_f qs_10 (bX _ (br_t rfl (qs_yT _ ht _ (br_f qs_10 (bY _ _ (br_t rfl ⟨rfl, I⟩)))))))
  · exact bX _ (br_t rfl (bY _ _ (br_t rfl ⟨rfl, I⟩)))
/-! turnForm -/
theorem qs_yTurnL {F : Nat → Nat → Bool} {t u : Nat} (ht : t < 4) (hu : u < 64) (post : Int32 → SY → Prop) (M : Nat → Int32) {g : Nat → Bool} (hg : ∀ x, x < 64 → g x = (F t x ^^ decide (x &&& u = u))) (hp : ∀ A, qs_arr A (qs_mx F t g 64) → post (nI (qs_cnt g 64)) (A, M)) : ∀ (d i : Nat) (A : Nat → Int32), i + d = 64 → qs_arr A (qs_mx F t g i) → wY_turnForm_22 post (nI t) (nI u) (d + 1) (nI i) A M := by
  intro d
  induction d with
  | zero =>
    intro i A hi hA
    have e : i = 64 := by omega
    subst e
    exact br_t (nI_le (a := 64) (Nat.le_refl _) (by decide)) (qs_yCount A M ht (qs_mx_r ht hA) _ (hp A hA))
  | succ d ih =>
    intro i A hi hA
    have hi2 : i < 64 := by omega
    have hr : A ((64 * nI t) + nI i).toNatClampNeg = nI (F t i).toNat := by
      rw [qs_cl ht hi2, hA t ht i hi2]
      unfold qs_mx
      rw [if_neg (by omega)]
    refine br_f (nI_ge (b := 64) (by omega) (by decide)) (br_c (fun z => ?_) (fun z => ?_))
    · rw [qs_sub u hu i hi2, Nat.and_comm] at z
      exact ⟨qs_in ht hi2, qs_in ht hi2, nm_e (nm_r (nI_1 i) (ih (i + 1) _ (by omega) (qs_mx_s hA ht hi2 (by rw [hr, qs_bn, hg i hi2, decide_eq_true z, Bool.xor_true]))))⟩
    · rw [qs_sub u hu i hi2, Nat.and_comm] at z
      exact ⟨qs_in ht hi2, qs_in ht hi2, nm_e (nm_r (nI_1 i) (ih (i + 1) _ (by omega) (qs_mx_s hA ht hi2 (by rw [hr, hg i hi2, decide_eq_false z, Bool.xor_false]))))⟩
theorem i_vc_turnForm {k : Nat} {u : SX} {v : SY} (I : i_Rel k u v) (hk : k + 5 ≤ 2560) (v1 : Int32) (v2 : Int32) : wpX_turnForm (fun r u' => wpY_turnForm (fun r' v' => r' = r ∧ i_Rel (k + 5) u' v') v v1 v2) u v1 v2 := by
  obtain ⟨A, M⟩ := v
  unfold wpX_turnForm wpY_turnForm
  dsimp only
  rcases qs_tab v1 with ⟨t, ht, rfl⟩ | ⟨bX, bY⟩
  · rcases qs_pnt v2 with ⟨x, hx, rfl⟩ | ⟨bX, bY⟩
    · rw [qs_c4 ht]
      refine qs_xT ht _ (br_f qs_10 (qs_xP hx _ (br_f qs_10 ⟨qs_i4 ht, qs_xHold hx _ (fun r hr => ⟨qs_i4 ht, nm_e ⟨qs_i4 ht, ?_⟩⟩)⟩)))
      rw [pk_uLs]
      refine qs_xCount _ _ (qs_yT _ ht _ (br_f qs_10 (qs_yP _ hx _ (br_f qs_10 ⟨65, qs_yTurnL (F := fun s => qs_b (u s)) (g := qs_b (u t ^^^ r)) ht hx _ M (fun y hy => by rw [qs_xor, hr y hy]) (fun A' hA' => ⟨rfl, qs_rel hA' (fun _ _ => rfl)⟩) 64 0 A rfl (qs_mx_0 I)⟩))))
    · exact qs_xT ht _ (br_f qs_10 (bX _ (br_t rfl (qs_yT _ ht _ (br_f qs_10 (bY _ _ (br_t rfl ⟨rfl, I⟩)))))))
  · exact bX _ (br_t rfl (bY _ _ (br_t rfl ⟨rfl, I⟩)))
/-! takeMade, combine, shift -/
theorem qs_yTakeL {F : Nat → Nat → Bool} {t : Nat} (ht : t < 4) (post : Int32 → SY → Prop) (M : Nat → Int32) {g : Nat → Bool} (hM : ∀ x, x < 64 → M x = nI (g x).toNat) (hp : ∀ A, qs_arr A (qs_mx F t g 64) → post (nI (qs_cnt g 64)) (A, M)) : ∀ (d i : Nat) (A : Nat → Int32), i + d = 64 → qs_arr A (qs_mx F t g i) → wY_takeMade_2 post (nI t) (d + 1) (nI i) A M := by
  intro d
  induction d with
  | zero =>
    intro i A hi hA
    have e : i = 64 := by omega
    subst e
    exact br_t (nI_le (a := 64) (Nat.le_refl _) (by decide)) (qs_yCount A M ht (qs_mx_r ht hA) _ (hp A hA))
  | succ d ih =>
    intro i A hi hA
    have hi2 : i < 64 := by omega
    exact br_f (nI_ge (b := 64) (by omega) (by decide)) ⟨vp_in_nI hi2 (by decide), qs_in ht hi2, nm_e (nm_r (nI_1 i) (ih (i + 1) _ (by omega) (qs_mx_s hA ht hi2 (by rw [nI_clamp (by omega), hM i hi2]))))⟩
theorem qs_yTake {F : Nat → Nat → Bool} {t : Nat} (ht : t < 4) (post : Int32 → SY → Prop) (A M : Nat → Int32) {g : Nat → Bool} (hA : qs_arr A F) (hM : ∀ x, x < 64 → M x = nI (g x).toNat) (hp : ∀ A, qs_arr A (qs_mx F t g 64) → post (nI (qs_cnt g 64)) (A, M)) : wpY_takeMade post (A, M) (nI t) :=
  ⟨65, qs_yTakeL ht post M hM hp 64 0 A rfl (qs_mx_0 hA)⟩
theorem qs_mk_s {M : Nat → Int32} {g : Nat → Bool} {i : Nat} {v : Int32} (hi : i < 64) (h : ∀ x, x < i → M x = nI (g x).toNat) (hv : v = nI (g i).toNat) : ∀ x, x < i + 1 → upd M (nI i).toNatClampNeg v x = nI (g x).toNat := by
  intro x hx
  rw [nI_clamp (by omega)]
  by_cases e : x = i
  · subst e
    rw [pk_us, hv]
  · rw [pk_un e]
    exact h x (by omega)
def qs_op (o : Nat) (b c : Bool) : Bool := if o = 0 then b ^^ c else if o = 1 then b && c else if o = 2 then b || c else !(b ^^ c)
theorem qs_b1 (b : Bool) : nI b.toNat = 1 ↔ b = true := by cases b <;> decide
theorem qs_yCombL {F : Nat → Nat → Bool} {A : Nat → Int32} {t o r s : Nat} (ht : t < 4) (ho : o < 4) (hr : r < 4) (hs : s < 4) (hA : qs_arr A F) (post : Int32 → SY → Prop) (hp : ∀ A M, qs_arr A (qs_mx F t (fun x => qs_op o (F r x) (F s x)) 64) → post (nI (qs_cnt (fun x => qs_op o (F r x) (F s x)) 64)) (A, M)) : ∀ (d i : Nat) (M : Nat → Int32), i + d = 64 → (∀ x, x < i → M x = nI (qs_op o (F r x) (F s x)).toNat) → wY_combine_41 post (nI t) (nI o) (nI r) (nI s) (d + 1) (nI i) A M := by
  intro d
  induction d with
  | zero =>
    intro i M hi hM
    have e : i = 64 := by omega
    subst e
    exact br_t (nI_le (a := 64) (Nat.le_refl _) (by decide)) (qs_yTake ht _ A M hA hM (fun A' hA' => hp A' M hA'))
  | succ d ih =>
    intro i M hi hM
    have hi2 : i < 64 := by omega
    have H : ∀ v : Int32, v = nI (qs_op o (F r i) (F s i)).toNat → wY_combine_41 post (nI t) (nI o) (nI r) (nI s) (d + 1) (nI (i + 1)) A (upd M (nI i).toNatClampNeg v) := fun v hv => ih (i + 1) _ (by omega) (qs_mk_s (g := fun x => qs_op o (F r x) (F s x)) hi2 hM hv)
    have hin : vp_in (nI i) 64 := vp_in_nI hi2 (by decide)
    refine br_f (nI_ge (b := 64) (by omega) (by decide)) ⟨qs_in hr hi2, nm_r (qs_rd (hA r hr) hr hi2) ⟨qs_in hs hi2, nm_r (qs_rd (hA s hs) hs hi2) ?_⟩⟩
    refine pk_eq o 0 (fun z => ⟨hin, nm_e (nm_r (nI_1 i) (H _ ?_))⟩) (fun z0 => pk_eq o 1 (fun z => ⟨hin, nm_e (nm_r (nI_1 i) (H _ ?_))⟩) (fun z1 => pk_eq o 2 (fun z => ⟨hin, nm_e (nm_r (nI_1 i) (H _ ?_))⟩) (fun z2 => ?_)))
    · subst z; exact qs_bx _ _
    · subst z; exact qs_ba _ _
    · subst z; exact qs_bo _ _
    · have e : qs_op o (F r i) (F s i) = !(F r i ^^ F s i) := by
        unfold qs_op
        rw [if_neg z0, if_neg z1, if_neg z2]
      refine br_c (fun z => ⟨hin, nm_e (nm_r (nI_1 i) (H _ ?_))⟩) (fun z => ⟨hin, nm_e (nm_r (nI_1 i) (H _ ?_))⟩)
      · rw [qs_b1] at z
        rw [e, z, Bool.xor_true, Bool.not_not]
      · rw [qs_b1] at z
        rw [qs_bn, e, Bool.eq_false_iff.mpr z, Bool.xor_false]
theorem qs_xComb {o : Nat} (ho : o < 4) (w r : Int64) (post : Int64 → Prop) (hp : ∀ z, (∀ x, x < 64 → qs_b z x = qs_op o (qs_b w x) (qs_b r x)) → post z) : wpX_combined post (nI o) w r := by
  unfold wpX_combined
  refine br_f (nI_pos (by omega)) (pk_lt 2 o (fun z => hp _ (fun x hx => ?_)) (fun z => pk_eq o 0 (fun z => hp _ (fun x hx => ?_)) (fun z0 => pk_eq o 1 (fun z => hp _ (fun x hx => ?_)) (fun z1 => pk_eq o 2 (fun z => hp _ (fun x hx => ?_)) (fun _ => trivial)))))
  · unfold qs_op
    rw [if_neg (by omega), if_neg (by omega), if_neg (by omega), qs_xor, qs_xor, qs_m1 x hx, Bool.xor_true]
  · subst z; exact qs_xor _ _ _
  · subst z; exact qs_and _ _ _
  · subst z; exact qs_or _ _ _
theorem i_vc_combine {k : Nat} {u : SX} {v : SY} (I : i_Rel k u v) (hk : k + 5 ≤ 2560) (v1 : Int32) (v2 : Int32) (v3 : Int32) (v4 : Int32) : wpX_combine (fun r u' => wpY_combine (fun r' v' => r' = r ∧ i_Rel (k + 5) u' v') v v1 v2 v3 v4) u v1 v2 v3 v4 := by
  obtain ⟨A, M⟩ := v
  unfold wpX_combine wpY_combine
  dsimp only
  rcases qs_tab v1 with ⟨t, ht, rfl⟩ | ⟨bX, bY⟩
  · refine qs_xT ht _ (br_f qs_10 ?_)
    by_cases h0 : v2 < 0
    · exact br_t h0 (qs_yT _ ht _ (br_f qs_10 (br_t h0 ⟨rfl, I⟩)))
    · by_cases h3 : 3 < v2
      · exact br_f h0 (br_t h3 (qs_yT _ ht _ (br_f qs_10 (br_f h0 (br_t h3 ⟨rfl, I⟩)))))
      · refine br_f h0 (br_f h3 ?_)
        rcases qs_tab v3 with ⟨r, hr, rfl⟩ | ⟨bX, bY⟩
        · rcases qs_tab v4 with ⟨s, hs, rfl⟩ | ⟨bX, bY⟩
          · obtain ⟨o, ho, rfl⟩ := nI_of h0
            have ho4 : o < 4 := by
              rcases Nat.lt_or_ge o 4 with z | z
              · exact z
              · exact absurd (nI_lt (a := 3) (by omega) ho) h3
            rw [qs_c4 ht, qs_c4 hr, qs_c4 hs]
            refine qs_xT hr _ (br_f qs_10 (qs_xT hs _ (br_f qs_10 ⟨qs_i4 hr, qs_i4 hs, qs_xComb ho4 _ _ _ (fun z hz => ⟨qs_i4 ht, nm_e ⟨qs_i4 ht, ?_⟩⟩)⟩)))
            rw [pk_uLs]
            refine qs_xCount _ _ (qs_yT _ ht _ (br_f qs_10 (br_f h0 (br_f h3 (qs_yT _ hr _ (br_f qs_10 (qs_yT _ hs _ (br_f qs_10 ⟨65, qs_yCombL (F := fun s => qs_b (u s)) ht ho4 hr hs I _ (fun A' M' hA' => ⟨congrArg nI (qs_cnt_cg (fun x hx => (hz x hx).symm)), qs_rel hA' hz⟩) 64 0 M rfl (fun x hx => absurd hx (Nat.not_lt_zero x))⟩))))))))
          · exact qs_xT hr _ (br_f qs_10 (bX _ (br_t rfl (qs_yT _ ht _ (br_f qs_10 (br_f h0 (br_f h3 (qs_yT _ hr _ (br_f qs_10 (bY _ _ (br_t rfl ⟨rfl, I⟩)))))))))))
        · exact bX _ (br_t rfl (qs_yT _ ht _ (br_f qs_10 (br_f h0 (br_f h3 (bY _ _ (br_t rfl ⟨rfl, I⟩)))))))
  · exact bX _ (br_t rfl (bY _ _ (br_t rfl ⟨rfl, I⟩)))
theorem qs_yShiftL {F : Nat → Nat → Bool} {A : Nat → Int32} {t r a b : Nat} (ht : t < 4) (hr : r < 4) (ha : a < 64) (hA : qs_arr A F) (post : Int32 → SY → Prop) (hp : ∀ A M, qs_arr A (qs_mx F t (fun x => F r (x ^^^ a) ^^ qs_par b x) 64) → post (nI (qs_cnt (fun x => F r (x ^^^ a) ^^ qs_par b x) 64)) (A, M)) : ∀ (d i : Nat) (M : Nat → Int32), i + d = 64 → (∀ x, x < i → M x = nI (F r (x ^^^ a) ^^ qs_par b x).toNat) → wY_shift_40 post (nI t) (nI r) (nI a) (nI b) (d + 1) (nI i) A M := by
  intro d
  induction d with
  | zero =>
    intro i M hi hM
    have e : i = 64 := by omega
    subst e
    exact br_t (nI_le (a := 64) (Nat.le_refl _) (by decide)) (qs_yTake ht _ A M hA hM (fun A' hA' => hp A' M hA'))
  | succ d ih =>
    intro i M hi hM
    have hi2 : i < 64 := by omega
    exact br_f (nI_ge (b := 64) (by omega) (by decide)) ⟨qs_inX hr hi2 ha, qs_yProd A M b hi2 _ ⟨vp_in_nI hi2 (by decide), nm_e (nm_r (nI_1 i) (ih (i + 1) _ (by omega) (qs_mk_s (g := fun x => F r (x ^^^ a) ^^ qs_par b x) hi2 hM (by rw [qs_rdX (hA r hr) hr hi2 ha, qs_bx]))))⟩⟩
theorem i_vc_shift {k : Nat} {u : SX} {v : SY} (I : i_Rel k u v) (hk : k + 5 ≤ 2560) (v1 : Int32) (v2 : Int32) (v3 : Int32) (v4 : Int32) : wpX_shift (fun r u' => wpY_shift (fun r' v' => r' = r ∧ i_Rel (k + 5) u' v') v v1 v2 v3 v4) u v1 v2 v3 v4 := by
  obtain ⟨A, M⟩ := v
  unfold wpX_shift wpY_shift
  dsimp only
  rcases qs_tab v1 with ⟨t, ht, rfl⟩ | ⟨bX, bY⟩
  · refine qs_xT ht _ (br_f qs_10 ?_)
    rcases qs_tab v2 with ⟨r, hr, rfl⟩ | ⟨bX, bY⟩
    · refine qs_xT hr _ (br_f qs_10 ?_)
      rcases qs_pnt v3 with ⟨a, ha, rfl⟩ | ⟨bX, bY⟩
      · refine qs_xP ha _ (br_f qs_10 ?_)
        rcases qs_pnt v4 with ⟨b, hb, rfl⟩ | ⟨bX, bY⟩
        · rw [qs_c4 ht, qs_c4 hr]
          refine qs_xP hb _ (br_f qs_10 ⟨qs_i4 hr, qs_xMoved _ rfl ha _ (fun z hz => qs_xLin hb _ (fun y hy => ⟨qs_i4 ht, nm_e ⟨qs_i4 ht, ?_⟩⟩))⟩)
          rw [pk_uLs]
          have hw : ∀ x, x < 64 → qs_b (z ^^^ y) x = (qs_b (u r) (x ^^^ a) ^^ qs_par b x) := fun x hx => by rw [qs_xor, hz x hx, hy x hx]
          refine qs_xCount _ _ (qs_yT _ ht _ (br_f qs_10 (qs_yT _ hr _ (br_f qs_10 (qs_yP _ ha _ (br_f qs_10 (qs_yP _ hb _ (br_f qs_10 ⟨65, qs_yShiftL (F := fun s => qs_b (u s)) ht hr ha I _ (fun A' M' hA' => ⟨congrArg nI (qs_cnt_cg (fun x hx => (hw x hx).symm)), qs_rel hA' hw⟩) 64 0 M rfl (fun x hx => absurd hx (Nat.not_lt_zero x))⟩))))))))
        · exact bX _ (br_t rfl (qs_yT _ ht _ (br_f qs_10 (qs_yT _ hr _ (br_f qs_10 (qs_yP _ ha _ (br_f qs_10 (bY _ _ (br_t rfl ⟨rfl, I⟩)))))))))
      · exact bX _ (br_t rfl (qs_yT _ ht _ (br_f qs_10 (qs_yT _ hr _ (br_f qs_10 (bY _ _ (br_t rfl ⟨rfl, I⟩)))))))
    · exact bX _ (br_t rfl (qs_yT _ ht _ (br_f qs_10 (bY _ _ (br_t rfl ⟨rfl, I⟩)))))
  · exact bX _ (br_t rfl (bY _ _ (br_t rfl ⟨rfl, I⟩)))
end
section
/-! degree, distance, nearest, immunity, variables, structures -/
theorem qs_degL (U : Nat → Int64) (A M : Nat → Int32) {t : Nat} (ht : t < 4) (hA : qs_row A t (qs_b (U (nI t).toNatClampNeg))) : ∀ d i g : Nat, i + d = 64 → g ≤ 6 → ∃ r : Int32, (∀ post : Int32 → Prop, post r → wX_degree_15 post (nI t) U (d + 1) (nI g) (nI i)) ∧ (∀ post : Int32 → Prop, post r → wY_degree_16 post (nI t) A M (d + 1) (nI g) (nI i)) := by
  intro d
  induction d with
  | zero =>
    intro i g hi hg
    have e : i = 64 := by omega
    subst e
    exact ⟨nI g, fun _ hp => br_t (nI_le (a := 64) (Nat.le_refl _) (by decide)) hp, fun _ hp => br_t (nI_le (a := 64) (Nat.le_refl _) (by decide)) hp⟩
  | succ d ih =>
    intro i g hi hg
    have hi2 : i < 64 := by omega
    have hn : ¬ (64 : Int32) ≤ nI i := nI_ge (b := 64) hi2 (by decide)
    have hs6 := qs_sz_le i
    by_cases hs : qs_sz i ≤ g
    · obtain ⟨r, hX, hY⟩ := ih (i + 1) g (by omega) hg
      refine ⟨r, fun post hp => ?_, fun post hp => ?_⟩
      · exact br_f hn (qs_xSize rfl hi2 _ (br_t (nI_le hs (by omega)) (nm_r (nI_1 i) (hX post hp))))
      · exact br_f hn (qs_ySize A M rfl hi2 _ (qs_yForm A M ht hi2 hA _ (br_c (fun _ => br_t (nI_le hs (by omega)) (nm_r (nI_1 i) (hY post hp))) (fun _ => nm_r (nI_1 i) (hY post hp)))))
    · have hs2 : ¬ nI (qs_sz i) ≤ nI g := nI_ge (by omega) (by omega)
      by_cases hF : qs_fm (qs_b (U (nI t).toNatClampNeg)) i = 1
      · have hF2 : nI (qs_fm (qs_b (U (nI t).toNatClampNeg)) i) = 1 := congrArg nI hF
        obtain ⟨r, hX, hY⟩ := ih (i + 1) (qs_sz i) (by omega) hs6
        refine ⟨r, fun post hp => ?_, fun post hp => ?_⟩
        · exact br_f hn (qs_xSize rfl hi2 _ (br_f hs2 ⟨qs_i4 ht, qs_xForm _ hi2 _ (br_t hF2 (nm_r (nI_1 i) (hX post hp)))⟩))
        · exact br_f hn (qs_ySize A M rfl hi2 _ (qs_yForm A M ht hi2 hA _ (br_t hF2 (br_f hs2 (nm_r (nI_1 i) (hY post hp))))))
      · have hF2 : ¬ nI (qs_fm (qs_b (U (nI t).toNatClampNeg)) i) = 1 := fun z => hF ((nI_eq (b := 1) (by have := qs_fm_le (qs_b (U (nI t).toNatClampNeg)) i; omega) (by decide)).mp z)
        obtain ⟨r, hX, hY⟩ := ih (i + 1) g (by omega) hg
        refine ⟨r, fun post hp => ?_, fun post hp => ?_⟩
        · exact br_f hn (qs_xSize rfl hi2 _ (br_f hs2 ⟨qs_i4 ht, qs_xForm _ hi2 _ (br_f hF2 (nm_r (nI_1 i) (hX post hp)))⟩))
        · exact br_f hn (qs_ySize A M rfl hi2 _ (qs_yForm A M ht hi2 hA _ (br_f hF2 (nm_r (nI_1 i) (hY post hp)))))
/-! the nearest point -/
def qs_best (g : Nat → Nat) : Nat → Nat
  | 0 => 0
  | n + 1 => if g n < g (qs_best g n) then n else qs_best g n
def qs_few (g : Nat → Nat) (i : Nat) : Nat := if i = 0 then 64 else g (qs_best g i)
theorem qs_best_lt (g : Nat → Nat) (n : Nat) : qs_best g n = 0 ∨ qs_best g n < n := by
  induction n with
  | zero => exact Or.inl rfl
  | succ n ih =>
    show (if g n < g (qs_best g n) then n else qs_best g n) = 0 ∨ (if g n < g (qs_best g n) then n else qs_best g n) < n + 1
    split
    · exact Or.inr (by omega)
    · omega
theorem qs_best_s (g : Nat → Nat) (n : Nat) : qs_best g (n + 1) = if g n < g (qs_best g n) then n else qs_best g n := rfl
theorem qs_few_0 (g : Nat → Nat) : qs_few g 0 = 64 := rfl
theorem qs_few_s (g : Nat → Nat) (n : Nat) : qs_few g (n + 1) = g (qs_best g (n + 1)) := rfl
theorem qs_few_k {g : Nat → Nat} (hg : ∀ a, g a ≤ 32) {i : Nat} (h : qs_few g i ≤ g i) : qs_best g (i + 1) = qs_best g i ∧ qs_few g (i + 1) = qs_few g i := by
  cases i with
  | zero =>
    rw [qs_few_0] at h
    have := hg 0
    omega
  | succ n =>
    rw [qs_few_s] at h
    have e : qs_best g (n + 1 + 1) = qs_best g (n + 1) := by rw [qs_best_s g (n + 1), if_neg (by omega)]
    exact ⟨e, by rw [qs_few_s, qs_few_s, e]⟩
theorem qs_few_n {g : Nat → Nat} {i : Nat} (h : g i < qs_few g i) : qs_best g (i + 1) = i ∧ qs_few g (i + 1) = g i := by
  cases i with
  | zero =>
    have e : qs_best g (0 + 1) = 0 := by rw [qs_best_s]; exact if_neg (Nat.lt_irrefl (g 0))
    exact ⟨e, by rw [qs_few_s, e]⟩
  | succ n =>
    rw [qs_few_s] at h
    have e : qs_best g (n + 1 + 1) = n + 1 := by rw [qs_best_s g (n + 1), if_pos h]
    exact ⟨e, by rw [qs_few_s, e]⟩
theorem qs_few_le {g : Nat → Nat} (hg : ∀ a, g a ≤ 32) (i : Nat) : qs_few g i ≤ 64 := by
  unfold qs_few
  split
  · exact Nat.le_refl _
  · have := hg (qs_best g i)
    omega
theorem qs_xNearL (w : Int64) (post : Int32 → Prop) (hp : post (nI (qs_best (qs_ch (qs_b w)) 64))) : ∀ d i : Nat, i + d = 64 → wX_nearestPoint_8 post w (d + 1) (nI (qs_best (qs_ch (qs_b w)) i)) (nI (qs_few (qs_ch (qs_b w)) i)) (nI i) := by
  intro d
  induction d with
  | zero =>
    intro i hi
    have e : i = 64 := by omega
    subst e
    exact br_t (nI_le (a := 64) (Nat.le_refl _) (by decide)) hp
  | succ d ih =>
    intro i hi
    have H := ih (i + 1) (by omega)
    have h1 := qs_few_le (qs_ch_le (qs_b w)) i
    have h2 := qs_ch_le (qs_b w) i
    refine br_f (nI_ge (b := 64) (by omega) (by decide)) (qs_xChange w (by omega) _ (pk_le (qs_few (qs_ch (qs_b w)) i) (qs_ch (qs_b w) i) (fun z => ?_) (fun z => ?_)))
    · have e := qs_few_k (qs_ch_le (qs_b w)) z
      rw [e.1, e.2] at H
      exact nm_r (nI_1 i) H
    · have e := qs_few_n z
      rw [e.1, e.2] at H
      exact nm_r (nI_1 i) H
theorem qs_xNear (w : Int64) (post : Int32 → Prop) (hp : post (nI (qs_best (qs_ch (qs_b w)) 64))) : wpX_nearestPoint post w :=
  ⟨65, qs_xNearL w post hp 64 0 rfl⟩
theorem qs_yDistL (A M : Nat → Int32) {t : Nat} (ht : t < 4) {f : Nat → Bool} (hA : qs_row A t f) (post : Int32 → Prop) (hp : post (nI (qs_few (qs_ch f) 64))) : ∀ d i : Nat, i + d = 64 → wY_distance_17 post (nI t) A M (d + 1) (nI (qs_few (qs_ch f) i)) (nI i) := by
  intro d
  induction d with
  | zero =>
    intro i hi
    have e : i = 64 := by omega
    subst e
    exact br_t (nI_le (a := 64) (Nat.le_refl _) (by decide)) hp
  | succ d ih =>
    intro i hi
    have H := ih (i + 1) (by omega)
    have h1 := qs_few_le (qs_ch_le f) i
    have h2 := qs_ch_le f i
    refine br_f (nI_ge (b := 64) (by omega) (by decide)) (qs_yCh A M ht hA _ (pk_le (qs_few (qs_ch f) i) (qs_ch f i) (fun z => ?_) (fun z => ?_)))
    · have e := qs_few_k (qs_ch_le f) z
      rw [e.2] at H
      exact nm_r (nI_1 i) H
    · have e := qs_few_n z
      rw [e.2] at H
      exact nm_r (nI_1 i) H
theorem qs_yNearL (A M : Nat → Int32) {t : Nat} (ht : t < 4) {f : Nat → Bool} (hA : qs_row A t f) (post : Int32 → Prop) (hp : post (nI (qs_best (qs_ch f) 64))) : ∀ d i : Nat, i + d = 64 → wY_nearest_16 post (nI t) A M (d + 1) (nI (qs_best (qs_ch f) i)) (nI i) := by
  intro d
  induction d with
  | zero =>
    intro i hi
    have e : i = 64 := by omega
    subst e
    exact br_t (nI_le (a := 64) (Nat.le_refl _) (by decide)) hp
  | succ d ih =>
    intro i hi
    have H := ih (i + 1) (by omega)
    have h1 := qs_ch_le f (qs_best (qs_ch f) i)
    have h2 := qs_ch_le f i
    rw [qs_best_s] at H
    refine br_f (nI_ge (b := 64) (by omega) (by decide)) (qs_yCh A M ht hA _ (qs_yCh A M ht hA _ (pk_le (qs_ch f (qs_best (qs_ch f) i)) (qs_ch f i) (fun z => ?_) (fun z => ?_))))
    · rw [if_neg (by omega)] at H
      exact nm_r (nI_1 i) H
    · rw [if_pos z] at H
      exact nm_r (nI_1 i) H
/-! immunity: the component keeps one less than the reference -/
theorem qs_immL (U : Nat → Int64) (A M : Nat → Int32) {t : Nat} (ht : t < 4) (hA : qs_row A t (qs_b (U (nI t).toNatClampNeg))) : ∀ d i L : Nat, i + d = 64 → 1 ≤ i → 1 ≤ L → L ≤ 7 → ∃ r : Int32, (∀ post : Int32 → Prop, post r → wX_immunity_16 post (nI t) U (d + 1) (nI (L - 1)) (nI i)) ∧ (∀ post : Int32 → Prop, post r → wY_immunity_17 post (nI t) A M (d + 1) (nI L) (nI i)) := by
  intro d
  induction d with
  | zero =>
    intro i L hi h1 hL hL7
    have e : i = 64 := by omega
    subst e
    refine ⟨nI (L - 1), fun _ hp => br_t (nI_le (a := 64) (Nat.le_refl _) (by decide)) hp, fun post hp => br_t (nI_le (a := 64) (Nat.le_refl _) (by decide)) ?_⟩
    have e : nI L - 1 = nI (L - 1) := pk_sub (b := 1) hL
    rw [e]
    exact hp
  | succ d ih =>
    intro i L hi h1 hL hL7
    have hi2 : i < 64 := by omega
    have hn : ¬ (64 : Int32) ≤ nI i := nI_ge (b := 64) hi2 (by decide)
    have hs6 := qs_sz_le i
    have hs1 := qs_sz_pos i hi2 (by omega)
    by_cases hz : qs_sp (qs_b (U (nI t).toNatClampNeg)) i = 0
    · obtain ⟨r, hX, hY⟩ := ih (i + 1) L (by omega) (by omega) hL hL7
      refine ⟨r, fun post hp => ?_, fun post hp => ?_⟩
      · exact br_f hn (qs_xSize rfl hi2 _ (br_c (fun _ => nm_r (nI_1 i) (hX post hp)) (fun _ => ⟨qs_i4 ht, qs_xSpec _ hi2 _ (br_t hz (nm_r (nI_1 i) (hX post hp)))⟩)))
      · exact br_f hn (qs_ySize A M rfl hi2 _ (qs_ySpec A M ht hA _ (br_t hz (nm_r (nI_1 i) (hY post hp)))))
    · by_cases hs : qs_sz i < L
      · obtain ⟨r, hX, hY⟩ := ih (i + 1) (qs_sz i) (by omega) (by omega) (by omega) (by omega)
        refine ⟨r, fun post hp => ?_, fun post hp => ?_⟩
        · exact br_f hn (qs_xSize rfl hi2 _ (br_f (nI_nlt (by omega) (by omega)) ⟨qs_i4 ht, qs_xSpec _ hi2 _ (br_f hz (nm_r (pk_sub (b := 1) hs1) (nm_r (nI_1 i) (hX post hp))))⟩))
        · exact br_f hn (qs_ySize A M rfl hi2 _ (qs_ySpec A M ht hA _ (br_f hz (br_f (nI_ge hs (by omega)) (nm_r (nI_1 i) (hY post hp))))))
      · obtain ⟨r, hX, hY⟩ := ih (i + 1) L (by omega) (by omega) hL hL7
        refine ⟨r, fun post hp => ?_, fun post hp => ?_⟩
        · exact br_f hn (qs_xSize rfl hi2 _ (br_t (nI_lt (by omega) (by omega)) (nm_r (nI_1 i) (hX post hp))))
        · exact br_f hn (qs_ySize A M rfl hi2 _ (qs_ySpec A M ht hA _ (br_f hz (br_t (nI_le (by omega) (by omega)) (nm_r (nI_1 i) (hY post hp))))))
/-! variables, structures: the moved table against the count of points that stay -/
theorem qs_smA {w z : Int64} {a : Nat} (hz : ∀ x, x < 64 → qs_b z x = qs_b w (x ^^^ a)) : z = w ↔ qs_sm (qs_b w) a = 64 := by
  unfold qs_sm
  rw [qs_cnt_n]
  constructor
  · intro e x hx
    have h := hz x hx
    rw [e] at h
    rw [← h, Bool.xor_self]
    rfl
  · intro h
    refine qs_ext (fun x hx => ?_)
    have h2 := h x hx
    rw [hz x hx]
    revert h2
    cases qs_b w x <;> cases qs_b w (x ^^^ a) <;> decide
theorem qs_smB {w z : Int64} {a : Nat} (hz : ∀ x, x < 64 → qs_b z x = qs_b w (x ^^^ a)) : w ^^^ z = 0 ↔ qs_sm (qs_b w) a = 64 := by
  unfold qs_sm
  rw [qs_cnt_n]
  constructor
  · intro e x hx
    have h := congrArg (fun y => qs_b y x) e
    have h2 : qs_b (w ^^^ z) x = qs_b 0 x := h
    rw [qs_xor, hz x hx, qs_0] at h2
    rw [h2]
    rfl
  · intro h
    refine qs_ext (fun x hx => ?_)
    have h2 := h x hx
    rw [qs_xor, hz x hx, qs_0]
    revert h2
    cases qs_b w x <;> cases qs_b w (x ^^^ a) <;> decide
theorem qs_smC {w z : Int64} {a : Nat} (hz : ∀ x, x < 64 → qs_b z x = qs_b w (x ^^^ a)) : w ^^^ z = -1 ↔ qs_sm (qs_b w) a = 0 := by
  unfold qs_sm
  rw [qs_cnt_0]
  constructor
  · intro e x hx
    have h := congrArg (fun y => qs_b y x) e
    have h2 : qs_b (w ^^^ z) x = qs_b (-1) x := h
    rw [qs_xor, hz x hx, qs_m1 x hx] at h2
    rw [h2]
    rfl
  · intro h
    refine qs_ext (fun x hx => ?_)
    have h2 := h x hx
    rw [qs_xor, hz x hx, qs_m1 x hx]
    revert h2
    cases qs_b w x <;> cases qs_b w (x ^^^ a) <;> decide
theorem qs_varL (U : Nat → Int64) (A M : Nat → Int32) {t : Nat} (ht : t < 4) (hA : qs_row A t (qs_b (U (nI t).toNatClampNeg))) : ∀ (d i : Nat) (g : Int32), i + d = 6 → ∃ r : Int32, (∀ post : Int32 → Prop, post r → wX_variables_15 post (nI t) U (d + 1) g (nI i)) ∧ (∀ post : Int32 → Prop, post r → wY_variables_16 post (nI t) A M (d + 1) g (nI i)) := by
  intro d
  induction d with
  | zero =>
    intro i g hi
    have e : i = 6 := by omega
    subst e
    exact ⟨g, fun _ hp => br_t (nI_le (a := 6) (Nat.le_refl _) (by decide)) hp, fun _ hp => br_t (nI_le (a := 6) (Nat.le_refl _) (by decide)) hp⟩
  | succ d ih =>
    intro i g hi
    have hi2 : i < 6 := by omega
    have hn : ¬ (6 : Int32) ≤ nI i := nI_ge (b := 6) hi2 (by decide)
    have hsh := qs_sh i hi2
    have h64 := qs_sh64 i hi2
    have hle := qs_sm_le (qs_b (U (nI t).toNatClampNeg)) (2 ^ i)
    by_cases hs : qs_sm (qs_b (U (nI t).toNatClampNeg)) (2 ^ i) = 64
    · obtain ⟨r, hX, hY⟩ := ih (i + 1) g (by omega)
      refine ⟨r, fun post hp => ?_, fun post hp => ?_⟩
      · exact br_f hn (nm_e ⟨qs_i4 ht, qs_xMoved _ hsh h64 _ (fun z hz => ⟨qs_i4 ht, br_t ((qs_smA hz).mpr hs) (nm_r (nI_1 i) (hX post hp))⟩)⟩)
      · exact br_f hn (qs_ySm A M hsh ht h64 hA _ (br_t (nI_le (a := 64) (by omega) (by omega)) (nm_r (nI_1 i) (hY post hp))))
    · obtain ⟨r, hX, hY⟩ := ih (i + 1) (g ||| ((1 : Int32) <<< (nI i &&& 31))) (by omega)
      refine ⟨r, fun post hp => ?_, fun post hp => ?_⟩
      · exact br_f hn (nm_e ⟨qs_i4 ht, qs_xMoved _ hsh h64 _ (fun z hz => ⟨qs_i4 ht, br_f (fun y => hs ((qs_smA hz).mp y)) (nm_e (nm_r (nI_1 i) (hX post hp)))⟩)⟩)
      · exact br_f hn (qs_ySm A M hsh ht h64 hA _ (br_f (nI_ge (b := 64) (by omega) (by decide)) (nm_e (nm_r (nI_1 i) (hY post hp)))))
theorem qs_strL (U : Nat → Int64) (A M : Nat → Int32) {t : Nat} (ht : t < 4) (hA : qs_row A t (qs_b (U (nI t).toNatClampNeg))) : ∀ (d i : Nat) (g : Int32), i + d = 64 → ∃ r : Int32, (∀ post : Int32 → Prop, post r → wX_structures_15 post (nI t) U (d + 1) g (nI i)) ∧ (∀ post : Int32 → Prop, post r → wY_structures_16 post (nI t) A M (d + 1) g (nI i)) := by
  intro d
  induction d with
  | zero =>
    intro i g hi
    have e : i = 64 := by omega
    subst e
    exact ⟨g, fun _ hp => br_t (nI_le (a := 64) (Nat.le_refl _) (by decide)) hp, fun _ hp => br_t (nI_le (a := 64) (Nat.le_refl _) (by decide)) hp⟩
  | succ d ih =>
    intro i g hi
    have hi2 : i < 64 := by omega
    have hn : ¬ (64 : Int32) ≤ nI i := nI_ge (b := 64) hi2 (by decide)
    have hle := qs_sm_le (qs_b (U (nI t).toNatClampNeg)) i
    by_cases hs : qs_sm (qs_b (U (nI t).toNatClampNeg)) i = 64
    · have e64 : nI (qs_sm (qs_b (U (nI t).toNatClampNeg)) i) = 64 := congrArg nI hs
      obtain ⟨r, hX, hY⟩ := ih (i + 1) (g + 1) (by omega)
      refine ⟨r, fun post hp => ?_, fun post hp => ?_⟩
      · exact br_f hn ⟨qs_i4 ht, qs_i4 ht, qs_xMoved _ rfl hi2 _ (fun z hz => nm_e (br_t ((qs_smB hz).mpr hs) (nm_e (nm_r (nI_1 i) (hX post hp)))))⟩
      · exact br_f hn (qs_ySm A M rfl ht hi2 hA _ (br_f (by rw [e64]; decide) (br_t e64 (nm_e (nm_r (nI_1 i) (hY post hp))))))
    · by_cases h0 : qs_sm (qs_b (U (nI t).toNatClampNeg)) i = 0
      · have e0 : nI (qs_sm (qs_b (U (nI t).toNatClampNeg)) i) = 0 := congrArg nI h0
        obtain ⟨r, hX, hY⟩ := ih (i + 1) (g + 1) (by omega)
        refine ⟨r, fun post hp => ?_, fun post hp => ?_⟩
        · exact br_f hn ⟨qs_i4 ht, qs_i4 ht, qs_xMoved _ rfl hi2 _ (fun z hz => nm_e (br_f (fun y => hs ((qs_smB hz).mp y)) (br_t ((qs_smC hz).mpr h0) (nm_e (nm_r (nI_1 i) (hX post hp))))))⟩
        · exact br_f hn (qs_ySm A M rfl ht hi2 hA _ (br_t e0 (nm_e (nm_r (nI_1 i) (hY post hp)))))
      · obtain ⟨r, hX, hY⟩ := ih (i + 1) g (by omega)
        refine ⟨r, fun post hp => ?_, fun post hp => ?_⟩
        · exact br_f hn ⟨qs_i4 ht, qs_i4 ht, qs_xMoved _ rfl hi2 _ (fun z hz => nm_e (br_f (fun y => hs ((qs_smB hz).mp y)) (br_f (fun y => h0 ((qs_smC hz).mp y)) (nm_r (nI_1 i) (hX post hp)))))⟩
        · exact br_f hn (qs_ySm A M rfl ht hi2 hA _ (br_f (fun y => h0 ((nI_eq (b := 0) (by omega) (by decide)).mp y)) (br_f (fun y => hs ((nI_eq (b := 64) (by omega) (by decide)).mp y)) (nm_r (nI_1 i) (hY post hp)))))
end
section
/-! shifted: one b alone can fit an a -/
def qs_dig (f : Nat → Bool) : Nat → Nat
  | 0 => 0
  | i + 1 => qs_dig f i + (f (2 ^ i)).toNat * 2 ^ i
theorem qs_dig_s (f : Nat → Bool) (i : Nat) : qs_dig f (i + 1) = qs_dig f i + (f (2 ^ i)).toNat * 2 ^ i := rfl
theorem qs_dig_lt (f : Nat → Bool) (i : Nat) : qs_dig f i < 2 ^ i := by
  induction i with
  | zero => exact Nat.one_pos
  | succ i ih =>
    rw [qs_dig_s, Nat.pow_succ]
    cases f (2 ^ i)
    · rw [show false.toNat = 0 from rfl, Nat.zero_mul]; omega
    · rw [show true.toNat = 1 from rfl, Nat.one_mul]; omega
theorem qs_dig_cg {f g : Nat → Bool} (h : ∀ x, x < 64 → f x = g x) : ∀ i, i ≤ 6 → qs_dig f i = qs_dig g i := by
  intro i
  induction i with
  | zero => intro _; rfl
  | succ i ih =>
    intro hi
    rw [qs_dig_s, qs_dig_s, ih (by omega), h _ (qs_sh64 i (by omega))]
theorem qs_dig_par : ∀ b, b < 64 → qs_dig (qs_par b) 6 = b := by decide +kernel
theorem qs_dig_or : ∀ i, i < 6 → ∀ D, D < 2 ^ i → nI D ||| (nI 1 <<< (nI i &&& 31)) = nI (D + 1 * 2 ^ i) ∧ nI D ||| (nI 0 <<< (nI i &&& 31)) = nI (D + 0 * 2 ^ i) := by decide +kernel
theorem qs_dig_ob {i D : Nat} (hi : i < 6) (hD : D < 2 ^ i) (b : Bool) : nI D ||| (nI b.toNat <<< (nI i &&& 31)) = nI (D + b.toNat * 2 ^ i) := by
  cases b
  · exact (qs_dig_or i hi D hD).2
  · exact (qs_dig_or i hi D hD).1
theorem qs_xDigL (w : Int64) (post : Int32 → Prop) (hp : post (nI (qs_dig (qs_b w) 6))) : ∀ d i : Nat, i + d = 6 → wX_valuesAtSingleDigits_4 post w (d + 1) (nI (qs_dig (qs_b w) i)) (nI i) := by
  intro d
  induction d with
  | zero =>
    intro i hi
    have e : i = 6 := by omega
    subst e
    exact br_t (nI_le (a := 6) (Nat.le_refl _) (by decide)) hp
  | succ d ih =>
    intro i hi
    have hi2 : i < 6 := by omega
    exact br_f (nI_ge (b := 6) hi2 (by decide)) (nm_r (qs_sh i hi2) (qs_xVal w (qs_sh64 i hi2) _ (nm_r (qs_dig_ob hi2 (qs_dig_lt _ i) _) (nm_r (nI_1 i) (ih (i + 1) (by omega))))))
theorem qs_xDig (w : Int64) (post : Int32 → Prop) (hp : post (nI (qs_dig (qs_b w) 6))) : wpX_valuesAtSingleDigits post w :=
  ⟨7, qs_xDigL w post hp 6 0 rfl⟩
/-- by a and b the table g becomes f -/
def qs_by (f g : Nat → Bool) (a b : Nat) : Prop := ∀ x, x < 64 → f x = (g (x ^^^ a) ^^ qs_par b x)
theorem qs_lin {w z m l : Int64} {a : Nat} (hm : ∀ x, x < 64 → qs_b m x = qs_b z (x ^^^ a)) (hl : ∀ x, x < 64 → qs_b l x = qs_par (qs_dig (qs_b (w ^^^ m)) 6) x) : l = w ^^^ m ↔ ∃ b, b < 64 ∧ qs_by (qs_b w) (qs_b z) a b := by
  constructor
  · intro e
    refine ⟨qs_dig (qs_b (w ^^^ m)) 6, qs_dig_lt _ 6, fun x hx => ?_⟩
    have h := hl x hx
    rw [← h, e, qs_xor, hm x hx]
    cases qs_b w x <;> cases qs_b z (x ^^^ a) <;> rfl
  · rintro ⟨b, hb, hby⟩
    have hr : ∀ x, x < 64 → qs_b (w ^^^ m) x = qs_par b x := fun x hx => by
      rw [qs_xor, hm x hx, hby x hx]
      cases qs_par b x <;> cases qs_b z (x ^^^ a) <;> rfl
    refine qs_ext (fun x hx => ?_)
    rw [hl x hx, qs_dig_cg hr 6 (Nat.le_refl _), qs_dig_par b hb, hr x hx]
theorem qs_xShL (U : Nat → Int64) {t s : Nat} (ht : t < 4) (hs : s < 4) : ∀ d i : Nat, i + d = 64 → ∃ r : Int32, ((r = 1 ∧ ∃ a, i ≤ a ∧ a < 64 ∧ ∃ b, b < 64 ∧ qs_by (qs_b (U t)) (qs_b (U s)) a b) ∨ (r = 0 ∧ ∀ a, i ≤ a → a < 64 → ¬ ∃ b, b < 64 ∧ qs_by (qs_b (U t)) (qs_b (U s)) a b)) ∧ ∀ post : Int32 → Prop, post r → wX_shifted_18 post (nI t) (nI s) U (d + 1) (nI i) := by
  intro d
  induction d with
  | zero =>
    intro i hi
    have e : i = 64 := by omega
    subst e
    exact ⟨0, Or.inr ⟨rfl, fun a h1 h2 => absurd h2 (by omega)⟩, fun _ hp => br_t (nI_le (a := 64) (Nat.le_refl _) (by decide)) hp⟩
  | succ d ih =>
    intro i hi
    have hi2 : i < 64 := by omega
    have hn : ¬ (64 : Int32) ≤ nI i := nI_ge (b := 64) hi2 (by decide)
    by_cases h : ∃ b, b < 64 ∧ qs_by (qs_b (U t)) (qs_b (U s)) i b
    · refine ⟨1, Or.inl ⟨rfl, i, Nat.le_refl _, hi2, h⟩, fun post hp => ?_⟩
      refine br_f hn ⟨qs_i4 ht, qs_i4 hs, ?_⟩
      rw [qs_c4 ht, qs_c4 hs]
      exact qs_xMoved _ rfl hi2 _ (fun m hm => nm_e (qs_xDig _ _ (qs_xLin (qs_dig_lt _ 6) _ (fun l hl => br_t ((qs_lin hm hl).mpr h) hp))))
    · obtain ⟨r, hr, hX⟩ := ih (i + 1) (by omega)
      refine ⟨r, ?_, fun post hp => ?_⟩
      · rcases hr with ⟨e, a, h1, h2, h3⟩ | ⟨e, h1⟩
        · exact Or.inl ⟨e, a, by omega, h2, h3⟩
        · refine Or.inr ⟨e, fun a g1 g2 => ?_⟩
          by_cases ea : a = i
          · subst ea; exact h
          · exact h1 a (by omega) g2
      · refine br_f hn ⟨qs_i4 ht, qs_i4 hs, ?_⟩
        rw [qs_c4 ht, qs_c4 hs]
        exact qs_xMoved _ rfl hi2 _ (fun m hm => nm_e (qs_xDig _ _ (qs_xLin (qs_dig_lt _ 6) _ (fun l hl => br_f (fun y => h ((qs_lin hm hl).mp y)) (nm_r (nI_1 i) (hX post hp))))))
theorem qs_yByL (A M : Nat → Int32) {t s a b : Nat} (ht : t < 4) (hs : s < 4) (ha : a < 64) {f g : Nat → Bool} (hA : qs_row A t f) (hB : qs_row A s g) (post : Int32 → Prop) (h1 : qs_by f g a b → post 1) (h0 : ¬ qs_by f g a b → post 0) : ∀ d i : Nat, i + d = 64 → (∀ x, x < i → f x = (g (x ^^^ a) ^^ qs_par b x)) → wY_comesBy_3 post (nI t) (nI s) (nI a) (nI b) A M (d + 1) (nI i) := by
  intro d
  induction d with
  | zero =>
    intro i hi h
    have e : i = 64 := by omega
    subst e
    exact br_t (nI_le (a := 64) (Nat.le_refl _) (by decide)) (h1 h)
  | succ d ih =>
    intro i hi h
    have hi2 : i < 64 := by omega
    refine br_f (nI_ge (b := 64) hi2 (by decide)) ⟨qs_in ht hi2, qs_inX hs hi2 ha, qs_yProd A M b hi2 _ ?_⟩
    rw [qs_rd hA ht hi2, qs_rdX hB hs hi2 ha, qs_bx, qs_bi]
    refine br_c (fun z => nm_r (nI_1 i) (ih (i + 1) (by omega) (fun x hx => ?_))) (fun z => h0 (fun y => z (y i hi2)))
    by_cases e : x = i
    · subst e; exact z
    · exact h x (by omega)
theorem qs_yBy (A M : Nat → Int32) {va vb : Int32} {t s a b : Nat} (hva : va = nI a) (hvb : vb = nI b) (ht : t < 4) (hs : s < 4) (ha : a < 64) {f g : Nat → Bool} (hA : qs_row A t f) (hB : qs_row A s g) (post : Int32 → Prop) (h1 : qs_by f g a b → post 1) (h0 : ¬ qs_by f g a b → post 0) : wpY_comesBy post (A, M) (nI t) (nI s) va vb := by
  subst hva hvb
  exact ⟨65, qs_yByL A M ht hs ha hA hB post h1 h0 64 0 rfl (fun x hx => absurd hx (Nat.not_lt_zero x))⟩
theorem qs_yShL (A M : Nat → Int32) {t s : Nat} (ht : t < 4) (hs : s < 4) {f g : Nat → Bool} (hA : qs_row A t f) (hB : qs_row A s g) : ∀ d i : Nat, i + d = 4096 → ∃ r : Int32, ((r = 1 ∧ ∃ n, i ≤ n ∧ n < 4096 ∧ qs_by f g (n / 64) (n % 64)) ∨ (r = 0 ∧ ∀ n, i ≤ n → n < 4096 → ¬ qs_by f g (n / 64) (n % 64))) ∧ ∀ post : Int32 → Prop, post r → wY_shifted_20 post (nI t) (nI s) A M (d + 1) (nI i) := by
  intro d
  induction d with
  | zero =>
    intro i hi
    have e : i = 4096 := by omega
    subst e
    exact ⟨0, Or.inr ⟨rfl, fun a h1 h2 => absurd h2 (by omega)⟩, fun _ hp => br_t (nI_le (a := 4096) (Nat.le_refl _) (by decide)) hp⟩
  | succ d ih =>
    intro i hi
    have hi2 : i < 4096 := by omega
    have hn : ¬ (4096 : Int32) ≤ nI i := nI_ge (b := 4096) hi2 (by decide)
    have e1 : nI i / 64 = nI (i / 64) := pk_div (d := 64) (by omega) (by decide) (by decide)
    have e2 : nI i - nI i / 64 * 64 = nI (i % 64) := pk_rem (d := 64) (by omega) (by decide) (by decide)
    have h6 : ¬ (64 : Int32) = 0 := by decide
    by_cases h : qs_by f g (i / 64) (i % 64)
    · refine ⟨1, Or.inl ⟨rfl, i, Nat.le_refl _, hi2, h⟩, fun post hp => ?_⟩
      exact br_f hn ⟨h6, h6, qs_yBy A M e1 e2 ht hs (by omega) hA hB _ (fun _ => br_f qs_10 hp) (fun y => absurd h y)⟩
    · obtain ⟨r, hr, hY⟩ := ih (i + 1) (by omega)
      refine ⟨r, ?_, fun post hp => ?_⟩
      · rcases hr with ⟨e, a, h1, h2, h3⟩ | ⟨e, h1⟩
        · exact Or.inl ⟨e, a, by omega, h2, h3⟩
        · refine Or.inr ⟨e, fun a g1 g2 => ?_⟩
          by_cases ea : a = i
          · subst ea; exact h
          · exact h1 a (by omega) g2
      · exact br_f hn ⟨h6, h6, qs_yBy A M e1 e2 ht hs (by omega) hA hB _ (fun y => absurd y h) (fun _ => br_t rfl (nm_r (nI_1 i) (hY post hp)))⟩
theorem qs_shEq {f g : Nat → Bool} : (∃ a, 0 ≤ a ∧ a < 64 ∧ ∃ b, b < 64 ∧ qs_by f g a b) ↔ ∃ n, 0 ≤ n ∧ n < 4096 ∧ qs_by f g (n / 64) (n % 64) := by
  constructor
  · rintro ⟨a, _, ha, b, hb, h⟩
    refine ⟨64 * a + b, by omega, by omega, ?_⟩
    rw [show (64 * a + b) / 64 = a by omega, show (64 * a + b) % 64 = b by omega]
    exact h
  · rintro ⟨n, _, hn, h⟩
    exact ⟨n / 64, by omega, by omega, n % 64, by omega, h⟩
end
section
/-! the statements owed for the methods with loops -/
theorem qs_Iw {k : Nat} {u : SX} {A M : Nat → Int32} (I : i_Rel k u (A, M)) {t : Nat} (ht : t < 4) : qs_row A t (qs_b (u (nI t).toNatClampNeg)) := by
  rw [qs_c4 ht]
  exact I t ht
theorem i_vc_degree {k : Nat} {u : SX} {v : SY} (I : i_Rel k u v) (hk : k + 5 ≤ 2560) (v1 : Int32) : wpX_degree (fun r => wpY_degree (fun r' => r' = r ∧ i_Rel (k + 5) u v) v v1) u v1 := by
  obtain ⟨A, M⟩ := v
  unfold wpX_degree wpY_degree
  dsimp only
  rcases qs_tab v1 with ⟨t, ht, rfl⟩ | ⟨bX, bY⟩
  · obtain ⟨r, hX, hY⟩ := qs_degL u A M ht (qs_Iw I ht) 64 0 0 rfl (by decide)
    exact qs_xT ht _ (br_f qs_10 ⟨65, hX _ (qs_yT _ ht _ (br_f qs_10 ⟨65, hY _ ⟨rfl, I⟩⟩))⟩)
  · exact bX _ (br_t rfl (bY _ _ (br_t rfl ⟨rfl, I⟩)))
theorem i_vc_distance {k : Nat} {u : SX} {v : SY} (I : i_Rel k u v) (hk : k + 5 ≤ 2560) (v1 : Int32) : wpX_distance (fun r => wpY_distance (fun r' => r' = r ∧ i_Rel (k + 5) u v) v v1) u v1 := by
  obtain ⟨A, M⟩ := v
  unfold wpX_distance wpY_distance
  dsimp only
  rcases qs_tab v1 with ⟨t, ht, rfl⟩ | ⟨bX, bY⟩
  · have hb : qs_best (qs_ch (qs_b (u (nI t).toNatClampNeg))) 64 < 64 := by
      have := qs_best_lt (qs_ch (qs_b (u (nI t).toNatClampNeg))) 64
      omega
    exact qs_xT ht _ (br_f qs_10 ⟨qs_i4 ht, qs_xNear _ _ ⟨qs_i4 ht, qs_xChange _ hb _ (qs_yT _ ht _ (br_f qs_10 ⟨65, qs_yDistL A M ht (qs_Iw I ht) _ ⟨rfl, I⟩ 64 0 rfl⟩))⟩⟩)
  · exact bX _ (br_t rfl (bY _ _ (br_t rfl ⟨rfl, I⟩)))
theorem i_vc_nearest {k : Nat} {u : SX} {v : SY} (I : i_Rel k u v) (hk : k + 5 ≤ 2560) (v1 : Int32) : wpX_nearest (fun r => wpY_nearest (fun r' => r' = r ∧ i_Rel (k + 5) u v) v v1) u v1 := by
  obtain ⟨A, M⟩ := v
  unfold wpX_nearest wpY_nearest
  dsimp only
  rcases qs_tab v1 with ⟨t, ht, rfl⟩ | ⟨bX, bY⟩
  · refine qs_xT ht _ (br_f qs_10 ⟨qs_i4 ht, qs_xNear _ _ (qs_yT _ ht _ (br_f qs_10 ⟨64, ?_⟩))⟩)
    have H := qs_yNearL A M ht (qs_Iw I ht) (fun r' => r' = nI (qs_best (qs_ch (qs_b (u (nI t).toNatClampNeg))) 64) ∧ i_Rel (k + 5) u (A, M)) ⟨rfl, I⟩ 63 1 rfl
    have e : qs_best (qs_ch (qs_b (u (nI t).toNatClampNeg))) 1 = 0 := if_neg (Nat.lt_irrefl _)
    rw [e] at H
    exact H
  · exact bX _ (br_t rfl (bY _ _ (br_t rfl ⟨rfl, I⟩)))
theorem i_vc_immunity {k : Nat} {u : SX} {v : SY} (I : i_Rel k u v) (hk : k + 5 ≤ 2560) (v1 : Int32) : wpX_immunity (fun r => wpY_immunity (fun r' => r' = r ∧ i_Rel (k + 5) u v) v v1) u v1 := by
  obtain ⟨A, M⟩ := v
  unfold wpX_immunity wpY_immunity
  dsimp only
  rcases qs_tab v1 with ⟨t, ht, rfl⟩ | ⟨bX, bY⟩
  · obtain ⟨r, hX, hY⟩ := qs_immL u A M ht (qs_Iw I ht) 63 1 7 rfl (by decide) (by decide) (by decide)
    exact qs_xT ht _ (br_f qs_10 ⟨64, hX _ (qs_yT _ ht _ (br_f qs_10 ⟨64, hY _ ⟨rfl, I⟩⟩))⟩)
  · exact bX _ (br_t rfl (bY _ _ (br_t rfl ⟨rfl, I⟩)))
theorem i_vc_variables {k : Nat} {u : SX} {v : SY} (I : i_Rel k u v) (hk : k + 5 ≤ 2560) (v1 : Int32) : wpX_variables (fun r => wpY_variables (fun r' => r' = r ∧ i_Rel (k + 5) u v) v v1) u v1 := by
  obtain ⟨A, M⟩ := v
  unfold wpX_variables wpY_variables
  dsimp only
  rcases qs_tab v1 with ⟨t, ht, rfl⟩ | ⟨bX, bY⟩
  · obtain ⟨r, hX, hY⟩ := qs_varL u A M ht (qs_Iw I ht) 6 0 0 rfl
    exact qs_xT ht _ (br_f qs_10 ⟨7, hX _ (qs_yT _ ht _ (br_f qs_10 ⟨7, hY _ ⟨rfl, I⟩⟩))⟩)
  · exact bX _ (br_t rfl (bY _ _ (br_t rfl ⟨rfl, I⟩)))
theorem i_vc_structures {k : Nat} {u : SX} {v : SY} (I : i_Rel k u v) (hk : k + 5 ≤ 2560) (v1 : Int32) : wpX_structures (fun r => wpY_structures (fun r' => r' = r ∧ i_Rel (k + 5) u v) v v1) u v1 := by
  obtain ⟨A, M⟩ := v
  unfold wpX_structures wpY_structures
  dsimp only
  rcases qs_tab v1 with ⟨t, ht, rfl⟩ | ⟨bX, bY⟩
  · obtain ⟨r, hX, hY⟩ := qs_strL u A M ht (qs_Iw I ht) 64 0 0 rfl
    exact qs_xT ht _ (br_f qs_10 ⟨65, hX _ (qs_yT _ ht _ (br_f qs_10 ⟨65, hY _ ⟨rfl, I⟩⟩))⟩)
  · exact bX _ (br_t rfl (bY _ _ (br_t rfl ⟨rfl, I⟩)))
theorem i_vc_shifted {k : Nat} {u : SX} {v : SY} (I : i_Rel k u v) (hk : k + 5 ≤ 2560) (v1 : Int32) (v2 : Int32) : wpX_shifted (fun r => wpY_shifted (fun r' => r' = r ∧ i_Rel (k + 5) u v) v v1 v2) u v1 v2 := by
  obtain ⟨A, M⟩ := v
  unfold wpX_shifted wpY_shifted
  dsimp only
  rcases qs_tab v1 with ⟨t, ht, rfl⟩ | ⟨bX, bY⟩
  · rcases qs_tab v2 with ⟨s, hs, rfl⟩ | ⟨bX, bY⟩
    · obtain ⟨r, hr, hX⟩ := qs_xShL u ht hs 64 0 rfl
      obtain ⟨r', hr', hY⟩ := qs_yShL A M ht hs (I t ht) (I s hs) 4096 0 rfl
      have e : r' = r := by
        rcases hr with ⟨e1, h1⟩ | ⟨e1, h1⟩
        · rcases hr' with ⟨e2, h2⟩ | ⟨e2, h2⟩
          · rw [e1, e2]
          · obtain ⟨n, a, b, c⟩ := qs_shEq.mp h1
            exact absurd c (h2 n a b)
        · rcases hr' with ⟨e2, h2⟩ | ⟨e2, h2⟩
          · obtain ⟨n, a, b, c⟩ := qs_shEq.mpr h2
            exact absurd c (h1 n a b)
          · rw [e1, e2]
      exact qs_xT ht _ (br_f qs_10 (qs_xT hs _ (br_f qs_10 ⟨65, hX _ (qs_yT _ ht _ (br_f qs_10 (qs_yT _ hs _ (br_f qs_10 ⟨4097, hY _ ⟨e, I⟩⟩))))⟩)))
    · exact qs_xT ht _ (br_f qs_10 (bX _ (br_t rfl (qs_yT _ ht _ (br_f qs_10 (bY _ _ (br_t rfl ⟨rfl, I⟩)))))))
  · exact bX _ (br_t rfl (bY _ _ (br_t rfl ⟨rfl, I⟩)))
end
