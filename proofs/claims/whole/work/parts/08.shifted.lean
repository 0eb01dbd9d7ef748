/-! shifted: one b alone can fit an a -/
def qs_dig (f : Nat → Bool) : Nat → Nat
  | 0 => 0
  | i + 1 => qs_dig f i + (f (2 ^ i)).toNat * 2 ^ i
theorem qs_dig_s (f : Nat → Bool) (i : Nat) : qs_dig f (i + 1) = qs_dig f i + (f (2 ^ i)).toNat * 2 ^ i := rfl
theorem qs_dig_lt (f : Nat → Bool) (i : Nat) : qs_dig f i < 2 ^ i := by
  induction i with
  | zero => exact Nat.one_pos
  | succ i ih =>
    rw [qs_dig_s, Nat.pow_succ]
    cases f (2 ^ i)
    · rw [show false.toNat = 0 from rfl, Nat.zero_mul]; omega
    · rw [show true.toNat = 1 from rfl, Nat.one_mul]; omega
theorem qs_dig_cg {f g : Nat → Bool} (h : ∀ x, x < 64 → f x = g x) : ∀ i, i ≤ 6 → qs_dig f i = qs_dig g i := by
  intro i
  induction i with
  | zero => intro _; rfl
  | succ i ih =>
    intro hi
    rw [qs_dig_s, qs_dig_s, ih (by omega), h _ (qs_sh64 i (by omega))]
theorem qs_dig_par : ∀ b, b < 64 → qs_dig (qs_par b) 6 = b := by decide +kernel
theorem qs_dig_or : ∀ i, i < 6 → ∀ D, D < 2 ^ i → nI D ||| (nI 1 <<< (nI i &&& 31)) = nI (D + 1 * 2 ^ i) ∧ nI D ||| (nI 0 <<< (nI i &&& 31)) = nI (D + 0 * 2 ^ i) := by decide +kernel
theorem qs_dig_ob {i D : Nat} (hi : i < 6) (hD : D < 2 ^ i) (b : Bool) : nI D ||| (nI b.toNat <<< (nI i &&& 31)) = nI (D + b.toNat * 2 ^ i) := by
  cases b
  · exact (qs_dig_or i hi D hD).2
  · exact (qs_dig_or i hi D hD).1
theorem qs_xDigL (w : Int64) (post : Int32 → Prop) (hp : post (nI (qs_dig (qs_b w) 6))) : ∀ d i : Nat, i + d = 6 → wX_valuesAtSingleDigits_4 post w (d + 1) (nI (qs_dig (qs_b w) i)) (nI i) := by
  intro d
  induction d with
  | zero =>
    intro i hi
    have e : i = 6 := by omega
    subst e
    exact br_t (nI_le (a := 6) (Nat.le_refl _) (by decide)) hp
  | succ d ih =>
    intro i hi
    have hi2 : i < 6 := by omega
    exact br_f (nI_ge (b := 6) hi2 (by decide)) (nm_r (qs_sh i hi2) (qs_xVal w (qs_sh64 i hi2) _ (nm_r (qs_dig_ob hi2 (qs_dig_lt _ i) _) (nm_r (nI_1 i) (ih (i + 1) (by omega))))))
theorem qs_xDig (w : Int64) (post : Int32 → Prop) (hp : post (nI (qs_dig (qs_b w) 6))) : wpX_valuesAtSingleDigits post w :=
  ⟨7, qs_xDigL w post hp 6 0 rfl⟩
/-- by a and b the table g becomes f -/
def qs_by (f g : Nat → Bool) (a b : Nat) : Prop := ∀ x, x < 64 → f x = (g (x ^^^ a) ^^ qs_par b x)
theorem qs_lin {w z m l : Int64} {a : Nat} (hm : ∀ x, x < 64 → qs_b m x = qs_b z (x ^^^ a)) (hl : ∀ x, x < 64 → qs_b l x = qs_par (qs_dig (qs_b (w ^^^ m)) 6) x) : l = w ^^^ m ↔ ∃ b, b < 64 ∧ qs_by (qs_b w) (qs_b z) a b := by
  constructor
  · intro e
    refine ⟨qs_dig (qs_b (w ^^^ m)) 6, qs_dig_lt _ 6, fun x hx => ?_⟩
    have h := hl x hx
    rw [← h, e, qs_xor, hm x hx]
    cases qs_b w x <;> cases qs_b z (x ^^^ a) <;> rfl
  · rintro ⟨b, hb, hby⟩
    have hr : ∀ x, x < 64 → qs_b (w ^^^ m) x = qs_par b x := fun x hx => by
      rw [qs_xor, hm x hx, hby x hx]
      cases qs_par b x <;> cases qs_b z (x ^^^ a) <;> rfl
    refine qs_ext (fun x hx => ?_)
    rw [hl x hx, qs_dig_cg hr 6 (Nat.le_refl _), qs_dig_par b hb, hr x hx]
theorem qs_xShL (U : Nat → Int64) {t s : Nat} (ht : t < 4) (hs : s < 4) : ∀ d i : Nat, i + d = 64 → ∃ r : Int32, ((r = 1 ∧ ∃ a, i ≤ a ∧ a < 64 ∧ ∃ b, b < 64 ∧ qs_by (qs_b (U t)) (qs_b (U s)) a b) ∨ (r = 0 ∧ ∀ a, i ≤ a → a < 64 → ¬ ∃ b, b < 64 ∧ qs_by (qs_b (U t)) (qs_b (U s)) a b)) ∧ ∀ post : Int32 → Prop, post r → wX_shifted_18 post (nI t) (nI s) U (d + 1) (nI i) := by
  intro d
  induction d with
  | zero =>
    intro i hi
    have e : i = 64 := by omega
    subst e
    exact ⟨0, Or.inr ⟨rfl, fun a h1 h2 => absurd h2 (by omega)⟩, fun _ hp => br_t (nI_le (a := 64) (Nat.le_refl _) (by decide)) hp⟩
  | succ d ih =>
    intro i hi
    have hi2 : i < 64 := by omega
    have hn : ¬ (64 : Int32) ≤ nI i := nI_ge (b := 64) hi2 (by decide)
    by_cases h : ∃ b, b < 64 ∧ qs_by (qs_b (U t)) (qs_b (U s)) i b
    · refine ⟨1, Or.inl ⟨rfl, i, Nat.le_refl _, hi2, h⟩, fun post hp => ?_⟩
      refine br_f hn ⟨qs_i4 ht, qs_i4 hs, ?_⟩
      rw [qs_c4 ht, qs_c4 hs]
      exact qs_xMoved _ rfl hi2 _ (fun m hm => nm_e (qs_xDig _ _ (qs_xLin (qs_dig_lt _ 6) _ (fun l hl => br_t ((qs_lin hm hl).mpr h) hp))))
    · obtain ⟨r, hr, hX⟩ := ih (i + 1) (by omega)
      refine ⟨r, ?_, fun post hp => ?_⟩
      · rcases hr with ⟨e, a, h1, h2, h3⟩ | ⟨e, h1⟩
        · exact Or.inl ⟨e, a, by omega, h2, h3⟩
        · refine Or.inr ⟨e, fun a g1 g2 => ?_⟩
          by_cases ea : a = i
          · subst ea; exact h
          · exact h1 a (by omega) g2
      · refine br_f hn ⟨qs_i4 ht, qs_i4 hs, ?_⟩
        rw [qs_c4 ht, qs_c4 hs]
        exact qs_xMoved _ rfl hi2 _ (fun m hm => nm_e (qs_xDig _ _ (qs_xLin (qs_dig_lt _ 6) _ (fun l hl => br_f (fun y => h ((qs_lin hm hl).mp y)) (nm_r (nI_1 i) (hX post hp))))))
theorem qs_yByL (A M : Nat → Int32) {t s a b : Nat} (ht : t < 4) (hs : s < 4) (ha : a < 64) {f g : Nat → Bool} (hA : qs_row A t f) (hB : qs_row A s g) (post : Int32 → Prop) (h1 : qs_by f g a b → post 1) (h0 : ¬ qs_by f g a b → post 0) : ∀ d i : Nat, i + d = 64 → (∀ x, x < i → f x = (g (x ^^^ a) ^^ qs_par b x)) → wY_comesBy_3 post (nI t) (nI s) (nI a) (nI b) A M (d + 1) (nI i) := by
  intro d
  induction d with
  | zero =>
    intro i hi h
    have e : i = 64 := by omega
    subst e
    exact br_t (nI_le (a := 64) (Nat.le_refl _) (by decide)) (h1 h)
  | succ d ih =>
    intro i hi h
    have hi2 : i < 64 := by omega
    refine br_f (nI_ge (b := 64) hi2 (by decide)) ⟨qs_in ht hi2, qs_inX hs hi2 ha, qs_yProd A M b hi2 _ ?_⟩
    rw [qs_rd hA ht hi2, qs_rdX hB hs hi2 ha, qs_bx, qs_bi]
    refine br_c (fun z => nm_r (nI_1 i) (ih (i + 1) (by omega) (fun x hx => ?_))) (fun z => h0 (fun y => z (y i hi2)))
    by_cases e : x = i
    · subst e; exact z
    · exact h x (by omega)
theorem qs_yBy (A M : Nat → Int32) {va vb : Int32} {t s a b : Nat} (hva : va = nI a) (hvb : vb = nI b) (ht : t < 4) (hs : s < 4) (ha : a < 64) {f g : Nat → Bool} (hA : qs_row A t f) (hB : qs_row A s g) (post : Int32 → Prop) (h1 : qs_by f g a b → post 1) (h0 : ¬ qs_by f g a b → post 0) : wpY_comesBy post (A, M) (nI t) (nI s) va vb := by
  subst hva hvb
  exact ⟨65, qs_yByL A M ht hs ha hA hB post h1 h0 64 0 rfl (fun x hx => absurd hx (Nat.not_lt_zero x))⟩
theorem qs_yShL (A M : Nat → Int32) {t s : Nat} (ht : t < 4) (hs : s < 4) {f g : Nat → Bool} (hA : qs_row A t f) (hB : qs_row A s g) : ∀ d i : Nat, i + d = 4096 → ∃ r : Int32, ((r = 1 ∧ ∃ n, i ≤ n ∧ n < 4096 ∧ qs_by f g (n / 64) (n % 64)) ∨ (r = 0 ∧ ∀ n, i ≤ n → n < 4096 → ¬ qs_by f g (n / 64) (n % 64))) ∧ ∀ post : Int32 → Prop, post r → wY_shifted_20 post (nI t) (nI s) A M (d + 1) (nI i) := by
  intro d
  induction d with
  | zero =>
    intro i hi
    have e : i = 4096 := by omega
    subst e
    exact ⟨0, Or.inr ⟨rfl, fun a h1 h2 => absurd h2 (by omega)⟩, fun _ hp => br_t (nI_le (a := 4096) (Nat.le_refl _) (by decide)) hp⟩
  | succ d ih =>
    intro i hi
    have hi2 : i < 4096 := by omega
    have hn : ¬ (4096 : Int32) ≤ nI i := nI_ge (b := 4096) hi2 (by decide)
    have e1 : nI i / 64 = nI (i / 64) := pk_div (d := 64) (by omega) (by decide) (by decide)
    have e2 : nI i - nI i / 64 * 64 = nI (i % 64) := pk_rem (d := 64) (by omega) (by decide) (by decide)
    have h6 : ¬ (64 : Int32) = 0 := by decide
    by_cases h : qs_by f g (i / 64) (i % 64)
    · refine ⟨1, Or.inl ⟨rfl, i, Nat.le_refl _, hi2, h⟩, fun post hp => ?_⟩
      exact br_f hn ⟨h6, h6, qs_yBy A M e1 e2 ht hs (by omega) hA hB _ (fun _ => br_f qs_10 hp) (fun y => absurd h y)⟩
    · obtain ⟨r, hr, hY⟩ := ih (i + 1) (by omega)
      refine ⟨r, ?_, fun post hp => ?_⟩
      · rcases hr with ⟨e, a, h1, h2, h3⟩ | ⟨e, h1⟩
        · exact Or.inl ⟨e, a, by omega, h2, h3⟩
        · refine Or.inr ⟨e, fun a g1 g2 => ?_⟩
          by_cases ea : a = i
          · subst ea; exact h
          · exact h1 a (by omega) g2
      · exact br_f hn ⟨h6, h6, qs_yBy A M e1 e2 ht hs (by omega) hA hB _ (fun y => absurd y h) (fun _ => br_t rfl (nm_r (nI_1 i) (hY post hp)))⟩
theorem qs_shEq {f g : Nat → Bool} : (∃ a, 0 ≤ a ∧ a < 64 ∧ ∃ b, b < 64 ∧ qs_by f g a b) ↔ ∃ n, 0 ≤ n ∧ n < 4096 ∧ qs_by f g (n / 64) (n % 64) := by
  constructor
  · rintro ⟨a, _, ha, b, hb, h⟩
    refine ⟨64 * a + b, by omega, by omega, ?_⟩
    rw [show (64 * a + b) / 64 = a by omega, show (64 * a + b) % 64 = b by omega]
    exact h
  · rintro ⟨n, _, hn, h⟩
    exact ⟨n / 64, by omega, by omega, n % 64, by omega, h⟩
