/-! degree, distance, nearest, immunity, variables, structures -/
theorem qs_degL (U : Nat → Int64) (A M : Nat → Int32) {t : Nat} (ht : t < 4) (hA : qs_row A t (qs_b (U (nI t).toNatClampNeg))) : ∀ d i g : Nat, i + d = 64 → g ≤ 6 → ∃ r : Int32, (∀ post : Int32 → Prop, post r → wX_degree_15 post (nI t) U (d + 1) (nI g) (nI i)) ∧ (∀ post : Int32 → Prop, post r → wY_degree_16 post (nI t) A M (d + 1) (nI g) (nI i)) := by
  intro d
  induction d with
  | zero =>
    intro i g hi hg
    have e : i = 64 := by omega
    subst e
    exact ⟨nI g, fun _ hp => br_t (nI_le (a := 64) (Nat.le_refl _) (by decide)) hp, fun _ hp => br_t (nI_le (a := 64) (Nat.le_refl _) (by decide)) hp⟩
  | succ d ih =>
    intro i g hi hg
    have hi2 : i < 64 := by omega
    have hn : ¬ (64 : Int32) ≤ nI i := nI_ge (b := 64) hi2 (by decide)
    have hs6 := qs_sz_le i
    by_cases hs : qs_sz i ≤ g
    · obtain ⟨r, hX, hY⟩ := ih (i + 1) g (by omega) hg
      refine ⟨r, fun post hp => ?_, fun post hp => ?_⟩
      · exact br_f hn (qs_xSize rfl hi2 _ (br_t (nI_le hs (by omega)) (nm_r (nI_1 i) (hX post hp))))
      · exact br_f hn (qs_ySize A M rfl hi2 _ (qs_yForm A M ht hi2 hA _ (br_c (fun _ => br_t (nI_le hs (by omega)) (nm_r (nI_1 i) (hY post hp))) (fun _ => nm_r (nI_1 i) (hY post hp)))))
    · have hs2 : ¬ nI (qs_sz i) ≤ nI g := nI_ge (by omega) (by omega)
      by_cases hF : qs_fm (qs_b (U (nI t).toNatClampNeg)) i = 1
      · have hF2 : nI (qs_fm (qs_b (U (nI t).toNatClampNeg)) i) = 1 := congrArg nI hF
        obtain ⟨r, hX, hY⟩ := ih (i + 1) (qs_sz i) (by omega) hs6
        refine ⟨r, fun post hp => ?_, fun post hp => ?_⟩
        · exact br_f hn (qs_xSize rfl hi2 _ (br_f hs2 ⟨qs_i4 ht, qs_xForm _ hi2 _ (br_t hF2 (nm_r (nI_1 i) (hX post hp)))⟩))
        · exact br_f hn (qs_ySize A M rfl hi2 _ (qs_yForm A M ht hi2 hA _ (br_t hF2 (br_f hs2 (nm_r (nI_1 i) (hY post hp))))))
      · have hF2 : ¬ nI (qs_fm (qs_b (U (nI t).toNatClampNeg)) i) = 1 := fun z => hF ((nI_eq (b := 1) (by have := qs_fm_le (qs_b (U (nI t).toNatClampNeg)) i; omega) (by decide)).mp z)
        obtain ⟨r, hX, hY⟩ := ih (i + 1) g (by omega) hg
        refine ⟨r, fun post hp => ?_, fun post hp => ?_⟩
        · exact br_f hn (qs_xSize rfl hi2 _ (br_f hs2 ⟨qs_i4 ht, qs_xForm _ hi2 _ (br_f hF2 (nm_r (nI_1 i) (hX post hp)))⟩))
        · exact br_f hn (qs_ySize A M rfl hi2 _ (qs_yForm A M ht hi2 hA _ (br_f hF2 (nm_r (nI_1 i) (hY post hp)))))
/-! the nearest point -/
def qs_best (g : Nat → Nat) : Nat → Nat
  | 0 => 0
  | n + 1 => if g n < g (qs_best g n) then n else qs_best g n
def qs_few (g : Nat → Nat) (i : Nat) : Nat := if i = 0 then 64 else g (qs_best g i)
theorem qs_best_lt (g : Nat → Nat) (n : Nat) : qs_best g n = 0 ∨ qs_best g n < n := by
  induction n with
  | zero => exact Or.inl rfl
  | succ n ih =>
    show (if g n < g (qs_best g n) then n else qs_best g n) = 0 ∨ (if g n < g (qs_best g n) then n else qs_best g n) < n + 1
    split
    · exact Or.inr (by omega)
    · omega
theorem qs_best_s (g : Nat → Nat) (n : Nat) : qs_best g (n + 1) = if g n < g (qs_best g n) then n else qs_best g n := rfl
theorem qs_few_0 (g : Nat → Nat) : qs_few g 0 = 64 := rfl
theorem qs_few_s (g : Nat → Nat) (n : Nat) : qs_few g (n + 1) = g (qs_best g (n + 1)) := rfl
theorem qs_few_k {g : Nat → Nat} (hg : ∀ a, g a ≤ 32) {i : Nat} (h : qs_few g i ≤ g i) : qs_best g (i + 1) = qs_best g i ∧ qs_few g (i + 1) = qs_few g i := by
  cases i with
  | zero =>
    rw [qs_few_0] at h
    have := hg 0
    omega
  | succ n =>
    rw [qs_few_s] at h
    have e : qs_best g (n + 1 + 1) = qs_best g (n + 1) := by rw [qs_best_s g (n + 1), if_neg (by omega)]
    exact ⟨e, by rw [qs_few_s, qs_few_s, e]⟩
theorem qs_few_n {g : Nat → Nat} {i : Nat} (h : g i < qs_few g i) : qs_best g (i + 1) = i ∧ qs_few g (i + 1) = g i := by
  cases i with
  | zero =>
    have e : qs_best g (0 + 1) = 0 := by rw [qs_best_s]; exact if_neg (Nat.lt_irrefl (g 0))
    exact ⟨e, by rw [qs_few_s, e]⟩
  | succ n =>
    rw [qs_few_s] at h
    have e : qs_best g (n + 1 + 1) = n + 1 := by rw [qs_best_s g (n + 1), if_pos h]
    exact ⟨e, by rw [qs_few_s, e]⟩
theorem qs_few_le {g : Nat → Nat} (hg : ∀ a, g a ≤ 32) (i : Nat) : qs_few g i ≤ 64 := by
  unfold qs_few
  split
  · exact Nat.le_refl _
  · have := hg (qs_best g i)
    omega
theorem qs_xNearL (w : Int64) (post : Int32 → Prop) (hp : post (nI (qs_best (qs_ch (qs_b w)) 64))) : ∀ d i : Nat, i + d = 64 → wX_nearestPoint_8 post w (d + 1) (nI (qs_best (qs_ch (qs_b w)) i)) (nI (qs_few (qs_ch (qs_b w)) i)) (nI i) := by
  intro d
  induction d with
  | zero =>
    intro i hi
    have e : i = 64 := by omega
    subst e
    exact br_t (nI_le (a := 64) (Nat.le_refl _) (by decide)) hp
  | succ d ih =>
    intro i hi
    have H := ih (i + 1) (by omega)
    have h1 := qs_few_le (qs_ch_le (qs_b w)) i
    have h2 := qs_ch_le (qs_b w) i
    refine br_f (nI_ge (b := 64) (by omega) (by decide)) (qs_xChange w (by omega) _ (pk_le (qs_few (qs_ch (qs_b w)) i) (qs_ch (qs_b w) i) (fun z => ?_) (fun z => ?_)))
    · have e := qs_few_k (qs_ch_le (qs_b w)) z
      rw [e.1, e.2] at H
      exact nm_r (nI_1 i) H
    · have e := qs_few_n z
      rw [e.1, e.2] at H
      exact nm_r (nI_1 i) H
theorem qs_xNear (w : Int64) (post : Int32 → Prop) (hp : post (nI (qs_best (qs_ch (qs_b w)) 64))) : wpX_nearestPoint post w :=
  ⟨65, qs_xNearL w post hp 64 0 rfl⟩
theorem qs_yDistL (A M : Nat → Int32) {t : Nat} (ht : t < 4) {f : Nat → Bool} (hA : qs_row A t f) (post : Int32 → Prop) (hp : post (nI (qs_few (qs_ch f) 64))) : ∀ d i : Nat, i + d = 64 → wY_distance_17 post (nI t) A M (d + 1) (nI (qs_few (qs_ch f) i)) (nI i) := by
  intro d
  induction d with
  | zero =>
    intro i hi
    have e : i = 64 := by omega
    subst e
    exact br_t (nI_le (a := 64) (Nat.le_refl _) (by decide)) hp
  | succ d ih =>
    intro i hi
    have H := ih (i + 1) (by omega)
    have h1 := qs_few_le (qs_ch_le f) i
    have h2 := qs_ch_le f i
    refine br_f (nI_ge (b := 64) (by omega) (by decide)) (qs_yCh A M ht hA _ (pk_le (qs_few (qs_ch f) i) (qs_ch f i) (fun z => ?_) (fun z => ?_)))
    · have e := qs_few_k (qs_ch_le f) z
      rw [e.2] at H
      exact nm_r (nI_1 i) H
    · have e := qs_few_n z
      rw [e.2] at H
      exact nm_r (nI_1 i) H
theorem qs_yNearL (A M : Nat → Int32) {t : Nat} (ht : t < 4) {f : Nat → Bool} (hA : qs_row A t f) (post : Int32 → Prop) (hp : post (nI (qs_best (qs_ch f) 64))) : ∀ d i : Nat, i + d = 64 → wY_nearest_16 post (nI t) A M (d + 1) (nI (qs_best (qs_ch f) i)) (nI i) := by
  intro d
  induction d with
  | zero =>
    intro i hi
    have e : i = 64 := by omega
    subst e
    exact br_t (nI_le (a := 64) (Nat.le_refl _) (by decide)) hp
  | succ d ih =>
    intro i hi
    have H := ih (i + 1) (by omega)
    have h1 := qs_ch_le f (qs_best (qs_ch f) i)
    have h2 := qs_ch_le f i
    rw [qs_best_s] at H
    refine br_f (nI_ge (b := 64) (by omega) (by decide)) (qs_yCh A M ht hA _ (qs_yCh A M ht hA _ (pk_le (qs_ch f (qs_best (qs_ch f) i)) (qs_ch f i) (fun z => ?_) (fun z => ?_))))
    · rw [if_neg (by omega)] at H
      exact nm_r (nI_1 i) H
    · rw [if_pos z] at H
      exact nm_r (nI_1 i) H
/-! immunity: the component keeps one less than the reference -/
theorem qs_immL (U : Nat → Int64) (A M : Nat → Int32) {t : Nat} (ht : t < 4) (hA : qs_row A t (qs_b (U (nI t).toNatClampNeg))) : ∀ d i L : Nat, i + d = 64 → 1 ≤ i → 1 ≤ L → L ≤ 7 → ∃ r : Int32, (∀ post : Int32 → Prop, post r → wX_immunity_16 post (nI t) U (d + 1) (nI (L - 1)) (nI i)) ∧ (∀ post : Int32 → Prop, post r → wY_immunity_17 post (nI t) A M (d + 1) (nI L) (nI i)) := by
  intro d
  induction d with
  | zero =>
    intro i L hi h1 hL hL7
    have e : i = 64 := by omega
    subst e
    refine ⟨nI (L - 1), fun _ hp => br_t (nI_le (a := 64) (Nat.le_refl _) (by decide)) hp, fun post hp => br_t (nI_le (a := 64) (Nat.le_refl _) (by decide)) ?_⟩
    have e : nI L - 1 = nI (L - 1) := pk_sub (b := 1) hL
    rw [e]
    exact hp
  | succ d ih =>
    intro i L hi h1 hL hL7
    have hi2 : i < 64 := by omega
    have hn : ¬ (64 : Int32) ≤ nI i := nI_ge (b := 64) hi2 (by decide)
    have hs6 := qs_sz_le i
    have hs1 := qs_sz_pos i hi2 (by omega)
    by_cases hz : qs_sp (qs_b (U (nI t).toNatClampNeg)) i = 0
    · obtain ⟨r, hX, hY⟩ := ih (i + 1) L (by omega) (by omega) hL hL7
      refine ⟨r, fun post hp => ?_, fun post hp => ?_⟩
      · exact br_f hn (qs_xSize rfl hi2 _ (br_c (fun _ => nm_r (nI_1 i) (hX post hp)) (fun _ => ⟨qs_i4 ht, qs_xSpec _ hi2 _ (br_t hz (nm_r (nI_1 i) (hX post hp)))⟩)))
      · exact br_f hn (qs_ySize A M rfl hi2 _ (qs_ySpec A M ht hA _ (br_t hz (nm_r (nI_1 i) (hY post hp)))))
    · by_cases hs : qs_sz i < L
      · obtain ⟨r, hX, hY⟩ := ih (i + 1) (qs_sz i) (by omega) (by omega) (by omega) (by omega)
        refine ⟨r, fun post hp => ?_, fun post hp => ?_⟩
        · exact br_f hn (qs_xSize rfl hi2 _ (br_f (nI_nlt (by omega) (by omega)) ⟨qs_i4 ht, qs_xSpec _ hi2 _ (br_f hz (nm_r (pk_sub (b := 1) hs1) (nm_r (nI_1 i) (hX post hp))))⟩))
        · exact br_f hn (qs_ySize A M rfl hi2 _ (qs_ySpec A M ht hA _ (br_f hz (br_f (nI_ge hs (by omega)) (nm_r (nI_1 i) (hY post hp))))))
      · obtain ⟨r, hX, hY⟩ := ih (i + 1) L (by omega) (by omega) hL hL7
        refine ⟨r, fun post hp => ?_, fun post hp => ?_⟩
        · exact br_f hn (qs_xSize rfl hi2 _ (br_t (nI_lt (by omega) (by omega)) (nm_r (nI_1 i) (hX post hp))))
        · exact br_f hn (qs_ySize A M rfl hi2 _ (qs_ySpec A M ht hA _ (br_f hz (br_t (nI_le (by omega) (by omega)) (nm_r (nI_1 i) (hY post hp))))))
/-! variables, structures: the moved table against the count of points that stay -/
theorem qs_smA {w z : Int64} {a : Nat} (hz : ∀ x, x < 64 → qs_b z x = qs_b w (x ^^^ a)) : z = w ↔ qs_sm (qs_b w) a = 64 := by
  unfold qs_sm
  rw [qs_cnt_n]
  constructor
  · intro e x hx
    have h := hz x hx
    rw [e] at h
    rw [← h, Bool.xor_self]
    rfl
  · intro h
    refine qs_ext (fun x hx => ?_)
    have h2 := h x hx
    rw [hz x hx]
    revert h2
    cases qs_b w x <;> cases qs_b w (x ^^^ a) <;> decide
theorem qs_smB {w z : Int64} {a : Nat} (hz : ∀ x, x < 64 → qs_b z x = qs_b w (x ^^^ a)) : w ^^^ z = 0 ↔ qs_sm (qs_b w) a = 64 := by
  unfold qs_sm
  rw [qs_cnt_n]
  constructor
  · intro e x hx
    have h := congrArg (fun y => qs_b y x) e
    have h2 : qs_b (w ^^^ z) x = qs_b 0 x := h
    rw [qs_xor, hz x hx, qs_0] at h2
    rw [h2]
    rfl
  · intro h
    refine qs_ext (fun x hx => ?_)
    have h2 := h x hx
    rw [qs_xor, hz x hx, qs_0]
    revert h2
    cases qs_b w x <;> cases qs_b w (x ^^^ a) <;> decide
theorem qs_smC {w z : Int64} {a : Nat} (hz : ∀ x, x < 64 → qs_b z x = qs_b w (x ^^^ a)) : w ^^^ z = -1 ↔ qs_sm (qs_b w) a = 0 := by
  unfold qs_sm
  rw [qs_cnt_0]
  constructor
  · intro e x hx
    have h := congrArg (fun y => qs_b y x) e
    have h2 : qs_b (w ^^^ z) x = qs_b (-1) x := h
    rw [qs_xor, hz x hx, qs_m1 x hx] at h2
    rw [h2]
    rfl
  · intro h
    refine qs_ext (fun x hx => ?_)
    have h2 := h x hx
    rw [qs_xor, hz x hx, qs_m1 x hx]
    revert h2
    cases qs_b w x <;> cases qs_b w (x ^^^ a) <;> decide
theorem qs_varL (U : Nat → Int64) (A M : Nat → Int32) {t : Nat} (ht : t < 4) (hA : qs_row A t (qs_b (U (nI t).toNatClampNeg))) : ∀ (d i : Nat) (g : Int32), i + d = 6 → ∃ r : Int32, (∀ post : Int32 → Prop, post r → wX_variables_15 post (nI t) U (d + 1) g (nI i)) ∧ (∀ post : Int32 → Prop, post r → wY_variables_16 post (nI t) A M (d + 1) g (nI i)) := by
  intro d
  induction d with
  | zero =>
    intro i g hi
    have e : i = 6 := by omega
    subst e
    exact ⟨g, fun _ hp => br_t (nI_le (a := 6) (Nat.le_refl _) (by decide)) hp, fun _ hp => br_t (nI_le (a := 6) (Nat.le_refl _) (by decide)) hp⟩
  | succ d ih =>
    intro i g hi
    have hi2 : i < 6 := by omega
    have hn : ¬ (6 : Int32) ≤ nI i := nI_ge (b := 6) hi2 (by decide)
    have hsh := qs_sh i hi2
    have h64 := qs_sh64 i hi2
    have hle := qs_sm_le (qs_b (U (nI t).toNatClampNeg)) (2 ^ i)
    by_cases hs : qs_sm (qs_b (U (nI t).toNatClampNeg)) (2 ^ i) = 64
    · obtain ⟨r, hX, hY⟩ := ih (i + 1) g (by omega)
      refine ⟨r, fun post hp => ?_, fun post hp => ?_⟩
      · exact br_f hn (nm_e ⟨qs_i4 ht, qs_xMoved _ hsh h64 _ (fun z hz => ⟨qs_i4 ht, br_t ((qs_smA hz).mpr hs) (nm_r (nI_1 i) (hX post hp))⟩)⟩)
      · exact br_f hn (qs_ySm A M hsh ht h64 hA _ (br_t (nI_le (a := 64) (by omega) (by omega)) (nm_r (nI_1 i) (hY post hp))))
    · obtain ⟨r, hX, hY⟩ := ih (i + 1) (g ||| ((1 : Int32) <<< (nI i &&& 31))) (by omega)
      refine ⟨r, fun post hp => ?_, fun post hp => ?_⟩
      · exact br_f hn (nm_e ⟨qs_i4 ht, qs_xMoved _ hsh h64 _ (fun z hz => ⟨qs_i4 ht, br_f (fun y => hs ((qs_smA hz).mp y)) (nm_e (nm_r (nI_1 i) (hX post hp)))⟩)⟩)
      · exact br_f hn (qs_ySm A M hsh ht h64 hA _ (br_f (nI_ge (b := 64) (by omega) (by decide)) (nm_e (nm_r (nI_1 i) (hY post hp)))))
theorem qs_strL (U : Nat → Int64) (A M : Nat → Int32) {t : Nat} (ht : t < 4) (hA : qs_row A t (qs_b (U (nI t).toNatClampNeg))) : ∀ (d i : Nat) (g : Int32), i + d = 64 → ∃ r : Int32, (∀ post : Int32 → Prop, post r → wX_structures_15 post (nI t) U (d + 1) g (nI i)) ∧ (∀ post : Int32 → Prop, post r → wY_structures_16 post (nI t) A M (d + 1) g (nI i)) := by
  intro d
  induction d with
  | zero =>
    intro i g hi
    have e : i = 64 := by omega
    subst e
    exact ⟨g, fun _ hp => br_t (nI_le (a := 64) (Nat.le_refl _) (by decide)) hp, fun _ hp => br_t (nI_le (a := 64) (Nat.le_refl _) (by decide)) hp⟩
  | succ d ih =>
    intro i g hi
    have hi2 : i < 64 := by omega
    have hn : ¬ (64 : Int32) ≤ nI i := nI_ge (b := 64) hi2 (by decide)
    have hle := qs_sm_le (qs_b (U (nI t).toNatClampNeg)) i
    by_cases hs : qs_sm (qs_b (U (nI t).toNatClampNeg)) i = 64
    · have e64 : nI (qs_sm (qs_b (U (nI t).toNatClampNeg)) i) = 64 := congrArg nI hs
      obtain ⟨r, hX, hY⟩ := ih (i + 1) (g + 1) (by omega)
      refine ⟨r, fun post hp => ?_, fun post hp => ?_⟩
      · exact br_f hn ⟨qs_i4 ht, qs_i4 ht, qs_xMoved _ rfl hi2 _ (fun z hz => nm_e (br_t ((qs_smB hz).mpr hs) (nm_e (nm_r (nI_1 i) (hX post hp)))))⟩
      · exact br_f hn (qs_ySm A M rfl ht hi2 hA _ (br_f (by rw [e64]; decide) (br_t e64 (nm_e (nm_r (nI_1 i) (hY post hp))))))
    · by_cases h0 : qs_sm (qs_b (U (nI t).toNatClampNeg)) i = 0
      · have e0 : nI (qs_sm (qs_b (U (nI t).toNatClampNeg)) i) = 0 := congrArg nI h0
        obtain ⟨r, hX, hY⟩ := ih (i + 1) (g + 1) (by omega)
        refine ⟨r, fun post hp => ?_, fun post hp => ?_⟩
        · exact br_f hn ⟨qs_i4 ht, qs_i4 ht, qs_xMoved _ rfl hi2 _ (fun z hz => nm_e (br_f (fun y => hs ((qs_smB hz).mp y)) (br_t ((qs_smC hz).mpr h0) (nm_e (nm_r (nI_1 i) (hX post hp))))))⟩
        · exact br_f hn (qs_ySm A M rfl ht hi2 hA _ (br_t e0 (nm_e (nm_r (nI_1 i) (hY post hp)))))
      · obtain ⟨r, hX, hY⟩ := ih (i + 1) g (by omega)
        refine ⟨r, fun post hp => ?_, fun post hp => ?_⟩
        · exact br_f hn ⟨qs_i4 ht, qs_i4 ht, qs_xMoved _ rfl hi2 _ (fun z hz => nm_e (br_f (fun y => hs ((qs_smB hz).mp y)) (br_f (fun y => h0 ((qs_smC hz).mp y)) (nm_r (nI_1 i) (hX post hp)))))⟩
        · exact br_f hn (qs_ySm A M rfl ht hi2 hA _ (br_f (fun y => h0 ((nI_eq (b := 0) (by omega) (by decide)).mp y)) (br_f (fun y => hs ((nI_eq (b := 64) (by omega) (by decide)).mp y)) (nm_r (nI_1 i) (hY post hp)))))
