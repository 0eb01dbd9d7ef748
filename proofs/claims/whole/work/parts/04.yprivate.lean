/-! the reference's private methods; row t of its array is f -/
def qs_row (A : Nat → Int32) (t : Nat) (f : Nat → Bool) : Prop := ∀ x, x < 64 → A (64 * t + x) = nI (f x).toNat
theorem qs_ix (t x : Nat) : (64 * nI t) + nI x = nI (64 * t + x) := by
  have e : (64 : Int32) * nI t = nI (64 * t) := pk_mul 64 t
  rw [e, nI_add]
theorem qs_in {t x : Nat} (ht : t < 4) (hx : x < 64) : vp_in ((64 * nI t) + nI x) 256 := by
  rw [qs_ix]
  exact vp_in_nI (by omega) (by decide)
theorem qs_cl {t x : Nat} (ht : t < 4) (hx : x < 64) : ((64 * nI t) + nI x).toNatClampNeg = 64 * t + x := by
  rw [qs_ix]
  exact nI_clamp (by omega)
theorem qs_rd {A : Nat → Int32} {t x : Nat} {f : Nat → Bool} (h : qs_row A t f) (ht : t < 4) (hx : x < 64) : A ((64 * nI t) + nI x).toNatClampNeg = nI (f x).toNat := by
  rw [qs_cl ht hx]
  exact h x hx
theorem qs_inX {t x a : Nat} (ht : t < 4) (hx : x < 64) (ha : a < 64) : vp_in ((64 * nI t) + (nI x ^^^ nI a)) 256 := by
  rw [nx_xor]
  exact qs_in ht (qs_xor64 hx ha)
theorem qs_rdX {A : Nat → Int32} {t x a : Nat} {f : Nat → Bool} (h : qs_row A t f) (ht : t < 4) (hx : x < 64) (ha : a < 64) : A ((64 * nI t) + (nI x ^^^ nI a)).toNatClampNeg = nI (f (x ^^^ a)).toNat := by
  rw [nx_xor]
  exact qs_rd h ht (qs_xor64 hx ha)
theorem qs_yT (v : SY) {t : Nat} (h : t < 4) (post : Int32 → Prop) (hp : post 1) : wpY_isTable post v (nI t) :=
  br_f (nI_pos (by omega)) (br_f (nI_nlt (a := 3) (by omega) (by decide)) hp)
theorem qs_yP (v : SY) {x : Nat} (h : x < 64) (post : Int32 → Prop) (hp : post 1) : wpY_isPoint post v (nI x) :=
  br_f (nI_pos (by omega)) (br_f (nI_nlt (a := 63) (by omega) (by decide)) hp)
/-- a first argument: a table, or one that both sides refuse -/
theorem qs_tab (v : Int32) : (∃ t : Nat, t < 4 ∧ v = nI t) ∨ ((∀ post : Int32 → Prop, post 0 → wpX_isTable post v) ∧ ∀ (post : Int32 → Prop) (s : SY), post 0 → wpY_isTable post s v) := by
  rcases pk_ix v (n := 4) (by decide) with h | h | ⟨j, hj, e⟩
  · exact Or.inr ⟨fun _ hp => br_t h hp, fun _ _ hp => br_t h hp⟩
  · by_cases h0 : v < 0
    · exact Or.inr ⟨fun _ hp => br_t h0 hp, fun _ _ hp => br_t h0 hp⟩
    · obtain ⟨j, hj, rfl⟩ := nI_of h0
      rw [nI_leI (by decide) hj] at h
      exact Or.inr ⟨fun _ hp => br_f h0 (br_t (nI_le (a := 4) h hj) hp), fun _ _ hp => br_f h0 (br_t (nI_lt (a := 3) (by omega) hj) hp)⟩
  · exact Or.inl ⟨j, hj, e⟩
theorem qs_pnt (v : Int32) : (∃ x : Nat, x < 64 ∧ v = nI x) ∨ ((∀ post : Int32 → Prop, post 0 → wpX_isPoint post v) ∧ ∀ (post : Int32 → Prop) (s : SY), post 0 → wpY_isPoint post s v) := by
  rcases pk_ix v (n := 64) (by decide) with h | h | ⟨j, hj, e⟩
  · exact Or.inr ⟨fun _ hp => br_t h hp, fun _ _ hp => br_t h hp⟩
  · by_cases h0 : v < 0
    · exact Or.inr ⟨fun _ hp => br_t h0 hp, fun _ _ hp => br_t h0 hp⟩
    · obtain ⟨j, hj, rfl⟩ := nI_of h0
      rw [nI_leI (by decide) hj] at h
      exact Or.inr ⟨fun _ hp => br_f h0 (br_t (nI_le (a := 64) h hj) hp), fun _ _ hp => br_f h0 (br_t (nI_lt (a := 63) (by omega) hj) hp)⟩
  · exact Or.inl ⟨j, hj, e⟩
theorem qs_ySizeL (A M : Nat → Int32) {p : Nat} (h : p < 64) (post : Int32 → Prop) (hp : post (nI (qs_sz p))) : ∀ d i : Nat, i + d = 6 → wY_sizeOf_4 post (nI p) A M (d + 1) (nI (qs_cnt p.testBit i)) (nI i) := by
  intro d
  induction d with
  | zero =>
    intro i hi
    have e : i = 6 := by omega
    subst e
    exact br_t (nI_le (a := 6) (Nat.le_refl _) (by decide)) hp
  | succ d ih =>
    intro i hi
    exact br_f (nI_ge (b := 6) (by omega) (by decide)) (nm_r (e' := nI (qs_cnt p.testBit (i + 1))) (by rw [qs_sbit h (by omega), nI_add]; rfl) (nm_r (nI_1 i) (ih (i + 1) (by omega))))
theorem qs_ySize (A M : Nat → Int32) {v : Int32} {p : Nat} (hv : v = nI p) (h : p < 64) (post : Int32 → Prop) (hp : post (nI (qs_sz p))) : wpY_sizeOf post (A, M) v := by
  subst hv
  exact ⟨7, qs_ySizeL A M h post hp 6 0 rfl⟩
theorem qs_yProd (A M : Nat → Int32) (a : Nat) {x : Nat} (hx : x < 64) (post : Int32 → Prop) (hp : post (nI (qs_par a x).toNat)) : wpY_product post (A, M) (nI a) (nI x) := by
  refine qs_ySize A M (nx_and a x) (qs_and64 a hx) (fun r => post (r &&& 1)) ?_
  show post (nI (qs_sz (a &&& x)) &&& 1)
  rw [qs_pi _ (qs_par a x) rfl]
  exact hp
theorem qs_yCountL (A M : Nat → Int32) {t : Nat} (ht : t < 4) {f : Nat → Bool} (hA : qs_row A t f) (post : Int32 → Prop) (hp : post (nI (qs_cnt f 64))) : ∀ d i : Nat, i + d = 64 → wY_countOnes_4 post (nI t) A M (d + 1) (nI (qs_cnt f i)) (nI i) := by
  intro d
  induction d with
  | zero =>
    intro i hi
    have e : i = 64 := by omega
    subst e
    exact br_t (nI_le (a := 64) (Nat.le_refl _) (by decide)) hp
  | succ d ih =>
    intro i hi
    exact br_f (nI_ge (b := 64) (by omega) (by decide)) ⟨qs_in ht (by omega), nm_r (e' := nI (qs_cnt f (i + 1))) (by rw [qs_rd hA ht (by omega), nI_add]; rfl) (nm_r (nI_1 i) (ih (i + 1) (by omega)))⟩
theorem qs_yCount (A M : Nat → Int32) {t : Nat} (ht : t < 4) {f : Nat → Bool} (hA : qs_row A t f) (post : Int32 → Prop) (hp : post (nI (qs_cnt f 64))) : wpY_countOnes post (A, M) (nI t) :=
  ⟨65, qs_yCountL A M ht hA post hp 64 0 rfl⟩
theorem qs_x2 (c : Nat) (b : Bool) : nI (c % 2) ^^^ nI b.toNat = nI ((c + b.toNat) % 2) := by
  cases b
  · rw [show false.toNat = 0 from rfl, nx_xor, Nat.xor_zero, Nat.add_zero]
  · rcases Nat.mod_two_eq_zero_or_one c with h | h
    · rw [show true.toNat = 1 from rfl, h, show (c + 1) % 2 = 1 by omega]; decide
    · rw [show true.toNat = 1 from rfl, h, show (c + 1) % 2 = 0 by omega]; decide
theorem qs_yFormL (A M : Nat → Int32) {t u : Nat} (ht : t < 4) (hu : u < 64) {f : Nat → Bool} (hA : qs_row A t f) (post : Int32 → Prop) (hp : post (nI (qs_fm f u))) : ∀ d i : Nat, i + d = 64 → wY_formAt_5 post (nI t) (nI u) A M (d + 1) (nI (qs_cnt (fun x => f x && decide (x &&& u = x)) i % 2)) (nI i) := by
  intro d
  induction d with
  | zero =>
    intro i hi
    have e : i = 64 := by omega
    subst e
    exact br_t (nI_le (a := 64) (Nat.le_refl _) (by decide)) hp
  | succ d ih =>
    intro i hi
    have H := ih (i + 1) (by omega)
    refine br_f (nI_ge (b := 64) (by omega) (by decide)) (br_c (fun z => ?_) (fun z => ?_))
    · rw [qs_sub i (by omega) u hu] at z
      have e : qs_cnt (fun x => f x && decide (x &&& u = x)) (i + 1) = qs_cnt (fun x => f x && decide (x &&& u = x)) i + (f i).toNat := by
        show _ + (f i && decide (i &&& u = i)).toNat = _
        rw [decide_eq_true z, Bool.and_true]
      rw [e] at H
      exact ⟨qs_in ht (by omega), nm_r (by rw [qs_rd hA ht (by omega)]; exact qs_x2 _ _) (nm_r (nI_1 i) H)⟩
    · rw [qs_sub i (by omega) u hu] at z
      have e : qs_cnt (fun x => f x && decide (x &&& u = x)) (i + 1) = qs_cnt (fun x => f x && decide (x &&& u = x)) i := by
        show _ + (f i && decide (i &&& u = i)).toNat = _
        rw [decide_eq_false z, Bool.and_false]
        rfl
      rw [e] at H
      exact nm_r (nI_1 i) H
theorem qs_yForm (A M : Nat → Int32) {t u : Nat} (ht : t < 4) (hu : u < 64) {f : Nat → Bool} (hA : qs_row A t f) (post : Int32 → Prop) (hp : post (nI (qs_fm f u))) : wpY_formAt post (A, M) (nI t) (nI u) :=
  ⟨65, qs_yFormL A M ht hu hA post hp 64 0 rfl⟩
theorem qs_ar1 (i c : Nat) : nI i - 2 * nI c + 1 = nI (i + 1) - 2 * nI c := by
  rw [nI_succ]
  grind
theorem qs_ar2 (i c : Nat) : nI i - 2 * nI c - 1 = nI (i + 1) - 2 * nI (c + 1) := by
  rw [nI_succ, nI_succ]
  grind
theorem qs_ySpecL (A M : Nat → Int32) {t a : Nat} (ht : t < 4) {f : Nat → Bool} (hA : qs_row A t f) (post : Int32 → Prop) (hp : post (qs_sp f a)) : ∀ d i : Nat, i + d = 64 → wY_spectrumAt_5 post (nI t) (nI a) A M (d + 1) (nI i - 2 * nI (qs_cnt (fun x => f x ^^ qs_par a x) i)) (nI i) := by
  intro d
  induction d with
  | zero =>
    intro i hi
    have e : i = 64 := by omega
    subst e
    exact br_t (nI_le (a := 64) (Nat.le_refl _) (by decide)) hp
  | succ d ih =>
    intro i hi
    have H := ih (i + 1) (by omega)
    refine br_f (nI_ge (b := 64) (by omega) (by decide)) ⟨qs_in ht (by omega), qs_yProd A M a (by omega) _ ?_⟩
    rw [qs_rd hA ht (by omega), qs_bi]
    refine br_c (fun z => ?_) (fun z => ?_)
    · have e : qs_cnt (fun x => f x ^^ qs_par a x) (i + 1) = qs_cnt (fun x => f x ^^ qs_par a x) i := by
        show _ + (f i ^^ qs_par a i).toNat = _
        rw [z, Bool.xor_self]
        rfl
      rw [e] at H
      exact nm_r (qs_ar1 _ _) (nm_r (nI_1 i) H)
    · have e : qs_cnt (fun x => f x ^^ qs_par a x) (i + 1) = qs_cnt (fun x => f x ^^ qs_par a x) i + 1 := by
        show _ + (f i ^^ qs_par a i).toNat = _
        have e2 : (f i ^^ qs_par a i) = true := by
          revert z
          cases f i <;> cases qs_par a i <;> decide
        rw [e2]
        rfl
      rw [e] at H
      exact nm_r (qs_ar2 _ _) (nm_r (nI_1 i) H)
theorem qs_ySpec (A M : Nat → Int32) {t a : Nat} (ht : t < 4) {f : Nat → Bool} (hA : qs_row A t f) (post : Int32 → Prop) (hp : post (qs_sp f a)) : wpY_spectrumAt post (A, M) (nI t) (nI a) := by
  have H := qs_ySpecL A M ht hA post hp 64 0 rfl
  rw [show nI 0 - 2 * nI (qs_cnt (fun x => f x ^^ qs_par a x) 0) = 0 from (by decide : nI 0 - 2 * nI 0 = 0)] at H
  exact ⟨65, H⟩
theorem qs_yChL (A M : Nat → Int32) {t a : Nat} (ht : t < 4) {f : Nat → Bool} (hA : qs_row A t f) (post : Int32 → Prop) (hp : post (nI (qs_ch f a))) : ∀ d i : Nat, i + d = 64 → wY_changes_5 post (nI t) (nI a) A M (d + 1) (nI (qs_cnt (fun x => f x ^^ qs_par a x) i)) (nI i) := by
  intro d
  induction d with
  | zero =>
    intro i hi
    have e : i = 64 := by omega
    subst e
    refine br_t (nI_le (a := 64) (Nat.le_refl _) (by decide)) ?_
    have hc := qs_df_le f a
    have e : (64 : Int32) - nI (qs_df f a) = nI (64 - qs_df f a) := pk_sub (a := 64) hc
    show (64 - nI (qs_df f a) ≤ nI (qs_df f a) → post (64 - nI (qs_df f a))) ∧ (¬ 64 - nI (qs_df f a) ≤ nI (qs_df f a) → post (nI (qs_df f a)))
    rw [e]
    refine pk_le (64 - qs_df f a) (qs_df f a) (fun z => ?_) (fun z => ?_)
    · have e2 : qs_ch f a = 64 - qs_df f a := by
        unfold qs_ch
        split <;> omega
      rw [e2] at hp
      exact hp
    · rw [qs_ch, if_neg (by omega)] at hp
      exact hp
  | succ d ih =>
    intro i hi
    have H := ih (i + 1) (by omega)
    refine br_f (nI_ge (b := 64) (by omega) (by decide)) ⟨qs_in ht (by omega), qs_yProd A M a (by omega) _ ?_⟩
    rw [qs_rd hA ht (by omega), qs_bi]
    refine br_c (fun z => ?_) (fun z => ?_)
    · have e : qs_cnt (fun x => f x ^^ qs_par a x) (i + 1) = qs_cnt (fun x => f x ^^ qs_par a x) i := by
        show _ + (f i ^^ qs_par a i).toNat = _
        rw [z, Bool.xor_self]
        rfl
      rw [e] at H
      exact nm_r (nI_1 i) H
    · have e : qs_cnt (fun x => f x ^^ qs_par a x) (i + 1) = qs_cnt (fun x => f x ^^ qs_par a x) i + 1 := by
        show _ + (f i ^^ qs_par a i).toNat = _
        have e2 : (f i ^^ qs_par a i) = true := by
          revert z
          cases f i <;> cases qs_par a i <;> decide
        rw [e2]
        rfl
      rw [e] at H
      exact nm_r (nI_1 _) (nm_r (nI_1 i) H)
theorem qs_yCh (A M : Nat → Int32) {t a : Nat} (ht : t < 4) {f : Nat → Bool} (hA : qs_row A t f) (post : Int32 → Prop) (hp : post (nI (qs_ch f a))) : wpY_changes post (A, M) (nI t) (nI a) :=
  ⟨65, qs_yChL A M ht hA post hp 64 0 rfl⟩
theorem qs_ySmL (A M : Nat → Int32) {t a : Nat} (ht : t < 4) (ha : a < 64) {f : Nat → Bool} (hA : qs_row A t f) (post : Int32 → Prop) (hp : post (nI (qs_sm f a))) : ∀ d i : Nat, i + d = 64 → wY_sames_5 post (nI t) (nI a) A M (d + 1) (nI (qs_cnt (fun x => !(f x ^^ f (x ^^^ a))) i)) (nI i) := by
  intro d
  induction d with
  | zero =>
    intro i hi
    have e : i = 64 := by omega
    subst e
    exact br_t (nI_le (a := 64) (Nat.le_refl _) (by decide)) hp
  | succ d ih =>
    intro i hi
    have H := ih (i + 1) (by omega)
    refine br_f (nI_ge (b := 64) (by omega) (by decide)) ⟨qs_in ht (by omega), qs_inX ht (by omega) ha, ?_⟩
    rw [qs_rd hA ht (by omega), qs_rdX hA ht (by omega) ha, qs_bi]
    refine br_c (fun z => ?_) (fun z => ?_)
    · have e : qs_cnt (fun x => !(f x ^^ f (x ^^^ a))) (i + 1) = qs_cnt (fun x => !(f x ^^ f (x ^^^ a))) i + 1 := by
        show _ + (!(f i ^^ f (i ^^^ a))).toNat = _
        rw [z, Bool.xor_self]
        rfl
      rw [e] at H
      exact nm_r (nI_1 _) (nm_r (nI_1 i) H)
    · have e : qs_cnt (fun x => !(f x ^^ f (x ^^^ a))) (i + 1) = qs_cnt (fun x => !(f x ^^ f (x ^^^ a))) i := by
        show _ + (!(f i ^^ f (i ^^^ a))).toNat = _
        have e2 : (f i ^^ f (i ^^^ a)) = true := by
          revert z
          cases f i <;> cases f (i ^^^ a) <;> decide
        rw [e2]
        rfl
      rw [e] at H
      exact nm_r (nI_1 i) H
theorem qs_ySm (A M : Nat → Int32) {v : Int32} {t a : Nat} (hv : v = nI a) (ht : t < 4) (ha : a < 64) {f : Nat → Bool} (hA : qs_row A t f) (post : Int32 → Prop) (hp : post (nI (qs_sm f a))) : wpY_sames post (A, M) (nI t) v := by
  subst hv
  exact ⟨65, qs_ySmL A M ht ha hA post hp 64 0 rfl⟩
