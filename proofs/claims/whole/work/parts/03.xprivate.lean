/-! the component's own private methods, each with a general post -/
theorem qs_10 : ¬ (1 : Int32) = 0 := by decide
theorem qs_c4 {t : Nat} (h : t < 4) : (nI t).toNatClampNeg = t := nI_clamp (by omega)
theorem qs_i4 {t : Nat} (h : t < 4) : vp_in (nI t) 4 := vp_in_nI h (by decide)
theorem qs_xT {t : Nat} (h : t < 4) (post : Int32 → Prop) (hp : post 1) : wpX_isTable post (nI t) :=
  br_f (nI_pos (by omega)) (br_f (nI_ge (b := 4) h (by decide)) hp)
theorem qs_xP {x : Nat} (h : x < 64) (post : Int32 → Prop) (hp : post 1) : wpX_isPoint post (nI x) :=
  br_f (nI_pos (by omega)) (br_f (nI_ge (b := 64) h (by decide)) hp)
theorem qs_xVal (w : Int64) {x : Nat} (hx : x < 64) (post : Int32 → Prop) (hp : post (nI (qs_b w x).toNat)) : wpX_valueAt post w (nI x) := by
  unfold wpX_valueAt
  rw [qs_val w hx, lN_i]
  exact hp
theorem qs_xCountL (w : Int64) (post : Int32 → Prop) (hp : post (nI (qs_cnt (qs_b w) 64))) : ∀ d i : Nat, i + d = 64 → wX_countOnes_4 post w (d + 1) (nI (qs_cnt (qs_b w) i)) (nI i) := by
  intro d
  induction d with
  | zero =>
    intro i hi
    have e : i = 64 := by omega
    subst e
    exact br_t (nI_le (a := 64) (Nat.le_refl _) (by decide)) hp
  | succ d ih =>
    intro i hi
    exact br_f (nI_ge (b := 64) (by omega) (by decide)) (qs_xVal w (by omega) _ (nm_r (nI_add _ _) (nm_r (nI_1 i) (ih (i + 1) (by omega)))))
theorem qs_xCount (w : Int64) (post : Int32 → Prop) (hp : post (nI (qs_cnt (qs_b w) 64))) : wpX_countOnes post w :=
  ⟨65, qs_xCountL w post hp 64 0 rfl⟩
theorem qs_xSizeL {p : Nat} (h : p < 64) (post : Int32 → Prop) (hp : post (nI (qs_sz p))) : ∀ d i : Nat, i + d = 6 → wX_sizeOf_4 post (nI p) (d + 1) (nI (qs_cnt p.testBit i)) (nI i) := by
  intro d
  induction d with
  | zero =>
    intro i hi
    have e : i = 6 := by omega
    subst e
    exact br_t (nI_le (a := 6) (Nat.le_refl _) (by decide)) hp
  | succ d ih =>
    intro i hi
    exact br_f (nI_ge (b := 6) (by omega) (by decide)) (nm_r (e' := nI (qs_cnt p.testBit (i + 1))) (by rw [qs_ubit h (by omega), nI_add]; rfl) (nm_r (nI_1 i) (ih (i + 1) (by omega))))
theorem qs_xSize {v : Int32} {p : Nat} (hv : v = nI p) (h : p < 64) (post : Int32 → Prop) (hp : post (nI (qs_sz p))) : wpX_sizeOf post v := by
  subst hv
  exact ⟨7, qs_xSizeL h post hp 6 0 rfl⟩
theorem qs_xMovedL (w : Int64) {a : Nat} (ha : a < 64) (post : Int64 → Prop) (hp : ∀ r, (∀ x, x < 64 → qs_b r x = qs_b w (x ^^^ a)) → post r) : ∀ (d i : Nat) (r : Int64), i + d = 64 → qs_up (fun x => qs_b w (x ^^^ a)) i r → wX_moved_5 post w (nI a) (d + 1) r (nI i) := by
  intro d
  induction d with
  | zero =>
    intro i r hi hr
    have e : i = 64 := by omega
    subst e
    exact br_t (nI_le (a := 64) (Nat.le_refl _) (by decide)) (hp r (qs_up_e hr))
  | succ d ih =>
    intro i r hi hr
    exact br_f (nI_ge (b := 64) (by omega) (by decide)) (nm_r (e' := lN (qs_b w (i ^^^ a)).toNat) (by rw [nx_xor]; exact qs_val w (qs_xor64 (by omega) ha)) (nm_e (nm_r (nI_1 i) (ih (i + 1) _ (by omega) (qs_up_s (by omega) hr)))))
theorem qs_xMoved (w : Int64) {v : Int32} {a : Nat} (hv : v = nI a) (ha : a < 64) (post : Int64 → Prop) (hp : ∀ r, (∀ x, x < 64 → qs_b r x = qs_b w (x ^^^ a)) → post r) : wpX_moved post w v := by
  subst hv
  exact ⟨65, qs_xMovedL w ha post hp 64 0 0 rfl (qs_up_0 _)⟩
theorem qs_xLinL {a : Nat} (ha : a < 64) (post : Int64 → Prop) (hp : ∀ r, (∀ x, x < 64 → qs_b r x = qs_par a x) → post r) : ∀ (d i : Nat) (r : Int64), i + d = 64 → qs_up (qs_par a) i r → wX_linear_4 post (nI a) (d + 1) r (nI i) := by
  intro d
  induction d with
  | zero =>
    intro i r hi hr
    have e : i = 64 := by omega
    subst e
    exact br_t (nI_le (a := 64) (Nat.le_refl _) (by decide)) (hp r (qs_up_e hr))
  | succ d ih =>
    intro i r hi hr
    exact br_f (nI_ge (b := 64) (by omega) (by decide)) (qs_xSize (nx_and a i) (qs_and64 a (by omega)) _ (nm_r (e' := lN (qs_par a i).toNat) (qs_pl _ _ rfl) (nm_e (nm_r (nI_1 i) (ih (i + 1) _ (by omega) (qs_up_s (by omega) hr))))))
theorem qs_xLin {a : Nat} (ha : a < 64) (post : Int64 → Prop) (hp : ∀ r, (∀ x, x < 64 → qs_b r x = qs_par a x) → post r) : wpX_linear post (nI a) :=
  ⟨65, qs_xLinL ha post hp 64 0 0 rfl (qs_up_0 _)⟩
theorem qs_xHoldL {u : Nat} (hu : u < 64) (post : Int64 → Prop) (hp : ∀ r, (∀ x, x < 64 → qs_b r x = decide (x &&& u = u)) → post r) : ∀ (d i : Nat) (r : Int64), i + d = 64 → qs_up (fun x => decide (x &&& u = u)) i r → wX_pointsHolding_4 post (nI u) (d + 1) r (nI i) := by
  intro d
  induction d with
  | zero =>
    intro i r hi hr
    have e : i = 64 := by omega
    subst e
    exact br_t (nI_le (a := 64) (Nat.le_refl _) (by decide)) (hp r (qs_up_e hr))
  | succ d ih =>
    intro i r hi hr
    refine br_f (nI_ge (b := 64) (by omega) (by decide)) (pk_eq (i &&& u) u (fun z => ?_) (fun z => ?_) (nx_and i u) rfl (by have := qs_and64 i hu; omega) (by omega))
    · exact nm_e (nm_r (nI_1 i) (ih (i + 1) _ (by omega) (qs_up_t (by omega) (decide_eq_true z) hr)))
    · exact nm_r (nI_1 i) (ih (i + 1) _ (by omega) (qs_up_f (decide_eq_false z) hr))
theorem qs_xHold {u : Nat} (hu : u < 64) (post : Int64 → Prop) (hp : ∀ r, (∀ x, x < 64 → qs_b r x = decide (x &&& u = u)) → post r) : wpX_pointsHolding post (nI u) :=
  ⟨65, qs_xHoldL hu post hp 64 0 0 rfl (qs_up_0 _)⟩
theorem qs_xWithL {u : Nat} (hu : u < 64) (post : Int64 → Prop) (hp : ∀ r, (∀ x, x < 64 → qs_b r x = decide (x &&& u = x)) → post r) : ∀ (d i : Nat) (r : Int64), i + d = 64 → qs_up (fun x => decide (x &&& u = x)) i r → wX_pointsWithin_4 post (nI u) (d + 1) r (nI i) := by
  intro d
  induction d with
  | zero =>
    intro i r hi hr
    have e : i = 64 := by omega
    subst e
    exact br_t (nI_le (a := 64) (Nat.le_refl _) (by decide)) (hp r (qs_up_e hr))
  | succ d ih =>
    intro i r hi hr
    refine br_f (nI_ge (b := 64) (by omega) (by decide)) (pk_eq (i &&& u) i (fun z => ?_) (fun z => ?_) (nx_and i u) rfl (by have := qs_and64 i hu; omega) (by omega))
    · exact nm_e (nm_r (nI_1 i) (ih (i + 1) _ (by omega) (qs_up_t (by omega) (decide_eq_true z) hr)))
    · exact nm_r (nI_1 i) (ih (i + 1) _ (by omega) (qs_up_f (decide_eq_false z) hr))
theorem qs_xWith {u : Nat} (hu : u < 64) (post : Int64 → Prop) (hp : ∀ r, (∀ x, x < 64 → qs_b r x = decide (x &&& u = x)) → post r) : wpX_pointsWithin post (nI u) :=
  ⟨65, qs_xWithL hu post hp 64 0 0 rfl (qs_up_0 _)⟩
theorem qs_xForm (w : Int64) {u : Nat} (hu : u < 64) (post : Int32 → Prop) (hp : post (nI (qs_fm (qs_b w) u))) : wpX_formAt post w (nI u) := by
  unfold wpX_formAt
  refine qs_xWith hu _ (fun r hr => qs_xCount _ _ ?_)
  have e : qs_cnt (qs_b (w &&& r)) 64 = qs_cnt (fun x => qs_b w x && decide (x &&& u = x)) 64 := qs_cnt_cg (fun x hx => by rw [qs_and, hr x hx])
  rw [e, qs_and1]
  exact hp
theorem qs_xDf (w r : Int64) {a : Nat} (hr : ∀ x, x < 64 → qs_b r x = qs_par a x) : qs_cnt (qs_b (w ^^^ r)) 64 = qs_df (qs_b w) a := qs_cnt_cg (fun x hx => by rw [qs_xor, hr x hx])
theorem qs_xSigns (w : Int64) (post : Int32 → Prop) (hp : post (64 - 2 * nI (qs_cnt (qs_b w) 64))) : wpX_sumOfSigns post w := by
  unfold wpX_sumOfSigns
  exact qs_xCount w _ hp
theorem qs_xSpec (w : Int64) {a : Nat} (ha : a < 64) (post : Int32 → Prop) (hp : post (qs_sp (qs_b w) a)) : wpX_spectrumAt post w (nI a) := by
  unfold wpX_spectrumAt
  refine qs_xLin ha _ (fun r hr => qs_xSigns _ _ ?_)
  rw [qs_xDf w r hr]
  exact hp
theorem qs_xChange (w : Int64) {a : Nat} (ha : a < 64) (post : Int32 → Prop) (hp : post (nI (qs_ch (qs_b w) a))) : wpX_changesTowards post w (nI a) := by
  unfold wpX_changesTowards
  refine qs_xLin ha _ (fun r hr => qs_xCount _ _ ?_)
  rw [qs_xDf w r hr]
  have hc := qs_df_le (qs_b w) a
  have e : (64 : Int32) - nI (qs_df (qs_b w) a) = nI (64 - qs_df (qs_b w) a) := pk_sub (a := 64) hc
  rw [e]
  refine pk_lt (64 - qs_df (qs_b w) a) (qs_df (qs_b w) a) (fun z => ?_) (fun z => ?_)
  · rw [qs_ch, if_pos z] at hp
    exact hp
  · rw [qs_ch, if_neg (by omega)] at hp
    exact hp
