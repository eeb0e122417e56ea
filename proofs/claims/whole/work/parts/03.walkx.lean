/-! numbers that the walks ask for -/
theorem vs_6 {t : Nat} (h : t < 6) : ¬ (6 : Int32) ≤ nI t := nI_ge (b := 6) h (by decide)
theorem vs_16 {c : Nat} (h : c < 16) : ¬ (16 : Int32) ≤ nI c := nI_ge (b := 16) h (by decide)
theorem vs_5 {t : Nat} (h : t < 6) : ¬ (5 : Int32) < nI t := nI_nlt (a := 5) (b := t) (by omega) (by decide)
theorem vs_15 {c : Nat} (h : c < 16) : nI c ≤ (15 : Int32) := nI_le (b := 15) (by omega) (by decide)
theorem vs_5' {x : Int32} (h : nI 6 ≤ x) : (5 : Int32) < x := by
  rw [Int32.le_iff_toInt_le, nI_toInt (by decide)] at h
  rw [Int32.lt_iff_toInt_lt]
  have e : (5 : Int32).toInt = 5 := by decide
  omega
theorem vs_15' {x : Int32} (h : nI 16 ≤ x) : ¬ x ≤ (15 : Int32) := by
  rw [Int32.le_iff_toInt_le, nI_toInt (by decide)] at h
  rw [Int32.le_iff_toInt_le]
  have e : (15 : Int32).toInt = 15 := by decide
  omega
theorem vs_c6 {t : Nat} (h : t < 6) : (nI t).toNatClampNeg = t := nI_clamp (by omega)
theorem vs_c16 {c : Nat} (h : c < 16) : (nI c).toNatClampNeg = c := nI_clamp (by omega)
theorem vs_v6 {t : Nat} (h : t < 6) : vp_in (nI t) 6 := vp_in_nI h (by decide)
theorem vs_v16 {c : Nat} (h : c < 16) : vp_in (nI c) 16 := vp_in_nI h (by decide)
theorem vs_eX {t c : Nat} (ht : t < 6) (hc : c < 16) : (nI t * (16 : Int32) + nI c).toNatClampNeg = 16 * t + c := by
  rw [vs_ixX, vs_cl (by omega)]
theorem vs_eY {t c : Nat} (ht : t < 6) (hc : c < 16) : ((16 : Int32) * nI t + nI c).toNatClampNeg = 16 * t + c := by
  rw [vs_ixY, vs_cl (by omega)]
theorem vs_vX {t c : Nat} (ht : t < 6) (hc : c < 16) : vp_in (nI t * (16 : Int32) + nI c) 96 := by
  rw [vs_ixX]; exact vp_in_nI (by omega) (by decide)
theorem vs_vY {t c : Nat} (ht : t < 6) (hc : c < 16) : vp_in ((16 : Int32) * nI t + nI c) 96 := by
  rw [vs_ixY]; exact vp_in_nI (by omega) (by decide)
theorem vs_nb1 : vp_nar .boolean 1 = 1 := by first | rfl | decide
theorem vs_nb0 : vp_nar .boolean 0 = 0 := by first | rfl | decide
theorem vs_10 : ¬ (1 : Int32) = 0 := by decide
/-- no open transaction has this number -/
def vs_bad (op : Nat → Int32) (x : Int32) : Prop := x < 0 ∨ nI 6 ≤ x ∨ ∃ t : Nat, t < 6 ∧ x = nI t ∧ op t = 0
theorem vs_dic (op : Nat → Int32) (x : Int32) : vs_bad op x ∨ ∃ t : Nat, t < 6 ∧ x = nI t ∧ ¬ op t = 0 := by
  rcases pk_ix x (n := 6) (by decide) with h | h | ⟨t, ht, e⟩
  · exact Or.inl (Or.inl h)
  · exact Or.inl (Or.inr (Or.inl h))
  · by_cases z : op t = 0
    · exact Or.inl (Or.inr (Or.inr ⟨t, ht, e, z⟩))
    · exact Or.inr ⟨t, ht, e, z⟩
def vs_bc (x : Int32) : Prop := x < 0 ∨ nI 16 ≤ x
theorem vs_dicC (x : Int32) : vs_bc x ∨ ∃ c : Nat, c < 16 ∧ x = nI c := by
  rcases pk_ix x (n := 16) (by decide) with h | h | h
  · exact Or.inl (Or.inl h)
  · exact Or.inl (Or.inr h)
  · exact Or.inr h
theorem vs_first (op : Nat → Int32) : ∀ d j, j + d = 6 → (∀ s, s < j → ¬ op s = 0) → (∃ t, t < 6 ∧ op t = 0 ∧ ∀ s, s < t → ¬ op s = 0) ∨ (∀ s, s < 6 → ¬ op s = 0) := by
  intro d
  induction d with
  | zero => exact fun j hj h => Or.inr (fun s hs => h s (by omega))
  | succ d ih =>
    intro j hj h
    by_cases z : op j = 0
    · exact Or.inl ⟨j, by omega, z, h⟩
    · exact ih (j + 1) (by omega) (lt_s h z)
/-! the component's walks -/
section
variable {cv rv op se wr rd ov : Nat → Int32} {t c : Nat}
theorem xo_yes {post : Int32 → Prop} (ht : t < 6) (ho : ¬ op t = 0) (hp : post 1) : wpX_isOpenTransaction post (cv, rv, op, se, wr, rd, ov) (nI t) :=
  br_f (nI_pos (by omega)) (br_f (vs_6 ht) ⟨vs_v6 ht, br_f (by rw [vs_c6 ht]; exact ho) hp⟩)
theorem xo_no {post : Int32 → Prop} {x : Int32} (h : vs_bad op x) (hp : post 0) : wpX_isOpenTransaction post (cv, rv, op, se, wr, rd, ov) x := by
  rcases h with h | h | ⟨t, ht, rfl, h⟩
  · exact br_t h hp
  · exact br_c (fun _ => hp) (fun _ => br_t h hp)
  · exact br_f (nI_pos (by omega)) (br_f (vs_6 ht) ⟨vs_v6 ht, br_t (by rw [vs_c6 ht]; exact h) hp⟩)
theorem xc_yes {post : Int32 → Prop} (hc : c < 16) (hp : post 1) : wpX_isCell post (nI c) :=
  br_f (nI_pos (by omega)) (br_f (vs_16 hc) hp)
theorem xc_no {post : Int32 → Prop} {x : Int32} (h : vs_bc x) (hp : post 0) : wpX_isCell post x := by
  rcases h with h | h
  · exact br_t h hp
  · exact br_c (fun _ => hp) (fun _ => br_t h hp)
theorem xh_t {post : Int32 → Prop} {x : Int32} (hc : c < 16) (h : bt x c = true) (hp : post 1) : wpX_holds post x (nI c) :=
  br_t ((vs_holds x hc).mpr h) hp
theorem xh_f {post : Int32 → Prop} {x : Int32} (hc : c < 16) (h : ¬ bt x c = true) (hp : post 0) : wpX_holds post x (nI c) :=
  br_f (fun z => h ((vs_holds x hc).mp z)) hp
theorem xr_t {post : SX → Prop} (ht : t < 6) (hc : c < 16) (h : bt (wr t) c = true) (hp : post (cv, rv, op, se, wr, rd, ov)) : wpX_rememberRead post (cv, rv, op, se, wr, rd, ov) (nI t) (nI c) := by
  unfold wpX_rememberRead
  dsimp only
  rw [vs_c6 ht]
  exact ⟨vs_v6 ht, xh_t hc h (br_f vs_10 hp)⟩
theorem xr_f {post : SX → Prop} (ht : t < 6) (hc : c < 16) (h : ¬ bt (wr t) c = true) (hp : post (cv, rv, op, se, wr, upd rd t (rd t ||| ((1 : Int32) <<< (nI c &&& 31))), ov)) : wpX_rememberRead post (cv, rv, op, se, wr, rd, ov) (nI t) (nI c) := by
  unfold wpX_rememberRead
  dsimp only
  rw [vs_c6 ht]
  exact ⟨vs_v6 ht, xh_f hc h (br_t rfl ⟨vs_v6 ht, vs_v6 ht, nm_e hp⟩)⟩
theorem xs_own {post : SX → Prop} (ht : t < 6) (hc : c < 16) (x : Int32) (hp : post (cv, upd rv (16 * t + c) x, op, se, upd wr t (wr t ||| ((1 : Int32) <<< (nI c &&& 31))), rd, ov)) : wpX_setOwn post (cv, rv, op, se, wr, rd, ov) (nI t) (nI c) x := by
  unfold wpX_setOwn
  dsimp only
  rw [vs_c6 ht, vs_eX ht hc]
  exact ⟨vs_vX ht hc, nm_e ⟨vs_v6 ht, vs_v6 ht, nm_e hp⟩⟩
theorem xw_way {post : Int32 → Prop} (ht : t < 6)
    (hT : (se t = 0 → wr t &&& ov t = 0) → (¬ se t = 0 → (wr t ||| rd t) &&& ov t = 0) → post 1)
    (hF : (se t = 0 → ¬ wr t &&& ov t = 0) → (¬ se t = 0 → ¬ (wr t ||| rd t) &&& ov t = 0) → post 0) : wpX_hasFreeWay post (cv, rv, op, se, wr, rd, ov) (nI t) := by
  unfold wpX_hasFreeWay
  dsimp only
  unfold wX_hasFreeWay_25
  rw [vs_c6 ht]
  refine ⟨vs_v6 ht, nm_e ⟨vs_v6 ht, br_c (fun z => ⟨vs_v6 ht, br_c (fun y => hT (fun _ => y) (fun w => absurd z w)) (fun y => hF (fun _ => y) (fun w => absurd z w))⟩) (fun z => ⟨vs_v6 ht, nm_e ⟨vs_v6 ht, br_c (fun y => hT (fun w => absurd w z) (fun _ => y)) (fun y => hF (fun w => absurd w z) (fun _ => y))⟩⟩)⟩⟩
theorem xp_pub {post : SX → Prop} (ht : t < 6) (hp : post (vs_pb (fun c => bt (wr t) c) (fun c => rv (16 * t + c)) cv 16, rv, op, se, wr, rd, ov)) : wpX_publishWrites post (cv, rv, op, se, wr, rd, ov) (nI t) := by
  unfold wpX_publishWrites
  dsimp only
  refine loop_0 (fun n i s => wX_publishWrites_2 post (nI t) n (nI i) s rv op se wr rd ov) (fun i s => s = vs_pb (fun c => bt (wr t) c) (fun c => rv (16 * t + c)) cv i) 16 cv (vs_pb0 _ _ _).symm ?_ ?_
  · intro n s e
    subst e
    exact br_t (Int32.le_refl _) hp
  · intro n i s hi e hn
    subst e
    refine br_f (vs_16 hi) ⟨vs_v6 ht, ?_⟩
    rw [vs_c6 ht]
    by_cases b : bt (wr t) i = true
    · refine xh_t hi b (br_f vs_10 ⟨vs_vX ht hi, vs_v16 hi, nm_r ?_ (nm_r (nI_1 i) (hn _ rfl))⟩)
      rw [vs_eX ht hi, vs_c16 hi]
      exact vs_pbT (fun c => rv (16 * t + c)) cv (q := fun c => bt (wr t) c) b
    · refine xh_f hi b (br_t rfl (nm_r (nI_1 i) (hn _ ?_)))
      exact vs_pbF (fun c => rv (16 * t + c)) cv (q := fun c => bt (wr t) c) (Bool.not_eq_true _ ▸ b)
theorem xv_over {post : SX → Prop} (w : Int32) (hp : post (cv, rv, op, se, wr, rd, vs_ov w ov 6)) : wpX_overtakeOthers post (cv, rv, op, se, wr, rd, ov) w := by
  unfold wpX_overtakeOthers
  dsimp only
  refine loop_0 (fun n i s => wX_overtakeOthers_2 post w n (nI i) cv rv op se wr rd s) (fun i s => s = vs_ov w ov i) 6 ov (vs_ov0 _ _).symm ?_ ?_
  · intro n s e
    subst e
    exact br_t (Int32.le_refl _) hp
  · intro n i s hi e hn
    subst e
    refine br_f (vs_6 hi) ⟨vs_v6 hi, vs_v6 hi, nm_r ?_ (nm_r (nI_1 i) (hn _ rfl))⟩
    rw [vs_c6 hi]
    exact vs_ovS w ov i
theorem xt_start {post : SX → Prop} (ht : t < 6) (p : Int32) (hp : post (cv, vs_cp t cv rv 16, upd op t 1, upd se t (vp_nar .boolean p), upd wr t 0, upd rd t 0, upd ov t 0)) : wpX_start post (cv, rv, op, se, wr, rd, ov) (nI t) p := by
  unfold wpX_start
  dsimp only
  rw [vs_c6 ht, vs_nb1]
  refine ⟨vs_v6 ht, nm_e ⟨vs_v6 ht, nm_e ⟨vs_v6 ht, nm_e ⟨vs_v6 ht, nm_e ⟨vs_v6 ht, nm_e ?_⟩⟩⟩⟩⟩
  refine loop_0 (fun n i s => wX_start_37 post (nI t) n (nI i) cv s (upd op t 1) (upd se t (vp_nar .boolean p)) (upd wr t 0) (upd rd t 0) (upd ov t 0)) (fun i s => s = vs_cp t cv rv i) 16 rv (vs_cp0 _ _ _).symm ?_ ?_
  · intro n s e
    subst e
    exact br_t (Int32.le_refl _) hp
  · intro n i s hi e hn
    subst e
    refine br_f (vs_16 hi) ⟨vs_v16 hi, vs_vX ht hi, nm_r ?_ (nm_r (nI_1 i) (hn _ rfl))⟩
    rw [vs_eX ht hi, vs_c16 hi]
    exact vs_cpS t cv rv i
theorem xb_yes {post : Int32 → SX → Prop} (ht : t < 6) (h0 : op t = 0) (hs : ∀ s, s < t → ¬ op s = 0) (p : Int32) (hp : post (nI t) (cv, vs_cp t cv rv 16, upd op t 1, upd se t (vp_nar .boolean p), upd wr t 0, upd rd t 0, upd ov t 0)) : wpX_begin post (cv, rv, op, se, wr, rd, ov) p := by
  unfold wpX_begin
  dsimp only
  refine loop_0 (fun n i (_ : Unit) => wX_begin_2 post p cv rv op se wr rd ov n (nI i)) (fun _ _ => True) t () trivial ?_ ?_
  · intro n s _
    exact br_f (vs_6 ht) ⟨vs_v6 ht, br_t (by rw [vs_c6 ht]; exact h0) (xt_start ht p hp)⟩
  · intro n i s hi _ hn
    have h6 : i < 6 := by omega
    exact br_f (vs_6 h6) ⟨vs_v6 h6, br_f (by rw [vs_c6 h6]; exact hs i hi) (nm_r (nI_1 i) (hn () trivial))⟩
theorem xb_no {post : Int32 → SX → Prop} (hs : ∀ s, s < 6 → ¬ op s = 0) (p : Int32) (hp : post (-1) (cv, rv, op, se, wr, rd, ov)) : wpX_begin post (cv, rv, op, se, wr, rd, ov) p := by
  unfold wpX_begin
  dsimp only
  refine loop_0 (fun n i (_ : Unit) => wX_begin_2 post p cv rv op se wr rd ov n (nI i)) (fun _ _ => True) 6 () trivial ?_ ?_
  · intro n s _
    exact br_t (Int32.le_refl _) hp
  · intro n i s hi _ hn
    exact br_f (vs_6 hi) ⟨vs_v6 hi, br_f (by rw [vs_c6 hi]; exact hs i hi) (nm_r (nI_1 i) (hn () trivial))⟩
end
