/-! the relation and the owed statements -/
def i_Rel (k : Nat) (u : SX) (v : SY) : Prop := match u, v with
  | (cv, rv, op, se, wr, rd, ov), (cm, st, wn, lv, sr, bg, vw, wt, ow, lk) => st = cv ∧ lv = op ∧ sr = se ∧ vs_R k rv wr rd ov wn bg vw wt ow lk cm
theorem i_up {k : Nat} {u : SX} {v : SY} (h : i_Rel k u v) : i_Rel (k + 4) u v := by
  obtain ⟨cv, rv, op, se, wr, rd, ov⟩ := u
  obtain ⟨cm, st, wn, lv, sr, bg, vw, wt, ow, lk⟩ := v
  obtain ⟨a, b, c, d⟩ := h
  exact ⟨a, b, c, vs_Rup d⟩
theorem i_vc0 : wpX_init (fun u => wpY_init (fun v => i_Rel 0 u v)) := ⟨rfl, rfl, rfl, vs_R0⟩
theorem i_vc_begin {k : Nat} {u : SX} {v : SY} (I : i_Rel k u v) (hk : k + 4 ≤ 2048) (v1 : Int32) : wpX_begin (fun r u' => wpY_begin (fun r' v' => r' = r ∧ i_Rel (k + 4) u' v') v (lw_bz v1)) u (lw_bz v1) := by
  obtain ⟨cv, rv, op, se, wr, rd, ov⟩ := u
  obtain ⟨cm, st, wn, lv, sr, bg, vw, wt, ow, lk⟩ := v
  obtain ⟨rfl, rfl, rfl, h⟩ := I
  rcases vs_first _ 6 0 rfl (fun s hs => absurd hs (Nat.not_lt_zero s)) with ⟨t, ht, h0, hs⟩ | hs
  · exact xb_yes ht h0 hs _ (yb_beg ht h0 hs _ ⟨rfl, rfl, rfl, rfl, vs_Rup (vs_Rbegin h _ t)⟩)
  · exact xb_no hs _ (yb_full hs _ ⟨rfl, rfl, rfl, rfl, vs_Rup h⟩)
theorem i_vc_read {k : Nat} {u : SX} {v : SY} (I : i_Rel k u v) (hk : k + 4 ≤ 2048) (v1 : Int32) (v2 : Int32) : wpX_read (fun r u' => wpY_read (fun r' v' => r' = r ∧ i_Rel (k + 4) u' v') v v1 v2) u v1 v2 := by
  obtain ⟨cv, rv, op, se, wr, rd, ov⟩ := u
  obtain ⟨cm, st, wn, lv, sr, bg, vw, wt, ow, lk⟩ := v
  obtain ⟨rfl, rfl, rfl, h⟩ := I
  rcases vs_dic _ v1 with b | ⟨t, ht, rfl, ho⟩
  · exact xm_readB b (ym_readB b ⟨rfl, rfl, rfl, rfl, vs_Rup h⟩)
  · rcases vs_dicC v2 with b | ⟨c, hc, rfl⟩
    · exact xm_readC ht ho b (ym_readC ht ho b ⟨rfl, rfl, rfl, rfl, vs_Rup h⟩)
    · obtain ⟨a1, a2, a3, a4⟩ := h.1 t c ht hc
      by_cases w : bt (wr t) c = true
      · exact xm_readW ht hc ho w (ym_readW ht hc ho (a1.mp w) ⟨a3.symm, rfl, rfl, rfl, vs_Rup h⟩)
      · have z : wt (16 * t + c) = 0 := Decidable.byContradiction (fun y => w (a1.mpr y))
        exact xm_readN ht hc ho w (ym_readN ht hc ho z ⟨a3.symm, rfl, rfl, rfl, vs_Rup (vs_Rread h hc)⟩)
theorem i_vc_write {k : Nat} {u : SX} {v : SY} (I : i_Rel k u v) (hk : k + 4 ≤ 2048) (v1 : Int32) (v2 : Int32) (v3 : Int32) : wpX_write (fun r u' => wpY_write (fun r' v' => r' = r ∧ i_Rel (k + 4) u' v') v v1 v2 v3) u v1 v2 v3 := by
  obtain ⟨cv, rv, op, se, wr, rd, ov⟩ := u
  obtain ⟨cm, st, wn, lv, sr, bg, vw, wt, ow, lk⟩ := v
  obtain ⟨rfl, rfl, rfl, h⟩ := I
  rcases vs_dic _ v1 with b | ⟨t, ht, rfl, ho⟩
  · exact xm_writeB b (ym_writeB b ⟨rfl, rfl, rfl, rfl, vs_Rup h⟩)
  · rcases vs_dicC v2 with b | ⟨c, hc, rfl⟩
    · exact xm_writeC ht ho b (ym_writeC ht ho b ⟨rfl, rfl, rfl, rfl, vs_Rup h⟩)
    · exact xm_write ht hc ho v3 (ym_write ht hc ho v3 ⟨rfl, rfl, rfl, rfl, vs_Rup (vs_Rwrite h hc v3)⟩)
theorem i_vc_add {k : Nat} {u : SX} {v : SY} (I : i_Rel k u v) (hk : k + 4 ≤ 2048) (v1 : Int32) (v2 : Int32) (v3 : Int32) : wpX_add (fun r u' => wpY_add (fun r' v' => r' = r ∧ i_Rel (k + 4) u' v') v v1 v2 v3) u v1 v2 v3 := by
  obtain ⟨cv, rv, op, se, wr, rd, ov⟩ := u
  obtain ⟨cm, st, wn, lv, sr, bg, vw, wt, ow, lk⟩ := v
  obtain ⟨rfl, rfl, rfl, h⟩ := I
  rcases vs_dic _ v1 with b | ⟨t, ht, rfl, ho⟩
  · exact xm_addB b (ym_addB b ⟨rfl, rfl, rfl, rfl, vs_Rup h⟩)
  · rcases vs_dicC v2 with b | ⟨c, hc, rfl⟩
    · exact xm_addC ht ho b (ym_addC ht ho b ⟨rfl, rfl, rfl, rfl, vs_Rup h⟩)
    · obtain ⟨a1, a2, a3, a4⟩ := h.1 t c ht hc
      by_cases w : bt (wr t) c = true
      · exact xm_addW ht hc ho v3 w (ym_addW ht hc ho v3 (rv (16 * t + c)) (a1.mp w) a3.symm ⟨rfl, rfl, rfl, rfl, vs_Rup (vs_Rwrite h hc _)⟩)
      · have z : wt (16 * t + c) = 0 := Decidable.byContradiction (fun y => w (a1.mpr y))
        exact xm_addN ht hc ho v3 w (ym_addN ht hc ho v3 (rv (16 * t + c)) z a3.symm ⟨rfl, rfl, rfl, rfl, vs_Rup (vs_Rwrite (vs_Rread h hc) hc _)⟩)
theorem i_vc_commit {k : Nat} {u : SX} {v : SY} (I : i_Rel k u v) (hk : k + 4 ≤ 2048) (v1 : Int32) : wpX_commit (fun r u' => wpY_commit (fun r' v' => r' = r ∧ i_Rel (k + 4) u' v') v v1) u v1 := by
  obtain ⟨cv, rv, op, se, wr, rd, ov⟩ := u
  obtain ⟨cm, st, wn, lv, sr, bg, vw, wt, ow, lk⟩ := v
  obtain ⟨rfl, rfl, rfl, h⟩ := I
  rcases vs_dic _ v1 with b | ⟨t, ht, rfl, ho⟩
  · exact xm_commitB b (ym_commitB b ⟨rfl, rfl, rfl, rfl, vs_Rup h⟩)
  · have wy : ∀ P : Prop, ((∀ c, c < 16 → ¬ vs_M sr wt lk wn bg t c) → P) → (sr t = 0 → wr t &&& ov t = 0) → (¬ sr t = 0 → (wr t ||| rd t) &&& ov t = 0) → P := fun P f a b => f (by
      by_cases z : sr t = 0
      · exact (vs_wayT h ht z).mp (a z)
      · exact (vs_wayS h ht z).mp (b z))
    have wn' : ∀ P : Prop, (¬ (∀ c, c < 16 → ¬ vs_M sr wt lk wn bg t c) → P) → (sr t = 0 → ¬ wr t &&& ov t = 0) → (¬ sr t = 0 → ¬ (wr t ||| rd t) &&& ov t = 0) → P := fun P f a b => f (by
      by_cases z : sr t = 0
      · exact fun m => a z ((vs_wayT h ht z).mpr m)
      · exact fun m => b z ((vs_wayS h ht z).mpr m))
    refine xm_commit ht ho (wy _ fun m => ym_commit ht ho (fun _ => ⟨rfl, (vs_cvE h ht _).symm, rfl, rfl, vs_Rcommit h hk ht⟩) (fun n => absurd m n)) (wn' _ fun m => ym_commit ht ho (fun n => absurd n m) (fun _ => ⟨rfl, rfl, rfl, rfl, vs_Rup h⟩))
theorem i_vc_abort {k : Nat} {u : SX} {v : SY} (I : i_Rel k u v) (hk : k + 4 ≤ 2048) (v1 : Int32) : wpX_abort (fun r u' => wpY_abort (fun r' v' => r' = r ∧ i_Rel (k + 4) u' v') v v1) u v1 := by
  obtain ⟨cv, rv, op, se, wr, rd, ov⟩ := u
  obtain ⟨cm, st, wn, lv, sr, bg, vw, wt, ow, lk⟩ := v
  obtain ⟨rfl, rfl, rfl, h⟩ := I
  rcases vs_dic _ v1 with b | ⟨t, ht, rfl, ho⟩
  · exact xm_abortB b (ym_abortB b ⟨rfl, rfl, rfl, rfl, vs_Rup h⟩)
  · exact xm_abort ht ho (ym_abort ht ho ⟨rfl, rfl, rfl, rfl, vs_Rup h⟩)
theorem i_vc_might {k : Nat} {u : SX} {v : SY} (I : i_Rel k u v) (hk : k + 4 ≤ 2048) (v1 : Int32) : wpX_might (fun r => wpY_might (fun r' => r' = r ∧ i_Rel (k + 4) u v) v v1) u v1 := by
  obtain ⟨cv, rv, op, se, wr, rd, ov⟩ := u
  obtain ⟨cm, st, wn, lv, sr, bg, vw, wt, ow, lk⟩ := v
  obtain ⟨rfl, rfl, rfl, h⟩ := I
  rcases vs_dic _ v1 with b | ⟨t, ht, rfl, ho⟩
  · exact xm_mightB b (ym_mightB b ⟨rfl, rfl, rfl, rfl, vs_Rup h⟩)
  · have wy : ∀ P : Prop, ((∀ c, c < 16 → ¬ vs_M sr wt lk wn bg t c) → P) → (sr t = 0 → wr t &&& ov t = 0) → (¬ sr t = 0 → (wr t ||| rd t) &&& ov t = 0) → P := fun P f a b => f (by
      by_cases z : sr t = 0
      · exact (vs_wayT h ht z).mp (a z)
      · exact (vs_wayS h ht z).mp (b z))
    have wn' : ∀ P : Prop, (¬ (∀ c, c < 16 → ¬ vs_M sr wt lk wn bg t c) → P) → (sr t = 0 → ¬ wr t &&& ov t = 0) → (¬ sr t = 0 → ¬ (wr t ||| rd t) &&& ov t = 0) → P := fun P f a b => f (by
      by_cases z : sr t = 0
      · exact fun m => a z ((vs_wayT h ht z).mpr m)
      · exact fun m => b z ((vs_wayS h ht z).mpr m))
    refine xm_might ht ho (wy _ fun m => ym_might ht ho (fun _ => ⟨rfl, rfl, rfl, rfl, vs_Rup h⟩) (fun n => absurd m n)) (wn' _ fun m => ym_might ht ho (fun n => absurd n m) (fun _ => ⟨rfl, rfl, rfl, rfl, vs_Rup h⟩))
theorem i_vc_committed {k : Nat} {u : SX} {v : SY} (I : i_Rel k u v) (hk : k + 4 ≤ 2048) (v1 : Int32) : wpX_committed (fun r => wpY_committed (fun r' => r' = r ∧ i_Rel (k + 4) u v) v v1) u v1 := by
  obtain ⟨cv, rv, op, se, wr, rd, ov⟩ := u
  obtain ⟨cm, st, wn, lv, sr, bg, vw, wt, ow, lk⟩ := v
  obtain ⟨rfl, rfl, rfl, h⟩ := I
  rcases vs_dicC v1 with b | ⟨c, hc, rfl⟩
  · exact xm_cmtC b (ym_cmtC b ⟨rfl, rfl, rfl, rfl, vs_Rup h⟩)
  · exact xm_cmt hc (ym_cmt hc ⟨rfl, rfl, rfl, rfl, vs_Rup h⟩)
theorem i_vc_sum {k : Nat} {u : SX} {v : SY} (I : i_Rel k u v) (hk : k + 4 ≤ 2048) (v1 : Int32) (v2 : Int32) (v3 : Int32) : wpX_sum (fun r => wpY_sum (fun r' => r' = r ∧ i_Rel (k + 4) u v) v v1 v2 v3) u v1 v2 v3 := by
  obtain ⟨cv, rv, op, se, wr, rd, ov⟩ := u
  obtain ⟨cm, st, wn, lv, sr, bg, vw, wt, ow, lk⟩ := v
  obtain ⟨rfl, rfl, rfl, h⟩ := I
  rcases vs_dic _ v1 with b | ⟨t, ht, rfl, ho⟩
  · exact xm_sumB b (ym_sumB b ⟨rfl, rfl, rfl, rfl, vs_Rup h⟩)
  · exact xm_sum ht ho v2 v3 (ym_sum ht ho v2 v3 ⟨vs_sumC v2 v3 16 (fun c hc => (h.1 t c ht hc).2.2.1.symm), rfl, rfl, rfl, vs_Rup h⟩)
theorem i_vc_tidy {k : Nat} {u : SX} {v : SY} (I : i_Rel k u v) (hk : k + 4 ≤ 2048) : wpX_tidy (fun u' => wpY_tidy (fun v' => i_Rel (k + 4) u' v') v) u := by
  obtain ⟨cv, rv, op, se, wr, rd, ov⟩ := u
  obtain ⟨cm, st, wn, lv, sr, bg, vw, wt, ow, lk⟩ := v
  obtain ⟨rfl, rfl, rfl, h⟩ := I
  exact ⟨rfl, rfl, rfl, vs_Rup h⟩
theorem i_vc_open {k : Nat} {u : SX} {v : SY} (I : i_Rel k u v) (hk : k + 4 ≤ 2048) : wpX_open (fun r => wpY_open (fun r' => r' = r ∧ i_Rel (k + 4) u v) v) u := by
  obtain ⟨cv, rv, op, se, wr, rd, ov⟩ := u
  obtain ⟨cm, st, wn, lv, sr, bg, vw, wt, ow, lk⟩ := v
  obtain ⟨rfl, rfl, rfl, h⟩ := I
  exact xm_open (ym_open ⟨rfl, rfl, rfl, rfl, vs_Rup h⟩)
