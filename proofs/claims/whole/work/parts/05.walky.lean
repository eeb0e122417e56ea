/-! the reference's walks and methods -/
section
variable {cm : Int32} {st wn lv sr bg vw wt ow lk : Nat → Int32} {t c : Nat}
theorem yb_yes {post : Int32 → Prop} (ht : t < 6) (ho : ¬ lv t = 0) (hp : post 0) : wpY_bad post (cm, st, wn, lv, sr, bg, vw, wt, ow, lk) (nI t) :=
  br_f (nI_pos (by omega)) (br_f (vs_5 ht) ⟨vs_v6 ht, br_f (by rw [vs_c6 ht]; exact ho) hp⟩)
theorem yb_no {post : Int32 → Prop} {x : Int32} (h : vs_bad lv x) (hp : post 1) : wpY_bad post (cm, st, wn, lv, sr, bg, vw, wt, ow, lk) x := by
  rcases h with h | h | ⟨t, ht, rfl, h⟩
  · exact br_t h hp
  · exact br_c (fun _ => hp) (fun _ => br_t (vs_5' h) hp)
  · exact br_f (nI_pos (by omega)) (br_f (vs_5 ht) ⟨vs_v6 ht, br_t (by rw [vs_c6 ht]; exact h) hp⟩)
theorem yc_yes {post : Int32 → Prop} (hc : c < 16) (hp : post 0) : wpY_badCell post (nI c) :=
  br_f (nI_pos (by omega)) (br_t (vs_15 hc) hp)
theorem yc_no {post : Int32 → Prop} {x : Int32} (h : vs_bc x) (hp : post 1) : wpY_badCell post x := by
  rcases h with h | h
  · exact br_t h hp
  · exact br_c (fun _ => hp) (fun _ => br_f (vs_15' h) hp)
theorem ys_seen {post : Int32 → Prop} (ht : t < 6) (hc : c < 16) (hp : post (if wt (16 * t + c) = 0 then vw (16 * t + c) else ow (16 * t + c))) : wpY_seen post (cm, st, wn, lv, sr, bg, vw, wt, ow, lk) ((16 : Int32) * nI t + nI c) := by
  unfold wpY_seen
  dsimp only
  rw [vs_eY ht hc]
  refine ⟨vs_vY ht hc, br_c (fun z => ⟨vs_vY ht hc, ?_⟩) (fun z => ⟨vs_vY ht hc, ?_⟩)⟩
  · rw [if_pos z] at hp; exact hp
  · rw [if_neg z] at hp; exact hp
/-! begin -/
theorem yb_43 {post : Int32 → SY → Prop} (ht : t < 6) (hp : post (nI t) (cm, st, wn, lv, sr, bg, vs_cp t st vw 16, vs_cp t (fun _ => 0) wt 16, ow, vs_cp t (fun _ => 0) lk 16)) : ∃ n, wY_begin_43 post (nI t) cm n 0 st wn lv sr bg vw wt ow lk := by
  refine loop_0 (fun n i (s : (Nat → Int32) × (Nat → Int32) × (Nat → Int32)) => wY_begin_43 post (nI t) cm n (nI i) st wn lv sr bg s.1 s.2.1 ow s.2.2) (fun i s => s = (vs_cp t st vw i, vs_cp t (fun _ => 0) wt i, vs_cp t (fun _ => 0) lk i)) 16 (vw, wt, lk) ?_ ?_ ?_
  · show (vw, wt, lk) = (vs_cp t st vw 0, vs_cp t (fun _ => 0) wt 0, vs_cp t (fun _ => 0) lk 0)
    rw [vs_cp0, vs_cp0, vs_cp0]
  · intro n s e
    subst e
    exact br_t (Int32.le_refl _) hp
  · intro n i s hi e hn
    subst e
    have h := hn _ rfl
    dsimp only at h
    refine br_f (vs_16 hi) ⟨vs_v16 hi, vs_vY ht hi, nm_r (e' := vs_cp t st vw (i + 1)) ?_ ⟨vs_vY ht hi, nm_r (e' := vs_cp t (fun _ => 0) wt (i + 1)) ?_ ⟨vs_vY ht hi, nm_r (e' := vs_cp t (fun _ => 0) lk (i + 1)) ?_ (nm_r (nI_1 i) h)⟩⟩⟩
    · rw [vs_eY ht hi, vs_c16 hi]
      exact vs_cpS t st vw i
    · rw [vs_eY ht hi, vs_nb0]
      exact vs_cpS t (fun _ => 0) wt i
    · rw [vs_eY ht hi, vs_nb0]
      exact vs_cpS t (fun _ => 0) lk i
theorem yb_beg {post : Int32 → SY → Prop} (ht : t < 6) (h0 : lv t = 0) (hs : ∀ s, s < t → ¬ lv s = 0) (p : Int32) (hp : post (nI t) (cm, st, wn, upd lv t 1, upd sr t (vp_nar .boolean p), upd bg t cm, vs_cp t st vw 16, vs_cp t (fun _ => 0) wt 16, ow, vs_cp t (fun _ => 0) lk 16)) : wpY_begin post (cm, st, wn, lv, sr, bg, vw, wt, ow, lk) p := by
  unfold wpY_begin
  dsimp only
  refine loop_0 (fun n i (_ : Unit) => wY_begin_2 post p cm st wn lv sr bg vw wt ow lk n (nI i)) (fun _ _ => True) t () trivial ?_ ?_
  · intro n s _
    refine br_f (vs_6 ht) ⟨vs_v6 ht, br_t (by rw [vs_c6 ht]; exact h0) ⟨vs_v6 ht, nm_r (e' := upd lv t 1) ?_ ⟨vs_v6 ht, nm_r (e' := upd sr t (vp_nar .boolean p)) ?_ ⟨vs_v6 ht, nm_r (e' := upd bg t cm) ?_ (yb_43 ht hp)⟩⟩⟩⟩
    · rw [vs_c6 ht, vs_nb1]
    · rw [vs_c6 ht]
    · rw [vs_c6 ht]
  · intro n i s hi _ hn
    have h6 : i < 6 := by omega
    exact br_f (vs_6 h6) ⟨vs_v6 h6, br_f (by rw [vs_c6 h6]; exact hs i hi) (nm_r (nI_1 i) (hn () trivial))⟩
theorem yb_full {post : Int32 → SY → Prop} (hs : ∀ s, s < 6 → ¬ lv s = 0) (p : Int32) (hp : post (-1) (cm, st, wn, lv, sr, bg, vw, wt, ow, lk)) : wpY_begin post (cm, st, wn, lv, sr, bg, vw, wt, ow, lk) p := by
  unfold wpY_begin
  dsimp only
  refine loop_0 (fun n i (_ : Unit) => wY_begin_2 post p cm st wn lv sr bg vw wt ow lk n (nI i)) (fun _ _ => True) 6 () trivial ?_ ?_
  · intro n s _
    exact br_t (Int32.le_refl _) hp
  · intro n i s hi _ hn
    exact br_f (vs_6 hi) ⟨vs_v6 hi, br_f (by rw [vs_c6 hi]; exact hs i hi) (nm_r (nI_1 i) (hn () trivial))⟩
/-! read, write, add -/
theorem ym_readB {post : Int32 → SY → Prop} {x y : Int32} (h : vs_bad lv x) (hp : post 0 (cm, st, wn, lv, sr, bg, vw, wt, ow, lk)) : wpY_read post (cm, st, wn, lv, sr, bg, vw, wt, ow, lk) x y := by
  unfold wpY_read
  dsimp only
  exact yb_no h (br_f vs_10 hp)
theorem ym_readC {post : Int32 → SY → Prop} {y : Int32} (ht : t < 6) (ho : ¬ lv t = 0) (h : vs_bc y) (hp : post 0 (cm, st, wn, lv, sr, bg, vw, wt, ow, lk)) : wpY_read post (cm, st, wn, lv, sr, bg, vw, wt, ow, lk) (nI t) y := by
  unfold wpY_read
  dsimp only
  exact yb_yes ht ho (br_t rfl (yc_no h (br_f vs_10 hp)))
theorem ym_readW {post : Int32 → SY → Prop} (ht : t < 6) (hc : c < 16) (ho : ¬ lv t = 0) (h : ¬ wt (16 * t + c) = 0) (hp : post (if wt (16 * t + c) = 0 then vw (16 * t + c) else ow (16 * t + c)) (cm, st, wn, lv, sr, bg, vw, wt, ow, lk)) : wpY_read post (cm, st, wn, lv, sr, bg, vw, wt, ow, lk) (nI t) (nI c) := by
  unfold wpY_read
  dsimp only
  refine yb_yes ht ho (br_t rfl (yc_yes hc (br_t rfl (nm_e ⟨vs_vY ht hc, br_f (by rw [vs_eY ht hc]; exact h) ?_⟩))))
  unfold wY_read_40
  exact ys_seen ht hc hp
theorem ym_readN {post : Int32 → SY → Prop} (ht : t < 6) (hc : c < 16) (ho : ¬ lv t = 0) (h : wt (16 * t + c) = 0) (hp : post (if wt (16 * t + c) = 0 then vw (16 * t + c) else ow (16 * t + c)) (cm, st, wn, lv, sr, bg, vw, wt, ow, upd lk (16 * t + c) 1)) : wpY_read post (cm, st, wn, lv, sr, bg, vw, wt, ow, lk) (nI t) (nI c) := by
  unfold wpY_read
  dsimp only
  refine yb_yes ht ho (br_t rfl (yc_yes hc (br_t rfl (nm_e ⟨vs_vY ht hc, br_t (by rw [vs_eY ht hc]; exact h) ⟨vs_vY ht hc, nm_r (e' := upd lk (16 * t + c) 1) (by rw [vs_eY ht hc, vs_nb1]) ?_⟩⟩))))
  unfold wY_read_40
  exact ys_seen ht hc hp
theorem ym_writeB {post : Int32 → SY → Prop} {x y z : Int32} (h : vs_bad lv x) (hp : post (-1) (cm, st, wn, lv, sr, bg, vw, wt, ow, lk)) : wpY_write post (cm, st, wn, lv, sr, bg, vw, wt, ow, lk) x y z := by
  unfold wpY_write
  dsimp only
  exact yb_no h (br_f vs_10 hp)
theorem ym_writeC {post : Int32 → SY → Prop} {y z : Int32} (ht : t < 6) (ho : ¬ lv t = 0) (h : vs_bc y) (hp : post (-1) (cm, st, wn, lv, sr, bg, vw, wt, ow, lk)) : wpY_write post (cm, st, wn, lv, sr, bg, vw, wt, ow, lk) (nI t) y z := by
  unfold wpY_write
  dsimp only
  exact yb_yes ht ho (br_t rfl (yc_no h (br_f vs_10 hp)))
theorem ym_write {post : Int32 → SY → Prop} (ht : t < 6) (hc : c < 16) (ho : ¬ lv t = 0) (x : Int32) (hp : post 0 (cm, st, wn, lv, sr, bg, vw, upd wt (16 * t + c) 1, upd ow (16 * t + c) x, lk)) : wpY_write post (cm, st, wn, lv, sr, bg, vw, wt, ow, lk) (nI t) (nI c) x := by
  unfold wpY_write
  dsimp only
  exact yb_yes ht ho (br_t rfl (yc_yes hc (br_t rfl (nm_e ⟨vs_vY ht hc, nm_r (e' := upd wt (16 * t + c) 1) (by rw [vs_eY ht hc, vs_nb1]) ⟨vs_vY ht hc, nm_r (e' := upd ow (16 * t + c) x) (by rw [vs_eY ht hc]) hp⟩⟩))))
theorem ym_addB {post : Int32 → SY → Prop} {x y z : Int32} (h : vs_bad lv x) (hp : post 0 (cm, st, wn, lv, sr, bg, vw, wt, ow, lk)) : wpY_add post (cm, st, wn, lv, sr, bg, vw, wt, ow, lk) x y z := by
  unfold wpY_add
  dsimp only
  exact yb_no h (br_f vs_10 hp)
theorem ym_addC {post : Int32 → SY → Prop} {y z : Int32} (ht : t < 6) (ho : ¬ lv t = 0) (h : vs_bc y) (hp : post 0 (cm, st, wn, lv, sr, bg, vw, wt, ow, lk)) : wpY_add post (cm, st, wn, lv, sr, bg, vw, wt, ow, lk) (nI t) y z := by
  unfold wpY_add
  dsimp only
  exact yb_yes ht ho (br_t rfl (yc_no h (br_f vs_10 hp)))
theorem ym_addW {post : Int32 → SY → Prop} (ht : t < 6) (hc : c < 16) (ho : ¬ lv t = 0) (x w : Int32) (h : ¬ wt (16 * t + c) = 0) (hw : (if wt (16 * t + c) = 0 then vw (16 * t + c) else ow (16 * t + c)) = w) (hp : post (w + x) (cm, st, wn, lv, sr, bg, vw, upd wt (16 * t + c) 1, upd ow (16 * t + c) (w + x), lk)) : wpY_add post (cm, st, wn, lv, sr, bg, vw, wt, ow, lk) (nI t) (nI c) x := by
  subst hw
  unfold wpY_add
  dsimp only
  exact yb_yes ht ho (br_t rfl (yc_yes hc (br_t rfl (ym_readW ht hc ho h (nm_e (ym_write ht hc ho _ hp))))))
theorem ym_addN {post : Int32 → SY → Prop} (ht : t < 6) (hc : c < 16) (ho : ¬ lv t = 0) (x w : Int32) (h : wt (16 * t + c) = 0) (hw : (if wt (16 * t + c) = 0 then vw (16 * t + c) else ow (16 * t + c)) = w) (hp : post (w + x) (cm, st, wn, lv, sr, bg, vw, upd wt (16 * t + c) 1, upd ow (16 * t + c) (w + x), upd lk (16 * t + c) 1)) : wpY_add post (cm, st, wn, lv, sr, bg, vw, wt, ow, lk) (nI t) (nI c) x := by
  subst hw
  unfold wpY_add
  dsimp only
  exact yb_yes ht ho (br_t rfl (yc_yes hc (br_t rfl (ym_readN ht hc ho h (nm_e (ym_write ht hc ho _ hp))))))
/-! overtaken -/
theorem yo_1 {post : Int32 → Prop} {J : Int32 → Prop} (ht : t < 6) (hc : c < 16) (hJ : wn c ≤ bg t → J (nI (c + 1))) (hp : ¬ wn c ≤ bg t → post 1) : wY_overtaken_45 post J (nI t) (nI c) cm st wn lv sr bg vw wt ow lk := by
  unfold wY_overtaken_45 wY_overtaken_50
  rw [vs_c6 ht, vs_c16 hc]
  exact br_f vs_10 ⟨vs_v16 hc, vs_v6 ht, br_c (fun z => nm_r (nI_1 c) (hJ z)) hp⟩
theorem yo_0 {post : Int32 → Prop} {J : Int32 → Prop} (hJ : J (nI (c + 1))) : wY_overtaken_49 post J (nI t) (nI c) cm st wn lv sr bg vw wt ow lk := by
  unfold wY_overtaken_49 wY_overtaken_50
  exact br_t rfl (nm_r (nI_1 c) hJ)
theorem yo_all {post : Int32 → Prop} (ht : t < 6) (hF : (∀ c, c < 16 → ¬ vs_M sr wt lk wn bg t c) → post 0) (hT : ¬ (∀ c, c < 16 → ¬ vs_M sr wt lk wn bg t c) → post 1) : wpY_overtaken post (cm, st, wn, lv, sr, bg, vw, wt, ow, lk) (nI t) := by
  unfold wpY_overtaken
  dsimp only
  refine loop_0 (fun n i (_ : Unit) => wY_overtaken_2 post (nI t) cm st wn lv sr bg vw wt ow lk n (nI i)) (fun i _ => ∀ c, c < i → ¬ vs_M sr wt lk wn bg t c) 16 () (fun c hc => absurd hc (Nat.not_lt_zero c)) ?_ ?_
  · intro n s h
    exact br_t (Int32.le_refl _) (hF h)
  · intro n i s hi h hn
    have nx : ¬ vs_M sr wt lk wn bg t i → wY_overtaken_2 post (nI t) cm st wn lv sr bg vw wt ow lk n (nI (i + 1)) := fun z => hn () (lt_s h z)
    have o1 : (¬ wt (16 * t + i) = 0 ∨ (¬ sr t = 0 ∧ ¬ lk (16 * t + i) = 0)) → wY_overtaken_45 post (wY_overtaken_2 post (nI t) cm st wn lv sr bg vw wt ow lk n) (nI t) (nI i) cm st wn lv sr bg vw wt ow lk := fun m =>
      yo_1 ht hi (fun z => nx (fun y => absurd y.2 (Int32.not_lt.mpr z))) (fun z => hT (fun f => f i hi ⟨m, Int32.not_le.mp z⟩))
    have o0 : ¬ (¬ wt (16 * t + i) = 0 ∨ (¬ sr t = 0 ∧ ¬ lk (16 * t + i) = 0)) → wY_overtaken_49 post (wY_overtaken_2 post (nI t) cm st wn lv sr bg vw wt ow lk n) (nI t) (nI i) cm st wn lv sr bg vw wt ow lk := fun m =>
      yo_0 (nx (fun y => m y.1))
    refine br_f (vs_16 hi) ⟨vs_vY ht hi, ?_⟩
    rw [vs_eY ht hi, vs_c6 ht]
    exact br_c (fun a => ⟨vs_v6 ht, br_c (fun b => o0 (fun m => m.elim (fun z => z a) (fun z => z.1 b))) (fun b => ⟨vs_vY ht hi, br_c (fun d => o0 (fun m => m.elim (fun z => z a) (fun z => z.2 d))) (fun d => o1 (Or.inr ⟨b, d⟩))⟩)⟩) (fun a => o1 (Or.inl a))
/-! abort, might, commit -/
theorem ym_abortB {post : Int32 → SY → Prop} {x : Int32} (h : vs_bad lv x) (hp : post (-1) (cm, st, wn, lv, sr, bg, vw, wt, ow, lk)) : wpY_abort post (cm, st, wn, lv, sr, bg, vw, wt, ow, lk) x := by
  unfold wpY_abort
  dsimp only
  exact yb_no h (br_f vs_10 hp)
theorem ym_abort {post : Int32 → SY → Prop} (ht : t < 6) (ho : ¬ lv t = 0) (hp : post 0 (cm, st, wn, upd lv t 0, sr, bg, vw, wt, ow, lk)) : wpY_abort post (cm, st, wn, lv, sr, bg, vw, wt, ow, lk) (nI t) := by
  unfold wpY_abort
  dsimp only
  exact yb_yes ht ho (br_t rfl ⟨vs_v6 ht, nm_r (by rw [vs_c6 ht, vs_nb0]) hp⟩)
theorem ym_mightB {post : Int32 → Prop} {x : Int32} (h : vs_bad lv x) (hp : post (-1)) : wpY_might post (cm, st, wn, lv, sr, bg, vw, wt, ow, lk) x := by
  unfold wpY_might
  dsimp only
  exact yb_no h (br_f vs_10 hp)
theorem ym_might {post : Int32 → Prop} (ht : t < 6) (ho : ¬ lv t = 0) (hF : (∀ c, c < 16 → ¬ vs_M sr wt lk wn bg t c) → post 1) (hT : ¬ (∀ c, c < 16 → ¬ vs_M sr wt lk wn bg t c) → post 0) : wpY_might post (cm, st, wn, lv, sr, bg, vw, wt, ow, lk) (nI t) := by
  unfold wpY_might
  dsimp only
  exact yb_yes ht ho (br_t rfl (yo_all ht (fun z => br_t rfl (hF z)) (fun z => br_f vs_10 (hT z))))
theorem ym_39 {post : Int32 → SY → Prop} (ht : t < 6) (hp : post 0 (cm, vs_pb (vs_q wt t) (fun c => ow (16 * t + c)) st 16, vs_pb (vs_q wt t) (fun _ => cm) wn 16, lv, sr, bg, vw, wt, ow, lk)) : ∃ n, wY_commit_39 post (nI t) cm n 0 st wn lv sr bg vw wt ow lk := by
  refine loop_0 (fun n i (s : (Nat → Int32) × (Nat → Int32)) => wY_commit_39 post (nI t) cm n (nI i) s.1 s.2 lv sr bg vw wt ow lk) (fun i s => s = (vs_pb (vs_q wt t) (fun c => ow (16 * t + c)) st i, vs_pb (vs_q wt t) (fun _ => cm) wn i)) 16 (st, wn) ?_ ?_ ?_
  · show (st, wn) = (vs_pb (vs_q wt t) (fun c => ow (16 * t + c)) st 0, vs_pb (vs_q wt t) (fun _ => cm) wn 0)
    rw [vs_pb0, vs_pb0]
  · intro n s e
    subst e
    exact br_t (Int32.le_refl _) hp
  · intro n i s hi e hn
    subst e
    have h := hn _ rfl
    dsimp only at h
    refine br_f (vs_16 hi) ⟨vs_vY ht hi, ?_⟩
    dsimp only
    rw [vs_eY ht hi, vs_c16 hi]
    refine br_c (fun z => nm_r (nI_1 i) ?_) (fun z => ⟨vs_vY ht hi, vs_v16 hi, nm_r (e' := vs_pb (vs_q wt t) (fun c => ow (16 * t + c)) st (i + 1)) ?_ ⟨vs_v16 hi, nm_r (e' := vs_pb (vs_q wt t) (fun _ => cm) wn (i + 1)) ?_ (nm_r (nI_1 i) h)⟩⟩)
    · have q : vs_q wt t i = false := decide_eq_false (fun y => y z)
      rw [← vs_pbF (fun c => ow (16 * t + c)) st q, ← vs_pbF (fun _ => cm) wn q] at h
      exact h
    · exact vs_pbT (fun c => ow (16 * t + c)) st (decide_eq_true z)
    · exact vs_pbT (fun _ => cm) wn (decide_eq_true z)
theorem ym_commitB {post : Int32 → SY → Prop} {x : Int32} (h : vs_bad lv x) (hp : post (-1) (cm, st, wn, lv, sr, bg, vw, wt, ow, lk)) : wpY_commit post (cm, st, wn, lv, sr, bg, vw, wt, ow, lk) x := by
  unfold wpY_commit
  dsimp only
  exact yb_no h (br_f vs_10 hp)
theorem ym_commit {post : Int32 → SY → Prop} (ht : t < 6) (ho : ¬ lv t = 0)
    (hF : (∀ c, c < 16 → ¬ vs_M sr wt lk wn bg t c) → post 0 (cm + 1, vs_pb (vs_q wt t) (fun c => ow (16 * t + c)) st 16, vs_pb (vs_q wt t) (fun _ => cm + 1) wn 16, upd lv t 0, sr, bg, vw, wt, ow, lk))
    (hT : ¬ (∀ c, c < 16 → ¬ vs_M sr wt lk wn bg t c) → post 1 (cm, st, wn, upd lv t 0, sr, bg, vw, wt, ow, lk)) : wpY_commit post (cm, st, wn, lv, sr, bg, vw, wt, ow, lk) (nI t) := by
  unfold wpY_commit
  dsimp only
  exact yb_yes ht ho (br_t rfl ⟨vs_v6 ht, nm_r (e' := upd lv t 0) (by rw [vs_c6 ht, vs_nb0]) (yo_all ht (fun z => br_t rfl (nm_e (ym_39 ht (hF z)))) (fun z => br_f vs_10 (hT z)))⟩)
/-! committed, sum, open -/
theorem ym_cmtC {post : Int32 → Prop} {y : Int32} (h : vs_bc y) (hp : post 0) : wpY_committed post (cm, st, wn, lv, sr, bg, vw, wt, ow, lk) y := by
  unfold wpY_committed
  dsimp only
  exact yc_no h (br_f vs_10 hp)
theorem ym_cmt {post : Int32 → Prop} (hc : c < 16) (hp : post (st c)) : wpY_committed post (cm, st, wn, lv, sr, bg, vw, wt, ow, lk) (nI c) := by
  unfold wpY_committed
  dsimp only
  refine yc_yes hc (br_t rfl ⟨vs_v16 hc, ?_⟩)
  rw [vs_c16 hc]
  exact hp
theorem ym_sumB {post : Int32 → Prop} {x y z : Int32} (h : vs_bad lv x) (hp : post 0) : wpY_sum post (cm, st, wn, lv, sr, bg, vw, wt, ow, lk) x y z := by
  unfold wpY_sum
  dsimp only
  exact yb_no h (br_f vs_10 hp)
theorem ym_sum {post : Int32 → Prop} (ht : t < 6) (ho : ¬ lv t = 0) (a b : Int32) (hp : post (vs_sum (fun c => if wt (16 * t + c) = 0 then vw (16 * t + c) else ow (16 * t + c)) a b 16)) : wpY_sum post (cm, st, wn, lv, sr, bg, vw, wt, ow, lk) (nI t) a b := by
  unfold wpY_sum
  dsimp only
  refine yb_yes ht ho (br_t rfl ?_)
  refine loop_0 (fun n i s => wY_sum_16 post (nI t) a b cm st wn lv sr bg vw wt ow lk n s (nI i)) (fun i s => s = vs_sum (fun c => if wt (16 * t + c) = 0 then vw (16 * t + c) else ow (16 * t + c)) a b i) 16 0 rfl ?_ ?_
  · intro n s e
    subst e
    exact br_t (Int32.le_refl _) hp
  · intro n i s hi e hn
    subst e
    exact br_f (vs_16 hi) (br_c (fun z => nm_r (nI_1 i) (hn _ (vs_sum1 _ z))) (fun z => br_c (fun y => nm_r (nI_1 i) (hn _ (vs_sum2 _ y))) (fun y => ys_seen ht hi (nm_r (vs_sum3 (fun c => if wt (16 * t + c) = 0 then vw (16 * t + c) else ow (16 * t + c)) z y) (nm_r (nI_1 i) (hn _ rfl))))))
theorem ym_open {post : Int32 → Prop} (hp : post (vs_cnt lv 6)) : wpY_open post (cm, st, wn, lv, sr, bg, vw, wt, ow, lk) := by
  unfold wpY_open
  dsimp only
  refine loop_0 (fun n i s => wY_open_4 post cm st wn lv sr bg vw wt ow lk n s (nI i)) (fun i s => s = vs_cnt lv i) 6 0 rfl ?_ ?_
  · intro n s e
    subst e
    exact br_t (Int32.le_refl _) hp
  · intro n i s hi e hn
    subst e
    refine br_f (vs_6 hi) ⟨vs_v6 hi, br_c (fun z => nm_r (nI_1 i) (hn _ ?_)) (fun z => nm_e (nm_r (nI_1 i) (hn _ ?_)))⟩
    · rw [vs_c6 hi] at z; exact vs_cnt0 z
    · rw [vs_c6 hi] at z; exact vs_cnt1 z
end
