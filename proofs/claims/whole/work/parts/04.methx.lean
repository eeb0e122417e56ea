/-! the component's methods -/
theorem vs_sum1 (f : Nat → Int32) {a b : Int32} {n : Nat} (h : nI n < a) : vs_sum f a b n = vs_sum f a b (n + 1) :=
  (if_neg (fun z => absurd z.1 (Int32.not_le.mpr h))).symm
theorem vs_sum2 (f : Nat → Int32) {a b : Int32} {n : Nat} (h : b < nI n) : vs_sum f a b n = vs_sum f a b (n + 1) :=
  (if_neg (fun z => absurd z.2 (Int32.not_le.mpr h))).symm
theorem vs_sum3 (f : Nat → Int32) {a b : Int32} {n : Nat} (h : ¬ nI n < a) (g : ¬ b < nI n) : vs_sum f a b n + f n = vs_sum f a b (n + 1) :=
  (if_pos ⟨Int32.not_lt.mp h, Int32.not_lt.mp g⟩).symm
theorem vs_cnt0 {f : Nat → Int32} {n : Nat} (h : f n = 0) : vs_cnt f n = vs_cnt f (n + 1) := (if_pos h).symm
theorem vs_cnt1 {f : Nat → Int32} {n : Nat} (h : ¬ f n = 0) : vs_cnt f n + 1 = vs_cnt f (n + 1) := (if_neg h).symm
section
variable {cv rv op se wr rd ov : Nat → Int32} {t c : Nat}
/-! read -/
theorem xm_readB {post : Int32 → SX → Prop} {x y : Int32} (h : vs_bad op x) (hp : post 0 (cv, rv, op, se, wr, rd, ov)) : wpX_read post (cv, rv, op, se, wr, rd, ov) x y := by
  unfold wpX_read
  dsimp only
  exact xo_no h (br_t rfl hp)
theorem xm_readC {post : Int32 → SX → Prop} {y : Int32} (ht : t < 6) (ho : ¬ op t = 0) (h : vs_bc y) (hp : post 0 (cv, rv, op, se, wr, rd, ov)) : wpX_read post (cv, rv, op, se, wr, rd, ov) (nI t) y := by
  unfold wpX_read
  dsimp only
  exact xo_yes ht ho (br_f vs_10 (xc_no h (br_t rfl hp)))
theorem xm_readW {post : Int32 → SX → Prop} (ht : t < 6) (hc : c < 16) (ho : ¬ op t = 0) (h : bt (wr t) c = true) (hp : post (rv (16 * t + c)) (cv, rv, op, se, wr, rd, ov)) : wpX_read post (cv, rv, op, se, wr, rd, ov) (nI t) (nI c) := by
  unfold wpX_read
  dsimp only
  refine xo_yes ht ho (br_f vs_10 (xc_yes hc (br_f vs_10 (xr_t ht hc h ⟨vs_vX ht hc, ?_⟩))))
  rw [vs_eX ht hc]
  exact hp
theorem xm_readN {post : Int32 → SX → Prop} (ht : t < 6) (hc : c < 16) (ho : ¬ op t = 0) (h : ¬ bt (wr t) c = true) (hp : post (rv (16 * t + c)) (cv, rv, op, se, wr, upd rd t (rd t ||| ((1 : Int32) <<< (nI c &&& 31))), ov)) : wpX_read post (cv, rv, op, se, wr, rd, ov) (nI t) (nI c) := by
  unfold wpX_read
  dsimp only
  refine xo_yes ht ho (br_f vs_10 (xc_yes hc (br_f vs_10 (xr_f ht hc h ⟨vs_vX ht hc, ?_⟩))))
  rw [vs_eX ht hc]
  exact hp
/-! write -/
theorem xm_writeB {post : Int32 → SX → Prop} {x y z : Int32} (h : vs_bad op x) (hp : post (-1) (cv, rv, op, se, wr, rd, ov)) : wpX_write post (cv, rv, op, se, wr, rd, ov) x y z := by
  unfold wpX_write
  dsimp only
  exact xo_no h (br_t rfl hp)
theorem xm_writeC {post : Int32 → SX → Prop} {y z : Int32} (ht : t < 6) (ho : ¬ op t = 0) (h : vs_bc y) (hp : post (-1) (cv, rv, op, se, wr, rd, ov)) : wpX_write post (cv, rv, op, se, wr, rd, ov) (nI t) y z := by
  unfold wpX_write
  dsimp only
  exact xo_yes ht ho (br_f vs_10 (xc_no h (br_t rfl hp)))
theorem xm_write {post : Int32 → SX → Prop} (ht : t < 6) (hc : c < 16) (ho : ¬ op t = 0) (x : Int32) (hp : post 0 (cv, upd rv (16 * t + c) x, op, se, upd wr t (wr t ||| ((1 : Int32) <<< (nI c &&& 31))), rd, ov)) : wpX_write post (cv, rv, op, se, wr, rd, ov) (nI t) (nI c) x := by
  unfold wpX_write
  dsimp only
  exact xo_yes ht ho (br_f vs_10 (xc_yes hc (br_f vs_10 (xs_own ht hc x hp))))
/-! add -/
theorem xm_addB {post : Int32 → SX → Prop} {x y z : Int32} (h : vs_bad op x) (hp : post 0 (cv, rv, op, se, wr, rd, ov)) : wpX_add post (cv, rv, op, se, wr, rd, ov) x y z := by
  unfold wpX_add
  dsimp only
  exact xo_no h (br_t rfl hp)
theorem xm_addC {post : Int32 → SX → Prop} {y z : Int32} (ht : t < 6) (ho : ¬ op t = 0) (h : vs_bc y) (hp : post 0 (cv, rv, op, se, wr, rd, ov)) : wpX_add post (cv, rv, op, se, wr, rd, ov) (nI t) y z := by
  unfold wpX_add
  dsimp only
  exact xo_yes ht ho (br_f vs_10 (xc_no h (br_t rfl hp)))
theorem xm_addW {post : Int32 → SX → Prop} (ht : t < 6) (hc : c < 16) (ho : ¬ op t = 0) (x : Int32) (h : bt (wr t) c = true) (hp : post (rv (16 * t + c) + x) (cv, upd rv (16 * t + c) (rv (16 * t + c) + x), op, se, upd wr t (wr t ||| ((1 : Int32) <<< (nI c &&& 31))), rd, ov)) : wpX_add post (cv, rv, op, se, wr, rd, ov) (nI t) (nI c) x := by
  unfold wpX_add
  dsimp only
  refine xo_yes ht ho (br_f vs_10 (xc_yes hc (br_f vs_10 (xr_t ht hc h ⟨vs_vX ht hc, nm_r ?_ (xs_own ht hc _ hp)⟩))))
  rw [vs_eX ht hc]
theorem xm_addN {post : Int32 → SX → Prop} (ht : t < 6) (hc : c < 16) (ho : ¬ op t = 0) (x : Int32) (h : ¬ bt (wr t) c = true) (hp : post (rv (16 * t + c) + x) (cv, upd rv (16 * t + c) (rv (16 * t + c) + x), op, se, upd wr t (wr t ||| ((1 : Int32) <<< (nI c &&& 31))), upd rd t (rd t ||| ((1 : Int32) <<< (nI c &&& 31))), ov)) : wpX_add post (cv, rv, op, se, wr, rd, ov) (nI t) (nI c) x := by
  unfold wpX_add
  dsimp only
  refine xo_yes ht ho (br_f vs_10 (xc_yes hc (br_f vs_10 (xr_f ht hc h ⟨vs_vX ht hc, nm_r ?_ (xs_own ht hc _ hp)⟩))))
  rw [vs_eX ht hc]
/-! abort, commit, might -/
theorem xm_abortB {post : Int32 → SX → Prop} {x : Int32} (h : vs_bad op x) (hp : post (-1) (cv, rv, op, se, wr, rd, ov)) : wpX_abort post (cv, rv, op, se, wr, rd, ov) x := by
  unfold wpX_abort
  dsimp only
  exact xo_no h (br_t rfl hp)
theorem xm_abort {post : Int32 → SX → Prop} (ht : t < 6) (ho : ¬ op t = 0) (hp : post 0 (cv, rv, upd op t 0, se, wr, rd, ov)) : wpX_abort post (cv, rv, op, se, wr, rd, ov) (nI t) := by
  unfold wpX_abort
  dsimp only
  exact xo_yes ht ho (br_f vs_10 ⟨vs_v6 ht, nm_r (by rw [vs_c6 ht, vs_nb0]) hp⟩)
theorem xm_mightB {post : Int32 → Prop} {x : Int32} (h : vs_bad op x) (hp : post (-1)) : wpX_might post (cv, rv, op, se, wr, rd, ov) x := by
  unfold wpX_might
  dsimp only
  exact xo_no h (br_t rfl hp)
theorem xm_might {post : Int32 → Prop} (ht : t < 6) (ho : ¬ op t = 0)
    (hT : (se t = 0 → wr t &&& ov t = 0) → (¬ se t = 0 → (wr t ||| rd t) &&& ov t = 0) → post 1)
    (hF : (se t = 0 → ¬ wr t &&& ov t = 0) → (¬ se t = 0 → ¬ (wr t ||| rd t) &&& ov t = 0) → post 0) : wpX_might post (cv, rv, op, se, wr, rd, ov) (nI t) := by
  unfold wpX_might
  dsimp only
  exact xo_yes ht ho (br_f vs_10 (xw_way ht (fun a b => br_f vs_10 (hT a b)) (fun a b => br_t rfl (hF a b))))
theorem xm_commitB {post : Int32 → SX → Prop} {x : Int32} (h : vs_bad op x) (hp : post (-1) (cv, rv, op, se, wr, rd, ov)) : wpX_commit post (cv, rv, op, se, wr, rd, ov) x := by
  unfold wpX_commit
  dsimp only
  exact xo_no h (br_t rfl hp)
theorem xm_commit {post : Int32 → SX → Prop} (ht : t < 6) (ho : ¬ op t = 0)
    (hT : (se t = 0 → wr t &&& ov t = 0) → (¬ se t = 0 → (wr t ||| rd t) &&& ov t = 0) → post 0 (vs_pb (fun c => bt (wr t) c) (fun c => rv (16 * t + c)) cv 16, rv, upd op t 0, se, wr, rd, vs_ov (wr t) ov 6))
    (hF : (se t = 0 → ¬ wr t &&& ov t = 0) → (¬ se t = 0 → ¬ (wr t ||| rd t) &&& ov t = 0) → post 1 (cv, rv, upd op t 0, se, wr, rd, ov)) : wpX_commit post (cv, rv, op, se, wr, rd, ov) (nI t) := by
  unfold wpX_commit
  dsimp only
  refine xo_yes ht ho (br_f vs_10 ⟨vs_v6 ht, nm_r (e' := upd op t 0) (by rw [vs_c6 ht, vs_nb0]) (xw_way ht (fun a b => br_f vs_10 (xp_pub ht ⟨vs_v6 ht, ?_⟩)) (fun a b => br_t rfl (hF a b)))⟩)
  rw [vs_c6 ht]
  exact xv_over (wr t) (hT a b)
/-! committed, sum, open -/
theorem xm_cmtC {post : Int32 → Prop} {y : Int32} (h : vs_bc y) (hp : post 0) : wpX_committed post (cv, rv, op, se, wr, rd, ov) y := by
  unfold wpX_committed
  dsimp only
  exact xc_no h (br_t rfl hp)
theorem xm_cmt {post : Int32 → Prop} (hc : c < 16) (hp : post (cv c)) : wpX_committed post (cv, rv, op, se, wr, rd, ov) (nI c) := by
  unfold wpX_committed
  dsimp only
  refine xc_yes hc (br_f vs_10 ⟨vs_v16 hc, ?_⟩)
  rw [vs_c16 hc]
  exact hp
theorem xm_sumB {post : Int32 → Prop} {x y z : Int32} (h : vs_bad op x) (hp : post 0) : wpX_sum post (cv, rv, op, se, wr, rd, ov) x y z := by
  unfold wpX_sum
  dsimp only
  exact xo_no h (br_t rfl hp)
theorem xm_sum {post : Int32 → Prop} (ht : t < 6) (ho : ¬ op t = 0) (a b : Int32) (hp : post (vs_sum (fun c => rv (16 * t + c)) a b 16)) : wpX_sum post (cv, rv, op, se, wr, rd, ov) (nI t) a b := by
  unfold wpX_sum
  dsimp only
  refine xo_yes ht ho (br_f vs_10 ?_)
  refine loop_0 (fun n i s => wX_sum_16 post (nI t) a b cv rv op se wr rd ov n s (nI i)) (fun i s => s = vs_sum (fun c => rv (16 * t + c)) a b i) 16 0 rfl ?_ ?_
  · intro n s e
    subst e
    exact br_t (Int32.le_refl _) hp
  · intro n i s hi e hn
    subst e
    refine br_f (vs_16 hi) (br_c (fun z => nm_r (nI_1 i) (hn _ (vs_sum1 _ z))) (fun z => br_c (fun y => nm_r (nI_1 i) (hn _ (vs_sum2 _ y))) (fun y => ⟨vs_vX ht hi, nm_r ?_ (nm_r (nI_1 i) (hn _ rfl))⟩)))
    rw [vs_eX ht hi]
    exact vs_sum3 (fun c => rv (16 * t + c)) z y
theorem xm_open {post : Int32 → Prop} (hp : post (vs_cnt op 6)) : wpX_open post (cv, rv, op, se, wr, rd, ov) := by
  unfold wpX_open
  dsimp only
  refine loop_0 (fun n i s => wX_open_4 post cv rv op se wr rd ov n s (nI i)) (fun i s => s = vs_cnt op i) 6 0 rfl ?_ ?_
  · intro n s e
    subst e
    exact br_t (Int32.le_refl _) hp
  · intro n i s hi e hn
    subst e
    refine br_f (vs_6 hi) ⟨vs_v6 hi, br_c (fun z => nm_r (nI_1 i) (hn _ ?_)) (fun z => nm_e (nm_r (nI_1 i) (hn _ ?_)))⟩
    · rw [vs_c6 hi] at z; exact vs_cnt0 z
    · rw [vs_c6 hi] at z; exact vs_cnt1 z
end
