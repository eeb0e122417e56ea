section
/-! rows of kit/rows (pasted): Int32 by its bits; arrays, numbers, indices -/
def bt (x : Int32) (i : Nat) : Bool := x.toBitVec.getLsbD i
theorem b_ext {x y : Int32} (h : ∀ i, i < 32 → bt x i = bt y i) : x = y := Int32.toBitVec_inj.mp (BitVec.eq_of_getLsbD_eq (fun i hi => h i hi))
theorem b_or (x y : Int32) (i : Nat) : bt (x ||| y) i = (bt x i || bt y i) := by unfold bt; rw [Int32.toBitVec_or, BitVec.getLsbD_or]
theorem b_and (x y : Int32) (i : Nat) : bt (x &&& y) i = (bt x i && bt y i) := by unfold bt; rw [Int32.toBitVec_and, BitVec.getLsbD_and]
theorem b_xor (x y : Int32) (i : Nat) : bt (x ^^^ y) i = (bt x i ^^ bt y i) := by unfold bt; rw [Int32.toBitVec_xor, BitVec.getLsbD_xor]
theorem b_big {x : Int32} {i : Nat} (h : 32 ≤ i) : bt x i = false := BitVec.getLsbD_of_ge _ _ h
theorem b_255 (i : Nat) : bt 255 i = decide (i < 8) := by
  rcases Nat.lt_or_ge i 32 with h | h
  · exact (by decide +kernel : ∀ i, i < 32 → bt 255 i = decide (i < 8)) i h
  · rw [b_big h, decide_eq_false (by omega)]
theorem b_65535 (i : Nat) : bt 65535 i = decide (i < 16) := by
  rcases Nat.lt_or_ge i 32 with h | h
  · exact (by decide +kernel : ∀ i, i < 32 → bt 65535 i = decide (i < 16)) i h
  · rw [b_big h, decide_eq_false (by omega)]
theorem b_m1 : ∀ i, i < 32 → bt (-1) i = true := by decide +kernel
theorem b_0 (i : Nat) : bt 0 i = false := BitVec.getLsbD_zero
theorem s_l : ∀ n, n < 32 → ((nI n &&& 31).toBitVec.smod 32).toNat = n := by decide +kernel
theorem s_u : ∀ n, n < 32 → (((nI n).toUInt32 &&& Int32.toUInt32 31).toBitVec % 32).toNat = n := by decide +kernel
theorem b_shl (n : Nat) (hn : n < 32) (x : Int32) {i : Nat} (hi : i < 32) : bt (x <<< (nI n &&& 31)) i = (decide (n ≤ i) && bt x (i - n)) := by
  unfold bt
  rw [Int32.toBitVec_shiftLeft]
  show (x.toBitVec <<< ((nI n &&& 31).toBitVec.smod 32).toNat).getLsbD i = _
  rw [s_l n hn, BitVec.getLsbD_shiftLeft]
  rcases Nat.lt_or_ge i n with h | h
  · simp [h, Nat.not_le.mpr h]
  · simp [hi, h, Nat.not_lt.mpr h]
theorem b_ushr (n : Nat) (hn : n < 32) (x : Int32) (i : Nat) : bt ((x.toUInt32 >>> ((nI n).toUInt32 &&& Int32.toUInt32 31)).toInt32) i = bt x (n + i) := by
  show (x.toUInt32 >>> ((nI n).toUInt32 &&& Int32.toUInt32 31)).toBitVec.getLsbD i = x.toUInt32.toBitVec.getLsbD (n + i)
  rw [UInt32.toBitVec_shiftRight]
  show (x.toUInt32.toBitVec >>> (((nI n).toUInt32 &&& Int32.toUInt32 31).toBitVec % 32).toNat).getLsbD i = _
  rw [s_u n hn, BitVec.getLsbD_ushiftRight]
theorem b_sshr (n : Nat) (hn : n < 32) (x : Int32) {i : Nat} (hi : i < 32) : bt (x >>> (nI n &&& 31)) i = if n + i < 32 then bt x (n + i) else bt x 31 := by
  unfold bt
  rw [Int32.toBitVec_shiftRight]
  show (x.toBitVec.sshiftRight ((nI n &&& 31).toBitVec.smod 32).toNat).getLsbD i = _
  rw [s_l n hn, BitVec.getLsbD_sshiftRight, BitVec.msb_eq_getLsbD_last]
  simp [hi]
theorem pk_us {f : Nat → Int32} {k : Nat} {x : Int32} : upd f k x k = x := if_pos rfl
theorem pk_un {f : Nat → Int32} {k j : Nat} {x : Int32} (h : j ≠ k) : upd f k x j = f j := if_neg h
theorem pk_mul (a b : Nat) : nI a * nI b = nI (a * b) := (Int32.ofNat_mul a b).symm
theorem pk_ix (x : Int32) {n : Nat} (hn : n < 2 ^ 31) : x < 0 ∨ nI n ≤ x ∨ ∃ j : Nat, j < n ∧ x = nI j := by
  by_cases h : x < 0
  · exact Or.inl h
  · obtain ⟨j, hj, rfl⟩ := nI_of h
    by_cases h2 : j < n
    · exact Or.inr (Or.inr ⟨j, h2, rfl⟩)
    · exact Or.inr (Or.inl (nI_le (by omega) hj))
theorem pk_le {x y : Int32} {A B : Prop} (a b : Nat) (f : a ≤ b → A) (g : b < a → B) (hx : x = nI a := by rfl) (hy : y = nI b := by rfl) (ha : a < 2 ^ 31 := by omega) (hb : b < 2 ^ 31 := by omega) : (x ≤ y → A) ∧ (¬ x ≤ y → B) := by
  subst hx hy
  rw [nI_leI ha hb]
  exact ⟨f, fun z => g (by omega)⟩
theorem pk_lt {x y : Int32} {A B : Prop} (a b : Nat) (f : a < b → A) (g : b ≤ a → B) (hx : x = nI a := by rfl) (hy : y = nI b := by rfl) (ha : a < 2 ^ 31 := by omega) (hb : b < 2 ^ 31 := by omega) : (x < y → A) ∧ (¬ x < y → B) := by
  subst hx hy
  rw [nI_ltI ha hb]
  exact ⟨f, fun z => g (by omega)⟩
theorem pk_eq {x y : Int32} {A B : Prop} (a b : Nat) (f : a = b → A) (g : a ≠ b → B) (hx : x = nI a := by rfl) (hy : y = nI b := by rfl) (ha : a < 2 ^ 31 := by omega) (hb : b < 2 ^ 31 := by omega) : (x = y → A) ∧ (¬ x = y → B) := by
  subst hx hy
  rw [nI_eq ha hb]
  exact ⟨f, g⟩
theorem pk_in {x : Int32} (n N : Nat) (h : n < N) (hx : x = nI n := by rfl) (hN : N < 2 ^ 31 := by omega) : vp_in x N := by
  subst hx
  exact vp_in_nI h hN
theorem pk_cl {x : Int32} (n : Nat) (hx : x = nI n := by rfl) (h : n < 2 ^ 31 := by omega) : x.toNatClampNeg = n := by
  subst hx
  exact nI_clamp h
/-! our own: one bit of a set of cells -/
theorem vs_b1 : ∀ i, i < 32 → bt 1 i = decide (i = 0) := by decide +kernel
theorem vs_a1 (y : Int32) : y &&& 1 = 1 ↔ bt y 0 = true := by
  constructor
  · intro h
    have e : bt (y &&& 1) 0 = bt 1 0 := by rw [h]
    rw [b_and, vs_b1 0 (by decide)] at e
    simpa using e
  · intro h
    apply b_ext
    intro i hi
    rw [b_and, vs_b1 i hi]
    by_cases z : i = 0
    · rw [z, h]; rfl
    · rw [decide_eq_false z, Bool.and_false]
theorem vs_holds (x : Int32) {n : Nat} (hn : n < 16) : (x >>> (nI n &&& 31)) &&& 1 = 1 ↔ bt x n = true := by
  rw [vs_a1, b_sshr n (by omega) x (by decide : 0 < 32), if_pos (by omega), Nat.add_zero]
theorem vs_set (x : Int32) {n : Nat} (hn : n < 16) (i : Nat) : bt (x ||| ((1 : Int32) <<< (nI n &&& 31))) i = (bt x i || decide (i = n)) := by
  rcases Nat.lt_or_ge i 32 with h | h
  · rw [b_or, b_shl n (by omega) 1 h, vs_b1 (i - n) (by omega)]
    congr 1
    by_cases z : i = n
    · subst z; simp
    · by_cases y : n ≤ i
      · have w : ¬ i - n = 0 := by omega
        rw [decide_eq_false w, decide_eq_false z, Bool.and_false]
      · rw [decide_eq_false y, decide_eq_false z, Bool.false_and]
  · rw [b_big h, b_big h, decide_eq_false (by omega)]; rfl
theorem vs_mask {x y : Int32} (h : ∀ i, 16 ≤ i → bt y i = false) : x &&& y = 0 ↔ ∀ c, c < 16 → ¬ (bt x c = true ∧ bt y c = true) := by
  constructor
  · intro e c hc ⟨a, b⟩
    have z : bt (x &&& y) c = bt 0 c := by rw [e]
    rw [b_and, a, b, b_0] at z
    exact absurd z (by decide)
  · intro f
    apply b_ext
    intro i hi
    rw [b_and, b_0]
    rcases Nat.lt_or_ge i 16 with g | g
    · cases a : bt x i
      · rfl
      · cases b : bt y i
        · rfl
        · exact absurd ⟨a, b⟩ (f i g)
    · rw [h i g, Bool.and_false]
/-! indices and the counter -/
theorem vs_ixY (t c : Nat) : (16 : Int32) * nI t + nI c = nI (16 * t + c) := by
  show nI 16 * nI t + nI c = _
  rw [pk_mul, nI_add]
theorem vs_ixX (t c : Nat) : nI t * (16 : Int32) + nI c = nI (16 * t + c) := by
  show nI t * nI 16 + nI c = _
  rw [pk_mul, nI_add, Nat.mul_comm]
theorem vs_cl {n : Nat} (h : n < 96) : (nI n).toNatClampNeg = n := nI_clamp (by omega)
theorem vs_cm1 {x : Int32} (h : x.toInt ≤ 2048) : (x + 1).toInt = x.toInt + 1 := by
  have a := Int32.le_toInt x
  rw [Int32.toInt_add, Int32.toInt_one]
  exact Int.bmod_eq_of_le (by omega) (by omega)
/-! arrays filled by loops -/
def vs_cp (t : Nat) (f g : Nat → Int32) (n : Nat) : Nat → Int32 := fun j => if 16 * t ≤ j ∧ j < 16 * t + n then f (j - 16 * t) else g j
theorem vs_cp0 (t : Nat) (f g : Nat → Int32) : vs_cp t f g 0 = g := by
  funext j
  unfold vs_cp
  rw [if_neg (by omega)]
theorem vs_cpS (t : Nat) (f g : Nat → Int32) (n : Nat) : upd (vs_cp t f g n) (16 * t + n) (f n) = vs_cp t f g (n + 1) := by
  funext j
  unfold upd vs_cp
  by_cases e : j = 16 * t + n
  · subst e
    rw [if_pos rfl, if_pos (by omega), Nat.add_sub_cancel_left]
  · rw [if_neg e]
    by_cases h : 16 * t ≤ j ∧ j < 16 * t + n
    · rw [if_pos h, if_pos (by omega)]
    · rw [if_neg h, if_neg (by omega)]
theorem vs_cpI (t : Nat) (f g : Nat → Int32) {c : Nat} (hc : c < 16) : vs_cp t f g 16 (16 * t + c) = f c := by
  unfold vs_cp
  rw [if_pos (by omega), Nat.add_sub_cancel_left]
theorem vs_cpO {t s : Nat} (e : ¬ s = t) (f g : Nat → Int32) {c : Nat} (hc : c < 16) : vs_cp t f g 16 (16 * s + c) = g (16 * s + c) := by
  unfold vs_cp
  rw [if_neg (by omega)]
def vs_pb (q : Nat → Bool) (f g : Nat → Int32) (n : Nat) : Nat → Int32 := fun c => if c < n ∧ q c = true then f c else g c
theorem vs_pb0 (q : Nat → Bool) (f g : Nat → Int32) : vs_pb q f g 0 = g := by
  funext j
  unfold vs_pb
  rw [if_neg (fun h => absurd h.1 (Nat.not_lt_zero _))]
theorem vs_pbT {q : Nat → Bool} (f g : Nat → Int32) {n : Nat} (h : q n = true) : upd (vs_pb q f g n) n (f n) = vs_pb q f g (n + 1) := by
  funext c
  unfold upd vs_pb
  by_cases e : c = n
  · subst e
    rw [if_pos rfl, if_pos ⟨Nat.lt_succ_self _, h⟩]
  · rw [if_neg e]
    by_cases z : c < n ∧ q c = true
    · rw [if_pos z, if_pos ⟨Nat.lt_succ_of_lt z.1, z.2⟩]
    · rw [if_neg z, if_neg (fun y => z ⟨by have := y.1; omega, y.2⟩)]
theorem vs_pbF {q : Nat → Bool} (f g : Nat → Int32) {n : Nat} (h : q n = false) : vs_pb q f g n = vs_pb q f g (n + 1) := by
  funext c
  unfold vs_pb
  by_cases z : c < n ∧ q c = true
  · rw [if_pos z, if_pos ⟨Nat.lt_succ_of_lt z.1, z.2⟩]
  · rw [if_neg z, if_neg]
    intro y
    apply z
    refine ⟨?_, y.2⟩
    rcases Nat.lt_or_ge c n with l | l
    · exact l
    · have e : c = n := by have := y.1; omega
      have w := y.2
      rw [e, h] at w
      exact absurd w (by decide)
theorem vs_pbE {q : Nat → Bool} (f g : Nat → Int32) {c : Nat} (hc : c < 16) : vs_pb q f g 16 c = if q c = true then f c else g c := by
  unfold vs_pb
  by_cases z : q c = true
  · rw [if_pos ⟨hc, z⟩, if_pos z]
  · rw [if_neg (fun y => z y.2), if_neg z]
def vs_ov (w : Int32) (g : Nat → Int32) (n : Nat) : Nat → Int32 := fun t => if t < n then g t ||| w else g t
theorem vs_ov0 (w : Int32) (g : Nat → Int32) : vs_ov w g 0 = g := by
  funext j
  unfold vs_ov
  rw [if_neg (Nat.not_lt_zero _)]
theorem vs_ovS (w : Int32) (g : Nat → Int32) (n : Nat) : upd (vs_ov w g n) n (vs_ov w g n n ||| w) = vs_ov w g (n + 1) := by
  funext t
  unfold upd vs_ov
  by_cases e : t = n
  · subst e
    rw [if_pos rfl, if_neg (Nat.lt_irrefl _), if_pos (Nat.lt_succ_self _)]
  · rw [if_neg e]
    by_cases h : t < n
    · rw [if_pos h, if_pos (Nat.lt_succ_of_lt h)]
    · rw [if_neg h, if_neg (by omega)]
theorem vs_ovE (w : Int32) (g : Nat → Int32) {t : Nat} (h : t < 6) : vs_ov w g 6 t = g t ||| w := if_pos h
def vs_cnt (f : Nat → Int32) : Nat → Int32
  | 0 => 0
  | n + 1 => if f n = 0 then vs_cnt f n else vs_cnt f n + 1
def vs_sum (f : Nat → Int32) (a b : Int32) : Nat → Int32
  | 0 => 0
  | n + 1 => if a ≤ nI n ∧ nI n ≤ b then vs_sum f a b n + f n else vs_sum f a b n
theorem vs_sumC {f g : Nat → Int32} (a b : Int32) : ∀ n, (∀ c, c < n → f c = g c) → vs_sum f a b n = vs_sum g a b n := by
  intro n
  induction n with
  | zero => exact fun _ => rfl
  | succ n ih =>
    intro h
    show (if a ≤ nI n ∧ nI n ≤ b then vs_sum f a b n + f n else vs_sum f a b n) = (if a ≤ nI n ∧ nI n ≤ b then vs_sum g a b n + g n else vs_sum g a b n)
    rw [ih (fun c hc => h c (by omega)), h n (by omega)]
end
section
/-! what the two states have to do with one another, beyond the fields that are the same functions -/
def vs_R (k : Nat) (rv wr rd ov wn bg vw wt ow lk : Nat → Int32) (cm : Int32) : Prop :=
  (∀ t c, t < 6 → c < 16 → (bt (wr t) c = true ↔ ¬ wt (16 * t + c) = 0) ∧ (bt (rd t) c = true ↔ ¬ lk (16 * t + c) = 0)
     ∧ (rv (16 * t + c) = if wt (16 * t + c) = 0 then vw (16 * t + c) else ow (16 * t + c))
     ∧ (bt (ov t) c = true ↔ bg t < wn c)) ∧
  (∀ t i, t < 6 → 16 ≤ i → bt (wr t) i = false ∧ bt (ov t) i = false) ∧
  cm.toInt ≤ k ∧ (∀ c, c < 16 → (wn c).toInt ≤ cm.toInt) ∧ (∀ t, t < 6 → (bg t).toInt ≤ cm.toInt)
section
variable {k : Nat} {rv wr rd ov wn bg vw wt ow lk cv : Nat → Int32} {cm : Int32} {t c : Nat}
theorem vs_ft : (false = true ↔ ¬ (0 : Int32) = 0) := by decide
theorem vs_R0 : vs_R 0 (fun _ => 0) (fun _ => 0) (fun _ => 0) (fun _ => 0) (fun _ => 0) (fun _ => 0) (fun _ => 0) (fun _ => 0) (fun _ => 0) (fun _ => 0) 0 := by
  refine ⟨fun t c _ _ => ⟨?_, ?_, ?_, ?_⟩, fun t i _ _ => ⟨b_0 i, b_0 i⟩, by decide, fun _ _ => Int.le_refl _, fun _ _ => Int.le_refl _⟩
  · rw [b_0]; exact vs_ft
  · rw [b_0]; exact vs_ft
  · exact (if_pos rfl).symm
  · rw [b_0]; exact ⟨fun z => absurd z (by decide), fun z => absurd z Int32.lt_irrefl⟩
theorem vs_Rup (h : vs_R k rv wr rd ov wn bg vw wt ow lk cm) : vs_R (k + 4) rv wr rd ov wn bg vw wt ow lk cm := by
  obtain ⟨h1, h2, h3, h4, h5⟩ := h
  exact ⟨h1, h2, by omega, h4, h5⟩
theorem vs_Rbegin (h : vs_R k rv wr rd ov wn bg vw wt ow lk cm) (cv : Nat → Int32) (t : Nat) :
    vs_R k (vs_cp t cv rv 16) (upd wr t 0) (upd rd t 0) (upd ov t 0) wn (upd bg t cm) (vs_cp t cv vw 16) (vs_cp t (fun _ => 0) wt 16) ow (vs_cp t (fun _ => 0) lk 16) cm := by
  obtain ⟨h1, h2, h3, h4, h5⟩ := h
  refine ⟨fun s d hs hd => ?_, fun s i hs hi => ?_, h3, h4, fun s hs => ?_⟩
  · obtain ⟨a1, a2, a3, a4⟩ := h1 s d hs hd
    by_cases e : s = t
    · subst e
      refine ⟨?_, ?_, ?_, ?_⟩
      · rw [pk_us, vs_cpI _ _ _ hd, b_0]; exact vs_ft
      · rw [pk_us, vs_cpI _ _ _ hd, b_0]; exact vs_ft
      · rw [vs_cpI s cv rv hd, vs_cpI s cv vw hd, vs_cpI s (fun _ => 0) wt hd]; exact (if_pos rfl).symm
      · rw [pk_us, pk_us, b_0]
        refine ⟨fun z => absurd z (by decide), fun z => ?_⟩
        have y := h4 d hd
        rw [Int32.lt_iff_toInt_lt] at z
        omega
    · refine ⟨?_, ?_, ?_, ?_⟩
      · rw [pk_un e, vs_cpO e _ _ hd]; exact a1
      · rw [pk_un e, vs_cpO e _ _ hd]; exact a2
      · rw [vs_cpO e cv rv hd, vs_cpO e cv vw hd, vs_cpO e (fun _ => 0) wt hd]; exact a3
      · rw [pk_un e, pk_un e]; exact a4
  · by_cases e : s = t
    · subst e
      rw [pk_us, pk_us]; exact ⟨b_0 i, b_0 i⟩
    · rw [pk_un e, pk_un e]; exact h2 s i hs hi
  · by_cases e : s = t
    · subst e
      rw [pk_us]; exact Int.le_refl _
    · rw [pk_un e]; exact h5 s hs
theorem vs_Rread (h : vs_R k rv wr rd ov wn bg vw wt ow lk cm) (hc : c < 16) :
    vs_R k rv wr (upd rd t (rd t ||| ((1 : Int32) <<< (nI c &&& 31)))) ov wn bg vw wt ow (upd lk (16 * t + c) 1) cm := by
  obtain ⟨h1, h2, h3, h4, h5⟩ := h
  refine ⟨fun s d hs hd => ?_, h2, h3, h4, h5⟩
  obtain ⟨a1, a2, a3, a4⟩ := h1 s d hs hd
  refine ⟨a1, ?_, a3, a4⟩
  by_cases e : s = t
  · subst e
    rw [pk_us, vs_set _ hc]
    by_cases z : d = c
    · subst z
      rw [pk_us, decide_eq_true rfl, Bool.or_true]
      exact ⟨fun _ => by decide, fun _ => rfl⟩
    · rw [pk_un (by omega), decide_eq_false z, Bool.or_false]; exact a2
  · rw [pk_un e, pk_un (by omega)]; exact a2
theorem vs_Rwrite (h : vs_R k rv wr rd ov wn bg vw wt ow lk cm) (hc : c < 16) (x : Int32) :
    vs_R k (upd rv (16 * t + c) x) (upd wr t (wr t ||| ((1 : Int32) <<< (nI c &&& 31)))) rd ov wn bg vw (upd wt (16 * t + c) 1) (upd ow (16 * t + c) x) lk cm := by
  obtain ⟨h1, h2, h3, h4, h5⟩ := h
  refine ⟨fun s d hs hd => ?_, fun s i hs hi => ?_, h3, h4, h5⟩
  · obtain ⟨a1, a2, a3, a4⟩ := h1 s d hs hd
    refine ⟨?_, a2, ?_, a4⟩
    · by_cases e : s = t
      · subst e
        rw [pk_us, vs_set _ hc]
        by_cases z : d = c
        · subst z
          rw [pk_us, decide_eq_true rfl, Bool.or_true]
          exact ⟨fun _ => by decide, fun _ => rfl⟩
        · rw [pk_un (by omega), decide_eq_false z, Bool.or_false]; exact a1
      · rw [pk_un e, pk_un (by omega)]; exact a1
    · by_cases e : 16 * s + d = 16 * t + c
      · rw [e, pk_us, pk_us, pk_us, if_neg (by decide)]
      · rw [pk_un e, pk_un e, pk_un e]; exact a3
  · refine ⟨?_, (h2 s i hs hi).2⟩
    by_cases e : s = t
    · subst e
      rw [pk_us, vs_set _ hc, (h2 s i hs hi).1, decide_eq_false (by omega)]; rfl
    · rw [pk_un e]; exact (h2 s i hs hi).1
/-- which cells transaction t wrote -/
def vs_q (wt : Nat → Int32) (t : Nat) : Nat → Bool := fun c => decide (¬ wt (16 * t + c) = 0)
theorem vs_qB (h : vs_R k rv wr rd ov wn bg vw wt ow lk cm) (ht : t < 6) (hc : c < 16) : vs_q wt t c = bt (wr t) c := by
  have a := (h.1 t c ht hc).1
  unfold vs_q
  cases b : bt (wr t) c
  · rw [b] at a
    exact decide_eq_false (fun z => absurd (a.mpr z) (by decide))
  · rw [b] at a
    exact decide_eq_true (a.mp rfl)
theorem vs_cvE (h : vs_R k rv wr rd ov wn bg vw wt ow lk cm) (ht : t < 6) (cv : Nat → Int32) :
    vs_pb (fun c => bt (wr t) c) (fun c => rv (16 * t + c)) cv 16 = vs_pb (vs_q wt t) (fun c => ow (16 * t + c)) cv 16 := by
  funext c
  by_cases hc : c < 16
  · rw [vs_pbE _ _ hc, vs_pbE _ _ hc, vs_qB h ht hc]
    by_cases b : bt (wr t) c = true
    · rw [if_pos b, if_pos b, (h.1 t c ht hc).2.2.1, if_neg ((h.1 t c ht hc).1.mp b)]
    · rw [if_neg b, if_neg b]
  · unfold vs_pb
    rw [if_neg (fun z => hc z.1), if_neg (fun z => hc z.1)]
theorem vs_Rcommit (h : vs_R k rv wr rd ov wn bg vw wt ow lk cm) (hk : k + 4 ≤ 2048) (ht : t < 6) :
    vs_R (k + 4) rv wr rd (vs_ov (wr t) ov 6) (vs_pb (vs_q wt t) (fun _ => cm + 1) wn 16) bg vw wt ow lk (cm + 1) := by
  have hq := fun c (hc : c < 16) => vs_qB (c := c) h ht hc
  obtain ⟨h1, h2, h3, h4, h5⟩ := h
  have hm : (cm + 1).toInt = cm.toInt + 1 := vs_cm1 (by omega)
  refine ⟨fun s d hs hd => ?_, fun s i hs hi => ?_, by omega, fun d hd => ?_, fun s hs => ?_⟩
  · obtain ⟨a1, a2, a3, a4⟩ := h1 s d hs hd
    refine ⟨a1, a2, a3, ?_⟩
    rw [vs_ovE _ _ hs, vs_pbE _ _ hd, b_or, hq d hd]
    cases b : bt (wr t) d
    · rw [Bool.or_false, if_neg (by decide)]; exact a4
    · rw [Bool.or_true, if_pos rfl]
      refine ⟨fun _ => ?_, fun _ => rfl⟩
      have y := h5 s hs
      rw [Int32.lt_iff_toInt_lt, hm]
      omega
  · refine ⟨(h2 s i hs hi).1, ?_⟩
    rw [vs_ovE _ _ hs, b_or, (h2 s i hs hi).2, (h2 t i ht hi).1]; rfl
  · rw [vs_pbE _ _ hd]
    by_cases z : vs_q wt t d = true
    · rw [if_pos z]; exact Int.le_refl _
    · rw [if_neg z]
      have y := h4 d hd
      omega
  · have y := h5 s hs
    omega
/-- the reference's reason for refusing t a commit, at cell c -/
def vs_M (se wt lk wn bg : Nat → Int32) (t c : Nat) : Prop := (¬ wt (16 * t + c) = 0 ∨ (¬ se t = 0 ∧ ¬ lk (16 * t + c) = 0)) ∧ bg t < wn c
theorem vs_wayT (h : vs_R k rv wr rd ov wn bg vw wt ow lk cm) (ht : t < 6) {se : Nat → Int32} (hs : se t = 0) :
    wr t &&& ov t = 0 ↔ ∀ c, c < 16 → ¬ vs_M se wt lk wn bg t c := by
  rw [vs_mask (fun i hi => (h.2.1 t i ht hi).2)]
  refine ⟨fun f c hc m => f c hc ?_, fun f c hc m => f c hc ?_⟩
  · obtain ⟨a1, a2, a3, a4⟩ := h.1 t c ht hc
    refine ⟨?_, a4.mpr m.2⟩
    rcases m.1 with z | z
    · exact a1.mpr z
    · exact absurd hs z.1
  · obtain ⟨a1, a2, a3, a4⟩ := h.1 t c ht hc
    exact ⟨Or.inl (a1.mp m.1), a4.mp m.2⟩
theorem vs_wayS (h : vs_R k rv wr rd ov wn bg vw wt ow lk cm) (ht : t < 6) {se : Nat → Int32} (hs : ¬ se t = 0) :
    (wr t ||| rd t) &&& ov t = 0 ↔ ∀ c, c < 16 → ¬ vs_M se wt lk wn bg t c := by
  rw [vs_mask (fun i hi => (h.2.1 t i ht hi).2)]
  refine ⟨fun f c hc m => f c hc ?_, fun f c hc m => f c hc ?_⟩
  · obtain ⟨a1, a2, a3, a4⟩ := h.1 t c ht hc
    refine ⟨?_, a4.mpr m.2⟩
    rw [b_or, Bool.or_eq_true]
    rcases m.1 with z | z
    · exact Or.inl (a1.mpr z)
    · exact Or.inr (a2.mpr z.2)
  · obtain ⟨a1, a2, a3, a4⟩ := h.1 t c ht hc
    have m1 := m.1
    rw [b_or, Bool.or_eq_true] at m1
    rcases m1 with z | z
    · exact ⟨Or.inl (a1.mp z), a4.mp m.2⟩
    · exact ⟨Or.inr ⟨hs, a2.mp z⟩, a4.mp m.2⟩
end
end
section
/-! numbers that the walks ask for -/
theorem vs_6 {t : Nat} (h : t < 6) : ¬ (6 : Int32) ≤ nI t := nI_ge (b := 6) h (by decide)
theorem vs_16 {c : Nat} (h : c < 16) : ¬ (16 : Int32) ≤ nI c := nI_ge (b := 16) h (by decide)
theorem vs_5 {t : Nat} (h : t < 6) : ¬ (5 : Int32) < nI t := nI_nlt (a := 5) (b := t) (by omega) (by decide)
theorem vs_15 {c : Nat} (h : c < 16) : nI c ≤ (15 : Int32) := nI_le (b := 15) (by omega) (by decide)
theorem vs_5' {x : Int32} (h : nI 6 ≤ x) : (5 : Int32) < x := by
  rw [Int32.le_iff_toInt_le, nI_toInt (by decide)] at h
  rw [Int32.lt_iff_toInt_lt]
  have e : (5 : Int32).toInt = 5 := by decide
  omega
theorem vs_15' {x : Int32} (h : nI 16 ≤ x) : ¬ x ≤ (15 : Int32) := by
  rw [Int32.le_iff_toInt_le, nI_toInt (by decide)] at h
  rw [Int32.le_iff_toInt_le]
  have e : (15 : Int32).toInt = 15 := by decide
  omega
theorem vs_c6 {t : Nat} (h : t < 6) : (nI t).toNatClampNeg = t := nI_clamp (by omega)
theorem vs_c16 {c : Nat} (h : c < 16) : (nI c).toNatClampNeg = c := nI_clamp (by omega)
theorem vs_v6 {t : Nat} (h : t < 6) : vp_in (nI t) 6 := vp_in_nI h (by decide)
theorem vs_v16 {c : Nat} (h : c < 16) : vp_in (nI c) 16 := vp_in_nI h (by decide)
theorem vs_eX {t c : Nat} (ht : t < 6) (hc : c < 16) : (nI t * (16 : Int32) + nI c).toNatClampNeg = 16 * t + c := by
  rw [vs_ixX, vs_cl (by omega)]
theorem vs_eY {t c : Nat} (ht : t < 6) (hc : c < 16) : ((16 : Int32) * nI t + nI c).toNatClampNeg = 16 * t + c := by
  rw [vs_ixY, vs_cl (by omega)]
theorem vs_vX {t c : Nat} (ht : t < 6) (hc : c < 16) : vp_in (nI t * (16 : Int32) + nI c) 96 := by
  rw [vs_ixX]; exact vp_in_nI (by omega) (by decide)
theorem vs_vY {t c : Nat} (ht : t < 6) (hc : c < 16) : vp_in ((16 : Int32) * nI t + nI c) 96 := by
  rw [vs_ixY]; exact vp_in_nI (by omega) (by decide)
theorem vs_nb1 : vp_nar .boolean 1 = 1 := by first | rfl | decide
theorem vs_nb0 : vp_nar .boolean 0 = 0 := by first | rfl | decide
theorem vs_10 : ¬ (1 : Int32) = 0 := by decide
/-- no open transaction has this number -/
def vs_bad (op : Nat → Int32) (x : Int32) : Prop := x < 0 ∨ nI 6 ≤ x ∨ ∃ t : Nat, t < 6 ∧ x = nI t ∧ op t = 0
theorem vs_dic (op : Nat → Int32) (x : Int32) : vs_bad op x ∨ ∃ t : Nat, t < 6 ∧ x = nI t ∧ ¬ op t = 0 := by
  rcases pk_ix x (n := 6) (by decide) with h | h | ⟨t, ht, e⟩
  · exact Or.inl (Or.inl h)
  · exact Or.inl (Or.inr (Or.inl h))
  · by_cases z : op t = 0
    · exact Or.inl (Or.inr (Or.inr ⟨t, ht, e, z⟩))
    · exact Or.inr ⟨t, ht, e, z⟩
def vs_bc (x : Int32) : Prop := x < 0 ∨ nI 16 ≤ x
theorem vs_dicC (x : Int32) : vs_bc x ∨ ∃ c : Nat, c < 16 ∧ x = nI c := by
  rcases pk_ix x (n := 16) (by decide) with h | h | h
  · exact Or.inl (Or.inl h)
  · exact Or.inl (Or.inr h)
  · exact Or.inr h
theorem vs_first (op : Nat → Int32) : ∀ d j, j + d = 6 → (∀ s, s < j → ¬ op s = 0) → (∃ t, t < 6 ∧ op t = 0 ∧ ∀ s, s < t → ¬ op s = 0) ∨ (∀ s, s < 6 → ¬ op s = 0) := by
  intro d
  induction d with
  | zero => exact fun j hj h => Or.inr (fun s hs => h s (by omega))
  | succ d ih =>
    intro j hj h
    by_cases z : op j = 0
    · exact Or.inl ⟨j, by omega, z, h⟩
    · exact ih (j + 1) (by omega) (lt_s h z)
/-! the component's walks -/
section
variable {cv rv op se wr rd ov : Nat → Int32} {t c : Nat}
theorem xo_yes {post : Int32 → Prop} (ht : t < 6) (ho : ¬ op t = 0) (hp : post 1) : wpX_isOpenTransaction post (cv, rv, op, se, wr, rd, ov) (nI t) :=
  br_f (nI_pos (by omega)) (br_f (vs_6 ht) ⟨vs_v6 ht, br_f (by rw [vs_c6 ht]; exact ho) hp⟩)
theorem xo_no {post : Int32 → Prop} {x : Int32} (h : vs_bad op x) (hp : post 0) : wpX_isOpenTransaction post (cv, rv, op, se, wr, rd, ov) x := by
  rcases h with h | h | ⟨t, ht, rfl, h⟩
  · exact br_t h hp
  · exact br_c (fun _ => hp) (fun _ => br_t h hp)
  · exact br_f (nI_pos (by omega)) (br_f (vs_6 ht) ⟨vs_v6 ht, br_t (by rw [vs_c6 ht]; exact h) hp⟩)
theorem xc_yes {post : Int32 → Prop} (hc : c < 16) (hp : post 1) : wpX_isCell post (nI c) :=
  br_f (nI_pos (by omega)) (br_f (vs_16 hc) hp)
theorem xc_no {post : Int32 → Prop} {x : Int32} (h : vs_bc x) (hp : post 0) : wpX_isCell post x := by
  rcases h with h | h
  · exact br_t h hp
  · exact br_c (fun _ => hp) (fun _ => br_t h hp)
theorem xh_t {post : Int32 → Prop} {x : Int32} (hc : c < 16) (h : bt x c = true) (hp : post 1) : wpX_holds post x (nI c) :=
  br_t ((vs_holds x hc).mpr h) hp
theorem xh_f {post : Int32 → Prop} {x : Int32} (hc : c < 16) (h : ¬ bt x c = true) (hp : post 0) : wpX_holds post x (nI c) :=
  br_f (fun z => h ((vs_holds x hc).mp z)) hp
theorem xr_t {post : SX → Prop} (ht : t < 6) (hc : c < 16) (h : bt (wr t) c = true) (hp : post (cv, rv, op, se, wr, rd, ov)) : wpX_rememberRead post (cv, rv, op, se, wr, rd, ov) (nI t) (nI c) := by
  unfold wpX_rememberRead
  dsimp only
  rw [vs_c6 ht]
  exact ⟨vs_v6 ht, xh_t hc h (br_f vs_10 hp)⟩
theorem xr_f {post : SX → Prop} (ht : t < 6) (hc : c < 16) (h : ¬ bt (wr t) c = true) (hp : post (cv, rv, op, se, wr, upd rd t (rd t ||| ((1 : Int32) <<< (nI c &&& 31))), ov)) : wpX_rememberRead post (cv, rv, op, se, wr, rd, ov) (nI t) (nI c) := by
  unfold wpX_rememberRead
  dsimp only
  rw [vs_c6 ht]
  exact ⟨vs_v6 ht, xh_f hc h (br_t rfl ⟨vs_v6 ht, vs_v6 ht, nm_e hp⟩)⟩
theorem xs_own {post : SX → Prop} (ht : t < 6) (hc : c < 16) (x : Int32) (hp : post (cv, upd rv (16 * t + c) x, op, se, upd wr t (wr t ||| ((1 : Int32) <<< (nI c &&& 31))), rd, ov)) : wpX_setOwn post (cv, rv, op, se, wr, rd, ov) (nI t) (nI c) x := by
  unfold wpX_setOwn
  dsimp only
  rw [vs_c6 ht, vs_eX ht hc]
  exact ⟨vs_vX ht hc, nm_e ⟨vs_v6 ht, vs_v6 ht, nm_e hp⟩⟩
theorem xw_way {post : Int32 → Prop} (ht : t < 6)
    (hT : (se t = 0 → wr t &&& ov t = 0) → (¬ se t = 0 → (wr t ||| rd t) &&& ov t = 0) → post 1)
    (hF : (se t = 0 → ¬ wr t &&& ov t = 0) → (¬ se t = 0 → ¬ (wr t ||| rd t) &&& ov t = 0) → post 0) : wpX_hasFreeWay post (cv, rv, op, se, wr, rd, ov) (nI t) := by
  unfold wpX_hasFreeWay
  dsimp only
  unfold wX_hasFreeWay_25
  rw [vs_c6 ht]
  refine ⟨vs_v6 ht, nm_e ⟨vs_v6 ht, br_c (fun z => ⟨vs_v6 ht, br_c (fun y => hT (fun _ => y) (fun w => absurd z w)) (fun y => hF (fun _ => y) (fun w => absurd z w))⟩) (fun z => ⟨vs_v6 ht, nm_e ⟨vs_v6 ht, br_c (fun y => hT (fun w => absurd w z) (fun _ => y)) (fun y => hF (fun w => absurd w z) (fun _ => y))⟩⟩)⟩⟩
theorem xp_pub {post : SX → Prop} (ht : t < 6) (hp : post (vs_pb (fun c => bt (wr t) c) (fun c => rv (16 * t + c)) cv 16, rv, op, se, wr, rd, ov)) : wpX_publishWrites post (cv, rv, op, se, wr, rd, ov) (nI t) := by
  unfold wpX_publishWrites
  dsimp only
  refine loop_0 (fun n i s => wX_publishWrites_2 post (nI t) n (nI i) s rv op se wr rd ov) (fun i s => s = vs_pb (fun c => bt (wr t) c) (fun c => rv (16 * t + c)) cv i) 16 cv (vs_pb0 _ _ _).symm ?_ ?_
  · intro n s e
    subst e
    exact br_t (Int32.le_refl _) hp
  · intro n i s hi e hn
    subst e
    refine br_f (vs_16 hi) ⟨vs_v6 ht, ?_⟩
    rw [vs_c6 ht]
    by_cases b : bt (wr t) i = true
    · refine xh_t hi b (br_f vs_10 ⟨vs_vX ht hi, vs_v16 hi, nm_r ?_ (nm_r (nI_1 i) (hn _ rfl))⟩)
      rw [vs_eX ht hi, vs_c16 hi]
      exact vs_pbT (fun c => rv (16 * t + c)) cv (q := fun c => bt (wr t) c) b
    · refine xh_f hi b (br_t rfl (nm_r (nI_1 i) (hn _ ?_)))
      exact vs_pbF (fun c => rv (16 * t + c)) cv (q := fun c => bt (wr t) c) (Bool.not_eq_true _ ▸ b)
theorem xv_over {post : SX → Prop} (w : Int32) (hp : post (cv, rv, op, se, wr, rd, vs_ov w ov 6)) : wpX_overtakeOthers post (cv, rv, op, se, wr, rd, ov) w := by
  unfold wpX_overtakeOthers
  dsimp only
  refine loop_0 (fun n i s => wX_overtakeOthers_2 post w n (nI i) cv rv op se wr rd s) (fun i s => s = vs_ov w ov i) 6 ov (vs_ov0 _ _).symm ?_ ?_
  · intro n s e
    subst e
    exact br_t (Int32.le_refl _) hp
  · intro n i s hi e hn
    subst e
    refine br_f (vs_6 hi) ⟨vs_v6 hi, vs_v6 hi, nm_r ?_ (nm_r (nI_1 i) (hn _ rfl))⟩
    rw [vs_c6 hi]
    exact vs_ovS w ov i
theorem xt_start {post : SX → Prop} (ht : t < 6) (p : Int32) (hp : post (cv, vs_cp t cv rv 16, upd op t 1, upd se t (vp_nar .boolean p), upd wr t 0, upd rd t 0, upd ov t 0)) : wpX_start post (cv, rv, op, se, wr, rd, ov) (nI t) p := by
  unfold wpX_start
  dsimp only
  rw [vs_c6 ht, vs_nb1]
  refine ⟨vs_v6 ht, nm_e ⟨vs_v6 ht, nm_e ⟨vs_v6 ht, nm_e ⟨vs_v6 ht, nm_e ⟨vs_v6 ht, nm_e ?_⟩⟩⟩⟩⟩
  refine loop_0 (fun n i s => wX_start_37 post (nI t) n (nI i) cv s (upd op t 1) (upd se t (vp_nar .boolean p)) (upd wr t 0) (upd rd t 0) (upd ov t 0)) (fun i s => s = vs_cp t cv rv i) 16 rv (vs_cp0 _ _ _).symm ?_ ?_
  · intro n s e
    subst e
    exact br_t (Int32.le_refl _) hp
  · intro n i s hi e hn
    subst e
    refine br_f (vs_16 hi) ⟨vs_v16 hi, vs_vX ht hi, nm_r ?_ (nm_r (nI_1 i) (hn _ rfl))⟩
    rw [vs_eX ht hi, vs_c16 hi]
    exact vs_cpS t cv rv i
theorem xb_yes {post : Int32 → SX → Prop} (ht : t < 6) (h0 : op t = 0) (hs : ∀ s, s < t → ¬ op s = 0) (p : Int32) (hp : post (nI t) (cv, vs_cp t cv rv 16, upd op t 1, upd se t (vp_nar .boolean p), upd wr t 0, upd rd t 0, upd ov t 0)) : wpX_begin post (cv, rv, op, se, wr, rd, ov) p := by
  unfold wpX_begin
  dsimp only
  refine loop_0 (fun n i (_ : Unit) => wX_begin_2 post p cv rv op se wr rd ov n (nI i)) (fun _ _ => True) t () trivial ?_ ?_
  · intro n s _
    exact br_f (vs_6 ht) ⟨vs_v6 ht, br_t (by rw [vs_c6 ht]; exact h0) (xt_start ht p hp)⟩
  · intro n i s hi _ hn
    have h6 : i < 6 := by omega
    exact br_f (vs_6 h6) ⟨vs_v6 h6, br_f (by rw [vs_c6 h6]; exact hs i hi) (nm_r (nI_1 i) (hn () trivial))⟩
theorem xb_no {post : Int32 → SX → Prop} (hs : ∀ s, s < 6 → ¬ op s = 0) (p : Int32) (hp : post (-1) (cv, rv, op, se, wr, rd, ov)) : wpX_begin post (cv, rv, op, se, wr, rd, ov) p := by
  unfold wpX_begin
  dsimp only
  refine loop_0 (fun n i (_ : Unit) => wX_begin_2 post p cv rv op se wr rd ov n (nI i)) (fun _ _ => True) 6 () trivial ?_ ?_
  · intro n s _
    exact br_t (Int32.le_refl _) hp
  · intro n i s hi _ hn
    exact br_f (vs_6 hi) ⟨vs_v6 hi, br_f (by rw [vs_c6 hi]; exact hs i hi) (nm_r (nI_1 i) (hn () trivial))⟩
end
end
section
/-! the component's methods -/
theorem vs_sum1 (f : Nat → Int32) {a b : Int32} {n : Nat} (h : nI n < a) : vs_sum f a b n = vs_sum f a b (n + 1) :=
  (if_neg (fun z => absurd z.1 (Int32.not_le.mpr h))).symm
theorem vs_sum2 (f : Nat → Int32) {a b : Int32} {n : Nat} (h : b < nI n) : vs_sum f a b n = vs_sum f a b (n + 1) :=
  (if_neg (fun z => absurd z.2 (Int32.not_le.mpr h))).symm
theorem vs_sum3 (f : Nat → Int32) {a b : Int32} {n : Nat} (h : ¬ nI n < a) (g : ¬ b < nI n) : vs_sum f a b n + f n = vs_sum f a b (n + 1) :=
  (if_pos ⟨Int32.not_lt.mp h, Int32.not_lt.mp g⟩).symm
theorem vs_cnt0 {f : Nat → Int32} {n : Nat} (h : f n = 0) : vs_cnt f n = vs_cnt f (n + 1) := (if_pos h).symm
theorem vs_cnt1 {f : Nat → Int32} {n : Nat} (h : ¬ f n = 0) : vs_cnt f n + 1 = vs_cnt f (n + 1) := (if_neg h).symm
section
variable {cv rv op se wr rd ov : Nat → Int32} {t c : Nat}
/-! read -/
theorem xm_readB {post : Int32 → SX → Prop} {x y : Int32} (h : vs_bad op x) (hp : post 0 (cv, rv, op, se, wr, rd, ov)) : wpX_read post (cv, rv, op, se, wr, rd, ov) x y := by
  unfold wpX_read
  dsimp only
  exact xo_no h (br_t rfl hp)
theorem xm_readC {post : Int32 → SX → Prop} {y : Int32} (ht : t < 6) (ho : ¬ op t = 0) (h : vs_bc y) (hp : post 0 (cv, rv, op, se, wr, rd, ov)) : wpX_read post (cv, rv, op, se, wr, rd, ov) (nI t) y := by
  unfold wpX_read
  dsimp only
  exact xo_yes ht ho (br_f vs_10 (xc_no h (br_t rfl hp)))
theorem xm_readW {post : Int32 → SX → Prop} (ht : t < 6) (hc : c < 16) (ho : ¬ op t = 0) (h : bt (wr t) c = true) (hp : post (rv (16 * t + c)) (cv, rv, op, se, wr, rd, ov)) : wpX_read post (cv, rv, op, se, wr, rd, ov) (nI t) (nI c) := by
  unfold wpX_read
  dsimp only
  refine xo_yes ht ho (br_f vs_10 (xc_yes hc (br_f vs_10 (xr_t ht hc h ⟨vs_vX ht hc, ?_⟩))))
  rw [vs_eX ht hc]
  exact hp
theorem xm_readN {post : Int32 → SX → Prop} (ht : t < 6) (hc : c < 16) (ho : ¬ op t = 0) (h : ¬ bt (wr t) c = true) (hp : post (rv (16 * t + c)) (cv, rv, op, se, wr, upd rd t (rd t ||| ((1 : Int32) <<< (nI c &&& 31))), ov)) : wpX_read post (cv, rv, op, se, wr, rd, ov) (nI t) (nI c) := by
  unfold wpX_read
  dsimp only
  refine xo_yes ht ho (br_f vs_10 (xc_yes hc (br_f vs_10 (xr_f ht hc h ⟨vs_vX ht hc, ?_⟩))))
  rw [vs_eX ht hc]
  exact hp
/-! write -/
theorem xm_writeB {post : Int32 → SX → Prop} {x y z : Int32} (h : vs_bad op x) (hp : post (-1) (cv, rv, op, se, wr, rd, ov)) : wpX_write post (cv, rv, op, se, wr, rd, ov) x y z := by
  unfold wpX_write
  dsimp only
  exact xo_no h (br_t rfl hp)
theorem xm_writeC {post : Int32 → SX → Prop} {y z : Int32} (ht : t < 6) (ho : ¬ op t = 0) (h : vs_bc y) (hp : post (-1) (cv, rv, op, se, wr, rd, ov)) : wpX_write post (cv, rv, op, se, wr, rd, ov) (nI t) y z := by
  unfold wpX_write
  dsimp only
  exact xo_yes ht ho (br_f vs_10 (xc_no h (br_t rfl hp)))
theorem xm_write {post : Int32 → SX → Prop} (ht : t < 6) (hc : c < 16) (ho : ¬ op t = 0) (x : Int32) (hp : post 0 (cv, upd rv (16 * t + c) x, op, se, upd wr t (wr t ||| ((1 : Int32) <<< (nI c &&& 31))), rd, ov)) : wpX_write post (cv, rv, op, se, wr, rd, ov) (nI t) (nI c) x := by
  unfold wpX_write
  dsimp only
  exact xo_yes ht ho (br_f vs_10 (xc_yes hc (br_f vs_10 (xs_own ht hc x hp))))
/-! add -/
theorem xm_addB {post : Int32 → SX → Prop} {x y z : Int32} (h : vs_bad op x) (hp : post 0 (cv, rv, op, se, wr, rd, ov)) : wpX_add post (cv, rv, op, se, wr, rd, ov) x y z := by
  unfold wpX_add
  dsimp only
  exact xo_no h (br_t rfl hp)
theorem xm_addC {post : Int32 → SX → Prop} {y z : Int32} (ht : t < 6) (ho : ¬ op t = 0) (h : vs_bc y) (hp : post 0 (cv, rv, op, se, wr, rd, ov)) : wpX_add post (cv, rv, op, se, wr, rd, ov) (nI t) y z := by
  unfold wpX_add
  dsimp only
  exact xo_yes ht ho (br_f vs_10 (xc_no h (br_t rfl hp)))
theorem xm_addW {post : Int32 → SX → Prop} (ht : t < 6) (hc : c < 16) (ho : ¬ op t = 0) (x : Int32) (h : bt (wr t) c = true) (hp : post (rv (16 * t + c) + x) (cv, upd rv (16 * t + c) (rv (16 * t + c) + x), op, se, upd wr t (wr t ||| ((1 : Int32) <<< (nI c &&& 31))), rd, ov)) : wpX_add post (cv, rv, op, se, wr, rd, ov) (nI t) (nI c) x := by
  unfold wpX_add
  dsimp only
  refine xo_yes ht ho (br_f vs_10 (xc_yes hc (br_f vs_10 (xr_t ht hc h ⟨vs_vX ht hc, nm_r ?_ (xs_own ht hc _ hp)⟩))))
  rw [vs_eX ht hc]
theorem xm_addN {post : Int32 → SX → Prop} (ht : t < 6) (hc : c < 16) (ho : ¬ op t = 0) (x : Int32) (h : ¬ bt (wr t) c = true) (hp : post (rv (16 * t + c) + x) (cv, upd rv (16 * t + c) (rv (16 * t + c) + x), op, se, upd wr t (wr t ||| ((1 : Int32) <<< (nI c &&& 31))), upd rd t (rd t ||| ((1 : Int32) <<< (nI c &&& 31))), ov)) : wpX_add post (cv, rv, op, se, wr, rd, ov) (nI t) (nI c) x := by
  unfold wpX_add
  dsimp only
  refine xo_yes ht ho (br_f vs_10 (xc_yes hc (br_f vs_10 (xr_f ht hc h ⟨vs_vX ht hc, nm_r ?_ (xs_own ht hc _ hp)⟩))))
  rw [vs_eX ht hc]
/-! abort, commit, might -/
theorem xm_abortB {post : Int32 → SX → Prop} {x : Int32} (h : vs_bad op x) (hp : post (-1) (cv, rv, op, se, wr, rd, ov)) : wpX_abort post (cv, rv, op, se, wr, rd, ov) x := by
  unfold wpX_abort
  dsimp only
  exact xo_no h (br_t rfl hp)
theorem xm_abort {post : Int32 → SX → Prop} (ht : t < 6) (ho : ¬ op t = 0) (hp : post 0 (cv, rv, upd op t 0, se, wr, rd, ov)) : wpX_abort post (cv, rv, op, se, wr, rd, ov) (nI t) := by
  unfold wpX_abort
  dsimp only
  exact xo_yes ht ho (br_f vs_10 ⟨vs_v6 ht, nm_r (by rw [vs_c6 ht, vs_nb0]) hp⟩)
theorem xm_mightB {post : Int32 → Prop} {x : Int32} (h : vs_bad op x) (hp : post (-1)) : wpX_might post (cv, rv, op, se, wr, rd, ov) x := by
  unfold wpX_might
  dsimp only
  exact xo_no h (br_t rfl hp)
theorem xm_might {post : Int32 → Prop} (ht : t < 6) (ho : ¬ op t = 0)
    (hT : (se t = 0 → wr t &&& ov t = 0) → (¬ se t = 0 → (wr t ||| rd t) &&& ov t = 0) → post 1)
    (hF : (se t = 0 → ¬ wr t &&& ov t = 0) → (¬ se t = 0 → ¬ (wr t ||| rd t) &&& ov t = 0) → post 0) : wpX_might post (cv, rv, op, se, wr, rd, ov) (nI t) := by
  unfold wpX_might
  dsimp only
  exact xo_yes ht ho (br_f vs_10 (xw_way ht (fun a b => br_f vs_10 (hT a b)) (fun a b => br_t rfl (hF a b))))
theorem xm_commitB {post : Int32 → SX → Prop} {x : Int32} (h : vs_bad op x) (hp : post (-1) (cv, rv, op, se, wr, rd, ov)) : wpX_commit post (cv, rv, op, se, wr, rd, ov) x := by
  unfold wpX_commit
  dsimp only
  exact xo_no h (br_t rfl hp)
theorem xm_commit {post : Int32 → SX → Prop} (ht : t < 6) (ho : ¬ op t = 0)
    (hT : (se t = 0 → wr t &&& ov t = 0) → (¬ se t = 0 → (wr t ||| rd t) &&& ov t = 0) → post 0 (vs_pb (fun c => bt (wr t) c) (fun c => rv (16 * t + c)) cv 16, rv, upd op t 0, se, wr, rd, vs_ov (wr t) ov 6))
    (hF : (se t = 0 → ¬ wr t &&& ov t = 0) → (¬ se t = 0 → ¬ (wr t ||| rd t) &&& ov t = 0) → post 1 (cv, rv, upd op t 0, se, wr, rd, ov)) : wpX_commit post (cv, rv, op, se, wr, rd, ov) (nI t) := by
  unfold wpX_commit
  dsimp only
  refine xo_yes ht ho (br_f vs_10 ⟨vs_v6 ht, nm_r (e' := upd op t 0) (by rw [vs_c6 ht, vs_nb0]) (xw_way ht (fun a b => br_f vs_10 (xp_pub ht ⟨vs_v6 ht, ?_⟩)) (fun a b => br_t rfl (hF a b)))⟩)
  rw [vs_c6 ht]
  exact xv_over (wr t) (hT a b)
/-! committed, sum, open -/
theorem xm_cmtC {post : Int32 → Prop} {y : Int32} (h : vs_bc y) (hp : post 0) : wpX_committed post (cv, rv, op, se, wr, rd, ov) y := by
  unfold wpX_committed
  dsimp only
  exact xc_no h (br_t rfl hp)
theorem xm_cmt {post : Int32 → Prop} (hc : c < 16) (hp : post (cv c)) : wpX_committed post (cv, rv, op, se, wr, rd, ov) (nI c) := by
  unfold wpX_committed
  dsimp only
  refine xc_yes hc (br_f vs_10 ⟨vs_v16 hc, ?_⟩)
  rw [vs_c16 hc]
  exact hp
theorem xm_sumB {post : Int32 → Prop} {x y z : Int32} (h : vs_bad op x) (hp : post 0) : wpX_sum post (cv, rv, op, se, wr, rd, ov) x y z := by
  unfold wpX_sum
  dsimp only
  exact xo_no h (br_t rfl hp)
theorem xm_sum {post : Int32 → Prop} (ht : t < 6) (ho : ¬ op t = 0) (a b : Int32) (hp : post (vs_sum (fun c => rv (16 * t + c)) a b 16)) : wpX_sum post (cv, rv, op, se, wr, rd, ov) (nI t) a b := by
  unfold wpX_sum
  dsimp only
  refine xo_yes ht ho (br_f vs_10 ?_)
  refine loop_0 (fun n i s => wX_sum_16 post (nI t) a b cv rv op se wr rd ov n s (nI i)) (fun i s => s = vs_sum (fun c => rv (16 * t + c)) a b i) 16 0 rfl ?_ ?_
  · intro n s e
    subst e
    exact br_t (Int32.le_refl _) hp
  · intro n i s hi e hn
    subst e
    refine br_f (vs_16 hi) (br_c (fun z => nm_r (nI_1 i) (hn _ (vs_sum1 _ z))) (fun z => br_c (fun y => nm_r (nI_1 i) (hn _ (vs_sum2 _ y))) (fun y => ⟨vs_vX ht hi, nm_r ?_ (nm_r (nI_1 i) (hn _ rfl))⟩)))
    rw [vs_eX ht hi]
    exact vs_sum3 (fun c => rv (16 * t + c)) z y
theorem xm_open {post : Int32 → Prop} (hp : post (vs_cnt op 6)) : wpX_open post (cv, rv, op, se, wr, rd, ov) := by
  unfold wpX_open
  dsimp only
  refine loop_0 (fun n i s => wX_open_4 post cv rv op se wr rd ov n s (nI i)) (fun i s => s = vs_cnt op i) 6 0 rfl ?_ ?_
  · intro n s e
    subst e
    exact br_t (Int32.le_refl _) hp
  · intro n i s hi e hn
    subst e
    refine br_f (vs_6 hi) ⟨vs_v6 hi, br_c (fun z => nm_r (nI_1 i) (hn _ ?_)) (fun z => nm_e (nm_r (nI_1 i) (hn _ ?_)))⟩
    · rw [vs_c6 hi] at z; exact vs_cnt0 z
    · rw [vs_c6 hi] at z; exact vs_cnt1 z
end
end
section
/-! the reference's walks and methods -/
section
variable {cm : Int32} {st wn lv sr bg vw wt ow lk : Nat → Int32} {t c : Nat}
theorem yb_yes {post : Int32 → Prop} (ht : t < 6) (ho : ¬ lv t = 0) (hp : post 0) : wpY_bad post (cm, st, wn, lv, sr, bg, vw, wt, ow, lk) (nI t) :=
  br_f (nI_pos (by omega)) (br_f (vs_5 ht) ⟨vs_v6 ht, br_f (by rw [vs_c6 ht]; exact ho) hp⟩)
theorem yb_no {post : Int32 → Prop} {x : Int32} (h : vs_bad lv x) (hp : post 1) : wpY_bad post (cm, st, wn, lv, sr, bg, vw, wt, ow, lk) x := by
  rcases h with h | h | ⟨t, ht, rfl, h⟩
  · exact br_t h hp
  · exact br_c (fun _ => hp) (fun _ => br_t (vs_5' h) hp)
  · exact br_f (nI_pos (by omega)) (br_f (vs_5 ht) ⟨vs_v6 ht, br_t (by rw [vs_c6 ht]; exact h) hp⟩)
theorem yc_yes {post : Int32 → Prop} (hc : c < 16) (hp : post 0) : wpY_badCell post (nI c) :=
  br_f (nI_pos (by omega)) (br_t (vs_15 hc) hp)
theorem yc_no {post : Int32 → Prop} {x : Int32} (h : vs_bc x) (hp : post 1) : wpY_badCell post x := by
  rcases h with h | h
  · exact br_t h hp
  · exact br_c (fun _ => hp) (fun _ => br_f (vs_15' h) hp)
theorem ys_seen {post : Int32 → Prop} (ht : t < 6) (hc : c < 16) (hp : post (if wt (16 * t + c) = 0 then vw (16 * t + c) else ow (16 * t + c))) : wpY_seen post (cm, st, wn, lv, sr, bg, vw, wt, ow, lk) ((16 : Int32) * nI t + nI c) := by
  unfold wpY_seen
  dsimp only
  rw [vs_eY ht hc]
  refine ⟨vs_vY ht hc, br_c (fun z => ⟨vs_vY ht hc, ?_⟩) (fun z => ⟨vs_vY ht hc, ?_⟩)⟩
  · rw [if_pos z] at hp; exact hp
  · rw [if_neg z] at hp; exact hp
/-! begin -/
theorem yb_43 {post : Int32 → SY → Prop} (ht : t < 6) (hp : post (nI t) (cm, st, wn, lv, sr, bg, vs_cp t st vw 16, vs_cp t (fun _ => 0) wt 16, ow, vs_cp t (fun _ => 0) lk 16)) : ∃ n, wY_begin_43 post (nI t) cm n 0 st wn lv sr bg vw wt ow lk := by
  refine loop_0 (fun n i (s : (Nat → Int32) × (Nat → Int32) × (Nat → Int32)) => wY_begin_43 post (nI t) cm n (nI i) st wn lv sr bg s.1 s.2.1 ow s.2.2) (fun i s => s = (vs_cp t st vw i, vs_cp t (fun _ => 0) wt i, vs_cp t (fun _ => 0) lk i)) 16 (vw, wt, lk) ?_ ?_ ?_
  · show (vw, wt, lk) = (vs_cp t st vw 0, vs_cp t (fun _ => 0) wt 0, vs_cp t (fun _ => 0) lk 0)
    rw [vs_cp0, vs_cp0, vs_cp0]
  · intro n s e
    subst e
    exact br_t (Int32.le_refl _) hp
  · intro n i s hi e hn
    subst e
    have h := hn _ rfl
    dsimp only at h
    refine br_f (vs_16 hi) ⟨vs_v16 hi, vs_vY ht hi, nm_r (e' := vs_cp t st vw (i + 1)) ?_ ⟨vs_vY ht hi, nm_r (e' := vs_cp t (fun _ => 0) wt (i + 1)) ?_ ⟨vs_vY ht hi, nm_r (e' := vs_cp t (fun _ => 0) lk (i + 1)) ?_ (nm_r (nI_1 i) h)⟩⟩⟩
    · rw [vs_eY ht hi, vs_c16 hi]
      exact vs_cpS t st vw i
    · rw [vs_eY ht hi, vs_nb0]
      exact vs_cpS t (fun _ => 0) wt i
    · rw [vs_eY ht hi, vs_nb0]
      exact vs_cpS t (fun _ => 0) lk i
theorem yb_beg {post : Int32 → SY → Prop} (ht : t < 6) (h0 : lv t = 0) (hs : ∀ s, s < t → ¬ lv s = 0) (p : Int32) (hp : post (nI t) (cm, st, wn, upd lv t 1, upd sr t (vp_nar .boolean p), upd bg t cm, vs_cp t st vw 16, vs_cp t (fun _ => 0) wt 16, ow, vs_cp t (fun _ => 0) lk 16)) : wpY_begin post (cm, st, wn, lv, sr, bg, vw, wt, ow, lk) p := by
  unfold wpY_begin
  dsimp only
  refine loop_0 (fun n i (_ : Unit) => wY_begin_2 post p cm st wn lv sr bg vw wt ow lk n (nI i)) (fun _ _ => True) t () trivial ?_ ?_
  · intro n s _
    refine br_f (vs_6 ht) ⟨vs_v6 ht, br_t (by rw [vs_c6 ht]; exact h0) ⟨vs_v6 ht, nm_r (e' := upd lv t 1) ?_ ⟨vs_v6 ht, nm_r (e' := upd sr t (vp_nar .boolean p)) ?_ ⟨vs_v6 ht, nm_r (e' := upd bg t cm) ?_ (yb_43 ht hp)⟩⟩⟩⟩
    · rw [vs_c6 ht, vs_nb1]
    · rw [vs_c6 ht]
    · rw [vs_c6 ht]
  · intro n i s hi _ hn
    have h6 : i < 6 := by omega
    exact br_f (vs_6 h6) ⟨vs_v6 h6, br_f (by rw [vs_c6 h6]; exact hs i hi) (nm_r (nI_1 i) (hn () trivial))⟩
theorem yb_full {post : Int32 → SY → Prop} (hs : ∀ s, s < 6 → ¬ lv s = 0) (p : Int32) (hp : post (-1) (cm, st, wn, lv, sr, bg, vw, wt, ow, lk)) : wpY_begin post (cm, st, wn, lv, sr, bg, vw, wt, ow, lk) p := by
  unfold wpY_begin
  dsimp only
  refine loop_0 (fun n i (_ : Unit) => wY_begin_2 post p cm st wn lv sr bg vw wt ow lk n (nI i)) (fun _ _ => True) 6 () trivial ?_ ?_
  · intro n s _
    exact br_t (Int32.le_refl _) hp
  · intro n i s hi _ hn
    exact br_f (vs_6 hi) ⟨vs_v6 hi, br_f (by rw [vs_c6 hi]; exact hs i hi) (nm_r (nI_1 i) (hn () trivial))⟩
/-! read, write, add -/
theorem ym_readB {post : Int32 → SY → Prop} {x y : Int32} (h : vs_bad lv x) (hp : post 0 (cm, st, wn, lv, sr, bg, vw, wt, ow, lk)) : wpY_read post (cm, st, wn, lv, sr, bg, vw, wt, ow, lk) x y := by
  unfold wpY_read
  dsimp only
  exact yb_no h (br_f vs_10 hp)
theorem ym_readC {post : Int32 → SY → Prop} {y : Int32} (ht : t < 6) (ho : ¬ lv t = 0) (h : vs_bc y) (hp : post 0 (cm, st, wn, lv, sr, bg, vw, wt, ow, lk)) : wpY_read post (cm, st, wn, lv, sr, bg, vw, wt, ow, lk) (nI t) y := by
  unfold wpY_read
  dsimp only
  exact yb_yes ht ho (br_t rfl (yc_no h (br_f vs_10 hp)))
theorem ym_readW {post : Int32 → SY → Prop} (ht : t < 6) (hc : c < 16) (ho : ¬ lv t = 0) (h : ¬ wt (16 * t + c) = 0) (hp : post (if wt (16 * t + c) = 0 then vw (16 * t + c) else ow (16 * t + c)) (cm, st, wn, lv, sr, bg, vw, wt, ow, lk)) : wpY_read post (cm, st, wn, lv, sr, bg, vw, wt, ow, lk) (nI t) (nI c) := by
  unfold wpY_read
  dsimp only
  refine yb_yes ht ho (br_t rfl (yc_yes hc (br_t rfl (nm_e ⟨vs_vY ht hc, br_f (by rw [vs_eY ht hc]; exact h) ?_⟩))))
  unfold wY_read_40
  exact ys_seen ht hc hp
theorem ym_readN {post : Int32 → SY → Prop} (ht : t < 6) (hc : c < 16) (ho : ¬ lv t = 0) (h : wt (16 * t + c) = 0) (hp : post (if wt (16 * t + c) = 0 then vw (16 * t + c) else ow (16 * t + c)) (cm, st, wn, lv, sr, bg, vw, wt, ow, upd lk (16 * t + c) 1)) : wpY_read post (cm, st, wn, lv, sr, bg, vw, wt, ow, lk) (nI t) (nI c) := by
  unfold wpY_read
  dsimp only
  refine yb_yes ht ho (br_t rfl (yc_yes hc (br_t rfl (nm_e ⟨vs_vY ht hc, br_t (by rw [vs_eY ht hc]; exact h) ⟨vs_vY ht hc, nm_r (e' := upd lk (16 * t + c) 1) (by rw [vs_eY ht hc, vs_nb1]) ?_⟩⟩))))
  unfold wY_read_40
  exact ys_seen ht hc hp
theorem ym_writeB {post : Int32 → SY → Prop} {x y z : Int32} (h : vs_bad lv x) (hp : post (-1) (cm, st, wn, lv, sr, bg, vw, wt, ow, lk)) : wpY_write post (cm, st, wn, lv, sr, bg, vw, wt, ow, lk) x y z := by
  unfold wpY_write
  dsimp only
  exact yb_no h (br_f vs_10 hp)
theorem ym_writeC {post : Int32 → SY → Prop} {y z : Int32} (ht : t < 6) (ho : ¬ lv t = 0) (h : vs_bc y) (hp : post (-1) (cm, st, wn, lv, sr, bg, vw, wt, ow, lk)) : wpY_write post (cm, st, wn, lv, sr, bg, vw, wt, ow, lk) (nI t) y z := by
  unfold wpY_write
  dsimp only
  exact yb_yes ht ho (br_t rfl (yc_no h (br_f vs_10 hp)))
theorem ym_write {post : Int32 → SY → Prop} (ht : t < 6) (hc : c < 16) (ho : ¬ lv t = 0) (x : Int32) (hp : post 0 (cm, st, wn, lv, sr, bg, vw, upd wt (16 * t + c) 1, upd ow (16 * t + c) x, lk)) : wpY_write post (cm, st, wn, lv, sr, bg, vw, wt, ow, lk) (nI t) (nI c) x := by
  unfold wpY_write
  dsimp only
  exact yb_yes ht ho (br_t rfl (yc_yes hc (br_t rfl (nm_e ⟨vs_vY ht hc, nm_r (e' := upd wt (16 * t + c) 1) (by rw [vs_eY ht hc, vs_nb1]) ⟨vs_vY ht hc, nm_r (e' := upd ow (16 * t + c) x) (by rw [vs_eY ht hc]) hp⟩⟩))))
theorem ym_addB {post : Int32 → SY → Prop} {x y z : Int32} (h : vs_bad lv x) (hp : post 0 (cm, st, wn, lv, sr, bg, vw, wt, ow, lk)) : wpY_add post (cm, st, wn, lv, sr, bg, vw, wt, ow, lk) x y z := by
  unfold wpY_add
  dsimp only
  exact yb_no h (br_f vs_10 hp)
theorem ym_addC {post : Int32 → SY → Prop} {y z : Int32} (ht : t < 6) (ho : ¬ lv t = 0) (h : vs_bc y) (hp : post 0 (cm, st, wn, lv, sr, bg, vw, wt, ow, lk)) : wpY_add post (cm, st, wn, lv, sr, bg, vw, wt, ow, lk) (nI t) y z := by
  unfold wpY_add
  dsimp only
  exact yb_yes ht ho (br_t rfl (yc_no h (br_f vs_10 hp)))
theorem ym_addW {post : Int32 → SY → Prop} (ht : t < 6) (hc : c < 16) (ho : ¬ lv t = 0) (x w : Int32) (h : ¬ wt (16 * t + c) = 0) (hw : (if wt (16 * t + c) = 0 then vw (16 * t + c) else ow (16 * t + c)) = w) (hp : post (w + x) (cm, st, wn, lv, sr, bg, vw, upd wt (16 * t + c) 1, upd ow (16 * t + c) (w + x), lk)) : wpY_add post (cm, st, wn, lv, sr, bg, vw, wt, ow, lk) (nI t) (nI c) x := by
  subst hw
  unfold wpY_add
  dsimp only
  exact yb_yes ht ho (br_t rfl (yc_yes hc (br_t rfl (ym_readW ht hc ho h (nm_e (ym_write ht hc ho _ hp))))))
theorem ym_addN {post : Int32 → SY → Prop} (ht : t < 6) (hc : c < 16) (ho : ¬ lv t = 0) (x w : Int32) (h : wt (16 * t + c) = 0) (hw : (if wt (16 * t + c) = 0 then vw (16 * t + c) else ow (16 * t + c)) = w) (hp : post (w + x) (cm, st, wn, lv, sr, bg, vw, upd wt (16 * t + c) 1, upd ow (16 * t + c) (w + x), upd lk (16 * t + c) 1)) : wpY_add post (cm, st, wn, lv, sr, bg, vw, wt, ow, lk) (nI t) (nI c) x := by
  subst hw
  unfold wpY_add
  dsimp only
  exact yb_yes ht ho (br_t rfl (yc_yes hc (br_t rfl (ym_readN ht hc ho h (nm_e (ym_write ht hc ho _ hp))))))
/-! overtaken -/
theorem yo_1 {post : Int32 → Prop} {J : Int32 → Prop} (ht : t < 6) (hc : c < 16) (hJ : wn c ≤ bg t → J (nI (c + 1))) (hp : ¬ wn c ≤ bg t → post 1) : wY_overtaken_45 post J (nI t) (nI c) cm st wn lv sr bg vw wt ow lk := by
  unfold wY_overtaken_45 wY_overtaken_50
  rw [vs_c6 ht, vs_c16 hc]
  exact br_f vs_10 ⟨vs_v16 hc, vs_v6 ht, br_c (fun z => nm_r (nI_1 c) (hJ z)) hp⟩
theorem yo_0 {post : Int32 → Prop} {J : Int32 → Prop} (hJ : J (nI (c + 1))) : wY_overtaken_49 post J (nI t) (nI c) cm st wn lv sr bg vw wt ow lk := by
  unfold wY_overtaken_49 wY_overtaken_50
  exact br_t rfl (nm_r (nI_1 c) hJ)
theorem yo_all {post : Int32 → Prop} (ht : t < 6) (hF : (∀ c, c < 16 → ¬ vs_M sr wt lk wn bg t c) → post 0) (hT : ¬ (∀ c, c < 16 → ¬ vs_M sr wt lk wn bg t c) → post 1) : wpY_overtaken post (cm, st, wn, lv, sr, bg, vw, wt, ow, lk) (nI t) := by
  unfold wpY_overtaken
  dsimp only
  refine loop_0 (fun n i (_ : Unit) => wY_overtaken_2 post (nI t) cm st wn lv sr bg vw wt ow lk n (nI i)) (fun i _ => ∀ c, c < i → ¬ vs_M sr wt lk wn bg t c) 16 () (fun c hc => absurd hc (Nat.not_lt_zero c)) ?_ ?_
  · intro n s h
    exact br_t (Int32.le_refl _) (hF h)
  · intro n i s hi h hn
    have nx : ¬ vs_M sr wt lk wn bg t i → wY_overtaken_2 post (nI t) cm st wn lv sr bg vw wt ow lk n (nI (i + 1)) := fun z => hn () (lt_s h z)
    have o1 : (¬ wt (16 * t + i) = 0 ∨ (¬ sr t = 0 ∧ ¬ lk (16 * t + i) = 0)) → wY_overtaken_45 post (wY_overtaken_2 post (nI t) cm st wn lv sr bg vw wt ow lk n) (nI t) (nI i) cm st wn lv sr bg vw wt ow lk := fun m =>
      yo_1 ht hi (fun z => nx (fun y => absurd y.2 (Int32.not_lt.mpr z))) (fun z => hT (fun f => f i hi ⟨m, Int32.not_le.mp z⟩))
    have o0 : ¬ (¬ wt (16 * t + i) = 0 ∨ (¬ sr t = 0 ∧ ¬ lk (16 * t + i) = 0)) → wY_overtaken_49 post (wY_overtaken_2 post (nI t) cm st wn lv sr bg vw wt ow lk n) (nI t) (nI i) cm st wn lv sr bg vw wt ow lk := fun m =>
      yo_0 (nx (fun y => m y.1))
    refine br_f (vs_16 hi) ⟨vs_vY ht hi, ?_⟩
    rw [vs_eY ht hi, vs_c6 ht]
    exact br_c (fun a => ⟨vs_v6 ht, br_c (fun b => o0 (fun m => m.elim (fun z => z a) (fun z => z.1 b))) (fun b => ⟨vs_vY ht hi, br_c (fun d => o0 (fun m => m.elim (fun z => z a) (fun z => z.2 d))) (fun d => o1 (Or.inr ⟨b, d⟩))⟩)⟩) (fun a => o1 (Or.inl a))
/-! abort, might, commit -/
theorem ym_abortB {post : Int32 → SY → Prop} {x : Int32} (h : vs_bad lv x) (hp : post (-1) (cm, st, wn, lv, sr, bg, vw, wt, ow, lk)) : wpY_abort post (cm, st, wn, lv, sr, bg, vw, wt, ow, lk) x := by
  unfold wpY_abort
  dsimp only
  exact yb_no h (br_f vs_10 hp)
theorem ym_abort {post : Int32 → SY → Prop} (ht : t < 6) (ho : ¬ lv t = 0) (hp : post 0 (cm, st, wn, upd lv t 0, sr, bg, vw, wt, ow, lk)) : wpY_abort post (cm, st, wn, lv, sr, bg, vw, wt, ow, lk) (nI t) := by
  unfold wpY_abort
  dsimp only
  exact yb_yes ht ho (br_t rfl ⟨vs_v6 ht, nm_r (by rw [vs_c6 ht, vs_nb0]) hp⟩)
theorem ym_mightB {post : Int32 → Prop} {x : Int32} (h : vs_bad lv x) (hp : post (-1)) : wpY_might post (cm, st, wn, lv, sr, bg, vw, wt, ow, lk) x := by
  unfold wpY_might
  dsimp only
  exact yb_no h (br_f vs_10 hp)
theorem ym_might {post : Int32 → Prop} (ht : t < 6) (ho : ¬ lv t = 0) (hF : (∀ c, c < 16 → ¬ vs_M sr wt lk wn bg t c) → post 1) (hT : ¬ (∀ c, c < 16 → ¬ vs_M sr wt lk wn bg t c) → post 0) : wpY_might post (cm, st, wn, lv, sr, bg, vw, wt, ow, lk) (nI t) := by
  unfold wpY_might
  dsimp only
  exact yb_yes ht ho (br_t rfl (yo_all ht (fun z => br_t rfl (hF z)) (fun z => br_f vs_10 (hT z))))
theorem ym_39 {post : Int32 → SY → Prop} (ht : t < 6) (hp : post 0 (cm, vs_pb (vs_q wt t) (fun c => ow (16 * t + c)) st 16, vs_pb (vs_q wt t) (fun _ => cm) wn 16, lv, sr, bg, vw, wt, ow, lk)) : ∃ n, wY_commit_39 post (nI t) cm n 0 st wn lv sr bg vw wt ow lk := by
  refine loop_0 (fun n i (s : (Nat → Int32) × (Nat → Int32)) => wY_commit_39 post (nI t) cm n (nI i) s.1 s.2 lv sr bg vw wt ow lk) (fun i s => s = (vs_pb (vs_q wt t) (fun c => ow (16 * t + c)) st i, vs_pb (vs_q wt t) (fun _ => cm) wn i)) 16 (st, wn) ?_ ?_ ?_
  · show (st, wn) = (vs_pb (vs_q wt t) (fun c => ow (16 * t + c)) st 0, vs_pb (vs_q wt t) (fun _ => cm) wn 0)
    rw [vs_pb0, vs_pb0]
  · intro n s e
    subst e
    exact br_t (Int32.le_refl _) hp
  · intro n i s hi e hn
    subst e
    have h := hn _ rfl
    dsimp only at h
    refine br_f (vs_16 hi) ⟨vs_vY ht hi, ?_⟩
    dsimp only
    rw [vs_eY ht hi, vs_c16 hi]
    refine br_c (fun z => nm_r (nI_1 i) ?_) (fun z => ⟨vs_vY ht hi, vs_v16 hi, nm_r (e' := vs_pb (vs_q wt t) (fun c => ow (16 * t + c)) st (i + 1)) ?_ ⟨vs_v16 hi, nm_r (e' := vs_pb (vs_q wt t) (fun _ => cm) wn (i + 1)) ?_ (nm_r (nI_1 i) h)⟩⟩)
    · have q : vs_q wt t i = false := decide_eq_false (fun y => y z)
      rw [← vs_pbF (fun c => ow (16 * t + c)) st q, ← vs_pbF (fun _ => cm) wn q] at h
      exact h
    · exact vs_pbT (fun c => ow (16 * t + c)) st (decide_eq_true z)
    · exact vs_pbT (fun _ => cm) wn (decide_eq_true z)
theorem ym_commitB {post : Int32 → SY → Prop} {x : Int32} (h : vs_bad lv x) (hp : post (-1) (cm, st, wn, lv, sr, bg, vw, wt, ow, lk)) : wpY_commit post (cm, st, wn, lv, sr, bg, vw, wt, ow, lk) x := by
  unfold wpY_commit
  dsimp only
  exact yb_no h (br_f vs_10 hp)
theorem ym_commit {post : Int32 → SY → Prop} (ht : t < 6) (ho : ¬ lv t = 0)
    (hF : (∀ c, c < 16 → ¬ vs_M sr wt lk wn bg t c) → post 0 (cm + 1, vs_pb (vs_q wt t) (fun c => ow (16 * t + c)) st 16, vs_pb (vs_q wt t) (fun _ => cm + 1) wn 16, upd lv t 0, sr, bg, vw, wt, ow, lk))
    (hT : ¬ (∀ c, c < 16 → ¬ vs_M sr wt lk wn bg t c) → post 1 (cm, st, wn, upd lv t 0, sr, bg, vw, wt, ow, lk)) : wpY_commit post (cm, st, wn, lv, sr, bg, vw, wt, ow, lk) (nI t) := by
  unfold wpY_commit
  dsimp only
  exact yb_yes ht ho (br_t rfl ⟨vs_v6 ht, nm_r (e' := upd lv t 0) (by rw [vs_c6 ht, vs_nb0]) (yo_all ht (fun z => br_t rfl (nm_e (ym_39 ht (hF z)))) (fun z => br_f vs_10 (hT z)))⟩)
/-! committed, sum, open -/
theorem ym_cmtC {post : Int32 → Prop} {y : Int32} (h : vs_bc y) (hp : post 0) : wpY_committed post (cm, st, wn, lv, sr, bg, vw, wt, ow, lk) y := by
  unfold wpY_committed
  dsimp only
  exact yc_no h (br_f vs_10 hp)
theorem ym_cmt {post : Int32 → Prop} (hc : c < 16) (hp : post (st c)) : wpY_committed post (cm, st, wn, lv, sr, bg, vw, wt, ow, lk) (nI c) := by
  unfold wpY_committed
  dsimp only
  refine yc_yes hc (br_t rfl ⟨vs_v16 hc, ?_⟩)
  rw [vs_c16 hc]
  exact hp
theorem ym_sumB {post : Int32 → Prop} {x y z : Int32} (h : vs_bad lv x) (hp : post 0) : wpY_sum post (cm, st, wn, lv, sr, bg, vw, wt, ow, lk) x y z := by
  unfold wpY_sum
  dsimp only
  exact yb_no h (br_f vs_10 hp)
theorem ym_sum {post : Int32 → Prop} (ht : t < 6) (ho : ¬ lv t = 0) (a b : Int32) (hp : post (vs_sum (fun c => if wt (16 * t + c) = 0 then vw (16 * t + c) else ow (16 * t + c)) a b 16)) : wpY_sum post (cm, st, wn, lv, sr, bg, vw, wt, ow, lk) (nI t) a b := by
  unfold wpY_sum
  dsimp only
  refine yb_yes ht ho (br_t rfl ?_)
  refine loop_0 (fun n i s => wY_sum_16 post (nI t) a b cm st wn lv sr bg vw wt ow lk n s (nI i)) (fun i s => s = vs_sum (fun c => if wt (16 * t + c) = 0 then vw (16 * t + c) else ow (16 * t + c)) a b i) 16 0 rfl ?_ ?_
  · intro n s e
    subst e
    exact br_t (Int32.le_refl _) hp
  · intro n i s hi e hn
    subst e
    exact br_f (vs_16 hi) (br_c (fun z => nm_r (nI_1 i) (hn _ (vs_sum1 _ z))) (fun z => br_c (fun y => nm_r (nI_1 i) (hn _ (vs_sum2 _ y))) (fun y => ys_seen ht hi (nm_r (vs_sum3 (fun c => if wt (16 * t + c) = 0 then vw (16 * t + c) else ow (16 * t + c)) z y) (nm_r (nI_1 i) (hn _ rfl))))))
theorem ym_open {post : Int32 → Prop} (hp : post (vs_cnt lv 6)) : wpY_open post (cm, st, wn, lv, sr, bg, vw, wt, ow, lk) := by
  unfold wpY_open
  dsimp only
  refine loop_0 (fun n i s => wY_open_4 post cm st wn lv sr bg vw wt ow lk n s (nI i)) (fun i s => s = vs_cnt lv i) 6 0 rfl ?_ ?_
  · intro n s e
    subst e
    exact br_t (Int32.le_refl _) hp
  · intro n i s hi e hn
    subst e
    refine br_f (vs_6 hi) ⟨vs_v6 hi, br_c (fun z => nm_r (nI_1 i) (hn _ ?_)) (fun z => nm_e (nm_r (nI_1 i) (hn _ ?_)))⟩
    · rw [vs_c6 hi] at z; exact vs_cnt0 z
    · rw [vs_c6 hi] at z; exact vs_cnt1 z
end
end
section
/-! the relation and the owed statements -/
def i_Rel (k : Nat) (u : SX) (v : SY) : Prop := match u, v with
  | (cv, rv, op, se, wr, rd, ov), (cm, st, wn, lv, sr, bg, vw, wt, ow, lk) => st = cv ∧ lv = op ∧ sr = se ∧ vs_R k rv wr rd ov wn bg vw wt ow lk cm
theorem i_up {k : Nat} {u : SX} {v : SY} (h : i_Rel k u v) : i_Rel (k + 4) u v := by
  obtain ⟨cv, rv, op, se, wr, rd, ov⟩ := u
  obtain ⟨cm, st, wn, lv, sr, bg, vw, wt, ow, lk⟩ := v
  obtain ⟨a, b, c, d⟩ := h
  exact ⟨a, b, c, vs_Rup d⟩
theorem i_vc0 : wpX_init (fun u => wpY_init (fun v => i_Rel 0 u v)) := ⟨rfl, rfl, rfl, vs_R0⟩
theorem i_vc_begin {k : Nat} {u : SX} {v : SY} (I : i_Rel k u v) (hk : k + 4 ≤ 2048) (v1 : Int32) : wpX_begin (fun r u' => wpY_begin (fun r' v' => r' = r ∧ i_Rel (k + 4) u' v') v (lw_bz v1)) u (lw_bz v1) := by
  obtain ⟨cv, rv, op, se, wr, rd, ov⟩ := u
  obtain ⟨cm, st, wn, lv, sr, bg, vw, wt, ow, lk⟩ := v
  obtain ⟨rfl, rfl, rfl, h⟩ := I
  rcases vs_first _ 6 0 rfl (fun s hs => absurd hs (Nat.not_lt_zero s)) with ⟨t, ht, h0, hs⟩ | hs
  · exact xb_yes ht h0 hs _ (yb_beg ht h0 hs _ ⟨rfl, rfl, rfl, rfl, vs_Rup (vs_Rbegin h _ t)⟩)
  · exact xb_no hs _ (yb_full hs _ ⟨rfl, rfl, rfl, rfl, vs_Rup h⟩)
theorem i_vc_read {k : Nat} {u : SX} {v : SY} (I : i_Rel k u v) (hk : k + 4 ≤ 2048) (v1 : Int32) (v2 : Int32) : wpX_read (fun r u' => wpY_read (fun r' v' => r' = r ∧ i_Rel (k + 4) u' v') v v1 v2) u v1 v2 := by
  obtain ⟨cv, rv, op, se, wr, rd, ov⟩ := u
  obtain ⟨cm, st, wn, lv, sr, bg, vw, wt, ow, lk⟩ := v
  obtain ⟨rfl, rfl, rfl, h⟩ := I
  rcases vs_dic _ v1 with b | ⟨t, ht, rfl, ho⟩
  · exact xm_readB b (ym_readB b ⟨rfl, rfl, rfl, rfl, vs_Rup h⟩)
  · rcases vs_dicC v2 with b | ⟨c, hc, rfl⟩
    · exact xm_readC ht ho b (ym_readC ht ho b ⟨rfl, rfl, rfl, rfl, vs_Rup h⟩)
    · obtain ⟨a1, a2, a3, a4⟩ := h.1 t c ht hc
      by_cases w : bt (wr t) c = true
      · exact xm_readW ht hc ho w (ym_readW ht hc ho (a1.mp w) ⟨a3.symm, rfl, rfl, rfl, vs_Rup h⟩)
      · have z : wt (16 * t + c) = 0 := Decidable.byContradiction (fun y => w (a1.mpr y))
        exact xm_readN ht hc ho w (ym_readN ht hc ho z ⟨a3.symm, rfl, rfl, rfl, vs_Rup (vs_Rread h hc)⟩)
theorem i_vc_write {k : Nat} {u : SX} {v : SY} (I : i_Rel k u v) (hk : k + 4 ≤ 2048) (v1 : Int32) (v2 : Int32) (v3 : Int32) : wpX_write (fun r u' => wpY_write (fun r' v' => r' = r ∧ i_Rel (k + 4) u' v') v v1 v2 v3) u v1 v2 v3 := by
  obtain ⟨cv, rv, op, se, wr, rd, ov⟩ := u
  obtain ⟨cm, st, wn, lv, sr, bg, vw, wt, ow, lk⟩ := v
  obtain ⟨rfl, rfl, rfl, h⟩ := I
  rcases vs_dic _ v1 with b | ⟨t, ht, rfl, ho⟩
  · exact xm_writeB b (ym_writeB b ⟨rfl, rfl, rfl, rfl, vs_Rup h⟩)
  · rcases vs_dicC v2 with b | ⟨c, hc, rfl⟩
    · exact xm_writeC ht ho b (ym_writeC ht ho b ⟨rfl, rfl, rfl, rfl, vs_Rup h⟩)
    · exact xm_write ht hc ho v3 (ym_write ht hc ho v3 ⟨rfl, rfl, rfl, rfl, vs_Rup (vs_Rwrite h hc v3)⟩)
theorem i_vc_add {k : Nat} {u : SX} {v : SY} (I : i_Rel k u v) (hk : k + 4 ≤ 2048) (v1 : Int32) (v2 : Int32) (v3 : Int32) : wpX_add (fun r u' => wpY_add (fun r' v' => r' = r ∧ i_Rel (k + 4) u' v') v v1 v2 v3) u v1 v2 v3 := by
  obtain ⟨cv, rv, op, se, wr, rd, ov⟩ := u
  obtain ⟨cm, st, wn, lv, sr, bg, vw, wt, ow, lk⟩ := v
  obtain ⟨rfl, rfl, rfl, h⟩ := I
  rcases vs_dic _ v1 with b | ⟨t, ht, rfl, ho⟩
  · exact xm_addB b (ym_addB b ⟨rfl, rfl, rfl, rfl, vs_Rup h⟩)
  · rcases vs_dicC v2 with b | ⟨c, hc, rfl⟩
    · exact xm_addC ht ho b (ym_addC ht ho b ⟨rfl, rfl, rfl, rfl, vs_Rup h⟩)
    · obtain ⟨a1, a2, a3, a4⟩ := h.1 t c ht hc
      by_cases w : bt (wr t) c = true
      · exact xm_addW ht hc ho v3 w (ym_addW ht hc ho v3 (rv (16 * t + c)) (a1.mp w) a3.symm ⟨rfl, rfl, rfl, rfl, vs_Rup (vs_Rwrite h hc _)⟩)
      · have z : wt (16 * t + c) = 0 := Decidable.byContradiction (fun y => w (a1.mpr y))
        exact xm_addN ht hc ho v3 w (ym_addN ht hc ho v3 (rv (16 * t + c)) z a3.symm ⟨rfl, rfl, rfl, rfl, vs_Rup (vs_Rwrite (vs_Rread h hc) hc _)⟩)
theorem i_vc_commit {k : Nat} {u : SX} {v : SY} (I : i_Rel k u v) (hk : k + 4 ≤ 2048) (v1 : Int32) : wpX_commit (fun r u' => wpY_commit (fun r' v' => r' = r ∧ i_Rel (k + 4) u' v') v v1) u v1 := by
  obtain ⟨cv, rv, op, se, wr, rd, ov⟩ := u
  obtain ⟨cm, st, wn, lv, sr, bg, vw, wt, ow, lk⟩ := v
  obtain ⟨rfl, rfl, rfl, h⟩ := I
  rcases vs_dic _ v1 with b | ⟨t, ht, rfl, ho⟩
  · exact xm_commitB b (ym_commitB b ⟨rfl, rfl, rfl, rfl, vs_Rup h⟩)
  · have wy : ∀ P : Prop, ((∀ c, c < 16 → ¬ vs_M sr wt lk wn bg t c) → P) → (sr t = 0 → wr t &&& ov t = 0) → (¬ sr t = 0 → (wr t ||| rd t) &&& ov t = 0) → P := fun P f a b => f (by
      by_cases z : sr t = 0
      · exact (vs_wayT h ht z).mp (a z)
      · exact (vs_wayS h ht z).mp (b z))
    have wn' : ∀ P : Prop, (¬ (∀ c, c < 16 → ¬ vs_M sr wt lk wn bg t c) → P) → (sr t = 0 → ¬ wr t &&& ov t = 0) → (¬ sr t = 0 → ¬ (wr t ||| rd t) &&& ov t = 0) → P := fun P f a b => f (by
      by_cases z : sr t = 0
      · exact fun m => a z ((vs_wayT h ht z).mpr m)
      · exact fun m => b z ((vs_wayS h ht z).mpr m))
    refine xm_commit ht ho (wy _ fun m => ym_commit ht ho (fun _ => ⟨rfl, (vs_cvE h ht _).symm, rfl, rfl, vs_Rcommit h hk ht⟩) (fun n => absurd m n)) (wn' _ fun m => ym_commit ht ho (fun n => absurd n m) (fun _ => ⟨rfl, rfl, rfl, rfl, vs_Rup h⟩))
theorem i_vc_abort {k : Nat} {u : SX} {v : SY} (I : i_Rel k u v) (hk : k + 4 ≤ 2048) (v1 : Int32) : wpX_abort (fun r u' => wpY_abort (fun r' v' => r' = r ∧ i_Rel (k + 4) u' v') v v1) u v1 := by
  obtain ⟨cv, rv, op, se, wr, rd, ov⟩ := u
  obtain ⟨cm, st, wn, lv, sr, bg, vw, wt, ow, lk⟩ := v
  obtain ⟨rfl, rfl, rfl, h⟩ := I
  rcases vs_dic _ v1 with b | ⟨t, ht, rfl, ho⟩
  · exact xm_abortB b (ym_abortB b ⟨rfl, rfl, rfl, rfl, vs_Rup h⟩)
  · exact xm_abort ht ho (ym_abort ht ho ⟨rfl, rfl, rfl, rfl, vs_Rup h⟩)
theorem i_vc_might {k : Nat} {u : SX} {v : SY} (I : i_Rel k u v) (hk : k + 4 ≤ 2048) (v1 : Int32) : wpX_might (fun r => wpY_might (fun r' => r' = r ∧ i_Rel (k + 4) u v) v v1) u v1 := by
  obtain ⟨cv, rv, op, se, wr, rd, ov⟩ := u
  obtain ⟨cm, st, wn, lv, sr, bg, vw, wt, ow, lk⟩ := v
  obtain ⟨rfl, rfl, rfl, h⟩ := I
  rcases vs_dic _ v1 with b | ⟨t, ht, rfl, ho⟩
  · exact xm_mightB b (ym_mightB b ⟨rfl, rfl, rfl, rfl, vs_Rup h⟩)
  · have wy : ∀ P : Prop, ((∀ c, c < 16 → ¬ vs_M sr wt lk wn bg t c) → P) → (sr t = 0 → wr t &&& ov t = 0) → (¬ sr t = 0 → (wr t ||| rd t) &&& ov t = 0) → P := fun P f a b => f (by
      by_cases z : sr t = 0
      · exact (vs_wayT h ht z).mp (a z)
      · exact (vs_wayS h ht z).mp (b z))
    have wn' : ∀ P : Prop, (¬ (∀ c, c < 16 → ¬ vs_M sr wt lk wn bg t c) → P) → (sr t = 0 → ¬ wr t &&& ov t = 0) → (¬ sr t = 0 → ¬ (wr t ||| rd t) &&& ov t = 0) → P := fun P f a b => f (by
      by_cases z : sr t = 0
      · exact fun m => a z ((vs_wayT h ht z).mpr m)
      · exact fun m => b z ((vs_wayS h ht z).mpr m))
    refine xm_might ht ho (wy _ fun m => ym_might ht ho (fun _ => ⟨rfl, rfl, rfl, rfl, vs_Rup h⟩) (fun n => absurd m n)) (wn' _ fun m => ym_might ht ho (fun n => absurd n m) (fun _ => ⟨rfl, rfl, rfl, rfl, vs_Rup h⟩))
theorem i_vc_committed {k : Nat} {u : SX} {v : SY} (I : i_Rel k u v) (hk : k + 4 ≤ 2048) (v1 : Int32) : wpX_committed (fun r => wpY_committed (fun r' => r' = r ∧ i_Rel (k + 4) u v) v v1) u v1 := by
  obtain ⟨cv, rv, op, se, wr, rd, ov⟩ := u
  obtain ⟨cm, st, wn, lv, sr, bg, vw, wt, ow, lk⟩ := v
  obtain ⟨rfl, rfl, rfl, h⟩ := I
  rcases vs_dicC v1 with b | ⟨c, hc, rfl⟩
  · exact xm_cmtC b (ym_cmtC b ⟨rfl, rfl, rfl, rfl, vs_Rup h⟩)
  · exact xm_cmt hc (ym_cmt hc ⟨rfl, rfl, rfl, rfl, vs_Rup h⟩)
theorem i_vc_sum {k : Nat} {u : SX} {v : SY} (I : i_Rel k u v) (hk : k + 4 ≤ 2048) (v1 : Int32) (v2 : Int32) (v3 : Int32) : wpX_sum (fun r => wpY_sum (fun r' => r' = r ∧ i_Rel (k + 4) u v) v v1 v2 v3) u v1 v2 v3 := by
  obtain ⟨cv, rv, op, se, wr, rd, ov⟩ := u
  obtain ⟨cm, st, wn, lv, sr, bg, vw, wt, ow, lk⟩ := v
  obtain ⟨rfl, rfl, rfl, h⟩ := I
  rcases vs_dic _ v1 with b | ⟨t, ht, rfl, ho⟩
  · exact xm_sumB b (ym_sumB b ⟨rfl, rfl, rfl, rfl, vs_Rup h⟩)
  · exact xm_sum ht ho v2 v3 (ym_sum ht ho v2 v3 ⟨vs_sumC v2 v3 16 (fun c hc => (h.1 t c ht hc).2.2.1.symm), rfl, rfl, rfl, vs_Rup h⟩)
theorem i_vc_tidy {k : Nat} {u : SX} {v : SY} (I : i_Rel k u v) (hk : k + 4 ≤ 2048) : wpX_tidy (fun u' => wpY_tidy (fun v' => i_Rel (k + 4) u' v') v) u := by
  obtain ⟨cv, rv, op, se, wr, rd, ov⟩ := u
  obtain ⟨cm, st, wn, lv, sr, bg, vw, wt, ow, lk⟩ := v
  obtain ⟨rfl, rfl, rfl, h⟩ := I
  exact ⟨rfl, rfl, rfl, vs_Rup h⟩
theorem i_vc_open {k : Nat} {u : SX} {v : SY} (I : i_Rel k u v) (hk : k + 4 ≤ 2048) : wpX_open (fun r => wpY_open (fun r' => r' = r ∧ i_Rel (k + 4) u v) v) u := by
  obtain ⟨cv, rv, op, se, wr, rd, ov⟩ := u
  obtain ⟨cm, st, wn, lv, sr, bg, vw, wt, ow, lk⟩ := v
  obtain ⟨rfl, rfl, rfl, h⟩ := I
  exact xm_open (ym_open ⟨rfl, rfl, rfl, rfl, vs_Rup h⟩)
end
