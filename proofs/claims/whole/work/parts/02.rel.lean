/-! what the two states have to do with one another, beyond the fields that are the same functions -/
def vs_R (k : Nat) (rv wr rd ov wn bg vw wt ow lk : Nat → Int32) (cm : Int32) : Prop :=
  (∀ t c, t < 6 → c < 16 → (bt (wr t) c = true ↔ ¬ wt (16 * t + c) = 0) ∧ (bt (rd t) c = true ↔ ¬ lk (16 * t + c) = 0)
     ∧ (rv (16 * t + c) = if wt (16 * t + c) = 0 then vw (16 * t + c) else ow (16 * t + c))
     ∧ (bt (ov t) c = true ↔ bg t < wn c)) ∧
  (∀ t i, t < 6 → 16 ≤ i → bt (wr t) i = false ∧ bt (ov t) i = false) ∧
  cm.toInt ≤ k ∧ (∀ c, c < 16 → (wn c).toInt ≤ cm.toInt) ∧ (∀ t, t < 6 → (bg t).toInt ≤ cm.toInt)
section
variable {k : Nat} {rv wr rd ov wn bg vw wt ow lk cv : Nat → Int32} {cm : Int32} {t c : Nat}
theorem vs_ft : (false = true ↔ ¬ (0 : Int32) = 0) := by decide
theorem vs_R0 : vs_R 0 (fun _ => 0) (fun _ => 0) (fun _ => 0) (fun _ => 0) (fun _ => 0) (fun _ => 0) (fun _ => 0) (fun _ => 0) (fun _ => 0) (fun _ => 0) 0 := by
  refine ⟨fun t c _ _ => ⟨?_, ?_, ?_, ?_⟩, fun t i _ _ => ⟨b_0 i, b_0 i⟩, by decide, fun _ _ => Int.le_refl _, fun _ _ => Int.le_refl _⟩
  · rw [b_0]; exact vs_ft
  · rw [b_0]; exact vs_ft
  · exact (if_pos rfl).symm
  · rw [b_0]; exact ⟨fun z => absurd z (by decide), fun z => absurd z Int32.lt_irrefl⟩
theorem vs_Rup (h : vs_R k rv wr rd ov wn bg vw wt ow lk cm) : vs_R (k + 4) rv wr rd ov wn bg vw wt ow lk cm := by
  obtain ⟨h1, h2, h3, h4, h5⟩ := h
  exact ⟨h1, h2, by omega, h4, h5⟩
theorem vs_Rbegin (h : vs_R k rv wr rd ov wn bg vw wt ow lk cm) (cv : Nat → Int32) (t : Nat) :
    vs_R k (vs_cp t cv rv 16) (upd wr t 0) (upd rd t 0) (upd ov t 0) wn (upd bg t cm) (vs_cp t cv vw 16) (vs_cp t (fun _ => 0) wt 16) ow (vs_cp t (fun _ => 0) lk 16) cm := by
  obtain ⟨h1, h2, h3, h4, h5⟩ := h
  refine ⟨fun s d hs hd => ?_, fun s i hs hi => ?_, h3, h4, fun s hs => ?_⟩
  · obtain ⟨a1, a2, a3, a4⟩ := h1 s d hs hd
    by_cases e : s = t
    · subst e
      refine ⟨?_, ?_, ?_, ?_⟩
      · rw [pk_us, vs_cpI _ _ _ hd, b_0]; exact vs_ft
      · rw [pk_us, vs_cpI _ _ _ hd, b_0]; exact vs_ft
      · rw [vs_cpI s cv rv hd, vs_cpI s cv vw hd, vs_cpI s (fun _ => 0) wt hd]; exact (if_pos rfl).symm
      · rw [pk_us, pk_us, b_0]
        refine ⟨fun z => absurd z (by decide), fun z => ?_⟩
        have y := h4 d hd
        rw [Int32.lt_iff_toInt_lt] at z
        omega
    · refine ⟨?_, ?_, ?_, ?_⟩
      · rw [pk_un e, vs_cpO e _ _ hd]; exact a1
      · rw [pk_un e, vs_cpO e _ _ hd]; exact a2
      · rw [vs_cpO e cv rv hd, vs_cpO e cv vw hd, vs_cpO e (fun _ => 0) wt hd]; exact a3
      · rw [pk_un e, pk_un e]; exact a4
  · by_cases e : s = t
    · subst e
      rw [pk_us, pk_us]; exact ⟨b_0 i, b_0 i⟩
    · rw [pk_un e, pk_un e]; exact h2 s i hs hi
  · by_cases e : s = t
    · subst e
      rw [pk_us]; exact Int.le_refl _
    · rw [pk_un e]; exact h5 s hs
theorem vs_Rread (h : vs_R k rv wr rd ov wn bg vw wt ow lk cm) (hc : c < 16) :
    vs_R k rv wr (upd rd t (rd t ||| ((1 : Int32) <<< (nI c &&& 31)))) ov wn bg vw wt ow (upd lk (16 * t + c) 1) cm := by
  obtain ⟨h1, h2, h3, h4, h5⟩ := h
  refine ⟨fun s d hs hd => ?_, h2, h3, h4, h5⟩
  obtain ⟨a1, a2, a3, a4⟩ := h1 s d hs hd
  refine ⟨a1, ?_, a3, a4⟩
  by_cases e : s = t
  · subst e
    rw [pk_us, vs_set _ hc]
    by_cases z : d = c
    · subst z
      rw [pk_us, decide_eq_true rfl, Bool.or_true]
      exact ⟨fun _ => by decide, fun _ => rfl⟩
    · rw [pk_un (by omega), decide_eq_false z, Bool.or_false]; exact a2
  · rw [pk_un e, pk_un (by omega)]; exact a2
theorem vs_Rwrite (h : vs_R k rv wr rd ov wn bg vw wt ow lk cm) (hc : c < 16) (x : Int32) :
    vs_R k (upd rv (16 * t + c) x) (upd wr t (wr t ||| ((1 : Int32) <<< (nI c &&& 31)))) rd ov wn bg vw (upd wt (16 * t + c) 1) (upd ow (16 * t + c) x) lk cm := by
  obtain ⟨h1, h2, h3, h4, h5⟩ := h
  refine ⟨fun s d hs hd => ?_, fun s i hs hi => ?_, h3, h4, h5⟩
  · obtain ⟨a1, a2, a3, a4⟩ := h1 s d hs hd
    refine ⟨?_, a2, ?_, a4⟩
    · by_cases e : s = t
      · subst e
        rw [pk_us, vs_set _ hc]
        by_cases z : d = c
        · subst z
          rw [pk_us, decide_eq_true rfl, Bool.or_true]
          exact ⟨fun _ => by decide, fun _ => rfl⟩
        · rw [pk_un (by omega), decide_eq_false z, Bool.or_false]; exact a1
      · rw [pk_un e, pk_un (by omega)]; exact a1
    · by_cases e : 16 * s + d = 16 * t + c
      · rw [e, pk_us, pk_us, pk_us, if_neg (by decide)]
      · rw [pk_un e, pk_un e, pk_un e]; exact a3
  · refine ⟨?_, (h2 s i hs hi).2⟩
    by_cases e : s = t
    · subst e
      rw [pk_us, vs_set _ hc, (h2 s i hs hi).1, decide_eq_false (by omega)]; rfl
    · rw [pk_un e]; exact (h2 s i hs hi).1
/-- which cells transaction t wrote -/
def vs_q (wt : Nat → Int32) (t : Nat) : Nat → Bool := fun c => decide (¬ wt (16 * t + c) = 0)
theorem vs_qB (h : vs_R k rv wr rd ov wn bg vw wt ow lk cm) (ht : t < 6) (hc : c < 16) : vs_q wt t c = bt (wr t) c := by
  have a := (h.1 t c ht hc).1
  unfold vs_q
  cases b : bt (wr t) c
  · rw [b] at a
    exact decide_eq_false (fun z => absurd (a.mpr z) (by decide))
  · rw [b] at a
    exact decide_eq_true (a.mp rfl)
theorem vs_cvE (h : vs_R k rv wr rd ov wn bg vw wt ow lk cm) (ht : t < 6) (cv : Nat → Int32) :
    vs_pb (fun c => bt (wr t) c) (fun c => rv (16 * t + c)) cv 16 = vs_pb (vs_q wt t) (fun c => ow (16 * t + c)) cv 16 := by
  funext c
  by_cases hc : c < 16
  · rw [vs_pbE _ _ hc, vs_pbE _ _ hc, vs_qB h ht hc]
    by_cases b : bt (wr t) c = true
    · rw [if_pos b, if_pos b, (h.1 t c ht hc).2.2.1, if_neg ((h.1 t c ht hc).1.mp b)]
    · rw [if_neg b, if_neg b]
  · unfold vs_pb
    rw [if_neg (fun z => hc z.1), if_neg (fun z => hc z.1)]
theorem vs_Rcommit (h : vs_R k rv wr rd ov wn bg vw wt ow lk cm) (hk : k + 4 ≤ 2048) (ht : t < 6) :
    vs_R (k + 4) rv wr rd (vs_ov (wr t) ov 6) (vs_pb (vs_q wt t) (fun _ => cm + 1) wn 16) bg vw wt ow lk (cm + 1) := by
  have hq := fun c (hc : c < 16) => vs_qB (c := c) h ht hc
  obtain ⟨h1, h2, h3, h4, h5⟩ := h
  have hm : (cm + 1).toInt = cm.toInt + 1 := vs_cm1 (by omega)
  refine ⟨fun s d hs hd => ?_, fun s i hs hi => ?_, by omega, fun d hd => ?_, fun s hs => ?_⟩
  · obtain ⟨a1, a2, a3, a4⟩ := h1 s d hs hd
    refine ⟨a1, a2, a3, ?_⟩
    rw [vs_ovE _ _ hs, vs_pbE _ _ hd, b_or, hq d hd]
    cases b : bt (wr t) d
    · rw [Bool.or_false, if_neg (by decide)]; exact a4
    · rw [Bool.or_true, if_pos rfl]
      refine ⟨fun _ => ?_, fun _ => rfl⟩
      have y := h5 s hs
      rw [Int32.lt_iff_toInt_lt, hm]
      omega
  · refine ⟨(h2 s i hs hi).1, ?_⟩
    rw [vs_ovE _ _ hs, b_or, (h2 s i hs hi).2, (h2 t i ht hi).1]; rfl
  · rw [vs_pbE _ _ hd]
    by_cases z : vs_q wt t d = true
    · rw [if_pos z]; exact Int.le_refl _
    · rw [if_neg z]
      have y := h4 d hd
      omega
  · have y := h5 s hs
    omega
/-- the reference's reason for refusing t a commit, at cell c -/
def vs_M (se wt lk wn bg : Nat → Int32) (t c : Nat) : Prop := (¬ wt (16 * t + c) = 0 ∨ (¬ se t = 0 ∧ ¬ lk (16 * t + c) = 0)) ∧ bg t < wn c
theorem vs_wayT (h : vs_R k rv wr rd ov wn bg vw wt ow lk cm) (ht : t < 6) {se : Nat → Int32} (hs : se t = 0) :
    wr t &&& ov t = 0 ↔ ∀ c, c < 16 → ¬ vs_M se wt lk wn bg t c := by
  rw [vs_mask (fun i hi => (h.2.1 t i ht hi).2)]
  refine ⟨fun f c hc m => f c hc ?_, fun f c hc m => f c hc ?_⟩
  · obtain ⟨a1, a2, a3, a4⟩ := h.1 t c ht hc
    refine ⟨?_, a4.mpr m.2⟩
    rcases m.1 with z | z
    · exact a1.mpr z
    · exact absurd hs z.1
  · obtain ⟨a1, a2, a3, a4⟩ := h.1 t c ht hc
    exact ⟨Or.inl (a1.mp m.1), a4.mp m.2⟩
theorem vs_wayS (h : vs_R k rv wr rd ov wn bg vw wt ow lk cm) (ht : t < 6) {se : Nat → Int32} (hs : ¬ se t = 0) :
    (wr t ||| rd t) &&& ov t = 0 ↔ ∀ c, c < 16 → ¬ vs_M se wt lk wn bg t c := by
  rw [vs_mask (fun i hi => (h.2.1 t i ht hi).2)]
  refine ⟨fun f c hc m => f c hc ?_, fun f c hc m => f c hc ?_⟩
  · obtain ⟨a1, a2, a3, a4⟩ := h.1 t c ht hc
    refine ⟨?_, a4.mpr m.2⟩
    rw [b_or, Bool.or_eq_true]
    rcases m.1 with z | z
    · exact Or.inl (a1.mpr z)
    · exact Or.inr (a2.mpr z.2)
  · obtain ⟨a1, a2, a3, a4⟩ := h.1 t c ht hc
    have m1 := m.1
    rw [b_or, Bool.or_eq_true] at m1
    rcases m1 with z | z
    · exact ⟨Or.inl (a1.mp z), a4.mp m.2⟩
    · exact ⟨Or.inr ⟨hs, a2.mp z⟩, a4.mp m.2⟩
end
