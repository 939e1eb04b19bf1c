/-! ===== what holds of a bench goes on to hold ===== -/
theorem BI.mv {A : m_T} {B B' : Nat → Nat → Int} (h : BI A B) (hk : ∀ k i, k ≠ 0 → k ≠ 9 → B' k i = B k i) (h0 : 0 ≤ B' 0 0 ∧ B' 0 0 ≤ 999) (h1 : 0 ≤ B' 0 1 ∧ B' 0 1 ≤ 9999) (h9 : B' 0 9 = B 0 9) : BI A B' := by
  obtain ⟨-, -, a3, a4, a5, a6⟩ := h
  have e3 : ∀ i, B' 3 i = B 3 i := fun i => hk 3 i (by decide) (by decide)
  have e4 : ∀ i, B' 4 i = B 4 i := fun i => hk 4 i (by decide) (by decide)
  have e5 : ∀ i, B' 5 i = B 5 i := fun i => hk 5 i (by decide) (by decide)
  have e6 : ∀ i, B' 6 i = B 6 i := fun i => hk 6 i (by decide) (by decide)
  have e7 : ∀ i, B' 7 i = B 7 i := fun i => hk 7 i (by decide) (by decide)
  have e8 : ∀ i, B' 8 i = B 8 i := fun i => hk 8 i (by decide) (by decide)
  refine ⟨h0, h1, ?_, ?_, ?_, ?_⟩
  · rw [h9]; simp only [e5]; exact a3
  · simp only [e8]; exact a4
  · unfold BC; simp only [e3, e4, e5, e6, e7]; exact a5
  · simp only [e3, e4]; exact a6
theorem b_who_congr {B B' : Nat → Nat → Int} (h3 : ∀ i, i < 8 → B' 3 i = B 3 i) (h4 : ∀ i, i < 8 → B' 4 i = B 4 i) (k p : Int) : b_who B' k p = b_who B k p := by
  unfold b_who
  have L : ∀ r i, i + r ≤ 8 → m_fst (fun c => B' 3 c == k && B' 4 c == p) i r = m_fst (fun c => B 3 c == k && B 4 c == p) i r := by
    intro r
    induction r with
    | zero => intro i _; rfl
    | succ r ih =>
      intro i hi
      unfold m_fst
      rw [h3 i (by omega), h4 i (by omega), ih (i + 1) (by omega)]
  exact L 8 0 (by omega)
theorem m_cnt_congr {p q : Nat → Bool} : ∀ r i, (∀ j, i ≤ j → j < i + r → p j = q j) → m_cnt p i r = m_cnt q i r := by
  intro r
  induction r with
  | zero => intro i _; rfl
  | succ r ih =>
    intro i h
    unfold m_cnt
    rw [h i (by omega) (by omega), ih (i + 1) (fun j h1 h2 => h j (by omega) (by omega))]
theorem m_fst_congr {p q : Nat → Bool} : ∀ r i, (∀ j, i ≤ j → j < i + r → p j = q j) → m_fst p i r = m_fst q i r := by
  intro r
  induction r with
  | zero => intro i _; rfl
  | succ r ih =>
    intro i h
    unfold m_fst
    rw [h i (by omega) (by omega), ih (i + 1) (fun j h1 h2 => h j (by omega) (by omega))]
/-- the yard plays no part in a firing -/
theorem sS_yard (A : m_T) (B : Nat → Nat → Int) (y : Int) (kn : Nat) (heat p : Int) : sS A (bu B 0 1 y) kn heat p = bu (sS A B kn heat p) 0 1 y := by
  have e : ∀ k i, k ≠ 0 → bu B 0 1 y k i = B k i := fun k i hk => bu_ne _ _ (fun z => hk z.1)
  have e0 : bu B 0 1 y 0 0 = B 0 0 := bu_ne _ _ (by omega)
  have ew : ∀ p, b_who (bu B 0 1 y) kn p = b_who B kn p := fun p => b_who_congr (fun i _ => e 3 i (by decide)) (fun i _ => e 4 i (by decide)) _ _
  have er : ∀ c, sRing A (bu B 0 1 y) heat c = sRing A B heat c := fun c => by unfold sRing; rw [e 4 c (by decide), e0]
  have ec : ∀ c, sCrk A (bu B 0 1 y) heat c = sCrk A B heat c := fun c => by unfold sCrk; rw [e 4 c (by decide), e0]
  have es : ∀ l r, sStk A (bu B 0 1 y) heat l r = sStk A B heat l r := fun l r => by unfold sStk; rw [er, er, e0]
  have e7 : ∀ c, s7 A (bu B 0 1 y) kn heat p c = s7 A B kn heat p c := fun c => by
    unfold s7
    simp only [ew, es, e 4 c (by decide), e 7 c (by decide)]
  funext k i
  by_cases hz : k = 0 ∧ i = 1
  · obtain ⟨rfl, rfl⟩ := hz
    rw [bu_at, sS_k (k := 0) (Or.inl (by decide)), bu_at]
  · rw [bu_ne _ _ hz]
    by_cases hk : k = 0
    · subst hk
      rw [sS_k (k := 0) (Or.inl (by decide)), sS_k (k := 0) (Or.inl (by decide)), bu_ne _ _ hz]
    · unfold sS
      rw [e 3 i (by decide), e 4 i (by decide), e 5 i (by decide), e 6 i (by decide), er, ec, e7, e k i hk]
theorem sCnt_yard (A : m_T) (B : Nat → Nat → Int) (y : Int) (kn : Nat) (heat : Int) : ∀ r p, sCnt A (bu B 0 1 y) kn heat r p = sCnt A B kn heat r p := by
  have e : ∀ k i, k ≠ 0 → bu B 0 1 y k i = B k i := fun k i hk => bu_ne _ _ (fun z => hk z.1)
  have e0 : bu B 0 1 y 0 0 = B 0 0 := bu_ne _ _ (by omega)
  have ew : ∀ p, b_who (bu B 0 1 y) kn p = b_who B kn p := fun p => b_who_congr (fun i _ => e 3 i (by decide)) (fun i _ => e 4 i (by decide)) _ _
  have ec : ∀ c, sCrk A (bu B 0 1 y) heat c = sCrk A B heat c := fun c => by unfold sCrk; rw [e 4 c (by decide), e0]
  intro r
  induction r with
  | zero => intro p; rfl
  | succ r ih => intro p; unfold sCnt; rw [ew, ec, ih]
section PF
variable {A : m_T} {B : Nat → Nat → Int} {kn : Nat} {heat : Int}
theorem p_fire_k {k : Nat} (hk : k ≠ 0) (h8 : k ≠ 8) (h9 : k ≠ 9) (i : Nat) : p_fire A B kn heat k i = sS A B kn heat (tw_room A kn) k i := by
  unfold p_fire p_kf
  rw [bu_ne _ _ (fun z => h8 z.1), bu_ne _ _ (fun z => hk z.1), bu_ne _ _ (fun z => h9 z.1), bu_ne _ _ (fun z => h9 z.1), bu_ne _ _ (fun z => h9 z.1), bu_ne _ _ (fun z => h9 z.1), sS_yard, bu_ne _ _ (fun z => hk z.1)]
theorem p_fire_8 (i : Nat) : p_fire A B kn heat 8 i = if i = kn then -1 else B 8 i := by
  unfold p_fire p_kf
  by_cases h : i = kn
  · rw [h, if_pos rfl, bu_at]
  · rw [if_neg h, bu_ne _ _ (fun z => h z.2), bu_ne _ _ (by omega), bu_ne _ _ (by omega), bu_ne _ _ (by omega), bu_ne _ _ (by omega), bu_ne _ _ (by omega), sS_k (k := 8) (Or.inr (by decide)), bu_ne _ _ (by omega)]
theorem p_fire_00 : p_fire A B kn heat 0 0 = B 0 0 := by
  unfold p_fire p_kf
  rw [bu_ne _ _ (by omega), bu_ne _ _ (by omega), bu_ne _ _ (by omega), bu_ne _ _ (by omega), bu_ne _ _ (by omega), bu_ne _ _ (by omega), sS_k (k := 0) (Or.inl (by decide)), bu_ne _ _ (by omega)]
theorem p_fire_01 : p_fire A B kn heat 0 1 = B 0 1 - p_burn A B kn := by
  unfold p_fire p_kf
  rw [bu_ne _ _ (by omega), bu_ne _ _ (by omega), bu_ne _ _ (by omega), bu_ne _ _ (by omega), bu_ne _ _ (by omega), bu_ne _ _ (by omega), sS_k (k := 0) (Or.inl (by decide)), bu_at]
theorem p_fire_09 : p_fire A B kn heat 0 9 = B 0 9 + 1 := by
  unfold p_fire p_kf
  rw [bu_ne _ _ (by omega), bu_at, sS_k (k := 0) (Or.inl (by decide)), bu_ne _ _ (by omega)]
theorem p_fire_9 (i : Nat) : p_fire A B kn heat 9 i = if i = 4 * (B 0 9).toNat + 3 then sCnt A B kn heat (tw_room A kn).toNat 0 else if i = 4 * (B 0 9).toNat + 2 then heat else if i = 4 * (B 0 9).toNat + 1 then (kn : Int) else if i = 4 * (B 0 9).toNat then B 0 0 else B 9 i := by
  unfold p_fire p_kf
  rw [sCnt_yard, sS_k (k := 0) (Or.inl (by decide)), sS_k (k := 0) (Or.inl (by decide)), bu_ne _ _ (by omega), bu_ne _ _ (by omega), bu_ne B _ (by omega), bu_ne B _ (by omega)]
  generalize (B 0 9).toNat = f
  by_cases q3 : i = 4 * f + 3
  · rw [if_pos q3, q3, bu_at]
  rw [if_neg q3, bu_ne _ _ (fun z => q3 z.2)]
  by_cases q2 : i = 4 * f + 2
  · rw [if_pos q2, q2, bu_at]
  rw [if_neg q2, bu_ne _ _ (fun z => q2 z.2)]
  by_cases q1 : i = 4 * f + 1
  · rw [if_pos q1, q1, bu_at]
  rw [if_neg q1, bu_ne _ _ (fun z => q1 z.2)]
  by_cases q0 : i = 4 * f
  · rw [if_pos q0, q0, bu_at]
  rw [if_neg q0, bu_ne _ _ (fun z => q0 z.2), sS_k (k := 9) (Or.inr (by decide)), bu_ne _ _ (by omega)]
theorem p_fire_in (hB : BI A B) {c : Nat} (hc : c < 8) (h3 : B 3 c = (kn : Int)) : p_fire A B kn heat 3 c = -1 ∧ p_fire A B kn heat 4 c = -1 ∧ p_fire A B kn heat 5 c = sRing A B heat c ∧ p_fire A B kn heat 6 c = sCrk A B heat c ∧ p_fire A B kn heat 7 c = s7 A B kn heat (tw_room A kn) c := by
  have h := sS_all (heat := heat) (p := tw_room A kn) hB (Int.le_refl _) hc h3
  rw [p_fire_k (by decide) (by decide) (by decide), p_fire_k (by decide) (by decide) (by decide), p_fire_k (by decide) (by decide) (by decide), p_fire_k (by decide) (by decide) (by decide), p_fire_k (by decide) (by decide) (by decide)]
  exact h
theorem p_fire_out {c : Nat} (h3 : ¬ (c < 8 ∧ B 3 c = (kn : Int))) {k : Nat} (hk : 3 ≤ k ∧ k ≤ 7) : p_fire A B kn heat k c = B k c := by
  rw [p_fire_k (by omega) (by omega) (by omega), sS_out h3]
theorem p_burn_0 (hl : B 8 kn ≠ -1) (hl2 : -1 ≤ B 8 kn) : 0 ≤ p_burn A B kn := by
  unfold p_burn p_brn
  split
  · omega
  · dsimp only
    split <;> omega
theorem p_goes_iff : p_goes A B kn = true ↔ B 8 kn ≠ -1 ∧ b_cnt B kn ≠ 0 ∧ p_burn A B kn ≤ B 0 1 := by
  unfold p_goes
  simp only [Bool.and_eq_true, bne_iff_ne, decide_eq_true_eq, and_assoc, ne_eq]
theorem BI.fire (hB : BI A B) (hk : kn < tw_nk A) (hk3 : kn < 3) (hg : p_goes A B kn = true) : BI A (p_fire A B kn heat) := by
  obtain ⟨g1, g2, g3⟩ := p_goes_iff.mp hg
  have hB' := hB
  obtain ⟨a1, a2, a3, a4, a5, a6⟩ := hB
  have hb := p_burn_0 (A := A) g1 (a4 kn hk3).1.1
  obtain ⟨j, -, j2, j3⟩ := m_cnt_pos 8 0 (Nat.pos_of_ne_zero g2)
  have j3 : B 3 j = (kn : Int) := by simpa using j3
  have hj8 : j < 8 := by omega
  refine ⟨by rw [p_fire_00]; exact a1, by rw [p_fire_01]; omega, ?_, ?_, ?_, ?_⟩
  · rw [p_fire_09]
    have hl := (m_cnt_lt (p := fun c => B 5 c != -1) (q := fun c => p_fire A B kn heat 5 c != -1) 8 0 (fun c _ hc8 hp => ?_)).2 ⟨j, by omega, by omega, ?_, ?_⟩
    · refine ⟨by omega, ?_⟩
      have := a3.2
      omega
    · by_cases hin : B 3 c = (kn : Int)
      · rw [(p_fire_in hB' (by omega) hin).2.2.1]
        have := p_ring_in A c heat (B 4 c) (B 0 0)
        unfold sRing
        simp only [bne_iff_ne]; omega
      · rw [p_fire_out (fun z => hin z.2) (by omega)]; exact hp
    · have := ((a5 j hj8).raw j3).1
      simp [this]
    · rw [(p_fire_in hB' hj8 j3).2.2.1]
      have := p_ring_in A j heat (B 4 j) (B 0 0)
      unfold sRing
      simp only [bne_iff_ne]; omega
  · intro k hk'
    rw [p_fire_8]
    have := a4 k hk'
    split
    · omega
    · exact this
  · intro c hc
    by_cases hin : B 3 c = (kn : Int)
    · obtain ⟨f3, f4, f5, f6, f7⟩ := p_fire_in (heat := heat) hB' hc hin
      have hr := (a5 c hc).raw hin
      refine Or.inr ⟨hr.2.2.2.1, ?_, ?_, ?_, f3, f4⟩
      · rw [f5]; exact p_ring_in _ _ _ _ _
      · rw [f6]; unfold sCrk; split
        · exact Or.inr rfl
        · exact Or.inl rfl
      · rw [f7]; exact s7_in (by rw [hr.2.2.1]; omega)
    · have e : ∀ k, 3 ≤ k ∧ k ≤ 7 → p_fire A B kn heat k c = B k c := fun k hk => p_fire_out (fun z => hin z.2) hk
      unfold BC
      rw [e 3 (by omega), e 4 (by omega), e 5 (by omega), e 6 (by omega), e 7 (by omega)]
      exact a5 c hc
  · intro c e hc he q3 q4 q
    have nin : ∀ x, x < 8 → p_fire A B kn heat 3 x ≠ -1 → B 3 x ≠ (kn : Int) := fun x hx hq z => hq (p_fire_in hB' hx z).1
    have hcn := nin c hc q
    have hen := nin e he (by rw [← q3]; exact q)
    rw [p_fire_out (fun z => hcn z.2) (by omega)] at q q3 q4
    rw [p_fire_out (fun z => hen z.2) (by omega)] at q3 q4
    exact a6 c e hc he q3 q4 q
end PF
theorem BI.load {A : m_T} {B : Nat → Nat → Int} (hA : TA A) (hB : BI A B) : BI A (p_load A B) := by
  have hl := hA.2.2.2.2.2.1
  have h1 := hB.2.1
  refine hB.mv (fun k i hk _ => bu_ne _ _ (fun z => hk z.1)) (by unfold p_load; rw [bu_ne _ _ (by omega)]; exact hB.1) ?_ (bu_ne _ _ (by omega))
  unfold p_load
  rw [bu_at]
  split <;> omega
theorem BI.kl {A : m_T} {gust : Int} (hA : TA A) : ∀ (r k : Nat) (B : Nat → Nat → Int) (n : Int), k + r ≤ tw_nk A → BI A B → BI A (p_kl A gust r k B n).1 ∧ (p_kl A gust r k B n).1 0 0 = B 0 0 ∧ n ≤ (p_kl A gust r k B n).2 ∧ (p_kl A gust r k B n).2 ≤ n + r := by
  intro r
  induction r with
  | zero => intro k B n _ hB; exact ⟨hB, rfl, Int.le_refl _, by unfold p_kl; omega⟩
  | succ r ih =>
    intro k B n hk hB
    have hn := hA.2.1
    unfold p_kl
    by_cases hg : p_goes A B k = true
    · rw [if_pos hg]
      obtain ⟨h1, h2, h3, h4⟩ := ih (k + 1) _ (n + 1) (by omega) (hB.fire (heat := p_heat B k gust) (by omega) (by omega) hg)
      exact ⟨h1, h2.trans p_fire_00, by omega, by omega⟩
    · rw [if_neg hg]
      obtain ⟨h1, h2, h3, h4⟩ := ih (k + 1) _ n (by omega) hB
      exact ⟨h1, h2, h3, by omega⟩
theorem BI.week {A : m_T} {B : Nat → Nat → Int} {gust : Int} (hA : TA A) (hB : BI A B) (hw : B 0 0 < 999) : BI A (p_week A B gust).1 ∧ (p_week A B gust).1 0 0 = B 0 0 + 1 ∧ 0 ≤ (p_week A B gust).2 ∧ (p_week A B gust).2 ≤ 3 := by
  have hn := hA.2.1
  obtain ⟨h1, h2, h3, h4⟩ := BI.kl (gust := gust) hA (tw_nk A) 0 _ 0 (by omega) (BI.load hA hB)
  have e0 : p_load A B 0 0 = B 0 0 := bu_ne _ _ (by omega)
  rw [e0] at h2
  have hw0 := hB.1
  unfold p_week
  generalize p_kl A gust (tw_nk A) 0 (p_load A B) 0 = R at h1 h2 h3 h4
  obtain ⟨R1, R2⟩ := R
  dsimp only at h1 h2 h3 h4 ⊢
  refine ⟨h1.mv (fun k i hk _ => bu_ne _ _ (fun z => hk z.1)) ?_ ?_ ?_, ?_, h3, by omega⟩
  · rw [bu_at]; omega
  · rw [bu_ne _ _ (by omega)]; exact h1.2.1
  · rw [bu_ne _ _ (by omega)]
  · rw [bu_at, h2]
