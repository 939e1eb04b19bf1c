theorem m_fst_spec (p : Nat → Bool) : ∀ r i, m_fst p i r = -1 ∧ (∀ j, i ≤ j → j < i + r → p j = false) ∨ ∃ j : Nat, m_fst p i r = (j : Int) ∧ i ≤ j ∧ j < i + r ∧ p j = true ∧ ∀ k, i ≤ k → k < j → p k = false := by
  intro r
  induction r with
  | zero => intro i; exact Or.inl ⟨rfl, fun j h1 h2 => by omega⟩
  | succ r ih =>
    intro i
    unfold m_fst
    by_cases hp : p i = true
    · rw [if_pos hp]
      exact Or.inr ⟨i, rfl, Nat.le_refl _, by omega, hp, fun k h1 h2 => by omega⟩
    · rw [if_neg hp]
      have hp : p i = false := by revert hp; cases p i <;> simp
      rcases ih (i + 1) with ⟨h1, h2⟩ | ⟨j, h1, h2, h3, h4, h5⟩
      · refine Or.inl ⟨h1, fun j a b => ?_⟩
        by_cases e : j = i
        · rw [e]; exact hp
        · exact h2 j (by omega) (by omega)
      · refine Or.inr ⟨j, h1, by omega, by omega, h4, fun k a b => ?_⟩
        by_cases e : k = i
        · rw [e]; exact hp
        · exact h5 k (by omega) b
theorem b_who_spec (B : Nat → Nat → Int) (k p : Int) : b_who B k p = -1 ∧ (∀ c, c < 8 → ¬ (B 3 c = k ∧ B 4 c = p)) ∨ ∃ c : Nat, b_who B k p = (c : Int) ∧ c < 8 ∧ B 3 c = k ∧ B 4 c = p ∧ ∀ e, e < c → ¬ (B 3 e = k ∧ B 4 e = p) := by
  rcases m_fst_spec (fun c => B 3 c == k && B 4 c == p) 8 0 with ⟨h1, h2⟩ | ⟨j, h1, h2, h3, h4, h5⟩
  · refine Or.inl ⟨h1, fun c hc z => ?_⟩
    have := h2 c (by omega) (by omega)
    simp [z.1, z.2] at this
  · simp only [Bool.and_eq_true, beq_iff_eq] at h4
    refine Or.inr ⟨j, h1, by omega, h4.1, h4.2, fun e he z => ?_⟩
    have := h5 e (by omega) he
    simp [z.1, z.2] at this
noncomputable def p_fa (A : m_T) (kn : Nat) (heat : Int) : Nat → Nat → (Nat → Nat → Int) → Int → Int → (Nat → Nat → Int) × Int
  | 0, _, B, n, _ => (B, n)
  | r + 1, p, B, n, left =>
    if b_who B kn p = -1 then p_fa A kn heat r (p + 1) B n (-1)
    else p_fa A kn heat r (p + 1) (if left = -1 then p_one A B (b_who B kn p).toNat heat else p_due A (p_one A B (b_who B kn p).toNat heat) left.toNat (b_who B kn p).toNat heat) (n + p_one A B (b_who B kn p).toNat heat 6 (b_who B kn p).toNat) (b_who B kn p)
theorem p_one_6 (A : m_T) (B : Nat → Nat → Int) (c : Nat) (heat : Int) : p_one A B c heat 6 c = if p_crk A c heat (B 4 c) (B 0 0) then 1 else 0 := by
  unfold p_one
  rw [bu_ne _ _ (by omega), bu_ne _ _ (by omega), bu_at]
theorem p_one_5 (A : m_T) (B : Nat → Nat → Int) (c : Nat) (heat : Int) : p_one A B c heat 5 c = p_ring A c heat (B 4 c) (B 0 0) := by
  unfold p_one
  rw [bu_ne _ _ (by omega), bu_ne _ _ (by omega), bu_ne _ _ (by omega), bu_at]
theorem p_one_3 (A : m_T) (B : Nat → Nat → Int) (c : Nat) (heat : Int) : p_one A B c heat 3 c = -1 := by
  unfold p_one
  rw [bu_ne _ _ (by omega), bu_at]
theorem p_one_0 (A : m_T) (B : Nat → Nat → Int) (c : Nat) (heat : Int) (i : Nat) : p_one A B c heat 0 i = B 0 i := by
  unfold p_one
  rw [bu_ne _ _ (by omega), bu_ne _ _ (by omega), bu_ne _ _ (by omega), bu_ne _ _ (by omega)]
theorem p_one_o (A : m_T) (B : Nat → Nat → Int) {c : Nat} (heat : Int) (k : Nat) {i : Nat} (h : i ≠ c) : p_one A B c heat k i = B k i := by
  unfold p_one
  rw [bu_ne _ _ (fun z => h z.2), bu_ne _ _ (fun z => h z.2), bu_ne _ _ (fun z => h z.2), bu_ne _ _ (fun z => h z.2)]
theorem p_due_o (A : m_T) (B : Nat → Nat → Int) (a b : Nat) (heat : Int) {k : Nat} (h : k ≠ 7) (i : Nat) : p_due A B a b heat k i = B k i := by
  unfold p_due
  split
  · unfold p_stick
    rw [bu_ne _ _ (fun z => h z.1), bu_ne _ _ (fun z => h z.1)]
  · rfl
set_option maxRecDepth 20000 in
set_option maxHeartbeats 400000 in
theorem c_fireAll {G : m_G} {d t o kn : Nat} {μ : m_M} {A : m_T} (hT : CT μ t A) (ho : m_cls o = 0) (hk : kn < tw_nk A) {heat : Int} (h1 : sm heat) (h1b : 0 ≤ heat) (h3 : sm (μ o 0 0)) (hnc : ∀ c, c < 8 → μ o 3 c = (kn : Int) → c < tw_nc A) {K : Int → m_M → Prop} (h : ∀ μ1, ofo o μ μ1 → μ1 o = (p_fa A kn heat (tw_room A kn).toNat 0 (μ o) 0 (-1)).1 → K (p_fa A kn heat (tw_room A kn).toNat 0 (μ o) 0 (-1)).2 μ1) : c_i G (d + 8) YX4_fireAll [vR 4 0, vR o 0, vI (kn : Int), vI heat] μ K := by
  have hTA := hT.2.2.2.1
  have hk3 : kn < 3 := Nat.lt_of_lt_of_le hk hTA.2.1
  have hrm := hTA.2.2.2.1 kn hk
  have ho5 : o ≠ 5 := cls_ne ho (show m_cls 5 = 5 from rfl) (by decide)
  obtain ⟨rm, hrm2⟩ : ∃ rm : Nat, tw_room A kn = (rm : Int) := ⟨(tw_room A kn).toNat, by omega⟩
  rw [hrm2, Int.toNat_natCast] at h
  obtain ⟨Z, hZ⟩ : ∃ Z, Z = p_fa A kn heat rm 0 (μ o) 0 (-1) := ⟨_, rfl⟩
  rw [← hZ] at h
  refine EX4_fireAll ho (fun X C R => ?_)
  have L : ∀ (r p n : Nat) (left : Int) (μ1 : m_M), p + r = rm → n ≤ p → ofo o μ μ1 → sm (μ1 o 0 0) → (∀ c, c < 8 → μ1 o 3 c = (kn : Int) → c < tw_nc A) → (left = -1 ∨ ∃ l : Nat, left = (l : Int) ∧ l < tw_nc A ∧ (0 ≤ μ1 o 5 l ∧ μ1 o 5 l ≤ 99) ∧ μ1 o 3 l = -1) →
      p_fa A kn heat r p (μ1 o) (n : Int) left = Z →
      mW G X YX4_fireAll μ1 9 [some (vR 4 0), some (vR o 0), some (vI (kn : Int)), some (vI heat), some (vI (n : Int)), some (vI left), some (vI (p : Int)), none, none, none] [] := by
    intro r
    induction r with
    | zero =>
      intro p n left μ1 hp hn hf hwk hnc1 hlf e1
      have hT1 := hT.ofo ho hf
      refine VX4_fireAll_9 C R ho ⟨t, hT1.2.1, hT1.1, ⟨by omega, by omega⟩, ?_⟩
      rw [Int.toNat_natCast, hT1.room hk, hrm2]
      refine ⟨fun _ => ?_, fun c => absurd (by omega) c⟩
      have e1 : (μ1 o, (n : Int)) = Z := e1
      rw [← e1] at h
      exact h μ1 hf rfl
    | succ r ih =>
      intro p n left μ1 hp hn hf hwk hnc1 hlf e1
      have hT1 := hT.ofo ho hf
      refine VX4_fireAll_9 C R ho ⟨t, hT1.2.1, hT1.1, ⟨by omega, by omega⟩, ?_⟩
      rw [Int.toNat_natCast, hT1.room hk, hrm2]
      refine ⟨fun c => absurd c (by omega), fun _ => c_who ho ?_⟩
      rcases b_who_spec (μ1 o) (kn : Int) (p : Int) with ⟨q1, q2⟩ | ⟨c, q1, q2, q3, q4, -⟩
      · refine ⟨fun _ x ex => ?_, fun z => absurd q1 z⟩
        rw [w32_s (by omega)] at ex
        subst ex
        rw [q1]
        unfold p_fa at e1
        rw [if_pos q1] at e1
        exact ih (p + 1) n (-1) μ1 (by omega) (by omega) hf hwk hnc1 (Or.inl rfl) e1
      · refine ⟨fun z => absurd (q1.symm.trans z) (by omega), fun _ => ?_⟩
        unfold p_fa at e1
        rw [if_neg (by omega), q1, Int.toNat_natCast] at e1
        rw [q1]
        have hcn := hnc1 c q2 q3
        have hwk1 : sm (μ1 o 0 0) := hwk
        refine c_temperOf hT1 hcn h1 h1b (by unfold sm; omega) hwk (fun μ2 o2 => ?_)
        have b2 : μ2 o = μ1 o := by funext b c; exact o2 o b c ho5
        rw [b2]
        refine c_isCracked (hT1.off o2) hcn h1 (by unfold sm; omega) hwk rfl (fun μ3 o3 => ?_)
        have b3 : μ3 o = μ1 o := by funext b c; rw [o3 o b c ho5, b2]
        have f3 : ofo o μ1 μ3 := (ofo.of5 o2).tr (ofo.of5 o3)
        have hcr := p_one_6 A (μ1 o) c heat
        rw [q4] at hcr
        have hri := p_ring_in A c heat (p : Int) (μ1 o 0 0)
        have fin : ∀ v : Int, v = p_one A (μ1 o) c heat 6 c → ∀ x8 : Int, x8 = w32 ((n : Int) + v) → c_v G (d + 7) YX0_comeOut [vR o 0, vI (c : Int), vI (p_ring A c heat (p : Int) (μ1 o 0 0)), vI v] μ3 (fun μ14 => ((left = (-1)) → ∀ x16 : Int, x16 = w32 ((p : Int) + 1) → mW G X YX4_fireAll μ14 9 [some (vR 4 0), some (vR o 0), some (vI (kn : Int)), some (vI heat), some (vI x8), some (vI (c : Int)), some (vI x16), none, none, none] []) ∧ ((¬ left = (-1)) → (0 ≤ left ∧ left < 8) ∧ c_i G (d + 7) YX4_isStuck [vR 4 0, vI left, vI (c : Int), vI (w32 ((μ14 o 5 left.toNat) - (p_ring A c heat (p : Int) (μ1 o 0 0)))), vI heat, vI (μ14 o 0 0)] μ14 (fun r18 μ17 => ((r18 = 0) → ∀ x20 : Int, x20 = w32 ((p : Int) + 1) → mW G X YX4_fireAll μ17 9 [some (vR 4 0), some (vR o 0), some (vI (kn : Int)), some (vI heat), some (vI x8), some (vI (c : Int)), some (vI x20), none, none, none] []) ∧ ((¬ r18 = 0) → c_v G (d + 7) YX0_stick [vR o 0, vI left, vI (c : Int)] μ17 (fun μ21 => ∀ x23 : Int, x23 = w32 ((p : Int) + 1) → mW G X YX4_fireAll μ21 9 [some (vR 4 0), some (vR o 0), some (vI (kn : Int)), some (vI heat), some (vI x8), some (vI (c : Int)), some (vI x23), none, none, none] []))))) := by
          intro v hv x8 e8
          refine c_comeOut ho q2 (fun μ7 f37 b7 => ?_)
          rw [b3, p_one_alt A (μ1 o) c heat (by rw [q4]) (by rw [q4, ← hcr]; exact hv)] at b7
          have f7 : ofo o μ1 μ7 := f3.tr f37
          have hcb : ∃ n2 : Nat, (n : Int) + p_one A (μ1 o) c heat 6 c = (n2 : Int) ∧ n2 ≤ n + 1 := by
            rw [hcr]
            split
            · exact ⟨n + 1, by omega, by omega⟩
            · exact ⟨n, by omega, by omega⟩
          obtain ⟨n2, hn2, hn3⟩ := hcb
          rw [hn2] at e1
          rw [hv, hn2, w32_le (by omega) (by omega)] at e8
          subst e8
          have hf7 := hf.tr f7
          have r7 : μ7 o 5 c = p_ring A c heat (p : Int) (μ1 o 0 0) := by rw [b7, p_one_5, q4]
          have hnc7 : ∀ e, e < 8 → μ7 o 3 e = (kn : Int) → e < tw_nc A := fun e he z => by
            rw [b7] at z
            by_cases ec : e = c
            · rw [ec]; exact hcn
            · rw [p_one_o A (μ1 o) heat 3 ec] at z; exact hnc1 e he z
          have hw7 : μ7 o 0 0 = μ1 o 0 0 := by rw [b7]; exact p_one_0 A (μ1 o) c heat 0
          refine ⟨fun cl x ex => ?_, fun cl => ?_⟩
          · rw [w32_s (by omega)] at ex
            subst ex
            rw [if_pos cl, ← b7] at e1
            exact ih (p + 1) n2 c μ7 (by omega) (by omega) hf7 (by rw [hw7]; exact hwk) hnc7 (Or.inr ⟨c, rfl, hcn, by rw [r7]; exact hri, by rw [b7, p_one_3]⟩) e1
          · rcases hlf with z | ⟨lf, z1, z2, z3, z4⟩
            · exact absurd z cl
            · subst z1
              have hlc : lf ≠ c := fun z => by rw [z] at z4; omega
              rw [if_neg cl, Int.toNat_natCast, ← b7] at e1
              have hT7 := hT.ofo ho hf7
              have t7 : μ7 o 5 lf = μ1 o 5 lf := by rw [b7, p_one_o A (μ1 o) heat 5 hlc]
              refine c_due (d := d + 1) (K := fun μ21 => ∀ x23 : Int, x23 = w32 ((p : Int) + 1) → mW G X YX4_fireAll μ21 9 [some (vR 4 0), some (vR o 0), some (vI (kn : Int)), some (vI heat), some (vI (n2 : Int)), some (vI (c : Int)), some (vI x23), none, none, none] []) hT7 ho z2 hcn h1 (by rw [t7]; exact z3) (by rw [r7]; exact hri) r7.symm (by rw [hw7]; exact hwk) (fun μ11 f11 b11 x ex => ?_)
              rw [w32_s (by omega)] at ex
              subst ex
              rw [← b11] at e1
              refine ih (p + 1) n2 c μ11 (by omega) (by omega) (hf7.tr f11) ?_ (fun e he z => ?_) (Or.inr ⟨c, rfl, hcn, ?_, ?_⟩) e1
              · rw [b11, p_due_o A _ _ _ _ (by decide), hw7]; exact hwk
              · rw [b11, p_due_o A _ _ _ _ (by decide)] at z; exact hnc7 e he z
              · rw [b11, p_due_o A _ _ _ _ (by decide), r7]; exact hri
              · rw [b11, p_due_o A _ _ _ _ (by decide), b7, p_one_3]
        refine ⟨fun c1 => fin 0 ?_, fun c1 => fin 1 ?_⟩
        · rw [hcr]
          split at c1
          · omega
          · next q => rw [if_neg q]
        · rw [hcr]
          split at c1
          · next q => rw [if_pos q]
          · exact absurd rfl c1
  exact L rm 0 0 (-1) μ (by omega) (by omega) (ofo.rf o μ) h3 hnc (Or.inl rfl) hZ.symm
