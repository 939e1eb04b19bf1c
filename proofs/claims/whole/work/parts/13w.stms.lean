/-! ===== the reference reads a child, a kiln, a number of the yard, a formula ===== -/
section RC
variable {G : m_G} {T : Nat → Int} {L b e : Nat} {D : m_D} {CC : List Int} {μ0 : m_M}
theorem gi_lt {α : Type} {l : List α} {i : Nat} {x : α} (h : l[i]? = some x) : i < l.length := (List.getElem?_eq_some_iff.1 h).1
theorem Mqs.wr {μ μ1 : m_M} (h : Mqs T L b μ0 e D CC μ) (f : ∀ x y z, ¬ (x = 34 ∧ (((y = 16 ∨ y = 17 ∨ y = 27) ∧ D.1.length < 8 ∧ z = 8 * b + D.1.length) ∨ ((y = 19 ∨ y = 28) ∧ D.2.1.length < 3 ∧ z = 3 * b + D.2.1.length))) → μ1 x y z = μ x y z) : Mqs T L b μ0 e D CC μ1 := by
  obtain ⟨⟨hp, hB, hM, he⟩, ⟨h8, h29, hb, h9⟩, hC, hP, hW, hl⟩ := h
  refine ⟨⟨hp.tr (fun x y z a => f x y z (by omega)), ⟨by rw [f 34 0 2 (by omega)]; exact hB.1, fun i hi => by rw [f 34 1 i (by omega)]; exact hB.2.1 i hi, hB.2.2⟩, hM.cg (fun z _ _ _ _ => f 34 0 z (by omega)), he⟩, ⟨by rw [f 34 0 8 (by omega)]; exact h8, by rw [f 34 0 29 (by omega)]; exact h29, hb, by rw [f 34 0 9 (by omega)]; exact h9⟩, hC.cg (f 34 0 28 (by omega)) (fun z => ⟨f 34 25 z (by omega), f 34 26 z (by omega)⟩), ?_, hW, hl⟩
  obtain ⟨⟨a1, a2⟩, ⟨b1, b2⟩, ⟨c1, c2, c3⟩, d⟩ := hP
  refine ⟨⟨by rw [f 34 15 b (by omega)]; exact a1, fun i x hx => ?_⟩, ⟨by rw [f 34 18 b (by omega)]; exact b1, fun i x hx => ?_⟩, ⟨by rw [f 34 20 b (by omega)]; exact c1, by rw [f 34 21 b (by omega)]; exact c2, by rw [f 34 22 b (by omega)]; exact c3⟩, fun q hq => ?_⟩
  · have hi := gi_lt hx
    rw [f 34 27 _ (by omega), f 34 16 _ (by omega), f 34 17 _ (by omega)]; exact a2 i x hx
  · have hi := gi_lt hx
    rw [f 34 28 _ (by omega), f 34 19 _ (by omega)]; exact b2 i x hx
  · rw [f 34 23 _ (by omega), f 34 24 _ (by omega)]; exact d q hq
/-- writes that leave the lexer, the fault, the bank and the codes alone, and give another town -/
theorem Mqs.tw {μ μ1 : m_M} {D1 : m_D} (h : Mqs T L b μ0 e D CC μ) (f : ∀ x y z, ¬ (x = 34 ∧ (((y = 15 ∨ y = 18 ∨ y = 20 ∨ y = 21 ∨ y = 22) ∧ z = b) ∨ ((y = 23 ∨ y = 24) ∧ 4 * b ≤ z ∧ z < 4 * b + 4))) → μ1 x y z = μ x y z) (hP1 : MPd μ1 b D1) (hW1 : WFm D1) : Mqs T L b μ0 e D1 CC μ1 := by
  obtain ⟨⟨hp, hB, hM, he⟩, ⟨h8, h29, hb, h9⟩, hC, hP, hW, hl⟩ := h
  exact ⟨⟨hp.tr (fun x y z a => f x y z (by omega)), ⟨by rw [f 34 0 2 (by omega)]; exact hB.1, fun i hi => by rw [f 34 1 i (by omega)]; exact hB.2.1 i hi, hB.2.2⟩, hM.cg (fun z _ _ _ _ => f 34 0 z (by omega)), he⟩, ⟨by rw [f 34 0 8 (by omega)]; exact h8, by rw [f 34 0 29 (by omega)]; exact h29, hb, by rw [f 34 0 9 (by omega)]; exact h9⟩, hC.cg (f 34 0 28 (by omega)) (fun z => ⟨f 34 25 z (by omega), f 34 26 z (by omega)⟩), hP1, hW1, hl⟩
theorem ix8 {b i : Nat} (hb : b ≤ 1) (hi : i ≤ 8) : w32 (w32 (8 * (b : Int)) + (i : Int)) = ((8 * b + i : Nat) : Int) := by rw [w32_le (z := 8 * (b : Int)) (by omega) (by omega), w32_le (by omega) (by omega)]; omega
theorem ix3 {b i : Nat} (hb : b ≤ 1) (hi : i ≤ 3) : w32 (w32 (3 * (b : Int)) + (i : Int)) = ((3 * b + i : Nat) : Int) := by rw [w32_le (z := 3 * (b : Int)) (by omega) (by omega), w32_le (by omega) (by omega)]; omega
theorem ix4 {b i : Nat} (hb : b ≤ 1) (hi : i ≤ 4) : w32 (w32 (4 * (b : Int)) + (i : Int)) = ((4 * b + i : Nat) : Int) := by rw [w32_le (z := 4 * (b : Int)) (by omega) (by omega), w32_le (by omega) (by omega)]; omega
theorem q_child {d : Nat} {μ : m_M} (h : Mqs T L b μ0 e D CC μ) {K : m_M → Prop} (kk : ∀ μ1, MO T L b μ0 μ1 (if D.1.length = 8 then .inl (6, (tAt T L e : Int)) else sB (sChild T L D (tEn T L e)) (fun e x => .inr (e, ((D.1 ++ [x], D.2), CC)))) → K μ1) : c_v G (d + 4) YX12_childing [vR 34 0] μ K := by
  have h29 : μ 34 0 29 = (b : Int) := h.2.1.2.1
  have hb : b ≤ 1 := h.2.1.2.2.1
  have hn8 : D.1.length ≤ 8 := h.2.2.2.2.1.1.1
  have h15 : μ 34 15 b = (D.1.length : Int) := h.2.2.2.1.1.1
  refine EX12_childing ?_
  rw [h29, Int.toNat_natCast, h15]
  refine ⟨⟨by omega, by omega⟩, fun z => q_counts0 h (fun μ1 f1 g1 => ⟨fun _ => ?_, z1⟩), fun z => q_counts1 h (fun μ1 f1 g1 => ⟨z0, fun _ => kk μ1 ?_⟩)⟩
  · have hn : D.1.length < 8 := by omega
    rw [if_neg (by omega)] at kk
    have k29 : μ1 34 0 29 = (b : Int) := g1.2.1.2.1
    have k15 : μ1 34 15 b = (D.1.length : Int) := g1.2.2.2.1.1.1
    rw [k29, Int.toNat_natCast, k15]
    refine ⟨⟨by omega, by omega⟩, fun x3 e3 => ?_⟩
    rw [ix8 hb hn8] at e3
    obtain ⟨N, hN⟩ : ∃ N, N = 8 * b + D.1.length := ⟨_, rfl⟩
    rw [← hN] at e3
    subst e3
    simp only [Int.toNat_natCast]
    have bd : 0 ≤ (N : Int) ∧ (N : Int) < 16 := by omega
    have W : ∀ {x : Int × Int} {μa μb : m_M} {y : Nat} {v : Int}, (y = 16 ∨ y = 17 ∨ y = 27) → μb = m_up μa 34 y N v → Mg b μ0 x.1 x.2 μa → Mg b μ0 x.1 x.2 μb := fun {x} {μa} {μb} {y} {v} hy eb g => by
      rw [eb]
      exact g.wr (fun x' y' z' a => m_up_ne _ _ (by omega)) (fun z' _ => m_up_ne _ _ (by omega))
    have U : ∀ {e' : Nat} {μa μb : m_M} {y : Nat} {v : Int}, (y = 16 ∨ y = 17 ∨ y = 27) → μb = m_up μa 34 y N v → Mqs T L b μ0 e' D CC μa → Mqs T L b μ0 e' D CC μb := fun {e'} {μa} {μb} {y} {v} hy eb g => by
      rw [eb]
      exact g.wr (fun x' y' z' a => m_up_ne _ _ (by omega))
    have fin : ∀ (x : Int × Int) (μ14 : m_M), Mg b μ0 x.1 x.2 μ14 → sChild T L D (tEn T L e) = .inl x → K μ14 := fun x μ14 g hs => kk μ14 (by rw [hs]; exact g)
    have L5 : ∀ (x : Int × Int) (_ : sChild T L D (tEn T L e) = .inl x) (μ12 : m_M) (r13 : Int), Mg b μ0 x.1 x.2 μ12 → (0 ≤ (N : Int) ∧ (N : Int) < 16) ∧ ∀ μ14 : m_M, μ14 = m_up μ12 34 17 N r13 → ((¬ (μ14 34 0 8) = 0) → K μ14) ∧ ((μ14 34 0 8 = 0) → (0 ≤ μ14 34 0 29 ∧ μ14 34 0 29 < 2) ∧ (0 ≤ μ14 34 0 29 ∧ μ14 34 0 29 < 2) ∧ ∀ μ15 : m_M, μ15 = m_up μ14 34 15 (μ14 34 0 29).toNat (w32 ((μ14 34 15 (μ14 34 0 29).toNat) + 1)) → K μ15) := fun x hs μ12 r13 g => ⟨bd, fun μ14 e14 => ⟨fun _ => fin x μ14 (W (by omega) e14 g) hs, fun z => absurd z (W (by omega) e14 g).n8⟩⟩
    have L4 : ∀ (x : Int × Int) (_ : sChild T L D (tEn T L e) = .inl x) (μ11 : m_M), Mg b μ0 x.1 x.2 μ11 → c_i G (d + 3) YX12_number [vR 34 0, vI 0, vI 9] μ11 (fun r13 μ12 => (0 ≤ (N : Int) ∧ (N : Int) < 16) ∧ ∀ μ14 : m_M, μ14 = m_up μ12 34 17 N r13 → ((¬ (μ14 34 0 8) = 0) → K μ14) ∧ ((μ14 34 0 8 = 0) → (0 ≤ μ14 34 0 29 ∧ μ14 34 0 29 < 2) ∧ (0 ≤ μ14 34 0 29 ∧ μ14 34 0 29 < 2) ∧ ∀ μ15 : m_M, μ15 = m_up μ14 34 15 (μ14 34 0 29).toNat (w32 ((μ14 34 15 (μ14 34 0 29).toNat) + 1)) → K μ15)) := fun x hs μ11 g => g_number g (L5 x hs μ11 0 g)
    have L3 : ∀ (x : Int × Int) (_ : sChild T L D (tEn T L e) = .inl x) (μ8 : m_M) (r9 : Int), Mg b μ0 x.1 x.2 μ8 → (0 ≤ (N : Int) ∧ (N : Int) < 16) ∧ ∀ μ10 : m_M, μ10 = m_up μ8 34 16 N r9 → c_v G (d + 3) YX12_must_ [vR 34 0, vJ 1735551348] μ10 (fun μ11 => c_i G (d + 3) YX12_number [vR 34 0, vI 0, vI 9] μ11 (fun r13 μ12 => (0 ≤ (N : Int) ∧ (N : Int) < 16) ∧ ∀ μ14 : m_M, μ14 = m_up μ12 34 17 N r13 → ((¬ (μ14 34 0 8) = 0) → K μ14) ∧ ((μ14 34 0 8 = 0) → (0 ≤ μ14 34 0 29 ∧ μ14 34 0 29 < 2) ∧ (0 ≤ μ14 34 0 29 ∧ μ14 34 0 29 < 2) ∧ ∀ μ15 : m_M, μ15 = m_up μ14 34 15 (μ14 34 0 29).toNat (w32 ((μ14 34 15 (μ14 34 0 29).toNat) + 1)) → K μ15))) := fun x hs μ8 r9 g => ⟨bd, fun μ10 e10 => g_must_ (W (by omega) e10 g) (L4 x hs μ10 (W (by omega) e10 g))⟩
    have L2 : ∀ (x : Int × Int) (_ : sChild T L D (tEn T L e) = .inl x) (μ7 : m_M), Mg b μ0 x.1 x.2 μ7 → c_i G (d + 3) YX12_number [vR 34 0, vI 0, vI 99] μ7 (fun r9 μ8 => (0 ≤ (N : Int) ∧ (N : Int) < 16) ∧ ∀ μ10 : m_M, μ10 = m_up μ8 34 16 N r9 → c_v G (d + 3) YX12_must_ [vR 34 0, vJ 1735551348] μ10 (fun μ11 => c_i G (d + 3) YX12_number [vR 34 0, vI 0, vI 9] μ11 (fun r13 μ12 => (0 ≤ (N : Int) ∧ (N : Int) < 16) ∧ ∀ μ14 : m_M, μ14 = m_up μ12 34 17 N r13 → ((¬ (μ14 34 0 8) = 0) → K μ14) ∧ ((μ14 34 0 8 = 0) → (0 ≤ μ14 34 0 29 ∧ μ14 34 0 29 < 2) ∧ (0 ≤ μ14 34 0 29 ∧ μ14 34 0 29 < 2) ∧ ∀ μ15 : m_M, μ15 = m_up μ14 34 15 (μ14 34 0 29).toNat (w32 ((μ14 34 15 (μ14 34 0 29).toNat) + 1)) → K μ15)))) := fun x hs μ7 g => g_number g (L3 x hs μ7 0 g)
    have L1 : ∀ (x : Int × Int) (_ : sChild T L D (tEn T L e) = .inl x) (μ4 : m_M) (r5 : Int), Mg b μ0 x.1 x.2 μ4 → (0 ≤ (N : Int) ∧ (N : Int) < 16) ∧ ∀ μ6 : m_M, μ6 = m_up μ4 34 27 N r5 → c_v G (d + 3) YX12_must_ [vR 34 0, vJ 1668047225] μ6 (fun μ7 => c_i G (d + 3) YX12_number [vR 34 0, vI 0, vI 99] μ7 (fun r9 μ8 => (0 ≤ (N : Int) ∧ (N : Int) < 16) ∧ ∀ μ10 : m_M, μ10 = m_up μ8 34 16 N r9 → c_v G (d + 3) YX12_must_ [vR 34 0, vJ 1735551348] μ10 (fun μ11 => c_i G (d + 3) YX12_number [vR 34 0, vI 0, vI 9] μ11 (fun r13 μ12 => (0 ≤ (N : Int) ∧ (N : Int) < 16) ∧ ∀ μ14 : m_M, μ14 = m_up μ12 34 17 N r13 → ((¬ (μ14 34 0 8) = 0) → K μ14) ∧ ((μ14 34 0 8 = 0) → (0 ≤ μ14 34 0 29 ∧ μ14 34 0 29 < 2) ∧ (0 ≤ μ14 34 0 29 ∧ μ14 34 0 29 < 2) ∧ ∀ μ15 : m_M, μ15 = m_up μ14 34 15 (μ14 34 0 29).toNat (w32 ((μ14 34 15 (μ14 34 0 29).toNat) + 1)) → K μ15))))) := fun x hs μ4 r5 g => ⟨bd, fun μ6 e6 => g_must_ (W (by omega) e6 g) (L2 x hs μ6 (W (by omega) e6 g))⟩
    refine q_fresh g1 (fun r5 μ4 f4 o4 v4 => ?_)
    cases s1 : sName T L D (tEn T L e) with
    | inl x =>
      rw [s1] at o4
      exact L1 x (by simp only [sChild, s1, sB_r, sB_l]) μ4 r5 o4
    | inr y1 =>
      rw [s1] at o4
      have o4 : Mqs T L b μ0 y1.1 D CC μ4 := o4
      have v4 := v4 y1 s1
      refine ⟨bd, fun μ6 e6 => q_must_ (U (by omega) e6 o4) 1 (by decide) rfl (tok := 257) (by decide) (fun μ7 f7 o7 => ?_)⟩
      cases s2 : sExp T L 257 y1.1 with
      | inl x =>
        rw [s2] at o7
        exact L2 x (by simp only [sChild, s1, s2, sB_r, sB_l]) μ7 o7
      | inr y2 =>
        rw [s2] at o7
        have o7 : Mqs T L b μ0 y2.1 D CC μ7 := o7
        refine q_number o7 (fun r9 μ8 f8 o8 v8 => ?_)
        cases s3 : sNum T L 0 99 y2.1 with
        | inl x =>
          rw [s3] at o8
          exact L3 x (by simp only [sChild, s1, s2, s3, sB_r, sB_l]) μ8 r9 o8
        | inr y3 =>
          rw [s3] at o8
          have o8 : Mqs T L b μ0 y3.1 D CC μ8 := o8
          have v8 := v8 y3 s3
          refine ⟨bd, fun μ10 e10 => q_must_ (U (by omega) e10 o8) 2 (by decide) rfl (tok := 258) (by decide) (fun μ11 f11 o11 => ?_)⟩
          cases s4 : sExp T L 258 y3.1 with
          | inl x =>
            rw [s4] at o11
            exact L4 x (by simp only [sChild, s1, s2, s3, s4, sB_r, sB_l]) μ11 o11
          | inr y4 =>
            rw [s4] at o11
            have o11 : Mqs T L b μ0 y4.1 D CC μ11 := o11
            refine q_number o11 (fun r13 μ12 f12 o12 v12 => ?_)
            cases s5 : sNum T L 0 9 y4.1 with
            | inl x =>
              rw [s5] at o12
              exact L5 x (by simp only [sChild, s1, s2, s3, s4, s5, sB_r, sB_l]) μ12 r13 o12
            | inr y5 =>
              rw [s5] at o12
              have o12 : Mqs T L b μ0 y5.1 D CC μ12 := o12
              have v12 := v12 y5 s5
              have hs : sChild T L D (tEn T L e) = .inr (y5.1, (y1.2, y3.2, y5.2)) := by simp only [sChild, s1, s2, s3, s4, s5, sB_r, sB_l]
              refine ⟨bd, fun μ14 e14 => ?_⟩
              have o14 : Mqs T L b μ0 y5.1 D CC μ14 := U (by omega) e14 o12
              have n8 : μ14 34 0 8 = 0 := o14.2.1.1
              have n29 : μ14 34 0 29 = (b : Int) := o14.2.1.2.1
              have n15 : μ14 34 15 b = (D.1.length : Int) := o14.2.2.2.1.1.1
              rw [n29, Int.toNat_natCast, n15]
              refine ⟨fun z => absurd n8 z, fun _ => ⟨⟨by omega, by omega⟩, ⟨by omega, by omega⟩, fun μ15 e15 => kk μ15 ?_⟩⟩
              rw [w32_s (by omega)] at e15
              rw [hs]
              show Mqs T L b μ0 y5.1 (D.1 ++ [(y1.2, y3.2, y5.2)], D.2) CC μ15
              have w27 : μ14 34 27 N = (nm256 y1.2 0 : Int) := by rw [e14, m_up_ne _ _ (by omega), f12 34 27 N (by omega), f11 34 27 N (by omega), e10, m_up_ne _ _ (by omega), f8 34 27 N (by omega), f7 34 27 N (by omega), e6, m_up_at]; exact v4.1
              have w16 : μ14 34 16 N = y3.2 := by rw [e14, m_up_ne _ _ (by omega), f12 34 16 N (by omega), f11 34 16 N (by omega), e10, m_up_at]; exact v8
              have w17 : μ14 34 17 N = y5.2 := by rw [e14, m_up_at]; exact v12
              have f15 : ∀ x y z, ¬ (x = 34 ∧ y = 15 ∧ z = b) → μ15 x y z = μ14 x y z := fun x y z a => by rw [e15, m_up_ne _ _ a]
              obtain ⟨⟨a1, a2⟩, ⟨b1, b2⟩, ⟨c1, c2, c3⟩, dd⟩ := o14.2.2.2.1
              have hW := o14.2.2.2.2.1
              refine o14.tw (fun x y z a => f15 x y z (by omega)) ⟨⟨?_, fun i x hx => ?_⟩, ⟨by rw [f15 34 18 b (by omega)]; exact b1, fun i x hx => ?_⟩, ⟨by rw [f15 34 20 b (by omega)]; exact c1, by rw [f15 34 21 b (by omega)]; exact c2, by rw [f15 34 22 b (by omega)]; exact c3⟩, fun q hq => ?_⟩ ⟨⟨?_, fun x hx => ?_⟩, hW.2⟩
              · show μ15 34 15 b = (((D.1 ++ [_]).length : Nat) : Int)
                rw [e15, m_up_at, List.length_append]; rfl
              · have hx : (D.1 ++ [(y1.2, y3.2, y5.2)])[i]? = some x := hx
                rw [f15 34 27 _ (by omega), f15 34 16 _ (by omega), f15 34 17 _ (by omega)]
                by_cases hi : i < D.1.length
                · rw [List.getElem?_append_left hi] at hx
                  exact a2 i x hx
                · have hi2 : i = D.1.length := by
                    have := gi_lt hx
                    rw [List.length_append] at this
                    simp at this
                    omega
                  subst hi2
                  rw [List.getElem?_append_right (Nat.le_refl _), Nat.sub_self] at hx
                  cases hx
                  rw [← hN, w27, w16, w17]
                  exact ⟨rfl, rfl, rfl⟩
              · rw [f15 34 28 _ (by omega), f15 34 19 _ (by omega)]; exact b2 i x hx
              · rw [f15 34 23 _ (by omega), f15 34 24 _ (by omega)]; exact dd q hq
              · show (D.1 ++ [_]).length ≤ 8
                rw [List.length_append]; show D.1.length + 1 ≤ 8; omega
              · rcases List.mem_append.1 hx with z | z
                · exact hW.1.2 x z
                · rw [List.mem_singleton.1 z]; exact v4.2
  · rw [if_pos (by omega)]; exact g1
theorem q_kiln {d : Nat} {μ : m_M} (h : Mqs T L b μ0 e D CC μ) {K : m_M → Prop} (kk : ∀ μ1, MO T L b μ0 μ1 (if D.2.1.length = 3 then .inl (6, (tAt T L e : Int)) else sB (sKiln T L D (tEn T L e)) (fun e x => .inr (e, ((D.1, D.2.1 ++ [x], D.2.2), CC)))) → K μ1) : c_v G (d + 4) YX12_kilning [vR 34 0] μ K := by
  have h29 : μ 34 0 29 = (b : Int) := h.2.1.2.1
  have hb : b ≤ 1 := h.2.1.2.2.1
  have hn3 : D.2.1.length ≤ 3 := h.2.2.2.2.1.2.1
  have h18 : μ 34 18 b = (D.2.1.length : Int) := h.2.2.2.1.2.1.1
  refine EX12_kilning ?_
  rw [h29, Int.toNat_natCast, h18]
  refine ⟨⟨by omega, by omega⟩, fun z => q_counts0 h (fun μ1 f1 g1 => ⟨fun _ => ?_, z1⟩), fun z => q_counts1 h (fun μ1 f1 g1 => ⟨z0, fun _ => kk μ1 ?_⟩)⟩
  · have hn : D.2.1.length < 3 := by omega
    rw [if_neg (by omega)] at kk
    have k29 : μ1 34 0 29 = (b : Int) := g1.2.1.2.1
    have k18 : μ1 34 18 b = (D.2.1.length : Int) := g1.2.2.2.1.2.1.1
    rw [k29, Int.toNat_natCast, k18]
    refine ⟨⟨by omega, by omega⟩, fun x3 e3 => ?_⟩
    rw [ix3 hb hn3] at e3
    obtain ⟨N, hN⟩ : ∃ N, N = 3 * b + D.2.1.length := ⟨_, rfl⟩
    rw [← hN] at e3
    subst e3
    simp only [Int.toNat_natCast]
    have bd : 0 ≤ (N : Int) ∧ (N : Int) < 6 := by omega
    have W : ∀ {x : Int × Int} {μa μb : m_M} {y : Nat} {v : Int}, (y = 19 ∨ y = 28) → μb = m_up μa 34 y N v → Mg b μ0 x.1 x.2 μa → Mg b μ0 x.1 x.2 μb := fun {x} {μa} {μb} {y} {v} hy eb g => by
      rw [eb]
      exact g.wr (fun x' y' z' a => m_up_ne _ _ (by omega)) (fun z' _ => m_up_ne _ _ (by omega))
    have U : ∀ {e' : Nat} {μa μb : m_M} {y : Nat} {v : Int}, (y = 19 ∨ y = 28) → μb = m_up μa 34 y N v → Mqs T L b μ0 e' D CC μa → Mqs T L b μ0 e' D CC μb := fun {e'} {μa} {μb} {y} {v} hy eb g => by
      rw [eb]
      exact g.wr (fun x' y' z' a => m_up_ne _ _ (by omega))
    have fin : ∀ (x : Int × Int) (μ14 : m_M), Mg b μ0 x.1 x.2 μ14 → sKiln T L D (tEn T L e) = .inl x → K μ14 := fun x μ14 g hs => kk μ14 (by rw [hs]; exact g)
    have L3 : ∀ (x : Int × Int) (_ : sKiln T L D (tEn T L e) = .inl x) (μ8 : m_M) (r9 : Int), Mg b μ0 x.1 x.2 μ8 → (0 ≤ (N : Int) ∧ (N : Int) < 6) ∧ ∀ μ10 : m_M, μ10 = m_up μ8 34 19 N r9 → ((¬ (μ10 34 0 8) = 0) → K μ10) ∧ ((μ10 34 0 8 = 0) → (0 ≤ μ10 34 0 29 ∧ μ10 34 0 29 < 2) ∧ (0 ≤ μ10 34 0 29 ∧ μ10 34 0 29 < 2) ∧ ∀ μ11 : m_M, μ11 = m_up μ10 34 18 (μ10 34 0 29).toNat (w32 ((μ10 34 18 (μ10 34 0 29).toNat) + 1)) → K μ11) := fun x hs μ8 r9 g => ⟨bd, fun μ10 e10 => ⟨fun _ => fin x μ10 (W (by omega) e10 g) hs, fun z => absurd z (W (by omega) e10 g).n8⟩⟩
    have L2 : ∀ (x : Int × Int) (_ : sKiln T L D (tEn T L e) = .inl x) (μ7 : m_M), Mg b μ0 x.1 x.2 μ7 → c_i G (d + 3) YX12_number [vR 34 0, vI 1, vI 6] μ7 (fun r9 μ8 => (0 ≤ (N : Int) ∧ (N : Int) < 6) ∧ ∀ μ10 : m_M, μ10 = m_up μ8 34 19 N r9 → ((¬ (μ10 34 0 8) = 0) → K μ10) ∧ ((μ10 34 0 8 = 0) → (0 ≤ μ10 34 0 29 ∧ μ10 34 0 29 < 2) ∧ (0 ≤ μ10 34 0 29 ∧ μ10 34 0 29 < 2) ∧ ∀ μ11 : m_M, μ11 = m_up μ10 34 18 (μ10 34 0 29).toNat (w32 ((μ10 34 18 (μ10 34 0 29).toNat) + 1)) → K μ11)) := fun x hs μ7 g => g_number g (L3 x hs μ7 0 g)
    have L1 : ∀ (x : Int × Int) (_ : sKiln T L D (tEn T L e) = .inl x) (μ4 : m_M) (r5 : Int), Mg b μ0 x.1 x.2 μ4 → (0 ≤ (N : Int) ∧ (N : Int) < 6) ∧ ∀ μ6 : m_M, μ6 = m_up μ4 34 28 N r5 → c_v G (d + 3) YX12_must_ [vR 34 0, vJ 1919905645] μ6 (fun μ7 => c_i G (d + 3) YX12_number [vR 34 0, vI 1, vI 6] μ7 (fun r9 μ8 => (0 ≤ (N : Int) ∧ (N : Int) < 6) ∧ ∀ μ10 : m_M, μ10 = m_up μ8 34 19 N r9 → ((¬ (μ10 34 0 8) = 0) → K μ10) ∧ ((μ10 34 0 8 = 0) → (0 ≤ μ10 34 0 29 ∧ μ10 34 0 29 < 2) ∧ (0 ≤ μ10 34 0 29 ∧ μ10 34 0 29 < 2) ∧ ∀ μ11 : m_M, μ11 = m_up μ10 34 18 (μ10 34 0 29).toNat (w32 ((μ10 34 18 (μ10 34 0 29).toNat) + 1)) → K μ11))) := fun x hs μ4 r5 g => ⟨bd, fun μ6 e6 => g_must_ (W (by omega) e6 g) (L2 x hs μ6 (W (by omega) e6 g))⟩
    refine q_fresh g1 (fun r5 μ4 f4 o4 v4 => ?_)
    cases s1 : sName T L D (tEn T L e) with
    | inl x =>
      rw [s1] at o4
      exact L1 x (by simp only [sKiln, s1, sB_l]) μ4 r5 o4
    | inr y1 =>
      rw [s1] at o4
      have o4 : Mqs T L b μ0 y1.1 D CC μ4 := o4
      have v4 := v4 y1 s1
      refine ⟨bd, fun μ6 e6 => q_must_ (U (by omega) e6 o4) 4 (by decide) rfl (tok := 260) (by decide) (fun μ7 f7 o7 => ?_)⟩
      cases s2 : sExp T L 260 y1.1 with
      | inl x =>
        rw [s2] at o7
        exact L2 x (by simp only [sKiln, s1, s2, sB_r, sB_l]) μ7 o7
      | inr y2 =>
        rw [s2] at o7
        have o7 : Mqs T L b μ0 y2.1 D CC μ7 := o7
        refine q_number o7 (fun r9 μ8 f8 o8 v8 => ?_)
        cases s3 : sNum T L 1 6 y2.1 with
        | inl x =>
          rw [s3] at o8
          exact L3 x (by simp only [sKiln, s1, s2, s3, sB_r, sB_l]) μ8 r9 o8
        | inr y3 =>
          rw [s3] at o8
          have o8 : Mqs T L b μ0 y3.1 D CC μ8 := o8
          have v8 := v8 y3 s3
          have hs : sKiln T L D (tEn T L e) = .inr (y3.1, (y1.2, y3.2)) := by simp only [sKiln, s1, s2, s3, sB_r]
          refine ⟨bd, fun μ14 e14 => ?_⟩
          have o14 : Mqs T L b μ0 y3.1 D CC μ14 := U (by omega) e14 o8
          have n8 : μ14 34 0 8 = 0 := o14.2.1.1
          have n29 : μ14 34 0 29 = (b : Int) := o14.2.1.2.1
          have n18 : μ14 34 18 b = (D.2.1.length : Int) := o14.2.2.2.1.2.1.1
          rw [n29, Int.toNat_natCast, n18]
          refine ⟨fun z => absurd n8 z, fun _ => ⟨⟨by omega, by omega⟩, ⟨by omega, by omega⟩, fun μ15 e15 => kk μ15 ?_⟩⟩
          rw [w32_s (by omega)] at e15
          rw [hs]
          show Mqs T L b μ0 y3.1 (D.1, D.2.1 ++ [(y1.2, y3.2)], D.2.2) CC μ15
          have w28 : μ14 34 28 N = (nm256 y1.2 0 : Int) := by rw [e14, m_up_ne _ _ (by omega), f8 34 28 N (by omega), f7 34 28 N (by omega), e6, m_up_at]; exact v4.1
          have w19 : μ14 34 19 N = y3.2 := by rw [e14, m_up_at]; exact v8
          have f15 : ∀ x y z, ¬ (x = 34 ∧ y = 18 ∧ z = b) → μ15 x y z = μ14 x y z := fun x y z a => by rw [e15, m_up_ne _ _ a]
          obtain ⟨⟨a1, a2⟩, ⟨b1, b2⟩, ⟨c1, c2, c3⟩, dd⟩ := o14.2.2.2.1
          have hW := o14.2.2.2.2.1
          refine o14.tw (fun x y z a => f15 x y z (by omega)) ⟨⟨by rw [f15 34 15 b (by omega)]; exact a1, fun i x hx => ?_⟩, ⟨?_, fun i x hx => ?_⟩, ⟨by rw [f15 34 20 b (by omega)]; exact c1, by rw [f15 34 21 b (by omega)]; exact c2, by rw [f15 34 22 b (by omega)]; exact c3⟩, fun q hq => ?_⟩ ⟨hW.1, ⟨?_, fun x hx => ?_⟩⟩
          · rw [f15 34 27 _ (by omega), f15 34 16 _ (by omega), f15 34 17 _ (by omega)]; exact a2 i x hx
          · show μ15 34 18 b = (((D.2.1 ++ [_]).length : Nat) : Int)
            rw [e15, m_up_at, List.length_append]; rfl
          · have hx : (D.2.1 ++ [(y1.2, y3.2)])[i]? = some x := hx
            rw [f15 34 28 _ (by omega), f15 34 19 _ (by omega)]
            by_cases hi : i < D.2.1.length
            · rw [List.getElem?_append_left hi] at hx
              exact b2 i x hx
            · have hi2 : i = D.2.1.length := by
                have := gi_lt hx
                rw [List.length_append] at this
                simp at this
                omega
              subst hi2
              rw [List.getElem?_append_right (Nat.le_refl _), Nat.sub_self] at hx
              cases hx
              rw [← hN, w28, w19]
              exact ⟨rfl, rfl⟩
          · rw [f15 34 23 _ (by omega), f15 34 24 _ (by omega)]; exact dd q hq
          · show (D.2.1 ++ [_]).length ≤ 3
            rw [List.length_append]; show D.2.1.length + 1 ≤ 3; omega
          · rcases List.mem_append.1 hx with z | z
            · exact hW.2.2 x z
            · rw [List.mem_singleton.1 z]; exact v4.2
  · rw [if_pos (by omega)]; exact g1
theorem q_yard {d j : Nat} {μ : m_M} (h : Mqs T L b μ0 e D CC μ) (hj : j < 3) {hi : Int} {K : m_M → Prop} (kk : ∀ μ1, MO T L b μ0 μ1 (sB (sNum T L 0 hi (tEn T L e)) (fun e x => .inr (e, (dYard D j x, CC)))) → K μ1) : c_i G (d + 4) YX12_yarding [vR 34 0, vI hi] μ (fun r μ1 => (0 ≤ μ 34 0 29 ∧ μ 34 0 29 < 2) ∧ ∀ μ2 : m_M, μ2 = m_up μ1 34 (20 + j) (μ 34 0 29).toNat r → K μ2) := by
  have h29 : μ 34 0 29 = (b : Int) := h.2.1.2.1
  have hb : b ≤ 1 := h.2.1.2.2.1
  rw [h29, Int.toNat_natCast]
  refine EX12_yarding (q_counts0 h (fun μ1 f1 g1 => ⟨fun _ => q_number g1 (fun r μ2 f2 o2 v2 => ⟨⟨by omega, by omega⟩, fun μ3 e3 => kk μ3 ?_⟩), z1⟩))
  have f3 : ∀ x y z, ¬ (x = 34 ∧ y = 20 + j ∧ z = b) → μ3 x y z = μ2 x y z := fun x y z a => by rw [e3, m_up_ne _ _ a]
  cases s : sNum T L 0 hi (tEn T L e) with
  | inl x =>
    rw [s] at o2
    have o2 : Mg b μ0 x.1 x.2 μ2 := o2
    exact o2.wr (fun x y z a => f3 x y z (by omega)) (fun z _ => f3 34 0 z (by omega))
  | inr y =>
    rw [s] at o2
    have o2 : Mqs T L b μ0 y.1 D CC μ2 := o2
    have v2 := v2 y s
    show Mqs T L b μ0 y.1 (dYard D j y.2) CC μ3
    obtain ⟨⟨a1, a2⟩, ⟨b1, b2⟩, ⟨c1, c2, c3⟩, dd⟩ := o2.2.2.2.1
    have ev : μ3 34 (20 + j) b = y.2 := by rw [e3, m_up_at]; exact v2
    have hj' : j = 0 ∨ j = 1 ∨ j = 2 := by omega
    refine o2.tw (fun x y z a => f3 x y z (by omega)) ⟨⟨by rw [f3 34 15 b (by omega)]; exact a1, fun i x hx => ?_⟩, ⟨by rw [f3 34 18 b (by omega)]; exact b1, fun i x hx => ?_⟩, ?_, fun q hq => ?_⟩ o2.2.2.2.2.1
    · rw [f3 34 27 _ (by omega), f3 34 16 _ (by omega), f3 34 17 _ (by omega)]; exact a2 i x hx
    · rw [f3 34 28 _ (by omega), f3 34 19 _ (by omega)]; exact b2 i x hx
    · rcases hj' with z | z | z
      · subst z; exact ⟨ev, by rw [f3 34 21 b (by omega)]; exact c2, by rw [f3 34 22 b (by omega)]; exact c3⟩
      · subst z; exact ⟨by rw [f3 34 20 b (by omega)]; exact c1, ev, by rw [f3 34 22 b (by omega)]; exact c3⟩
      · subst z; exact ⟨by rw [f3 34 20 b (by omega)]; exact c1, by rw [f3 34 21 b (by omega)]; exact c2, ev⟩
    · rw [f3 34 23 _ (by omega), f3 34 24 _ (by omega)]; exact dd q hq
theorem q_reading {d q : Nat} {μ : m_M} (h : Mqs T L b μ0 e D CC μ) (hq : q < 4) {r : PR (m_D × List Int)} (h1 : D.2.2.2 q ≠ none → r = .inl (6, (tAt T L e : Int))) (h2 : D.2.2.2 q = none → FOK G T L b q (tEn T L e) D CC r) {K : m_M → Prop} (kk : ∀ μ1, MO T L b μ0 μ1 r → K μ1) : c_v G (d + 7) YX12_reading [vR 34 0, vI (q : Int)] μ K := by
  have h29 : μ 34 0 29 = (b : Int) := h.2.1.2.1
  have hb : b ≤ 1 := h.2.1.2.2.1
  refine EX12_reading (fun x1 e1 => ?_)
  rw [h29, ix4 hb (by omega)] at e1
  obtain ⟨N, hN⟩ : ∃ N, N = 4 * b + q := ⟨_, rfl⟩
  rw [← hN] at e1
  subst e1
  have bd : 0 ≤ (N : Int) ∧ (N : Int) < 8 := by omega
  have dq := h.2.2.2.1.2.2.2 q hq
  rw [← hN] at dq
  simp only [Int.toNat_natCast]
  refine ⟨bd, fun z => ?_, fun z => q_counts1 (d := d + 3) h (fun μ1 f1 g1 => ⟨z0, fun _ => kk μ1 ?_⟩)⟩
  · have hD : D.2.2.2 q = none := by
      cases hy : D.2.2.2 q with
      | none => rfl
      | some y => have := (dq.2 y hy).1; omega
    have hr := h2 hD
    refine q_counts0 (d := d + 3) h (fun μ1 f1 g1 => ⟨fun _ μ4 e4 => ⟨bd, fun μ5 e5 => ?_⟩, z1⟩)
    have f5 : ∀ x y z, ¬ (x = 34 ∧ y = 0 ∧ z = 30) → ¬ (x = 34 ∧ y = 23 ∧ z = N) → μ5 x y z = μ1 x y z := fun x y z a1 a2 => by rw [e5, m_up_ne _ _ a2, e4, m_up_ne _ _ a1]
    have v30 : μ5 34 0 30 = (q : Int) := by rw [e5, m_up_ne _ _ (by omega), e4, m_up_at]
    have c28 : μ1 34 0 28 = (CC.length : Int) := g1.2.2.1.1
    have v23 : μ5 34 23 N = (CC.length : Int) := by rw [e5, m_up_at, e4, m_up_ne _ _ (by omega)]; exact c28
    have t5 : ofT b μ1 μ5 := fun x y z a => f5 x y z (by omega) (by omega)
    have hMi : Mi T L b q (tEn T L e) CC μ5 := by
      obtain ⟨⟨hp, hB, hM, he⟩, ⟨h8, h29', _, h9⟩, hC, hP, hW, hl⟩ := g1
      refine ⟨⟨⟨by rw [f5 34 0 2 (by omega) (by omega)]; exact hB.1, fun i hi => by rw [f5 34 1 i (by omega) (by omega)]; exact hB.2.1 i hi, hB.2.2⟩, hM.cg (fun z _ _ _ _ => f5 34 0 z (by omega) (by omega)), he⟩, ⟨by rw [f5 34 0 8 (by omega) (by omega)]; exact h8, by rw [f5 34 0 29 (by omega) (by omega)]; exact h29', hb, v30, by rw [f5 34 0 9 (by omega) (by omega)]; exact h9⟩, hC.cg (f5 34 0 28 (by omega) (by omega)) (fun z => ⟨f5 34 25 z (by omega) (by omega), f5 34 26 z (by omega) (by omega)⟩), hl⟩
    have body : c_v G (d + 6) YX12_reads [vR 34 0, vI (if q = 1 ∨ q = 2 then 1 else 0)] μ5 (fun μ6 => (0 ≤ (N : Int) ∧ (N : Int) < 8) ∧ ∀ μ7 : m_M, μ7 = m_up μ6 34 24 N (μ6 34 0 28) → K μ7) := by
      cases r with
      | inl x =>
        have hr : RDF G T L b q (if q = 1 ∨ q = 2 then 1 else 0) (tEn T L e) CC x.1 x.2 := hr
        refine hr d _ μ5 hMi (fun μ6 m6 => ⟨bd, fun μ7 e7 => kk μ7 ?_⟩)
        obtain ⟨p6, a8, a9, ak⟩ := m6
        have f7 : ∀ x y z, ¬ (x = 34 ∧ y = 24 ∧ z = N) → μ7 x y z = μ6 x y z := fun x y z a => by rw [e7, m_up_ne _ _ a]
        refine ⟨((g1.1.1.tr t5).tr (ofT.P p6)).tr (fun x y z a => f7 x y z (by omega)), ⟨by rw [f7 34 0 8 (by omega)]; exact a8, ak, by rw [f7 34 0 9 (by omega)]; exact a9⟩, ?_, hb⟩
        rw [f7 34 0 29 (by omega), p6 34 0 29 (by omega), f5 34 0 29 (by omega) (by omega)]; exact g1.2.1.2.1
      | inr y =>
        obtain ⟨E, hy, hr⟩ : ∃ E, y.2 = (dForm D q CC.length E.length, CC ++ E) ∧ RDS G T L b q (if q = 1 ∨ q = 2 then 1 else 0) (tEn T L e) CC y.1 (CC ++ E) := hr
        refine hr d _ μ5 hMi (fun μ6 p6 m6 => ⟨bd, fun μ7 e7 => kk μ7 ?_⟩)
        obtain ⟨⟨hB, hM, he⟩, ⟨h8, h29', _, h30, h9⟩, hC, hl⟩ := m6
        have f7 : ∀ x y z, ¬ (x = 34 ∧ y = 24 ∧ z = N) → μ7 x y z = μ6 x y z := fun x y z a => by rw [e7, m_up_ne _ _ a]
        have g7 : ∀ y z, 15 ≤ y → y ≤ 28 → ¬ (y = 25 ∨ y = 26) → ¬ (y = 23 ∧ z = N) → ¬ (y = 24 ∧ z = N) → μ7 34 y z = μ1 34 y z := fun y z a1 a2 a3 a4 a5 => by rw [f7 34 y z (by omega), p6 34 y z (by omega), f5 34 y z (by omega) (by omega)]
        show Mqs T L b μ0 y.1 y.2.1 y.2.2 μ7
        rw [hy]
        show Mqs T L b μ0 y.1 (dForm D q CC.length E.length) (CC ++ E) μ7
        obtain ⟨⟨a1, a2⟩, ⟨b1, b2⟩, ⟨c1, c2, c3⟩, dd⟩ := g1.2.2.2.1
        refine ⟨⟨((g1.1.1.tr t5).tr (ofT.P p6)).tr (fun x y z a => f7 x y z (by omega)), ⟨by rw [f7 34 0 2 (by omega)]; exact hB.1, fun i hi => by rw [f7 34 1 i (by omega)]; exact hB.2.1 i hi, hB.2.2⟩, hM.cg (fun z _ _ _ _ => f7 34 0 z (by omega)), he⟩, ⟨by rw [f7 34 0 8 (by omega)]; exact h8, by rw [f7 34 0 29 (by omega)]; exact h29', hb, by rw [f7 34 0 9 (by omega)]; exact h9⟩, hC.cg (f7 34 0 28 (by omega)) (fun z => ⟨f7 34 25 z (by omega), f7 34 26 z (by omega)⟩), ⟨⟨?_, fun i x hx => ?_⟩, ⟨?_, fun i x hx => ?_⟩, ⟨?_, ?_, ?_⟩, fun j hj => ?_⟩, g1.2.2.2.2.1, hl⟩
        · rw [g7 15 b (by omega) (by omega) (by omega) (by omega) (by omega)]; exact a1
        · rw [g7 27 _ (by omega) (by omega) (by omega) (by omega) (by omega), g7 16 _ (by omega) (by omega) (by omega) (by omega) (by omega), g7 17 _ (by omega) (by omega) (by omega) (by omega) (by omega)]; exact a2 i x hx
        · rw [g7 18 b (by omega) (by omega) (by omega) (by omega) (by omega)]; exact b1
        · rw [g7 28 _ (by omega) (by omega) (by omega) (by omega) (by omega), g7 19 _ (by omega) (by omega) (by omega) (by omega) (by omega)]; exact b2 i x hx
        · rw [g7 20 b (by omega) (by omega) (by omega) (by omega) (by omega)]; exact c1
        · rw [g7 21 b (by omega) (by omega) (by omega) (by omega) (by omega)]; exact c2
        · rw [g7 22 b (by omega) (by omega) (by omega) (by omega) (by omega)]; exact c3
        · by_cases yj : j = q
          · subst yj
            have dj : (dForm D j CC.length E.length).2.2.2 j = some (CC.length, E.length) := if_pos rfl
            rw [dj, ← hN]
            refine ⟨(fun z => nomatch z), fun y hy => ?_⟩
            cases hy
            refine ⟨?_, ?_⟩
            · rw [f7 34 23 N (by omega), p6 34 23 N (by omega)]; exact v23
            · have v28 : μ6 34 0 28 = ((CC ++ E).length : Int) := hC.1
              rw [e7, m_up_at, v28, List.length_append]
          · have dj : (dForm D q CC.length E.length).2.2.2 j = D.2.2.2 j := if_neg yj
            rw [dj, g7 23 _ (by omega) (by omega) (by omega) (by omega) (by omega), g7 24 _ (by omega) (by omega) (by omega) (by omega) (by omega)]
            exact dd j hj
    refine ⟨fun z => ?_, fun z => ⟨fun z2 => ?_, fun z2 => ?_⟩⟩
    · rw [if_pos (by omega)] at body; exact body
    · rw [if_neg (by omega)] at body; exact body
    · rw [if_pos (by omega)] at body; exact body
  · rw [h1 (fun y => z (dq.1 y))]; exact g1
end RC
