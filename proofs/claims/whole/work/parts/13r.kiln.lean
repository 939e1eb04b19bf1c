/-! ===== the class reads a kiln, a number of the yard, a formula, a statement's end ===== -/
section KI
variable {G : m_G} {T : Nat → Int} {L t b e : Nat} {D : m_D} {CC : List Int}
theorem sNum_in {lo hi : Int} {e : Nat} {y : Nat × Int} (h : sNum T L lo hi e = .inr y) : lo ≤ y.2 ∧ y.2 ≤ hi := by
  unfold sNum at h
  split at h
  · cases h
  · split at h
    · cases h
    · split at h
      · cases h
      · cases h; show lo ≤ tVal _ _ _ ∧ _; omega
theorem CX.h21 {μ : m_M} (h : CX T L t D CC e μ) : μ 2 0 1 = 100 * (t : Int) := by
  rcases h with ⟨_, o⟩ | ⟨_, o⟩
  · exact o.1.2.2.1
  · exact o.2.1.1
theorem x_kiln {d : Nat} {μ : m_M} (ht : t = 32 ∨ t = 33) (hN : NN t μ) (hd : D.2.1.length < 3) (h : CX T L t D CC e μ) {K : m_M → Prop} (kk : ∀ μ1, ofD t μ μ1 → μ1 t 0 10 = μ t 0 10 → CO T L t μ1 (sB (sKiln T L D e) (fun e x => .inr (e, ((D.1, D.2.1 ++ [x], D.2.2), CC)))) → K μ1) : c_v G (d + 5) YX6_readKiln [vR 2 0] μ K := by
  have fin : ∀ (μ1 : m_M) (x : Int × Int) (r2 r6 : Int), of3 μ μ1 → CF t x.1 x.2 μ1 → sKiln T L D e = .inl x → c_v G (d + 4) YX10_addKiln [vR t 0, vI r2, vI r6] μ1 K := fun μ1 x r2 r6 f1 g1 hs => by
    refine c_addKiln (d := d + 3) ht (hN.r3 ht f1) (fun μ2 n2 c2 f2 _ => kk μ2 ((ofD.r3 f1).tr (fun x y z a _ _ => f2 x y z (by omega))) (c2.trans (f1 t 0 10 (by omega))) ⟨n2, ?_⟩)
    rw [hs]
    exact g1.tw (fun x y z a => f2 x y z (by omega))
  refine EX6_readKiln (x_name h (fun r2 μ1 f1 o1 v1 => ?_))
  cases s1 : sName T L D e with
  | inl x =>
    rw [s1] at o1
    have o1 : CF t x.1 x.2 μ1 := o1
    have hs : sKiln T L D e = .inl x := by simp only [sKiln, s1, sB_l]
    exact f_expect (d := d + 2) o1 (by decide) (f_num o1 ⟨t, o1.2.1.1, cls9 ht, fin μ1 x _ _ f1 o1 hs⟩)
  | inr y1 =>
    rw [s1] at o1
    have o1 : CX T L t D CC y1.1 μ1 := o1
    have v1 := v1 y1 s1
    refine x_exp (by decide) o1 (fun μ2 f2 o2 => ?_)
    cases s2 : sExp T L 260 y1.1 with
    | inl x =>
      rw [s2] at o2
      have o2 : CF t x.1 x.2 μ2 := o2
      have hs : sKiln T L D e = .inl x := by simp only [sKiln, s1, s2, sB_r, sB_l]
      exact f_num o2 ⟨t, o2.2.1.1, cls9 ht, fin μ2 x _ _ (f1.tr f2) o2 hs⟩
    | inr y2 =>
      rw [s2] at o2
      have o2 : CX T L t D CC y2.1 μ2 := o2
      refine x_num o2 (fun r6 μ3 f3 o3 v3 => ?_)
      have f13 : of3 μ μ3 := f1.tr (f2.tr f3)
      cases s3 : sNum T L 1 6 y2.1 with
      | inl x =>
        rw [s3] at o3
        have o3 : CF t x.1 x.2 μ3 := o3
        have hs : sKiln T L D e = .inl x := by simp only [sKiln, s1, s2, s3, sB_r, sB_l]
        exact ⟨t, o3.2.1.1, cls9 ht, fin μ3 x _ _ f13 o3 hs⟩
      | inr y3 =>
        rw [s3] at o3
        have o3 : CX T L t D CC y3.1 μ3 := o3
        have v3 := v3 y3 s3
        have b3 := sNum_in s3
        have hs : sKiln T L D e = .inr (y3.1, (y1.2, y3.2)) := by simp only [sKiln, s1, s2, s3, sB_r]
        refine ⟨t, o3.h21, cls9 ht, c_addKiln (d := d + 3) ht (hN.r3 ht f13) (fun μ6 n6 c6 f6 w6 => kk μ6 ((ofD.r3 f13).tr (fun x y z a _ _ => f6 x y z (by omega))) (c6.trans (f13 t 0 10 (by omega))) ⟨n6, ?_⟩)⟩
        rw [hs]
        refine CX.tw (D := D) o3 f6 (fun hP hW => ?_)
        obtain ⟨p1, ⟨p2, p3⟩, p4, p5⟩ := hP
        obtain ⟨q1, q2, q3, q5⟩ := w6 D.2.1.length p2 hd
        refine ⟨⟨⟨?_, fun i x hx => ?_⟩, ⟨?_, fun i x hx => ?_⟩, ?_, fun q hq => ?_⟩, ⟨hW.1, ⟨?_, fun x hx => ?_⟩, hW.2.2⟩⟩
        · rw [q5 0 3 (by omega) (by omega)]; exact p1.1
        · rw [q5 1 i (by omega) (by omega), q5 2 i (by omega) (by omega), q5 3 i (by omega) (by omega)]; exact p1.2 i x hx
        · show μ6 t 0 6 = (((D.2.1 ++ [_]).length : Nat) : Int)
          rw [q1, List.length_append]; rfl
        · have hx : (D.2.1 ++ [(y1.2, y3.2)])[i]? = some x := hx
          by_cases hi : i < D.2.1.length
          · rw [List.getElem?_append_left hi] at hx
            rw [q5 5 i (by omega) (by omega), q5 6 i (by omega) (by omega)]
            exact p3 i x hx
          · have hi2 : i = D.2.1.length := by
              have := (List.getElem?_eq_some_iff.1 hx).1
              rw [List.length_append] at this
              simp at this
              omega
            subst hi2
            rw [List.getElem?_append_right (Nat.le_refl _), Nat.sub_self] at hx
            cases hx
            rw [q2, q3]
            exact ⟨v1.1, v3⟩
        · rw [q5 0 7 (by omega) (by omega), q5 0 8 (by omega) (by omega), q5 0 9 (by omega) (by omega)]; exact p4
        · rw [q5 14 q (by omega) (by omega), q5 15 q (by omega) (by omega)]; exact p5 q hq
        · show (D.2.1 ++ [_]).length ≤ 3
          rw [List.length_append]; show D.2.1.length + 1 ≤ 3; omega
        · rcases List.mem_append.1 hx with z | z
          · exact hW.2.1.2 x z
          · rw [List.mem_singleton.1 z]; exact ⟨v1.2, b3⟩
/-- the yard's three numbers -/
def dYard (D : m_D) (j : Nat) (v : Int) : m_D := (D.1, D.2.1, (if j = 0 then v else D.2.2.1.1, if j = 1 then v else D.2.2.1.2.1, if j = 2 then v else D.2.2.1.2.2), D.2.2.2)
theorem x_yard {d : Nat} {μ : m_M} {j : Nat} {hi : Int} (ht : t = 32 ∨ t = 33) (hj : j < 3) (hhi : hi = if j = 2 then 100 else 999) (hN : NN t μ) (h : CX T L t D CC e μ) {K : m_M → Prop} (kk : ∀ μ1, ofD t μ μ1 → μ1 t 0 10 = μ t 0 10 → CO T L t μ1 (sB (sNum T L 0 hi e) (fun e x => .inr (e, (dYard D j x, CC)))) → K μ1) : c_i G (d + 4) YX6_number [vR 2 0, vI 0, vI hi] μ (fun r16 μ15 => ∀ μ17 : m_M, μ17 = m_up μ15 t 0 (7 + j) r16 → K μ17) := by
  refine x_num h (fun r μ1 f1 o1 v1 μ2 e2 => ?_)
  have f2 : ∀ x y z, ¬ (x = t ∧ y = 0 ∧ z = 7 + j) → μ2 x y z = μ1 x y z := fun x y z q => by rw [e2, m_up_ne _ _ (by omega)]
  have n2 : NN t μ2 := by rw [e2]; exact (hN.r3 ht f1).up (fun _ z => by omega)
  have fD : ofD t μ μ2 := (ofD.r3 f1).tr (fun x y z a _ _ => f2 x y z (by omega))
  have c2 : μ2 t 0 10 = μ t 0 10 := by rw [f2 t 0 10 (by omega)]; exact f1 t 0 10 (by omega)
  cases s1 : sNum T L 0 hi e with
  | inl x =>
    rw [s1] at o1 kk
    have o1 : CF t x.1 x.2 μ1 := o1
    exact kk μ2 fD c2 ⟨n2, o1.tw (fun x y z a => f2 x y z (by omega))⟩
  | inr y =>
    have v1 := v1 y s1
    have b1 := sNum_in s1
    rw [s1] at o1 kk
    have o1 : CX T L t D CC y.1 μ1 := o1
    refine kk μ2 fD c2 ⟨n2, ?_⟩
    show CX T L t (dYard D j y.2) CC y.1 μ2
    refine CX.tw (D := D) o1 (fun x y z a => f2 x y z (by omega)) (fun hP hW => ?_)
    have ev : μ2 t 0 (7 + j) = y.2 := by rw [e2, m_up_at, v1]
    obtain ⟨p1, p2, ⟨p3, p4, p5⟩, p6⟩ := hP
    obtain ⟨w1, w2, ⟨w3, w4, w5⟩, w6⟩ := hW
    have hj' : j = 0 ∨ j = 1 ∨ j = 2 := by omega
    refine ⟨⟨⟨?_, fun i x hx => ?_⟩, ⟨?_, fun i x hx => ?_⟩, ?_, fun q hq => ?_⟩, w1, w2, ?_, w6⟩
    · rw [f2 t 0 3 (by omega)]; exact p1.1
    · rw [f2 t 1 i (by omega), f2 t 2 i (by omega), f2 t 3 i (by omega)]; exact p1.2 i x hx
    · rw [f2 t 0 6 (by omega)]; exact p2.1
    · rw [f2 t 5 i (by omega), f2 t 6 i (by omega)]; exact p2.2 i x hx
    · rcases hj' with z | z | z
      · subst z; exact ⟨ev, by rw [f2 t 0 8 (by omega)]; exact p4, by rw [f2 t 0 9 (by omega)]; exact p5⟩
      · subst z; exact ⟨by rw [f2 t 0 7 (by omega)]; exact p3, ev, by rw [f2 t 0 9 (by omega)]; exact p5⟩
      · subst z; exact ⟨by rw [f2 t 0 7 (by omega)]; exact p3, by rw [f2 t 0 8 (by omega)]; exact p4, ev⟩
    · rw [f2 t 14 q (by omega), f2 t 15 q (by omega)]; exact p6 q hq
    · rcases hj' with z | z | z
      · subst z; subst hhi; exact ⟨b1, w4, w5⟩
      · subst z; subst hhi; exact ⟨w3, b1, w5⟩
      · subst z; subst hhi; exact ⟨w3, w4, b1⟩
/-- the end of the n-th statement -/
def sEnd (T : Nat → Int) (L : Nat) (n : Nat) (e : Nat) : PR Unit := if tLf T L e ≠ -1 then .inl (1, tLf T L e) else if tTk T L e ≠ 59 then .inl (1, (tAt T L e : Int)) else if n = 80 ∧ tAt T L (tEn T L e) < L then .inl (6, (tAt T L (tEn T L e) : Int)) else .inr (tEn T L e, ())
theorem x_end {d n : Nat} {μ : m_M} (ht : t = 32 ∨ t = 33) (hN : NN t μ) (hn : n < 80) (h10 : μ t 0 10 = (n : Int)) (h : CX T L t D CC e μ) {K : m_M → Prop} (kk : ∀ μ1, ofD t μ μ1 → (∀ y, sEnd T L (n + 1) e = .inr y → μ1 t 0 10 = ((n + 1 : Nat) : Int)) → CO T L t μ1 (sB (sEnd T L (n + 1) e) (fun e _ => .inr (e, (D, CC)))) → K μ1) : c_v G (d + 5) YX6_endStatement [vR 2 0] μ K := by
  refine EX6_endStatement ?_
  rcases h with ⟨hf, h⟩ | ⟨hf, h⟩
  · have hT := h.2.2.2.2.2
    have nb : ¬ tLf T L e ≠ -1 := fun y => y hf
    rw [hT.2.2.1, hT.2.1]
    refine ⟨fun z => ⟨t, h.1.2.2.1, cls9 ht, fun μ1 e1 => ?_⟩, fun z => u_fail h (by decide) (fun μ1 f1 g1 => ?_)⟩
    · have n2 : ¬ tTk T L e ≠ 59 := fun y => y z
      rw [h10, w32_s (by omega)] at e1
      have f1 : ∀ x y z, ¬ (x = t ∧ y = 0 ∧ z = 10) → μ1 x y z = μ x y z := fun x y z q => by rw [e1, m_up_ne _ _ (by omega)]
      have v1 : μ1 t 0 10 = ((n + 1 : Nat) : Int) := by rw [e1, m_up_at]
      have n1 : NN t μ1 := by rw [e1]; exact hN.up (fun _ z => by omega)
      have fD : ofD t μ μ1 := fun x y z a _ _ => f1 x y z (by omega)
      have h1 : CU T L t D CC e μ1 := by
        have := CX.tw (D := D) (D1 := D) (Or.inl ⟨hf, h⟩) (fun x y z a => f1 x y z (by omega)) (fun hP hW => ⟨hP.cg (fun y z _ _ q => f1 t y z (by omega)), hW⟩)
        rcases this with ⟨_, o⟩ | ⟨o, _⟩
        · exact o
        · exact absurd hf o
      have ne := nend (T := T) h.2.2.2.1 (by omega)
      have go : ¬ (n + 1 = 80 ∧ tAt T L (tEn T L e) < L) → c_v G (d + 4) YX7_next [vR 3 0] μ1 (fun μ4 => K μ4) := fun y => by
        have sn : sEnd T L (n + 1) e = .inr (tEn T L e, ()) := by unfold sEnd; rw [if_neg nb, if_neg n2, if_neg y]
        refine u_next h1 (by omega) (fun μ2 f2 g2 => kk μ2 (fD.tr (ofD.r3 f2)) (fun _ _ => by rw [f2 t 0 10 (by omega)]; exact v1) ⟨n1.r3 ht f2, ?_⟩)
        rw [sn]; exact g2
      refine ⟨t, h1.1.2.2.1, cls9 ht, ?_⟩
      rw [v1]
      refine ⟨fun y => go (by omega), fun y => ?_⟩
      have h3 : μ1 3 0 3 = (tEn T L e : Int) := by
        rw [h1.2.2.2.2.2.2.2.2.1, if_neg]
        intro w
        rw [tk_end w] at z; omega
      have hl : μ1 3 0 2 = (L : Int) := h1.1.1.1.2
      refine EX7_isAtEnd (c_upc (d := d + 1) h1.1.1 ne.2 h3 ?_)
      rw [hl]
      refine ⟨fun w => ⟨z0, fun _ => c_upc (d := d + 2) h1.1.1 ne.2 h3 (u_fail h1 (by decide) (fun μ2 f2 g2 => c_next2 (by rw [g2.2.2.1]; decide) ?_))⟩, fun w => ⟨fun _ => go (by omega), z1⟩⟩
      have sn : sEnd T L (n + 1) e = .inl (6, (tAt T L (tEn T L e) : Int)) := by unfold sEnd; rw [if_neg nb, if_neg n2, if_pos (by omega)]
      refine kk μ2 (fD.tr (ofD.r3 f2)) (fun y hy => by rw [sn] at hy; cases hy) ⟨n1.r3 ht f2, ?_⟩
      rw [sn]; exact g2
    · have sn : sEnd T L (n + 1) e = .inl (1, (tAt T L e : Int)) := by unfold sEnd; rw [if_neg nb, if_pos z]
      refine kk μ1 (ofD.r3 f1) (fun y hy => by rw [sn] at hy; cases hy) ⟨hN.r3 ht f1, ?_⟩
      rw [sn]; exact g1
  · rw [h.2.2.2.2.2]
    have sn : sEnd T L (n + 1) e = .inl (1, tLf T L e) := by unfold sEnd; rw [if_pos hf]
    refine ⟨fun z => absurd z (by decide), fun _ => c_fail2 (by rw [h.2.2.1]; exact h.2.2.2.1) h.2.2.2.2.2 (kk μ (ofD.rf t μ) (fun y hy => by rw [sn] at hy; cases hy) ⟨hN, ?_⟩)⟩
    rw [sn]; exact h
theorem f_end {d : Nat} {μ : m_M} {k p : Int} (h : CF t k p μ) {K : m_M → Prop} (kk : K μ) : c_v G (d + 5) YX6_endStatement [vR 2 0] μ K := by
  refine EX6_endStatement ?_
  rw [h.2.2.2.2.2]
  exact ⟨fun z => absurd z (by decide), fun _ => c_fail2 (by rw [h.2.2.1]; exact h.2.2.2.1) h.2.2.2.2.2 kk⟩
end KI
