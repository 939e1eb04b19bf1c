theorem w_4b {b q : Nat} (hb : b ≤ 1) (hq : q < 4) : w32 (w32 (4 * (b : Int)) + (q : Int)) = ((4 * b + q : Nat) : Int) := by rw [w32_le (z := 4 * (b : Int)) (by omega) (by omega), w32_le (by omega) (by omega)]; omega
theorem w_16b {b a : Nat} (hb : b ≤ 1) (ha : a ≤ 1600) : w32 (w32 (1600 * (b : Int)) + (a : Int)) = ((1600 * b + a : Nat) : Int) := by rw [w32_le (z := 1600 * (b : Int)) (by omega) (by omega), w32_le (by omega) (by omega)]; omega
set_option maxRecDepth 20000 in
set_option maxHeartbeats 1000000 in
theorem c_reckons {G : m_G} {d b q a n : Nat} {μ : m_M} (hb : μ 34 0 13 = (b : Int)) (hb1 : b ≤ 1) (hq : q < 4) (h23 : μ 34 23 (4 * b + q) = (a : Int)) (h24 : μ 34 24 (4 * b + q) = ((a + n : Nat) : Int)) (hn : a + n ≤ 1600) (hv : ∀ k, 1600 * b + a ≤ k → k < 1600 * b + a + n → μ 34 25 k = 0 → 0 ≤ μ 34 26 k) {ty : Bool} (hw : tcs q (codeL (fun k => tk (μ 34 25 k) (μ 34 26 k)) (1600 * b + a) n) [] = some [ty]) (he : ∀ op, p_fw q op = true → -1000000 ≤ envM μ op ∧ envM μ op ≤ 1000000) {K : Int → m_M → Prop} (h : ∀ μ1, offM μ μ1 → (∀ i, μ1 34 57 i = μ 34 57 i) → K (p_val (envM μ) (codeL (fun k => tk (μ 34 25 k) (μ 34 26 k)) (1600 * b + a) n)) μ1) : c_l G (d + 3) YX12_reckons [vR 34 0, vI (q : Int)] μ K := by
  refine EX12_reckons (fun X C R => ?_)
  rw [hb, w_4b hb1 hq, Int.toNat_natCast, h23]
  refine ⟨⟨by omega, by omega⟩, fun x2 e2 => ?_⟩
  rw [w_16b hb1 (by omega)] at e2
  subst e2
  have L : ∀ (r i : Nat) (st : List Int) (ts : List Bool) (μ1 : m_M), i + r = 1600 * b + a + n → 1600 * b + a ≤ i → (∀ x y z, ¬ (x = 34 ∧ y = 56) → μ1 x y z = μ x y z) → stk ts st → SA (μ1 34 56) st → st.length ≤ 61 → tcs q (codeL (fun k => tk (μ 34 25 k) (μ 34 26 k)) i r) ts = some [ty] → p_ev (envM μ) (codeL (fun k => tk (μ 34 25 k) (μ 34 26 k)) i r) st = p_ev (envM μ) (codeL (fun k => tk (μ 34 25 k) (μ 34 26 k)) (1600 * b + a) n) [] →
      mW G X YX12_reckons μ1 25 [some (vR 34 0), some (vI (q : Int)), some (vI (st.length : Int)), some (vI (i : Int)), none] [] := by
    intro r
    induction r with
    | zero =>
      intro i st ts μ1 hi hi0 hm hs hA hl ht hp
      have m13 : μ1 34 0 13 = (b : Int) := by rw [hm 34 0 13 (by omega)]; exact hb
      have m24 : μ1 34 24 (4 * b + q) = ((a + n : Nat) : Int) := by rw [hm 34 24 _ (by omega)]; exact h24
      refine VX12_reckons_25 C R ?_
      rw [m13, w_4b hb1 hq, Int.toNat_natCast, m24, w_16b hb1 (by omega)]
      refine ⟨⟨by omega, by omega⟩, fun _ => ?_, fun c => absurd (by omega) c⟩
      have ht : ts = [ty] := Option.some.inj ht
      subst ht
      match st, hs, hA, hp with
      | [v], _, hA, hp =>
        have hp : [v] = p_ev (envM μ) (codeL (fun k => tk (μ 34 25 k) (μ 34 26 k)) (1600 * b + a) n) [] := hp
        have e : p_val (envM μ) (codeL (fun k => tk (μ 34 25 k) (μ 34 26 k)) (1600 * b + a) n) = v := by unfold p_val; rw [← hp]; rfl
        have hv0 : μ1 34 56 0 = v := hA.1
        rw [hv0, ← e]
        exact h μ1 (fun x y z hx => hm x y z (fun q => hx ⟨q.1, Or.inl q.2⟩)) (fun i => hm 34 57 i (by omega))
      | [], hs, _, _ => cases ty <;> exact hs.elim
      | _ :: _ :: _, hs, _, _ => exact ((stk_bd hs).2).elim
    | succ r ih =>
      intro i st ts μ1 hi hi0 hm hs hA hl ht hp
      have m13 : μ1 34 0 13 = (b : Int) := by rw [hm 34 0 13 (by omega)]; exact hb
      have m24 : μ1 34 24 (4 * b + q) = ((a + n : Nat) : Int) := by rw [hm 34 24 _ (by omega)]; exact h24
      have ht : tcs q (tk (μ 34 25 i) (μ 34 26 i) :: codeL (fun k => tk (μ 34 25 k) (μ 34 26 k)) (i + 1) r) ts = some [ty] := ht
      have hp : p_ev (envM μ) (codeL (fun k => tk (μ 34 25 k) (μ 34 26 k)) (i + 1) r) (p1 (envM μ) (tk (μ 34 25 i) (μ 34 26 i)) st) = p_ev (envM μ) (codeL (fun k => tk (μ 34 25 k) (μ 34 26 k)) (1600 * b + a) n) [] := hp
      have hop : μ1 34 25 i = μ 34 25 i := hm 34 25 i (by omega)
      have hov : μ1 34 26 i = μ 34 26 i := hm 34 26 i (by omega)
      unfold tcs at ht
      split at ht
      · next ts' h1 =>
        split at ht
        · next hlen =>
          have hcs := tk_cases (fun z => hv i hi0 (by omega) z) h1
          obtain ⟨bs, x, rr, k1, k2, k3, k4⟩ := p_opn_le h1 hs (envM μ)
          have hs' := p1_ok he h1 hs
          rw [k1] at hs' hp
          have hl' := stk_len _ _ hs'
          simp only [List.length_cons] at hl'
          have go : ∀ (p : Nat) (μ8 : m_M), p = rr.length → μ8 = m_up μ1 34 56 p x → mW G X YX12_reckons μ8 25 [some (vR 34 0), some (vI (q : Int)), some (vI ((rr.length + 1 : Nat) : Int)), some (vI ((i + 1 : Nat) : Int)), none] [] := by
            intro p μ8 ep e8
            subst ep
            refine ih (i + 1) (x :: rr) ts' μ8 (by omega) (by omega) (fun x' y' z' hz => ?_) hs' ⟨?_, ?_⟩ (by simp only [List.length_cons]; omega) ht hp
            · rw [e8, m_up_ne _ _ (fun z => hz ⟨z.1, z.2.1⟩)]; exact hm x' y' z' hz
            · rw [e8, m_up_at]
            · refine SA_up rr (fun j hj => ?_) (by rw [← k4]; exact SA_drop _ _ hA)
              rw [e8, m_up_ne _ _ (fun z => by have := z.2.2; omega)]
          refine VX12_reckons_25 C R ?_
          rw [m13, w_4b hb1 hq, Int.toNat_natCast, m24, w_16b hb1 (by omega)]
          refine ⟨⟨by omega, by omega⟩, fun c => absurd c (by omega), fun _ => ⟨⟨by omega, by omega⟩, fun x1 e1 => ?_⟩⟩
          rw [Int.toNat_natCast, hop] at e1
          rw [← e1] at hcs h1 k1 k2 k4
          have hlb : st.length + 1 ≤ 500 := by omega
          refine ⟨fun c1 => ⟨fun c2 => ⟨fun c3 => ?_, fun c3 => ?_⟩, fun c2 => ?_⟩, fun c1 => ⟨fun c2 => ⟨fun c3 => ?_, fun c3 => ?_⟩, fun c2 => ?_⟩⟩
          · -- two operands
            rcases hcs with k | ⟨j, k⟩ | k | k | k | k
            · exact absurd k.1 (by omega)
            · exact absurd k.1 (by omega)
            · exact absurd k.1 (by omega)
            · exact absurd k.1 c2
            · exact absurd k.1 c3
            · obtain ⟨j1, j2, hbn, hlt, n1, n2, n3⟩ := k
              have hopn : p_opn (tk x1 (μ 34 26 i)) = 2 := by
                have hb2 := hbn
                simp only [p_ar, p_cm, p_lo, Bool.or_eq_true, beq_iff_eq] at hb2
                unfold p_opn
                rw [if_neg (by omega), if_neg n3, if_neg n2]
                split
                · rfl
                · rw [if_neg (by omega)]
              rw [hopn] at k2
              have kk := r_two (envM μ) h1 hs hA (by omega) ⟨n1, n2, n3⟩ hbn k2
              have e0 : tk x1 (μ 34 26 i) = tk x1 0 := by unfold tk; rw [if_neg (by omega), if_neg (by omega)]
              rw [k1] at kk
              have hx : x = p2 (tk x1 (μ 34 26 i)) (μ1 34 56 bs) (μ1 34 56 (bs + 1)) := kk.1
              intro x2 e2
              rw [w32_le (by omega) (by omega), show (st.length : Int) + (-1) = ((bs + 1 : Nat) : Int) by omega] at e2
              subst e2
              have e3 : w32 (((bs + 1 : Nat) : Int) - 1) = (bs : Int) := by rw [w32_le (by omega) (by omega)]; omega
              rw [e3, Int.toNat_natCast, Int.toNat_natCast]
              refine ⟨⟨by omega, by omega⟩, ⟨by omega, by omega⟩, c_two ⟨j1, j2⟩ kk.2.1 kk.2.2.1 (fun hge => kk.2.2.2 ?_) ⟨⟨by omega, by omega⟩, fun μ5 e5 x6 e6 => ?_⟩⟩
              · rw [e0]
                rcases (show x1 = 41 ∨ x1 = 42 by omega) with e | e <;> rw [e] <;> rfl
              · rw [← e0, ← hx] at e5
                rw [w32_s (by omega)] at e6
                subst e6
                rw [show bs + 1 = rr.length + 1 by omega]
                exact go bs μ5 (by omega) e5
          · -- whether
            rcases hcs with k | ⟨j, k⟩ | k | k | k | k
            · exact absurd k.1 (by omega)
            · exact absurd k.1 (by omega)
            · exact absurd k.1 (by omega)
            · exact absurd k.1 (by omega)
            · rw [k.2] at h1 k1 k2
              obtain ⟨rs, hr, -⟩ := t1_275 h1
              subst hr
              rw [show p_opn 275 = 3 from rfl] at k2
              match st, hs, hA, k1, k2, hl with
              | y3 :: y2 :: y1 :: r', hs, hA, k1, k2, hl =>
                simp only [List.length_cons] at k2 hl ⊢
                rw [p1_275] at k1
                have hx : x = if y1 = 1 then y2 else y3 := (List.cons.inj k1).1.symm
                have hrr : rr = r' := (List.cons.inj k1).2.symm
                have a1 : μ1 34 56 bs = y1 := by rw [show bs = r'.length by omega]; exact hA.2.2.1
                have a2 : μ1 34 56 (bs + 1) = y2 := by rw [show bs = r'.length by omega]; exact hA.2.1
                have a3 : μ1 34 56 (bs + 2) = y3 := by rw [show bs = r'.length by omega]; exact hA.1
                intro x7 e7
                rw [w32_le (by omega) (by omega), show ((r'.length + 1 + 1 + 1 : Nat) : Int) + (-2) = ((bs + 1 : Nat) : Int) by omega] at e7
                subst e7
                have e3 : w32 (((bs + 1 : Nat) : Int) - 1) = (bs : Int) := by rw [w32_le (by omega) (by omega)]; omega
                have e4 : w32 (((bs + 1 : Nat) : Int) + 1) = ((bs + 2 : Nat) : Int) := by rw [w32_le (by omega) (by omega)]; omega
                rw [e3, e4]
                simp only [Int.toNat_natCast, l_cmp_eq, a1, a2, a3]
                refine ⟨⟨by omega, by omega⟩, fun c => ⟨⟨by omega, by omega⟩, ⟨by omega, by omega⟩, fun μ8 e8 x9 e9 => ?_⟩, fun c => ⟨⟨by omega, by omega⟩, ⟨by omega, by omega⟩, fun μ8 e8 x9 e9 => ?_⟩⟩
                · rw [w32_s (by omega)] at e9
                  subst e9
                  rw [if_neg c] at hx
                  rw [← hx] at e8
                  rw [show bs + 1 = rr.length + 1 by omega]
                  exact go bs μ8 (by omega) e8
                · rw [w32_s (by omega)] at e9
                  subst e9
                  rw [if_pos c] at hx
                  rw [← hx] at e8
                  rw [show bs + 1 = rr.length + 1 by omega]
                  exact go bs μ8 (by omega) e8
            · exact absurd k.2.1 (by omega)
          · -- not
            rcases hcs with k | ⟨j, k⟩ | k | k | k | k
            · exact absurd k.1 (by omega)
            · exact absurd k.1 (by omega)
            · exact absurd k.1 (by omega)
            · rw [k.2] at h1 k1 k2
              obtain ⟨rs, hr, -⟩ := t1_278 h1
              subst hr
              rw [show p_opn 278 = 1 from rfl] at k2
              match st, hs, hA, k1, k2, hl with
              | y1 :: r', hs, hA, k1, k2, hl =>
                simp only [List.length_cons] at k2 hl ⊢
                rw [p1_278] at k1
                have hx : x = 1 - y1 := (List.cons.inj k1).1.symm
                have hrr : rr = r' := (List.cons.inj k1).2.symm
                have a1 : μ1 34 56 bs = y1 := by rw [show bs = r'.length by omega]; exact hA.1
                have e3 : w32 (((r'.length + 1 : Nat) : Int) - 1) = (bs : Int) := by rw [w32_le (by omega) (by omega)]; omega
                have b1 := hs.1
                rw [e3, Int.toNat_natCast, a1, w64_le (by omega) (by omega), ← hx]
                refine ⟨⟨by omega, by omega⟩, ⟨by omega, by omega⟩, fun μ8 e8 x9 e9 => ?_⟩
                rw [w32_s (by omega)] at e9
                subst e9
                rw [← hrr]
                exact go bs μ8 (by omega) e8
            · exact absurd k.1 (by omega)
            · exact absurd k.2.1 (by omega)
          · -- a word
            rcases hcs with k | ⟨j, k⟩ | k | k | k | k
            · exact absurd k.1 c2
            · obtain ⟨hj, j1, j2, hu, hlt, hge, hlt2⟩ := k
              have hb0 : (p_ar (tk x1 (μ 34 26 i)) || p_cm (tk x1 (μ 34 26 i)) || p_lo (tk x1 (μ 34 26 i))) = false := by
                simp only [p_ar, p_cm, p_lo, Bool.or_eq_false_iff, beq_eq_false_iff_ne, ne_eq]
                omega
              rw [p1_fact (envM μ) (by omega) ⟨by omega, by omega, by omega⟩ hb0] at k1
              have hx : x = envM μ (tk x1 (μ 34 26 i)) := (List.cons.inj k1).1.symm
              have hrr : rr = st := (List.cons.inj k1).2.symm
              unfold envM at hx
              rw [hu] at hx
              refine ⟨⟨by omega, by omega⟩, ⟨by omega, by omega⟩, fun μ8 e8 x9 e9 x10 e10 => ?_⟩
              rw [Int.toNat_natCast, hj, Int.toNat_natCast, hm 34 57 j (by omega), ← hx] at e8
              rw [w32_s (by omega)] at e9 e10
              subst e9; subst e10
              rw [← hrr] at e8 ⊢
              exact go rr.length μ8 rfl e8
            · exact absurd k.1 c3
            · exact absurd k.1 (by omega)
            · exact absurd k.1 (by omega)
            · exact absurd k.1 (by omega)
          · -- all
            rcases hcs with k | ⟨j, k⟩ | k | k | k | k
            · exact absurd k.1 c2
            · exact absurd k.2.2.1 (by omega)
            · rw [k.2, p1_279] at k1
              have hx : x = 1 := (List.cons.inj k1).1.symm
              have hrr : rr = st := (List.cons.inj k1).2.symm
              refine ⟨⟨by omega, by omega⟩, fun μ8 e8 x9 e9 x10 e10 => ?_⟩
              rw [Int.toNat_natCast, ← hx] at e8
              rw [w32_s (by omega)] at e9 e10
              subst e9; subst e10
              rw [← hrr] at e8 ⊢
              exact go rr.length μ8 rfl e8
            · exact absurd k.1 (by omega)
            · exact absurd k.1 (by omega)
            · exact absurd k.1 (by omega)
          · -- a number
            rcases hcs with k | ⟨j, k⟩ | k | k | k | k
            · rw [p1_num (envM μ) (by omega)] at k1
              have hx : x = tk x1 (μ 34 26 i) - 1000 := (List.cons.inj k1).1.symm
              have hrr : rr = st := (List.cons.inj k1).2.symm
              have hx : x = μ 34 26 i := by omega
              refine ⟨⟨by omega, by omega⟩, ⟨by omega, by omega⟩, fun μ8 e8 x9 e9 x10 e10 => ?_⟩
              rw [Int.toNat_natCast, Int.toNat_natCast, hov, ← hx] at e8
              rw [w32_s (by omega)] at e9 e10
              subst e9; subst e10
              rw [← hrr] at e8 ⊢
              exact go rr.length μ8 rfl e8
            · exact absurd k.1 (by omega)
            · exact absurd k.1 (by omega)
            · exact absurd k.1 (by omega)
            · exact absurd k.1 (by omega)
            · exact absurd k.1 (by omega)
        · cases ht
      · cases ht
  exact L n (1600 * b + a) [] [] μ rfl (by omega) (fun _ _ _ _ => rfl) trivial trivial (by decide) hw rfl
