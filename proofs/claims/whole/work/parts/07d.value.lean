theorem c_isFormula {G : m_G} {d : Nat} {μ : m_M} {x : Int} {K : Int → m_M → Prop} (h : K (if 261 ≤ x ∧ x ≤ 264 then 1 else 0) μ) : c_i G (d + 1) YX10_isFormula [vI x] μ K := by
  refine EX10_isFormula ⟨fun c => ?_, fun c => ⟨fun c2 => ?_, fun c2 => ?_⟩⟩
  · rw [if_neg (by omega)] at h; exact h
  · rw [if_neg (by omega)] at h; exact h
  · rw [if_pos (by omega)] at h; exact h
theorem f_q {q : Nat} (hq : q < 4) : w32 (261 + (q : Int) - 261) = (q : Int) := by rw [w32_le (by omega) (by omega)]; omega
theorem c_hasFormula {G : m_G} {d o q : Nat} (hc : m_cls o = 9) (hq : q < 4) {μ : m_M} {K : Int → m_M → Prop} (h : K (if μ o 14 q < μ o 15 q then 1 else 0) μ) : c_i G (d + 2) YX10_hasFormula [vR o 0, vI (261 + (q : Int))] μ K := by
  refine EX10_hasFormula hc (c_isFormula ?_)
  rw [if_pos (by omega), f_q hq, Int.toNat_natCast]
  refine ⟨fun c => absurd c (by decide), fun _ => ⟨⟨by omega, by omega⟩, ⟨by omega, by omega⟩, fun c => ?_, fun c => ?_⟩⟩
  · rw [if_neg (by omega)] at h; exact h
  · rw [if_pos (by omega)] at h; exact h
theorem cls_ne {a b x y : Nat} (ha : m_cls a = x) (hb : m_cls b = y) (h : x ≠ y) : a ≠ b := fun e => h (by rw [← ha, ← hb, e])
theorem p_opn_le {q : Nat} {op : Int} {ts ts' : List Bool} {st : List Int} (ht : t1 q op ts = some ts') (hs : stk ts st) (env : Int → Int) : ∃ b x r, p1 env op st = x :: r ∧ b + p_opn op = st.length ∧ r.length = b ∧ st.drop (p_opn op) = r := by
  have hlen := stk_len ts st hs
  by_cases h9 : 1000 ≤ op
  · exact ⟨st.length, op - 1000, st, p1_num env h9 st, by simp [p_opn, h9], rfl, by simp [p_opn, h9]⟩
  by_cases h279 : op = 279
  · subst h279
    exact ⟨st.length, 1, st, p1_279 env st, by rfl, rfl, rfl⟩
  by_cases h278 : op = 278
  · subst h278
    obtain ⟨r, hr, -⟩ := t1_278 ht
    subst hr
    match st, hs with
    | a :: r', _ => exact ⟨r'.length, _, r', p1_278 env a r', rfl, rfl, rfl⟩
  by_cases h275 : op = 275
  · subst h275
    obtain ⟨r, hr, -⟩ := t1_275 ht
    subst hr
    match st, hs with
    | c :: b :: a :: r', _ => exact ⟨r'.length, _, r', p1_275 env a b c r', rfl, rfl, rfl⟩
  by_cases hb : (p_ar op || p_cm op || p_lo op) = true
  · obtain ⟨r, hr⟩ := t1_two ht h9 ⟨h279, h278, h275⟩ hb
    subst hr
    have ho : p_opn op = 2 := by
      simp only [p_ar, p_cm, p_lo, Bool.or_eq_true, beq_iff_eq] at hb
      unfold p_opn
      rw [if_neg h9, if_neg h275, if_neg h278]
      split
      · rfl
      · rw [if_neg (by omega)]
    match st, hs, hlen with
    | b :: a :: r', _, _ => exact ⟨r'.length, _, r', p1_two env h9 ⟨h279, h278, h275⟩ hb a b r', by rw [ho]; rfl, rfl, by rw [ho]; rfl⟩
    | [], _, hlen => simp at hlen
    | [_], _, hlen => simp at hlen
  · have hb : (p_ar op || p_cm op || p_lo op) = false := by revert hb; cases (p_ar op || p_cm op || p_lo op) <;> simp
    have hf := p_fw_in (t1_fact ht h9 ⟨h279, h278, h275⟩ hb).1
    have ho : p_opn op = 0 := by
      unfold p_opn
      rw [if_neg h9, if_neg h275, if_neg h278, if_neg (by omega), if_pos (by omega)]
    exact ⟨st.length, _, st, p1_fact env h9 ⟨h279, h278, h275⟩ hb st, by rw [ho]; rfl, rfl, by rw [ho]; rfl⟩
theorem SA_drop {s : Nat → Int} : ∀ (n : Nat) (st : List Int), SA s st → SA s (st.drop n) := by
  intro n
  induction n with
  | zero => intro st h; exact h
  | succ n ih =>
    intro st h
    cases st with
    | nil => trivial
    | cons a r => exact ih r h.2
/-- object 5, the machine, may change as it likes -/
def off5 (μ μ1 : m_M) : Prop := ∀ a b c, a ≠ 5 → μ1 a b c = μ a b c
theorem off5.rf (μ : m_M) : off5 μ μ := fun _ _ _ _ => rfl
theorem off5.tr {μ μ1 μ2 : m_M} (h : off5 μ μ1) (h2 : off5 μ1 μ2) : off5 μ μ2 := fun a b c ha => (h2 a b c ha).trans (h a b c ha)
set_option maxRecDepth 20000 in
theorem c_valueOf {G : m_G} {d t q a n : Nat} (hc : m_cls t = 9) (hq : q < 4) {μ : m_M} (h14 : μ t 14 q = (a : Int)) (h15 : μ t 15 q = ((a + n : Nat) : Int)) (hn : a + n ≤ 1600) {ty : Bool} (hw : tcs q (codeL (μ t 12) a n) [] = some [ty]) (he : ∀ op, p_fw q op = true → -1000000 ≤ env5 μ op ∧ env5 μ op ≤ 1000000) {K : Int → m_M → Prop} (h : ∀ μ1, off5 μ μ1 → (∀ i, μ1 5 1 i = μ 5 1 i) → K (p_val (env5 μ) (codeL (μ t 12) a n)) μ1) : c_i G (d + 4) YX5_valueOf [vR 5 0, vR t 0, vI (261 + (q : Int))] μ K := by
  refine EX5_valueOf hc (fun X C R x0 e0 => ?_)
  rw [f_q hq] at e0
  subst e0
  have ht5 : t ≠ 5 := cls_ne hc (show m_cls 5 = 5 from rfl) (by decide)
  have L : ∀ (r i : Nat) (st : List Int) (ts : List Bool) (μ1 : m_M), i + r = a + n → (∀ x y z, ¬ (x = 5 ∧ y = 2) → μ1 x y z = μ x y z) → stk ts st → SA (μ1 5 2) st → st.length ≤ 61 → tcs q (codeL (μ t 12) i r) ts = some [ty] → p_ev (env5 μ) (codeL (μ t 12) i r) st = p_ev (env5 μ) (codeL (μ t 12) a n) [] →
      mW G X YX5_valueOf μ1 28 [some (vR 5 0), some (vR t 0), some (vI (261 + (q : Int))), some (vI (q : Int)), some (vI (st.length : Int)), some (vI (i : Int)), none, none, none, none] [] := by
    intro r
    induction r with
    | zero =>
      intro i st ts μ1 hi hm hs hA hl ht hp
      have hb : μ1 t 15 q = ((a + n : Nat) : Int) := (hm t 15 q (fun z => ht5 z.1)).trans h15
      refine VX5_valueOf_28 C R hc ⟨⟨by omega, by omega⟩, ?_⟩
      rw [Int.toNat_natCast, hb]
      refine ⟨fun _ => ?_, fun c => absurd (by omega) c⟩
      have ht : ts = [ty] := Option.some.inj ht
      subst ht
      match st, hs, hA, hp with
      | [v], _, hA, hp =>
        have hp : [v] = p_ev (env5 μ) (codeL (μ t 12) a n) [] := hp
        have e : p_val (env5 μ) (codeL (μ t 12) a n) = v := by unfold p_val; rw [← hp]; rfl
        have hv : μ1 5 2 0 = v := hA.1
        rw [hv, ← e]
        exact h μ1 (fun x y z hx => hm x y z (fun q => hx q.1)) (fun i => hm 5 1 i (fun q => by have := q.2; omega))
      | [], hs, _, _ => cases ty <;> exact hs.elim
      | _ :: _ :: _, hs, _, _ => exact ((stk_bd hs).2).elim
    | succ r ih =>
      intro i st ts μ1 hi hm hs hA hl ht hp
      have hop : μ1 t 12 i = μ t 12 i := hm t 12 i (fun z => ht5 z.1)
      have henv : env5 μ1 = env5 μ := by funext op; exact hm 5 1 _ (fun z => by have := z.2; omega)
      have ht : tcs q (μ t 12 i :: codeL (μ t 12) (i + 1) r) ts = some [ty] := ht
      have hp : p_ev (env5 μ) (μ t 12 i :: codeL (μ t 12) (i + 1) r) st = p_ev (env5 μ) (codeL (μ t 12) a n) [] := hp
      unfold tcs at ht
      split at ht
      · next ts' h1 =>
        split at ht
        · next hlen =>
          have hb : μ1 t 15 q = ((a + n : Nat) : Int) := (hm t 15 q (fun z => ht5 z.1)).trans h15
          refine VX5_valueOf_28 C R hc ⟨⟨by omega, by omega⟩, ?_⟩
          rw [Int.toNat_natCast, hb]
          refine ⟨fun c => absurd c (by omega), fun _ => ⟨⟨by omega, by omega⟩, fun x1 e1 => c_operandsOf ?_⟩⟩
          rw [Int.toNat_natCast, hop] at e1
          rw [← e1] at h1 hp
          obtain ⟨b, x, rr, k1, k2, k3, k4⟩ := p_opn_le h1 hs (env5 μ)
          intro x4 e4
          rw [w32_le (by omega) (by omega), show (st.length : Int) - (p_opn x1 : Int) = (b : Int) by omega] at e4
          subst e4
          have hs' := p1_ok he h1 hs
          rw [k1] at hs'
          have hl' := stk_len _ _ hs'
          simp only [List.length_cons] at hl'
          refine ⟨fun c => absurd c (by omega), fun _ => ⟨fun _ => ?_, fun c => absurd (by rw [w32_le (by omega) (by omega)]; omega) c⟩⟩
          refine c_resultOf h1 hs hA hl (by rw [henv]; exact he) k2 (fun v hv => ⟨⟨by omega, by omega⟩, fun μ8 e8 x9 e9 x10 e10 => ?_⟩)
          rw [henv, k1] at hv
          have hv1 : cl v = x := hv.1
          have hv2 := hv.2
          have ev : w32 (if (if v < 1000000 then v else 1000000) < (-1000000) then (-1000000) else (if v < 1000000 then v else 1000000)) = x := by
            rw [← hv1]
            unfold cl
            by_cases q1 : v < 1000000
            · rw [if_pos q1]
              by_cases q2 : v < -1000000
              · rw [if_pos q2, if_pos q2, w32_le (by omega) (by omega)]
              · rw [if_neg q2, if_neg q2, if_neg (by omega), w32_le (by omega) (by omega)]
            · rw [if_neg q1, if_neg (by omega), if_neg (by omega)]
              by_cases q3 : 1000000 < v
              · rw [if_pos q3, w32_le (by omega) (by omega)]
              · rw [if_neg q3, show v = 1000000 by omega, w32_le (by omega) (by omega)]
          rw [ev, Int.toNat_natCast] at e8
          rw [w32_s (by omega)] at e9 e10
          subst e9; subst e10
          have hlx : ((b + 1 : Nat) : Int) = ((x :: rr).length : Int) := by simp only [List.length_cons]; omega
          rw [hlx]
          refine ih (i + 1) (x :: rr) ts' μ8 (by omega) (fun x' y' z' hz => ?_) hs' ⟨?_, ?_⟩ (by simp only [List.length_cons]; omega) ht (by rw [← k1]; exact hp)
          · rw [e8, m_up_ne _ _ (fun z => hz ⟨z.1, z.2.1⟩)]; exact hm x' y' z' hz
          · rw [e8, k3, m_up_at]
          · refine SA_up rr (fun j hj => ?_) (by rw [← k4]; exact SA_drop _ _ hA)
            rw [e8, m_up_ne _ _ (fun z => by have := z.2.2; omega)]
        · cases ht
      · cases ht
  refine ⟨fun c => absurd c (by omega), fun _ => ⟨fun _ => ⟨⟨by omega, by omega⟩, fun x3 e3 => ?_⟩, fun c => absurd (by omega) c⟩⟩
  rw [Int.toNat_natCast, h14] at e3
  subst e3
  exact L n a [] [] μ rfl (fun _ _ _ _ => rfl) trivial trivial (by decide) hw rfl
