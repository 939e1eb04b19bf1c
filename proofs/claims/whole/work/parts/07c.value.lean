/-! ===== the class works out a row of codes ===== -/
def p_opn (op : Int) : Nat := if 1000 ≤ op then 0 else if op = 275 then 3 else if op = 278 then 1 else if op = 276 ∨ op = 277 ∨ op = 280 ∨ op = 281 then 2 else if 256 ≤ op then 0 else 2
theorem c_operandsOf {G : m_G} {d : Nat} {μ : m_M} {op : Int} {K : Int → m_M → Prop} (h : K (p_opn op : Int) μ) : c_i G (d + 1) YX5_operandsOf [vI op] μ K := by
  unfold p_opn at h
  refine EX5_operandsOf ⟨fun c => ?_, fun c => ?_⟩
  · rw [if_neg (by omega)] at h
    refine ⟨fun e => ?_, fun e => ?_, fun e => ?_, fun e => ?_, fun e => ?_, fun e => ?_, fun e => ⟨fun e2 => ?_, fun e2 => ?_⟩⟩
    · subst e; exact h
    · subst e; exact h
    · subst e; exact h
    · subst e; exact h
    · subst e; exact h
    · subst e; exact h
    · rw [if_neg (by omega), if_neg (by omega), if_neg (by omega), if_pos e2] at h; exact h
    · rw [if_neg (by omega), if_neg (by omega), if_neg (by omega), if_neg e2] at h; exact h
  · rw [if_pos (by omega)] at h; exact h
theorem p_fw_in {q : Nat} {op : Int} (h : p_fw q op = true) : op = 268 ∨ op = 269 ∨ op = 257 ∨ op = 258 ∨ op = 270 ∨ op = 271 ∨ op = 272 ∨ op = 273 ∨ op = 260 ∨ op = 274 := by
  simp only [p_fw, Bool.or_eq_true, Bool.and_eq_true, beq_iff_eq] at h
  omega
def env5 (μ : m_M) : Int → Int := fun op => μ 5 1 (op - 256).toNat
theorem t1_two {q : Nat} {op : Int} {ts ts' : List Bool} (h : t1 q op ts = some ts') (h0 : ¬ 1000 ≤ op) (hn : ¬ op = 279 ∧ ¬ op = 278 ∧ ¬ op = 275) (hb : (p_ar op || p_cm op || p_lo op) = true) : ∃ r, ts = p_lo op :: p_lo op :: r := by
  unfold t1 at h
  rw [if_neg h0, if_neg hn.1, if_neg hn.2.1, if_neg hn.2.2] at h
  by_cases ha : p_ar op = true
  · rw [if_pos ha] at h
    have hl : p_lo op = false := by
      simp only [p_ar, Bool.or_eq_true, beq_iff_eq] at ha
      rcases ha with (((((e | e) | e) | e) | e) | e) | e <;> subst e <;> rfl
    rw [hl]
    match ts, h with
    | false :: false :: r, _ => exact ⟨r, rfl⟩
  · rw [if_neg ha] at h
    by_cases hc : p_cm op = true
    · rw [if_pos hc] at h
      have hl : p_lo op = false := by
        simp only [p_cm, Bool.or_eq_true, beq_iff_eq] at hc
        rcases hc with (e | e) | e <;> subst e <;> rfl
      rw [hl]
      match ts, h with
      | false :: false :: r, _ => exact ⟨r, rfl⟩
    · rw [if_neg hc] at h
      have hl : p_lo op = true := by
        simp only [Bool.or_eq_true] at hb
        rcases hb with (hb | hb) | hb
        · exact absurd hb ha
        · exact absurd hb hc
        · exact hb
      rw [if_pos hl] at h
      rw [hl]
      match ts, h with
      | true :: true :: r, _ => exact ⟨r, rfl⟩
theorem mul_bd {a b : Int} (ha : -1000000 ≤ a ∧ a ≤ 1000000) (hb : -1000000 ≤ b ∧ b ≤ 1000000) : -1000000000000 ≤ a * b ∧ a * b ≤ 1000000000000 := by
  have h1 : (a * b).natAbs ≤ 1000000 * 1000000 := by rw [Int.natAbs_mul]; exact Nat.mul_le_mul (by omega) (by omega)
  omega
theorem p2_43 (a b : Int) : p2 43 a b = cl (a + b) := by simp [p2]
theorem p2_45 (a b : Int) : p2 45 a b = cl (a - b) := by simp [p2]
theorem p2_42 (a b : Int) : p2 42 a b = cl (a * b) := by simp [p2]
theorem p2_47 (a b : Int) : p2 47 a b = cl (p_div a b) := by simp [p2]
theorem p2_37 (a b : Int) : p2 37 a b = cl (p_mod a b) := by simp [p2]
theorem p2_60 (a b : Int) : p2 60 a b = if a < b then 1 else 0 := by simp [p2]
theorem p2_62 (a b : Int) : p2 62 a b = if b < a then 1 else 0 := by simp [p2]
theorem p2_61 (a b : Int) : p2 61 a b = if a = b then 1 else 0 := by simp [p2]
theorem p2_276 (a b : Int) : p2 276 a b = if a = 1 ∨ b = 1 then 1 else 0 := by simp [p2]
theorem p2_277 (a b : Int) : p2 277 a b = if a = 1 ∧ b = 1 then 1 else 0 := by simp [p2]
theorem p2_280 (a b : Int) : p2 280 a b = if b < a then b else a := by simp [p2]
theorem p2_281 (a b : Int) : p2 281 a b = if a < b then b else a := by simp [p2]
theorem p1_275 (env : Int → Int) (a b c : Int) (r : List Int) : p1 env 275 (c :: b :: a :: r) = (if a = 1 then b else c) :: r := by simp [p1]
theorem p1_278 (env : Int → Int) (a : Int) (r : List Int) : p1 env 278 (a :: r) = (1 - a) :: r := by simp [p1]
theorem p1_279 (env : Int → Int) (r : List Int) : p1 env 279 r = 1 :: r := by simp [p1]
theorem p1_num (env : Int → Int) {op : Int} (h : 1000 ≤ op) (r : List Int) : p1 env op r = (op - 1000) :: r := by unfold p1; rw [if_pos h]
theorem p1_two (env : Int → Int) {op : Int} (h0 : ¬ 1000 ≤ op) (hn : ¬ op = 279 ∧ ¬ op = 278 ∧ ¬ op = 275) (hb : (p_ar op || p_cm op || p_lo op) = true) (a b : Int) (r : List Int) : p1 env op (b :: a :: r) = p2 op a b :: r := by
  unfold p1
  rw [if_neg h0, if_neg hn.1, if_neg hn.2.1, if_neg hn.2.2, if_pos hb]
theorem p1_fact (env : Int → Int) {op : Int} (h0 : ¬ 1000 ≤ op) (hn : ¬ op = 279 ∧ ¬ op = 278 ∧ ¬ op = 275) (hb : (p_ar op || p_cm op || p_lo op) = false) (r : List Int) : p1 env op r = env op :: r := by
  unfold p1
  rw [if_neg h0, if_neg hn.1, if_neg hn.2.1, if_neg hn.2.2, if_neg (by rw [hb]; decide)]
theorem t1_fact {q : Nat} {op : Int} {ts ts' : List Bool} (h : t1 q op ts = some ts') (h0 : ¬ 1000 ≤ op) (hn : ¬ op = 279 ∧ ¬ op = 278 ∧ ¬ op = 275) (hb : (p_ar op || p_cm op || p_lo op) = false) : p_fw q op = true ∧ ts' = false :: ts := by
  unfold t1 at h
  simp only [Bool.or_eq_false_iff] at hb
  rw [if_neg h0, if_neg hn.1, if_neg hn.2.1, if_neg hn.2.2, if_neg (by simp [hb.1.1]), if_neg (by simp [hb.1.2]), if_neg (by simp [hb.2])] at h
  split at h
  · next hf => cases h; exact ⟨hf, rfl⟩
  · cases h
theorem t1_275 {q : Nat} {ts ts' : List Bool} (h : t1 q 275 ts = some ts') : ∃ r, ts = false :: false :: true :: r ∧ ts' = false :: r := by
  simp only [t1] at h
  match ts, h with
  | false :: false :: true :: r, h => exact ⟨r, rfl, by simp at h; exact h.symm⟩
  | [], h => simp at h
  | [_], h => simp at h
  | [_, _], h => simp at h
  | true :: _ :: _ :: _, h => simp at h
  | false :: true :: _ :: _, h => simp at h
  | false :: false :: false :: _, h => simp at h
theorem t1_278 {q : Nat} {ts ts' : List Bool} (h : t1 q 278 ts = some ts') : ∃ r, ts = true :: r ∧ ts' = true :: r := by
  simp only [t1] at h
  match ts, h with
  | true :: r, h => exact ⟨r, rfl, by simp at h; exact h.symm⟩
  | [], h => simp at h
  | false :: _, h => simp at h
/-- the two operands of a code that has two, where they lie -/
theorem r_two {q : Nat} {op : Int} {ts ts' : List Bool} {st : List Int} {s : Nat → Int} {b : Nat} (env : Int → Int) (ht : t1 q op ts = some ts') (hs : stk ts st) (hA : SA s st) (h0 : ¬ 1000 ≤ op) (hn : ¬ op = 279 ∧ ¬ op = 278 ∧ ¬ op = 275) (hb : (p_ar op || p_cm op || p_lo op) = true) (hbs : b + 2 = st.length) :
    (p1 env op st).headD 0 = p2 op (s b) (s (b + 1)) ∧ (-1000000 ≤ s b ∧ s b ≤ 1000000) ∧ (-1000000 ≤ s (b + 1) ∧ s (b + 1) ≤ 1000000) ∧ (p_lo op = true → (s b = 0 ∨ s b = 1) ∧ (s (b + 1) = 0 ∨ s (b + 1) = 1)) := by
  obtain ⟨r, hr⟩ := t1_two ht h0 hn hb
  subst hr
  match st, hs, hA, hbs with
  | y2 :: y1 :: r', hs, hA, hbs =>
    simp only [List.length_cons] at hbs
    have eb : b = r'.length := by omega
    subst eb
    have k1 : s r'.length = y1 := hA.2.1
    have k2 : s (r'.length + 1) = y2 := hA.1
    have s2 := stk_bd hs
    have s1 := stk_bd s2.2
    refine ⟨by rw [p1_two env h0 hn hb, k1, k2]; rfl, by rw [k1]; exact s1.1, by rw [k2]; exact s2.1, fun hlo => ?_⟩
    rw [hlo] at hs
    rw [k1, k2]
    exact ⟨hs.2.1, hs.1⟩
  | [], hs, _, hbs => simp at hbs
  | [y], hs, _, hbs => simp at hbs
def rr_ok (r v : Int) : Prop := cl r = v ∧ -1000000000000 ≤ r ∧ r ≤ 1000000000000
theorem rr_id {r : Int} (h : -1000000 ≤ r ∧ r ≤ 1000000) : rr_ok r r := ⟨cl_id h, by omega, by omega⟩
theorem p_div_bd {a b : Int} (ha : -1000000 ≤ a ∧ a ≤ 1000000) : -1000001 ≤ p_div a b ∧ p_div a b ≤ 1000000 := by
  have := tdiv_bd (b := b) ha
  unfold p_div
  split
  · omega
  · split <;> omega
theorem p_mod_bd {a b : Int} (ha : -1000000 ≤ a ∧ a ≤ 1000000) (hb : -1000000 ≤ b ∧ b ≤ 1000000) : -2000000 ≤ p_mod a b ∧ p_mod a b ≤ 2000000 := by
  unfold p_mod p_div
  by_cases c : b = 0
  · rw [if_pos c]; omega
  · rw [if_neg c, if_neg c]
    have hd : a - b * a.tdiv b = a.tmod b := (Int.tmod_def a b).symm
    have hd1 : a - b * (a.tdiv b - 1) = a.tmod b + b := by rw [← hd, Int.mul_sub]; omega
    have := tmod_bd (b := b) ha
    split
    · rw [hd1]; omega
    · rw [hd]; omega
set_option maxRecDepth 20000 in
theorem c_resultOf {G : m_G} {d q : Nat} {μ : m_M} {op : Int} {ts ts' : List Bool} {st : List Int} (ht : t1 q op ts = some ts') (hs : stk ts st) (hA : SA (μ 5 2) st) (hl : st.length ≤ 61) (he : ∀ op, p_fw q op = true → -1000000 ≤ env5 μ op ∧ env5 μ op ≤ 1000000) {b : Nat} (hbs : b + p_opn op = st.length) {K : Int → m_M → Prop} (h : ∀ r, rr_ok r ((p1 (env5 μ) op st).headD 0) → K r μ) : c_l G (d + 2) YX5_resultOf [vR 5 0, vI op, vI (b : Int)] μ K := by
  refine EX5_resultOf ⟨fun c => ?_, fun c => ?_⟩
  · refine ⟨⟨by omega, by omega⟩, fun x1 e1 => ?_⟩
    rw [w32_s (by omega)]
    refine ⟨⟨by omega, by omega⟩, fun x2 e2 x3 e3 => ?_⟩
    rw [Int.toNat_natCast] at e1 e2
    have h0 : ¬ 1000 ≤ op := by omega
    clear c
    have two : ∀ (hb : (p_ar op || p_cm op || p_lo op) = true) (hn : ¬ op = 279 ∧ ¬ op = 278 ∧ ¬ op = 275) (ho : p_opn op = 2), (∀ r, rr_ok r (p2 op x1 x2) → K r μ) ∧ (-1000000 ≤ x1 ∧ x1 ≤ 1000000) ∧ (-1000000 ≤ x2 ∧ x2 ≤ 1000000) ∧ (p_lo op = true → (x1 = 0 ∨ x1 = 1) ∧ (x2 = 0 ∨ x2 = 1)) := fun hb hn ho => by
      rw [ho] at hbs
      have k := r_two (env5 μ) ht hs hA h0 hn hb hbs
      rw [← e1, ← e2] at k
      refine ⟨fun r hr => h r (by rw [k.1]; exact hr), k.2⟩
    refine ⟨fun e => ?_, fun e => ?_, fun e => ?_, fun e => ?_, fun e => ?_, fun e => ?_, fun e => ?_, fun e => ?_, fun e => ?_, fun e => ?_, fun e => ?_, fun e => ?_, fun e => ?_, fun e => ?_, fun e => ?_, fun e => ?_⟩
    · subst e
      obtain ⟨k, k1, k2, -⟩ := two rfl (by decide) rfl
      rw [p2_37] at k
      have := p_mod_bd k1 k2
      exact ⟨fun c => c_fmod k1 k2 c (k _ ⟨rfl, by omega, by omega⟩), fun c => k 0 ⟨by unfold p_mod; rw [if_pos c], by omega, by omega⟩⟩
    · subst e
      obtain ⟨k, k1, k2, -⟩ := two rfl (by decide) rfl
      rw [p2_42] at k
      have := mul_bd k1 k2
      rw [w64_le (by omega) (by omega)]
      exact k _ ⟨rfl, this.1, this.2⟩
    · subst e
      obtain ⟨k, k1, k2, -⟩ := two rfl (by decide) rfl
      rw [p2_43] at k
      rw [w32_le (by omega) (by omega)]
      exact k _ ⟨rfl, by omega, by omega⟩
    · subst e
      obtain ⟨k, k1, k2, -⟩ := two rfl (by decide) rfl
      rw [p2_45] at k
      rw [w32_le (by omega) (by omega)]
      exact k _ ⟨rfl, by omega, by omega⟩
    · subst e
      obtain ⟨k, k1, k2, -⟩ := two rfl (by decide) rfl
      rw [p2_47] at k
      have := p_div_bd (b := x2) k1
      exact ⟨fun c => c_fdiv k1 k2 c (k _ ⟨rfl, by omega, by omega⟩), fun c => k 0 ⟨by unfold p_div; rw [if_pos c], by omega, by omega⟩⟩
    · subst e
      obtain ⟨k, -⟩ := two rfl (by decide) rfl
      rw [p2_60] at k
      exact ⟨fun c => k 0 (by rw [if_neg (by omega)]; exact rr_id (by omega)), fun c => k 1 (by rw [if_pos (by omega)]; exact rr_id (by omega))⟩
    · subst e
      obtain ⟨k, -⟩ := two rfl (by decide) rfl
      rw [p2_61] at k
      exact ⟨fun c => k 0 (by rw [if_neg (by omega)]; exact rr_id (by omega)), fun c => k 1 (by rw [if_pos (by omega)]; exact rr_id (by omega))⟩
    · subst e
      obtain ⟨k, -⟩ := two rfl (by decide) rfl
      rw [p2_62] at k
      exact ⟨fun c => k 0 (by rw [if_neg (by omega)]; exact rr_id (by omega)), fun c => k 1 (by rw [if_pos (by omega)]; exact rr_id (by omega))⟩
    · subst e
      clear two
      obtain ⟨r, hr, -⟩ := t1_275 ht
      subst hr
      match st, hs, hA, hbs, hl, h with
      | y3 :: y2 :: y1 :: r', hs, hA, hbs, hl, h =>
        rw [show p_opn 275 = 3 from rfl] at hbs
        simp only [List.length_cons] at hbs hl
        have eb : b = r'.length := by omega
        have k1 : x1 = y1 := by rw [e1, eb]; exact hA.2.2.1
        have k2 : x2 = y2 := by rw [e2, eb]; exact hA.2.1
        have k3 : μ 5 2 (b + 2) = y3 := by rw [eb]; exact hA.1
        rw [p1_275] at h
        have b1 := hs.2.2.1
        refine ⟨fun c => ?_, fun c => ?_⟩
        · rw [show w32 ((b : Int) + 2) = ((b + 2 : Nat) : Int) by rw [w32_le (by omega) (by omega)]; omega]
          refine ⟨⟨by omega, by omega⟩, ?_⟩
          rw [Int.toNat_natCast, k3]
          exact h y3 (by rw [if_neg (by omega)]; exact rr_id hs.1)
        · rw [k2]
          exact h y2 (by rw [if_pos (by omega)]; exact rr_id hs.2.1)
    · subst e
      obtain ⟨k, -, -, k3⟩ := two rfl (by decide) rfl
      rw [p2_276] at k
      rw [i_or01 (k3 rfl).1 (k3 rfl).2]
      exact k _ (rr_id (by split <;> omega))
    · subst e
      obtain ⟨k, -, -, k3⟩ := two rfl (by decide) rfl
      rw [p2_277] at k
      rw [i_and01 (k3 rfl).1 (k3 rfl).2]
      exact k _ (rr_id (by split <;> omega))
    · subst e
      clear two
      obtain ⟨r, hr, -⟩ := t1_278 ht
      subst hr
      match st, hs, hA, hbs, hl, h with
      | y1 :: r', hs, hA, hbs, hl, h =>
        rw [show p_opn 278 = 1 from rfl] at hbs
        simp only [List.length_cons] at hbs
        have eb : b = r'.length := by omega
        have k1 : x1 = y1 := by rw [e1, eb]; exact hA.1
        rw [p1_278] at h
        have b1 := hs.1
        rw [w32_le (by omega) (by omega), k1]
        exact h _ (rr_id (by omega))
    · subst e
      rw [p1_279] at h
      exact h 1 (rr_id (by omega))
    · subst e
      obtain ⟨k, k1, k2, -⟩ := two rfl (by decide) rfl
      rw [p2_280] at k
      exact k _ (rr_id (by split <;> omega))
    · subst e
      obtain ⟨k, k1, k2, -⟩ := two rfl (by decide) rfl
      rw [p2_281] at k
      exact k _ (rr_id (by split <;> omega))
    · clear two
      obtain ⟨n1, n2, n3, n4, n5, n6, n7, n8, n9, n10, n11, n12, n13, n14, n15⟩ := e
      have hb : (p_ar op || p_cm op || p_lo op) = false := by simp [p_ar, p_cm, p_lo, n1, n2, n3, n4, n5, n6, n7, n8, n10, n11, n14, n15]
      have hf := (t1_fact ht h0 ⟨n13, n12, n9⟩ hb).1
      have hi := p_fw_in hf
      rw [p1_fact (env5 μ) h0 ⟨n13, n12, n9⟩ hb] at h
      rw [w32_le (by omega) (by omega)] at e3
      subst e3
      exact ⟨fun c => absurd c (by omega), fun _ => ⟨fun c => absurd c (by omega), fun _ => ⟨⟨by omega, by omega⟩, h (env5 μ op) (rr_id (he op hf))⟩⟩⟩
  · have h9 : 1000 ≤ op := by omega
    rw [p1_num (env5 μ) h9] at h
    have ho : op ≤ 10999 := by
      unfold t1 at ht
      rw [if_pos h9] at ht
      split at ht
      · assumption
      · cases ht
    rw [w32_le (by omega) (by omega)]
    exact h _ (rr_id (by omega))
