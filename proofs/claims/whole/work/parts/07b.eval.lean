/-! ===== sums and tests: what a row of codes is worth ===== -/
def cl (x : Int) : Int := if x < -1000000 then -1000000 else if 1000000 < x then 1000000 else x
theorem cl_in (x : Int) : -1000000 ≤ cl x ∧ cl x ≤ 1000000 := by unfold cl; split <;> (try split) <;> omega
theorem cl_id {x : Int} (h : -1000000 ≤ x ∧ x ≤ 1000000) : cl x = x := by unfold cl; rw [if_neg (by omega), if_neg (by omega)]
def p_div (a b : Int) : Int := if b = 0 then 0 else if ¬ a.tmod b = 0 ∧ ¬ (a < 0 ↔ b < 0) then a.tdiv b - 1 else a.tdiv b
def p_mod (a b : Int) : Int := if b = 0 then 0 else a - b * p_div a b
def p2 (op a b : Int) : Int :=
  if op = 43 then cl (a + b) else if op = 45 then cl (a - b) else if op = 42 then cl (a * b) else if op = 47 then cl (p_div a b) else if op = 37 then cl (p_mod a b)
  else if op = 60 then (if a < b then 1 else 0) else if op = 62 then (if b < a then 1 else 0) else if op = 61 then (if a = b then 1 else 0)
  else if op = 276 then (if a = 1 ∨ b = 1 then 1 else 0) else if op = 277 then (if a = 1 ∧ b = 1 then 1 else 0)
  else if op = 280 then (if b < a then b else a) else (if a < b then b else a)
def p_ar (op : Int) : Bool := op == 43 || op == 45 || op == 42 || op == 47 || op == 37 || op == 280 || op == 281
def p_cm (op : Int) : Bool := op == 60 || op == 62 || op == 61
def p_lo (op : Int) : Bool := op == 276 || op == 277
/-- which words may stand in the four laws -/
def p_fw (q : Nat) (op : Int) : Bool := op == 268 || op == 269 || (q ≤ 1 && (op == 257 || op == 258 || op == 270)) || (q == 1 && op == 271) || (q == 2 && (op == 272 || op == 273)) || (q == 3 && (op == 260 || op == 274))
/-- one code over a stack, the top first -/
def p1 (env : Int → Int) (op : Int) (st : List Int) : List Int :=
  if 1000 ≤ op then (op - 1000) :: st
  else if op = 279 then 1 :: st
  else if op = 278 then (match st with | a :: r => (1 - a) :: r | r => r)
  else if op = 275 then (match st with | c :: b :: a :: r => (if a = 1 then b else c) :: r | r => r)
  else if p_ar op || p_cm op || p_lo op then (match st with | b :: a :: r => p2 op a b :: r | r => r)
  else env op :: st
def p_ev (env : Int → Int) : List Int → List Int → List Int
  | [], st => st
  | op :: r, st => p_ev env r (p1 env op st)
def p_val (env : Int → Int) (c : List Int) : Int := (p_ev env c []).headD 0
/-- kinds on the stack: true for a test -/
def t1 (q : Nat) (op : Int) (ts : List Bool) : Option (List Bool) :=
  if 1000 ≤ op then (if op ≤ 10999 then some (false :: ts) else none)
  else if op = 279 then some (true :: ts)
  else if op = 278 then (match ts with | true :: r => some (true :: r) | _ => none)
  else if op = 275 then (match ts with | false :: false :: true :: r => some (false :: r) | _ => none)
  else if p_ar op then (match ts with | false :: false :: r => some (false :: r) | _ => none)
  else if p_cm op then (match ts with | false :: false :: r => some (true :: r) | _ => none)
  else if p_lo op then (match ts with | true :: true :: r => some (true :: r) | _ => none)
  else if p_fw q op then some (false :: ts) else none
def tcs (q : Nat) : List Int → List Bool → Option (List Bool)
  | [], ts => some ts
  | op :: r, ts => match t1 q op ts with
    | some ts' => if ts'.length ≤ 61 then tcs q r ts' else none
    | none => none
/-- a stack of these kinds -/
def stk : List Bool → List Int → Prop
  | [], [] => True
  | true :: ts, a :: st => (a = 0 ∨ a = 1) ∧ stk ts st
  | false :: ts, a :: st => (-1000000 ≤ a ∧ a ≤ 1000000) ∧ stk ts st
  | _, _ => False
theorem stk_len : ∀ (ts : List Bool) (st : List Int), stk ts st → ts.length = st.length := by
  intro ts
  induction ts with
  | nil => intro st h; cases st with | nil => rfl | cons a r => exact h.elim
  | cons b ts ih =>
    intro st h
    cases st with
    | nil => cases b <;> exact h.elim
    | cons a r => cases b <;> exact congrArg (· + 1) (ih r h.2)
theorem stk_bd {b : Bool} {ts : List Bool} {a : Int} {st : List Int} (h : stk (b :: ts) (a :: st)) : (-1000000 ≤ a ∧ a ≤ 1000000) ∧ stk ts st := by
  cases b with
  | true => exact ⟨by rcases h.1 with e | e <;> omega, h.2⟩
  | false => exact h
theorem p2_num {op a b : Int} (ha : -1000000 ≤ a ∧ a ≤ 1000000) (hb : -1000000 ≤ b ∧ b ≤ 1000000) : -1000000 ≤ p2 op a b ∧ p2 op a b ≤ 1000000 := by
  unfold p2
  repeat' split
  all_goals first | exact cl_in _ | omega
theorem p2_test {op a b : Int} (h : (p_cm op || p_lo op) = true) : p2 op a b = 0 ∨ p2 op a b = 1 := by
  have h1 : op = 60 ∨ op = 62 ∨ op = 61 ∨ op = 276 ∨ op = 277 := by simp [p_cm, p_lo] at h; omega
  rcases h1 with e | e | e | e | e <;> subst e <;> simp only [p2] <;> simp <;> omega
theorem p1_ok {q : Nat} {env : Int → Int} (he : ∀ op, p_fw q op = true → -1000000 ≤ env op ∧ env op ≤ 1000000) {op : Int} {ts ts' : List Bool} {st : List Int} (h : t1 q op ts = some ts') (hs : stk ts st) : stk ts' (p1 env op st) := by
  unfold t1 at h
  unfold p1
  split at h
  · next h0 =>
    rw [if_pos h0]
    split at h
    · cases h; exact ⟨by omega, hs⟩
    · cases h
  · next h0 =>
    rw [if_neg h0]
    split at h
    · next h1 => rw [if_pos h1]; cases h; exact ⟨Or.inr rfl, hs⟩
    · next h1 =>
      rw [if_neg h1]
      split at h
      · next h2 =>
        rw [if_pos h2]
        match ts, st, h, hs with
        | true :: ts, a :: st, h, hs => cases h; exact ⟨by rcases hs.1 with e | e <;> omega, hs.2⟩
      · next h2 =>
        rw [if_neg h2]
        split at h
        · next h3 =>
          rw [if_pos h3]
          match ts, st, h, hs with
          | false :: false :: true :: ts, c :: b :: a :: st, h, hs =>
            cases h
            exact ⟨by show _ ≤ (if a = 1 then b else c) ∧ (if a = 1 then b else c) ≤ _; split; exact hs.2.1; exact hs.1, hs.2.2.2⟩
        · next h3 =>
          rw [if_neg h3]
          by_cases ha : p_ar op = true
          · rw [if_pos ha] at h
            rw [if_pos (by rw [ha]; rfl)]
            match ts, st, h, hs with
            | false :: false :: ts, b :: a :: st, h, hs => cases h; exact ⟨p2_num hs.2.1 hs.1, hs.2.2⟩
          · rw [if_neg ha] at h
            by_cases hc : p_cm op = true
            · rw [if_pos hc] at h
              rw [if_pos (by rw [hc]; simp)]
              match ts, st, h, hs with
              | false :: false :: ts, b :: a :: st, h, hs => cases h; exact ⟨p2_test (by rw [hc]; rfl), hs.2.2⟩
            · rw [if_neg hc] at h
              by_cases hl : p_lo op = true
              · rw [if_pos hl] at h
                rw [if_pos (by rw [hl]; simp)]
                match ts, st, h, hs with
                | true :: true :: ts, b :: a :: st, h, hs => cases h; exact ⟨p2_test (by rw [hl]; simp), hs.2.2⟩
              · rw [if_neg hl] at h
                rw [if_neg (by simp [ha, hc, hl])]
                split at h
                · next hf => cases h; exact ⟨he op hf, hs⟩
                · cases h
/-- codes from a place of a row on -/
def codeL (f : Nat → Int) : Nat → Nat → List Int
  | _, 0 => []
  | a, n + 1 => f a :: codeL f (a + 1) n
theorem codeL_congr {f g : Nat → Int} : ∀ (n a : Nat), (∀ i, a ≤ i → i < a + n → f i = g i) → codeL f a n = codeL g a n := by
  intro n
  induction n with
  | zero => intro a h; rfl
  | succ n ih =>
    intro a h
    unfold codeL
    rw [h a (by omega) (by omega), ih (a + 1) (fun i h1 h2 => h i (by omega) (by omega))]
/-- a row that holds a stack, the bottom at its first place -/
def SA (s : Nat → Int) : List Int → Prop
  | [] => True
  | x :: r => s r.length = x ∧ SA s r
theorem SA_up {s s' : Nat → Int} : ∀ (st : List Int), (∀ i, i < st.length → s' i = s i) → SA s st → SA s' st := by
  intro st
  induction st with
  | nil => intro _ _; trivial
  | cons x r ih =>
    intro h hs
    exact ⟨(h r.length (by simp)).trans hs.1, ih (fun i hi => h i (by simp; omega)) hs.2⟩
/-! numbers -/
theorem l_cmp_le {x y : Int} : l_cmp x y ≤ 0 ↔ x ≤ y := by unfold l_cmp; split <;> (try split) <;> omega
theorem l_cmp_ge {x y : Int} : 0 ≤ l_cmp x y ↔ y ≤ x := by unfold l_cmp; split <;> (try split) <;> omega
theorem l_cmp_eq {x y : Int} : l_cmp x y = 0 ↔ x = y := by unfold l_cmp; split <;> (try split) <;> omega
theorem i_xor_sg {a b : Int} (ha : in32 a) (hb : in32 b) : 0 ≤ i_xor a b ↔ (a < 0 ↔ b < 0) := by
  have h1 : ∀ x : Int32, x.toInt < 0 ↔ x.toBitVec.msb = true := fun x => by rw [BitVec.msb_eq_toInt, decide_eq_true_iff]; rfl
  have hA := h1 (Int32.ofInt a)
  have hB := h1 (Int32.ofInt b)
  have hX := h1 (Int32.ofInt a ^^^ Int32.ofInt b)
  rw [t32 ha] at hA
  rw [t32 hb] at hB
  rw [Int32.toBitVec_xor, BitVec.msb_xor] at hX
  rw [i_xor_def, hA, hB]
  generalize (Int32.ofInt a).toBitVec.msb = p at *
  generalize (Int32.ofInt b).toBitVec.msb = q at *
  generalize (Int32.ofInt a ^^^ Int32.ofInt b).toInt = z at *
  have : ¬ z < 0 ↔ (p = q) := by rw [hX]; cases p <;> cases q <;> simp
  constructor
  · intro h; have := this.mp (by omega); rw [this]
  · intro h
    have : ¬ z < 0 := this.mpr (by cases p <;> cases q <;> simp_all)
    omega
theorem i_or01 {a b : Int} (ha : a = 0 ∨ a = 1) (hb : b = 0 ∨ b = 1) : i_or a b = if a = 1 ∨ b = 1 then 1 else 0 := by rcases ha with e | e <;> rcases hb with f | f <;> subst e <;> subst f <;> rw [i_or_def] <;> decide
theorem i_and01 {a b : Int} (ha : a = 0 ∨ a = 1) (hb : b = 0 ∨ b = 1) : i_and a b = if a = 1 ∧ b = 1 then 1 else 0 := by rcases ha with e | e <;> rcases hb with f | f <;> subst e <;> subst f <;> rw [i_and_def] <;> decide
theorem l_or01 {a b : Int} (ha : a = 0 ∨ a = 1) (hb : b = 0 ∨ b = 1) : l_or a b = if a = 1 ∨ b = 1 then 1 else 0 := by rcases ha with e | e <;> rcases hb with f | f <;> subst e <;> subst f <;> rw [l_or_def] <;> decide
theorem l_and01 {a b : Int} (ha : a = 0 ∨ a = 1) (hb : b = 0 ∨ b = 1) : l_and a b = if a = 1 ∧ b = 1 then 1 else 0 := by rcases ha with e | e <;> rcases hb with f | f <;> subst e <;> subst f <;> rw [l_and_def] <;> decide
theorem tdiv_bd {a b : Int} (ha : -1000000 ≤ a ∧ a ≤ 1000000) : -1000000 ≤ a.tdiv b ∧ a.tdiv b ≤ 1000000 := by
  have h := Int.natAbs_tdiv_le_natAbs a b
  omega
theorem tmod_bd {a b : Int} (ha : -1000000 ≤ a ∧ a ≤ 1000000) : -1000000 ≤ a.tmod b ∧ a.tmod b ≤ 1000000 := by
  have h2 := Int.natAbs_tmod a b
  have h3 := Nat.mod_le a.natAbs b.natAbs
  omega
set_option maxRecDepth 20000 in
theorem c_fdiv {G : m_G} {d : Nat} {μ : m_M} {a b : Int} (ha : -1000000 ≤ a ∧ a ≤ 1000000) (hb : -1000000 ≤ b ∧ b ≤ 1000000) (h0 : b ≠ 0) {K : Int → m_M → Prop} (h : K (p_div a b) μ) : c_i G (d + 1) YJ9_floorDiv_7cf53 [vI a, vI b] μ K := by
  refine EJ9_floorDiv_7cf53 ⟨h0, fun x1 e1 => ?_⟩
  have hq := tdiv_bd (b := b) ha
  rw [w32_le (by omega) (by omega)] at e1
  subst e1
  have hx := i_xor_sg (a := a) (b := b) (by unfold in32; omega) (by unfold in32; omega)
  have hm : a.tdiv b * b = a ↔ a.tmod b = 0 := by rw [Int.tmod_def, Int.mul_comm]; omega
  have hbd : -2147483648 ≤ a.tdiv b * b ∧ a.tdiv b * b ≤ 2147483647 := by
    have e : a.tdiv b * b = a - a.tmod b := by rw [Int.tmod_def, Int.mul_comm]; omega
    have := tmod_bd (b := b) ha
    omega
  unfold p_div at h
  rw [if_neg h0] at h
  refine ⟨fun c => ?_, fun c => ⟨fun c2 => ?_, fun c2 => ?_⟩⟩
  · rw [if_neg (fun z => z.2 (hx.mp c))] at h; exact h
  · rw [w32_le hbd.1 hbd.2, hm] at c2
    rw [if_neg (fun z => z.1 c2)] at h; exact h
  · rw [w32_le hbd.1 hbd.2, hm] at c2
    rw [if_pos ⟨c2, fun z => c (hx.mpr z)⟩] at h
    rw [w32_le (by omega) (by omega)]; exact h
set_option maxRecDepth 20000 in
theorem c_fmod {G : m_G} {d : Nat} {μ : m_M} {a b : Int} (ha : -1000000 ≤ a ∧ a ≤ 1000000) (hb : -1000000 ≤ b ∧ b ≤ 1000000) (h0 : b ≠ 0) {K : Int → m_M → Prop} (h : K (p_mod a b) μ) : c_i G (d + 1) YJ9_floorMod_7cf53 [vI a, vI b] μ K := by
  refine EJ9_floorMod_7cf53 ⟨h0, fun x1 e1 => ?_⟩
  subst e1
  have hx := i_xor_sg (a := a) (b := b) (by unfold in32; omega) (by unfold in32; omega)
  have hbd := tmod_bd (b := b) ha
  have hd : a - b * a.tdiv b = a.tmod b := (Int.tmod_def a b).symm
  have hd1 : a - b * (a.tdiv b - 1) = a.tmod b + b := by rw [← hd, Int.mul_sub]; omega
  unfold p_mod p_div at h
  rw [if_neg h0, if_neg h0] at h
  refine ⟨fun c => ?_, fun c => ⟨fun c2 => ?_, fun c2 => ?_⟩⟩
  · rw [if_neg (fun z => z.2 (hx.mp c)), hd] at h; exact h
  · rw [if_neg (fun z => z.1 c2), hd] at h; exact h
  · rw [if_pos ⟨c2, fun z => c (hx.mpr z)⟩, hd1] at h
    rw [w32_le (by omega) (by omega)]; exact h
