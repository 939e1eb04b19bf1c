/-! ===== rows one after the other ===== -/
theorem m_cnt_add (f : Nat → Bool) : ∀ (a b i : Nat), m_cnt f i (a + b) = m_cnt f i a + m_cnt f (i + a) b := by
  intro a
  induction a with
  | zero => intro b i; rw [Nat.zero_add]; show _ = 0 + _; rw [Nat.add_zero]; omega
  | succ a ih =>
    intro b i
    rw [show a + 1 + b = (a + b) + 1 by omega]
    show (if f i then 1 else 0) + m_cnt f (i + 1) (a + b) = ((if f i then 1 else 0) + m_cnt f (i + 1) a) + _
    rw [ih b (i + 1), show i + 1 + a = i + (a + 1) by omega]
    omega
theorem cnt_pos {f : Nat → Bool} {i r j : Nat} (h1 : i ≤ j) (h2 : j < i + r) (hf : f j = true) : 0 < m_cnt f i r := by
  have := (m_cnt_lt (p := fun _ => false) (q := f) r i (fun j _ _ z => by simp at z)).2 ⟨j, h1, h2, rfl, hf⟩
  omega
def cv (row : Nat → Int) (v : Int) (i r : Nat) : Nat := m_cnt (fun q => row q == v) i r
theorem cv_pos {row : Nat → Int} {v : Int} {i r j : Nat} (h1 : i ≤ j) (h2 : j < i + r) (e : row j = v) : 0 < cv row v i r := cnt_pos h1 h2 (by simp [e])
theorem cv_ex {row : Nat → Int} {v : Int} {i r : Nat} (h : 0 < cv row v i r) : ∃ j, i ≤ j ∧ j < i + r ∧ row j = v := by
  obtain ⟨j, h1, h2, h3⟩ := m_cnt_pos r i h
  exact ⟨j, h1, h2, by simpa using h3⟩
theorem cv_congr {row row' : Nat → Int} {v : Int} {i r : Nat} (e : ∀ j, i ≤ j → j < i + r → row' j = row j) : cv row' v i r = cv row v i r := m_cnt_congr r i (fun j h1 h2 => by rw [e j h1 h2])
theorem cv_upd {row : Nat → Int} {v x : Int} {a : Nat} : ∀ (r i : Nat), i ≤ a → a < i + r → cv (fun q => if q = a then x else row q) v i r + (if row a == v then 1 else 0) = cv row v i r + (if x == v then 1 else 0) := by
  intro r
  induction r with
  | zero => intro i h1 h2; omega
  | succ r ih =>
    intro i h1 h2
    show ((if ((if i = a then x else row i) == v) = true then 1 else 0) + cv (fun q => if q = a then x else row q) v (i + 1) r) + _ = ((if (row i == v) = true then 1 else 0) + cv row v (i + 1) r) + _
    by_cases y : i = a
    · subst y
      rw [if_pos rfl]
      have e : cv (fun q => if q = i then x else row q) v (i + 1) r = cv row v (i + 1) r := cv_congr (fun j h1 h2 => by rw [if_neg (by omega)])
      rw [e]
      omega
    · rw [if_neg y]
      have := ih (i + 1) (by omega) (by omega)
      omega
def swp (row : Nat → Int) (a b : Nat) : Nat → Int := fun q => if q = b then row a else if q = a then row b else row q
theorem cv_swp {row : Nat → Int} {v : Int} {a b n : Nat} (ha : a < n) (hb : b < n) : cv (swp row a b) v 0 n = cv row v 0 n := by
  have h1 := cv_upd (row := row) (v := v) (x := row b) (a := a) n 0 (by omega) (by omega)
  have h2 := cv_upd (row := fun q => if q = a then row b else row q) (v := v) (x := row a) (a := b) n 0 (by omega) (by omega)
  show cv (fun q => if q = b then row a else if q = a then row b else row q) v 0 n = _
  have e2 : (if b = a then row b else row b) = row b := by split <;> rfl
  rw [e2] at h2
  omega
section PM
variable {B : Nat → Nat → Int} {kn rm : Nat} {row row' : Nat → Int}
theorem isArr.one (hr : isArr B kn rm row) {c : Nat} (hc : c < 8) (hk : B 3 c = (kn : Int)) : cv row (c : Int) 0 rm = 1 := by
  obtain ⟨p, hp, e⟩ := hr.2.1 c hc hk
  have := m_cnt_rm (f := fun q => row q == (c : Int)) (g := fun _ => false) (c := p) (by simp [e]) rfl rm 0 (by omega) (by omega) (fun j _ hj hne => by
    have : ¬ row j = (c : Int) := fun z => hne (hr.2.2 j p (by omega) hp (z.trans e.symm) (by omega))
    simp [this])
  have z : m_cnt (fun _ => false) 0 rm = 0 := m_cnt_0 rm 0 (fun _ _ _ => rfl)
  show m_cnt (fun q => row q == (c : Int)) 0 rm = 1
  omega
theorem isArr.cvs (hr : isArr B kn rm row) (hr' : isArr B kn rm row') (v : Int) : cv row v 0 rm = cv row' v 0 rm := by
  by_cases h1 : v = -1
  · subst h1
    have e1 := hr.cnt rm 0 (by omega)
    have e2 := hr'.cnt rm 0 (by omega)
    have ew : m_cnt (wf B kn row 0) 0 8 = m_cnt (wf B kn row' 0) 0 8 := m_cnt_congr 8 0 (fun j _ _ => by rw [wf_inK, wf_inK])
    have c1 := m_cnt_compl (fun q => row q == -1) rm 0
    have c2 := m_cnt_compl (fun q => row' q == -1) rm 0
    have n1 : m_cnt (fun c => !(row c == -1)) 0 rm = m_cnt (fun q => row q != -1) 0 rm := rfl
    have n2 : m_cnt (fun c => !(row' c == -1)) 0 rm = m_cnt (fun q => row' q != -1) 0 rm := rfl
    show m_cnt (fun q => row q == -1) 0 rm = m_cnt (fun q => row' q == -1) 0 rm
    omega
  · by_cases h2 : ∃ c : Nat, c < 8 ∧ v = (c : Int) ∧ B 3 c = (kn : Int)
    · obtain ⟨c, hc, e, hk⟩ := h2
      rw [e, hr.one hc hk, hr'.one hc hk]
    · have z : ∀ {r : Nat → Int}, isArr B kn rm r → cv r v 0 rm = 0 := fun {r} hr => m_cnt_0 rm 0 (fun j _ hj => by
        have : ¬ r j = v := fun z => by
          rcases hr.1 j (by omega) with y | ⟨c, hc, y, hk⟩
          · exact h1 (z.symm.trans y)
          · exact h2 ⟨c, hc, z.symm.trans y, hk⟩
        simp [this])
      rw [z hr, z hr']
theorem isArr.of (hr : isArr B kn rm row) (e : ∀ v, cv row' v 0 rm = cv row v 0 rm) : isArr B kn rm row' := by
  refine ⟨fun p hp => ?_, fun c hc hk => ?_, fun p q hp hq y ne => ?_⟩
  · have := cv_pos (row := row') (v := row' p) (i := 0) (r := rm) (j := p) (by omega) (by omega) rfl
    rw [e] at this
    obtain ⟨j, -, hj, ej⟩ := cv_ex this
    rw [← ej]
    exact hr.1 j (by omega)
  · obtain ⟨p, hp, y⟩ := hr.2.1 c hc hk
    have := cv_pos (row := row) (v := (c : Int)) (i := 0) (r := rm) (j := p) (by omega) (by omega) y
    rw [← e] at this
    obtain ⟨j, -, hj, ej⟩ := cv_ex this
    exact ⟨j, by omega, ej⟩
  · have h1 := cv_pos (row := row') (v := row' p) (i := 0) (r := rm) (j := p) (by omega) (by omega) rfl
    rw [e] at h1
    obtain ⟨j, -, hj, ej⟩ := cv_ex h1
    rcases hr.1 j (by omega) with z | ⟨c, hc, z, hk⟩
    · exact absurd (ej.symm.trans z) ne
    · have hv : row' p = (c : Int) := ej.symm.trans z
      have c1 := hr.one hc hk
      rw [← e] at c1
      apply Classical.byContradiction
      intro hne
      have c2 := m_cnt_rm (f := fun q => row' q == (c : Int)) (g := fun x => if x = p then false else row' x == (c : Int)) (c := p) (by simp [hv]) (by simp) rm 0 (by omega) (by omega) (fun j _ _ hjp => by simp [hjp])
      have c3 : 0 < m_cnt (fun x => if x = p then false else row' x == (c : Int)) 0 rm := cnt_pos (j := q) (by omega) (by omega) (by
        have : ¬ q = p := fun z => hne z.symm
        simp [this, ← y, hv])
      have c1 : m_cnt (fun q => row' q == (c : Int)) 0 rm = 1 := c1
      omega
/-- rows that begin alike have alike rests -/
theorem cv_rest {j : Nat} (hj : j ≤ rm) (e : ∀ v, cv row v 0 rm = cv row' v 0 rm) (ha : ∀ q, q < j → row q = row' q) (v : Int) : cv row v j (rm - j) = cv row' v j (rm - j) := by
  have h1 := m_cnt_add (fun q => row q == v) j (rm - j) 0
  have h2 := m_cnt_add (fun q => row' q == v) j (rm - j) 0
  have h3 : cv row v 0 j = cv row' v 0 j := cv_congr (fun q _ hq => ha q (by omega))
  have h4 := e v
  rw [show j + (rm - j) = rm by omega, Nat.zero_add] at h1 h2
  unfold cv at h3 h4 ⊢
  omega
theorem dec_le {j : Nat} (hd : ∀ q, j ≤ q → q + 1 < rm → row (q + 1) ≤ row q) : ∀ r q, j ≤ q → q + r < rm → row (q + r) ≤ row q := by
  intro r
  induction r with
  | zero => intro q _ _; exact Int.le_refl _
  | succ r ih =>
    intro q h1 h2
    have := ih q h1 (by omega)
    have := hd (q + r) (by omega) (by omega)
    rw [show q + (r + 1) = q + r + 1 by omega]
    omega
theorem dec_max {j : Nat} (hj : j < rm) (hd : ∀ q, j ≤ q → q + 1 < rm → row (q + 1) ≤ row q) (e : ∀ v, cv row v j (rm - j) = cv row' v j (rm - j)) : row' j ≤ row j := by
  have := cv_pos (row := row') (v := row' j) (i := j) (r := rm - j) (j := j) (by omega) (by omega) rfl
  rw [← e] at this
  obtain ⟨q, h1, h2, h3⟩ := cv_ex this
  have := dec_le hd (q - j) j (by omega) (by omega)
  rw [show j + (q - j) = q by omega] at this
  omega
theorem inc_min : ∀ (r j : Nat), j + r = rm → (∀ q, j ≤ q → q + 1 < rm → row q ≤ row (q + 1)) → (∀ v, cv row v j (rm - j) = cv row' v j (rm - j)) → (∀ q, q < j → row q = row' q) → lexle rm row row' := by
  intro r
  induction r with
  | zero => intro j hj _ _ ha; exact Or.inl (fun p hp => ha p (by omega))
  | succ r ih =>
    intro j hj hi e ha
    have up : ∀ r q, j ≤ q → q + r < rm → row q ≤ row (q + r) := by
      intro r
      induction r with
      | zero => intro q _ _; exact Int.le_refl _
      | succ r ih2 =>
        intro q h1 h2
        have := ih2 q h1 (by omega)
        have := hi (q + r) (by omega) (by omega)
        rw [show q + (r + 1) = q + r + 1 by omega]
        omega
    have := cv_pos (row := row') (v := row' j) (i := j) (r := rm - j) (j := j) (by omega) (by omega) rfl
    rw [← e] at this
    obtain ⟨q, h1, h2, h3⟩ := cv_ex this
    have := up (q - j) j (by omega) (by omega)
    rw [show j + (q - j) = q by omega] at this
    by_cases y : row j = row' j
    · refine ih (j + 1) (by omega) (fun q hq hq2 => hi q (by omega) hq2) (fun v => ?_) (fun q hq => ?_)
      · have h1 := m_cnt_add (fun q => row q == v) 1 (rm - (j + 1)) j
        have h2 := m_cnt_add (fun q => row' q == v) 1 (rm - (j + 1)) j
        have h4 := e v
        have h5 : m_cnt (fun q => row q == v) j 1 = m_cnt (fun q => row' q == v) j 1 := m_cnt_congr 1 j (fun i a b => by rw [show i = j by omega, y])
        rw [show 1 + (rm - (j + 1)) = rm - j by omega] at h1 h2
        unfold cv at h4 ⊢
        omega
      · by_cases z : q = j
        · subst z; exact y
        · exact ha q (by omega)
    · exact Or.inr ⟨j, by omega, ha, by omega⟩
/-- strictly ahead of -/
def lexlt (rm : Nat) (row row' : Nat → Int) : Prop := ∃ p, p < rm ∧ (∀ q, q < p → row q = row' q) ∧ row p < row' p
theorem lex_cases (row row' : Nat → Int) : ∀ rm, (∀ p, p < rm → row p = row' p) ∨ lexlt rm row row' ∨ lexlt rm row' row := by
  intro rm
  induction rm with
  | zero => exact Or.inl (fun p hp => by omega)
  | succ rm ih =>
    rcases ih with h | ⟨p, hp, h1, h2⟩ | ⟨p, hp, h1, h2⟩
    · by_cases y : row rm = row' rm
      · refine Or.inl (fun p hp => ?_)
        by_cases z : p = rm
        · subst z; exact y
        · exact h p (by omega)
      · by_cases z : row rm < row' rm
        · exact Or.inr (Or.inl ⟨rm, by omega, h, z⟩)
        · exact Or.inr (Or.inr ⟨rm, by omega, fun q hq => (h q hq).symm, by omega⟩)
    · exact Or.inr (Or.inl ⟨p, by omega, h1, h2⟩)
    · exact Or.inr (Or.inr ⟨p, by omega, h1, h2⟩)
theorem lexlt.le (h : lexlt rm row row') : lexle rm row row' := Or.inr h
theorem lexlt.not (h : lexlt rm row row') (h2 : lexle rm row' row) : False := by
  have := lexle.anti h.le h2
  obtain ⟨p, hp, -, hl⟩ := h
  have := this p hp
  omega
theorem lexlt.tr {r3 : Nat → Int} (h1 : lexlt rm row row') (h2 : lexlt rm row' r3) : lexlt rm row r3 := by
  obtain ⟨p, hp, e1, l1⟩ := h1
  obtain ⟨q, hq, e2, l2⟩ := h2
  by_cases y : p < q
  · exact ⟨p, hp, fun i hi => by rw [e1 i hi, e2 i (by omega)], by rw [← e2 p y]; exact l1⟩
  · by_cases z : q < p
    · exact ⟨q, hq, fun i hi => by rw [e1 i (by omega), e2 i hi], by rw [e1 q z]; exact l2⟩
    · have : p = q := by omega
      subst this
      exact ⟨p, hp, fun i hi => by rw [e1 i hi, e2 i hi], by omega⟩
theorem lexlt.congr {r2 r2' : Nat → Int} (e : ∀ p, p < rm → r2 p = row p) (e' : ∀ p, p < rm → r2' p = row' p) (hl : lexlt rm row row') : lexlt rm r2 r2' := by
  obtain ⟨p, hp, e1, l1⟩ := hl
  exact ⟨p, hp, fun q hq => by rw [e q (by omega), e' q (by omega)]; exact e1 q hq, by rw [e p hp, e' p hp]; exact l1⟩
/-- the row as a number -/
def vl (row : Nat → Int) : Nat → Nat
  | 0 => 0
  | p + 1 => vl row p * 9 + (row p + 1).toNat
theorem vl_lt {n : Nat} (h1 : ∀ p, p < n → -1 ≤ row p ∧ row p < 8) (h2 : ∀ p, p < n → -1 ≤ row' p ∧ row' p < 8) (hl : lexlt n row row') : vl row n < vl row' n := by
  obtain ⟨p, hp, e, l⟩ := hl
  have eq : ∀ m, m ≤ p → vl row m = vl row' m := by
    intro m
    induction m with
    | zero => intro _; rfl
    | succ m ih => intro hm; show vl row m * 9 + (row m + 1).toNat = vl row' m * 9 + (row' m + 1).toNat; rw [ih (by omega), e m (by omega)]
  have gt : ∀ r, p + 1 + r ≤ n → vl row (p + 1 + r) < vl row' (p + 1 + r) := by
    intro r
    induction r with
    | zero =>
      intro _
      show vl row p * 9 + (row p + 1).toNat < vl row' p * 9 + (row' p + 1).toNat
      have := eq p (Nat.le_refl p)
      have := h1 p hp
      omega
    | succ r ih =>
      intro hr
      have := ih (by omega)
      have := h1 (p + 1 + r) (by omega)
      have := h2 (p + 1 + r) (by omega)
      show vl row (p + 1 + r) * 9 + (row (p + 1 + r) + 1).toNat < vl row' (p + 1 + r) * 9 + (row' (p + 1 + r) + 1).toNat
      omega
  have := gt (n - (p + 1)) (by omega)
  rw [show p + 1 + (n - (p + 1)) = n by omega] at this
  exact this
theorem vl_bd (h1 : ∀ p, p < rm → -1 ≤ row p ∧ row p < 8) : ∀ n, n ≤ rm → vl row n < 9 ^ n := by
  intro n
  induction n with
  | zero => intro _; exact Nat.lt_succ_self 0
  | succ n ih =>
    intro hn
    have := ih (by omega)
    have := h1 n (by omega)
    show vl row n * 9 + (row n + 1).toNat < 9 ^ (n + 1)
    rw [Nat.pow_succ]
    omega
end PM
