/-! ===== a town, as both sides have it; tempers, cracks, sticking, fuel ===== -/
abbrev m_T : Type := (Nat × Nat) × (Nat → Int) × (Nat → Int) × (Nat → Int) × (Int × Int × Int) × (Nat → Option (List Int))
abbrev tw_nc (A : m_T) : Nat := A.1.1
abbrev tw_nk (A : m_T) : Nat := A.1.2
abbrev tw_clay (A : m_T) : Nat → Int := A.2.1
abbrev tw_grit (A : m_T) : Nat → Int := A.2.2.1
abbrev tw_room (A : m_T) : Nat → Int := A.2.2.2.1
abbrev tw_stock (A : m_T) : Int := A.2.2.2.2.1.1
abbrev tw_load (A : m_T) : Int := A.2.2.2.2.1.2.1
abbrev tw_wind (A : m_T) : Int := A.2.2.2.2.1.2.2
abbrev tw_law (A : m_T) : Nat → Option (List Int) := A.2.2.2.2.2
def TA (A : m_T) : Prop := tw_nc A ≤ 8 ∧ tw_nk A ≤ 3 ∧ (∀ i, i < tw_nc A → (0 ≤ tw_clay A i ∧ tw_clay A i ≤ 99) ∧ 0 ≤ tw_grit A i ∧ tw_grit A i ≤ 9) ∧ (∀ i, i < tw_nk A → 1 ≤ tw_room A i ∧ tw_room A i ≤ 6) ∧ (0 ≤ tw_stock A ∧ tw_stock A ≤ 999) ∧ (0 ≤ tw_load A ∧ tw_load A ≤ 999) ∧ (0 ≤ tw_wind A ∧ tw_wind A ≤ 100) ∧ ∀ q c, tw_law A q = some c → q < 4 ∧ tcs q c [] = some [q == 1 || q == 2]
def law_c (T : Nat → Nat → Int) (q : Nat) : Option (List Int) := if q < 4 ∧ T 14 q < T 15 q then some (codeL (T 12) (T 14 q).toNat (T 15 q - T 14 q).toNat) else none
def at_c (T : Nat → Nat → Int) : m_T := (((T 0 3).toNat, (T 0 6).toNat), (fun i => if i < (T 0 3).toNat then T 2 i else 0), (fun i => if i < (T 0 3).toNat then T 3 i else 0), (fun i => if i < (T 0 6).toNat then T 6 i else 0), (T 0 7, T 0 8, T 0 9), law_c T)
/-- the class's town at id t is A, and it is the one that the laws go by -/
def CT (μ : m_M) (t : Nat) (A : m_T) : Prop := m_cls t = 9 ∧ μ 4 0 0 = 100 * (t : Int) ∧ at_c (μ t) = A ∧ TA A ∧ 0 ≤ μ t 0 3 ∧ 0 ≤ μ t 0 6 ∧ ∀ q, q < 4 → 0 ≤ μ t 14 q ∧ μ t 15 q ≤ 1600
theorem CT.mv {μ μ1 : m_M} {t : Nat} {A : m_T} (h : CT μ t A) (h4 : μ1 4 0 0 = μ 4 0 0) (ht : ∀ b c, μ1 t b c = μ t b c) : CT μ1 t A := by
  have e : μ1 t = μ t := by funext b c; exact ht b c
  unfold CT
  rw [h4, e]
  exact h
theorem CT.off {μ μ1 : m_M} {t : Nat} {A : m_T} (h : CT μ t A) (ho : off5 μ μ1) : CT μ1 t A :=
  h.mv (ho 4 0 0 (by decide)) (fun b c => ho t b c (cls_ne h.1 (show m_cls 5 = 5 from rfl) (by decide)))
theorem CT.nc {μ : m_M} {t : Nat} {A : m_T} (h : CT μ t A) : μ t 0 3 = (tw_nc A : Int) := by
  obtain ⟨-, -, e, -, h3, -⟩ := h
  rw [← e]
  show _ = (((μ t 0 3).toNat : Nat) : Int)
  omega
theorem CT.nk {μ : m_M} {t : Nat} {A : m_T} (h : CT μ t A) : μ t 0 6 = (tw_nk A : Int) := by
  obtain ⟨-, -, e, -, -, h6, -⟩ := h
  rw [← e]
  show _ = (((μ t 0 6).toNat : Nat) : Int)
  omega
theorem CT.clay {μ : m_M} {t : Nat} {A : m_T} (h : CT μ t A) {i : Nat} (hi : i < tw_nc A) : μ t 2 i = tw_clay A i := by
  have e := h.2.2.1
  rw [← e] at hi ⊢
  show _ = if i < (μ t 0 3).toNat then μ t 2 i else 0
  exact (if_pos hi).symm
theorem CT.grit {μ : m_M} {t : Nat} {A : m_T} (h : CT μ t A) {i : Nat} (hi : i < tw_nc A) : μ t 3 i = tw_grit A i := by
  have e := h.2.2.1
  rw [← e] at hi ⊢
  show _ = if i < (μ t 0 3).toNat then μ t 3 i else 0
  exact (if_pos hi).symm
theorem CT.room {μ : m_M} {t : Nat} {A : m_T} (h : CT μ t A) {i : Nat} (hi : i < tw_nk A) : μ t 6 i = tw_room A i := by
  have e := h.2.2.1
  rw [← e] at hi ⊢
  show _ = if i < (μ t 0 6).toNat then μ t 6 i else 0
  exact (if_pos hi).symm
theorem CT.law {μ : m_M} {t : Nat} {A : m_T} (h : CT μ t A) (q : Nat) : tw_law A q = law_c (μ t) q := by rw [← h.2.2.1]; rfl
theorem CT.told {μ : m_M} {t : Nat} {A : m_T} (h : CT μ t A) {q : Nat} (hq : q < 4) {c : List Int} (hc : tw_law A q = some c) : ∃ a n : Nat, μ t 14 q = (a : Int) ∧ μ t 15 q = ((a + n : Nat) : Int) ∧ a + n ≤ 1600 ∧ c = codeL (μ t 12) a n ∧ μ t 14 q < μ t 15 q := by
  rw [h.law q] at hc
  unfold law_c at hc
  obtain ⟨-, -, -, -, -, -, hl⟩ := h
  have := hl q hq
  split at hc
  · next hlt =>
    cases hc
    exact ⟨(μ t 14 q).toNat, (μ t 15 q - μ t 14 q).toNat, by omega, by omega, by omega, rfl, hlt.2⟩
  · cases hc
theorem CT.untold {μ : m_M} {t : Nat} {A : m_T} (h : CT μ t A) {q : Nat} (hq : q < 4) (hc : tw_law A q = none) : ¬ μ t 14 q < μ t 15 q := by
  rw [h.law q] at hc
  unfold law_c at hc
  split at hc
  · cases hc
  · next hn => exact fun z => hn ⟨hq, z⟩
/-- only the words that may stand there count -/
theorem p1_congr {q : Nat} {env env' : Int → Int} (he : ∀ op, p_fw q op = true → env op = env' op) {op : Int} {ts ts' : List Bool} (ht : t1 q op ts = some ts') (st : List Int) : p1 env op st = p1 env' op st := by
  unfold p1
  by_cases h0 : 1000 ≤ op
  · rw [if_pos h0, if_pos h0]
  rw [if_neg h0, if_neg h0]
  by_cases h1 : op = 279
  · rw [if_pos h1, if_pos h1]
  rw [if_neg h1, if_neg h1]
  by_cases h2 : op = 278
  · rw [if_pos h2, if_pos h2]
  rw [if_neg h2, if_neg h2]
  by_cases h3 : op = 275
  · rw [if_pos h3, if_pos h3]
  rw [if_neg h3, if_neg h3]
  by_cases hb : (p_ar op || p_cm op || p_lo op) = true
  · rw [if_pos hb, if_pos hb]
  · rw [if_neg hb, if_neg hb]
    rw [he op (t1_fact ht h0 ⟨h1, h2, h3⟩ (by revert hb; cases (p_ar op || p_cm op || p_lo op) <;> simp)).1]
theorem p_ev_congr {q : Nat} {env env' : Int → Int} (he : ∀ op, p_fw q op = true → env op = env' op) : ∀ (c : List Int) (ts ts' : List Bool) (st : List Int), tcs q c ts = some ts' → p_ev env c st = p_ev env' c st := by
  intro c
  induction c with
  | nil => intro _ _ _ _; rfl
  | cons op r ih =>
    intro ts ts' st h
    unfold tcs at h
    split at h
    · next t2 h1 =>
      split at h
      · unfold p_ev
        rw [p1_congr he h1 st]
        exact ih t2 ts' _ h
      · cases h
    · cases h
theorem p_val_congr {q : Nat} {env env' : Int → Int} (he : ∀ op, p_fw q op = true → env op = env' op) {c : List Int} {ts : List Bool} (h : tcs q c [] = some ts) : p_val env c = p_val env' c := by unfold p_val; rw [p_ev_congr he c [] ts [] h]
def e_rg (A : m_T) (c : Nat) (heat place week : Int) : Int → Int := fun op => if op = 268 then heat else if op = 269 then week else if op = 257 then tw_clay A c else if op = 258 then tw_grit A c else place
def p_c99 (x : Int) : Int := if x < 0 then 0 else if 99 < x then 99 else x
def p_ring (A : m_T) (c : Nat) (heat place week : Int) : Int := match tw_law A 0 with
  | none => p_c99 (4 * heat)
  | some f => p_c99 (p_val (e_rg A c heat place week) f)
theorem p_ring_in (A : m_T) (c : Nat) (heat place week : Int) : 0 ≤ p_ring A c heat place week ∧ p_ring A c heat place week ≤ 99 := by
  unfold p_ring p_c99
  split <;> (split <;> (try split) <;> omega)
def p_crk (A : m_T) (c : Nat) (heat place week : Int) : Bool := match tw_law A 1 with
  | none => false
  | some f => p_val (fun op => if op = 271 then p_ring A c heat place week else e_rg A c heat place week op) f == 1
def p_abs (x : Int) : Int := if 0 ≤ x then x else -x
def p_stk (A : m_T) (one other : Nat) (near heat week : Int) : Bool := match tw_law A 2 with
  | none => false
  | some f => p_val (fun op => if op = 268 then heat else if op = 269 then week else if op = 272 then near else tw_grit A one + tw_grit A other) f == 1
def p_brn (A : m_T) (heat week room full : Int) : Int := match tw_law A 3 with
  | none => heat
  | some f => (let v := p_val (fun op => if op = 268 then heat else if op = 269 then week else if op = 260 then room else full) f; if v < 0 then 0 else v)
theorem c_tell {G : m_G} {d j : Nat} (hj : j < 26) {μ : m_M} {v : Int} {K : m_M → Prop} (h : K (m_up μ 5 1 j v)) {x : Int} (hx : x = 256 + (j : Int)) : c_v G (d + 1) YX5_tell [vR 5 0, vI x, vI v] μ K := by
  refine EX5_tell (fun x1 e1 => ?_)
  rw [w32_le (by omega) (by omega), show x - 256 = (j : Int) by omega] at e1
  subst e1
  refine ⟨fun c => absurd c (by omega), fun _ => ⟨fun c => absurd c (by omega), fun _ => ⟨⟨by omega, by omega⟩, fun μ2 e2 => ?_⟩⟩⟩
  rw [Int.toNat_natCast] at e2
  subst e2
  exact h
theorem off5.up (μ : m_M) (b c : Nat) (v : Int) : off5 μ (m_up μ 5 b c v) := fun a b' c' ha => m_up_ne _ _ (fun z => ha z.1)
/-- facts told to the machine -/
def told5 (μ : m_M) (op v : Int) : Prop := env5 μ op = v
theorem env5_up {μ : m_M} {j : Nat} {v op : Int} : env5 (m_up μ 5 1 j v) op = if (op - 256).toNat = j then v else env5 μ op := by
  unfold env5
  by_cases h : (op - 256).toNat = j
  · rw [if_pos h, h, m_up_at]
  · rw [if_neg h, m_up_ne _ _ (fun z => h z.2.2)]
set_option maxRecDepth 20000 in
theorem c_tellChild {G : m_G} {d t : Nat} {μ : m_M} {A : m_T} (hT : CT μ t A) {c : Nat} (hc : c < tw_nc A) {heat place week : Int} {K : m_M → Prop} (h : ∀ μ1, off5 μ μ1 → env5 μ1 268 = heat → env5 μ1 269 = week → env5 μ1 257 = tw_clay A c → env5 μ1 258 = tw_grit A c → env5 μ1 270 = place → K μ1) : c_v G (d + 2) YX4_tellChild [vR 4 0, vI (c : Int), vI heat, vI place, vI week] μ K := by
  have h8 : c < 8 := Nat.lt_of_lt_of_le hc hT.2.2.2.1.1
  have ht5 : t ≠ 5 := cls_ne hT.1 (show m_cls 5 = 5 from rfl) (by decide)
  refine EX4_tellChild (c_tell (j := 12) (by decide) (c_tell (j := 13) (by decide) ⟨t, ?_, hT.1, ⟨by omega, by omega⟩, c_tell (j := 1) (by decide) ⟨t, ?_, hT.1, ⟨by omega, by omega⟩, c_tell (j := 2) (by decide) (c_tell (j := 14) (by decide) (h _ ?_ ?_ ?_ ?_ ?_ ?_) rfl) rfl⟩ rfl⟩ rfl) rfl)
  · rw [m_up_ne _ _ (by omega), m_up_ne _ _ (by omega)]; exact hT.2.1
  · rw [m_up_ne _ _ (by omega), m_up_ne _ _ (by omega), m_up_ne _ _ (by omega)]; exact hT.2.1
  · exact ((((off5.up _ _ _ _).tr (off5.up _ _ _ _)).tr (off5.up _ _ _ _)).tr (off5.up _ _ _ _)).tr (off5.up _ _ _ _)
  · simp [env5_up]
  · simp [env5_up]
  · simp only [env5_up]
    rw [if_neg (by decide), if_neg (by decide), if_pos (by decide), Int.toNat_natCast, m_up_ne _ _ (by omega), m_up_ne _ _ (by omega)]
    exact hT.clay hc
  · simp only [env5_up]
    rw [if_neg (by decide), if_pos (by decide), Int.toNat_natCast, m_up_ne _ _ (by omega), m_up_ne _ _ (by omega), m_up_ne _ _ (by omega)]
    exact hT.grit hc
  · simp [env5_up]
/-- numbers that may be told -/
def sm (x : Int) : Prop := -1000000 ≤ x ∧ x ≤ 1000000
theorem p_fw0 {op : Int} (h : p_fw 0 op = true) : op = 268 ∨ op = 269 ∨ op = 257 ∨ op = 258 ∨ op = 270 := by simp [p_fw] at h; omega
theorem p_fw1 {op : Int} (h : p_fw 1 op = true) : op = 268 ∨ op = 269 ∨ op = 257 ∨ op = 258 ∨ op = 270 ∨ op = 271 := by simp [p_fw] at h; omega
theorem p_fw2 {op : Int} (h : p_fw 2 op = true) : op = 268 ∨ op = 269 ∨ op = 272 ∨ op = 273 := by simp [p_fw] at h; omega
theorem p_fw3 {op : Int} (h : p_fw 3 op = true) : op = 268 ∨ op = 269 ∨ op = 260 ∨ op = 274 := by simp [p_fw] at h; omega
set_option maxRecDepth 20000 in
theorem c_temperOf {G : m_G} {d t : Nat} {μ : m_M} {A : m_T} (hT : CT μ t A) {c : Nat} (hc : c < tw_nc A) {heat place week : Int} (h1 : sm heat) (h1b : 0 ≤ heat) (h2 : sm place) (h3 : sm week) {K : Int → m_M → Prop} (h : ∀ μ1, off5 μ μ1 → K (p_ring A c heat place week) μ1) : c_i G (d + 6) YX4_temperOf [vR 4 0, vI (c : Int), vI heat, vI place, vI week] μ K := by
  unfold sm at h1 h2 h3
  refine EX4_temperOf ⟨t, hT.2.1, hT.1, c_hasFormula (q := 0) hT.1 (by decide) ?_⟩
  have hTA := hT.2.2.2.1
  have hcl := (hTA.2.2.1 c hc)
  cases hl : tw_law A 0 with
  | none =>
    rw [if_neg (hT.untold (by decide) hl)]
    refine ⟨fun z => absurd rfl z, fun _ => ?_⟩
    have hh := h μ (off5.rf μ)
    unfold p_ring at hh
    rw [hl] at hh
    unfold p_c99 at hh
    rw [w32_le (by omega) (by omega)]
    rw [if_neg (by omega)] at hh
    by_cases q : 99 < 4 * heat
    · rw [if_pos q] at hh; rw [if_neg (by omega)]; exact hh
    · rw [if_neg q] at hh
      by_cases q2 : 4 * heat < 99
      · rw [if_pos q2]; exact hh
      · rw [if_neg q2, show (99 : Int) = 4 * heat by omega]; exact hh
  | some f =>
    obtain ⟨a, n, k1, k2, k3, k4, k5⟩ := hT.told (by decide) hl
    rw [if_pos k5]
    refine ⟨fun _ => ?_, fun z => absurd z (by decide)⟩
    refine c_tellChild hT hc (fun μ1 ho e1 e2 e3 e4 e5 => ?_)
    have hT1 := hT.off ho
    have ht : ∀ b c, μ1 t b c = μ t b c := fun b c => ho t b c (cls_ne hT.1 (show m_cls 5 = 5 from rfl) (by decide))
    have hw := (hTA.2.2.2.2.2.2.2 0 f hl).2
    have hcode : codeL (μ1 t 12) a n = f := by rw [k4]; exact codeL_congr n a (fun i _ _ => ht 12 i)
    have henv : ∀ op, p_fw 0 op = true → env5 μ1 op = e_rg A c heat place week op := fun op hop => by
      rcases p_fw0 hop with e | e | e | e | e <;> subst e
      · rw [e1]; rfl
      · rw [e2]; rfl
      · rw [e3]; rfl
      · rw [e4]; rfl
      · rw [e5]; rfl
    refine ⟨t, hT1.2.1, hT1.1, c_valueOf (q := 0) (a := a) (n := n) (ty := false) hT1.1 (by decide) (by rw [ht]; exact k1) (by rw [ht]; exact k2) k3 (by rw [hcode]; exact hw) (fun op hop => ?_) (fun μ2 ho2 _ => ?_)⟩
    · rcases p_fw0 hop with e | e | e | e | e <;> subst e
      · rw [e1]; omega
      · rw [e2]; omega
      · rw [e3]; omega
      · rw [e4]; omega
      · rw [e5]; omega
    · rw [hcode, p_val_congr henv hw]
      have hh := h μ2 (ho.tr ho2)
      unfold p_ring at hh
      rw [hl] at hh
      have hh : K (p_c99 (p_val (e_rg A c heat place week) f)) μ2 := hh
      generalize p_val (e_rg A c heat place week) f = v at hh ⊢
      unfold p_c99 at hh
      have e : (if 0 < (if v < 99 then v else 99) then (if v < 99 then v else 99) else 0) = (if v < 0 then 0 else if 99 < v then 99 else v) := by
        repeat' split
        all_goals omega
      rw [e]; exact hh
