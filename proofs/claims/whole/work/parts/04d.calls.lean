/-! ===== the small machine: calls, ends, beginnings ===== -/
def m_rm (d mc ms : Nat) : Room := { frames := d, cells := mc, slots := ms, locals := 60 * d }
def m_ws (Y : m_Y) : List Cond := Cond.code Y.1 Y.2.1 Y.2.2.1 Y.2.2.2 :: m_w
def m_B (G : m_G) (u : (Nat × Bool) × m_M) (t : State) : Prop := m_Pic G u.1.1 u.2 t.heap ∧ m_fu u.1.2 u.1.1 u.2
def m_Pc (G : m_G) (S : Nat × Bool) (As : List m_V) (μ : m_M) : Array Value → State → Prop := va_Pc (As.map (m_rv G)) (fun U => m_Pic G S.1 μ U.heap ∧ m_fu S.2 S.1 μ ∧ m_K G U ∧ ∀ v ∈ As, m_ok v)
def m_Qi (G : m_G) (K : Int → Nat × Bool → m_M → Prop) : Array Value → State → Outcome → State → Prop := va_Qi (S := (Nat × Bool) × m_M) (fun r u => K r.toInt u.1 u.2) (m_B G) (m_A G)
def m_Ql (G : m_G) (K : Int → Nat × Bool → m_M → Prop) : Array Value → State → Outcome → State → Prop := va_Ql (S := (Nat × Bool) × m_M) (fun r u => K r.toInt u.1 u.2) (m_B G) (m_A G)
def m_Qv (G : m_G) (K : Nat × Bool → m_M → Prop) : Array Value → State → Outcome → State → Prop := va_Qv (S := (Nat × Bool) × m_M) (fun u => K u.1 u.2) (m_B G) (m_A G)
/-- a call of Y with these arguments at this memory returns, and then K holds -/
def m_Ci (G : m_G) (d mc ms : Nat) (Y : m_Y) (S : Nat × Bool) (As : List m_V) (μ : m_M) (K : Int → Nat × Bool → m_M → Prop) : Prop := Met G.2.2.2.2.2.2 Y.1 (m_ws Y) (m_rm d mc ms) (m_Pc G S As μ) (m_Qi G K) mc ms (m_A G)
def m_Cl (G : m_G) (d mc ms : Nat) (Y : m_Y) (S : Nat × Bool) (As : List m_V) (μ : m_M) (K : Int → Nat × Bool → m_M → Prop) : Prop := Met G.2.2.2.2.2.2 Y.1 (m_ws Y) (m_rm d mc ms) (m_Pc G S As μ) (m_Ql G K) mc ms (m_A G)
def m_Cv (G : m_G) (d mc ms : Nat) (Y : m_Y) (S : Nat × Bool) (As : List m_V) (μ : m_M) (K : Nat × Bool → m_M → Prop) : Prop := Met G.2.2.2.2.2.2 Y.1 (m_ws Y) (m_rm d mc ms) (m_Pc G S As μ) (m_Qv G K) mc ms (m_A G)
def m_Ri (G : m_G) (X : m_X) (mc ms : Nat) (K : Int → Nat × Bool → m_M → Prop) : Prop := match X with
  | (_, _, _, _, s, _, args, below, _, _, Qf) => Qf = MQ below (m_Qi G K) args s mc ms (m_A G)
def m_Rl (G : m_G) (X : m_X) (mc ms : Nat) (K : Int → Nat × Bool → m_M → Prop) : Prop := match X with
  | (_, _, _, _, s, _, args, below, _, _, Qf) => Qf = MQ below (m_Ql G K) args s mc ms (m_A G)
def m_Rv (G : m_G) (X : m_X) (mc ms : Nat) (K : Nat × Bool → m_M → Prop) : Prop := match X with
  | (_, _, _, _, s, _, args, below, _, _, Qf) => Qf = MQ below (m_Qv G K) args s mc ms (m_A G)
section MRT
variable {G : m_G} {X : m_X} {Y : m_Y} {d mc ms : Nat} {S : Nat × Bool × Nat × Nat} {μ : m_M} {pc : Nat} {lv : List (Option m_V)} {st : List m_V}
theorem m_iret (C : m_Cx G X Y d mc ms) {K : Int → Nat × Bool → m_M → Prop} (hR : m_Ri G X mc ms K) {x : Int} (hr : Y.2.2.2 = some .int) (hd : decode Y.2.1 pc = .ok (.ireturn, 1)) (h1 : S.2.2.1 ≤ mc) (h2 : S.2.2.2 ≤ ms) (hK : K x (S.1, S.2.1) μ) : m_W G X Y S μ pc lv [vI x] := by
  obtain ⟨p, l, e, R, s, m, args, below, meth, c, Qf⟩ := X
  obtain ⟨hx, hb, -, hrt, hlk, -⟩ := C
  intro H locs ls hP hf hS ho hl
  have hQ : Qf = MQ below (m_Qi G K) args s mc ms (m_A G) := hR
  subst hQ
  have hx32 : in32 x := ok_hdI ho
  refine W.widen h1 h2 ?_
  exact W.iret (v := Int32.ofInt x) hx hb (by rw [hrt]; exact hr) (fun t ht hW => ⟨⟨Int32.ofInt x, ((S.1, S.2.1), μ), rfl, by show K (Int32.ofInt x).toInt _ _; rw [t32 hx32]; exact hK, ⟨by rw [ht]; exact hP, hf⟩⟩, hS.F ht⟩) hS.2.2 hd hlk
theorem m_zret (C : m_Cx G X Y d mc ms) {K : Int → Nat × Bool → m_M → Prop} (hR : m_Ri G X mc ms K) {x : Int} (hr : Y.2.2.2 = some .boolean) (hd : decode Y.2.1 pc = .ok (.ireturn, 1)) (h1 : S.2.2.1 ≤ mc) (h2 : S.2.2.2 ≤ ms) (hx01 : x = 0 ∨ x = 1) (hK : K x (S.1, S.2.1) μ) : m_W G X Y S μ pc lv [vI x] := by
  obtain ⟨p, l, e, R, s, m, args, below, meth, c, Qf⟩ := X
  obtain ⟨hx, hb, -, hrt, hlk, -⟩ := C
  intro H locs ls hP hf hS ho hl
  have hQ : Qf = MQ below (m_Qi G K) args s mc ms (m_A G) := hR
  subst hQ
  have hx32 : in32 x := ok_hdI ho
  refine W.widen h1 h2 ?_
  exact W.zret (v := Int32.ofInt x) (ty := .boolean) hx hb (by rw [hrt]; exact hr) (by rcases hx01 with h | h <;> subst h <;> rfl) (fun t ht hW => ⟨⟨Int32.ofInt x, ((S.1, S.2.1), μ), rfl, by show K (Int32.ofInt x).toInt _ _; rw [t32 hx32]; exact hK, ⟨by rw [ht]; exact hP, hf⟩⟩, hS.F ht⟩) hS.2.2 hd hlk
theorem m_lret (C : m_Cx G X Y d mc ms) {K : Int → Nat × Bool → m_M → Prop} (hR : m_Rl G X mc ms K) {x : Int} (hr : Y.2.2.2 = some .long) (hd : decode Y.2.1 pc = .ok (.lreturn, 1)) (h1 : S.2.2.1 ≤ mc) (h2 : S.2.2.2 ≤ ms) (hK : K x (S.1, S.2.1) μ) : m_W G X Y S μ pc lv [vJ x] := by
  obtain ⟨p, l, e, R, s, m, args, below, meth, c, Qf⟩ := X
  obtain ⟨hx, hb, -, hrt, hlk, -⟩ := C
  intro H locs ls hP hf hS ho hl
  have hQ : Qf = MQ below (m_Ql G K) args s mc ms (m_A G) := hR
  subst hQ
  have hx64 : in64 x := ok_hdJ ho
  refine W.widen h1 h2 ?_
  exact W.lret (v := Int64.ofInt x) hx hb (by rw [hrt]; exact hr) (fun t ht hW => ⟨⟨Int64.ofInt x, ((S.1, S.2.1), μ), rfl, by show K (Int64.ofInt x).toInt _ _; rw [t64 hx64]; exact hK, ⟨by rw [ht]; exact hP, hf⟩⟩, hS.F ht⟩) hS.2.2 hd hlk
theorem m_vret (C : m_Cx G X Y d mc ms) {K : Nat × Bool → m_M → Prop} (hR : m_Rv G X mc ms K) (hr : Y.2.2.2 = none) (hd : decode Y.2.1 pc = .ok (.return_, 1)) (h1 : S.2.2.1 ≤ mc) (h2 : S.2.2.2 ≤ ms) (hK : K (S.1, S.2.1) μ) : m_W G X Y S μ pc lv [] := by
  obtain ⟨p, l, e, R, s, m, args, below, meth, c, Qf⟩ := X
  obtain ⟨hx, hb, -, hrt, hlk, -⟩ := C
  intro H locs ls hP hf hS ho hl
  have hQ : Qf = MQ below (m_Qv G K) args s mc ms (m_A G) := hR
  subst hQ
  refine W.widen h1 h2 ?_
  exact W.vret hx hb (by rw [hrt]; exact hr) (fun t ht hW => ⟨⟨((S.1, S.2.1), μ), rfl, hK, ⟨by rw [ht]; exact hP, hf⟩⟩, hS.F ht⟩) hS.2.2 hd hlk
end MRT
/-! beginnings -/
def m_sl : List m_V → List (Option m_V)
  | [] => []
  | v :: r => match v with
    | .inr (.inl _) => some v :: none :: m_sl r
    | _ => some v :: m_sl r
def m_lvA (As : List m_V) (nL : Nat) : List (Option m_V) := m_sl As ++ List.replicate (nL - (m_sl As).length) none
theorem m_sl_len (G : m_G) (As : List m_V) : (lg_sl (As.map (m_rv G))).length = (m_sl As).length := by
  induction As with
  | nil => rfl
  | cons v r ih =>
    rcases v with x | x | _ | q
    · show (_ :: lg_sl (r.map (m_rv G))).length = _; simp only [List.length_cons, ih, m_sl]
    · show (_ :: _ :: lg_sl (r.map (m_rv G))).length = _; simp only [List.length_cons, ih, m_sl]
    · show (_ :: lg_sl (r.map (m_rv G))).length = _; simp only [List.length_cons, ih, m_sl]
    · show (_ :: lg_sl (r.map (m_rv G))).length = _; simp only [List.length_cons, ih, m_sl]
theorem m_sl_at (G : m_G) : ∀ (As : List m_V) (i b : Nat) (v : m_V), (m_sl As)[i]? = some (some v) → (b + i, m_rv G v) ∈ lv_args b (As.map (m_rv G)) ∧ v ∈ As := by
  intro As
  induction As with
  | nil => intro i b v h; cases h
  | cons a r ih =>
    intro i b v h
    have one : ∀ (hc : (m_rv G a).category ≠ 2) (h : (some a :: m_sl r)[i]? = some (some v)), (b + i, m_rv G v) ∈ lv_args b ((a :: r).map (m_rv G)) ∧ v ∈ a :: r := by
      intro hc h
      show _ ∈ (b, m_rv G a) :: lv_args (if (m_rv G a).category = 2 then b + 2 else b + 1) (r.map (m_rv G)) ∧ _
      rw [if_neg hc]
      cases i with
      | zero => cases h; exact ⟨List.mem_cons_self, List.mem_cons_self⟩
      | succ i =>
        obtain ⟨h1, h2⟩ := ih i (b + 1) v h
        exact ⟨List.mem_cons_of_mem _ (by rw [show b + (i + 1) = b + 1 + i by omega]; exact h1), List.mem_cons_of_mem _ h2⟩
    rcases a with x | x | _ | q
    · exact one (by show ¬ 1 = 2; decide) h
    · show _ ∈ (b, m_rv G (.inr (.inl x))) :: lv_args (b + 2) (r.map (m_rv G)) ∧ _
      have h : (some (.inr (.inl x)) :: none :: m_sl r)[i]? = some (some v) := h
      match i, h with
      | 0, h => cases h; exact ⟨List.mem_cons_self, List.mem_cons_self⟩
      | 1, h => cases h
      | i + 2, h =>
        obtain ⟨h1, h2⟩ := ih i (b + 2) v h
        exact ⟨List.mem_cons_of_mem _ (by rw [show b + (i + 2) = b + 2 + i by omega]; exact h1), List.mem_cons_of_mem _ h2⟩
    · exact one (by show ¬ 1 = 2; decide) h
    · exact one (by show ¬ 1 = 2; decide) h
theorem m_lvA_ok (G : m_G) (As : List m_V) (nL : Nat) (h : (m_sl As).length ≤ nL) (hok : ∀ v ∈ As, m_ok v) : m_lv G ((lg_sl (As.map (m_rv G)) ++ List.replicate (nL - (lg_sl (As.map (m_rv G))).length) Slot.unset).toArray) nL (m_lvA As nL) := by
  have he := lv_entry (As.map (m_rv G)) (n := nL) (by rw [m_sl_len]; exact h)
  refine ⟨⟨he.1, he.2.1, fun q hq => by cases hq⟩, fun i v hi => ?_⟩
  unfold m_lvA at hi
  by_cases hlt : i < (m_sl As).length
  · rw [List.getElem?_append_left hlt] at hi
    obtain ⟨h1, h2⟩ := m_sl_at G As i 0 v hi
    rw [Nat.zero_add] at h1
    exact ⟨he.2.2 _ h1, hok v h2⟩
  · rw [List.getElem?_append_right (by omega), List.getElem?_replicate] at hi
    split at hi <;> cases hi
theorem m_enter {G : m_G} {Y : m_Y} {d mc ms : Nat} {S : Nat × Bool} {As : List m_V} {μ : m_M} {Qc : Array Value → State → Outcome → State → Prop} (hy : plainName Y.1.cls = true) (hL : (m_sl As).length ≤ Y.2.2.1) (hZ : m_Zk G)
    (h : ∀ X : m_X, m_Cx G X Y d mc ms → (match X with | (_, _, _, _, s, _, args, below, _, _, Qf) => Qf = MQ below Qc args s mc ms (m_A G)) → m_W G X Y (S.1, S.2, 0, 0) μ 0 (m_lvA As Y.2.2.1) []) : Met G.2.2.2.2.2.2 Y.1 (m_ws Y) (m_rm d mc ms) (m_Pc G S As μ) Qc mc ms (m_A G) := by
  refine Met.ofW (cc := Y.2.1) (maxL := Y.2.2.1) (ret := Y.2.2.2) hy rfl ?_
  intro p e s m args below meth c s₁ B hml hv
  obtain ⟨rfl, hP, hf, hK, hok⟩ := hv
  have hts := atoms_spec (ws := m_ws Y) B.pre
  have hown : s.vm.findClass Y.1.cls = some m.cls := findClass_of_methodNamed B.named
  have hnm : meth.name = Y.1.name := (name_of_methodNamed B.named B.method).1
  rw [lg_entry_eq]
  have hW := h (p, G.2.2.2.2.2.2, e, (headSpec (m_ws Y) (m_rm d mc ms)).room, s, m, (As.map (m_rv G)).toArray, below, meth, c, MQ below Qc (As.map (m_rv G)).toArray s mc ms (m_A G)) ⟨B.exec, B.bytes, hml, B.returns, B.notSynchronized, hnm, hown, fun w hw => hts w (List.mem_cons_of_mem _ hw), hK, hZ, Nat.le_refl _, Nat.le_refl _, Nat.le_refl _, Nat.le_refl _, rfl⟩ rfl
  exact hW s.heap [] _ hP hf va_S.rf (fun v hv => by cases hv) (m_lvA_ok G As Y.2.2.1 hL hok)
/-! calls -/
theorem m_good {w : Cond} (h : w ∈ m_w) : (w.onTables && w.keeps) = true ∨ ∃ ty, w = .arrayClass ty := good_of_word (List.mem_filter.mp h).2
theorem m_goodIn {ws : List Cond} (h : ∀ w ∈ ws, w ∈ m_w) : GoodIn m_w ws := fun w hw => ⟨h w hw, m_good (h w hw)⟩
def m_np (Y : m_Y) (n : Nat) : Prop := Y.1.cls ≠ "java/lang/invoke/MethodHandle" ∧ Y.1.cls ≠ "java/lang/invoke/VarHandle" ∧ (parseMethodDescriptor Y.1.desc).map (fun d => d.parameters.length) = some n
def m_co (Y : m_Y) : Prop := Cond.code Y.1 Y.2.1 Y.2.2.1 Y.2.2.2 ∈ m_w ∧ Cond.initialized Y.1.cls ∈ m_w ∧ Y.2.2.1 ≤ 40
/-- a call's words: virtual, static, a constructor, a nest mate's constructor -/
def m_LV (own : String) (idx : Nat) (Y : m_Y) (n : Nat) : Prop := m_co Y ∧ m_np Y n ∧ Cond.methodLink own idx Y.1 ∈ m_w ∧ Cond.instanceMethod Y.1 ∈ m_w ∧ Cond.selects Y.1.cls Y.1 Y.1 ∈ m_w
def m_LS (own : String) (idx : Nat) (Y : m_Y) (n : Nat) : Prop := m_co Y ∧ m_np Y n ∧ Cond.methodLink own idx Y.1 ∈ m_w ∧ Cond.static Y.1 ∈ m_w
def m_LI (own : String) (idx : Nat) (Y : m_Y) (n : Nat) : Prop := m_co Y ∧ m_np Y n ∧ (Cond.methodLink own idx Y.1 ∈ m_w ∨ Cond.methodLinkNest own idx Y.1 "KilnBench" ∈ m_nest) ∧ Cond.instanceMethod Y.1 ∈ m_w ∧ Y.1.name = "<init>" ∧ Y.2.2.2 = none
def m_cat (v : m_V) : Nat := match v with
  | .inr (.inl _) => 2
  | _ => 1
theorem m_cat_rv (G : m_G) (v : m_V) : (m_rv G v).category = m_cat v := by rcases v with x | x | _ | q <;> rfl
theorem m_cats (G : m_G) (st : List m_V) : ((st.map (m_rv G)).map fun v => v.category).sum = (st.map m_cat).sum := by
  rw [List.map_map]
  congr 1
  apply List.map_congr_left
  intro v _
  exact m_cat_rv G v
theorem m_Pc_blind (G : m_G) (hZ : m_Zk G) (S : Nat × Bool) (As : List m_V) (μ : m_M) : FrameBlind (m_Pc G S As μ) := by
  intro a U g mk q
  obtain ⟨q0, q1, q2, q3, q4⟩ := q
  exact ⟨q0, q1, q2, m_K.move hZ (s := U) (U := U.calling g mk a) (locs := []) q3 va_S.rf rfl (by exact State.WarmedH.refl U), q4⟩
