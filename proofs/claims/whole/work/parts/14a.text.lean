/-! ===== the text of own words: String.length, String.charAt ===== -/
def t_tx : String := "child clay grit kiln room temper cracks sticks burns fuel load wind heat week place rings near grits full if or and not all min max "
def t_by : List Int32 := [99, 104, 105, 108, 100, 32, 99, 108, 97, 121, 32, 103, 114, 105, 116, 32, 107, 105, 108, 110, 32, 114, 111, 111, 109, 32, 116, 101, 109, 112, 101, 114, 32, 99, 114, 97, 99, 107, 115, 32, 115, 116, 105, 99, 107, 115, 32, 98, 117, 114, 110, 115, 32, 102, 117, 101, 108, 32, 108, 111, 97, 100, 32, 119, 105, 110, 100, 32, 104, 101, 97, 116, 32, 119, 101, 101, 107, 32, 112, 108, 97, 99, 101, 32, 114, 105, 110, 103, 115, 32, 110, 101, 97, 114, 32, 103, 114, 105, 116, 115, 32, 102, 117, 108, 108, 32, 105, 102, 32, 111, 114, 32, 97, 110, 100, 32, 110, 111, 116, 32, 97, 108, 108, 32, 109, 105, 110, 32, 109, 97, 120, 32]
def t_Z (A : Nat → Prop) (aS aV : Nat) (vF : Value) (U : State) : Prop := vk_R "KilnBench$Reader" 43 t_tx aS U ∧ va_O "java/lang/String" aS A U U.heap ∧ va_OF "java/lang/String" "coder" "B" (.int 0) aS A U U.heap ∧ va_OF "java/lang/String" "value" "[B" (.ref aV) aS A U U.heap ∧ va_T .byte aV 132 (fun j => .int (t_by.getD j 0)) A U U.heap ∧ va_Z "java/lang/String" "COMPACT_STRINGS" "Z" (.int 1) A U U.heap ∧ va_Z "jdk/internal/util/Preconditions" "SIOOBE_FORMATTER" "Ljava/util/function/BiFunction;" vF A U U.heap
theorem t_Z.mv {A : Nat → Prop} {aS aV : Nat} {vF : Value} {s U : State} (h : t_Z A aS aV vF s) (hW : s.WarmedH U.vm) (hk : ∀ q : Nat, q < s.heap.size → ¬ A q → U.heap[q]? = s.heap[q]?) : t_Z A aS aV vF U := by
  obtain ⟨h1, h2, h3, h4, h5, h6, h7⟩ := h
  exact ⟨h1.warm hW, va_O.moved hW.alike (h2.kept hk), (h3.kept hk).moved hW.alike, (h4.kept hk).moved hW.alike, (h5.kept hk).moved hW.alike, (h6.kept hk).moved hW.alike, (h7.kept hk).moved hW.alike⟩
abbrev YJ3_checkIndex : m_Y := (yJ3_checkIndex_8e157, cJ3_checkIndex_8e157, 3, some .int)
abbrev YJ0_checkIndex : m_Y := (yJ0_checkIndex_df160, cJ0_checkIndex_df160, 2, none)
abbrev YJ1_charAt : m_Y := (yJ1_charAt_3b067, cJ1_charAt_3b067, 2, some .char)
abbrev YJ0_isLatin1 : m_Y := (yJ0_isLatin1_aae02, cJ0_isLatin1_aae02, 1, some .boolean)
abbrev YJ0_coder : m_Y := (yJ0_coder_7d493, cJ0_coder_7d493, 1, some .byte)
abbrev YJ0_length : m_Y := (yJ0_length_8abf5, cJ0_length_8abf5, 1, some .int)
abbrev YJ0_charAt : m_Y := (yJ0_charAt_5068e, cJ0_charAt_5068e, 2, some .char)
theorem ls_J3_ci : m_LS "java/lang/String" 1059 YJ3_checkIndex 3 := ⟨⟨m_mem 260 (by decide +kernel) rfl, m_mem 115 (by decide +kernel) rfl, by decide⟩, ⟨by decide, by decide, by decide +kernel⟩, m_mem 258 (by decide +kernel) rfl, m_mem 259 (by decide +kernel) rfl⟩
theorem ls_J0_ci : m_LS "java/lang/StringLatin1" 9 YJ0_checkIndex 2 := ⟨⟨m_mem 255 (by decide +kernel) rfl, m_mem 113 (by decide +kernel) rfl, by decide⟩, ⟨by decide, by decide, by decide +kernel⟩, m_mem 253 (by decide +kernel) rfl, m_mem 254 (by decide +kernel) rfl⟩
theorem ls_J1_ch : m_LS "java/lang/String" 495 YJ1_charAt 2 := ⟨⟨m_mem 252 (by decide +kernel) rfl, m_mem 114 (by decide +kernel) rfl, by decide⟩, ⟨by decide, by decide, by decide +kernel⟩, m_mem 250 (by decide +kernel) rfl, m_mem 251 (by decide +kernel) rfl⟩
theorem lv_J0_la : m_LV "java/lang/String" 492 YJ0_isLatin1 0 := ⟨⟨m_mem 249 (by decide +kernel) rfl, m_mem 113 (by decide +kernel) rfl, by decide⟩, ⟨by decide, by decide, by decide +kernel⟩, m_mem 246 (by decide +kernel) rfl, m_mem 247 (by decide +kernel) rfl, m_mem 248 (by decide +kernel) rfl⟩
theorem lv_J0_co : m_LV "java/lang/String" 335 YJ0_coder 0 := ⟨⟨m_mem 239 (by decide +kernel) rfl, m_mem 113 (by decide +kernel) rfl, by decide⟩, ⟨by decide, by decide, by decide +kernel⟩, m_mem 236 (by decide +kernel) rfl, m_mem 237 (by decide +kernel) rfl, m_mem 238 (by decide +kernel) rfl⟩
theorem lv_J0_le : m_LV "KilnBench$Reader" 45 YJ0_length 0 := ⟨⟨m_mem 235 (by decide +kernel) rfl, m_mem 113 (by decide +kernel) rfl, by decide⟩, ⟨by decide, by decide, by decide +kernel⟩, m_mem 232 (by decide +kernel) rfl, m_mem 233 (by decide +kernel) rfl, m_mem 234 (by decide +kernel) rfl⟩
theorem lv_J0_ch : m_LV "KilnBench$Reader" 50 YJ0_charAt 1 := ⟨⟨m_mem 245 (by decide +kernel) rfl, m_mem 113 (by decide +kernel) rfl, by decide⟩, ⟨by decide, by decide, by decide +kernel⟩, m_mem 242 (by decide +kernel) rfl, m_mem 243 (by decide +kernel) rfl, m_mem 244 (by decide +kernel) rfl⟩
theorem w_J0_38 : Cond.fieldLink "java/lang/String" 38 "java/lang/String" "COMPACT_STRINGS" "Z" ∈ m_w := m_mem 240 (by decide +kernel) rfl
theorem w_J0_1053 : Cond.fieldLink "java/lang/String" 1053 "jdk/internal/util/Preconditions" "SIOOBE_FORMATTER" "Ljava/util/function/BiFunction;" ∈ m_w := m_mem 256 (by decide +kernel) rfl
theorem w_J0_9 : Cond.fieldLink "java/lang/String" 9 "java/lang/String" "value" "[B" ∈ m_w := m_mem 1877 (by decide +kernel) rfl
theorem w_J0_15 : Cond.fieldLink "java/lang/String" 15 "java/lang/String" "coder" "B" ∈ m_w := m_mem 1878 (by decide +kernel) rfl
/-- a call with these values at this memory returns r and leaves all as it is -/
def s_Pc (G : m_G) (S : Nat × Bool) (As : List Value) (μ : m_M) : Array Value → State → Prop := va_Pc As (fun U => m_Pic G S.1 μ U.heap ∧ m_fu S.2 S.1 μ ∧ m_K G U)
def s_Ci (G : m_G) (d : Nat) (Y : m_Y) (S : Nat × Bool) (As : List Value) (μ : m_M) (r : Int32) : Prop := Met G.2.2.2.2.2.2 Y.1 (m_ws Y) (m_rm d 0 0) (s_Pc G S As μ) (va_Qi (S := Unit) (fun x _ => x = r) (fun _ t => m_Pic G S.1 μ t.heap) (m_A G)) 0 0 (m_A G)
def s_Cv (G : m_G) (d : Nat) (Y : m_Y) (S : Nat × Bool) (As : List Value) (μ : m_M) : Prop := Met G.2.2.2.2.2.2 Y.1 (m_ws Y) (m_rm d 0 0) (s_Pc G S As μ) (va_Qv (S := Unit) (fun _ => True) (fun _ t => m_Pic G S.1 μ t.heap) (m_A G)) 0 0 (m_A G)
theorem s_Pc_blind (G : m_G) (hZ : m_Zk G) (S : Nat × Bool) (As : List Value) (μ : m_M) : FrameBlind (s_Pc G S As μ) := by
  intro a U g mk q
  obtain ⟨q0, q1, q2, q3⟩ := q
  exact ⟨q0, q1, q2, m_K.move hZ (s := U) (U := U.calling g mk a) (locs := []) q3 va_S.rf rfl (by exact State.WarmedH.refl U)⟩
theorem s_enter {G : m_G} {Y : m_Y} {d : Nat} {S : Nat × Bool} {As : List Value} {μ : m_M} {Qc : Array Value → State → Outcome → State → Prop} (hy : plainName Y.1.cls = true) (hL : (lg_sl As).length ≤ Y.2.2.1) (hZ : m_Zk G)
    (h : ∀ (p : Program) (e : Env) (R : Room) (s : State) (m : MethodId) (below : List Frame) (meth : Method) (c : Code), m_Cx G (p, G.2.2.2.2.2.2, e, R, s, m, As.toArray, below, meth, c, MQ below Qc As.toArray s 0 0 (m_A G)) Y d 0 0 → m_Pic G S.1 μ s.heap → m_fu S.2 S.1 μ → ∀ ls, lv_has ls Y.2.2.1 (lv_args 0 As) → W p G.2.2.2.2.2.2 e R s m As.toArray below meth c s.heap [] 0 0 (MQ below Qc As.toArray s 0 0 (m_A G)) (F0 m 0 ls [])) : Met G.2.2.2.2.2.2 Y.1 (m_ws Y) (m_rm d 0 0) (s_Pc G S As μ) Qc 0 0 (m_A G) := by
  refine Met.ofW (cc := Y.2.1) (maxL := Y.2.2.1) (ret := Y.2.2.2) hy rfl ?_
  intro p e s m args below meth c s₁ B hml hv
  obtain ⟨rfl, hP, hf, hK⟩ := hv
  have hts := atoms_spec (ws := m_ws Y) B.pre
  have hown : s.vm.findClass Y.1.cls = some m.cls := findClass_of_methodNamed B.named
  have hnm : meth.name = Y.1.name := (name_of_methodNamed B.named B.method).1
  rw [lg_entry_eq]
  exact h p e _ s m below meth c ⟨B.exec, B.bytes, hml, B.returns, B.notSynchronized, hnm, hown, fun w hw => hts w (List.mem_cons_of_mem _ hw), hK, hZ, Nat.le_refl _, Nat.le_refl _, Nat.le_refl _, Nat.le_refl _, rfl⟩ hP hf _ (lv_entry As hL)
section SC
variable {G : m_G} {Y : m_Y} {d : Nat} {S : Nat × Bool} {μ : m_M} {p : Program} {l : Launch} {e : Env} {R : Room} {s : State} {m : MethodId} {args : Array Value} {below : List Frame} {meth : Method} {c : Code} {Qf : State → Prop} {pc : Nat} {ls : Array Slot} {H : Heap} {locs : List Loc} {kc ks mc ms : Nat}
theorem s_callV (C : m_Cx G (p, l, e, R, s, m, args, below, meth, c, Qf) Y (d + 1) mc ms) {idx a n : Nat} {Y' : m_Y} {As st : List Value} {r : Int32} (hd : decode Y.2.1 pc = .ok (.invokevirtual idx, 3)) (hL : m_LV Y.1.cls idx Y' n) (hc : va_O Y'.1.cls a (m_A G) s s.heap) (hn : As.length = n) (hw : (st.map fun v => v.category).sum ≤ 8) (h1 : kc ≤ mc) (h2 : ks ≤ ms) (hM : s_Ci G d Y' S (.ref a :: As) μ r) (hP : m_Pic G S.1 μ H) (hf : m_fu S.2 S.1 μ) (hS : va_S (m_A G) s.heap H locs) (hl : ls.size = Y.2.2.1)
    (k : ∀ H1 locs1, m_Pic G S.1 μ H1 → va_S (m_A G) s.heap H1 locs1 → W p l e R s m args below meth c H1 locs1 kc ks Qf (F0 m (pc + 3) ls (.int r :: st))) : W p l e R s m args below meth c H locs kc ks Qf (F0 m pc ls (As.reverse ++ .ref a :: st)) := by
  obtain ⟨hx, hb, hml, hrt, hlk, hnm, hown, hts, hK, hZ, hfr, hlo, hce, hsl, hll⟩ := C
  have hll : l = G.2.2.2.2.2.2 := hll
  subst hll
  obtain ⟨⟨l1, l2, l3⟩, l4, l5, l6, l7⟩ := hL
  obtain ⟨cell, q1, q2, q3, -⟩ := hc.kept hS.2.1
  have hG : GoodIn m_w (wsV Y.1.cls idx Y'.1.cls Y'.1 (m_ws Y')) := m_goodIn (fun w hw => by
    rcases List.mem_append.mp hw with h | h
    · simp only [List.mem_cons, List.not_mem_nil, or_false] at h
      rcases h with rfl | rfl | rfl | rfl
      · exact l5
      · exact l6
      · exact l7
      · exact l2
    · rcases List.mem_cons.mp h with rfl | h
      · exact l1
      · exact h)
  have run := va_runV (As := As) (rest := st) (b := a) (g := F0 m pc ls (As.reverse ++ .ref a :: st)) (below := below) (meth := meth) (e := e) (locs := locs) (cells := kc) (slots := ks) (H := H) ⟨hx, hb, hml, hown, hts⟩ hM (cwV n hts hG rfl rfl rfl ⟨rfl, l4⟩ ⟨hfr, by show 8 + (Y'.2.2.1 + 11) + 60 * d ≤ R.locals; omega⟩) ⟨s_Pc_blind G hZ _ _ _, ⟨cell, q1, q2, q3⟩, fun U hU hW => ⟨rfl, by rw [hU]; exact hP, hf, m_K.move hZ hK hS hU hW⟩⟩ rfl hn hl rfl (by show 2 * 0 + _ ≤ 8; omega) hd ⟨by omega, by omega⟩
  refine va_calli run hS (fun q _ h => h) (fun q h => h) (fun r' u t H1 locs1 ht hvm hw1 hB hz1 hk1 hS1 => ?_)
  have hB1 : m_Pic G S.1 μ t.heap := hB
  rw [ht] at hB1
  have hw1 : r' = r := hw1
  subst hw1
  exact k H1 locs1 hB1 hS1
theorem s_callS (C : m_Cx G (p, l, e, R, s, m, args, below, meth, c, Qf) Y (d + 1) mc ms) {idx n : Nat} {Y' : m_Y} {As st : List Value} {r : Int32} (hd : decode Y.2.1 pc = .ok (.invokestatic idx, 3)) (hL : m_LS Y.1.cls idx Y' n) (hn : As.length = n) (hw : (st.map fun v => v.category).sum ≤ 8) (h1 : kc ≤ mc) (h2 : ks ≤ ms) (hM : s_Ci G d Y' S As μ r) (hP : m_Pic G S.1 μ H) (hf : m_fu S.2 S.1 μ) (hS : va_S (m_A G) s.heap H locs) (hl : ls.size = Y.2.2.1)
    (k : ∀ H1 locs1, m_Pic G S.1 μ H1 → va_S (m_A G) s.heap H1 locs1 → W p l e R s m args below meth c H1 locs1 kc ks Qf (F0 m (pc + 3) ls (.int r :: st))) : W p l e R s m args below meth c H locs kc ks Qf (F0 m pc ls (As.reverse ++ st)) := by
  obtain ⟨hx, hb, hml, hrt, hlk, hnm, hown, hts, hK, hZ, hfr, hlo, hce, hsl, hll⟩ := C
  have hll : l = G.2.2.2.2.2.2 := hll
  subst hll
  obtain ⟨⟨l1, l2, l3⟩, l4, l5, l6⟩ := hL
  have hG : GoodIn m_w (va_wsS Y.1.cls idx Y'.1 (m_ws Y')) := m_goodIn (fun w hw => by
    rcases List.mem_append.mp hw with h | h
    · simp only [List.mem_cons, List.not_mem_nil, or_false] at h
      rcases h with rfl | rfl | rfl
      · exact l5
      · exact l6
      · exact l2
    · rcases List.mem_cons.mp h with rfl | h
      · exact l1
      · exact h)
  have run := va_runS (As := As) (rest := st) (g := F0 m pc ls (As.reverse ++ st)) (below := below) (meth := meth) (e := e) (locs := locs) (cells := kc) (slots := ks) (H := H) ⟨hx, hb, hml, hown, hts⟩ hM (va_cwS n hts hG rfl rfl rfl l4 ⟨hfr, by show 8 + (Y'.2.2.1 + 11) + 60 * d ≤ R.locals; omega⟩) ⟨s_Pc_blind G hZ _ _ _, fun U hU hW => ⟨rfl, by rw [hU]; exact hP, hf, m_K.move hZ hK hS hU hW⟩⟩ rfl hn hl rfl (by show 2 * 0 + _ ≤ 8; omega) hd ⟨by omega, by omega⟩
  refine va_calli run hS (fun q _ h => h) (fun q h => h) (fun r' u t H1 locs1 ht hvm hw1 hB hz1 hk1 hS1 => ?_)
  have hB1 : m_Pic G S.1 μ t.heap := hB
  rw [ht] at hB1
  have hw1 : r' = r := hw1
  subst hw1
  exact k H1 locs1 hB1 hS1
theorem s_callSv (C : m_Cx G (p, l, e, R, s, m, args, below, meth, c, Qf) Y (d + 1) mc ms) {idx n : Nat} {Y' : m_Y} {As st : List Value} (hd : decode Y.2.1 pc = .ok (.invokestatic idx, 3)) (hL : m_LS Y.1.cls idx Y' n) (hn : As.length = n) (hw : (st.map fun v => v.category).sum ≤ 8) (h1 : kc ≤ mc) (h2 : ks ≤ ms) (hM : s_Cv G d Y' S As μ) (hP : m_Pic G S.1 μ H) (hf : m_fu S.2 S.1 μ) (hS : va_S (m_A G) s.heap H locs) (hl : ls.size = Y.2.2.1)
    (k : ∀ H1 locs1, m_Pic G S.1 μ H1 → va_S (m_A G) s.heap H1 locs1 → W p l e R s m args below meth c H1 locs1 kc ks Qf (F0 m (pc + 3) ls st)) : W p l e R s m args below meth c H locs kc ks Qf (F0 m pc ls (As.reverse ++ st)) := by
  obtain ⟨hx, hb, hml, hrt, hlk, hnm, hown, hts, hK, hZ, hfr, hlo, hce, hsl, hll⟩ := C
  have hll : l = G.2.2.2.2.2.2 := hll
  subst hll
  obtain ⟨⟨l1, l2, l3⟩, l4, l5, l6⟩ := hL
  have hG : GoodIn m_w (va_wsS Y.1.cls idx Y'.1 (m_ws Y')) := m_goodIn (fun w hw => by
    rcases List.mem_append.mp hw with h | h
    · simp only [List.mem_cons, List.not_mem_nil, or_false] at h
      rcases h with rfl | rfl | rfl
      · exact l5
      · exact l6
      · exact l2
    · rcases List.mem_cons.mp h with rfl | h
      · exact l1
      · exact h)
  have run := va_runS (As := As) (rest := st) (g := F0 m pc ls (As.reverse ++ st)) (below := below) (meth := meth) (e := e) (locs := locs) (cells := kc) (slots := ks) (H := H) ⟨hx, hb, hml, hown, hts⟩ hM (va_cwS n hts hG rfl rfl rfl l4 ⟨hfr, by show 8 + (Y'.2.2.1 + 11) + 60 * d ≤ R.locals; omega⟩) ⟨s_Pc_blind G hZ _ _ _, fun U hU hW => ⟨rfl, by rw [hU]; exact hP, hf, m_K.move hZ hK hS hU hW⟩⟩ rfl hn hl rfl (by show 2 * 0 + _ ≤ 8; omega) hd ⟨by omega, by omega⟩
  refine va_callv run hS (fun q _ h => h) (fun q h => h) (fun u t H1 locs1 ht hvm hw1 hB hz1 hk1 hS1 => ?_)
  have hB1 : m_Pic G S.1 μ t.heap := hB
  rw [ht] at hB1
  exact k H1 locs1 hB1 hS1
end SC
theorem t_by_c : ∀ k, k < 132 → ((t_by.getD k 0 &&& 255).toUInt32 % 65536).toInt32 = t_by.getD k 0 := by decide +kernel
theorem t_by_n : ∀ k, k < 132 → narrow .char (.int (t_by.getD k 0)) = .int (t_by.getD k 0) := fun k hk => by
  show Value.int _ = _
  congr 1
  revert k
  decide +kernel
theorem k_32 {k : Nat} (hk : k < 132) : in32 (k : Int) := by unfold in32; omega
section SM
variable {G : m_G} {d aS aV : Nat} {vF : Value} {S : Nat × Bool} {μ : m_M}
theorem s_J3_ci (hZ : m_Zk G) {i n : Int32} {v : Value} (hv : v = .null ∨ ∃ a, v = .ref a) (h0 : ¬ i < 0) (h1 : i < n) : s_Ci G d YJ3_checkIndex S [.int i, .int n, v] μ i := by
  refine s_enter (by decide) (by rcases hv with rfl | ⟨a, rfl⟩ <;> exact Nat.le_of_ble_eq_true rfl) hZ (fun p e R s m below meth c C hP hf ls hl => ?_)
  obtain ⟨hx, hb, hml, hrt, hlk, hnm, hown, hts, hK, -, hfr, hlo, hce, hsl, hll⟩ := C
  have hS : va_S (m_A G) s.heap s.heap [] := va_S.rf
  have hl0 : ls[0]? = some (.val (.int i)) := by rcases hv with rfl | ⟨a, rfl⟩ <;> exact lv_at hl 0 rfl
  have hl1 : ls[1]? = some (.val (.int n)) := by rcases hv with rfl | ⟨a, rfl⟩ <;> exact lv_at hl 1 rfl
  refine lv_iload_n hx hb dJ3_checkIndex_8e157_0 rfl hl0 ?_
  refine lv_if_lt hx hb dJ3_checkIndex_8e157_1 (tgt := 9) rfl (fun z => absurd z h0) (fun _ => ?_)
  refine lv_iload_n hx hb dJ3_checkIndex_8e157_4 rfl hl0 ?_
  refine lv_iload_n hx hb dJ3_checkIndex_8e157_5 rfl hl1 ?_
  refine lv_icmp_lt hx hb dJ3_checkIndex_8e157_6 (tgt := 16) rfl (fun _ => ?_) (fun z => absurd h1 z)
  refine lv_iload_n hx hb dJ3_checkIndex_8e157_16 rfl hl0 ?_
  exact W.iret (v := i) hx hb hrt (fun t ht hW => ⟨⟨i, (), rfl, rfl, by show m_Pic G S.1 μ t.heap; rw [ht]; exact hP⟩, hS.F ht⟩) hS.2.2 dJ3_checkIndex_8e157_17 hlk
theorem s_J0_ci (hZ : m_Zk G) (hZe : G.2.2.2.2.2.1 = t_Z (m_A G) aS aV vF) (hv : vF = .null ∨ ∃ a, vF = .ref a) {i n : Int32} (h0 : ¬ i < 0) (h1 : i < n) : s_Cv G (d + 1) YJ0_checkIndex S [.int i, .int n] μ := by
  refine s_enter (by decide) (Nat.le_of_ble_eq_true rfl) hZ (fun p e R s m below meth c C hP hf ls hl => ?_)
  have C0 := C
  obtain ⟨hx, hb, hml, hrt, hlk, hnm, hown, hts, hK, -, hfr, hlo, hce, hsl, hll⟩ := C
  have hS : va_S (m_A G) s.heap s.heap [] := va_S.rf
  have hz := hK.2.2.2.2.2.2.2.2
  rw [hZe] at hz
  obtain ⟨z1, z2, z3, z4, z5, z6, z7⟩ := hz
  refine lv_iload_n hx hb dJ0_checkIndex_df160_0 rfl (lv_at hl 0 rfl) ?_
  refine lv_iload_n hx hb dJ0_checkIndex_df160_1 rfl (lv_at hl 1 rfl) ?_
  refine va_gets hx hb z7 hS hown (hts _ w_J0_1053) (fun _ h => h) dJ0_checkIndex_df160_2 ?_
  refine s_callS (As := [.int i, .int n, vF]) (st := []) (r := i) C0 dJ0_checkIndex_df160_5 ls_J3_ci rfl (Nat.zero_le _) (Nat.le_refl _) (Nat.le_refl _) (s_J3_ci hZ hv h0 h1) hP hf hS hl.1 (fun H1 locs1 hP1 hS1 => ?_)
  refine lv_pop hx hb dJ0_checkIndex_df160_8 rfl ?_
  exact W.vret hx hb hrt (fun t ht hW => ⟨⟨(), rfl, trivial, by show m_Pic G S.1 μ t.heap; rw [ht]; exact hP1⟩, hS1.F ht⟩) hS1.2.2 dJ0_checkIndex_df160_9 hlk
theorem s_J1_ch (hZ : m_Zk G) (hZe : G.2.2.2.2.2.1 = t_Z (m_A G) aS aV vF) (hv : vF = .null ∨ ∃ a, vF = .ref a) {k : Nat} (hk : k < 132) : s_Ci G (d + 2) YJ1_charAt S [.ref aV, .int (Int32.ofInt (k : Int))] μ (t_by.getD k 0) := by
  refine s_enter (by decide) (Nat.le_of_ble_eq_true rfl) hZ (fun p e R s m below meth c C hP hf ls hl => ?_)
  have C0 := C
  obtain ⟨hx, hb, hml, hrt, hlk, hnm, hown, hts, hK, -, hfr, hlo, hce, hsl, hll⟩ := C
  have hS : va_S (m_A G) s.heap s.heap [] := va_S.rf
  have hz := hK.2.2.2.2.2.2.2.2
  rw [hZe] at hz
  obtain ⟨z1, z2, z3, z4, z5, z6, z7⟩ := hz
  have hi := k_32 hk
  refine lv_iload_n hx hb dJ1_charAt_3b067_0 rfl (lv_at hl 1 rfl) ?_
  refine lv_aload_n hx hb dJ1_charAt_3b067_1 rfl (lv_at hl 0 rfl) ?_
  refine va_tlen hx hb z5 hS (v := 132) rfl dJ1_charAt_3b067_2 ?_
  refine s_callSv (As := [.int (Int32.ofInt (k : Int)), .int 132]) (st := []) C0 dJ1_charAt_3b067_3 ls_J0_ci rfl (Nat.zero_le _) (Nat.le_refl _) (Nat.le_refl _) (s_J0_ci hZ hZe hv (by rw [o32_0, o32_lt hi in32_0]; omega) (by rw [show (132 : Int32) = Int32.ofInt 132 from rfl, o32_lt hi (by unfold in32; omega)]; omega)) hP hf hS hl.1 (fun H1 locs1 hP1 hS1 => ?_)
  refine lv_aload_n hx hb dJ1_charAt_3b067_6 rfl (lv_at hl 0 rfl) ?_
  refine lv_iload_n hx hb dJ1_charAt_3b067_7 rfl (lv_at hl 1 rfl) ?_
  refine va_tb hx hb z5 hS1 (m_inr hi (by omega) (by omega)) (v := .int (t_by.getD k 0)) (by rw [o32_cl hi, Int.toNat_natCast]) dJ1_charAt_3b067_8 ?_
  refine lv_sipush hx hb dJ1_charAt_3b067_9 (v := 255) (by decide) ?_
  refine lv_iand hx hb dJ1_charAt_3b067_12 ?_
  refine lv_i2c hx hb dJ1_charAt_3b067_13 (v := t_by.getD k 0) (t_by_c k hk) ?_
  exact W.zret (v := t_by.getD k 0) (ty := .char) hx hb hrt (t_by_n k hk) (fun t ht hW => ⟨⟨t_by.getD k 0, (), rfl, rfl, by show m_Pic G S.1 μ t.heap; rw [ht]; exact hP1⟩, hS1.F ht⟩) hS1.2.2 dJ1_charAt_3b067_14 hlk
theorem s_J0_la (hZ : m_Zk G) (hZe : G.2.2.2.2.2.1 = t_Z (m_A G) aS aV vF) : s_Ci G d YJ0_isLatin1 S [.ref aS] μ 1 := by
  refine s_enter (by decide) (Nat.le_of_ble_eq_true rfl) hZ (fun p e R s m below meth c C hP hf ls hl => ?_)
  obtain ⟨hx, hb, hml, hrt, hlk, hnm, hown, hts, hK, -, hfr, hlo, hce, hsl, hll⟩ := C
  have hS : va_S (m_A G) s.heap s.heap [] := va_S.rf
  have hz := hK.2.2.2.2.2.2.2.2
  rw [hZe] at hz
  obtain ⟨z1, z2, z3, z4, z5, z6, z7⟩ := hz
  refine va_gets hx hb z6 hS hown (hts _ w_J0_38) (fun _ h => h) dJ0_isLatin1_aae02_0 ?_
  refine lv_if_eq hx hb dJ0_isLatin1_aae02_3 (tgt := 17) rfl (fun z => absurd z (by decide)) (fun _ => ?_)
  refine lv_aload_n hx hb dJ0_isLatin1_aae02_6 rfl (lv_at hl 0 rfl) ?_
  refine vk_getf hx hb z3 hS hown (hts _ w_J0_15) (fun _ h => h) dJ0_isLatin1_aae02_7 ?_
  refine lv_if_ne hx hb dJ0_isLatin1_aae02_10 (tgt := 17) rfl (fun z => absurd rfl z) (fun _ => ?_)
  refine lv_iconst (v := 1) hx hb dJ0_isLatin1_aae02_13 (by decide) ?_
  refine lv_goto hx hb dJ0_isLatin1_aae02_14 (tgt := 18) rfl ?_
  exact W.zret (v := 1) (ty := .boolean) hx hb hrt rfl (fun t ht hW => ⟨⟨1, (), rfl, rfl, by show m_Pic G S.1 μ t.heap; rw [ht]; exact hP⟩, hS.F ht⟩) hS.2.2 dJ0_isLatin1_aae02_18 hlk
theorem s_J0_co (hZ : m_Zk G) (hZe : G.2.2.2.2.2.1 = t_Z (m_A G) aS aV vF) : s_Ci G d YJ0_coder S [.ref aS] μ 0 := by
  refine s_enter (by decide) (Nat.le_of_ble_eq_true rfl) hZ (fun p e R s m below meth c C hP hf ls hl => ?_)
  obtain ⟨hx, hb, hml, hrt, hlk, hnm, hown, hts, hK, -, hfr, hlo, hce, hsl, hll⟩ := C
  have hS : va_S (m_A G) s.heap s.heap [] := va_S.rf
  have hz := hK.2.2.2.2.2.2.2.2
  rw [hZe] at hz
  obtain ⟨z1, z2, z3, z4, z5, z6, z7⟩ := hz
  refine va_gets hx hb z6 hS hown (hts _ w_J0_38) (fun _ h => h) dJ0_coder_7d493_0 ?_
  refine lv_if_eq hx hb dJ0_coder_7d493_3 (tgt := 13) rfl (fun z => absurd z (by decide)) (fun _ => ?_)
  refine lv_aload_n hx hb dJ0_coder_7d493_6 rfl (lv_at hl 0 rfl) ?_
  refine vk_getf hx hb z3 hS hown (hts _ w_J0_15) (fun _ h => h) dJ0_coder_7d493_7 ?_
  refine lv_goto hx hb dJ0_coder_7d493_10 (tgt := 14) rfl ?_
  exact W.zret (v := 0) (ty := .byte) hx hb hrt rfl (fun t ht hW => ⟨⟨0, (), rfl, rfl, by show m_Pic G S.1 μ t.heap; rw [ht]; exact hP⟩, hS.F ht⟩) hS.2.2 dJ0_coder_7d493_14 hlk
theorem s_J0_le (hZ : m_Zk G) (hZe : G.2.2.2.2.2.1 = t_Z (m_A G) aS aV vF) : s_Ci G (d + 1) YJ0_length S [.ref aS] μ 132 := by
  refine s_enter (by decide) (Nat.le_of_ble_eq_true rfl) hZ (fun p e R s m below meth c C hP hf ls hl => ?_)
  have C0 := C
  obtain ⟨hx, hb, hml, hrt, hlk, hnm, hown, hts, hK, -, hfr, hlo, hce, hsl, hll⟩ := C
  have hS : va_S (m_A G) s.heap s.heap [] := va_S.rf
  have hz := hK.2.2.2.2.2.2.2.2
  rw [hZe] at hz
  obtain ⟨z1, z2, z3, z4, z5, z6, z7⟩ := hz
  refine lv_aload_n hx hb dJ0_length_8abf5_0 rfl (lv_at hl 0 rfl) ?_
  refine vk_getf hx hb z4 hS hown (hts _ w_J0_9) (fun _ h => h) dJ0_length_8abf5_1 ?_
  refine va_tlen hx hb z5 hS (v := 132) rfl dJ0_length_8abf5_4 ?_
  refine lv_aload_n hx hb dJ0_length_8abf5_5 rfl (lv_at hl 0 rfl) ?_
  refine s_callV (As := []) (a := aS) (st := [.int 132]) (r := 0) C0 dJ0_length_8abf5_6 lv_J0_co z2 rfl (Nat.le_of_ble_eq_true rfl) (Nat.le_refl _) (Nat.le_refl _) (s_J0_co hZ hZe) hP hf hS hl.1 (fun H1 locs1 hP1 hS1 => ?_)
  refine lv_ishr hx hb dJ0_length_8abf5_9 ?_
  exact W.iret (v := 132) hx hb hrt (fun t ht hW => ⟨⟨132, (), rfl, rfl, by show m_Pic G S.1 μ t.heap; rw [ht]; exact hP1⟩, hS1.F ht⟩) hS1.2.2 dJ0_length_8abf5_10 hlk
theorem s_J0_ch (hZ : m_Zk G) (hZe : G.2.2.2.2.2.1 = t_Z (m_A G) aS aV vF) (hv : vF = .null ∨ ∃ a, vF = .ref a) {k : Nat} (hk : k < 132) : s_Ci G (d + 3) YJ0_charAt S [.ref aS, .int (Int32.ofInt (k : Int))] μ (t_by.getD k 0) := by
  refine s_enter (by decide) (Nat.le_of_ble_eq_true rfl) hZ (fun p e R s m below meth c C hP hf ls hl => ?_)
  have C0 := C
  obtain ⟨hx, hb, hml, hrt, hlk, hnm, hown, hts, hK, -, hfr, hlo, hce, hsl, hll⟩ := C
  have hS : va_S (m_A G) s.heap s.heap [] := va_S.rf
  have hz := hK.2.2.2.2.2.2.2.2
  rw [hZe] at hz
  obtain ⟨z1, z2, z3, z4, z5, z6, z7⟩ := hz
  refine lv_aload_n hx hb dJ0_charAt_5068e_0 rfl (lv_at hl 0 rfl) ?_
  refine s_callV (As := []) (a := aS) (st := []) (r := 1) C0 dJ0_charAt_5068e_1 lv_J0_la z2 rfl (Nat.zero_le _) (Nat.le_refl _) (Nat.le_refl _) (s_J0_la hZ hZe) hP hf hS hl.1 (fun H1 locs1 hP1 hS1 => ?_)
  refine lv_if_eq hx hb dJ0_charAt_5068e_4 (tgt := 16) rfl (fun z => absurd z (by decide)) (fun _ => ?_)
  refine lv_aload_n hx hb dJ0_charAt_5068e_7 rfl (lv_at hl 0 rfl) ?_
  refine vk_getf hx hb z4 hS1 hown (hts _ w_J0_9) (fun _ h => h) dJ0_charAt_5068e_8 ?_
  refine lv_iload_n hx hb dJ0_charAt_5068e_11 rfl (lv_at hl 1 rfl) ?_
  refine s_callS (As := [.ref aV, .int (Int32.ofInt (k : Int))]) (st := []) (r := t_by.getD k 0) C0 dJ0_charAt_5068e_12 ls_J1_ch rfl (Nat.zero_le _) (Nat.le_refl _) (Nat.le_refl _) (s_J1_ch hZ hZe hv hk) hP1 hf hS1 hl.1 (fun H2 locs2 hP2 hS2 => ?_)
  exact W.zret (v := t_by.getD k 0) (ty := .char) hx hb hrt (t_by_n k hk) (fun t ht hW => ⟨⟨t_by.getD k 0, (), rfl, rfl, by show m_Pic G S.1 μ t.heap; rw [ht]; exact hP2⟩, hS2.F ht⟩) hS2.2.2 dJ0_charAt_5068e_15 hlk
end SM
section SR
variable {G : m_G} {X : m_X} {Y : m_Y} {d mc ms aS aV : Nat} {vF : Value} {S : Nat × Bool × Nat × Nat} {μ : m_M} {pc : Nat} {lv : List (Option m_V)} {st : List m_V}
theorem m_strLen (C : m_Cx G X Y (d + 2) mc ms) (hZe : G.2.2.2.2.2.1 = t_Z (m_A G) aS aV vF) (hc : Y.1.cls = "KilnBench$Reader") (hd1 : decode Y.2.1 pc = .ok (.ldc 43, 2)) (hd2 : decode Y.2.1 (pc + 2) = .ok (.invokevirtual 45, 3)) (hw : (st.map m_cat).sum ≤ 8) (h1 : S.2.2.1 ≤ mc) (h2 : S.2.2.2 ≤ ms) (k : m_W G X Y S μ (pc + 5) lv (vI 132 :: st)) : m_W G X Y S μ pc lv st := by
  obtain ⟨p, l, e, R, s, m, args, below, meth, c, Qf⟩ := X
  have C0 := C
  obtain ⟨hx, hb, hml, hrt, hlk, hnm, hown, hts, hK, hZ, hfr, hlo, hce, hsl, hll⟩ := C
  intro H locs ls hP hf hS ho hlv
  have hz := hK.2.2.2.2.2.2.2.2
  rw [hZe] at hz
  refine va_ldcS hx hb hown (by rw [hc]; exact hz.1) hd1 ?_
  refine s_callV (S := (S.1, S.2.1)) (As := []) (a := aS) (st := st.map (m_rv G)) (r := 132) C0 hd2 (by rw [hc]; exact lv_J0_le) hz.2.1 rfl (by rw [m_cats]; exact hw) h1 h2 (s_J0_le hZ hZe) hP hf hS hlv.1.1 (fun H1 locs1 hP1 hS1 => ?_)
  exact k H1 locs1 ls hP1 hf hS1 (ok_csI (by unfold in32; omega) ho) hlv
theorem m_strCh (C : m_Cx G X Y (d + 4) mc ms) (hZe : G.2.2.2.2.2.1 = t_Z (m_A G) aS aV vF) (hvF : vF = .null ∨ ∃ a, vF = .ref a) (hc : Y.1.cls = "KilnBench$Reader") (hd1 : decode Y.2.1 pc = .ok (.ldc 43, 2)) (hd2 : decode Y.2.1 (pc + 2) = .ok (.iload_n 3, 1)) (hd3 : decode Y.2.1 (pc + 2 + 1) = .ok (.invokevirtual 50, 3)) {k : Nat} (hk : k < 132) (hv : lv[3]? = some (some (vI (k : Int)))) (hw : (st.map m_cat).sum ≤ 8) (h1 : S.2.2.1 ≤ mc) (h2 : S.2.2.2 ≤ ms) (kk : m_W G X Y S μ (pc + 6) lv (vI (t_by.getD k 0).toInt :: st)) : m_W G X Y S μ pc lv st := by
  obtain ⟨p, l, e, R, s, m, args, below, meth, c, Qf⟩ := X
  have C0 := C
  obtain ⟨hx, hb, hml, hrt, hlk, hnm, hown, hts, hK, hZ, hfr, hlo, hce, hsl, hll⟩ := C
  intro H locs ls hP hf hS ho hlv
  have hz := hK.2.2.2.2.2.2.2.2
  rw [hZe] at hz
  refine va_ldcS hx hb hown (by rw [hc]; exact hz.1) hd1 ?_
  refine lv_iload_n (x := Int32.ofInt (k : Int)) hx hb hd2 rfl (hlv.2 3 _ hv).1 ?_
  refine s_callV (S := (S.1, S.2.1)) (As := [.int (Int32.ofInt (k : Int))]) (a := aS) (st := st.map (m_rv G)) (r := t_by.getD k 0) C0 hd3 (by rw [hc]; exact lv_J0_ch) hz.2.1 rfl (by rw [m_cats]; exact hw) h1 h2 (s_J0_ch hZ hZe hvF hk) hP hf hS hlv.1.1 (fun H1 locs1 hP1 hS1 => ?_)
  have kk := kk H1 locs1 ls hP1 hf hS1 (ok_csI (in32_t _) ho) hlv
  rw [← Int32.ofInt_toInt (t_by.getD k 0)]
  exact kk
end SR
