/-! THE CLAIM OUT OF ONE WALK OF THE LAW'S BODY. Your part is whole_start (and what it stands on); all else here is the same for every law, but numbers. -/
def R_law : String := "CordLoftLaw"
def lw_P (b : Addr) (xs : List Int32) (args : Array Value) (s : State) : Prop := args = #[.ref b] ∧ s.IntsAt b xs ∧ xs.length ≤ 3072 ∧ (Jvm.Cond.and given_1 narrow_1).before args s = true
def lw_Q (_ : Array Value) (s : State) (o : Outcome) (t : State) : Prop := o = .returned (some (.int 1)) ∧ Framed s o t [] 600000 7302250
def lw_Z (below : List Frame) (a : Array Value) (s : State) : State → Prop := fun t => ∃ o, t.status = .running ∧ Ended t below o ∧ lw_Q a s o t
/-- the law's own end, with 1 on the stack, nothing written that was there before, its room as the claim has it -/
theorem lw_ret {p : Program} {l : Launch} {e : Env} {s : State} {m : MethodId} {below : List Frame} {meth : Method} {c : Code} {b : Nat} (hx : p.tables.exec = Jvm.exec) (hb : c.code = code) (hr : meth.sig.returnType = ret) (hlocks : meth.locks = false) {pc : Nat} {H : Heap} {ls : Array Slot} (hdg : decode code pc = .ok (.ireturn, 1)) : W p l e room_1 s m #[Value.ref b] below meth c H [] 600000 7302250 (lw_Z below #[Value.ref b] s) (F0 m pc ls [.int 1]) := by
  intro T hT X
  obtain ⟨fs, hret, hrun, hended, hW, hframe⟩ := X.leave (v := some (.int 1)) (hlocks := hlocks) (fun h => by rw [hr] at h; cases h)
  have hmeth' : T.vm.method? m = some meth := X.method'
  refine ⟨T.setFrames fs, ?_, .returned (some (.int 1)), hrun, hended, rfl, ⟨_, rfl⟩, hW, hframe⟩
  jvm_step X.here [X.here.top, hx, hb, hdg, hmeth', hr, ret, narrow_b1]
  (try refine ⟨rfl, ?_⟩); (try refine ⟨rfl, ?_⟩)
  first | (intro acts; rw [hret _ acts rfl rfl rfl]) | rw [hret _ _ rfl rfl rfl]
  exact Steps.refl _
/-- what holds at the law's entry: the machine, the code, the tables' words (any of lw_tbl by 'hts w (by decide +kernel)'), the script of L ints xs at the cell b, what the Statement gives of the start (any of its parts by flat_of_before) -/
def lw_At (p : Program) (s : State) (m : MethodId) (meth : Method) (c : Code) (b L : Nat) (xs : Nat → Int32) : Prop :=
  p.tables.exec = Jvm.exec ∧ c.code = code ∧ meth.sig.returnType = ret ∧ c.maxLocals = 4 ∧ s.vm.findClass R_law = some m.cls ∧ (∀ w ∈ lw_tbl, w.before #[Value.ref b] s = true) ∧ va_X b L xs s s.heap ∧ b < s.heap.size ∧ meth.locks = false ∧ (Jvm.Cond.and given_1 narrow_1).before #[Value.ref b] s = true ∧ meth.name = "law"

def R138 : Room := { frames := 2048, cells := 138, slots := 16611, locals := 84000 }
theorem room_less {s : State} {pl : Platform} (h : s.hasRoom pl room_1 = true) : s.hasRoom pl R138 = true := by
  unfold State.hasRoom at h ⊢
  simp only [Bool.and_eq_true, decide_eq_true_eq] at h ⊢
  simp only [room_1, R138] at h ⊢
  obtain ⟨⟨⟨a, b⟩, c⟩, d⟩ := h
  exact ⟨⟨⟨a, by omega⟩, by first | exact c | omega⟩, by first | exact d | omega⟩
theorem W.less {p : Program} {l : Launch} {e : Env} {s : State} {m : MethodId} {args : Array Value} {below : List Frame} {meth : Method} {c : Code} {H : Heap} {locs : List Loc} {cells slots : Nat} {Q : State → Prop} {g : JFrame} (h : W p l e R138 s m args below meth c H locs cells slots Q g) : W p l e room_1 s m args below meth c H locs cells slots Q g :=
  fun T hT X => h T hT { X with room := room_less X.room }
theorem W.post {p : Program} {l : Launch} {e : Env} {R : Room} {s : State} {m : MethodId} {args : Array Value} {below : List Frame} {meth : Method} {c : Code} {H : Heap} {locs : List Loc} {cells slots : Nat} {Q Q' : State → Prop} {g : JFrame} (hq : ∀ t, Q t → Q' t) (h : W p l e R s m args below meth c H locs cells slots Q g) : W p l e R s m args below meth c H locs cells slots Q' g :=
  fun T hT X => by obtain ⟨t, a, b⟩ := h T hT X; exact ⟨t, a, hq t b⟩
theorem same_new {s t : State} {L : List Loc} {k n k' n' : Nat} (h : s.sameButNew t L k n) (hL : ∀ q ∈ L, s.heap.size ≤ q.base) (hk : k ≤ k') (hn : n ≤ n') : s.sameButNew t [] k' n' := by
  obtain ⟨h1, h2, h3, h4, h5, h6⟩ := h
  refine ⟨h1, h2, by omega, h4, by omega, fun a c hc => ?_⟩
  obtain ⟨c', g1, g2, g3, g4⟩ := h6 a c hc
  refine ⟨c', g1, g2, g3, fun i _ => g4 i (fun hm => ?_)⟩
  have hlt : a < s.heap.size := (Array.getElem?_eq_some_iff.mp hc).1
  have := hL _ hm
  exact absurd this (Nat.not_le.mpr hlt)
def strTm (i : Nat) : Term := .string "CordLoft$Tokens" (if i = 0 then 85 else 72)
def FL : List Cond := flatC (Jvm.Cond.and given_1 narrow_1)
theorem fl_el0 : ∀ j, j < 144 → FL[13 + j]? = some (Cond.eq (.elem (.field (.string "CordLoft$Tokens" 85) "java/lang/String" "value" "[B") (.int (Int32.ofNat j))) (.int (sbyt0.getD j 0))) := by decide +kernel
theorem fl_el1 : ∀ j, j < 11 → FL[161 + j]? = some (Cond.eq (.elem (.field (.string "CordLoft$Tokens" 72) "java/lang/String" "value" "[B") (.int (Int32.ofNat j))) (.int (sbyt1.getD j 0))) := by decide +kernel
theorem fl_0 : FL[9]? = some (Cond.exactly (.string "CordLoft$Tokens" 85) "java/lang/String") ∧ FL[10]? = some (Cond.eq (.field (.string "CordLoft$Tokens" 85) "java/lang/String" "coder" "B") (.int 0)) ∧ FL[11]? = some (Cond.arrayOf (.field (.string "CordLoft$Tokens" 85) "java/lang/String" "value" "[B") .byte) ∧ FL[12]? = some (Cond.eq (.length (.field (.string "CordLoft$Tokens" 85) "java/lang/String" "value" "[B")) (.int 144)) := by decide +kernel
theorem fl_1 : FL[157]? = some (Cond.exactly (.string "CordLoft$Tokens" 72) "java/lang/String") ∧ FL[158]? = some (Cond.eq (.field (.string "CordLoft$Tokens" 72) "java/lang/String" "coder" "B") (.int 0)) ∧ FL[159]? = some (Cond.arrayOf (.field (.string "CordLoft$Tokens" 72) "java/lang/String" "value" "[B") .byte) ∧ FL[160]? = some (Cond.eq (.length (.field (.string "CordLoft$Tokens" 72) "java/lang/String" "value" "[B")) (.int 11)) ∧ FL[172]? = some (Cond.not (Cond.eq (.string "CordLoft$Tokens" 85) (.string "CordLoft$Tokens" 72))) := by decide +kernel
theorem fl_s : FL[4]? = some (Cond.eq (.static "java/lang/String" "COMPACT_STRINGS" "Z") (.int 1)) ∧ FL[5]? = some (Cond.isRef (.static "jdk/internal/util/Preconditions" "SIOOBE_FORMATTER" "Ljava/util/function/BiFunction;")) := by decide +kernel
set_option maxRecDepth 100000 in
theorem whole_strings {s : State} {b : Nat} {A : Nat → Prop} (hg : (Jvm.Cond.and given_1 narrow_1).before #[Value.ref b] s = true) (hA : ∀ a : Nat, a < s.heap.size → ¬ A a) :
    ∃ adK adV : Nat → Nat, vk_S 2 [144, 11] [sbyt0, sbyt1] adK adV A s s.heap ∧ ∀ i : Nat, i < 2 → (strTm i).eval #[Value.ref b] s none [] s = some (.ref (adK i)) := by
  have hs : ∀ c ∈ FL, c.before #[Value.ref b] s = true := flat_of_before _ hg
  have at' : ∀ {k : Nat} {c : Cond}, FL[k]? = some c → c.before #[Value.ref b] s = true := fun h => hs _ (List.mem_of_getElem? h)
  have two : ∀ i : Nat, i < 2 → i = 0 ∨ i = 1 := fun i h => by omega
  refine vk_Sof (tm := strTm) ?_ ?_ ?_ ?_ ?_ ?_ ?_ hA
  · intro i hi; rcases two i hi with rfl | rfl <;> decide
  · intro i hi; rcases two i hi with rfl | rfl
    · exact at' fl_0.1
    · exact at' fl_1.1
  · intro i hi; rcases two i hi with rfl | rfl
    · exact at' fl_0.2.1
    · exact at' fl_1.2.1
  · intro i hi; rcases two i hi with rfl | rfl
    · exact at' fl_0.2.2.1
    · exact at' fl_1.2.2.1
  · intro i hi; rcases two i hi with rfl | rfl
    · exact at' fl_0.2.2.2
    · exact at' fl_1.2.2.2.1
  · intro i hi; rcases two i hi with rfl | rfl
    · intro j hj; exact at' (fl_el0 j hj)
    · intro j hj; exact at' (fl_el1 j hj)
  · intro i j hi hj hij
    rcases two i hi with rfl | rfl <;> rcases two j hj with rfl | rfl
    · exact absurd rfl hij
    · exact Or.inl (at' fl_1.2.2.2.2)
    · exact Or.inr (at' fl_1.2.2.2.2)
    · exact absurd rfl hij
theorem static_int {args : Array Value} {s : State} {C n d : String} {v : Int32} (hl : (Cond.laysStatic C n d).before args s = true) (h : (Cond.eq (.static C n d) (.int v)).before args s = true) : (Term.static C n d).eval args s none [] s = some (.int v) := by
  exact Cond.eq_int h rfl
set_option maxHeartbeats 4000000 in
set_option maxRecDepth 100000 in
/-- the law's frame, from its entry: the world is empty -/
theorem whole_world {s : State} {b L : Nat} {xs : Nat → Int32} (l : Launch) (hts : ∀ w ∈ lw_tbl, w.before #[Value.ref b] s = true) (hX : va_X b L xs s s.heap) (hbl : b < s.heap.size) (hg : (Jvm.Cond.and given_1 narrow_1).before #[Value.ref b] s = true) : ∃ G : GT, gl G = l ∧ gbase G = s.heap.size ∧ gb G = b ∧ gLn G = L ∧ gxs G = xs ∧ SW G s := by
  obtain ⟨c0, iS0, hKn0⟩ := u_known (C := RX0) (T := TX0) (N := 3) (n := 3) hts iX0 (hts (.instantiable RX0 3) cw2_0)
  obtain ⟨c1, iS1, hKn1⟩ := u_known (C := RX1) (T := TX1) (N := 2) (n := 2) hts iX1 (hts (.instantiable RX1 2) cw2_1)
  obtain ⟨c2, iS2, hKn2⟩ := u_known (C := RX2) (T := TX2) (N := 5) (n := 5) hts iX2 (hts (.instantiable RX2 5) cw2_2)
  obtain ⟨c3, iS3, hKn3⟩ := u_known (C := RX3) (T := TX3) (N := 8) (n := 8) hts iX3 (hts (.instantiable RX3 8) cw2_3)
  obtain ⟨c4, iS4, hKn4⟩ := u_known (C := RX4) (T := TX4) (N := 17) (n := 17) hts iX4 (hts (.instantiable RX4 17) cw2_4)
  obtain ⟨c5, iS5, hKn5⟩ := u_known (C := RX5) (T := TX5) (N := 6) (n := 6) hts iX5 (hts (.instantiable RX5 6) cw2_5)
  obtain ⟨c6, iS6, hKn6⟩ := u_known (C := RX6) (T := TX6) (N := 7) (n := 7) hts iX6 (hts (.instantiable RX6 7) cw2_6)
  obtain ⟨c7, iS7, hKn7⟩ := u_known (C := RX7) (T := TX7) (N := 9) (n := 9) hts iX7 (hts (.instantiable RX7 9) cw2_7)
  obtain ⟨c8, iS8, hKn8⟩ := u_known (C := RX8) (T := TX8) (N := 5) (n := 5) hts iX8 (hts (.instantiable RX8 5) cw2_8)
  obtain ⟨c9, iS9, hKn9⟩ := u_known (C := RX9) (T := TX9) (N := 2) (n := 2) hts iX9 (hts (.instantiable RX9 2) cw2_9)
  obtain ⟨c10, iS10, hKn10⟩ := u_known (C := RX10) (T := TX10) (N := 9) (n := 9) hts iX10 (hts (.instantiable RX10 9) cw2_10)
  obtain ⟨c11, iS11, hKn11⟩ := u_known (C := RX11) (T := TX11) (N := 15) (n := 15) hts iX11 (hts (.instantiable RX11 15) cw2_11)
  obtain ⟨c12, iS12, hKn12⟩ := u_known (C := RX12) (T := TX12) (N := 71) (n := 71) hts iX12 (hts (.instantiable RX12 71) cw2_12)
  have hA : ∀ a : Nat, a < s.heap.size → ¬ (fun q : Nat => s.heap.size ≤ q) a := fun a h q => absurd q (Nat.not_le.mpr h)
  obtain ⟨adK, adV, hS, hev⟩ := whole_strings hg hA
  have hs : ∀ c ∈ FL, c.before #[Value.ref b] s = true := flat_of_before _ hg
  have hz0 : va_Z "java/lang/String" "COMPACT_STRINGS" "Z" (.int 1) (fun q : Nat => s.heap.size ≤ q) s s.heap :=
    va_Zof (args := #[Value.ref b]) (hts _ (by decide +kernel)) (hts _ (by decide +kernel)) (static_int (hts _ (by decide +kernel)) (hs _ (List.mem_of_getElem? fl_s.1))) hA
  have hz1 : va_Zq "jdk/internal/util/Preconditions" "SIOOBE_FORMATTER" "Ljava/util/function/BiFunction;" (fun q : Nat => s.heap.size ≤ q) s s.heap :=
    va_Zqof (args := #[Value.ref b]) (hts _ (by decide +kernel)) (hts _ (by decide +kernel)) (hs _ (List.mem_of_getElem? fl_s.2)) hA
  obtain ⟨fz, hz2, hz3⟩ : ∃ fz : Value, va_Z "jdk/internal/util/Preconditions" "SIOOBE_FORMATTER" "Ljava/util/function/BiFunction;" fz (fun q : Nat => s.heap.size ≤ q) s s.heap ∧ (fz = .null ∨ ∃ a, fz = .ref a) := by
    rcases hz1 with h | ⟨t, h⟩
    · exact ⟨_, h, Or.inl rfl⟩
    · exact ⟨_, h, Or.inr ⟨t, rfl⟩⟩
  obtain ⟨cI, kI, pI, i1, i2, i3⟩ := Cond.arrayClass_spec (hts (.arrayClass .int) aw_int)
  obtain ⟨cJ, kJ, pJ, j1, j2, j3⟩ := Cond.arrayClass_spec (hts (.arrayClass .long) aw_long)
  obtain ⟨cB, kB, pB, b1, b2, b3⟩ := Cond.arrayClass_spec (hts (.arrayClass .byte) aw_byte)
  obtain ⟨cZ, kZ, pZ, z1, z2, z3⟩ := Cond.arrayClass_spec (hts (.arrayClass .boolean) aw_boolean)
  obtain ⟨pR, cR, kR, r1, -, r2, r3, r4⟩ := Cond.arrayOver_spec (hts (.arrayOver (.object "CordLoft$State")) (by decide +kernel))
  refine ⟨(l, (fun k => if k = 0 then c0 else if k = 1 then c1 else if k = 2 then c2 else if k = 3 then c3 else if k = 4 then c4 else if k = 5 then c5 else if k = 6 then c6 else if k = 7 then c7 else if k = 8 then c8 else if k = 9 then c9 else if k = 10 then c10 else if k = 11 then c11 else c12), (fun k => if k = 0 then iS0 else if k = 1 then iS1 else if k = 2 then iS2 else if k = 3 then iS3 else if k = 4 then iS4 else if k = 5 then iS5 else if k = 6 then iS6 else if k = 7 then iS7 else if k = 8 then iS8 else if k = 9 then iS9 else if k = 10 then iS10 else if k = 11 then iS11 else iS12), (fun k => if k = 20 then cI else if k = 21 then cJ else if k = 22 then cB else if k = 23 then cZ else cR), s.heap.size, b, L, xs, adK, adV, fz), rfl, rfl, rfl, rfl, rfl, ?_⟩
  refine ⟨?_, ?_, va_AO.of (hts (.arrayOver (.object "CordLoft$State")) (by decide +kernel)), fun a i x h hw => va_Nw.of rfl (hts _ hw), Nat.le_refl _, hbl, hX, vk_R.of (hts _ (by decide +kernel)) (hev 0 (by decide)), vk_R.of (hts _ (by decide +kernel)) (hev 1 (by decide)), hS, hz0, hz2, hz3⟩
  · intro k q hq
    match k, hq with
    | 0, hq => cases hq; exact hKn0
    | 1, hq => cases hq; exact hKn1
    | 2, hq => cases hq; exact hKn2
    | 3, hq => cases hq; exact hKn3
    | 4, hq => cases hq; exact hKn4
    | 5, hq => cases hq; exact hKn5
    | 6, hq => cases hq; exact hKn6
    | 7, hq => cases hq; exact hKn7
    | 8, hq => cases hq; exact hKn8
    | 9, hq => cases hq; exact hKn9
    | 10, hq => cases hq; exact hKn10
    | 11, hq => cases hq; exact hKn11
    | 12, hq => cases hq; exact hKn12
    | k + 13, hq => simp [vwCl] at hq
  · intro k h1 h2
    rcases (show k = 20 ∨ k = 21 ∨ k = 22 ∨ k = 23 ∨ k = 24 by omega) with rfl | rfl | rfl | rfl | rfl
    · exact ⟨fun n z => ⟨fun k h => (by cases h), kI, i2, pI, i3⟩, i1⟩
    · exact ⟨fun n z => ⟨fun k h => (by cases h), kJ, j2, pJ, j3⟩, j1⟩
    · exact ⟨fun n z => ⟨fun k h => (by cases h), kB, b2, pB, b3⟩, b1⟩
    · exact ⟨fun n z => ⟨fun k h => (by cases h), kZ, z2, pZ, z3⟩, z1⟩
    · exact ⟨fun n z => ⟨fun k h => (by cases h), kR, r2, pR, r3⟩, kR, pR, r2, r3, r1, r4⟩

theorem d_329_1599 : decode (mC 329) 1599 = .ok (.iconst 1, 1) := by decide +kernel
theorem d_329_1600 : decode (mC 329) 1600 = .ok (.ireturn, 1) := by decide +kernel
theorem mt_law : mC 329 = code ∧ mL 329 = 4 ∧ mR 329 = ret ∧ (mN 329).cls = R_law ∧ mcT 329 = 138 ∧ msT 329 = 16611 ∧ (mN 329).name = "law" := ⟨rfl, by decide +kernel, rfl, by decide +kernel, by decide +kernel, by decide +kernel, by decide +kernel⟩
theorem WT_M1 : WT M1 := by
  refine ⟨rfl, fun c k v r h => ?_⟩
  have hk : ∀ q ∈ finL, ∀ c, c < 138 → kd0 c = q.1 → mkR M1r c q.2.1 = if q.2.2.2 = 0 then q.2.2.1 else c + q.2.2.1 := by decide +kernel
  unfold finT at h
  obtain ⟨q, h1, h2⟩ := Option.map_eq_some_iff.mp h
  have h3 := List.find?_some h1
  simp only [Bool.and_eq_true, beq_iff_eq] at h3
  have h4 := List.mem_of_find?_eq_some h1
  have hpos : ∀ q ∈ finL, 0 < q.1 ∧ q.1 < 20 := by decide
  have hc : c < 138 := kd_138 (k := q.1 - 1) (by have := hpos q h4; omega) (by have := hpos q h4; omega)
  have h5 := hk q h4 c hc h3.1.symm
  have e1 : q.2.2.1 = v := by rw [h2]
  have e2 : q.2.2.2 = r := by rw [h2]
  rw [e1, e2, h3.2] at h5
  exact h5
set_option maxRecDepth 100000 in
theorem whole_open {p : Program} {e : Env} {s : State} {m : MethodId} {below : List Frame} {meth : Method} {c : Code} (l : Launch) {b L : Nat} {xs : Nat → Int32} (hP : ∃ M', f_Law_law_l18 L xs fu 0 M1 = some (.inl ((), M'))) (C0 : lw_At p s m meth c b L xs) : W p l e room_1 s m #[Value.ref b] below meth c s.heap [] 0 0 (lw_Z below #[Value.ref b] s) (entryFrame m ([Value.ref b] : List Value).toArray 4) := by
  obtain ⟨hx, hb, hr, hml, hown, hts, hX, hbl, hlocks, hgv, hnm⟩ := C0
  obtain ⟨G, rfl, g2, g3, g4, g5, hs⟩ := whole_world l hts hX hbl hgv
  obtain ⟨M', hf⟩ := hP
  obtain ⟨t1, t2, t3, t4, t5, t6, t7⟩ := mt_law
  have hPW : PW G (1000 + 108) 329 18 [.ref 1000, .ref 0, .ref 105, .int 0] [] M1 138 16611 (fun _ r => r = some (.int 1)) := by
    refine t_Law_law_l18 (o := .inl ((), M')) ⟨by rw [t5]; decide, by rw [t6]; decide⟩ g4 g5 (fun yo Mo he hW => ?_) (fun r Mr he => by cases he) fu 0 M1 WT_M1 hf
    refine P_iconst d_329_1599 ic_1 ?_
    exact P_iret d_329_1600 t3 rfl (by rw [t5]; decide) (by rw [t6]; decide) rfl
  have h0 := cons_law (d := 1098) hPW p e R138 s m #[Value.ref b] below meth c s.heap [] ((lg_sl [Value.ref b] ++ List.replicate (4 - (lg_sl [Value.ref b]).length) Slot.unset).toArray)
  have h3 : LV G ((lg_sl [Value.ref b] ++ List.replicate (4 - (lg_sl [Value.ref b]).length) Slot.unset).toArray) (mL 329) [.ref 1000, ux, ux, ux] := by
    have h3 := ent_LV (G := G) (as := [.ref 1000]) hs (n := 4) (by decide)
    have e1 : ([Value.ref 1000] : List Value).map (cv G) = [Value.ref b] := by rw [← g3]; rfl
    rw [e1] at h3
    rw [t2]
    exact h3
  have h4 := h0 ⟨⟨hx, by rw [t1]; exact hb, by rw [t2]; exact hml, by rw [t3]; exact hr, hlocks, by rw [t4]; exact hown, fun w hw _ => hts w hw, by rw [t7]; exact hnm, hs⟩, ⟨by decide, by decide, by rw [t5]; rfl, by rw [t6]; rfl⟩, ⟨by rw [g2]; rfl, by decide, fun c hc => absurd hc (Nat.not_lt_zero c)⟩, va_S.rf, h3⟩
  rw [lg_entry_eq]
  refine W.less (W.post ?_ h4)
  · rintro t ⟨o, h1, h2, ⟨⟨M2, r, hq, ho, -⟩, -⟩, L', hF, hL⟩
    subst hq
    refine ⟨o, h1, h2, ho, hF.1, hF.2.1, same_new hF.2.2 (fun q hq => ?_) (by rw [t5]; decide) (by rw [t6]; decide)⟩
    have := hL q hq
    rw [← g2]; exact this
