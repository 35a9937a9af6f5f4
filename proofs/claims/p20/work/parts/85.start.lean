/-! THE CLAIM OUT OF ONE WALK OF THE LAW'S BODY. Your part is whole_start (and what it stands on); all else here is the same for every law, but numbers. -/
def R_law : String := "TrailSearchLaw"
def lw_P (b : Addr) (xs : List Int32) (args : Array Value) (s : State) : Prop := args = #[.ref b] ∧ s.IntsAt b xs ∧ xs.length ≤ 260 ∧ (Jvm.Cond.and given_1 narrow_1).before args s = true
def lw_Q (_ : Array Value) (s : State) (o : Outcome) (t : State) : Prop := o = .returned (some (.int 1)) ∧ Framed s o t [] 600000 7302250
def lw_Z (below : List Frame) (a : Array Value) (s : State) : State → Prop := fun t => ∃ o, t.status = .running ∧ Ended t below o ∧ lw_Q a s o t
/-- the law's own end, with 1 on the stack, nothing written that was there before, its room as the claim has it -/
theorem lw_ret {p : Program} {l : Launch} {e : Env} {s : State} {m : MethodId} {below : List Frame} {meth : Method} {c : Code} {b : Nat} (hx : p.tables.exec = Jvm.exec) (hb : c.code = code) (hr : meth.sig.returnType = ret) (hlocks : meth.locks = false) {pc : Nat} {H : Heap} {ls : Array Slot} (hdg : decode code pc = .ok (.ireturn, 1)) : W p l e room_1 s m #[Value.ref b] below meth c H [] 600000 7302250 (lw_Z below #[Value.ref b] s) (F0 m pc ls [.int 1]) := by
  intro T hT X
  obtain ⟨fs, hret, hrun, hended, hW, hframe⟩ := X.leave (v := some (.int 1)) (hlocks := hlocks) (fun h => by rw [hr] at h; cases h)
  have hmeth' : T.vm.method? m = some meth := X.method'
  refine ⟨T.setFrames fs, ?_, .returned (some (.int 1)), hrun, hended, rfl, ⟨_, rfl⟩, hW, hframe⟩
  jvm_step X.here [X.here.top, hx, hb, hdg, hmeth', hr, ret, narrow_b1]
  (try refine ⟨rfl, ?_⟩); (try refine ⟨rfl, ?_⟩)
  first | (intro acts; rw [hret _ acts rfl rfl rfl]) | rw [hret _ _ rfl rfl rfl]
  exact Steps.refl _
/-- what holds at the law's entry: the machine, the code, the tables' words (any of lw_tbl by 'hts w (by decide +kernel)'), the script of L ints xs at the cell b, what the Statement gives of the start (any of its parts by flat_of_before) -/
def lw_At (p : Program) (s : State) (m : MethodId) (meth : Method) (c : Code) (b L : Nat) (xs : Nat → Int32) : Prop :=
  p.tables.exec = Jvm.exec ∧ c.code = code ∧ meth.sig.returnType = ret ∧ c.maxLocals = 24 ∧ s.vm.findClass R_law = some m.cls ∧ (∀ w ∈ lw_tbl, w.before #[Value.ref b] s = true) ∧ va_X b L xs s s.heap ∧ b < s.heap.size ∧ meth.locks = false ∧ (Jvm.Cond.and given_1 narrow_1).before #[Value.ref b] s = true
/-- the classes and the arrays are known at the start -/
theorem lw_known {s : State} {args : Array Value} (hts : ∀ w ∈ lw_tbl, w.before args s = true) : ∃ (D : va_G) (cA : Nat → ClassId), va_K D zCl (zTys cA) s := by
  have hz : ∀ w ∈ zTb, w.before args s = true := fun w hw => hts w (z_tbl hw)
  have hk : ∀ k : Nat, ∃ (cC : ClassId) (iS : Nat → Nat), ∀ q : vw_C, zCl[k]? = some q → u_Kn s q.1 q.2.1 q.2.2 cC iS := fun k => by
    match k with
    | 0 =>
      obtain ⟨cC, iS, h⟩ := u_known (C := RX0) (T := TX0) (N := 2) (n := 2) hz inZ0 (hz _ ni0)
      exact ⟨cC, iS, fun q hq => by have hq : some (RX0, TX0, 2) = some q := hq; cases hq; exact h⟩
    | 1 =>
      obtain ⟨cC, iS, h⟩ := u_known (C := RX1) (T := TX1) (N := 5) (n := 5) hz inZ1 (hz _ ni1)
      exact ⟨cC, iS, fun q hq => by have hq : some (RX1, TX1, 5) = some q := hq; cases hq; exact h⟩
    | 2 =>
      obtain ⟨cC, iS, h⟩ := u_known (C := RX2) (T := TX2) (N := 6) (n := 6) hz inZ2 (hz _ ni2)
      exact ⟨cC, iS, fun q hq => by have hq : some (RX2, TX2, 6) = some q := hq; cases hq; exact h⟩
    | 3 =>
      obtain ⟨cC, iS, h⟩ := u_known (C := RX3) (T := TX3) (N := 2) (n := 2) hz inZ3 (hz _ ni3)
      exact ⟨cC, iS, fun q hq => by have hq : some (RX3, TX3, 2) = some q := hq; cases hq; exact h⟩
    | 4 =>
      obtain ⟨cC, iS, h⟩ := u_known (C := RX4) (T := TX4) (N := 11) (n := 11) hz inZ4 (hz _ ni4)
      exact ⟨cC, iS, fun q hq => by have hq : some (RX4, TX4, 11) = some q := hq; cases hq; exact h⟩
    | 5 =>
      obtain ⟨cC, iS, h⟩ := u_known (C := RX5) (T := TX5) (N := 8) (n := 8) hz inZ5 (hz _ ni5)
      exact ⟨cC, iS, fun q hq => by have hq : some (RX5, TX5, 8) = some q := hq; cases hq; exact h⟩
    | 6 =>
      obtain ⟨cC, iS, h⟩ := u_known (C := RX6) (T := TX6) (N := 14) (n := 14) hz inZ6 (hz _ ni6)
      exact ⟨cC, iS, fun q hq => by have hq : some (RX6, TX6, 14) = some q := hq; cases hq; exact h⟩
    | 7 =>
      obtain ⟨cC, iS, h⟩ := u_known (C := RX7) (T := TX7) (N := 2) (n := 2) hz inZ7 (hz _ ni7)
      exact ⟨cC, iS, fun q hq => by have hq : some (RX7, TX7, 2) = some q := hq; cases hq; exact h⟩
    | 8 =>
      obtain ⟨cC, iS, h⟩ := u_known (C := RX8) (T := TX8) (N := 8) (n := 8) hz inZ8 (hz _ ni8)
      exact ⟨cC, iS, fun q hq => by have hq : some (RX8, TX8, 8) = some q := hq; cases hq; exact h⟩
    | 9 =>
      obtain ⟨cC, iS, h⟩ := u_known (C := RX9) (T := TX9) (N := 5) (n := 5) hz inZ9 (hz _ ni9)
      exact ⟨cC, iS, fun q hq => by have hq : some (RX9, TX9, 5) = some q := hq; cases hq; exact h⟩
    | k + 10 => exact ⟨0, fun _ => 0, fun q hq => by have hq : none = some q := hq; cases hq⟩
  have hO : ∀ C : String, Cond.arrayOver (.object C) ∈ lw_tbl → ∃ c : ClassId, ArrOfT s c (.object C) ∧ va_RA s c (.object C) := fun C hC => by
    obtain ⟨comp, c, k, f1, f2, f3, f4, f5⟩ := Cond.arrayOver_spec (hts _ hC)
    exact ⟨c, fun N z => ⟨(fun k h => by cases h), k, f3, comp, f4⟩, k, comp, f3, f4, f1, f5⟩
  have hI : ∃ c : ClassId, ArrOfT s c .int ∧ va_RA s c .int := by
    obtain ⟨c, k, comp, f1, f2, f3⟩ := Cond.arrayClass_spec (hz _ zi_arr)
    exact ⟨c, fun N z => ⟨(fun k h => by cases h), k, f2, comp, f3⟩, f1⟩
  have hB : ∃ c : ClassId, ArrOfT s c .boolean ∧ va_RA s c .boolean := by
    obtain ⟨c, k, comp, f1, f2, f3⟩ := Cond.arrayClass_spec (hz _ zi_arrB)
    exact ⟨c, fun N z => ⟨(fun k h => by cases h), k, f2, comp, f3⟩, f1⟩
  obtain ⟨c0, h0⟩ := hI
  obtain ⟨c5, h5⟩ := hB
  obtain ⟨c1, h1⟩ := hO RX4 zao4
  obtain ⟨c2, h2⟩ := hO RX6 zao6
  obtain ⟨c3, h3⟩ := hO RX2 zao2
  obtain ⟨c4, h4⟩ := hO RX8 zao8
  refine ⟨(fun k => Classical.choose (hk k), fun k => Classical.choose (Classical.choose_spec (hk k))), fun k => if k = 0 then c0 else if k = 1 then c1 else if k = 2 then c2 else if k = 3 then c3 else if k = 4 then c4 else c5, fun k q hq => Classical.choose_spec (Classical.choose_spec (hk k)) q hq, fun k q hq => ?_⟩
  match k, hq with
  | 0, hq => cases hq; exact h0
  | 1, hq => cases hq; exact h1
  | 2, hq => cases hq; exact h2
  | 3, hq => cases hq; exact h3
  | 4, hq => cases hq; exact h4
  | 5, hq => cases hq; exact h5
  | k + 6, hq => have hq : none = some q := hq; cases hq
set_option maxHeartbeats 4000000 in
/-- the law, from the entry, for every script -/
theorem whole_start {p : Program} {e : Env} {s : State} {m : MethodId} {below : List Frame} {meth : Method} {c : Code} (l : Launch) (hflags : l.flags = flags0) {b L : Nat} {xs : Nat → Int32} (hL : L ≤ 260) (C0 : lw_At p s m meth c b L xs) : W p l e room_1 s m #[Value.ref b] below meth c s.heap [] 0 0 (lw_Z below #[Value.ref b] s) (entryFrame m ([Value.ref b] : List Value).toArray 24) := by
  obtain ⟨hx, hb, hr, hml, hown, hts, hX, hbl, hlocks, hgv⟩ := id C0
  have hz : ∀ w ∈ zTb, w.before #[Value.ref b] s = true := fun w hw => hts w (z_tbl hw)
  obtain ⟨D, cA, hK⟩ := lw_known hts
  obtain ⟨M1, k, km, kw⟩ := law_begin (q := (L, fun j => (xs j).toInt)) (fun j => inR_of _) hL
  have hl := lv_entry ([.ref b]) (n := 24) (Nat.le_of_ble_eq_true rfl)
  rw [lg_entry_eq]
  generalize (lg_sl ([.ref b]) ++ List.replicate (24 - (lg_sl ([.ref b])).length) Slot.unset).toArray = ls at hl ⊢
  have hl : lv_has ls 24 [(0, .ref b)] := hl
  have hX' : va_X b L (fun j => Int32.ofInt ((fun j => (xs j).toInt) j)) s s.heap := by
    rw [show (fun j => Int32.ofInt ((fun j => (xs j).toInt) j)) = xs from funext fun j => Int32.ofInt_toInt _]
    exact hX
  have hcx : zCx (7 + 1) qL_law p room_1 s m #[Value.ref b] meth c D cA (fun q : Nat => s.heap.size ≤ q) s.heap :=
    ⟨hx, hb, hml, hr, hz, zNw.of hts, hown, hlocks, fun h => absurd h (by decide), hK, fun q h => h, by decide, by decide⟩
  have hsc : zScr (some (L, fun j => (xs j).toInt)) b s (fun q : Nat => s.heap.size ≤ q) s.heap (fun _ => b) := ⟨hX', Nat.not_le.mpr hbl, hbl, rfl, by omega, fun j => inR_of _⟩
  have hst : zSt 24 D cA (fun _ => b) (fun q : Nat => s.heap.size ≤ q) [some (zr 1), none, none, none, none, none, none, none, none, none, none, none, none, none, none, none, none, none, none, none, none, none, none, none] [] zM0 s.heap ls := by
    refine ⟨fun k q h => by simp [zWs, zM0, mz] at h, ⟨fun i j p q h => by simp [zWs, zM0, mz] at h, fun k q h => by simp [zWs, zM0, mz] at h⟩, ⟨fun _ _ => inR_0, fun _ _ => Nat.zero_le _, fun o h => absurd rfl h, Nat.le_refl 1⟩, ⟨hl.1, hl.2.1, fun k v hk => ?_⟩, fun v hv => (by cases hv), fun v hv => ?_⟩
    · match k, hk with
      | 0, hk => cases hk; exact hl.2.2 (0, .ref b) List.mem_cons_self
      | 1, hk => cases hk
      | 2, hk => cases hk
      | 3, hk => cases hk
      | 4, hk => cases hk
      | 5, hk => cases hk
      | 6, hk => cases hk
      | 7, hk => cases hk
      | 8, hk => cases hk
      | 9, hk => cases hk
      | 10, hk => cases hk
      | 11, hk => cases hk
      | 12, hk => cases hk
      | 13, hk => cases hk
      | 14, hk => cases hk
      | 15, hk => cases hk
      | 16, hk => cases hk
      | 17, hk => cases hk
      | 18, hk => cases hk
      | 19, hk => cases hk
      | 20, hk => cases hk
      | 21, hk => cases hk
      | 22, hk => cases hk
      | 23, hk => cases hk
      | k + 24, hk => have hk : none = some (some v) := hk; cases hk
    · simp at hv
      subst hv
      exact Nat.le_refl 1
  refine k.2 p l e room_1 s m #[Value.ref b] below meth c s.heap [] 0 0 D cA (fun _ => b) (fun q : Nat => s.heap.size ≤ q) s.heap ls b (lw_Z below #[Value.ref b] s) hcx hsc hst va_S.rf ?_ ?_ fun pc1 ls1 ad1 H1 locs1 hret g1 g2 g3 g4 hag hS1 => ?_
  · show 0 + (mz M1 - 1) ≤ 600000
    omega
  · show 0 + (mw M1 - 0) ≤ 7302250
    omega
  · refine va_forget hS1.2.2 ?_
    refine W.widen (k := 600000) (n := 7302250) (by show 0 + (mz M1 - 1) ≤ 600000; omega) (by show 0 + (mw M1 - 0) ≤ 7302250; omega) ?_
    exact lw_ret hx hb hr hlocks hret.1
