def gC (σ : qH) (a ci : Nat) : Option Unit := match σ a with
  | some (.inr (c, _)) => if c = ci then some () else none
  | _ => none
theorem gC_inv {σ : qH} {a ci : Nat} {u : Unit} (h : gC σ a ci = some u) : ∃ fs : List Value, σ a = some (.inr (ci, fs)) := by
  unfold gC at h
  split at h
  · rename_i c fs e
    obtain ⟨hk, -⟩ := ite_none h
    subst hk
    exact ⟨fs, e⟩
  · cases h
theorem ite_else {α : Type} {c : Prop} [Decidable c] {y : Option α} {r : α} (h : (if c then none else y) = some r) : ¬ c ∧ y = some r := by
  by_cases hc : c
  · rw [if_pos hc] at h; cases h
  · rw [if_neg hc] at h; exact ⟨hc, h⟩
def b2 {A B β : Type} (o : Option (A × B)) (f : A → B → Option β) : Option β := match o with
  | some (a, b) => f a b
  | none => none
def b3 {A B C β : Type} (o : Option (A × B × C)) (f : A → B → C → Option β) : Option β := match o with
  | some (a, b, c) => f a b c
  | none => none
def b4 {A B C D β : Type} (o : Option (A × B × C × D)) (f : A → B → C → D → Option β) : Option β := match o with
  | some (a, b, c, d) => f a b c d
  | none => none
theorem b2_inv {A B β : Type} {o : Option (A × B)} {f : A → B → Option β} {r : β} (h : b2 o f = some r) : ∃ a b, o = some (a, b) ∧ f a b = some r := by
  match o, h with
  | some (a, b), h => exact ⟨a, b, rfl, h⟩
theorem b3_inv {A B C β : Type} {o : Option (A × B × C)} {f : A → B → C → Option β} {r : β} (h : b3 o f = some r) : ∃ a b c, o = some (a, b, c) ∧ f a b c = some r := by
  match o, h with
  | some (a, b, c), h => exact ⟨a, b, c, rfl, h⟩
theorem b4_inv {A B C D β : Type} {o : Option (A × B × C × D)} {f : A → B → C → D → Option β} {r : β} (h : b4 o f = some r) : ∃ a b c d, o = some (a, b, c, d) ∧ f a b c d = some r := by
  match o, h with
  | some (a, b, c, d), h => exact ⟨a, b, c, d, rfl, h⟩
theorem so2 {A B : Type} {a a' : A} {b b' : B} (h : some (a, b) = some (a', b')) : a = a' ∧ b = b' := by cases h; exact ⟨rfl, rfl⟩
theorem so3 {A B C : Type} {a a' : A} {b b' : B} {c c' : C} (h : some (a, b, c) = some (a', b', c')) : a = a' ∧ b = b' ∧ c = c' := by cases h; exact ⟨rfl, rfl, rfl⟩
theorem so4 {A B C D : Type} {a a' : A} {b b' : B} {c c' : C} {d d' : D} (h : some (a, b, c, d) = some (a', b', c', d')) : a = a' ∧ b = b' ∧ c = c' ∧ d = d' := by cases h; exact ⟨rfl, rfl, rfl, rfl⟩
theorem i32_ne {x c : Int32} {z : Int} (h : ¬ x = c) (hc : c.toInt = z) : x.toInt ≠ z := fun e => h (Int32.toInt_inj.mp (e.trans hc.symm))
abbrev rI (σ : qH) (n : Option Nat) (o : Int32 ⊕ String) : qR := match o with
  | .inl v => .inl (some (.int v), σ, n)
  | .inr e => .inr (e, σ)
abbrev rIw (_ : qH) (n : Option Nat) (o : (Int32 × qH) ⊕ (String × qH)) : qR := match o with
  | .inl v => .inl (some (.int v.1), v.2, n)
  | .inr e => .inr (e.1, e.2)
/-- .. from one that writes -/
def bxw {α β : Type} (o : Option (α ⊕ String)) (σ : qH) (f : α → Option (β ⊕ (String × qH))) : Option (β ⊕ (String × qH)) := match o with
  | some (.inl a) => f a
  | some (.inr e) => some (.inr (e, σ))
  | none => none
theorem bxw_inv {α β : Type} {o : Option (α ⊕ String)} {σ : qH} {f : α → Option (β ⊕ (String × qH))} {r : β ⊕ (String × qH)} (h : bxw o σ f = some r) : (∃ a, o = some (.inl a) ∧ f a = some r) ∨ (∃ e, o = some (.inr e) ∧ r = .inr (e, σ)) := by
  match o, h with
  | some (.inl a), h => exact Or.inl ⟨a, rfl, h⟩
  | some (.inr e), h => exact Or.inr ⟨e, rfl, (Option.some.inj h).symm⟩
abbrev rU (σ : qH) (n : Option Nat) (o : Unit ⊕ String) : qR := match o with
  | .inl _ => .inl (none, σ, n)
  | .inr e => .inr (e, σ)
theorem lk_2 {d o1 o2 k1 k2 k : Int} (h1 : k ≠ k1) (h2 : k ≠ k2) : Op.lookupswitch.offset [(k1, o1), (k2, o2)] d k = d := by
  simp [Op.lookupswitch.offset, h1, h2, Ne.symm h1, Ne.symm h2]
theorem lk_3 {d o1 o2 o3 k1 k2 k3 k : Int} (h1 : k ≠ k1) (h2 : k ≠ k2) (h3 : k ≠ k3) : Op.lookupswitch.offset [(k1, o1), (k2, o2), (k3, o3)] d k = d := by
  simp [Op.lookupswitch.offset, h1, h2, h3, Ne.symm h1, Ne.symm h2, Ne.symm h3]
set_option maxRecDepth 100000 in
theorem wd_objcode : Cond.code objectInit ⟨#[0xb1]⟩ 1 none ∈ lw_good := by decide +kernel
section QE
variable {l : Launch} {G : qG} {own nm : String} {cc : ByteArray} {nL : Nat} {rt : Option FieldType} {tab : List ExceptionTableEntry} {R : Room} {mc ms : Nat} {r : qR} {k j : Nat} {σ σ' : qH} {n : Option Nat} {pc : Nat} {ls : List (Nat × Value)} {st : List Value}
theorem x_newE {C : String} {T : u_T} {N ci index : Nat} {fs : List Value} (pc2 n0 n1 k2 j2 : Nat) (hin : ∀ w ∈ u_ws C T N, w ∈ lw_good) (ty : Nat → FieldType) (hty : ∀ k, k < N → parseFieldDescriptor (T k).2.2.1 = some (ty k)) (w1 : Cond.classLink own index C ∈ lw_good) (w2 : Cond.instantiable C N ∈ lw_good) (w3 : Cond.initialized C ∈ lw_good) (hc : vwCl[ci]? = some (C, T, N)) (hfs : ∀ j, j < N → defaultValue (ty j) = vp_V fs j)
    (hk : k + 1 ≤ R.cells) (hj : j + N ≤ R.slots) (d : decode cc pc = .ok (.new index, 3)) (hp : pc + 3 = pc2) (hn : n = some n0) (hn1 : n0 + 1 = n1) (hk2 : k + 1 = k2) (hj2 : j + N = j2) (hs : some (qU σ n0 (.inr (ci, fs))) = some σ') (kk : qX l G own nm cc nL rt tab R mc ms r k2 j2 σ' (some n1) pc2 ls (.ref n0 :: st)) : qX l G own nm cc nL rt tab R mc ms r k j σ n pc ls st := by
  subst hn; subst hn1; subst hk2; subst hj2; cases hs
  exact x_new pc2 hin ty hty w1 w2 w3 hc hfs hk hj d hp kk
theorem x_newIE {N : Nat} {len : Int32} (pc2 n0 n1 k2 j2 : Nat) (w1 : Cond.arrayClass .int ∈ lw_good) (hn0 : ¬ len < 0) (hN : len.toNatClampNeg = N) (hb : N * componentBytes .int ≤ 536870912) (hk : k + 1 ≤ R.cells) (hj : j + N ≤ R.slots) (d : decode cc pc = .ok (.newarray .int, 2)) (hp : pc + 2 = pc2) (hn : n = some n0) (hn1 : n0 + 1 = n1) (hk2 : k + 1 = k2) (hj2 : j + N = j2)
    (hs : some (qU σ n0 (.inl (0, (N, .inl (fun _ => 0))))) = some σ') (kk : qX l G own nm cc nL rt tab R mc ms r k2 j2 σ' (some n1) pc2 ls (.ref n0 :: st)) : qX l G own nm cc nL rt tab R mc ms r k j σ n pc ls (.int len :: st) := by
  subst hn; subst hn1; subst hk2; subst hj2; cases hs
  exact x_newI pc2 w1 hn0 hN hb hk hj d hp kk
theorem x_newZE {N : Nat} {len : Int32} (pc2 n0 n1 k2 j2 : Nat) (w1 : Cond.arrayClass .boolean ∈ lw_good) (hn0 : ¬ len < 0) (hN : len.toNatClampNeg = N) (hb : N * componentBytes .boolean ≤ 536870912) (hk : k + 1 ≤ R.cells) (hj : j + N ≤ R.slots) (d : decode cc pc = .ok (.newarray .boolean, 2)) (hp : pc + 2 = pc2) (hn : n = some n0) (hn1 : n0 + 1 = n1) (hk2 : k + 1 = k2) (hj2 : j + N = j2)
    (hs : some (qU σ n0 (.inl (1, (N, .inl (fun _ => 0))))) = some σ') (kk : qX l G own nm cc nL rt tab R mc ms r k2 j2 σ' (some n1) pc2 ls (.ref n0 :: st)) : qX l G own nm cc nL rt tab R mc ms r k j σ n pc ls (.int len :: st) := by
  subst hn; subst hn1; subst hk2; subst hj2; cases hs
  exact x_newZ pc2 w1 hn0 hN hb hk hj d hp kk
theorem x_newQE {index N : Nat} {len : Int32} (pc2 n0 n1 k2 j2 : Nat) (w1 : Cond.classLink own index RX2 ∈ lw_good) (hn0 : ¬ len < 0) (hN : len.toNatClampNeg = N) (hb : N * 4 ≤ 536870912) (hk : k + 1 ≤ R.cells) (hj : j + N ≤ R.slots) (d : decode cc pc = .ok (.anewarray index, 3)) (hp : pc + 3 = pc2) (hn : n = some n0) (hn1 : n0 + 1 = n1) (hk2 : k + 1 = k2) (hj2 : j + N = j2)
    (hs : some (qU σ n0 (.inl (2, (N, .inr (.inr (.inr (.inr (fun _ => none)))))))) = some σ') (kk : qX l G own nm cc nL rt tab R mc ms r k2 j2 σ' (some n1) pc2 ls (.ref n0 :: st)) : qX l G own nm cc nL rt tab R mc ms r k j σ n pc ls (.int len :: st) := by
  subst hn; subst hn1; subst hk2; subst hj2; cases hs
  exact x_newQ pc2 w1 hn0 hN hb hk hj d hp kk
end QE
def bc {α β ε : Type} (o : Option (α ⊕ ε)) (f : α → Option β) (g : ε → Option β) : Option β := match o with
  | some (.inl a) => f a
  | some (.inr e) => g e
  | none => none
theorem bc_inv {α β ε : Type} {o : Option (α ⊕ ε)} {f : α → Option β} {g : ε → Option β} {r : β} (h : bc o f g = some r) : (∃ a, o = some (.inl a) ∧ f a = some r) ∨ (∃ e, o = some (.inr e) ∧ g e = some r) := by
  match o, h with
  | some (.inl a), h => exact Or.inl ⟨a, rfl, h⟩
  | some (.inr e), h => exact Or.inr ⟨e, rfl, h⟩
def bc2 {β : Type} (o : Option ((Int32 × qH) ⊕ (String × qH))) (f : Int32 → qH → Option β) (g : String → qH → Option β) : Option β := match o with
  | some (.inl (a, s)) => f a s
  | some (.inr (e, s)) => g e s
  | none => none
theorem bc2_inv {β : Type} {o : Option ((Int32 × qH) ⊕ (String × qH))} {f : Int32 → qH → Option β} {g : String → qH → Option β} {r : β} (h : bc2 o f g = some r) : (∃ a s, o = some (.inl (a, s)) ∧ f a s = some r) ∨ (∃ e s, o = some (.inr (e, s)) ∧ g e s = some r) := by
  match o, h with
  | some (.inl (a, s)), h => exact Or.inl ⟨a, s, rfl, h⟩
  | some (.inr (e, s)), h => exact Or.inr ⟨e, s, rfl, h⟩
theorem cst_I : Cond.castable qI qI ∈ lw_face := by decide +kernel
theorem cst_A : Cond.castable qA qA ∈ lw_face := by decide +kernel
theorem cst_S : Cond.castable qSt qSt ∈ lw_face := by decide +kernel

def b7 {A B C D E F G β : Type} (o : Option (A × B × C × D × E × F × G)) (f : A → B → C → D → E → F → G → Option β) : Option β := match o with
  | some (a, b, c, d, e, g, h) => f a b c d e g h
  | none => none
theorem b7_inv {A B C D E F G β : Type} {o : Option (A × B × C × D × E × F × G)} {f : A → B → C → D → E → F → G → Option β} {r : β} (h : b7 o f = some r) : ∃ a b c d e g i, o = some (a, b, c, d, e, g, i) ∧ f a b c d e g i = some r := by
  match o, h with
  | some (a, b, c, d, e, g, i), h => exact ⟨a, b, c, d, e, g, i, rfl, h⟩
theorem so7 {A B C D E F G : Type} {a a' : A} {b b' : B} {c c' : C} {d d' : D} {e e' : E} {f f' : F} {g g' : G} (h : some (a, b, c, d, e, f, g) = some (a', b', c', d', e', f', g')) : a = a' ∧ b = b' ∧ c = c' ∧ d = d' ∧ e = e' ∧ f = f' ∧ g = g' := by cases h; exact ⟨rfl, rfl, rfl, rfl, rfl, rfl, rfl⟩
theorem b7_s {A B C D E F G β : Type} {a : A} {b : B} {c : C} {d : D} {e : E} {g : F} {h : G} {f : A → B → C → D → E → F → G → Option β} : b7 (some (a, b, c, d, e, g, h)) f = f a b c d e g h := rfl
set_option maxRecDepth 100000 in
theorem inX0 : ∀ w ∈ u_ws RX0 TX0 4, w ∈ lw_good := by
  have h0 : Cond.laysFinal RX0 "SteepleWords$Ballot" "changes" "[I" ∈ lw_good := lg_in 141 (by decide +kernel) rfl
  have h1 : Cond.lays RX0 "SteepleWords$Ballot" "lowest" "I" ∈ lw_good := lg_in 143 (by decide +kernel) rfl
  have h2 : Cond.lays RX0 "SteepleWords$Ballot" "highest" "I" ∈ lw_good := lg_in 145 (by decide +kernel) rfl
  have h3 : Cond.lays RX0 "SteepleWords$Ballot" "most" "I" ∈ lw_good := lg_in 147 (by decide +kernel) rfl
  have e : u_ws RX0 TX0 4 = [Cond.laysFinal RX0 "SteepleWords$Ballot" "changes" "[I", Cond.lays RX0 "SteepleWords$Ballot" "lowest" "I", Cond.lays RX0 "SteepleWords$Ballot" "highest" "I", Cond.lays RX0 "SteepleWords$Ballot" "most" "I"] := rfl
  rw [e]
  exact List.forall_mem_cons.mpr ⟨h0, List.forall_mem_cons.mpr ⟨h1, List.forall_mem_cons.mpr ⟨h2, List.forall_mem_cons.mpr ⟨h3, fun _ h => absurd h List.not_mem_nil⟩⟩⟩⟩
theorem tX0_0 : parseFieldDescriptor (TX0 0).2.2.1 = some (.array .int) := by decide +kernel
theorem tX0_1 : parseFieldDescriptor (TX0 1).2.2.1 = some (.int) := by decide +kernel
theorem tX0_2 : parseFieldDescriptor (TX0 2).2.2.1 = some (.int) := by decide +kernel
theorem tX0_3 : parseFieldDescriptor (TX0 3).2.2.1 = some (.int) := by decide +kernel
theorem dfX0 : ∀ j, j < 4 → defaultValue (tyX0 j) = vp_V [.null, .int 0, .int 0, .int 0] j := fun j hj => by rcases (show j = 0 ∨ j = 1 ∨ j = 2 ∨ j = 3 by omega) with rfl | rfl | rfl | rfl <;> rfl
set_option maxRecDepth 100000 in
theorem inX1 : ∀ w ∈ u_ws RX1 TX1 3, w ∈ lw_good := by
  have h0 : Cond.laysFinal RX1 "SteepleWords$History" "states" "[LSteepleWords$Parish;" ∈ lw_good := lg_in 101 (by decide +kernel) rfl
  have h1 : Cond.lays RX1 "SteepleWords$History" "next" "I" ∈ lw_good := lg_in 103 (by decide +kernel) rfl
  have h2 : Cond.lays RX1 "SteepleWords$History" "count" "I" ∈ lw_good := lg_in 105 (by decide +kernel) rfl
  have e : u_ws RX1 TX1 3 = [Cond.laysFinal RX1 "SteepleWords$History" "states" "[LSteepleWords$Parish;", Cond.lays RX1 "SteepleWords$History" "next" "I", Cond.lays RX1 "SteepleWords$History" "count" "I"] := rfl
  rw [e]
  exact List.forall_mem_cons.mpr ⟨h0, List.forall_mem_cons.mpr ⟨h1, List.forall_mem_cons.mpr ⟨h2, fun _ h => absurd h List.not_mem_nil⟩⟩⟩
theorem tX1_0 : parseFieldDescriptor (TX1 0).2.2.1 = some (.array (.object "SteepleWords$Parish")) := by decide +kernel
theorem tX1_1 : parseFieldDescriptor (TX1 1).2.2.1 = some (.int) := by decide +kernel
theorem tX1_2 : parseFieldDescriptor (TX1 2).2.2.1 = some (.int) := by decide +kernel
theorem dfX1 : ∀ j, j < 3 → defaultValue (tyX1 j) = vp_V [.null, .int 0, .int 0] j := fun j hj => by rcases (show j = 0 ∨ j = 1 ∨ j = 2 by omega) with rfl | rfl | rfl <;> rfl
set_option maxRecDepth 100000 in
theorem inX2 : ∀ w ∈ u_ws RX2 TX2 11, w ∈ lw_good := by
  have h0 : Cond.laysFinal RX2 "SteepleWords$Parish" "measures" "[I" ∈ lw_good := lg_in 65 (by decide +kernel) rfl
  have h1 : Cond.laysFinal RX2 "SteepleWords$Parish" "trusts" "[I" ∈ lw_good := lg_in 67 (by decide +kernel) rfl
  have h2 : Cond.laysFinal RX2 "SteepleWords$Parish" "rights" "[I" ∈ lw_good := lg_in 69 (by decide +kernel) rfl
  have h3 : Cond.laysFinal RX2 "SteepleWords$Parish" "wrongs" "[I" ∈ lw_good := lg_in 71 (by decide +kernel) rfl
  have h4 : Cond.laysFinal RX2 "SteepleWords$Parish" "surveyed" "[I" ∈ lw_good := lg_in 73 (by decide +kernel) rfl
  have h5 : Cond.laysFinal RX2 "SteepleWords$Parish" "settings" "[I" ∈ lw_good := lg_in 75 (by decide +kernel) rfl
  have h6 : Cond.lays RX2 "SteepleWords$Parish" "count" "I" ∈ lw_good := lg_in 77 (by decide +kernel) rfl
  have h7 : Cond.lays RX2 "SteepleWords$Parish" "came" "I" ∈ lw_good := lg_in 79 (by decide +kernel) rfl
  have h8 : Cond.lays RX2 "SteepleWords$Parish" "evenings" "I" ∈ lw_good := lg_in 81 (by decide +kernel) rfl
  have h9 : Cond.lays RX2 "SteepleWords$Parish" "surveys" "I" ∈ lw_good := lg_in 83 (by decide +kernel) rfl
  have h10 : Cond.lays RX2 "SteepleWords$Parish" "lost" "I" ∈ lw_good := lg_in 85 (by decide +kernel) rfl
  have e : u_ws RX2 TX2 11 = [Cond.laysFinal RX2 "SteepleWords$Parish" "measures" "[I", Cond.laysFinal RX2 "SteepleWords$Parish" "trusts" "[I", Cond.laysFinal RX2 "SteepleWords$Parish" "rights" "[I", Cond.laysFinal RX2 "SteepleWords$Parish" "wrongs" "[I", Cond.laysFinal RX2 "SteepleWords$Parish" "surveyed" "[I", Cond.laysFinal RX2 "SteepleWords$Parish" "settings" "[I", Cond.lays RX2 "SteepleWords$Parish" "count" "I", Cond.lays RX2 "SteepleWords$Parish" "came" "I", Cond.lays RX2 "SteepleWords$Parish" "evenings" "I", Cond.lays RX2 "SteepleWords$Parish" "surveys" "I", Cond.lays RX2 "SteepleWords$Parish" "lost" "I"] := rfl
  rw [e]
  exact List.forall_mem_cons.mpr ⟨h0, List.forall_mem_cons.mpr ⟨h1, List.forall_mem_cons.mpr ⟨h2, List.forall_mem_cons.mpr ⟨h3, List.forall_mem_cons.mpr ⟨h4, List.forall_mem_cons.mpr ⟨h5, List.forall_mem_cons.mpr ⟨h6, List.forall_mem_cons.mpr ⟨h7, List.forall_mem_cons.mpr ⟨h8, List.forall_mem_cons.mpr ⟨h9, List.forall_mem_cons.mpr ⟨h10, fun _ h => absurd h List.not_mem_nil⟩⟩⟩⟩⟩⟩⟩⟩⟩⟩⟩
theorem tX2_0 : parseFieldDescriptor (TX2 0).2.2.1 = some (.array .int) := by decide +kernel
theorem tX2_1 : parseFieldDescriptor (TX2 1).2.2.1 = some (.array .int) := by decide +kernel
theorem tX2_2 : parseFieldDescriptor (TX2 2).2.2.1 = some (.array .int) := by decide +kernel
theorem tX2_3 : parseFieldDescriptor (TX2 3).2.2.1 = some (.array .int) := by decide +kernel
theorem tX2_4 : parseFieldDescriptor (TX2 4).2.2.1 = some (.array .int) := by decide +kernel
theorem tX2_5 : parseFieldDescriptor (TX2 5).2.2.1 = some (.array .int) := by decide +kernel
theorem tX2_6 : parseFieldDescriptor (TX2 6).2.2.1 = some (.int) := by decide +kernel
theorem tX2_7 : parseFieldDescriptor (TX2 7).2.2.1 = some (.int) := by decide +kernel
theorem tX2_8 : parseFieldDescriptor (TX2 8).2.2.1 = some (.int) := by decide +kernel
theorem tX2_9 : parseFieldDescriptor (TX2 9).2.2.1 = some (.int) := by decide +kernel
theorem tX2_10 : parseFieldDescriptor (TX2 10).2.2.1 = some (.int) := by decide +kernel
theorem dfX2 : ∀ j, j < 11 → defaultValue (tyX2 j) = vp_V [.null, .null, .null, .null, .null, .null, .int 0, .int 0, .int 0, .int 0, .int 0] j := fun j hj => by rcases (show j = 0 ∨ j = 1 ∨ j = 2 ∨ j = 3 ∨ j = 4 ∨ j = 5 ∨ j = 6 ∨ j = 7 ∨ j = 8 ∨ j = 9 ∨ j = 10 by omega) with rfl | rfl | rfl | rfl | rfl | rfl | rfl | rfl | rfl | rfl | rfl <;> rfl
set_option maxRecDepth 100000 in
theorem inX5 : ∀ w ∈ u_ws RX5 TX5 5, w ∈ lw_good := by
  have h0 : Cond.laysFinal RX5 "SteepleWords$Text" "signs" "[I" ∈ lw_good := lg_in 120 (by decide +kernel) rfl
  have h1 : Cond.lays RX5 "SteepleWords$Text" "length" "I" ∈ lw_good := lg_in 122 (by decide +kernel) rfl
  have h2 : Cond.lays RX5 "SteepleWords$Text" "position" "I" ∈ lw_good := lg_in 124 (by decide +kernel) rfl
  have h3 : Cond.lays RX5 "SteepleWords$Text" "command" "I" ∈ lw_good := lg_in 126 (by decide +kernel) rfl
  have h4 : Cond.laysFinal RX5 "SteepleWords$Text" "numbers" "[I" ∈ lw_good := lg_in 128 (by decide +kernel) rfl
  have e : u_ws RX5 TX5 5 = [Cond.laysFinal RX5 "SteepleWords$Text" "signs" "[I", Cond.lays RX5 "SteepleWords$Text" "length" "I", Cond.lays RX5 "SteepleWords$Text" "position" "I", Cond.lays RX5 "SteepleWords$Text" "command" "I", Cond.laysFinal RX5 "SteepleWords$Text" "numbers" "[I"] := rfl
  rw [e]
  exact List.forall_mem_cons.mpr ⟨h0, List.forall_mem_cons.mpr ⟨h1, List.forall_mem_cons.mpr ⟨h2, List.forall_mem_cons.mpr ⟨h3, List.forall_mem_cons.mpr ⟨h4, fun _ h => absurd h List.not_mem_nil⟩⟩⟩⟩⟩
theorem tX5_0 : parseFieldDescriptor (TX5 0).2.2.1 = some (.array .int) := by decide +kernel
theorem tX5_1 : parseFieldDescriptor (TX5 1).2.2.1 = some (.int) := by decide +kernel
theorem tX5_2 : parseFieldDescriptor (TX5 2).2.2.1 = some (.int) := by decide +kernel
theorem tX5_3 : parseFieldDescriptor (TX5 3).2.2.1 = some (.int) := by decide +kernel
theorem tX5_4 : parseFieldDescriptor (TX5 4).2.2.1 = some (.array .int) := by decide +kernel
theorem dfX5 : ∀ j, j < 5 → defaultValue (tyX5 j) = vp_V [.null, .int 0, .int 0, .int 0, .null] j := fun j hj => by rcases (show j = 0 ∨ j = 1 ∨ j = 2 ∨ j = 3 ∨ j = 4 by omega) with rfl | rfl | rfl | rfl | rfl <;> rfl
set_option maxRecDepth 100000 in
theorem inX6 : ∀ w ∈ u_ws RX6 TX6 7, w ∈ lw_good := by
  have h0 : Cond.laysFinal RX6 "SteepleWords" "parish" "LSteepleWords$Parish;" ∈ lw_good := lg_in 157 (by decide +kernel) rfl
  have h1 : Cond.laysFinal RX6 "SteepleWords" "copy" "LSteepleWords$Parish;" ∈ lw_good := lg_in 159 (by decide +kernel) rfl
  have h2 : Cond.laysFinal RX6 "SteepleWords" "slots" "[LSteepleWords$Parish;" ∈ lw_good := lg_in 161 (by decide +kernel) rfl
  have h3 : Cond.laysFinal RX6 "SteepleWords" "saved" "[Z" ∈ lw_good := lg_in 163 (by decide +kernel) rfl
  have h4 : Cond.laysFinal RX6 "SteepleWords" "history" "LSteepleWords$History;" ∈ lw_good := lg_in 165 (by decide +kernel) rfl
  have h5 : Cond.laysFinal RX6 "SteepleWords" "text" "LSteepleWords$Text;" ∈ lw_good := lg_in 167 (by decide +kernel) rfl
  have h6 : Cond.laysFinal RX6 "SteepleWords" "ballot" "LSteepleWords$Ballot;" ∈ lw_good := lg_in 169 (by decide +kernel) rfl
  have e : u_ws RX6 TX6 7 = [Cond.laysFinal RX6 "SteepleWords" "parish" "LSteepleWords$Parish;", Cond.laysFinal RX6 "SteepleWords" "copy" "LSteepleWords$Parish;", Cond.laysFinal RX6 "SteepleWords" "slots" "[LSteepleWords$Parish;", Cond.laysFinal RX6 "SteepleWords" "saved" "[Z", Cond.laysFinal RX6 "SteepleWords" "history" "LSteepleWords$History;", Cond.laysFinal RX6 "SteepleWords" "text" "LSteepleWords$Text;", Cond.laysFinal RX6 "SteepleWords" "ballot" "LSteepleWords$Ballot;"] := rfl
  rw [e]
  exact List.forall_mem_cons.mpr ⟨h0, List.forall_mem_cons.mpr ⟨h1, List.forall_mem_cons.mpr ⟨h2, List.forall_mem_cons.mpr ⟨h3, List.forall_mem_cons.mpr ⟨h4, List.forall_mem_cons.mpr ⟨h5, List.forall_mem_cons.mpr ⟨h6, fun _ h => absurd h List.not_mem_nil⟩⟩⟩⟩⟩⟩⟩
theorem tX6_0 : parseFieldDescriptor (TX6 0).2.2.1 = some (.object "SteepleWords$Parish") := by decide +kernel
theorem tX6_1 : parseFieldDescriptor (TX6 1).2.2.1 = some (.object "SteepleWords$Parish") := by decide +kernel
theorem tX6_2 : parseFieldDescriptor (TX6 2).2.2.1 = some (.array (.object "SteepleWords$Parish")) := by decide +kernel
theorem tX6_3 : parseFieldDescriptor (TX6 3).2.2.1 = some (.array .boolean) := by decide +kernel
theorem tX6_4 : parseFieldDescriptor (TX6 4).2.2.1 = some (.object "SteepleWords$History") := by decide +kernel
theorem tX6_5 : parseFieldDescriptor (TX6 5).2.2.1 = some (.object "SteepleWords$Text") := by decide +kernel
theorem tX6_6 : parseFieldDescriptor (TX6 6).2.2.1 = some (.object "SteepleWords$Ballot") := by decide +kernel
theorem dfX6 : ∀ j, j < 7 → defaultValue (tyX6 j) = vp_V [.null, .null, .null, .null, .null, .null, .null] j := fun j hj => by rcases (show j = 0 ∨ j = 1 ∨ j = 2 ∨ j = 3 ∨ j = 4 ∨ j = 5 ∨ j = 6 by omega) with rfl | rfl | rfl | rfl | rfl | rfl | rfl <;> rfl
set_option maxRecDepth 100000 in
theorem wd_1 : Cond.selects RX5 yX5_signHere yX5_signHere ∈ lw_good := lg_in 1 rfl rfl
set_option maxRecDepth 100000 in
theorem wd_2 : Cond.selects RX5 yX5_readNumbers yX5_readNumbers ∈ lw_good := lg_in 2 rfl rfl
set_option maxRecDepth 100000 in
theorem wd_3 : Cond.selects RX5 yX5_readNumber yX5_readNumber ∈ lw_good := lg_in 3 rfl rfl
set_option maxRecDepth 100000 in
theorem wd_4 : Cond.selects RX6 yX6_doCommandOfText yX6_doCommandOfText ∈ lw_good := lg_in 4 rfl rfl
set_option maxRecDepth 100000 in
theorem wd_5 : Cond.selects RX2 yX2_matters yX2_matters ∈ lw_good := lg_in 5 rfl rfl
set_option maxRecDepth 100000 in
theorem wd_6 : Cond.selects RX2 yX2_shameLighter yX2_shameLighter ∈ lw_good := lg_in 6 rfl rfl
set_option maxRecDepth 100000 in
theorem wd_7 : Cond.selects RX2 yX2_judge yX2_judge ∈ lw_good := lg_in 7 rfl rfl
set_option maxRecDepth 100000 in
theorem wd_8 : Cond.selects RX2 yX2_removeMeasuresOf yX2_removeMeasuresOf ∈ lw_good := lg_in 8 rfl rfl
set_option maxRecDepth 100000 in
theorem wd_9 : Cond.selects RX2 yX2_quarrel yX2_quarrel ∈ lw_good := lg_in 9 rfl rfl
set_option maxRecDepth 100000 in
theorem wd_10 : Cond.selects RX6 yX6_needMeasure yX6_needMeasure ∈ lw_good := lg_in 10 rfl rfl
set_option maxRecDepth 100000 in
theorem wd_11 : Cond.selects RX0 yX0_noteChanges yX0_noteChanges ∈ lw_good := lg_in 11 rfl rfl
set_option maxRecDepth 100000 in
theorem wd_12 : Cond.selects RX0 yX0_tryLowest yX0_tryLowest ∈ lw_good := lg_in 12 rfl rfl
set_option maxRecDepth 100000 in
theorem wd_13 : Cond.selects RX2 yX2_isLouder yX2_isLouder ∈ lw_good := lg_in 13 rfl rfl
set_option maxRecDepth 100000 in
theorem wd_14 : Cond.selects RX2 yX2_feetFrom yX2_feetFrom ∈ lw_good := lg_in 14 rfl rfl
set_option maxRecDepth 100000 in
theorem wd_15 : Cond.selects RX2 yX2_isTruer yX2_isTruer ∈ lw_good := lg_in 15 rfl rfl
set_option maxRecDepth 100000 in
theorem wd_16 : Cond.initialized RL ∈ lw_good := lg_in 16 rfl rfl
set_option maxRecDepth 100000 in
theorem wd_17 : Cond.initialized RX6 ∈ lw_good := lg_in 17 rfl rfl
set_option maxRecDepth 100000 in
theorem wd_18 : Cond.initialized RX2 ∈ lw_good := lg_in 18 rfl rfl
set_option maxRecDepth 100000 in
theorem wd_19 : Cond.initialized RJ7 ∈ lw_good := lg_in 19 rfl rfl
set_option maxRecDepth 100000 in
theorem wd_20 : Cond.initialized RX1 ∈ lw_good := lg_in 20 rfl rfl
set_option maxRecDepth 100000 in
theorem wd_21 : Cond.initialized RX5 ∈ lw_good := lg_in 21 rfl rfl
set_option maxRecDepth 100000 in
theorem wd_22 : Cond.initialized RX0 ∈ lw_good := lg_in 22 rfl rfl
set_option maxRecDepth 100000 in
theorem wd_26 : Cond.initialized "java/lang/IllegalArgumentException" ∈ lw_good := lg_in 26 rfl rfl
set_option maxRecDepth 100000 in
theorem wd_27 : Cond.initialized "java/lang/IllegalStateException" ∈ lw_good := lg_in 27 rfl rfl
set_option maxRecDepth 100000 in
theorem wd_28 : Cond.initialized RJ9 ∈ lw_good := lg_in 28 rfl rfl
set_option maxRecDepth 100000 in
theorem wd_29 : Cond.initialized RJ10 ∈ lw_good := lg_in 29 rfl rfl
set_option maxRecDepth 100000 in
theorem wd_30 : Cond.initialized "java/lang/IndexOutOfBoundsException" ∈ lw_good := lg_in 30 rfl rfl
set_option maxRecDepth 100000 in
theorem wd_31 : Cond.initialized RX3 ∈ lw_good := lg_in 31 rfl rfl
set_option maxRecDepth 100000 in
theorem wd_32 : Cond.initialized RX4 ∈ lw_good := lg_in 32 rfl rfl
set_option maxRecDepth 100000 in
theorem wd_33 : Cond.classLink RL 8 RX6 ∈ lw_good := lg_in 33 rfl rfl
set_option maxRecDepth 100000 in
theorem wd_34 : Cond.instantiable RX6 7 ∈ lw_good := lg_in 34 rfl rfl
set_option maxRecDepth 100000 in
theorem wd_35 : Cond.methodLink RL 186 yX6_init ∈ lw_good := lg_in 35 rfl rfl
set_option maxRecDepth 100000 in
theorem wd_36 : Cond.instanceMethod yX6_init ∈ lw_good := lg_in 36 rfl rfl
set_option maxRecDepth 100000 in
theorem wd_37 : Cond.code yX6_init cX6_init 2 (none) ∈ lw_good := lg_in 37 rfl rfl
set_option maxRecDepth 100000 in
theorem wd_38 : Cond.methodLink RX6 1 objectInit ∈ lw_good := lg_in 38 rfl rfl
set_option maxRecDepth 100000 in
theorem wd_39 : Cond.instanceMethod objectInit ∈ lw_good := lg_in 39 rfl rfl
set_option maxRecDepth 100000 in
theorem wd_41 : Cond.classLink RX6 7 RX2 ∈ lw_good := lg_in 41 rfl rfl
set_option maxRecDepth 100000 in
theorem wd_42 : Cond.instantiable RX2 11 ∈ lw_good := lg_in 42 rfl rfl
set_option maxRecDepth 100000 in
theorem wd_43 : Cond.methodLink RX6 9 yX2_init ∈ lw_good := lg_in 43 rfl rfl
set_option maxRecDepth 100000 in
theorem wd_44 : Cond.instanceMethod yX2_init ∈ lw_good := lg_in 44 rfl rfl
set_option maxRecDepth 100000 in
theorem wd_45 : Cond.code yX2_init cX2_init 1 (none) ∈ lw_good := lg_in 45 rfl rfl
set_option maxRecDepth 100000 in
theorem wd_46 : Cond.methodLink RX2 3 objectInit ∈ lw_good := lg_in 46 rfl rfl
set_option maxRecDepth 100000 in
theorem wd_47 : Cond.methodLink RX2 30 yX2_makeNew ∈ lw_good := lg_in 47 rfl rfl
set_option maxRecDepth 100000 in
theorem wd_48 : Cond.instanceMethod yX2_makeNew ∈ lw_good := lg_in 48 rfl rfl
set_option maxRecDepth 100000 in
theorem wd_49 : Cond.selects RX2 yX2_makeNew yX2_makeNew ∈ lw_good := lg_in 49 rfl rfl
set_option maxRecDepth 100000 in
theorem wd_50 : Cond.code yX2_makeNew cX2_makeNew 1 (none) ∈ lw_good := lg_in 50 rfl rfl
set_option maxRecDepth 100000 in
theorem wd_51 : Cond.methodLink RX2 33 yJ7_fill_53178 ∈ lw_good := lg_in 51 rfl rfl
set_option maxRecDepth 100000 in
theorem wd_52 : Cond.static yJ7_fill_53178 ∈ lw_good := lg_in 52 rfl rfl
set_option maxRecDepth 100000 in
theorem wd_53 : Cond.code yJ7_fill_53178 cJ7_fill_53178 4 (none) ∈ lw_good := lg_in 53 rfl rfl
set_option maxRecDepth 100000 in
theorem wd_54 : Cond.fieldLink RX2 11 "SteepleWords$Parish" "measures" "[I" ∈ lw_good := lg_in 54 rfl rfl
set_option maxRecDepth 100000 in
theorem wd_55 : Cond.fieldLink RX2 15 "SteepleWords$Parish" "trusts" "[I" ∈ lw_good := lg_in 55 rfl rfl
set_option maxRecDepth 100000 in
theorem wd_56 : Cond.fieldLink RX2 18 "SteepleWords$Parish" "rights" "[I" ∈ lw_good := lg_in 56 rfl rfl
set_option maxRecDepth 100000 in
theorem wd_57 : Cond.fieldLink RX2 21 "SteepleWords$Parish" "wrongs" "[I" ∈ lw_good := lg_in 57 rfl rfl
set_option maxRecDepth 100000 in
theorem wd_58 : Cond.fieldLink RX2 24 "SteepleWords$Parish" "surveyed" "[I" ∈ lw_good := lg_in 58 rfl rfl
set_option maxRecDepth 100000 in
theorem wd_59 : Cond.fieldLink RX2 27 "SteepleWords$Parish" "settings" "[I" ∈ lw_good := lg_in 59 rfl rfl
set_option maxRecDepth 100000 in
theorem wd_60 : Cond.fieldLink RX2 39 "SteepleWords$Parish" "count" "I" ∈ lw_good := lg_in 60 rfl rfl
set_option maxRecDepth 100000 in
theorem wd_61 : Cond.fieldLink RX2 43 "SteepleWords$Parish" "came" "I" ∈ lw_good := lg_in 61 rfl rfl
set_option maxRecDepth 100000 in
theorem wd_62 : Cond.fieldLink RX2 46 "SteepleWords$Parish" "evenings" "I" ∈ lw_good := lg_in 62 rfl rfl
set_option maxRecDepth 100000 in
theorem wd_63 : Cond.fieldLink RX2 49 "SteepleWords$Parish" "surveys" "I" ∈ lw_good := lg_in 63 rfl rfl
set_option maxRecDepth 100000 in
theorem wd_64 : Cond.fieldLink RX2 52 "SteepleWords$Parish" "lost" "I" ∈ lw_good := lg_in 64 rfl rfl
set_option maxRecDepth 100000 in
theorem wd_88 : Cond.arrayClass .int ∈ lw_good := lg_in 88 rfl rfl
set_option maxRecDepth 100000 in
theorem wd_90 : Cond.classLink RX6 27 RX1 ∈ lw_good := lg_in 90 rfl rfl
set_option maxRecDepth 100000 in
theorem wd_91 : Cond.instantiable RX1 3 ∈ lw_good := lg_in 91 rfl rfl
set_option maxRecDepth 100000 in
theorem wd_92 : Cond.methodLink RX6 29 yX1_init ∈ lw_good := lg_in 92 rfl rfl
set_option maxRecDepth 100000 in
theorem wd_93 : Cond.instanceMethod yX1_init ∈ lw_good := lg_in 93 rfl rfl
set_option maxRecDepth 100000 in
theorem wd_94 : Cond.code yX1_init cX1_init 2 (none) ∈ lw_good := lg_in 94 rfl rfl
set_option maxRecDepth 100000 in
theorem wd_95 : Cond.methodLink RX1 1 objectInit ∈ lw_good := lg_in 95 rfl rfl
set_option maxRecDepth 100000 in
theorem wd_96 : Cond.classLink RX1 9 RX2 ∈ lw_good := lg_in 96 rfl rfl
set_option maxRecDepth 100000 in
theorem wd_97 : Cond.methodLink RX1 15 yX2_init ∈ lw_good := lg_in 97 rfl rfl
set_option maxRecDepth 100000 in
theorem wd_98 : Cond.fieldLink RX1 11 "SteepleWords$History" "states" "[LSteepleWords$Parish;" ∈ lw_good := lg_in 98 rfl rfl
set_option maxRecDepth 100000 in
theorem wd_99 : Cond.fieldLink RX1 20 "SteepleWords$History" "next" "I" ∈ lw_good := lg_in 99 rfl rfl
set_option maxRecDepth 100000 in
theorem wd_100 : Cond.fieldLink RX1 16 "SteepleWords$History" "count" "I" ∈ lw_good := lg_in 100 rfl rfl
set_option maxRecDepth 100000 in
theorem wd_108 : Cond.arrayClass .boolean ∈ lw_good := lg_in 108 rfl rfl
set_option maxRecDepth 100000 in
theorem wd_109 : Cond.classLink RX6 34 RX5 ∈ lw_good := lg_in 109 rfl rfl
set_option maxRecDepth 100000 in
theorem wd_110 : Cond.instantiable RX5 5 ∈ lw_good := lg_in 110 rfl rfl
set_option maxRecDepth 100000 in
theorem wd_112 : Cond.instanceMethod yX5_init ∈ lw_good := lg_in 112 rfl rfl
set_option maxRecDepth 100000 in
theorem wd_113 : Cond.code yX5_init cX5_init 1 (none) ∈ lw_good := lg_in 113 rfl rfl
set_option maxRecDepth 100000 in
theorem wd_114 : Cond.methodLink RX5 3 objectInit ∈ lw_good := lg_in 114 rfl rfl
set_option maxRecDepth 100000 in
theorem wd_115 : Cond.fieldLink RX5 11 "SteepleWords$Text" "signs" "[I" ∈ lw_good := lg_in 115 rfl rfl
set_option maxRecDepth 100000 in
theorem wd_116 : Cond.fieldLink RX5 18 "SteepleWords$Text" "length" "I" ∈ lw_good := lg_in 116 rfl rfl
set_option maxRecDepth 100000 in
theorem wd_117 : Cond.fieldLink RX5 29 "SteepleWords$Text" "position" "I" ∈ lw_good := lg_in 117 rfl rfl
set_option maxRecDepth 100000 in
theorem wd_118 : Cond.fieldLink RX5 22 "SteepleWords$Text" "command" "I" ∈ lw_good := lg_in 118 rfl rfl
set_option maxRecDepth 100000 in
theorem wd_119 : Cond.fieldLink RX5 15 "SteepleWords$Text" "numbers" "[I" ∈ lw_good := lg_in 119 rfl rfl
set_option maxRecDepth 100000 in
theorem wd_131 : Cond.classLink RX6 41 RX0 ∈ lw_good := lg_in 131 rfl rfl
set_option maxRecDepth 100000 in
theorem wd_132 : Cond.instantiable RX0 4 ∈ lw_good := lg_in 132 rfl rfl
set_option maxRecDepth 100000 in
theorem wd_134 : Cond.instanceMethod yX0_init ∈ lw_good := lg_in 134 rfl rfl
set_option maxRecDepth 100000 in
theorem wd_135 : Cond.code yX0_init cX0_init 1 (none) ∈ lw_good := lg_in 135 rfl rfl
set_option maxRecDepth 100000 in
theorem wd_136 : Cond.methodLink RX0 3 objectInit ∈ lw_good := lg_in 136 rfl rfl
set_option maxRecDepth 100000 in
theorem wd_137 : Cond.fieldLink RX0 11 "SteepleWords$Ballot" "changes" "[I" ∈ lw_good := lg_in 137 rfl rfl
set_option maxRecDepth 100000 in
theorem wd_138 : Cond.fieldLink RX0 17 "SteepleWords$Ballot" "lowest" "I" ∈ lw_good := lg_in 138 rfl rfl
set_option maxRecDepth 100000 in
theorem wd_139 : Cond.fieldLink RX0 24 "SteepleWords$Ballot" "highest" "I" ∈ lw_good := lg_in 139 rfl rfl
set_option maxRecDepth 100000 in
theorem wd_140 : Cond.fieldLink RX0 21 "SteepleWords$Ballot" "most" "I" ∈ lw_good := lg_in 140 rfl rfl
set_option maxRecDepth 100000 in
theorem wd_150 : Cond.fieldLink RX6 10 "SteepleWords" "parish" "LSteepleWords$Parish;" ∈ lw_good := lg_in 150 rfl rfl
set_option maxRecDepth 100000 in
theorem wd_151 : Cond.fieldLink RX6 16 "SteepleWords" "copy" "LSteepleWords$Parish;" ∈ lw_good := lg_in 151 rfl rfl
set_option maxRecDepth 100000 in
theorem wd_152 : Cond.fieldLink RX6 19 "SteepleWords" "slots" "[LSteepleWords$Parish;" ∈ lw_good := lg_in 152 rfl rfl
set_option maxRecDepth 100000 in
theorem wd_153 : Cond.fieldLink RX6 23 "SteepleWords" "saved" "[Z" ∈ lw_good := lg_in 153 rfl rfl
set_option maxRecDepth 100000 in
theorem wd_154 : Cond.fieldLink RX6 30 "SteepleWords" "history" "LSteepleWords$History;" ∈ lw_good := lg_in 154 rfl rfl
set_option maxRecDepth 100000 in
theorem wd_155 : Cond.fieldLink RX6 37 "SteepleWords" "text" "LSteepleWords$Text;" ∈ lw_good := lg_in 155 rfl rfl
set_option maxRecDepth 100000 in
theorem wd_156 : Cond.fieldLink RX6 44 "SteepleWords" "ballot" "LSteepleWords$Ballot;" ∈ lw_good := lg_in 156 rfl rfl
set_option maxRecDepth 100000 in
theorem wd_172 : Cond.methodLink RL 187 yL_cell ∈ lw_good := lg_in 172 rfl rfl
set_option maxRecDepth 100000 in
theorem wd_173 : Cond.static yL_cell ∈ lw_good := lg_in 173 rfl rfl
set_option maxRecDepth 100000 in
theorem wd_174 : Cond.code yL_cell cL_cell 2 (some .int) ∈ lw_good := lg_in 174 rfl rfl
set_option maxRecDepth 100000 in
theorem wd_175 : Cond.constant RL 160 (15520171) ∈ lw_good := lg_in 175 rfl rfl
set_option maxRecDepth 100000 in
theorem wd_176 : Cond.constant RL 161 (2147483647) ∈ lw_good := lg_in 176 rfl rfl
set_option maxRecDepth 100000 in
theorem wd_177 : Cond.methodLink RL 195 yL_refuses ∈ lw_good := lg_in 177 rfl rfl
set_option maxRecDepth 100000 in
theorem wd_178 : Cond.static yL_refuses ∈ lw_good := lg_in 178 rfl rfl
set_option maxRecDepth 100000 in
theorem wd_179 : Cond.code yL_refuses cL_refuses 8 (some .boolean) ∈ lw_good := lg_in 179 rfl rfl
set_option maxRecDepth 100000 in
theorem wd_180 : Cond.methodLink RL 162 yL_call ∈ lw_good := lg_in 180 rfl rfl
set_option maxRecDepth 100000 in
theorem wd_181 : Cond.static yL_call ∈ lw_good := lg_in 181 rfl rfl
set_option maxRecDepth 100000 in
theorem wd_182 : Cond.code yL_call cL_call 5 (some .int) ∈ lw_good := lg_in 182 rfl rfl
set_option maxRecDepth 100000 in
theorem wd_183 : Cond.methodLink RL 94 yL_tryAppend ∈ lw_good := lg_in 183 rfl rfl
set_option maxRecDepth 100000 in
theorem wd_184 : Cond.static yL_tryAppend ∈ lw_good := lg_in 184 rfl rfl
set_option maxRecDepth 100000 in
theorem wd_185 : Cond.codeWith yL_tryAppend cL_tryAppend 3 (some .int) [(0, 5, 6, 16), (0, 5, 10, 19)] ∈ lw_good := lg_in 185 rfl rfl
set_option maxRecDepth 100000 in
theorem wd_186 : Cond.classLink RL 16 "java/lang/IllegalArgumentException" ∈ lw_good := lg_in 186 rfl rfl
set_option maxRecDepth 100000 in
theorem wd_187 : Cond.classLink RL 19 "java/lang/IllegalStateException" ∈ lw_good := lg_in 187 rfl rfl
set_option maxRecDepth 100000 in
theorem wd_188 : Cond.methodLink RL 30 yX6_append ∈ lw_good := lg_in 188 rfl rfl
set_option maxRecDepth 100000 in
theorem wd_189 : Cond.instanceMethod yX6_append ∈ lw_good := lg_in 189 rfl rfl
set_option maxRecDepth 100000 in
theorem wd_190 : Cond.selects RX6 yX6_append yX6_append ∈ lw_good := lg_in 190 rfl rfl
set_option maxRecDepth 100000 in
theorem wd_191 : Cond.code yX6_append cX6_append 2 (some .int) ∈ lw_good := lg_in 191 rfl rfl
set_option maxRecDepth 100000 in
theorem wd_192 : Cond.methodLink RX6 48 yX6_need ∈ lw_good := lg_in 192 rfl rfl
set_option maxRecDepth 100000 in
theorem wd_193 : Cond.static yX6_need ∈ lw_good := lg_in 193 rfl rfl
set_option maxRecDepth 100000 in
theorem wd_194 : Cond.code yX6_need cX6_need 1 (none) ∈ lw_good := lg_in 194 rfl rfl
set_option maxRecDepth 100000 in
theorem wd_195 : Cond.classLink RX6 301 "java/lang/IllegalArgumentException" ∈ lw_good := lg_in 195 rfl rfl
set_option maxRecDepth 100000 in
theorem wd_263 : Cond.methodLink RX6 52 yX5_isFull ∈ lw_good := lg_in 263 rfl rfl
set_option maxRecDepth 100000 in
theorem wd_264 : Cond.instanceMethod yX5_isFull ∈ lw_good := lg_in 264 rfl rfl
set_option maxRecDepth 100000 in
theorem wd_265 : Cond.selects RX5 yX5_isFull yX5_isFull ∈ lw_good := lg_in 265 rfl rfl
set_option maxRecDepth 100000 in
theorem wd_266 : Cond.code yX5_isFull cX5_isFull 1 (some .boolean) ∈ lw_good := lg_in 266 rfl rfl
set_option maxRecDepth 100000 in
theorem wd_267 : Cond.classLink RX6 56 "java/lang/IllegalStateException" ∈ lw_good := lg_in 267 rfl rfl
set_option maxRecDepth 100000 in
theorem wd_283 : Cond.methodLink RX6 63 yX5_add ∈ lw_good := lg_in 283 rfl rfl
set_option maxRecDepth 100000 in
theorem wd_284 : Cond.instanceMethod yX5_add ∈ lw_good := lg_in 284 rfl rfl
set_option maxRecDepth 100000 in
theorem wd_285 : Cond.selects RX5 yX5_add yX5_add ∈ lw_good := lg_in 285 rfl rfl
set_option maxRecDepth 100000 in
theorem wd_286 : Cond.code yX5_add cX5_add 2 (some .int) ∈ lw_good := lg_in 286 rfl rfl
set_option maxRecDepth 100000 in
theorem wd_287 : Cond.constant RL 18 (-9999002) ∈ lw_good := lg_in 287 rfl rfl
set_option maxRecDepth 100000 in
theorem wd_288 : Cond.constant RL 21 (-9999003) ∈ lw_good := lg_in 288 rfl rfl
set_option maxRecDepth 100000 in
theorem wd_289 : Cond.methodLink RL 100 yL_tryLoad ∈ lw_good := lg_in 289 rfl rfl
set_option maxRecDepth 100000 in
theorem wd_290 : Cond.static yL_tryLoad ∈ lw_good := lg_in 290 rfl rfl
set_option maxRecDepth 100000 in
theorem wd_291 : Cond.codeWith yL_tryLoad cL_tryLoad 2 (some .int) [(0, 4, 5, 19)] ∈ lw_good := lg_in 291 rfl rfl
set_option maxRecDepth 100000 in
theorem wd_292 : Cond.methodLink RL 34 yX6_load ∈ lw_good := lg_in 292 rfl rfl
set_option maxRecDepth 100000 in
theorem wd_293 : Cond.instanceMethod yX6_load ∈ lw_good := lg_in 293 rfl rfl
set_option maxRecDepth 100000 in
theorem wd_294 : Cond.selects RX6 yX6_load yX6_load ∈ lw_good := lg_in 294 rfl rfl
set_option maxRecDepth 100000 in
theorem wd_295 : Cond.code yX6_load cX6_load 3 (some .int) ∈ lw_good := lg_in 295 rfl rfl
set_option maxRecDepth 100000 in
theorem wd_296 : Cond.methodLink RX6 71 yX5_findError ∈ lw_good := lg_in 296 rfl rfl
set_option maxRecDepth 100000 in
theorem wd_297 : Cond.instanceMethod yX5_findError ∈ lw_good := lg_in 297 rfl rfl
set_option maxRecDepth 100000 in
theorem wd_298 : Cond.selects RX5 yX5_findError yX5_findError ∈ lw_good := lg_in 298 rfl rfl
set_option maxRecDepth 100000 in
theorem wd_299 : Cond.code yX5_findError cX5_findError 2 (some .int) ∈ lw_good := lg_in 299 rfl rfl
set_option maxRecDepth 100000 in
theorem wd_300 : Cond.methodLink RX5 25 yX5_readHead ∈ lw_good := lg_in 300 rfl rfl
set_option maxRecDepth 100000 in
theorem wd_301 : Cond.instanceMethod yX5_readHead ∈ lw_good := lg_in 301 rfl rfl
set_option maxRecDepth 100000 in
theorem wd_302 : Cond.selects RX5 yX5_readHead yX5_readHead ∈ lw_good := lg_in 302 rfl rfl
set_option maxRecDepth 100000 in
theorem wd_303 : Cond.code yX5_readHead cX5_readHead 1 (some .boolean) ∈ lw_good := lg_in 303 rfl rfl
set_option maxRecDepth 100000 in
theorem wd_304 : Cond.methodLink RX5 35 yX5_signHere ∈ lw_good := lg_in 304 rfl rfl
set_option maxRecDepth 100000 in
theorem wd_306 : Cond.instanceMethod yX5_signHere ∈ lw_good := lg_in 306 rfl rfl
set_option maxRecDepth 100000 in
theorem wd_307 : Cond.code yX5_signHere cX5_signHere 1 (some .int) ∈ lw_good := lg_in 307 rfl rfl
set_option maxRecDepth 100000 in
theorem wd_308 : Cond.methodLink RX5 32 yX5_readCommand ∈ lw_good := lg_in 308 rfl rfl
set_option maxRecDepth 100000 in
theorem wd_309 : Cond.instanceMethod yX5_readCommand ∈ lw_good := lg_in 309 rfl rfl
set_option maxRecDepth 100000 in
theorem wd_310 : Cond.selects RX5 yX5_readCommand yX5_readCommand ∈ lw_good := lg_in 310 rfl rfl
set_option maxRecDepth 100000 in
theorem wd_311 : Cond.code yX5_readCommand cX5_readCommand 1 (some .boolean) ∈ lw_good := lg_in 311 rfl rfl
set_option maxRecDepth 100000 in
theorem wd_312 : Cond.fieldLink RX5 39 "SteepleWords$Text" "SHADOW" "[I" ∈ lw_good := lg_in 312 rfl rfl
set_option maxRecDepth 100000 in
theorem wd_314 : Cond.methodLink RX5 42 yX5_readNumbers ∈ lw_good := lg_in 314 rfl rfl
set_option maxRecDepth 100000 in
theorem wd_316 : Cond.instanceMethod yX5_readNumbers ∈ lw_good := lg_in 316 rfl rfl
set_option maxRecDepth 100000 in
theorem wd_317 : Cond.code yX5_readNumbers cX5_readNumbers 3 (some .boolean) ∈ lw_good := lg_in 317 rfl rfl
set_option maxRecDepth 100000 in
theorem wd_318 : Cond.methodLink RX5 64 yX5_readNumber ∈ lw_good := lg_in 318 rfl rfl
set_option maxRecDepth 100000 in
theorem wd_320 : Cond.instanceMethod yX5_readNumber ∈ lw_good := lg_in 320 rfl rfl
set_option maxRecDepth 100000 in
theorem wd_321 : Cond.code yX5_readNumber cX5_readNumber 7 (some .int) ∈ lw_good := lg_in 321 rfl rfl
set_option maxRecDepth 100000 in
theorem wd_322 : Cond.methodLink RX5 68 yX5_leadsInto ∈ lw_good := lg_in 322 rfl rfl
set_option maxRecDepth 100000 in
theorem wd_323 : Cond.static yX5_leadsInto ∈ lw_good := lg_in 323 rfl rfl
set_option maxRecDepth 100000 in
theorem wd_324 : Cond.code yX5_leadsInto cX5_leadsInto 7 (some .boolean) ∈ lw_good := lg_in 324 rfl rfl
set_option maxRecDepth 100000 in
theorem wd_325 : Cond.fieldLink RX5 46 "SteepleWords$Text" "POOL" "[I" ∈ lw_good := lg_in 325 rfl rfl
set_option maxRecDepth 100000 in
theorem wd_327 : Cond.fieldLink RX5 49 "SteepleWords$Text" "WORD" "[I" ∈ lw_good := lg_in 327 rfl rfl
set_option maxRecDepth 100000 in
theorem wd_329 : Cond.fieldLink RX5 52 "SteepleWords$Text" "DROP" "[I" ∈ lw_good := lg_in 329 rfl rfl
set_option maxRecDepth 100000 in
theorem wd_331 : Cond.fieldLink RX5 55 "SteepleWords$Text" "TRUST" "[I" ∈ lw_good := lg_in 331 rfl rfl
set_option maxRecDepth 100000 in
theorem wd_333 : Cond.fieldLink RX5 58 "SteepleWords$Text" "EVENING" "[I" ∈ lw_good := lg_in 333 rfl rfl
set_option maxRecDepth 100000 in
theorem wd_335 : Cond.fieldLink RX5 61 "SteepleWords$Text" "SURVEY" "[I" ∈ lw_good := lg_in 335 rfl rfl
set_option maxRecDepth 100000 in
theorem wd_338 : Cond.methodLink RX6 76 yX2_makeNew ∈ lw_good := lg_in 338 rfl rfl
set_option maxRecDepth 100000 in
theorem wd_339 : Cond.methodLink RX6 79 yX1_forget ∈ lw_good := lg_in 339 rfl rfl
set_option maxRecDepth 100000 in
theorem wd_340 : Cond.instanceMethod yX1_forget ∈ lw_good := lg_in 340 rfl rfl
set_option maxRecDepth 100000 in
theorem wd_341 : Cond.selects RX1 yX1_forget yX1_forget ∈ lw_good := lg_in 341 rfl rfl
set_option maxRecDepth 100000 in
theorem wd_342 : Cond.code yX1_forget cX1_forget 1 (none) ∈ lw_good := lg_in 342 rfl rfl
set_option maxRecDepth 100000 in
theorem wd_343 : Cond.methodLink RX6 82 yX5_readHead ∈ lw_good := lg_in 343 rfl rfl
set_option maxRecDepth 100000 in
theorem wd_344 : Cond.methodLink RX6 85 yX5_readCommand ∈ lw_good := lg_in 344 rfl rfl
set_option maxRecDepth 100000 in
theorem wd_345 : Cond.methodLink RX6 88 yX6_doCommandOfText ∈ lw_good := lg_in 345 rfl rfl
set_option maxRecDepth 100000 in
theorem wd_347 : Cond.instanceMethod yX6_doCommandOfText ∈ lw_good := lg_in 347 rfl rfl
set_option maxRecDepth 100000 in
theorem wd_348 : Cond.code yX6_doCommandOfText cX6_doCommandOfText 3 (some .boolean) ∈ lw_good := lg_in 348 rfl rfl
set_option maxRecDepth 100000 in
theorem wd_349 : Cond.methodLink RX6 91 yX5_number ∈ lw_good := lg_in 349 rfl rfl
set_option maxRecDepth 100000 in
theorem wd_350 : Cond.instanceMethod yX5_number ∈ lw_good := lg_in 350 rfl rfl
set_option maxRecDepth 100000 in
theorem wd_351 : Cond.selects RX5 yX5_number yX5_number ∈ lw_good := lg_in 351 rfl rfl
set_option maxRecDepth 100000 in
theorem wd_352 : Cond.code yX5_number cX5_number 2 (some .int) ∈ lw_good := lg_in 352 rfl rfl
set_option maxRecDepth 100000 in
theorem wd_353 : Cond.methodLink RX6 94 yX5_command ∈ lw_good := lg_in 353 rfl rfl
set_option maxRecDepth 100000 in
theorem wd_354 : Cond.instanceMethod yX5_command ∈ lw_good := lg_in 354 rfl rfl
set_option maxRecDepth 100000 in
theorem wd_355 : Cond.selects RX5 yX5_command yX5_command ∈ lw_good := lg_in 355 rfl rfl
set_option maxRecDepth 100000 in
theorem wd_356 : Cond.code yX5_command cX5_command 1 (some .int) ∈ lw_good := lg_in 356 rfl rfl
set_option maxRecDepth 100000 in
theorem wd_357 : Cond.methodLink RX6 97 yX2_tryMeasure ∈ lw_good := lg_in 357 rfl rfl
set_option maxRecDepth 100000 in
theorem wd_358 : Cond.instanceMethod yX2_tryMeasure ∈ lw_good := lg_in 358 rfl rfl
set_option maxRecDepth 100000 in
theorem wd_359 : Cond.selects RX2 yX2_tryMeasure yX2_tryMeasure ∈ lw_good := lg_in 359 rfl rfl
set_option maxRecDepth 100000 in
theorem wd_360 : Cond.code yX2_tryMeasure cX2_tryMeasure 8 (some .boolean) ∈ lw_good := lg_in 360 rfl rfl
set_option maxRecDepth 100000 in
theorem wd_361 : Cond.methodLink RX2 72 yX2_isSteeple ∈ lw_good := lg_in 361 rfl rfl
set_option maxRecDepth 100000 in
theorem wd_362 : Cond.static yX2_isSteeple ∈ lw_good := lg_in 362 rfl rfl
set_option maxRecDepth 100000 in
theorem wd_363 : Cond.code yX2_isSteeple cX2_isSteeple 1 (some .boolean) ∈ lw_good := lg_in 363 rfl rfl
set_option maxRecDepth 100000 in
theorem wd_364 : Cond.methodLink RX2 75 yX2_isTeller ∈ lw_good := lg_in 364 rfl rfl
set_option maxRecDepth 100000 in
theorem wd_365 : Cond.static yX2_isTeller ∈ lw_good := lg_in 365 rfl rfl
set_option maxRecDepth 100000 in
theorem wd_366 : Cond.code yX2_isTeller cX2_isTeller 1 (some .boolean) ∈ lw_good := lg_in 366 rfl rfl
set_option maxRecDepth 100000 in
theorem wd_367 : Cond.methodLink RX2 78 yX2_fits ∈ lw_good := lg_in 367 rfl rfl
set_option maxRecDepth 100000 in
theorem wd_368 : Cond.static yX2_fits ∈ lw_good := lg_in 368 rfl rfl
set_option maxRecDepth 100000 in
theorem wd_369 : Cond.code yX2_fits cX2_fits 5 (some .boolean) ∈ lw_good := lg_in 369 rfl rfl
set_option maxRecDepth 100000 in
theorem wd_370 : Cond.methodLink RX2 65 yX2_fitsFarSide ∈ lw_good := lg_in 370 rfl rfl
set_option maxRecDepth 100000 in
theorem wd_371 : Cond.static yX2_fitsFarSide ∈ lw_good := lg_in 371 rfl rfl
set_option maxRecDepth 100000 in
theorem wd_372 : Cond.code yX2_fitsFarSide cX2_fitsFarSide 2 (some .boolean) ∈ lw_good := lg_in 372 rfl rfl
set_option maxRecDepth 100000 in
theorem wd_373 : Cond.methodLink RX2 69 yX2_isHeight ∈ lw_good := lg_in 373 rfl rfl
set_option maxRecDepth 100000 in
theorem wd_374 : Cond.static yX2_isHeight ∈ lw_good := lg_in 374 rfl rfl
set_option maxRecDepth 100000 in
theorem wd_375 : Cond.code yX2_isHeight cX2_isHeight 1 (some .boolean) ∈ lw_good := lg_in 375 rfl rfl
set_option maxRecDepth 100000 in
theorem wd_376 : Cond.methodLink RX2 82 yX2_isFull ∈ lw_good := lg_in 376 rfl rfl
set_option maxRecDepth 100000 in
theorem wd_377 : Cond.instanceMethod yX2_isFull ∈ lw_good := lg_in 377 rfl rfl
set_option maxRecDepth 100000 in
theorem wd_378 : Cond.selects RX2 yX2_isFull yX2_isFull ∈ lw_good := lg_in 378 rfl rfl
set_option maxRecDepth 100000 in
theorem wd_379 : Cond.code yX2_isFull cX2_isFull 1 (some .boolean) ∈ lw_good := lg_in 379 rfl rfl
set_option maxRecDepth 100000 in
theorem wd_380 : Cond.methodLink RX2 86 yX2_addMeasure ∈ lw_good := lg_in 380 rfl rfl
set_option maxRecDepth 100000 in
theorem wd_381 : Cond.instanceMethod yX2_addMeasure ∈ lw_good := lg_in 381 rfl rfl
set_option maxRecDepth 100000 in
theorem wd_382 : Cond.selects RX2 yX2_addMeasure yX2_addMeasure ∈ lw_good := lg_in 382 rfl rfl
set_option maxRecDepth 100000 in
theorem wd_383 : Cond.code yX2_addMeasure cX2_addMeasure 9 (some .int) ∈ lw_good := lg_in 383 rfl rfl
set_option maxRecDepth 100000 in
theorem wd_384 : Cond.methodLink RX2 107 yX2_leastHeight ∈ lw_good := lg_in 384 rfl rfl
set_option maxRecDepth 100000 in
theorem wd_385 : Cond.static yX2_leastHeight ∈ lw_good := lg_in 385 rfl rfl
set_option maxRecDepth 100000 in
theorem wd_386 : Cond.code yX2_leastHeight cX2_leastHeight 3 (some .int) ∈ lw_good := lg_in 386 rfl rfl
set_option maxRecDepth 100000 in
theorem wd_387 : Cond.methodLink RX2 117 yJ9_floorDiv_7cf53 ∈ lw_good := lg_in 387 rfl rfl
set_option maxRecDepth 100000 in
theorem wd_388 : Cond.static yJ9_floorDiv_7cf53 ∈ lw_good := lg_in 388 rfl rfl
set_option maxRecDepth 100000 in
theorem wd_389 : Cond.code yJ9_floorDiv_7cf53 cJ9_floorDiv_7cf53 3 (some .int) ∈ lw_good := lg_in 389 rfl rfl
set_option maxRecDepth 100000 in
theorem wd_390 : Cond.methodLink RX2 111 yX2_withinFeet ∈ lw_good := lg_in 390 rfl rfl
set_option maxRecDepth 100000 in
theorem wd_391 : Cond.static yX2_withinFeet ∈ lw_good := lg_in 391 rfl rfl
set_option maxRecDepth 100000 in
theorem wd_392 : Cond.code yX2_withinFeet cX2_withinFeet 1 (some .int) ∈ lw_good := lg_in 392 rfl rfl
set_option maxRecDepth 100000 in
theorem wd_393 : Cond.methodLink RX2 122 yJ9_min_7cf53 ∈ lw_good := lg_in 393 rfl rfl
set_option maxRecDepth 100000 in
theorem wd_394 : Cond.static yJ9_min_7cf53 ∈ lw_good := lg_in 394 rfl rfl
set_option maxRecDepth 100000 in
theorem wd_395 : Cond.code yJ9_min_7cf53 cJ9_min_7cf53 2 (some .int) ∈ lw_good := lg_in 395 rfl rfl
set_option maxRecDepth 100000 in
theorem wd_396 : Cond.methodLink RX2 125 yJ9_max_7cf53 ∈ lw_good := lg_in 396 rfl rfl
set_option maxRecDepth 100000 in
theorem wd_397 : Cond.static yJ9_max_7cf53 ∈ lw_good := lg_in 397 rfl rfl
set_option maxRecDepth 100000 in
theorem wd_398 : Cond.code yJ9_max_7cf53 cJ9_max_7cf53 2 (some .int) ∈ lw_good := lg_in 398 rfl rfl
set_option maxRecDepth 100000 in
theorem wd_399 : Cond.methodLink RX2 114 yX2_greatestHeight ∈ lw_good := lg_in 399 rfl rfl
set_option maxRecDepth 100000 in
theorem wd_400 : Cond.static yX2_greatestHeight ∈ lw_good := lg_in 400 rfl rfl
set_option maxRecDepth 100000 in
theorem wd_401 : Cond.code yX2_greatestHeight cX2_greatestHeight 3 (some .int) ∈ lw_good := lg_in 401 rfl rfl
set_option maxRecDepth 100000 in
theorem wd_402 : Cond.methodLink RX6 101 yX2_tryDrop ∈ lw_good := lg_in 402 rfl rfl
set_option maxRecDepth 100000 in
theorem wd_403 : Cond.instanceMethod yX2_tryDrop ∈ lw_good := lg_in 403 rfl rfl
set_option maxRecDepth 100000 in
theorem wd_404 : Cond.selects RX2 yX2_tryDrop yX2_tryDrop ∈ lw_good := lg_in 404 rfl rfl
set_option maxRecDepth 100000 in
theorem wd_405 : Cond.code yX2_tryDrop cX2_tryDrop 2 (some .boolean) ∈ lw_good := lg_in 405 rfl rfl
set_option maxRecDepth 100000 in
theorem wd_406 : Cond.methodLink RX2 90 yX2_hasMeasure ∈ lw_good := lg_in 406 rfl rfl
set_option maxRecDepth 100000 in
theorem wd_407 : Cond.instanceMethod yX2_hasMeasure ∈ lw_good := lg_in 407 rfl rfl
set_option maxRecDepth 100000 in
theorem wd_408 : Cond.selects RX2 yX2_hasMeasure yX2_hasMeasure ∈ lw_good := lg_in 408 rfl rfl
set_option maxRecDepth 100000 in
theorem wd_409 : Cond.code yX2_hasMeasure cX2_hasMeasure 2 (some .boolean) ∈ lw_good := lg_in 409 rfl rfl
set_option maxRecDepth 100000 in
theorem wd_410 : Cond.methodLink RX2 93 yX2_removeMeasure ∈ lw_good := lg_in 410 rfl rfl
set_option maxRecDepth 100000 in
theorem wd_411 : Cond.instanceMethod yX2_removeMeasure ∈ lw_good := lg_in 411 rfl rfl
set_option maxRecDepth 100000 in
theorem wd_412 : Cond.selects RX2 yX2_removeMeasure yX2_removeMeasure ∈ lw_good := lg_in 412 rfl rfl
set_option maxRecDepth 100000 in
theorem wd_413 : Cond.code yX2_removeMeasure cX2_removeMeasure 3 (some .int) ∈ lw_good := lg_in 413 rfl rfl
set_option maxRecDepth 100000 in
theorem wd_414 : Cond.methodLink RX2 55 arraycopyName ∈ lw_good := lg_in 414 rfl rfl
set_option maxRecDepth 100000 in
theorem wd_415 : Cond.static arraycopyName ∈ lw_good := lg_in 415 rfl rfl
set_option maxRecDepth 100000 in
theorem wd_416 : Cond.native arraycopyName ∈ lw_good := lg_in 416 rfl rfl
set_option maxRecDepth 100000 in
theorem wd_417 : Cond.methodLink RX6 105 yX2_tryTrust ∈ lw_good := lg_in 417 rfl rfl
set_option maxRecDepth 100000 in
theorem wd_418 : Cond.instanceMethod yX2_tryTrust ∈ lw_good := lg_in 418 rfl rfl
set_option maxRecDepth 100000 in
theorem wd_419 : Cond.selects RX2 yX2_tryTrust yX2_tryTrust ∈ lw_good := lg_in 419 rfl rfl
set_option maxRecDepth 100000 in
theorem wd_420 : Cond.code yX2_tryTrust cX2_tryTrust 3 (some .boolean) ∈ lw_good := lg_in 420 rfl rfl
set_option maxRecDepth 100000 in
theorem wd_421 : Cond.methodLink RX2 97 yX2_isTrust ∈ lw_good := lg_in 421 rfl rfl
set_option maxRecDepth 100000 in
theorem wd_422 : Cond.static yX2_isTrust ∈ lw_good := lg_in 422 rfl rfl
set_option maxRecDepth 100000 in
theorem wd_423 : Cond.code yX2_isTrust cX2_isTrust 1 (some .boolean) ∈ lw_good := lg_in 423 rfl rfl
set_option maxRecDepth 100000 in
theorem wd_424 : Cond.methodLink RX2 100 yX2_changeTrust ∈ lw_good := lg_in 424 rfl rfl
set_option maxRecDepth 100000 in
theorem wd_425 : Cond.instanceMethod yX2_changeTrust ∈ lw_good := lg_in 425 rfl rfl
set_option maxRecDepth 100000 in
theorem wd_426 : Cond.selects RX2 yX2_changeTrust yX2_changeTrust ∈ lw_good := lg_in 426 rfl rfl
set_option maxRecDepth 100000 in
theorem wd_427 : Cond.code yX2_changeTrust cX2_changeTrust 4 (some .int) ∈ lw_good := lg_in 427 rfl rfl
set_option maxRecDepth 100000 in
theorem wd_428 : Cond.methodLink RX6 109 yX2_passEvening ∈ lw_good := lg_in 428 rfl rfl
set_option maxRecDepth 100000 in
theorem wd_429 : Cond.instanceMethod yX2_passEvening ∈ lw_good := lg_in 429 rfl rfl
set_option maxRecDepth 100000 in
theorem wd_430 : Cond.selects RX2 yX2_passEvening yX2_passEvening ∈ lw_good := lg_in 430 rfl rfl
set_option maxRecDepth 100000 in
theorem wd_431 : Cond.code yX2_passEvening cX2_passEvening 4 (some .int) ∈ lw_good := lg_in 431 rfl rfl
set_option maxRecDepth 100000 in
theorem wd_432 : Cond.methodLink RX2 128 yX2_matters ∈ lw_good := lg_in 432 rfl rfl
set_option maxRecDepth 100000 in
theorem wd_434 : Cond.instanceMethod yX2_matters ∈ lw_good := lg_in 434 rfl rfl
set_option maxRecDepth 100000 in
theorem wd_435 : Cond.code yX2_matters cX2_matters 3 (some .boolean) ∈ lw_good := lg_in 435 rfl rfl
set_option maxRecDepth 100000 in
theorem wd_436 : Cond.methodLink RX2 138 yX2_number ∈ lw_good := lg_in 436 rfl rfl
set_option maxRecDepth 100000 in
theorem wd_437 : Cond.instanceMethod yX2_number ∈ lw_good := lg_in 437 rfl rfl
set_option maxRecDepth 100000 in
theorem wd_438 : Cond.selects RX2 yX2_number yX2_number ∈ lw_good := lg_in 438 rfl rfl
set_option maxRecDepth 100000 in
theorem wd_439 : Cond.code yX2_number cX2_number 3 (some .int) ∈ lw_good := lg_in 439 rfl rfl
set_option maxRecDepth 100000 in
theorem wd_440 : Cond.methodLink RX2 155 yX2_feetApart ∈ lw_good := lg_in 440 rfl rfl
set_option maxRecDepth 100000 in
theorem wd_441 : Cond.instanceMethod yX2_feetApart ∈ lw_good := lg_in 441 rfl rfl
set_option maxRecDepth 100000 in
theorem wd_442 : Cond.selects RX2 yX2_feetApart yX2_feetApart ∈ lw_good := lg_in 442 rfl rfl
set_option maxRecDepth 100000 in
theorem wd_443 : Cond.code yX2_feetApart cX2_feetApart 5 (some .int) ∈ lw_good := lg_in 443 rfl rfl
set_option maxRecDepth 100000 in
theorem wd_444 : Cond.methodLink RX2 131 yX2_shameLighter ∈ lw_good := lg_in 444 rfl rfl
set_option maxRecDepth 100000 in
theorem wd_446 : Cond.instanceMethod yX2_shameLighter ∈ lw_good := lg_in 446 rfl rfl
set_option maxRecDepth 100000 in
theorem wd_447 : Cond.code yX2_shameLighter cX2_shameLighter 5 (none) ∈ lw_good := lg_in 447 rfl rfl
set_option maxRecDepth 100000 in
theorem wd_448 : Cond.methodLink RX2 135 yX2_weight ∈ lw_good := lg_in 448 rfl rfl
set_option maxRecDepth 100000 in
theorem wd_449 : Cond.instanceMethod yX2_weight ∈ lw_good := lg_in 449 rfl rfl
set_option maxRecDepth 100000 in
theorem wd_450 : Cond.selects RX2 yX2_weight yX2_weight ∈ lw_good := lg_in 450 rfl rfl
set_option maxRecDepth 100000 in
theorem wd_451 : Cond.code yX2_weight cX2_weight 2 (some .int) ∈ lw_good := lg_in 451 rfl rfl
set_option maxRecDepth 100000 in
theorem wd_452 : Cond.methodLink RX6 112 yX2_trySurvey ∈ lw_good := lg_in 452 rfl rfl
set_option maxRecDepth 100000 in
theorem wd_453 : Cond.instanceMethod yX2_trySurvey ∈ lw_good := lg_in 453 rfl rfl
set_option maxRecDepth 100000 in
theorem wd_454 : Cond.selects RX2 yX2_trySurvey yX2_trySurvey ∈ lw_good := lg_in 454 rfl rfl
set_option maxRecDepth 100000 in
theorem wd_455 : Cond.code yX2_trySurvey cX2_trySurvey 3 (some .boolean) ∈ lw_good := lg_in 455 rfl rfl
set_option maxRecDepth 100000 in
theorem wd_456 : Cond.methodLink RX2 104 yX2_surveySteeple ∈ lw_good := lg_in 456 rfl rfl
set_option maxRecDepth 100000 in
theorem wd_457 : Cond.instanceMethod yX2_surveySteeple ∈ lw_good := lg_in 457 rfl rfl
set_option maxRecDepth 100000 in
theorem wd_458 : Cond.selects RX2 yX2_surveySteeple yX2_surveySteeple ∈ lw_good := lg_in 458 rfl rfl
set_option maxRecDepth 100000 in
theorem wd_459 : Cond.code yX2_surveySteeple cX2_surveySteeple 6 (some .int) ∈ lw_good := lg_in 459 rfl rfl
set_option maxRecDepth 100000 in
theorem wd_460 : Cond.methodLink RX2 141 yX2_isOf ∈ lw_good := lg_in 460 rfl rfl
set_option maxRecDepth 100000 in
theorem wd_461 : Cond.instanceMethod yX2_isOf ∈ lw_good := lg_in 461 rfl rfl
set_option maxRecDepth 100000 in
theorem wd_462 : Cond.selects RX2 yX2_isOf yX2_isOf ∈ lw_good := lg_in 462 rfl rfl
set_option maxRecDepth 100000 in
theorem wd_463 : Cond.code yX2_isOf cX2_isOf 3 (some .boolean) ∈ lw_good := lg_in 463 rfl rfl
set_option maxRecDepth 100000 in
theorem wd_464 : Cond.methodLink RX2 144 yX2_tells ∈ lw_good := lg_in 464 rfl rfl
set_option maxRecDepth 100000 in
theorem wd_465 : Cond.instanceMethod yX2_tells ∈ lw_good := lg_in 465 rfl rfl
set_option maxRecDepth 100000 in
theorem wd_466 : Cond.selects RX2 yX2_tells yX2_tells ∈ lw_good := lg_in 466 rfl rfl
set_option maxRecDepth 100000 in
theorem wd_467 : Cond.code yX2_tells cX2_tells 3 (some .boolean) ∈ lw_good := lg_in 467 rfl rfl
set_option maxRecDepth 100000 in
theorem wd_468 : Cond.methodLink RX2 147 yX2_judge ∈ lw_good := lg_in 468 rfl rfl
set_option maxRecDepth 100000 in
theorem wd_470 : Cond.instanceMethod yX2_judge ∈ lw_good := lg_in 470 rfl rfl
set_option maxRecDepth 100000 in
theorem wd_471 : Cond.code yX2_judge cX2_judge 3 (none) ∈ lw_good := lg_in 471 rfl rfl
set_option maxRecDepth 100000 in
theorem wd_472 : Cond.methodLink RX2 151 yX2_removeMeasuresOf ∈ lw_good := lg_in 472 rfl rfl
set_option maxRecDepth 100000 in
theorem wd_474 : Cond.instanceMethod yX2_removeMeasuresOf ∈ lw_good := lg_in 474 rfl rfl
set_option maxRecDepth 100000 in
theorem wd_475 : Cond.code yX2_removeMeasuresOf cX2_removeMeasuresOf 3 (none) ∈ lw_good := lg_in 475 rfl rfl
set_option maxRecDepth 100000 in
theorem wd_476 : Cond.methodLink RL 104 yL_tryAbout ∈ lw_good := lg_in 476 rfl rfl
set_option maxRecDepth 100000 in
theorem wd_477 : Cond.static yL_tryAbout ∈ lw_good := lg_in 477 rfl rfl
set_option maxRecDepth 100000 in
theorem wd_478 : Cond.codeWith yL_tryAbout cL_tryAbout 3 (some .int) [(0, 5, 6, 16)] ∈ lw_good := lg_in 478 rfl rfl
set_option maxRecDepth 100000 in
theorem wd_479 : Cond.methodLink RL 38 yX6_about ∈ lw_good := lg_in 479 rfl rfl
set_option maxRecDepth 100000 in
theorem wd_480 : Cond.instanceMethod yX6_about ∈ lw_good := lg_in 480 rfl rfl
set_option maxRecDepth 100000 in
theorem wd_481 : Cond.selects RX6 yX6_about yX6_about ∈ lw_good := lg_in 481 rfl rfl
set_option maxRecDepth 100000 in
theorem wd_482 : Cond.code yX6_about cX6_about 2 (some .int) ∈ lw_good := lg_in 482 rfl rfl
set_option maxRecDepth 100000 in
theorem wd_483 : Cond.methodLink RX6 115 yX2_count ∈ lw_good := lg_in 483 rfl rfl
set_option maxRecDepth 100000 in
theorem wd_484 : Cond.instanceMethod yX2_count ∈ lw_good := lg_in 484 rfl rfl
set_option maxRecDepth 100000 in
theorem wd_485 : Cond.selects RX2 yX2_count yX2_count ∈ lw_good := lg_in 485 rfl rfl
set_option maxRecDepth 100000 in
theorem wd_486 : Cond.code yX2_count cX2_count 1 (some .int) ∈ lw_good := lg_in 486 rfl rfl
set_option maxRecDepth 100000 in
theorem wd_487 : Cond.methodLink RX6 118 yX2_came ∈ lw_good := lg_in 487 rfl rfl
set_option maxRecDepth 100000 in
theorem wd_488 : Cond.instanceMethod yX2_came ∈ lw_good := lg_in 488 rfl rfl
set_option maxRecDepth 100000 in
theorem wd_489 : Cond.selects RX2 yX2_came yX2_came ∈ lw_good := lg_in 489 rfl rfl
set_option maxRecDepth 100000 in
theorem wd_490 : Cond.code yX2_came cX2_came 1 (some .int) ∈ lw_good := lg_in 490 rfl rfl
set_option maxRecDepth 100000 in
theorem wd_491 : Cond.methodLink RX6 121 yX2_evenings ∈ lw_good := lg_in 491 rfl rfl
set_option maxRecDepth 100000 in
theorem wd_492 : Cond.instanceMethod yX2_evenings ∈ lw_good := lg_in 492 rfl rfl
set_option maxRecDepth 100000 in
theorem wd_493 : Cond.selects RX2 yX2_evenings yX2_evenings ∈ lw_good := lg_in 493 rfl rfl
set_option maxRecDepth 100000 in
theorem wd_494 : Cond.code yX2_evenings cX2_evenings 1 (some .int) ∈ lw_good := lg_in 494 rfl rfl
set_option maxRecDepth 100000 in
theorem wd_495 : Cond.methodLink RX6 124 yX2_surveys ∈ lw_good := lg_in 495 rfl rfl
set_option maxRecDepth 100000 in
theorem wd_496 : Cond.instanceMethod yX2_surveys ∈ lw_good := lg_in 496 rfl rfl
set_option maxRecDepth 100000 in
theorem wd_497 : Cond.selects RX2 yX2_surveys yX2_surveys ∈ lw_good := lg_in 497 rfl rfl
set_option maxRecDepth 100000 in
theorem wd_498 : Cond.code yX2_surveys cX2_surveys 1 (some .int) ∈ lw_good := lg_in 498 rfl rfl
set_option maxRecDepth 100000 in
theorem wd_499 : Cond.methodLink RX6 127 yX2_pairsThatQuarrel ∈ lw_good := lg_in 499 rfl rfl
set_option maxRecDepth 100000 in
theorem wd_500 : Cond.instanceMethod yX2_pairsThatQuarrel ∈ lw_good := lg_in 500 rfl rfl
set_option maxRecDepth 100000 in
theorem wd_501 : Cond.selects RX2 yX2_pairsThatQuarrel yX2_pairsThatQuarrel ∈ lw_good := lg_in 501 rfl rfl
set_option maxRecDepth 100000 in
theorem wd_502 : Cond.code yX2_pairsThatQuarrel cX2_pairsThatQuarrel 4 (some .int) ∈ lw_good := lg_in 502 rfl rfl
set_option maxRecDepth 100000 in
theorem wd_503 : Cond.methodLink RX2 158 yX2_quarrel ∈ lw_good := lg_in 503 rfl rfl
set_option maxRecDepth 100000 in
theorem wd_505 : Cond.instanceMethod yX2_quarrel ∈ lw_good := lg_in 505 rfl rfl
set_option maxRecDepth 100000 in
theorem wd_506 : Cond.code yX2_quarrel cX2_quarrel 3 (some .boolean) ∈ lw_good := lg_in 506 rfl rfl
set_option maxRecDepth 100000 in
theorem wd_507 : Cond.methodLink RX6 130 yX2_pairsThatMatter ∈ lw_good := lg_in 507 rfl rfl
set_option maxRecDepth 100000 in
theorem wd_508 : Cond.instanceMethod yX2_pairsThatMatter ∈ lw_good := lg_in 508 rfl rfl
set_option maxRecDepth 100000 in
theorem wd_509 : Cond.selects RX2 yX2_pairsThatMatter yX2_pairsThatMatter ∈ lw_good := lg_in 509 rfl rfl
set_option maxRecDepth 100000 in
theorem wd_510 : Cond.code yX2_pairsThatMatter cX2_pairsThatMatter 4 (some .int) ∈ lw_good := lg_in 510 rfl rfl
set_option maxRecDepth 100000 in
theorem wd_511 : Cond.methodLink RX6 133 yX2_trustOfAll ∈ lw_good := lg_in 511 rfl rfl
set_option maxRecDepth 100000 in
theorem wd_512 : Cond.instanceMethod yX2_trustOfAll ∈ lw_good := lg_in 512 rfl rfl
set_option maxRecDepth 100000 in
theorem wd_513 : Cond.selects RX2 yX2_trustOfAll yX2_trustOfAll ∈ lw_good := lg_in 513 rfl rfl
set_option maxRecDepth 100000 in
theorem wd_514 : Cond.code yX2_trustOfAll cX2_trustOfAll 1 (some .int) ∈ lw_good := lg_in 514 rfl rfl
set_option maxRecDepth 100000 in
theorem wd_515 : Cond.methodLink RX2 161 yX2_sum ∈ lw_good := lg_in 515 rfl rfl
set_option maxRecDepth 100000 in
theorem wd_516 : Cond.static yX2_sum ∈ lw_good := lg_in 516 rfl rfl
set_option maxRecDepth 100000 in
theorem wd_517 : Cond.code yX2_sum cX2_sum 6 (some .int) ∈ lw_good := lg_in 517 rfl rfl
set_option maxRecDepth 100000 in
theorem wd_518 : Cond.methodLink RX6 136 yX2_lost ∈ lw_good := lg_in 518 rfl rfl
set_option maxRecDepth 100000 in
theorem wd_519 : Cond.instanceMethod yX2_lost ∈ lw_good := lg_in 519 rfl rfl
set_option maxRecDepth 100000 in
theorem wd_520 : Cond.selects RX2 yX2_lost yX2_lost ∈ lw_good := lg_in 520 rfl rfl
set_option maxRecDepth 100000 in
theorem wd_521 : Cond.code yX2_lost cX2_lost 1 (some .int) ∈ lw_good := lg_in 521 rfl rfl
set_option maxRecDepth 100000 in
theorem wd_522 : Cond.methodLink RX6 139 yX2_rightOfAll ∈ lw_good := lg_in 522 rfl rfl
set_option maxRecDepth 100000 in
theorem wd_523 : Cond.instanceMethod yX2_rightOfAll ∈ lw_good := lg_in 523 rfl rfl
set_option maxRecDepth 100000 in
theorem wd_524 : Cond.selects RX2 yX2_rightOfAll yX2_rightOfAll ∈ lw_good := lg_in 524 rfl rfl
set_option maxRecDepth 100000 in
theorem wd_525 : Cond.code yX2_rightOfAll cX2_rightOfAll 1 (some .int) ∈ lw_good := lg_in 525 rfl rfl
set_option maxRecDepth 100000 in
theorem wd_526 : Cond.methodLink RX6 142 yX2_wrongOfAll ∈ lw_good := lg_in 526 rfl rfl
set_option maxRecDepth 100000 in
theorem wd_527 : Cond.instanceMethod yX2_wrongOfAll ∈ lw_good := lg_in 527 rfl rfl
set_option maxRecDepth 100000 in
theorem wd_528 : Cond.selects RX2 yX2_wrongOfAll yX2_wrongOfAll ∈ lw_good := lg_in 528 rfl rfl
set_option maxRecDepth 100000 in
theorem wd_529 : Cond.code yX2_wrongOfAll cX2_wrongOfAll 1 (some .int) ∈ lw_good := lg_in 529 rfl rfl
set_option maxRecDepth 100000 in
theorem wd_530 : Cond.methodLink RL 107 yL_tryOf ∈ lw_good := lg_in 530 rfl rfl
set_option maxRecDepth 100000 in
theorem wd_531 : Cond.static yL_tryOf ∈ lw_good := lg_in 531 rfl rfl
set_option maxRecDepth 100000 in
theorem wd_532 : Cond.codeWith yL_tryOf cL_tryOf 4 (some .int) [(0, 6, 7, 13), (0, 6, 11, 16)] ∈ lw_good := lg_in 532 rfl rfl
set_option maxRecDepth 100000 in
theorem wd_533 : Cond.classLink RL 13 "java/lang/IndexOutOfBoundsException" ∈ lw_good := lg_in 533 rfl rfl
set_option maxRecDepth 100000 in
theorem wd_534 : Cond.methodLink RL 41 yX6_measureOf ∈ lw_good := lg_in 534 rfl rfl
set_option maxRecDepth 100000 in
theorem wd_535 : Cond.instanceMethod yX6_measureOf ∈ lw_good := lg_in 535 rfl rfl
set_option maxRecDepth 100000 in
theorem wd_536 : Cond.selects RX6 yX6_measureOf yX6_measureOf ∈ lw_good := lg_in 536 rfl rfl
set_option maxRecDepth 100000 in
theorem wd_537 : Cond.code yX6_measureOf cX6_measureOf 3 (some .int) ∈ lw_good := lg_in 537 rfl rfl
set_option maxRecDepth 100000 in
theorem wd_538 : Cond.methodLink RX6 145 yX6_needMeasure ∈ lw_good := lg_in 538 rfl rfl
set_option maxRecDepth 100000 in
theorem wd_540 : Cond.instanceMethod yX6_needMeasure ∈ lw_good := lg_in 540 rfl rfl
set_option maxRecDepth 100000 in
theorem wd_541 : Cond.code yX6_needMeasure cX6_needMeasure 2 (none) ∈ lw_good := lg_in 541 rfl rfl
set_option maxRecDepth 100000 in
theorem wd_542 : Cond.methodLink RX6 319 yX2_hasMeasure ∈ lw_good := lg_in 542 rfl rfl
set_option maxRecDepth 100000 in
theorem wd_543 : Cond.classLink RX6 309 "java/lang/IndexOutOfBoundsException" ∈ lw_good := lg_in 543 rfl rfl
set_option maxRecDepth 100000 in
theorem wd_559 : Cond.methodLink RX6 149 yX2_weight ∈ lw_good := lg_in 559 rfl rfl
set_option maxRecDepth 100000 in
theorem wd_560 : Cond.methodLink RX6 152 yX2_quarrelsOfMeasure ∈ lw_good := lg_in 560 rfl rfl
set_option maxRecDepth 100000 in
theorem wd_561 : Cond.instanceMethod yX2_quarrelsOfMeasure ∈ lw_good := lg_in 561 rfl rfl
set_option maxRecDepth 100000 in
theorem wd_562 : Cond.selects RX2 yX2_quarrelsOfMeasure yX2_quarrelsOfMeasure ∈ lw_good := lg_in 562 rfl rfl
set_option maxRecDepth 100000 in
theorem wd_563 : Cond.code yX2_quarrelsOfMeasure cX2_quarrelsOfMeasure 4 (some .int) ∈ lw_good := lg_in 563 rfl rfl
set_option maxRecDepth 100000 in
theorem wd_564 : Cond.methodLink RX6 155 yX2_number ∈ lw_good := lg_in 564 rfl rfl
set_option maxRecDepth 100000 in
theorem wd_565 : Cond.constant RL 15 (-9999001) ∈ lw_good := lg_in 565 rfl rfl
set_option maxRecDepth 100000 in
theorem wd_566 : Cond.methodLink RL 111 yL_tryTeller ∈ lw_good := lg_in 566 rfl rfl
set_option maxRecDepth 100000 in
theorem wd_567 : Cond.static yL_tryTeller ∈ lw_good := lg_in 567 rfl rfl
set_option maxRecDepth 100000 in
theorem wd_568 : Cond.codeWith yL_tryTeller cL_tryTeller 4 (some .int) [(0, 6, 7, 13), (0, 6, 11, 16)] ∈ lw_good := lg_in 568 rfl rfl
set_option maxRecDepth 100000 in
theorem wd_569 : Cond.methodLink RL 45 yX6_tellerOf ∈ lw_good := lg_in 569 rfl rfl
set_option maxRecDepth 100000 in
theorem wd_570 : Cond.instanceMethod yX6_tellerOf ∈ lw_good := lg_in 570 rfl rfl
set_option maxRecDepth 100000 in
theorem wd_571 : Cond.selects RX6 yX6_tellerOf yX6_tellerOf ∈ lw_good := lg_in 571 rfl rfl
set_option maxRecDepth 100000 in
theorem wd_572 : Cond.code yX6_tellerOf cX6_tellerOf 3 (some .int) ∈ lw_good := lg_in 572 rfl rfl
set_option maxRecDepth 100000 in
theorem wd_573 : Cond.methodLink RX6 158 yX6_needTeller ∈ lw_good := lg_in 573 rfl rfl
set_option maxRecDepth 100000 in
theorem wd_574 : Cond.static yX6_needTeller ∈ lw_good := lg_in 574 rfl rfl
set_option maxRecDepth 100000 in
theorem wd_575 : Cond.code yX6_needTeller cX6_needTeller 1 (none) ∈ lw_good := lg_in 575 rfl rfl
set_option maxRecDepth 100000 in
theorem wd_576 : Cond.methodLink RX6 314 yX2_isTeller ∈ lw_good := lg_in 576 rfl rfl
set_option maxRecDepth 100000 in
theorem wd_578 : Cond.methodLink RX6 161 yX2_trustOf ∈ lw_good := lg_in 578 rfl rfl
set_option maxRecDepth 100000 in
theorem wd_579 : Cond.instanceMethod yX2_trustOf ∈ lw_good := lg_in 579 rfl rfl
set_option maxRecDepth 100000 in
theorem wd_580 : Cond.selects RX2 yX2_trustOf yX2_trustOf ∈ lw_good := lg_in 580 rfl rfl
set_option maxRecDepth 100000 in
theorem wd_581 : Cond.code yX2_trustOf cX2_trustOf 2 (some .int) ∈ lw_good := lg_in 581 rfl rfl
set_option maxRecDepth 100000 in
theorem wd_582 : Cond.methodLink RX6 164 yX2_measuresOfTeller ∈ lw_good := lg_in 582 rfl rfl
set_option maxRecDepth 100000 in
theorem wd_583 : Cond.instanceMethod yX2_measuresOfTeller ∈ lw_good := lg_in 583 rfl rfl
set_option maxRecDepth 100000 in
theorem wd_584 : Cond.selects RX2 yX2_measuresOfTeller yX2_measuresOfTeller ∈ lw_good := lg_in 584 rfl rfl
set_option maxRecDepth 100000 in
theorem wd_585 : Cond.code yX2_measuresOfTeller cX2_measuresOfTeller 4 (some .int) ∈ lw_good := lg_in 585 rfl rfl
set_option maxRecDepth 100000 in
theorem wd_586 : Cond.methodLink RX6 167 yX2_rightOf ∈ lw_good := lg_in 586 rfl rfl
set_option maxRecDepth 100000 in
theorem wd_587 : Cond.instanceMethod yX2_rightOf ∈ lw_good := lg_in 587 rfl rfl
set_option maxRecDepth 100000 in
theorem wd_588 : Cond.selects RX2 yX2_rightOf yX2_rightOf ∈ lw_good := lg_in 588 rfl rfl
set_option maxRecDepth 100000 in
theorem wd_589 : Cond.code yX2_rightOf cX2_rightOf 2 (some .int) ∈ lw_good := lg_in 589 rfl rfl
set_option maxRecDepth 100000 in
theorem wd_590 : Cond.methodLink RX6 170 yX2_wrongOf ∈ lw_good := lg_in 590 rfl rfl
set_option maxRecDepth 100000 in
theorem wd_591 : Cond.instanceMethod yX2_wrongOf ∈ lw_good := lg_in 591 rfl rfl
set_option maxRecDepth 100000 in
theorem wd_592 : Cond.selects RX2 yX2_wrongOf yX2_wrongOf ∈ lw_good := lg_in 592 rfl rfl
set_option maxRecDepth 100000 in
theorem wd_593 : Cond.code yX2_wrongOf cX2_wrongOf 2 (some .int) ∈ lw_good := lg_in 593 rfl rfl
set_option maxRecDepth 100000 in
theorem wd_594 : Cond.methodLink RX6 173 yX2_quarrelsOfTeller ∈ lw_good := lg_in 594 rfl rfl
set_option maxRecDepth 100000 in
theorem wd_595 : Cond.instanceMethod yX2_quarrelsOfTeller ∈ lw_good := lg_in 595 rfl rfl
set_option maxRecDepth 100000 in
theorem wd_596 : Cond.selects RX2 yX2_quarrelsOfTeller yX2_quarrelsOfTeller ∈ lw_good := lg_in 596 rfl rfl
set_option maxRecDepth 100000 in
theorem wd_597 : Cond.code yX2_quarrelsOfTeller cX2_quarrelsOfTeller 4 (some .int) ∈ lw_good := lg_in 597 rfl rfl
set_option maxRecDepth 100000 in
theorem wd_598 : Cond.methodLink RX2 165 yX2_quarrelsOfMeasure ∈ lw_good := lg_in 598 rfl rfl
set_option maxRecDepth 100000 in
theorem wd_599 : Cond.methodLink RL 114 yL_trySteeple ∈ lw_good := lg_in 599 rfl rfl
set_option maxRecDepth 100000 in
theorem wd_600 : Cond.static yL_trySteeple ∈ lw_good := lg_in 600 rfl rfl
set_option maxRecDepth 100000 in
theorem wd_601 : Cond.codeWith yL_trySteeple cL_trySteeple 4 (some .int) [(0, 6, 7, 13), (0, 6, 11, 16)] ∈ lw_good := lg_in 601 rfl rfl
set_option maxRecDepth 100000 in
theorem wd_602 : Cond.methodLink RL 48 yX6_steepleOf ∈ lw_good := lg_in 602 rfl rfl
set_option maxRecDepth 100000 in
theorem wd_603 : Cond.instanceMethod yX6_steepleOf ∈ lw_good := lg_in 603 rfl rfl
set_option maxRecDepth 100000 in
theorem wd_604 : Cond.selects RX6 yX6_steepleOf yX6_steepleOf ∈ lw_good := lg_in 604 rfl rfl
set_option maxRecDepth 100000 in
theorem wd_605 : Cond.code yX6_steepleOf cX6_steepleOf 3 (some .int) ∈ lw_good := lg_in 605 rfl rfl
set_option maxRecDepth 100000 in
theorem wd_606 : Cond.methodLink RX6 176 yX6_needSteeple ∈ lw_good := lg_in 606 rfl rfl
set_option maxRecDepth 100000 in
theorem wd_607 : Cond.static yX6_needSteeple ∈ lw_good := lg_in 607 rfl rfl
set_option maxRecDepth 100000 in
theorem wd_608 : Cond.code yX6_needSteeple cX6_needSteeple 1 (none) ∈ lw_good := lg_in 608 rfl rfl
set_option maxRecDepth 100000 in
theorem wd_609 : Cond.methodLink RX6 306 yX2_isSteeple ∈ lw_good := lg_in 609 rfl rfl
set_option maxRecDepth 100000 in
theorem wd_611 : Cond.methodLink RX6 179 yX2_measuresOfSteeple ∈ lw_good := lg_in 611 rfl rfl
set_option maxRecDepth 100000 in
theorem wd_612 : Cond.instanceMethod yX2_measuresOfSteeple ∈ lw_good := lg_in 612 rfl rfl
set_option maxRecDepth 100000 in
theorem wd_613 : Cond.selects RX2 yX2_measuresOfSteeple yX2_measuresOfSteeple ∈ lw_good := lg_in 613 rfl rfl
set_option maxRecDepth 100000 in
theorem wd_614 : Cond.code yX2_measuresOfSteeple cX2_measuresOfSteeple 4 (some .int) ∈ lw_good := lg_in 614 rfl rfl
set_option maxRecDepth 100000 in
theorem wd_615 : Cond.methodLink RX6 182 yX2_heightSurveyed ∈ lw_good := lg_in 615 rfl rfl
set_option maxRecDepth 100000 in
theorem wd_616 : Cond.instanceMethod yX2_heightSurveyed ∈ lw_good := lg_in 616 rfl rfl
set_option maxRecDepth 100000 in
theorem wd_617 : Cond.selects RX2 yX2_heightSurveyed yX2_heightSurveyed ∈ lw_good := lg_in 617 rfl rfl
set_option maxRecDepth 100000 in
theorem wd_618 : Cond.code yX2_heightSurveyed cX2_heightSurveyed 2 (some .int) ∈ lw_good := lg_in 618 rfl rfl
set_option maxRecDepth 100000 in
theorem wd_619 : Cond.methodLink RX6 185 yX2_weightOfSteeple ∈ lw_good := lg_in 619 rfl rfl
set_option maxRecDepth 100000 in
theorem wd_620 : Cond.instanceMethod yX2_weightOfSteeple ∈ lw_good := lg_in 620 rfl rfl
set_option maxRecDepth 100000 in
theorem wd_621 : Cond.selects RX2 yX2_weightOfSteeple yX2_weightOfSteeple ∈ lw_good := lg_in 621 rfl rfl
set_option maxRecDepth 100000 in
theorem wd_622 : Cond.code yX2_weightOfSteeple cX2_weightOfSteeple 4 (some .int) ∈ lw_good := lg_in 622 rfl rfl
set_option maxRecDepth 100000 in
theorem wd_623 : Cond.methodLink RL 117 yL_tryVote ∈ lw_good := lg_in 623 rfl rfl
set_option maxRecDepth 100000 in
theorem wd_624 : Cond.static yL_tryVote ∈ lw_good := lg_in 624 rfl rfl
set_option maxRecDepth 100000 in
theorem wd_625 : Cond.codeWith yL_tryVote cL_tryVote 4 (some .int) [(0, 6, 7, 13), (0, 6, 11, 16)] ∈ lw_good := lg_in 625 rfl rfl
set_option maxRecDepth 100000 in
theorem wd_626 : Cond.methodLink RL 51 yX6_vote ∈ lw_good := lg_in 626 rfl rfl
set_option maxRecDepth 100000 in
theorem wd_627 : Cond.instanceMethod yX6_vote ∈ lw_good := lg_in 627 rfl rfl
set_option maxRecDepth 100000 in
theorem wd_628 : Cond.selects RX6 yX6_vote yX6_vote ∈ lw_good := lg_in 628 rfl rfl
set_option maxRecDepth 100000 in
theorem wd_629 : Cond.code yX6_vote cX6_vote 3 (some .int) ∈ lw_good := lg_in 629 rfl rfl
set_option maxRecDepth 100000 in
theorem wd_630 : Cond.methodLink RX6 188 yX2_isHeight ∈ lw_good := lg_in 630 rfl rfl
set_option maxRecDepth 100000 in
theorem wd_631 : Cond.methodLink RX6 191 yX2_voteOf ∈ lw_good := lg_in 631 rfl rfl
set_option maxRecDepth 100000 in
theorem wd_632 : Cond.instanceMethod yX2_voteOf ∈ lw_good := lg_in 632 rfl rfl
set_option maxRecDepth 100000 in
theorem wd_633 : Cond.selects RX2 yX2_voteOf yX2_voteOf ∈ lw_good := lg_in 633 rfl rfl
set_option maxRecDepth 100000 in
theorem wd_634 : Cond.code yX2_voteOf cX2_voteOf 6 (some .int) ∈ lw_good := lg_in 634 rfl rfl
set_option maxRecDepth 100000 in
theorem wd_635 : Cond.methodLink RL 120 yL_tryBest ∈ lw_good := lg_in 635 rfl rfl
set_option maxRecDepth 100000 in
theorem wd_636 : Cond.static yL_tryBest ∈ lw_good := lg_in 636 rfl rfl
set_option maxRecDepth 100000 in
theorem wd_637 : Cond.codeWith yL_tryBest cL_tryBest 5 (some .int) [(0, 7, 8, 13), (0, 7, 13, 16)] ∈ lw_good := lg_in 637 rfl rfl
set_option maxRecDepth 100000 in
theorem wd_638 : Cond.methodLink RL 54 yX6_best ∈ lw_good := lg_in 638 rfl rfl
set_option maxRecDepth 100000 in
theorem wd_639 : Cond.instanceMethod yX6_best ∈ lw_good := lg_in 639 rfl rfl
set_option maxRecDepth 100000 in
theorem wd_640 : Cond.selects RX6 yX6_best yX6_best ∈ lw_good := lg_in 640 rfl rfl
set_option maxRecDepth 100000 in
theorem wd_641 : Cond.code yX6_best cX6_best 4 (some .int) ∈ lw_good := lg_in 641 rfl rfl
set_option maxRecDepth 100000 in
theorem wd_642 : Cond.methodLink RX6 195 yX0_countByHeights ∈ lw_good := lg_in 642 rfl rfl
set_option maxRecDepth 100000 in
theorem wd_643 : Cond.instanceMethod yX0_countByHeights ∈ lw_good := lg_in 643 rfl rfl
set_option maxRecDepth 100000 in
theorem wd_644 : Cond.selects RX0 yX0_countByHeights yX0_countByHeights ∈ lw_good := lg_in 644 rfl rfl
set_option maxRecDepth 100000 in
theorem wd_645 : Cond.code yX0_countByHeights cX0_countByHeights 5 (none) ∈ lw_good := lg_in 645 rfl rfl
set_option maxRecDepth 100000 in
theorem wd_646 : Cond.methodLink RX0 27 yX0_noteChanges ∈ lw_good := lg_in 646 rfl rfl
set_option maxRecDepth 100000 in
theorem wd_648 : Cond.instanceMethod yX0_noteChanges ∈ lw_good := lg_in 648 rfl rfl
set_option maxRecDepth 100000 in
theorem wd_649 : Cond.code yX0_noteChanges cX0_noteChanges 4 (none) ∈ lw_good := lg_in 649 rfl rfl
set_option maxRecDepth 100000 in
theorem wd_650 : Cond.methodLink RX0 31 yJ7_fill_53178 ∈ lw_good := lg_in 650 rfl rfl
set_option maxRecDepth 100000 in
theorem wd_651 : Cond.methodLink RX0 37 yX2_count ∈ lw_good := lg_in 651 rfl rfl
set_option maxRecDepth 100000 in
theorem wd_652 : Cond.methodLink RX0 41 yX2_isOf ∈ lw_good := lg_in 652 rfl rfl
set_option maxRecDepth 100000 in
theorem wd_653 : Cond.methodLink RX0 45 yX2_number ∈ lw_good := lg_in 653 rfl rfl
set_option maxRecDepth 100000 in
theorem wd_654 : Cond.methodLink RX0 49 yX2_weight ∈ lw_good := lg_in 654 rfl rfl
set_option maxRecDepth 100000 in
theorem wd_655 : Cond.methodLink RX6 199 yX0_countByEnds ∈ lw_good := lg_in 655 rfl rfl
set_option maxRecDepth 100000 in
theorem wd_656 : Cond.instanceMethod yX0_countByEnds ∈ lw_good := lg_in 656 rfl rfl
set_option maxRecDepth 100000 in
theorem wd_657 : Cond.selects RX0 yX0_countByEnds yX0_countByEnds ∈ lw_good := lg_in 657 rfl rfl
set_option maxRecDepth 100000 in
theorem wd_658 : Cond.code yX0_countByEnds cX0_countByEnds 6 (none) ∈ lw_good := lg_in 658 rfl rfl
set_option maxRecDepth 100000 in
theorem wd_659 : Cond.methodLink RX0 53 yX2_voteOf ∈ lw_good := lg_in 659 rfl rfl
set_option maxRecDepth 100000 in
theorem wd_660 : Cond.methodLink RX0 57 yX0_tryLowest ∈ lw_good := lg_in 660 rfl rfl
set_option maxRecDepth 100000 in
theorem wd_662 : Cond.instanceMethod yX0_tryLowest ∈ lw_good := lg_in 662 rfl rfl
set_option maxRecDepth 100000 in
theorem wd_663 : Cond.code yX0_tryLowest cX0_tryLowest 3 (none) ∈ lw_good := lg_in 663 rfl rfl
set_option maxRecDepth 100000 in
theorem wd_664 : Cond.methodLink RX6 203 yX0_told ∈ lw_good := lg_in 664 rfl rfl
set_option maxRecDepth 100000 in
theorem wd_665 : Cond.instanceMethod yX0_told ∈ lw_good := lg_in 665 rfl rfl
set_option maxRecDepth 100000 in
theorem wd_666 : Cond.selects RX0 yX0_told yX0_told ∈ lw_good := lg_in 666 rfl rfl
set_option maxRecDepth 100000 in
theorem wd_667 : Cond.code yX0_told cX0_told 2 (some .int) ∈ lw_good := lg_in 667 rfl rfl
set_option maxRecDepth 100000 in
theorem wd_668 : Cond.methodLink RL 124 yL_trySetting ∈ lw_good := lg_in 668 rfl rfl
set_option maxRecDepth 100000 in
theorem wd_669 : Cond.static yL_trySetting ∈ lw_good := lg_in 669 rfl rfl
set_option maxRecDepth 100000 in
theorem wd_670 : Cond.codeWith yL_trySetting cL_trySetting 3 (some .int) [(0, 5, 6, 16)] ∈ lw_good := lg_in 670 rfl rfl
set_option maxRecDepth 100000 in
theorem wd_671 : Cond.methodLink RL 58 yX6_setting ∈ lw_good := lg_in 671 rfl rfl
set_option maxRecDepth 100000 in
theorem wd_672 : Cond.instanceMethod yX6_setting ∈ lw_good := lg_in 672 rfl rfl
set_option maxRecDepth 100000 in
theorem wd_673 : Cond.selects RX6 yX6_setting yX6_setting ∈ lw_good := lg_in 673 rfl rfl
set_option maxRecDepth 100000 in
theorem wd_674 : Cond.code yX6_setting cX6_setting 2 (some .int) ∈ lw_good := lg_in 674 rfl rfl
set_option maxRecDepth 100000 in
theorem wd_675 : Cond.methodLink RX6 206 yX2_isSetting ∈ lw_good := lg_in 675 rfl rfl
set_option maxRecDepth 100000 in
theorem wd_676 : Cond.static yX2_isSetting ∈ lw_good := lg_in 676 rfl rfl
set_option maxRecDepth 100000 in
theorem wd_677 : Cond.code yX2_isSetting cX2_isSetting 1 (some .boolean) ∈ lw_good := lg_in 677 rfl rfl
set_option maxRecDepth 100000 in
theorem wd_678 : Cond.methodLink RX6 209 yX2_settingOf ∈ lw_good := lg_in 678 rfl rfl
set_option maxRecDepth 100000 in
theorem wd_679 : Cond.instanceMethod yX2_settingOf ∈ lw_good := lg_in 679 rfl rfl
set_option maxRecDepth 100000 in
theorem wd_680 : Cond.selects RX2 yX2_settingOf yX2_settingOf ∈ lw_good := lg_in 680 rfl rfl
set_option maxRecDepth 100000 in
theorem wd_681 : Cond.code yX2_settingOf cX2_settingOf 2 (some .int) ∈ lw_good := lg_in 681 rfl rfl
set_option maxRecDepth 100000 in
theorem wd_682 : Cond.methodLink RL 127 yL_tryDrop ∈ lw_good := lg_in 682 rfl rfl
set_option maxRecDepth 100000 in
theorem wd_683 : Cond.static yL_tryDrop ∈ lw_good := lg_in 683 rfl rfl
set_option maxRecDepth 100000 in
theorem wd_684 : Cond.codeWith yL_tryDrop cL_tryDrop 3 (some .int) [(0, 5, 6, 13)] ∈ lw_good := lg_in 684 rfl rfl
set_option maxRecDepth 100000 in
theorem wd_685 : Cond.methodLink RL 61 yX6_drop ∈ lw_good := lg_in 685 rfl rfl
set_option maxRecDepth 100000 in
theorem wd_686 : Cond.instanceMethod yX6_drop ∈ lw_good := lg_in 686 rfl rfl
set_option maxRecDepth 100000 in
theorem wd_687 : Cond.selects RX6 yX6_drop yX6_drop ∈ lw_good := lg_in 687 rfl rfl
set_option maxRecDepth 100000 in
theorem wd_688 : Cond.code yX6_drop cX6_drop 2 (some .int) ∈ lw_good := lg_in 688 rfl rfl
set_option maxRecDepth 100000 in
theorem wd_689 : Cond.methodLink RX6 219 yX1_remember ∈ lw_good := lg_in 689 rfl rfl
set_option maxRecDepth 100000 in
theorem wd_690 : Cond.instanceMethod yX1_remember ∈ lw_good := lg_in 690 rfl rfl
set_option maxRecDepth 100000 in
theorem wd_691 : Cond.selects RX1 yX1_remember yX1_remember ∈ lw_good := lg_in 691 rfl rfl
set_option maxRecDepth 100000 in
theorem wd_692 : Cond.code yX1_remember cX1_remember 2 (none) ∈ lw_good := lg_in 692 rfl rfl
set_option maxRecDepth 100000 in
theorem wd_693 : Cond.methodLink RX1 23 yX2_takeFrom ∈ lw_good := lg_in 693 rfl rfl
set_option maxRecDepth 100000 in
theorem wd_694 : Cond.instanceMethod yX2_takeFrom ∈ lw_good := lg_in 694 rfl rfl
set_option maxRecDepth 100000 in
theorem wd_695 : Cond.selects RX2 yX2_takeFrom yX2_takeFrom ∈ lw_good := lg_in 695 rfl rfl
set_option maxRecDepth 100000 in
theorem wd_696 : Cond.code yX2_takeFrom cX2_takeFrom 2 (none) ∈ lw_good := lg_in 696 rfl rfl
set_option maxRecDepth 100000 in
theorem wd_697 : Cond.methodLink RX1 27 yJ9_min_7cf53 ∈ lw_good := lg_in 697 rfl rfl
set_option maxRecDepth 100000 in
theorem wd_698 : Cond.methodLink RX6 227 yX2_removeMeasure ∈ lw_good := lg_in 698 rfl rfl
set_option maxRecDepth 100000 in
theorem wd_699 : Cond.methodLink RL 130 yL_tryTrust ∈ lw_good := lg_in 699 rfl rfl
set_option maxRecDepth 100000 in
theorem wd_700 : Cond.static yL_tryTrust ∈ lw_good := lg_in 700 rfl rfl
set_option maxRecDepth 100000 in
theorem wd_701 : Cond.codeWith yL_tryTrust cL_tryTrust 4 (some .int) [(0, 6, 7, 13), (0, 6, 11, 16)] ∈ lw_good := lg_in 701 rfl rfl
set_option maxRecDepth 100000 in
theorem wd_702 : Cond.methodLink RL 64 yX6_trust ∈ lw_good := lg_in 702 rfl rfl
set_option maxRecDepth 100000 in
theorem wd_703 : Cond.instanceMethod yX6_trust ∈ lw_good := lg_in 703 rfl rfl
set_option maxRecDepth 100000 in
theorem wd_704 : Cond.selects RX6 yX6_trust yX6_trust ∈ lw_good := lg_in 704 rfl rfl
set_option maxRecDepth 100000 in
theorem wd_705 : Cond.code yX6_trust cX6_trust 3 (some .int) ∈ lw_good := lg_in 705 rfl rfl
set_option maxRecDepth 100000 in
theorem wd_706 : Cond.methodLink RX6 230 yX2_isTrust ∈ lw_good := lg_in 706 rfl rfl
set_option maxRecDepth 100000 in
theorem wd_707 : Cond.methodLink RX6 233 yX2_changeTrust ∈ lw_good := lg_in 707 rfl rfl
set_option maxRecDepth 100000 in
theorem wd_708 : Cond.methodLink RL 133 yL_trySurvey ∈ lw_good := lg_in 708 rfl rfl
set_option maxRecDepth 100000 in
theorem wd_709 : Cond.static yL_trySurvey ∈ lw_good := lg_in 709 rfl rfl
set_option maxRecDepth 100000 in
theorem wd_710 : Cond.codeWith yL_trySurvey cL_trySurvey 4 (some .int) [(0, 6, 7, 13), (0, 6, 11, 16)] ∈ lw_good := lg_in 710 rfl rfl
set_option maxRecDepth 100000 in
theorem wd_711 : Cond.methodLink RL 67 yX6_survey ∈ lw_good := lg_in 711 rfl rfl
set_option maxRecDepth 100000 in
theorem wd_712 : Cond.instanceMethod yX6_survey ∈ lw_good := lg_in 712 rfl rfl
set_option maxRecDepth 100000 in
theorem wd_713 : Cond.selects RX6 yX6_survey yX6_survey ∈ lw_good := lg_in 713 rfl rfl
set_option maxRecDepth 100000 in
theorem wd_714 : Cond.code yX6_survey cX6_survey 3 (some .int) ∈ lw_good := lg_in 714 rfl rfl
set_option maxRecDepth 100000 in
theorem wd_715 : Cond.methodLink RX6 236 yX2_surveySteeple ∈ lw_good := lg_in 715 rfl rfl
set_option maxRecDepth 100000 in
theorem wd_716 : Cond.methodLink RL 136 yL_tryLay ∈ lw_good := lg_in 716 rfl rfl
set_option maxRecDepth 100000 in
theorem wd_717 : Cond.static yL_tryLay ∈ lw_good := lg_in 717 rfl rfl
set_option maxRecDepth 100000 in
theorem wd_718 : Cond.codeWith yL_tryLay cL_tryLay 4 (some .int) [(0, 6, 7, 16)] ∈ lw_good := lg_in 718 rfl rfl
set_option maxRecDepth 100000 in
theorem wd_719 : Cond.methodLink RL 70 yX6_set ∈ lw_good := lg_in 719 rfl rfl
set_option maxRecDepth 100000 in
theorem wd_720 : Cond.instanceMethod yX6_set ∈ lw_good := lg_in 720 rfl rfl
set_option maxRecDepth 100000 in
theorem wd_721 : Cond.selects RX6 yX6_set yX6_set ∈ lw_good := lg_in 721 rfl rfl
set_option maxRecDepth 100000 in
theorem wd_722 : Cond.code yX6_set cX6_set 3 (some .int) ∈ lw_good := lg_in 722 rfl rfl
set_option maxRecDepth 100000 in
theorem wd_723 : Cond.methodLink RX6 239 yX2_fitsSetting ∈ lw_good := lg_in 723 rfl rfl
set_option maxRecDepth 100000 in
theorem wd_724 : Cond.static yX2_fitsSetting ∈ lw_good := lg_in 724 rfl rfl
set_option maxRecDepth 100000 in
theorem wd_725 : Cond.code yX2_fitsSetting cX2_fitsSetting 2 (some .boolean) ∈ lw_good := lg_in 725 rfl rfl
set_option maxRecDepth 100000 in
theorem wd_726 : Cond.methodLink RX2 61 yX2_isSetting ∈ lw_good := lg_in 726 rfl rfl
set_option maxRecDepth 100000 in
theorem wd_727 : Cond.methodLink RX6 242 yX2_changeSetting ∈ lw_good := lg_in 727 rfl rfl
set_option maxRecDepth 100000 in
theorem wd_728 : Cond.instanceMethod yX2_changeSetting ∈ lw_good := lg_in 728 rfl rfl
set_option maxRecDepth 100000 in
theorem wd_729 : Cond.selects RX2 yX2_changeSetting yX2_changeSetting ∈ lw_good := lg_in 729 rfl rfl
set_option maxRecDepth 100000 in
theorem wd_730 : Cond.code yX2_changeSetting cX2_changeSetting 4 (some .int) ∈ lw_good := lg_in 730 rfl rfl
set_option maxRecDepth 100000 in
theorem wd_731 : Cond.methodLink RL 139 yL_tryUndo ∈ lw_good := lg_in 731 rfl rfl
set_option maxRecDepth 100000 in
theorem wd_732 : Cond.static yL_tryUndo ∈ lw_good := lg_in 732 rfl rfl
set_option maxRecDepth 100000 in
theorem wd_733 : Cond.codeWith yL_tryUndo cL_tryUndo 2 (some .int) [(0, 4, 5, 19)] ∈ lw_good := lg_in 733 rfl rfl
set_option maxRecDepth 100000 in
theorem wd_734 : Cond.methodLink RL 73 yX6_undo ∈ lw_good := lg_in 734 rfl rfl
set_option maxRecDepth 100000 in
theorem wd_735 : Cond.instanceMethod yX6_undo ∈ lw_good := lg_in 735 rfl rfl
set_option maxRecDepth 100000 in
theorem wd_736 : Cond.selects RX6 yX6_undo yX6_undo ∈ lw_good := lg_in 736 rfl rfl
set_option maxRecDepth 100000 in
theorem wd_737 : Cond.code yX6_undo cX6_undo 1 (some .int) ∈ lw_good := lg_in 737 rfl rfl
set_option maxRecDepth 100000 in
theorem wd_738 : Cond.methodLink RX6 245 yX1_isEmpty ∈ lw_good := lg_in 738 rfl rfl
set_option maxRecDepth 100000 in
theorem wd_739 : Cond.instanceMethod yX1_isEmpty ∈ lw_good := lg_in 739 rfl rfl
set_option maxRecDepth 100000 in
theorem wd_740 : Cond.selects RX1 yX1_isEmpty yX1_isEmpty ∈ lw_good := lg_in 740 rfl rfl
set_option maxRecDepth 100000 in
theorem wd_741 : Cond.code yX1_isEmpty cX1_isEmpty 1 (some .boolean) ∈ lw_good := lg_in 741 rfl rfl
set_option maxRecDepth 100000 in
theorem wd_743 : Cond.methodLink RX6 250 yX1_takeBack ∈ lw_good := lg_in 743 rfl rfl
set_option maxRecDepth 100000 in
theorem wd_744 : Cond.instanceMethod yX1_takeBack ∈ lw_good := lg_in 744 rfl rfl
set_option maxRecDepth 100000 in
theorem wd_745 : Cond.selects RX1 yX1_takeBack yX1_takeBack ∈ lw_good := lg_in 745 rfl rfl
set_option maxRecDepth 100000 in
theorem wd_746 : Cond.code yX1_takeBack cX1_takeBack 2 (some .int) ∈ lw_good := lg_in 746 rfl rfl
set_option maxRecDepth 100000 in
theorem wd_747 : Cond.methodLink RL 142 yL_tryApart ∈ lw_good := lg_in 747 rfl rfl
set_option maxRecDepth 100000 in
theorem wd_748 : Cond.static yL_tryApart ∈ lw_good := lg_in 748 rfl rfl
set_option maxRecDepth 100000 in
theorem wd_749 : Cond.codeWith yL_tryApart cL_tryApart 4 (some .int) [(0, 6, 7, 13)] ∈ lw_good := lg_in 749 rfl rfl
set_option maxRecDepth 100000 in
theorem wd_750 : Cond.methodLink RL 76 yX6_apart ∈ lw_good := lg_in 750 rfl rfl
set_option maxRecDepth 100000 in
theorem wd_751 : Cond.instanceMethod yX6_apart ∈ lw_good := lg_in 751 rfl rfl
set_option maxRecDepth 100000 in
theorem wd_752 : Cond.selects RX6 yX6_apart yX6_apart ∈ lw_good := lg_in 752 rfl rfl
set_option maxRecDepth 100000 in
theorem wd_753 : Cond.code yX6_apart cX6_apart 3 (some .int) ∈ lw_good := lg_in 753 rfl rfl
set_option maxRecDepth 100000 in
theorem wd_754 : Cond.methodLink RX6 254 yX2_feetApart ∈ lw_good := lg_in 754 rfl rfl
set_option maxRecDepth 100000 in
theorem wd_755 : Cond.methodLink RL 145 yL_tryAgainst ∈ lw_good := lg_in 755 rfl rfl
set_option maxRecDepth 100000 in
theorem wd_756 : Cond.static yL_tryAgainst ∈ lw_good := lg_in 756 rfl rfl
set_option maxRecDepth 100000 in
theorem wd_757 : Cond.codeWith yL_tryAgainst cL_tryAgainst 3 (some .int) [(0, 5, 6, 13)] ∈ lw_good := lg_in 757 rfl rfl
set_option maxRecDepth 100000 in
theorem wd_758 : Cond.methodLink RL 79 yX6_against ∈ lw_good := lg_in 758 rfl rfl
set_option maxRecDepth 100000 in
theorem wd_759 : Cond.instanceMethod yX6_against ∈ lw_good := lg_in 759 rfl rfl
set_option maxRecDepth 100000 in
theorem wd_760 : Cond.selects RX6 yX6_against yX6_against ∈ lw_good := lg_in 760 rfl rfl
set_option maxRecDepth 100000 in
theorem wd_761 : Cond.code yX6_against cX6_against 2 (some .int) ∈ lw_good := lg_in 761 rfl rfl
set_option maxRecDepth 100000 in
theorem wd_762 : Cond.methodLink RX6 257 yX0_lowest ∈ lw_good := lg_in 762 rfl rfl
set_option maxRecDepth 100000 in
theorem wd_763 : Cond.instanceMethod yX0_lowest ∈ lw_good := lg_in 763 rfl rfl
set_option maxRecDepth 100000 in
theorem wd_764 : Cond.selects RX0 yX0_lowest yX0_lowest ∈ lw_good := lg_in 764 rfl rfl
set_option maxRecDepth 100000 in
theorem wd_765 : Cond.code yX0_lowest cX0_lowest 1 (some .int) ∈ lw_good := lg_in 765 rfl rfl
set_option maxRecDepth 100000 in
theorem wd_766 : Cond.methodLink RX6 260 yX2_loudestAgainst ∈ lw_good := lg_in 766 rfl rfl
set_option maxRecDepth 100000 in
theorem wd_767 : Cond.instanceMethod yX2_loudestAgainst ∈ lw_good := lg_in 767 rfl rfl
set_option maxRecDepth 100000 in
theorem wd_768 : Cond.selects RX2 yX2_loudestAgainst yX2_loudestAgainst ∈ lw_good := lg_in 768 rfl rfl
set_option maxRecDepth 100000 in
theorem wd_769 : Cond.code yX2_loudestAgainst cX2_loudestAgainst 5 (some .int) ∈ lw_good := lg_in 769 rfl rfl
set_option maxRecDepth 100000 in
theorem wd_770 : Cond.methodLink RX2 171 yX2_isLouder ∈ lw_good := lg_in 770 rfl rfl
set_option maxRecDepth 100000 in
theorem wd_772 : Cond.instanceMethod yX2_isLouder ∈ lw_good := lg_in 772 rfl rfl
set_option maxRecDepth 100000 in
theorem wd_773 : Cond.code yX2_isLouder cX2_isLouder 5 (some .boolean) ∈ lw_good := lg_in 773 rfl rfl
set_option maxRecDepth 100000 in
theorem wd_774 : Cond.methodLink RX2 175 yX2_feetFrom ∈ lw_good := lg_in 774 rfl rfl
set_option maxRecDepth 100000 in
theorem wd_776 : Cond.instanceMethod yX2_feetFrom ∈ lw_good := lg_in 776 rfl rfl
set_option maxRecDepth 100000 in
theorem wd_777 : Cond.code yX2_feetFrom cX2_feetFrom 3 (some .int) ∈ lw_good := lg_in 777 rfl rfl
set_option maxRecDepth 100000 in
theorem wd_778 : Cond.methodLink RL 148 yL_tryWithout ∈ lw_good := lg_in 778 rfl rfl
set_option maxRecDepth 100000 in
theorem wd_779 : Cond.static yL_tryWithout ∈ lw_good := lg_in 779 rfl rfl
set_option maxRecDepth 100000 in
theorem wd_780 : Cond.codeWith yL_tryWithout cL_tryWithout 4 (some .int) [(0, 6, 7, 13), (0, 6, 11, 16)] ∈ lw_good := lg_in 780 rfl rfl
set_option maxRecDepth 100000 in
theorem wd_781 : Cond.methodLink RL 82 yX6_without ∈ lw_good := lg_in 781 rfl rfl
set_option maxRecDepth 100000 in
theorem wd_782 : Cond.instanceMethod yX6_without ∈ lw_good := lg_in 782 rfl rfl
set_option maxRecDepth 100000 in
theorem wd_783 : Cond.selects RX6 yX6_without yX6_without ∈ lw_good := lg_in 783 rfl rfl
set_option maxRecDepth 100000 in
theorem wd_784 : Cond.code yX6_without cX6_without 3 (some .int) ∈ lw_good := lg_in 784 rfl rfl
set_option maxRecDepth 100000 in
theorem wd_785 : Cond.methodLink RL 151 yL_trySwings ∈ lw_good := lg_in 785 rfl rfl
set_option maxRecDepth 100000 in
theorem wd_786 : Cond.static yL_trySwings ∈ lw_good := lg_in 786 rfl rfl
set_option maxRecDepth 100000 in
theorem wd_787 : Cond.codeWith yL_trySwings cL_trySwings 4 (some .int) [(0, 6, 7, 13)] ∈ lw_good := lg_in 787 rfl rfl
set_option maxRecDepth 100000 in
theorem wd_788 : Cond.methodLink RL 85 yX6_swings ∈ lw_good := lg_in 788 rfl rfl
set_option maxRecDepth 100000 in
theorem wd_789 : Cond.instanceMethod yX6_swings ∈ lw_good := lg_in 789 rfl rfl
set_option maxRecDepth 100000 in
theorem wd_790 : Cond.selects RX6 yX6_swings yX6_swings ∈ lw_good := lg_in 790 rfl rfl
set_option maxRecDepth 100000 in
theorem wd_791 : Cond.code yX6_swings cX6_swings 4 (some .int) ∈ lw_good := lg_in 791 rfl rfl
set_option maxRecDepth 100000 in
theorem wd_792 : Cond.methodLink RX6 263 yX2_takeFrom ∈ lw_good := lg_in 792 rfl rfl
set_option maxRecDepth 100000 in
theorem wd_793 : Cond.methodLink RX6 266 yX2_tellsHeight ∈ lw_good := lg_in 793 rfl rfl
set_option maxRecDepth 100000 in
theorem wd_794 : Cond.instanceMethod yX2_tellsHeight ∈ lw_good := lg_in 794 rfl rfl
set_option maxRecDepth 100000 in
theorem wd_795 : Cond.selects RX2 yX2_tellsHeight yX2_tellsHeight ∈ lw_good := lg_in 795 rfl rfl
set_option maxRecDepth 100000 in
theorem wd_796 : Cond.code yX2_tellsHeight cX2_tellsHeight 5 (some .boolean) ∈ lw_good := lg_in 796 rfl rfl
set_option maxRecDepth 100000 in
theorem wd_797 : Cond.methodLink RL 154 yL_tryKeep ∈ lw_good := lg_in 797 rfl rfl
set_option maxRecDepth 100000 in
theorem wd_798 : Cond.static yL_tryKeep ∈ lw_good := lg_in 798 rfl rfl
set_option maxRecDepth 100000 in
theorem wd_799 : Cond.codeWith yL_tryKeep cL_tryKeep 3 (some .int) [(0, 5, 6, 13)] ∈ lw_good := lg_in 799 rfl rfl
set_option maxRecDepth 100000 in
theorem wd_800 : Cond.methodLink RL 88 yX6_save ∈ lw_good := lg_in 800 rfl rfl
set_option maxRecDepth 100000 in
theorem wd_801 : Cond.instanceMethod yX6_save ∈ lw_good := lg_in 801 rfl rfl
set_option maxRecDepth 100000 in
theorem wd_802 : Cond.selects RX6 yX6_save yX6_save ∈ lw_good := lg_in 802 rfl rfl
set_option maxRecDepth 100000 in
theorem wd_803 : Cond.code yX6_save cX6_save 2 (some .int) ∈ lw_good := lg_in 803 rfl rfl
set_option maxRecDepth 100000 in
theorem wd_804 : Cond.methodLink RX6 296 yX6_needSlot ∈ lw_good := lg_in 804 rfl rfl
set_option maxRecDepth 100000 in
theorem wd_805 : Cond.static yX6_needSlot ∈ lw_good := lg_in 805 rfl rfl
set_option maxRecDepth 100000 in
theorem wd_806 : Cond.code yX6_needSlot cX6_needSlot 1 (none) ∈ lw_good := lg_in 806 rfl rfl
set_option maxRecDepth 100000 in
theorem wd_808 : Cond.methodLink RL 157 yL_tryBack ∈ lw_good := lg_in 808 rfl rfl
set_option maxRecDepth 100000 in
theorem wd_809 : Cond.static yL_tryBack ∈ lw_good := lg_in 809 rfl rfl
set_option maxRecDepth 100000 in
theorem wd_810 : Cond.codeWith yL_tryBack cL_tryBack 3 (some .int) [(0, 5, 6, 13), (0, 5, 10, 19)] ∈ lw_good := lg_in 810 rfl rfl
set_option maxRecDepth 100000 in
theorem wd_811 : Cond.methodLink RL 91 yX6_restore ∈ lw_good := lg_in 811 rfl rfl
set_option maxRecDepth 100000 in
theorem wd_812 : Cond.instanceMethod yX6_restore ∈ lw_good := lg_in 812 rfl rfl
set_option maxRecDepth 100000 in
theorem wd_813 : Cond.selects RX6 yX6_restore yX6_restore ∈ lw_good := lg_in 813 rfl rfl
set_option maxRecDepth 100000 in
theorem wd_814 : Cond.code yX6_restore cX6_restore 2 (some .int) ∈ lw_good := lg_in 814 rfl rfl
set_option maxRecDepth 100000 in
theorem wd_816 : Cond.methodLink RL 166 yL_told ∈ lw_good := lg_in 816 rfl rfl
set_option maxRecDepth 100000 in
theorem wd_817 : Cond.static yL_told ∈ lw_good := lg_in 817 rfl rfl
set_option maxRecDepth 100000 in
theorem wd_818 : Cond.codeWith yL_told cL_told 9 (some .int) [(0, 15, 16, 13), (0, 15, 21, 16), (0, 15, 26, 19)] ∈ lw_good := lg_in 818 rfl rfl
set_option maxRecDepth 100000 in
theorem wd_819 : Cond.methodLink RL 7 yX6_measure ∈ lw_good := lg_in 819 rfl rfl
set_option maxRecDepth 100000 in
theorem wd_820 : Cond.instanceMethod yX6_measure ∈ lw_good := lg_in 820 rfl rfl
set_option maxRecDepth 100000 in
theorem wd_821 : Cond.selects RX6 yX6_measure yX6_measure ∈ lw_good := lg_in 821 rfl rfl
set_option maxRecDepth 100000 in
theorem wd_822 : Cond.code yX6_measure cX6_measure 8 (some .int) ∈ lw_good := lg_in 822 rfl rfl
set_option maxRecDepth 100000 in
theorem wd_823 : Cond.methodLink RX6 212 yX2_fits ∈ lw_good := lg_in 823 rfl rfl
set_option maxRecDepth 100000 in
theorem wd_824 : Cond.methodLink RX6 216 yX2_isFull ∈ lw_good := lg_in 824 rfl rfl
set_option maxRecDepth 100000 in
theorem wd_826 : Cond.methodLink RX6 223 yX2_addMeasure ∈ lw_good := lg_in 826 rfl rfl
set_option maxRecDepth 100000 in
theorem wd_827 : Cond.methodLink RL 170 yL_doScript ∈ lw_good := lg_in 827 rfl rfl
set_option maxRecDepth 100000 in
theorem wd_828 : Cond.static yL_doScript ∈ lw_good := lg_in 828 rfl rfl
set_option maxRecDepth 100000 in
theorem wd_829 : Cond.codeWith yL_doScript cL_doScript 5 (some .int) [(0, 6, 7, 16)] ∈ lw_good := lg_in 829 rfl rfl
set_option maxRecDepth 100000 in
theorem wd_830 : Cond.methodLink RL 22 yX6_runScript ∈ lw_good := lg_in 830 rfl rfl
set_option maxRecDepth 100000 in
theorem wd_831 : Cond.instanceMethod yX6_runScript ∈ lw_good := lg_in 831 rfl rfl
set_option maxRecDepth 100000 in
theorem wd_832 : Cond.selects RX6 yX6_runScript yX6_runScript ∈ lw_good := lg_in 832 rfl rfl
set_option maxRecDepth 100000 in
theorem wd_833 : Cond.code yX6_runScript cX6_runScript 5 (some .int) ∈ lw_good := lg_in 833 rfl rfl
set_option maxRecDepth 100000 in
theorem wd_834 : Cond.methodLink RX6 275 yX3_limit ∈ lw_good := lg_in 834 rfl rfl
set_option maxRecDepth 100000 in
theorem wd_835 : Cond.static yX3_limit ∈ lw_good := lg_in 835 rfl rfl
set_option maxRecDepth 100000 in
theorem wd_836 : Cond.code yX3_limit cX3_limit 4 (some .long) ∈ lw_good := lg_in 836 rfl rfl
set_option maxRecDepth 100000 in
theorem wd_837 : Cond.constantLong RX3 11 (1000000) ∈ lw_good := lg_in 837 rfl rfl
set_option maxRecDepth 100000 in
theorem wd_838 : Cond.methodLink RX6 279 yX3_group ∈ lw_good := lg_in 838 rfl rfl
set_option maxRecDepth 100000 in
theorem wd_839 : Cond.static yX3_group ∈ lw_good := lg_in 839 rfl rfl
set_option maxRecDepth 100000 in
theorem wd_840 : Cond.code yX3_group cX3_group 6 (some .int) ∈ lw_good := lg_in 840 rfl rfl
set_option maxRecDepth 100000 in
theorem wd_841 : Cond.methodLink RX6 283 yX3_succeeds ∈ lw_good := lg_in 841 rfl rfl
set_option maxRecDepth 100000 in
theorem wd_842 : Cond.static yX3_succeeds ∈ lw_good := lg_in 842 rfl rfl
set_option maxRecDepth 100000 in
theorem wd_843 : Cond.code yX3_succeeds cX3_succeeds 6 (some .boolean) ∈ lw_good := lg_in 843 rfl rfl
set_option maxRecDepth 100000 in
theorem wd_844 : Cond.constant RX3 13 (100000) ∈ lw_good := lg_in 844 rfl rfl
set_option maxRecDepth 100000 in
theorem wd_845 : Cond.methodLink RX3 16 yX2_tryMeasure ∈ lw_good := lg_in 845 rfl rfl
set_option maxRecDepth 100000 in
theorem wd_846 : Cond.methodLink RX3 20 yX2_tryDrop ∈ lw_good := lg_in 846 rfl rfl
set_option maxRecDepth 100000 in
theorem wd_847 : Cond.methodLink RX3 24 yX2_tryTrust ∈ lw_good := lg_in 847 rfl rfl
set_option maxRecDepth 100000 in
theorem wd_848 : Cond.methodLink RX3 28 yX3_passEvenings ∈ lw_good := lg_in 848 rfl rfl
set_option maxRecDepth 100000 in
theorem wd_849 : Cond.static yX3_passEvenings ∈ lw_good := lg_in 849 rfl rfl
set_option maxRecDepth 100000 in
theorem wd_850 : Cond.code yX3_passEvenings cX3_passEvenings 3 (some .boolean) ∈ lw_good := lg_in 850 rfl rfl
set_option maxRecDepth 100000 in
theorem wd_851 : Cond.methodLink RX3 53 yX2_passEvening ∈ lw_good := lg_in 851 rfl rfl
set_option maxRecDepth 100000 in
theorem wd_852 : Cond.methodLink RX3 32 yX2_trySurvey ∈ lw_good := lg_in 852 rfl rfl
set_option maxRecDepth 100000 in
theorem wd_853 : Cond.methodLink RX3 35 yX3_lowestIsAtMost ∈ lw_good := lg_in 853 rfl rfl
set_option maxRecDepth 100000 in
theorem wd_854 : Cond.static yX3_lowestIsAtMost ∈ lw_good := lg_in 854 rfl rfl
set_option maxRecDepth 100000 in
theorem wd_855 : Cond.code yX3_lowestIsAtMost cX3_lowestIsAtMost 4 (some .boolean) ∈ lw_good := lg_in 855 rfl rfl
set_option maxRecDepth 100000 in
theorem wd_856 : Cond.methodLink RX3 56 yX2_isSteeple ∈ lw_good := lg_in 856 rfl rfl
set_option maxRecDepth 100000 in
theorem wd_857 : Cond.methodLink RX3 59 yX0_countByEnds ∈ lw_good := lg_in 857 rfl rfl
set_option maxRecDepth 100000 in
theorem wd_858 : Cond.methodLink RX3 65 yX0_lowest ∈ lw_good := lg_in 858 rfl rfl
set_option maxRecDepth 100000 in
theorem wd_859 : Cond.methodLink RX3 39 yX3_mostIsAtLeast ∈ lw_good := lg_in 859 rfl rfl
set_option maxRecDepth 100000 in
theorem wd_860 : Cond.static yX3_mostIsAtLeast ∈ lw_good := lg_in 860 rfl rfl
set_option maxRecDepth 100000 in
theorem wd_861 : Cond.code yX3_mostIsAtLeast cX3_mostIsAtLeast 4 (some .boolean) ∈ lw_good := lg_in 861 rfl rfl
set_option maxRecDepth 100000 in
theorem wd_862 : Cond.methodLink RX3 68 yX0_most ∈ lw_good := lg_in 862 rfl rfl
set_option maxRecDepth 100000 in
theorem wd_863 : Cond.instanceMethod yX0_most ∈ lw_good := lg_in 863 rfl rfl
set_option maxRecDepth 100000 in
theorem wd_864 : Cond.selects RX0 yX0_most yX0_most ∈ lw_good := lg_in 864 rfl rfl
set_option maxRecDepth 100000 in
theorem wd_865 : Cond.code yX0_most cX0_most 1 (some .int) ∈ lw_good := lg_in 865 rfl rfl
set_option maxRecDepth 100000 in
theorem wd_866 : Cond.methodLink RX3 42 yX2_isTeller ∈ lw_good := lg_in 866 rfl rfl
set_option maxRecDepth 100000 in
theorem wd_867 : Cond.methodLink RX3 45 yX2_trustOf ∈ lw_good := lg_in 867 rfl rfl
set_option maxRecDepth 100000 in
theorem wd_868 : Cond.methodLink RX3 49 yX2_pairsThatQuarrel ∈ lw_good := lg_in 868 rfl rfl
set_option maxRecDepth 100000 in
theorem wd_869 : Cond.constantLong RL 174 (1000000) ∈ lw_good := lg_in 869 rfl rfl
set_option maxRecDepth 100000 in
theorem wd_870 : Cond.methodLink RL 176 yL_doSimulate ∈ lw_good := lg_in 870 rfl rfl
set_option maxRecDepth 100000 in
theorem wd_871 : Cond.static yL_doSimulate ∈ lw_good := lg_in 871 rfl rfl
set_option maxRecDepth 100000 in
theorem wd_872 : Cond.codeWith yL_doSimulate cL_doSimulate 5 (some .int) [(0, 6, 7, 16)] ∈ lw_good := lg_in 872 rfl rfl
set_option maxRecDepth 100000 in
theorem wd_873 : Cond.methodLink RL 26 yX6_simulate ∈ lw_good := lg_in 873 rfl rfl
set_option maxRecDepth 100000 in
theorem wd_874 : Cond.instanceMethod yX6_simulate ∈ lw_good := lg_in 874 rfl rfl
set_option maxRecDepth 100000 in
theorem wd_875 : Cond.selects RX6 yX6_simulate yX6_simulate ∈ lw_good := lg_in 875 rfl rfl
set_option maxRecDepth 100000 in
theorem wd_876 : Cond.code yX6_simulate cX6_simulate 7 (some .int) ∈ lw_good := lg_in 876 rfl rfl
set_option maxRecDepth 100000 in
theorem wd_877 : Cond.constantLong RX6 287 (6364136223846793005) ∈ lw_good := lg_in 877 rfl rfl
set_option maxRecDepth 100000 in
theorem wd_878 : Cond.constantLong RX6 289 (1442695040888963407) ∈ lw_good := lg_in 878 rfl rfl
set_option maxRecDepth 100000 in
theorem wd_879 : Cond.methodLink RX6 291 yX4_turn ∈ lw_good := lg_in 879 rfl rfl
set_option maxRecDepth 100000 in
theorem wd_880 : Cond.static yX4_turn ∈ lw_good := lg_in 880 rfl rfl
set_option maxRecDepth 100000 in
theorem wd_881 : Cond.code yX4_turn cX4_turn 4 (none) ∈ lw_good := lg_in 881 rfl rfl
set_option maxRecDepth 100000 in
theorem wd_882 : Cond.methodLink RX4 7 yX4_tell ∈ lw_good := lg_in 882 rfl rfl
set_option maxRecDepth 100000 in
theorem wd_883 : Cond.static yX4_tell ∈ lw_good := lg_in 883 rfl rfl
set_option maxRecDepth 100000 in
theorem wd_884 : Cond.code yX4_tell cX4_tell 8 (none) ∈ lw_good := lg_in 884 rfl rfl
set_option maxRecDepth 100000 in
theorem wd_885 : Cond.methodLink RX4 31 yX2_tryMeasure ∈ lw_good := lg_in 885 rfl rfl
set_option maxRecDepth 100000 in
theorem wd_886 : Cond.methodLink RX4 13 yX2_tryDrop ∈ lw_good := lg_in 886 rfl rfl
set_option maxRecDepth 100000 in
theorem wd_887 : Cond.methodLink RX4 19 yX2_passEvening ∈ lw_good := lg_in 887 rfl rfl
set_option maxRecDepth 100000 in
theorem wd_888 : Cond.methodLink RX4 23 yX4_changeSetting ∈ lw_good := lg_in 888 rfl rfl
set_option maxRecDepth 100000 in
theorem wd_889 : Cond.static yX4_changeSetting ∈ lw_good := lg_in 889 rfl rfl
set_option maxRecDepth 100000 in
theorem wd_890 : Cond.code yX4_changeSetting cX4_changeSetting 2 (none) ∈ lw_good := lg_in 890 rfl rfl
set_option maxRecDepth 100000 in
theorem wd_891 : Cond.methodLink RX4 35 yX2_changeSetting ∈ lw_good := lg_in 891 rfl rfl
set_option maxRecDepth 100000 in
theorem wd_892 : Cond.methodLink RX4 27 yX2_trySurvey ∈ lw_good := lg_in 892 rfl rfl
set_option maxRecDepth 100000 in
theorem wd_893 : Cond.methodLink RL 203 yL_holds ∈ lw_good := lg_in 893 rfl rfl
set_option maxRecDepth 100000 in
theorem wd_894 : Cond.static yL_holds ∈ lw_good := lg_in 894 rfl rfl
set_option maxRecDepth 100000 in
theorem wd_895 : Cond.code yL_holds cL_holds 17 (some .boolean) ∈ lw_good := lg_in 895 rfl rfl
set_option maxRecDepth 100000 in
theorem wd_896 : Cond.methodLink RL 180 yX6_truest ∈ lw_good := lg_in 896 rfl rfl
set_option maxRecDepth 100000 in
theorem wd_897 : Cond.instanceMethod yX6_truest ∈ lw_good := lg_in 897 rfl rfl
set_option maxRecDepth 100000 in
theorem wd_898 : Cond.selects RX6 yX6_truest yX6_truest ∈ lw_good := lg_in 898 rfl rfl
set_option maxRecDepth 100000 in
theorem wd_899 : Cond.code yX6_truest cX6_truest 1 (some .int) ∈ lw_good := lg_in 899 rfl rfl
set_option maxRecDepth 100000 in
theorem wd_900 : Cond.methodLink RX6 270 yX2_tellerMostlyRight ∈ lw_good := lg_in 900 rfl rfl
set_option maxRecDepth 100000 in
theorem wd_901 : Cond.instanceMethod yX2_tellerMostlyRight ∈ lw_good := lg_in 901 rfl rfl
set_option maxRecDepth 100000 in
theorem wd_902 : Cond.selects RX2 yX2_tellerMostlyRight yX2_tellerMostlyRight ∈ lw_good := lg_in 902 rfl rfl
set_option maxRecDepth 100000 in
theorem wd_903 : Cond.code yX2_tellerMostlyRight cX2_tellerMostlyRight 3 (some .int) ∈ lw_good := lg_in 903 rfl rfl
set_option maxRecDepth 100000 in
theorem wd_904 : Cond.methodLink RX2 168 yX2_isTruer ∈ lw_good := lg_in 904 rfl rfl
set_option maxRecDepth 100000 in
theorem wd_906 : Cond.instanceMethod yX2_isTruer ∈ lw_good := lg_in 906 rfl rfl
set_option maxRecDepth 100000 in
theorem wd_907 : Cond.code yX2_isTruer cX2_isTruer 6 (some .boolean) ∈ lw_good := lg_in 907 rfl rfl
set_option maxRecDepth 100000 in
theorem wd_908 : Cond.methodLink RL 191 yL_act ∈ lw_good := lg_in 908 rfl rfl
set_option maxRecDepth 100000 in
theorem wd_909 : Cond.static yL_act ∈ lw_good := lg_in 909 rfl rfl
set_option maxRecDepth 100000 in
theorem wd_910 : Cond.code yL_act cL_act 5 (some .int) ∈ lw_good := lg_in 910 rfl rfl
set_option maxRecDepth 100000 in
theorem wd_911 : Cond.methodLink RL 183 yX6_evening ∈ lw_good := lg_in 911 rfl rfl
set_option maxRecDepth 100000 in
theorem wd_912 : Cond.instanceMethod yX6_evening ∈ lw_good := lg_in 912 rfl rfl
set_option maxRecDepth 100000 in
theorem wd_913 : Cond.selects RX6 yX6_evening yX6_evening ∈ lw_good := lg_in 913 rfl rfl
set_option maxRecDepth 100000 in
theorem wd_914 : Cond.code yX6_evening cX6_evening 1 (some .int) ∈ lw_good := lg_in 914 rfl rfl
set_option maxRecDepth 100000 in
theorem wd_915 : Cond.methodLink RL 199 yL_alike ∈ lw_good := lg_in 915 rfl rfl
set_option maxRecDepth 100000 in
theorem wd_916 : Cond.static yL_alike ∈ lw_good := lg_in 916 rfl rfl
set_option maxRecDepth 100000 in
theorem wd_917 : Cond.code yL_alike cL_alike 5 (some .boolean) ∈ lw_good := lg_in 917 rfl rfl
set_option maxRecDepth 100000 in
theorem wd_918 : Cond.methodLink RL 206 yL_surveys ∈ lw_good := lg_in 918 rfl rfl
set_option maxRecDepth 100000 in
theorem wd_919 : Cond.static yL_surveys ∈ lw_good := lg_in 919 rfl rfl
set_option maxRecDepth 100000 in
theorem wd_920 : Cond.code yL_surveys cL_surveys 16 (some .boolean) ∈ lw_good := lg_in 920 rfl rfl
set_option maxRecDepth 100000 in
theorem wd_921 : Cond.methodLink RL 212 yL_thrown ∈ lw_good := lg_in 921 rfl rfl
set_option maxRecDepth 100000 in
theorem wd_922 : Cond.static yL_thrown ∈ lw_good := lg_in 922 rfl rfl
set_option maxRecDepth 100000 in
theorem wd_923 : Cond.code yL_thrown cL_thrown 1 (some .boolean) ∈ lw_good := lg_in 923 rfl rfl
set_option maxRecDepth 100000 in
theorem wd_924 : Cond.methodLink RL 209 yL_drops ∈ lw_good := lg_in 924 rfl rfl
set_option maxRecDepth 100000 in
theorem wd_925 : Cond.static yL_drops ∈ lw_good := lg_in 925 rfl rfl
set_option maxRecDepth 100000 in
theorem wd_926 : Cond.code yL_drops cL_drops 19 (some .boolean) ∈ lw_good := lg_in 926 rfl rfl
set_option maxRecDepth 100000 in
theorem wd_927 : Cond.constant RL 194 (100000) ∈ lw_good := lg_in 927 rfl rfl
set_option maxRecDepth 100000 in
theorem tw_60 : ∀ w ∈ vx_atS RX6 60 "java/lang/IllegalStateException" ["java/lang/RuntimeException", "java/lang/Exception"], w ∈ lw_good ∨ w ∈ lw_face := by decide +kernel
set_option maxRecDepth 100000 in
theorem tg_60 : ∀ w ∈ Cond.classLink RX6 56 "java/lang/IllegalStateException" :: Cond.initialized "java/lang/IllegalStateException" :: vx_atS RX6 60 "java/lang/IllegalStateException" ["java/lang/RuntimeException", "java/lang/Exception"], vx_ot w = true := by decide +kernel
set_option maxRecDepth 100000 in
theorem tw_305 : ∀ w ∈ vx_atS RX6 305 "java/lang/IllegalArgumentException" ["java/lang/RuntimeException", "java/lang/Exception"], w ∈ lw_good ∨ w ∈ lw_face := by decide +kernel
set_option maxRecDepth 100000 in
theorem tg_305 : ∀ w ∈ Cond.classLink RX6 301 "java/lang/IllegalArgumentException" :: Cond.initialized "java/lang/IllegalArgumentException" :: vx_atS RX6 305 "java/lang/IllegalArgumentException" ["java/lang/RuntimeException", "java/lang/Exception"], vx_ot w = true := by decide +kernel
set_option maxRecDepth 100000 in
theorem tw_313 : ∀ w ∈ vx_atS RX6 313 "java/lang/IndexOutOfBoundsException" ["java/lang/RuntimeException", "java/lang/Exception"], w ∈ lw_good ∨ w ∈ lw_face := by decide +kernel
set_option maxRecDepth 100000 in
theorem tg_313 : ∀ w ∈ Cond.classLink RX6 309 "java/lang/IndexOutOfBoundsException" :: Cond.initialized "java/lang/IndexOutOfBoundsException" :: vx_atS RX6 313 "java/lang/IndexOutOfBoundsException" ["java/lang/RuntimeException", "java/lang/Exception"], vx_ot w = true := by decide +kernel
