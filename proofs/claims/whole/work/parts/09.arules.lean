def finL : List (Nat × Nat × Nat × Nat) := [(12, 0, 1, 0), (12, 1, 3, 0), (12, 2, 7, 0), (12, 5, 38, 0), (12, 6, 81, 0), (12, 7, 82, 0), (12, 9, 86, 0), (12, 10, 92, 0), (12, 11, 99, 0), (12, 12, 104, 0), (10, 0, 2, 0), (11, 0, 4, 0), (11, 1, 5, 0), (11, 2, 6, 0), (6, 0, 3, 0), (5, 2, 1, 1), (5, 3, 2, 1), (5, 4, 3, 1), (5, 5, 4, 1), (5, 7, 5, 1), (5, 8, 6, 1), (5, 9, 7, 1), (5, 10, 8, 1), (5, 11, 9, 1), (5, 12, 13, 1), (5, 13, 14, 1), (3, 0, 1, 1), (3, 2, 2, 1), (3, 3, 3, 1), (1, 0, 39, 0), (7, 0, 87, 0), (7, 1, 88, 0), (7, 2, 89, 0), (7, 3, 90, 0), (7, 4, 91, 0), (4, 0, 93, 0), (4, 1, 94, 0), (4, 2, 95, 0), (4, 3, 96, 0), (4, 5, 97, 0), (4, 6, 98, 0), (8, 0, 100, 0), (8, 1, 101, 0), (8, 2, 102, 0), (8, 3, 103, 0), (13, 0, 106, 0), (13, 10, 107, 0), (13, 11, 108, 0), (13, 12, 109, 0), (13, 13, 110, 0), (13, 14, 111, 0), (13, 15, 112, 0), (13, 16, 113, 0), (13, 26, 114, 0), (13, 27, 115, 0), (13, 28, 116, 0), (13, 29, 117, 0), (13, 30, 118, 0), (13, 31, 119, 0), (13, 32, 120, 0), (13, 33, 121, 0), (13, 34, 122, 0), (13, 50, 123, 0), (13, 51, 124, 0), (13, 55, 125, 0), (13, 56, 126, 0), (13, 57, 127, 0), (13, 58, 128, 0), (13, 60, 129, 0), (13, 61, 130, 0), (13, 62, 131, 0), (13, 63, 132, 0), (13, 64, 133, 0), (13, 65, 134, 0), (13, 66, 135, 0), (13, 69, 136, 0), (13, 70, 137, 0)]
def finT (kd k : Nat) : Option (Nat × Nat) := (finL.find? (fun q => q.1 == kd && q.2.1 == k)).map (fun q => q.2.2)
/-- the memory when all cells are made: final references are as they were set -/
def WT (M : AM) : Prop := nx M = 138 ∧ ∀ c k v r, finT (kd0 c) k = some (v, r) → gR M c k = if r = 0 then v else c + v
theorem kd_138 {c k : Nat} (h : kd0 c = k + 1) (hk : k < 30) : c < 138 := by
  have h9 := kd_lt h hk
  unfold kd0 at h
  rw [if_pos h9] at h
  rcases Nat.lt_or_ge c 138 with q | q
  · exact q
  · have : shp.getD c (0, 0) = (0, 0) := by
      rw [List.getD_eq_getElem?_getD, List.getElem?_eq_none (by have : shp.length = 138 := rfl; omega)]
      rfl
    rw [this] at h
    cases h
theorem wt_lt {M : AM} {c k : Nat} (hW : WT M) (h : kd0 c = k + 1) (hk : k < 30) : c < nx M := by
  rw [hW.1]; exact kd_138 h hk
def bnd {α β : Type} (x : Option (α × AM)) (κ : α → AM → Option β) : Option β := match x with
  | none => none
  | some (a, M) => κ a M
theorem bnd_some {α β : Type} {x : Option (α × AM)} {κ : α → AM → Option β} {o : β} (h : bnd x κ = some o) : ∃ a M, x = some (a, M) ∧ κ a M = some o := by
  cases x with
  | none => cases h
  | some q => exact ⟨q.1, q.2, rfl, h⟩
theorem bnd_eq {α β : Type} {x : Option (α × AM)} {κ : α → AM → Option β} {a : α} {M : AM} (h : x = some (a, M)) : bnd x κ = κ a M := by rw [h]; rfl
def bn2 {α β : Type} (x : Option ((α × AM) ⊕ (β × AM))) (κ : α → AM → Option (β × AM)) : Option (β × AM) := match x with
  | none => none
  | some (.inl (a, M)) => κ a M
  | some (.inr o) => some o
def bad (n : Nat) (i : Int32) : Prop := i < 0 ∨ n ≤ i.toNatClampNeg
def ald {β : Type} (n : Nat) (M : AM) (a : Nat) (i : Int32) (κ : Int32 → Option β) : Option β := if i < 0 ∨ n ≤ i.toNatClampNeg then none else κ (gI M a i.toNatClampNeg)
def lald {β : Type} (n : Nat) (M : AM) (a : Nat) (i : Int32) (κ : Int64 → Option β) : Option β := if i < 0 ∨ n ≤ i.toNatClampNeg then none else κ (gL M a i.toNatClampNeg)
def rald {β : Type} (n : Nat) (M : AM) (a : Nat) (i : Int32) (κ : Nat → Option β) : Option β := if i < 0 ∨ n ≤ i.toNatClampNeg then none else if kd0 (gR M a i.toNatClampNeg) = 9 then κ (gR M a i.toNatClampNeg) else none
def ast {β : Type} (n : Nat) (M : AM) (a : Nat) (i : Int32) (v : Int32) (κ : AM → Option β) : Option β := if i < 0 ∨ n ≤ i.toNatClampNeg then none else κ (sI M a i.toNatClampNeg v)
def last' {β : Type} (n : Nat) (M : AM) (a : Nat) (i : Int32) (v : Int64) (κ : AM → Option β) : Option β := if i < 0 ∨ n ≤ i.toNatClampNeg then none else κ (sL M a i.toNatClampNeg v)
def rast {β : Type} (n : Nat) (M : AM) (a : Nat) (i : Int32) (v : Nat) (κ : AM → Option β) : Option β := if i < 0 ∨ n ≤ i.toNatClampNeg then none else κ (sR M a i.toNatClampNeg v)
def sald {β : Type} (n : Nat) (xs : Nat → Int32) (i : Int32) (κ : Int32 → Option β) : Option β := if i < 0 ∨ n ≤ i.toNatClampNeg then none else κ (xs i.toNatClampNeg)
def xald {β : Type} (j : Nat) (i : Int32) (κ : Int32 → Option β) : Option β := if i < 0 ∨ ([144, 11] : List Nat).getD j 0 ≤ i.toNatClampNeg then none else κ ((([sbyt0, sbyt1] : List (List Int32)).getD j []).getD i.toNatClampNeg 0)
def wI {β : Type} (M : AM) (c k : Nat) (v : Int32) (κ : AM → Option β) : Option β := κ (sI M c k v)
def wL {β : Type} (M : AM) (c k : Nat) (v : Int64) (κ : AM → Option β) : Option β := κ (sL M c k v)
def wR {β : Type} (M : AM) (c k : Nat) (v : Nat) (κ : AM → Option β) : Option β := κ (sR M c k v)
def dvz {β : Type} (y : Int32) (A : Option β) : Option β := if y = 0 then none else A
def ckK {β : Type} (x k : Nat) (A : Option β) : Option β := if kd0 x = k then A else none
def ckB {β : Type} (v : Int32) (A : Option β) : Option β := if v = 0 ∨ v = 1 then A else none
def swi {β : Type} (x : Int32) : List (Int32 × Option β) → Option β → Option β
  | [], D => D
  | (k, A) :: r, D => if x = k then A else swi x r D
def fgt : List Bool → List Value → List Value
  | b :: bs, v :: vs => (bif b then v else ux) :: fgt bs vs
  | _, vs => vs
theorem fgt_Fg : ∀ (bs : List Bool) (ls : List Value), Fg ls (fgt bs ls) := by
  intro bs
  induction bs with
  | nil => intro ls; exact ⟨rfl, fun i v h _ => h⟩
  | cons b bs ih =>
    intro ls
    cases ls with
    | nil => exact ⟨rfl, fun i v h _ => h⟩
    | cons v vs =>
      obtain ⟨h1, h2⟩ := ih vs
      refine ⟨by simp [fgt, h1], fun i w h hu => ?_⟩
      cases i with
      | zero =>
        cases b
        · cases h; exact absurd rfl hu
        · exact h
      | succ i => exact h2 i w h hu
/-- a method's call, seen from its entry -/
def Cal (G : GT) (d m : Nat) (as : List Value) (M : AM) (Q : AM → Option Value → Prop) : Prop := PW G d m 0 (ent (mL m) as) [] M 0 0 Q
def FK (t : Nat) (own : String) (idx ci k : Nat) : Prop := FOK own idx ci k ∧ fcode (tyOf ci k) = t ∧ ci < 30
def FP (t : Nat) (own : String) (idx ci k : Nat) : Prop := (∃ q, vwCl[ci]? = some q ∧ k < q.2.2 ∧ Cond.fieldLink own idx (q.2.1 k).1 (q.2.1 k).2.1 (q.2.1 k).2.2.1 ∈ lw_tbl ∧ (q.2.1 k).2.2.2 = false) ∧ fcode (tyOf ci k) = t ∧ ci < 30 ∧ finT (ci + 1) k = none
section AR
variable {G : GT} {d m pc : Nat} {ls st as : List Value} {M : AM} {Q : AM → Option Value → Prop} {β : Type} {o : β}
theorem P_fgt (bs : List Bool) (h : PW G d m pc (fgt bs ls) st M 0 0 Q) : PW G d m pc ls st M 0 0 Q := P_forget _ (fgt_Fg bs ls) h
theorem A_enter {n : Nat} (hm : mL m = n) (he : ent n as = ls) (h : PW G d m 0 ls [] M 0 0 Q) : Cal G d m as M Q := by
  subst hm; subst he; exact h
theorem A_iconst {n : Int} {v : Int32} (hd : decode (mC m) pc = .ok (.iconst n, 1)) (hv : Int32.ofInt n = v) (h : PW G d m (pc + 1) ls (.int v :: st) M 0 0 Q) : PW G d m pc ls st M 0 0 Q := P_iconst hd hv h
theorem A_istore_n {k : Fin 4} {n : Nat} {x : Int32} (hd : decode (mC m) pc = .ok (.istore_n k, 1)) (hm : mL m = n) (hi : Nat.blt k n = true) (ho : okS ls k = true) (h : PW G d m (pc + 1) (ls.set k (.int x)) st M 0 0 Q) : PW G d m pc ls (.int x :: st) M 0 0 Q := P_istore_n hd (by rw [hm]; exact Nat.le_of_ble_eq_true hi) ho h
theorem A_istore {k n : Nat} {x : Int32} (hd : decode (mC m) pc = .ok (.istore k, 2)) (hm : mL m = n) (hi : Nat.blt k n = true) (ho : okS ls k = true) (h : PW G d m (pc + 2) (ls.set k (.int x)) st M 0 0 Q) : PW G d m pc ls (.int x :: st) M 0 0 Q := P_istore hd (by rw [hm]; exact Nat.le_of_ble_eq_true hi) ho h
theorem A_lstore_n {k : Fin 4} {n : Nat} {x : Int64} (hd : decode (mC m) pc = .ok (.lstore_n k, 1)) (hm : mL m = n) (hi : Nat.blt (k + 1) n = true) (ho : okS ls k = true) (h : PW G d m (pc + 1) ((ls.set k (.long x)).set (k + 1) ux) st M 0 0 Q) : PW G d m pc ls (.long x :: st) M 0 0 Q := P_lstore_n hd (by rw [hm]; exact Nat.le_of_ble_eq_true hi) ho h
theorem A_lstore {k n : Nat} {x : Int64} (hd : decode (mC m) pc = .ok (.lstore k, 2)) (hm : mL m = n) (hi : Nat.blt (k + 1) n = true) (ho : okS ls k = true) (h : PW G d m (pc + 2) ((ls.set k (.long x)).set (k + 1) ux) st M 0 0 Q) : PW G d m pc ls (.long x :: st) M 0 0 Q := P_lstore hd (by rw [hm]; exact Nat.le_of_ble_eq_true hi) ho h
theorem A_astore_n {k : Fin 4} {n x : Nat} (hd : decode (mC m) pc = .ok (.astore_n k, 1)) (hm : mL m = n) (hi : Nat.blt k n = true) (ho : okS ls k = true) (h : PW G d m (pc + 1) (ls.set k (.ref x)) st M 0 0 Q) : PW G d m pc ls (.ref x :: st) M 0 0 Q := P_astore_n hd (by rw [hm]; exact Nat.le_of_ble_eq_true hi) ho h
theorem A_astore {k n x : Nat} (hd : decode (mC m) pc = .ok (.astore k, 2)) (hm : mL m = n) (hi : Nat.blt k n = true) (ho : okS ls k = true) (h : PW G d m (pc + 2) (ls.set k (.ref x)) st M 0 0 Q) : PW G d m pc ls (.ref x :: st) M 0 0 Q := P_astore hd (by rw [hm]; exact Nat.le_of_ble_eq_true hi) ho h
theorem A_iinc {k n : Nat} {x c : Int32} {z : Int} (hd : decode (mC m) pc = .ok (.iinc k z, 3)) (hc : Int32.ofInt z = c) (hl : ls[k]? = some (.int x)) (hm : mL m = n) (hi : Nat.blt k n = true) (ho : okS ls k = true) (h : PW G d m (pc + 3) (ls.set k (.int (x + c))) st M 0 0 Q) : PW G d m pc ls st M 0 0 Q := P_iinc hd hl (by rw [hc]) (by rw [hm]; exact Nat.le_of_ble_eq_true hi) ho h
theorem A_ldc {idx : Nat} {v : Int32} {own : String} (hd : decode (mC m) pc = .ok (.ldc idx, 2)) (hc : (mN m).cls = own) (hw : Cond.constant own idx v ∈ lw_tbl) (h : PW G d m (pc + 2) ls (.int v :: st) M 0 0 Q) : PW G d m pc ls st M 0 0 Q := P_ldc hd (by rw [hc]; exact hw) h
theorem A_ldcw {idx : Nat} {v : Int32} {own : String} (hd : decode (mC m) pc = .ok (.ldc_w idx, 3)) (hc : (mN m).cls = own) (hw : Cond.constant own idx v ∈ lw_tbl) (h : PW G d m (pc + 3) ls (.int v :: st) M 0 0 Q) : PW G d m pc ls st M 0 0 Q := P_ldcw hd (by rw [hc]; exact hw) h
theorem A_ldc2 {idx : Nat} {v : Int64} {own : String} (hd : decode (mC m) pc = .ok (.ldc2_w idx, 3)) (hc : (mN m).cls = own) (hw : Cond.constantLong own idx v ∈ lw_tbl) (h : PW G d m (pc + 3) ls (.long v :: st) M 0 0 Q) : PW G d m pc ls st M 0 0 Q := P_ldc2 hd (by rw [hc]; exact hw) h
theorem A_idiv {x y : Int32} {A : Option β} (hd : decode (mC m) pc = .ok (.idiv, 1)) (hf : dvz y A = some o) (h : A = some o → PW G d m (pc + 1) ls (.int (x / y) :: st) M 0 0 Q) : PW G d m pc ls (.int y :: .int x :: st) M 0 0 Q := by
  unfold dvz at hf
  split at hf
  · cases hf
  · rename_i hy; exact P_idiv hd hy (h hf)
theorem A_irem {x y : Int32} {A : Option β} (hd : decode (mC m) pc = .ok (.irem, 1)) (hf : dvz y A = some o) (h : A = some o → PW G d m (pc + 1) ls (.int (x % y) :: st) M 0 0 Q) : PW G d m pc ls (.int y :: .int x :: st) M 0 0 Q := by
  unfold dvz at hf
  split at hf
  · cases hf
  · rename_i hy; exact P_irem hd hy (h hf)
theorem A_gI {idx ci k x : Nat} {own : String} (hd : decode (mC m) pc = .ok (.getfield idx, 3)) (hc : (mN m).cls = own) (hF : FK 0 own idx ci k) (hk : kd0 x = ci + 1) (hW : WT M) (h : PW G d m (pc + 3) ls (.int (gI M x k) :: st) M 0 0 Q) : PW G d m pc ls (.ref x :: st) M 0 0 Q :=
  P_getf hd (by rw [hc]; exact hF.1) hk (wt_lt hW hk hF.2.2) (by rw [hF.2.1]; exact h)
theorem A_gZ {idx ci k x : Nat} {own : String} (hd : decode (mC m) pc = .ok (.getfield idx, 3)) (hc : (mN m).cls = own) (hF : FK 3 own idx ci k) (hk : kd0 x = ci + 1) (hW : WT M) (h : PW G d m (pc + 3) ls (.int (gI M x k) :: st) M 0 0 Q) : PW G d m pc ls (.ref x :: st) M 0 0 Q :=
  P_getf hd (by rw [hc]; exact hF.1) hk (wt_lt hW hk hF.2.2) (by rw [hF.2.1]; exact h)
theorem A_gL {idx ci k x : Nat} {own : String} (hd : decode (mC m) pc = .ok (.getfield idx, 3)) (hc : (mN m).cls = own) (hF : FK 1 own idx ci k) (hk : kd0 x = ci + 1) (hW : WT M) (h : PW G d m (pc + 3) ls (.long (gL M x k) :: st) M 0 0 Q) : PW G d m pc ls (.ref x :: st) M 0 0 Q :=
  P_getf hd (by rw [hc]; exact hF.1) hk (wt_lt hW hk hF.2.2) (by rw [hF.2.1]; exact h)
theorem A_gF {idx ci k x v : Nat} {own : String} (hd : decode (mC m) pc = .ok (.getfield idx, 3)) (hc : (mN m).cls = own) (hF : FK 2 own idx ci k) (ht : finT (ci + 1) k = some (v, 0)) (hk : kd0 x = ci + 1) (hW : WT M) (h : PW G d m (pc + 3) ls (.ref v :: st) M 0 0 Q) : PW G d m pc ls (.ref x :: st) M 0 0 Q := by
  refine P_getf hd (by rw [hc]; exact hF.1) hk (wt_lt hW hk hF.2.2) ?_
  have e : gR M x k = v := hW.2 x k v 0 (by rw [hk]; exact ht)
  rw [hF.2.1]
  show PW G d m (pc + 3) ls (.ref (gR M x k) :: st) M 0 0 Q
  rw [e]; exact h
theorem A_gFr {idx ci k x v : Nat} {own : String} (hd : decode (mC m) pc = .ok (.getfield idx, 3)) (hc : (mN m).cls = own) (hF : FK 2 own idx ci k) (ht : finT (ci + 1) k = some (v, 1)) (hk : kd0 x = ci + 1) (hW : WT M) (h : PW G d m (pc + 3) ls (.ref (x + v) :: st) M 0 0 Q) : PW G d m pc ls (.ref x :: st) M 0 0 Q := by
  refine P_getf hd (by rw [hc]; exact hF.1) hk (wt_lt hW hk hF.2.2) ?_
  have e : gR M x k = x + v := hW.2 x k v 1 (by rw [hk]; exact ht)
  rw [hF.2.1]
  show PW G d m (pc + 3) ls (.ref (gR M x k) :: st) M 0 0 Q
  rw [e]; exact h
theorem A_gM {idx ci k x kk : Nat} {own : String} {A : Option β} (hd : decode (mC m) pc = .ok (.getfield idx, 3)) (hc : (mN m).cls = own) (hF : FK 2 own idx ci k) (hk : kd0 x = ci + 1) (hW : WT M) (hf : ckK (gR M x k) kk A = some o) (h : kd0 (gR M x k) = kk → A = some o → PW G d m (pc + 3) ls (.ref (gR M x k) :: st) M 0 0 Q) : PW G d m pc ls (.ref x :: st) M 0 0 Q := by
  unfold ckK at hf
  split at hf
  · rename_i h2
    refine P_getf hd (by rw [hc]; exact hF.1) hk (wt_lt hW hk hF.2.2) ?_
    rw [hF.2.1]
    exact h h2 hf
  · cases hf
theorem WT_sI {c k : Nat} {v : Int32} (h : WT M) : WT (sI M c k v) := h
theorem WT_sL {c k : Nat} {v : Int64} (h : WT M) : WT (sL M c k v) := h
theorem WT_sR {c k v : Nat} (h : WT M) (hn : finT (kd0 c) k = none) : WT (sR M c k v) := by
  refine ⟨h.1, fun a b w r hw => ?_⟩
  rw [← h.2 a b w r hw]
  show (if a = c ∧ b = k then v else M.2.2.1 a b) = M.2.2.1 a b
  rw [if_neg]
  rintro ⟨rfl, rfl⟩
  rw [hn] at hw
  cases hw
theorem FP.put {t idx ci k : Nat} {own : String} (h : FP t own idx ci k) (nm : String) : FPut own nm idx ci k := by
  obtain ⟨⟨q, h1, h2, h3, h4⟩, -⟩ := h
  exact ⟨q, h1, h2, h3, Or.inl h4⟩
theorem fc_ref {ty : FieldType} (h : fcode ty = 2) : (∃ n, ty = .object n) ∨ ∃ t, ty = .array t := by
  cases ty <;> first | exact Or.inl ⟨_, rfl⟩ | exact Or.inr ⟨_, rfl⟩ | cases h
theorem A_pI {idx ci k x : Nat} {own : String} {v : Int32} {κ : AM → Option β} (hd : decode (mC m) pc = .ok (.putfield idx, 3)) (hc : (mN m).cls = own) (hF : FP 0 own idx ci k) (hk : kd0 x = ci + 1) (hW : WT M) (hf : wI M x k v κ = some o) (h : WT (sI M x k v) → κ (sI M x k v) = some o → PW G d m (pc + 3) ls st (sI M x k v) 0 0 Q) : PW G d m pc ls (.int v :: .ref x :: st) M 0 0 Q :=
  P_putf (M' := sI M x k v) hd (by rw [hc]; exact hF.put _) hk (wt_lt hW hk hF.2.2.1) rfl fv_sI_ne (fun j => fv_sI (t := 0) (Or.inl rfl) _ j (fun e => by rw [e]; exact hF.2.1)) (fun s _ => by have := hF.2.1; cases hty : tyOf ci k <;> rw [hty] at this <;> first | exact ⟨rfl, rfl⟩ | cases this) (h hW hf)
theorem A_pZ {idx ci k x : Nat} {own : String} {v : Int32} {κ : AM → Option β} (hd : decode (mC m) pc = .ok (.putfield idx, 3)) (hc : (mN m).cls = own) (hF : FP 3 own idx ci k) (hk : kd0 x = ci + 1) (hW : WT M) (hb : v = 0 ∨ v = 1) (hf : wI M x k v κ = some o) (h : WT (sI M x k v) → κ (sI M x k v) = some o → PW G d m (pc + 3) ls st (sI M x k v) 0 0 Q) : PW G d m pc ls (.int v :: .ref x :: st) M 0 0 Q :=
  P_putf (M' := sI M x k v) hd (by rw [hc]; exact hF.put _) hk (wt_lt hW hk hF.2.2.1) rfl fv_sI_ne (fun j => fv_sI (t := 3) (Or.inr rfl) _ j (fun e => by rw [e]; exact hF.2.1)) (fun s _ => by have := hF.2.1; cases hty : tyOf ci k <;> rw [hty] at this <;> first | (cases this; done) | (rcases hb with rfl | rfl <;> exact ⟨rfl, rfl⟩)) (h hW hf)
theorem A_pL {idx ci k x : Nat} {own : String} {v : Int64} {κ : AM → Option β} (hd : decode (mC m) pc = .ok (.putfield idx, 3)) (hc : (mN m).cls = own) (hF : FP 1 own idx ci k) (hk : kd0 x = ci + 1) (hW : WT M) (hf : wL M x k v κ = some o) (h : WT (sL M x k v) → κ (sL M x k v) = some o → PW G d m (pc + 3) ls st (sL M x k v) 0 0 Q) : PW G d m pc ls (.long v :: .ref x :: st) M 0 0 Q :=
  P_putf (M' := sL M x k v) hd (by rw [hc]; exact hF.put _) hk (wt_lt hW hk hF.2.2.1) rfl fv_sL_ne (fun j => fv_sL _ j (fun e => by rw [e]; exact hF.2.1)) (fun s _ => by have := hF.2.1; cases hty : tyOf ci k <;> rw [hty] at this <;> first | exact ⟨rfl, rfl⟩ | cases this) (h hW hf)
theorem A_pR {idx ci k x v : Nat} {own : String} {κ : AM → Option β} (hd : decode (mC m) pc = .ok (.putfield idx, 3)) (hc : (mN m).cls = own) (hF : FP 2 own idx ci k) (hk : kd0 x = ci + 1) (hW : WT M) (hf : wR M x k v κ = some o) (h : WT (sR M x k v) → κ (sR M x k v) = some o → PW G d m (pc + 3) ls st (sR M x k v) 0 0 Q) : PW G d m pc ls (.ref v :: .ref x :: st) M 0 0 Q :=
  P_putf (M' := sR M x k v) hd (by rw [hc]; exact hF.put _) hk (wt_lt hW hk hF.2.2.1) rfl fv_sR_ne (fun j => fv_sR _ j (fun e => by rw [e]; exact hF.2.1)) (fun s hs => fits_cr hs hF.2.1 v) (h (WT_sR hW (by rw [hk]; exact hF.2.2.2)) hf)
theorem A_ckB {v : Int32} {A : Option β} {P : Prop} (hf : ckB v A = some o) (h : (v = 0 ∨ v = 1) → A = some o → P) : P := by
  unfold ckB at hf
  split at hf
  · rename_i q; exact h q hf
  · cases hf
theorem A_iald {n x : Nat} {i : Int32} {κ : Int32 → Option β} (hd : decode (mC m) pc = .ok (.iaload, 1)) (hk : kd0 x = 20) (hl : ln0 x = n) (hW : WT M) (hf : ald n M x i κ = some o) (h : κ (gI M x i.toNatClampNeg) = some o → PW G d m (pc + 1) ls (.int (gI M x i.toNatClampNeg) :: st) M 0 0 Q) : PW G d m pc ls (.int i :: .ref x :: st) M 0 0 Q := by
  subst hl; unfold ald at hf
  split at hf
  · cases hf
  · rename_i q; exact P_iald hd hk (wt_lt hW hk (by decide)) q (h hf)
theorem A_bald {n x : Nat} {i : Int32} {κ : Int32 → Option β} (hd : decode (mC m) pc = .ok (.baload, 1)) (hk : kd0 x = 22) (hl : ln0 x = n) (hW : WT M) (hf : ald n M x i κ = some o) (h : κ (gI M x i.toNatClampNeg) = some o → PW G d m (pc + 1) ls (.int (gI M x i.toNatClampNeg) :: st) M 0 0 Q) : PW G d m pc ls (.int i :: .ref x :: st) M 0 0 Q := by
  subst hl; unfold ald at hf
  split at hf
  · cases hf
  · rename_i q; exact P_bald hd hk (wt_lt hW hk (by decide)) q (h hf)
theorem A_zald {n x : Nat} {i : Int32} {κ : Int32 → Option β} (hd : decode (mC m) pc = .ok (.baload, 1)) (hk : kd0 x = 23) (hl : ln0 x = n) (hW : WT M) (hf : ald n M x i κ = some o) (h : κ (gI M x i.toNatClampNeg) = some o → PW G d m (pc + 1) ls (.int (gI M x i.toNatClampNeg) :: st) M 0 0 Q) : PW G d m pc ls (.int i :: .ref x :: st) M 0 0 Q := by
  subst hl; unfold ald at hf
  split at hf
  · cases hf
  · rename_i q; exact P_zald hd hk (wt_lt hW hk (by decide)) q (h hf)
theorem A_lald {n x : Nat} {i : Int32} {κ : Int64 → Option β} (hd : decode (mC m) pc = .ok (.laload, 1)) (hk : kd0 x = 21) (hl : ln0 x = n) (hW : WT M) (hf : lald n M x i κ = some o) (h : κ (gL M x i.toNatClampNeg) = some o → PW G d m (pc + 1) ls (.long (gL M x i.toNatClampNeg) :: st) M 0 0 Q) : PW G d m pc ls (.int i :: .ref x :: st) M 0 0 Q := by
  subst hl; unfold lald at hf
  split at hf
  · cases hf
  · rename_i q; exact P_lald hd hk (wt_lt hW hk (by decide)) q (h hf)
theorem A_aald {n x : Nat} {i : Int32} {κ : Nat → Option β} (hd : decode (mC m) pc = .ok (.aaload, 1)) (hk : kd0 x = 24) (hl : ln0 x = n) (hW : WT M) (hf : rald n M x i κ = some o) (h : ∀ r, kd0 r = 9 → κ r = some o → PW G d m (pc + 1) ls (.ref r :: st) M 0 0 Q) : PW G d m pc ls (.int i :: .ref x :: st) M 0 0 Q := by
  subst hl; unfold rald at hf
  split at hf
  · cases hf
  · rename_i q
    split at hf
    · rename_i q2; exact P_aald hd hk (wt_lt hW hk (by decide)) q (h _ q2 hf)
    · cases hf
theorem A_iast {n x : Nat} {i v : Int32} {κ : AM → Option β} (hd : decode (mC m) pc = .ok (.iastore, 1)) (hk : kd0 x = 20) (hl : ln0 x = n) (hW : WT M) (hf : ast n M x i v κ = some o) (h : WT (sI M x i.toNatClampNeg v) → κ (sI M x i.toNatClampNeg v) = some o → PW G d m (pc + 1) ls st (sI M x i.toNatClampNeg v) 0 0 Q) : PW G d m pc ls (.int v :: .int i :: .ref x :: st) M 0 0 Q := by
  subst hl; unfold ast at hf
  split at hf
  · cases hf
  · rename_i q; exact P_iast hd hk (wt_lt hW hk (by decide)) q (h hW hf)
theorem A_bast {n x : Nat} {i v : Int32} {κ : AM → Option β} (hd : decode (mC m) pc = .ok (.bastore, 1)) (hk : kd0 x = 22) (hl : ln0 x = n) (hW : WT M) (hf : ast n M x i v.toInt8.toInt32 κ = some o) (h : WT (sI M x i.toNatClampNeg v.toInt8.toInt32) → κ (sI M x i.toNatClampNeg v.toInt8.toInt32) = some o → PW G d m (pc + 1) ls st (sI M x i.toNatClampNeg v.toInt8.toInt32) 0 0 Q) : PW G d m pc ls (.int v :: .int i :: .ref x :: st) M 0 0 Q := by
  subst hl; unfold ast at hf
  split at hf
  · cases hf
  · rename_i q; exact P_bast hd hk (wt_lt hW hk (by decide)) q (h hW hf)
theorem A_zast {n x : Nat} {i v : Int32} {κ : AM → Option β} (hd : decode (mC m) pc = .ok (.bastore, 1)) (hk : kd0 x = 23) (hl : ln0 x = n) (hW : WT M) (hb : v = 0 ∨ v = 1) (hf : ast n M x i v κ = some o) (h : WT (sI M x i.toNatClampNeg v) → κ (sI M x i.toNatClampNeg v) = some o → PW G d m (pc + 1) ls st (sI M x i.toNatClampNeg v) 0 0 Q) : PW G d m pc ls (.int v :: .int i :: .ref x :: st) M 0 0 Q := by
  subst hl; unfold ast at hf
  split at hf
  · cases hf
  · rename_i q; exact P_zast hd hk (wt_lt hW hk (by decide)) q hb (h hW hf)
theorem A_last {n x : Nat} {i : Int32} {v : Int64} {κ : AM → Option β} (hd : decode (mC m) pc = .ok (.lastore, 1)) (hk : kd0 x = 21) (hl : ln0 x = n) (hW : WT M) (hf : last' n M x i v κ = some o) (h : WT (sL M x i.toNatClampNeg v) → κ (sL M x i.toNatClampNeg v) = some o → PW G d m (pc + 1) ls st (sL M x i.toNatClampNeg v) 0 0 Q) : PW G d m pc ls (.long v :: .int i :: .ref x :: st) M 0 0 Q := by
  subst hl; unfold last' at hf
  split at hf
  · cases hf
  · rename_i q; exact P_last hd hk (wt_lt hW hk (by decide)) q (h hW hf)
theorem A_aast {n x v : Nat} {i : Int32} {κ : AM → Option β} (hd : decode (mC m) pc = .ok (.aastore, 1)) (hk : kd0 x = 24) (hl : ln0 x = n) (hkv : kd0 v = 9) (hW : WT M) (hf : rast n M x i v κ = some o) (h : WT (sR M x i.toNatClampNeg v) → κ (sR M x i.toNatClampNeg v) = some o → PW G d m (pc + 1) ls st (sR M x i.toNatClampNeg v) 0 0 Q) : PW G d m pc ls (.ref v :: .int i :: .ref x :: st) M 0 0 Q := by
  subst hl; unfold rast at hf
  split at hf
  · cases hf
  · rename_i q
    refine P_aast hd hk (wt_lt hW hk (by decide)) q hkv (wt_lt hW hkv (by decide)) (h (WT_sR hW ?_) hf)
    rw [hk]
    have : ∀ q ∈ finL, q.1 ≠ 24 := by decide
    unfold finT
    rw [List.find?_eq_none.mpr (fun q hq => by simp [this q hq])]
    rfl
theorem A_sld {n : Nat} {xs : Nat → Int32} {i : Int32} {κ : Int32 → Option β} (hd : decode (mC m) pc = .ok (.iaload, 1)) (hn : gLn G = n) (hx : gxs G = xs) (hf : sald n xs i κ = some o) (h : κ (xs i.toNatClampNeg) = some o → PW G d m (pc + 1) ls (.int (xs i.toNatClampNeg) :: st) M 0 0 Q) : PW G d m pc ls (.int i :: .ref 1000 :: st) M 0 0 Q := by
  subst hn; subst hx; unfold sald at hf
  split at hf
  · cases hf
  · rename_i q; exact P_sld hd q (h hf)
theorem A_xald {j : Nat} {i : Int32} {κ : Int32 → Option β} (hd : decode (mC m) pc = .ok (.baload, 1)) (hj : j < 2) (hf : xald j i κ = some o) (h : κ ((([sbyt0, sbyt1] : List (List Int32)).getD j []).getD i.toNatClampNeg 0) = some o → PW G d m (pc + 1) ls (.int ((([sbyt0, sbyt1] : List (List Int32)).getD j []).getD i.toNatClampNeg 0) :: st) M 0 0 Q) : PW G d m pc ls (.int i :: .ref (1003 + j) :: st) M 0 0 Q := by
  unfold xald at hf
  split at hf
  · cases hf
  · rename_i q; exact P_xald hd hj q (h hf)
theorem A_alen {n x : Nat} {v : Int32} (k : Nat) (hd : decode (mC m) pc = .ok (.arraylength, 1)) (hk : kd0 x = k + 1) (h1 : 20 ≤ k + 1) (h2 : k + 1 ≤ 24) (hl : ln0 x = n) (hv : Int32.ofNat n = v) (hW : WT M) (h : PW G d m (pc + 1) ls (.int v :: st) M 0 0 Q) : PW G d m pc ls (.ref x :: st) M 0 0 Q := by
  subst hl
  exact P_alen hd hk h1 h2 (wt_lt hW hk (by omega)) hv h
/-- branches -/
theorem A_if_eq {x : Int32} {off : Int} {tgt : Nat} {A B : Option β} (hd : decode (mC m) pc = .ok (.ifCond .eq off, 3)) (ht : (pc : Int) + off = (tgt : Int)) (hf : (if x = 0 then A else B) = some o) (kt : A = some o → PW G d m tgt ls st M 0 0 Q) (kf : B = some o → PW G d m (pc + 3) ls st M 0 0 Q) : PW G d m pc ls (.int x :: st) M 0 0 Q := by
  split at hf
  · rename_i q; exact P_if_eq hd ht (fun _ => kt hf) (fun z => absurd q z)
  · rename_i q; exact P_if_eq hd ht (fun z => absurd z q) (fun _ => kf hf)
theorem A_if_ne {x : Int32} {off : Int} {tgt : Nat} {A B : Option β} (hd : decode (mC m) pc = .ok (.ifCond .ne off, 3)) (ht : (pc : Int) + off = (tgt : Int)) (hf : (if x = 0 then A else B) = some o) (kt : B = some o → PW G d m tgt ls st M 0 0 Q) (kf : A = some o → PW G d m (pc + 3) ls st M 0 0 Q) : PW G d m pc ls (.int x :: st) M 0 0 Q := by
  split at hf
  · rename_i q; exact P_if_ne hd ht (fun z => absurd q z) (fun _ => kf hf)
  · rename_i q; exact P_if_ne hd ht (fun _ => kt hf) (fun z => absurd z q)
theorem A_if_lt {x : Int32} {off : Int} {tgt : Nat} {A B : Option β} (hd : decode (mC m) pc = .ok (.ifCond .lt off, 3)) (ht : (pc : Int) + off = (tgt : Int)) (hf : (if x < 0 then A else B) = some o) (kt : A = some o → PW G d m tgt ls st M 0 0 Q) (kf : B = some o → PW G d m (pc + 3) ls st M 0 0 Q) : PW G d m pc ls (.int x :: st) M 0 0 Q := by
  split at hf
  · rename_i q; exact P_if_lt hd ht (fun _ => kt hf) (fun z => absurd q z)
  · rename_i q; exact P_if_lt hd ht (fun z => absurd z q) (fun _ => kf hf)
theorem A_if_ge {x : Int32} {off : Int} {tgt : Nat} {A B : Option β} (hd : decode (mC m) pc = .ok (.ifCond .ge off, 3)) (ht : (pc : Int) + off = (tgt : Int)) (hf : (if 0 ≤ x then A else B) = some o) (kt : A = some o → PW G d m tgt ls st M 0 0 Q) (kf : B = some o → PW G d m (pc + 3) ls st M 0 0 Q) : PW G d m pc ls (.int x :: st) M 0 0 Q := by
  split at hf
  · rename_i q; exact P_if_ge hd ht (fun _ => kt hf) (fun z => absurd q z)
  · rename_i q; exact P_if_ge hd ht (fun z => absurd z q) (fun _ => kf hf)
theorem A_if_gt {x : Int32} {off : Int} {tgt : Nat} {A B : Option β} (hd : decode (mC m) pc = .ok (.ifCond .gt off, 3)) (ht : (pc : Int) + off = (tgt : Int)) (hf : (if 0 < x then A else B) = some o) (kt : A = some o → PW G d m tgt ls st M 0 0 Q) (kf : B = some o → PW G d m (pc + 3) ls st M 0 0 Q) : PW G d m pc ls (.int x :: st) M 0 0 Q := by
  split at hf
  · rename_i q; exact P_if_gt hd ht (fun _ => kt hf) (fun z => absurd q z)
  · rename_i q; exact P_if_gt hd ht (fun z => absurd z q) (fun _ => kf hf)
theorem A_if_le {x : Int32} {off : Int} {tgt : Nat} {A B : Option β} (hd : decode (mC m) pc = .ok (.ifCond .le off, 3)) (ht : (pc : Int) + off = (tgt : Int)) (hf : (if x ≤ 0 then A else B) = some o) (kt : A = some o → PW G d m tgt ls st M 0 0 Q) (kf : B = some o → PW G d m (pc + 3) ls st M 0 0 Q) : PW G d m pc ls (.int x :: st) M 0 0 Q := by
  split at hf
  · rename_i q; exact P_if_le hd ht (fun _ => kt hf) (fun z => absurd q z)
  · rename_i q; exact P_if_le hd ht (fun z => absurd z q) (fun _ => kf hf)
theorem A_icmp_eq {x y : Int32} {off : Int} {tgt : Nat} {A B : Option β} (hd : decode (mC m) pc = .ok (.if_icmp .eq off, 3)) (ht : (pc : Int) + off = (tgt : Int)) (hf : (if x = y then A else B) = some o) (kt : A = some o → PW G d m tgt ls st M 0 0 Q) (kf : B = some o → PW G d m (pc + 3) ls st M 0 0 Q) : PW G d m pc ls (.int y :: .int x :: st) M 0 0 Q := by
  split at hf
  · rename_i q; exact P_icmp_eq hd ht (fun _ => kt hf) (fun z => absurd q z)
  · rename_i q; exact P_icmp_eq hd ht (fun z => absurd z q) (fun _ => kf hf)
theorem A_icmp_ne {x y : Int32} {off : Int} {tgt : Nat} {A B : Option β} (hd : decode (mC m) pc = .ok (.if_icmp .ne off, 3)) (ht : (pc : Int) + off = (tgt : Int)) (hf : (if x = y then A else B) = some o) (kt : B = some o → PW G d m tgt ls st M 0 0 Q) (kf : A = some o → PW G d m (pc + 3) ls st M 0 0 Q) : PW G d m pc ls (.int y :: .int x :: st) M 0 0 Q := by
  split at hf
  · rename_i q; exact P_icmp_ne hd ht (fun z => absurd q z) (fun _ => kf hf)
  · rename_i q; exact P_icmp_ne hd ht (fun _ => kt hf) (fun z => absurd z q)
theorem A_icmp_lt {x y : Int32} {off : Int} {tgt : Nat} {A B : Option β} (hd : decode (mC m) pc = .ok (.if_icmp .lt off, 3)) (ht : (pc : Int) + off = (tgt : Int)) (hf : (if x < y then A else B) = some o) (kt : A = some o → PW G d m tgt ls st M 0 0 Q) (kf : B = some o → PW G d m (pc + 3) ls st M 0 0 Q) : PW G d m pc ls (.int y :: .int x :: st) M 0 0 Q := by
  split at hf
  · rename_i q; exact P_icmp_lt hd ht (fun _ => kt hf) (fun z => absurd q z)
  · rename_i q; exact P_icmp_lt hd ht (fun z => absurd z q) (fun _ => kf hf)
theorem A_icmp_ge {x y : Int32} {off : Int} {tgt : Nat} {A B : Option β} (hd : decode (mC m) pc = .ok (.if_icmp .ge off, 3)) (ht : (pc : Int) + off = (tgt : Int)) (hf : (if y ≤ x then A else B) = some o) (kt : A = some o → PW G d m tgt ls st M 0 0 Q) (kf : B = some o → PW G d m (pc + 3) ls st M 0 0 Q) : PW G d m pc ls (.int y :: .int x :: st) M 0 0 Q := by
  split at hf
  · rename_i q; exact P_icmp_ge hd ht (fun _ => kt hf) (fun z => absurd q z)
  · rename_i q; exact P_icmp_ge hd ht (fun z => absurd z q) (fun _ => kf hf)
theorem A_icmp_gt {x y : Int32} {off : Int} {tgt : Nat} {A B : Option β} (hd : decode (mC m) pc = .ok (.if_icmp .gt off, 3)) (ht : (pc : Int) + off = (tgt : Int)) (hf : (if y < x then A else B) = some o) (kt : A = some o → PW G d m tgt ls st M 0 0 Q) (kf : B = some o → PW G d m (pc + 3) ls st M 0 0 Q) : PW G d m pc ls (.int y :: .int x :: st) M 0 0 Q := by
  split at hf
  · rename_i q; exact P_icmp_gt hd ht (fun _ => kt hf) (fun z => absurd q z)
  · rename_i q; exact P_icmp_gt hd ht (fun z => absurd z q) (fun _ => kf hf)
theorem A_icmp_le {x y : Int32} {off : Int} {tgt : Nat} {A B : Option β} (hd : decode (mC m) pc = .ok (.if_icmp .le off, 3)) (ht : (pc : Int) + off = (tgt : Int)) (hf : (if x ≤ y then A else B) = some o) (kt : A = some o → PW G d m tgt ls st M 0 0 Q) (kf : B = some o → PW G d m (pc + 3) ls st M 0 0 Q) : PW G d m pc ls (.int y :: .int x :: st) M 0 0 Q := by
  split at hf
  · rename_i q; exact P_icmp_le hd ht (fun _ => kt hf) (fun z => absurd q z)
  · rename_i q; exact P_icmp_le hd ht (fun z => absurd z q) (fun _ => kf hf)
theorem A_iret {v : Int32} {p : Int32 × AM} (hd : decode (mC m) pc = .ok (.ireturn, 1)) (hr : mR m = some .int) (hW : WT M) (hf : some (v, M) = some p) (k : WT p.2 → Q p.2 (some (.int p.1))) : PW G d m pc ls [.int v] M 0 0 Q := by
  cases hf; exact P_iret hd hr rfl (Nat.zero_le _) (Nat.zero_le _) (k hW)
theorem A_zret {v : Int32} {p : Int32 × AM} (hd : decode (mC m) pc = .ok (.ireturn, 1)) (hr : mR m = some .boolean) (hW : WT M) (hb : v = 0 ∨ v = 1) (hf : some (v, M) = some p) (k : WT p.2 → (p.1 = 0 ∨ p.1 = 1) → Q p.2 (some (.int p.1))) : PW G d m pc ls [.int v] M 0 0 Q := by
  cases hf; exact P_iret hd hr (by rcases hb with rfl | rfl <;> rfl) (Nat.zero_le _) (Nat.zero_le _) (k hW hb)
theorem A_nret {v : Int32} {ty : FieldType} {p : Int32 × AM} (hd : decode (mC m) pc = .ok (.ireturn, 1)) (hr : mR m = some ty) (hW : WT M) (hb : narrow ty (.int v) = .int v) (hf : some (v, M) = some p) (k : WT p.2 → narrow ty (.int p.1) = .int p.1 → Q p.2 (some (.int p.1))) : PW G d m pc ls [.int v] M 0 0 Q := by
  cases hf; exact P_iret hd hr hb (Nat.zero_le _) (Nat.zero_le _) (k hW hb)
theorem A_ret {u : Unit} {p : Unit × AM} (hd : decode (mC m) pc = .ok (.return_, 1)) (hr : mR m = none) (hW : WT M) (hf : some (u, M) = some p) (k : WT p.2 → Q p.2 none) : PW G d m pc ls [] M 0 0 Q := by
  cases hf; exact P_ret hd hr (Nat.zero_le _) (Nat.zero_le _) (k hW)
theorem A_aret {v kk : Nat} {n : String} {p : Nat × AM} (hd : decode (mC m) pc = .ok (.areturn, 1)) (hr : mR m = some (.object n)) (hW : WT M) (hk : kd0 v = kk) (hf : some (v, M) = some p) (k : WT p.2 → kd0 p.1 = kk → Q p.2 (some (.ref p.1))) : PW G d m pc ls [.ref v] M 0 0 Q := by
  cases hf; exact P_aret hd hr (Nat.zero_le _) (Nat.zero_le _) (k hW hk)
def M0K (m : Nat) : Prop := mcT m = 0 ∧ msT m = 0
def VK (m idx m' n ci : Nat) : Prop := LKB m idx m' n ∧ Cond.instanceMethod (mN m') ∈ lw_tbl ∧ MOK m' ∧ M0K m' ∧ ∃ q, vwCl[ci]? = some q ∧ Cond.selects q.1 (mN m') (mN m') ∈ lw_tbl ∧ ci < 30
def SKc (m idx m' n : Nat) : Prop := LKB m idx m' n ∧ Cond.static (mN m') ∈ lw_tbl ∧ MOK m' ∧ M0K m'
theorem A_V {m' idx n ci x : Nat} {stk : List Value} {α : Type} {z : Option (α × AM)} {κ : α → AM → Option β} (hd : decode (mC m) pc = .ok (.invokevirtual idx, 3)) (hv : VK m idx m' n ci) (hn : as.length = n) (hstk : stk = as.reverse ++ .ref x :: st) (hcat : Nat.ble (st.map fun v => v.category).sum 8 = true) (hk : kd0 x = ci + 1) (hW : WT M) (hsl : Nat.ble (slo (.ref x :: as)).length (mL m') = true) (hf : bnd z κ = some o) (h : ∀ r M1, z = some (r, M1) → κ r M1 = some o → Cal G d m' (.ref x :: as) M (fun M' r => PW G (d + 1) m (pc + 3) ls (r.toList ++ st) M' 0 0 Q)) : PW G (d + 1) m pc ls stk M 0 0 Q := by
  obtain ⟨r, M1, h1, h2⟩ := bnd_some hf
  obtain ⟨hl, hi, hm, ⟨e1, e2⟩, q, hq, hsel, hci⟩ := hv
  refine P_callV q hd hl hi hsel hm hn hstk (Nat.le_of_ble_eq_true hcat) hq hk (wt_lt hW hk hci) (Nat.le_of_ble_eq_true hsl) (by rw [e1]; exact Nat.zero_le _) (by rw [e2]; exact Nat.zero_le _) ?_
  rw [e1, e2]
  exact h r M1 h1 h2
theorem A_S {m' idx n : Nat} {stk : List Value} {α : Type} {z : Option (α × AM)} {κ : α → AM → Option β} (hd : decode (mC m) pc = .ok (.invokestatic idx, 3)) (hv : SKc m idx m' n) (hn : as.length = n) (hstk : stk = as.reverse ++ st) (hcat : Nat.ble (st.map fun v => v.category).sum 8 = true) (hsl : Nat.ble (slo as).length (mL m') = true) (hf : bnd z κ = some o) (h : ∀ r M1, z = some (r, M1) → κ r M1 = some o → Cal G d m' as M (fun M' r => PW G (d + 1) m (pc + 3) ls (r.toList ++ st) M' 0 0 Q)) : PW G (d + 1) m pc ls stk M 0 0 Q := by
  obtain ⟨r, M1, h1, h2⟩ := bnd_some hf
  obtain ⟨hl, hi, hm, e1, e2⟩ := hv
  refine P_callS hd hl hi hm hn hstk (Nat.le_of_ble_eq_true hcat) (Nat.le_of_ble_eq_true hsl) (by rw [e1]; exact Nat.zero_le _) (by rw [e2]; exact Nat.zero_le _) ?_
  rw [e1, e2]
  exact h r M1 h1 h2
def TK (m idx m' n : Nat) : Prop := LKB m idx m' n ∧ Cond.instanceMethod (mN m') ∈ lw_tbl ∧ MOK m' ∧ M0K m' ∧ Cond.selects "java/lang/String" (mN m') (mN m') ∈ lw_tbl
theorem A_T {m' idx n i : Nat} {stk : List Value} {α : Type} {z : Option (α × AM)} {κ : α → AM → Option β} (hd : decode (mC m) pc = .ok (.invokevirtual idx, 3)) (hv : TK m idx m' n) (hn : as.length = n) (hi2 : i < 2) (hstk : stk = as.reverse ++ .ref (1001 + i) :: st) (hcat : Nat.ble (st.map fun v => v.category).sum 8 = true) (hsl : Nat.ble (slo (.ref (1001 + i) :: as)).length (mL m') = true) (hf : bnd z κ = some o) (h : ∀ r M1, z = some (r, M1) → κ r M1 = some o → Cal G d m' (.ref (1001 + i) :: as) M (fun M' r => PW G (d + 1) m (pc + 3) ls (r.toList ++ st) M' 0 0 Q)) : PW G (d + 1) m pc ls stk M 0 0 Q := by
  obtain ⟨r, M1, h1, h2⟩ := bnd_some hf
  obtain ⟨hl, hi, hm, ⟨e1, e2⟩, hsel⟩ := hv
  refine P_callVS hd hl hi hsel hm hn hi2 hstk (Nat.le_of_ble_eq_true hcat) (Nat.le_of_ble_eq_true hsl) (by rw [e1]; exact Nat.zero_le _) (by rw [e2]; exact Nat.zero_le _) ?_
  rw [e1, e2]
  exact h r M1 h1 h2
theorem A_V0 {m' idx ci x nl : Nat} {α : Type} {z : Option (α × AM)} {κ : α → AM → Option β} (hd : decode (mC m) pc = .ok (.invokevirtual idx, 3)) (hv : VK m idx m' 0 ci) (hml : mL m' = nl) (hcat : Nat.ble (st.map fun v => v.category).sum 8 = true) (hk : kd0 x = ci + 1) (hW : WT M) (hsl : Nat.ble (slo (.ref x :: [])).length nl = true) (hf : bnd z κ = some o) (h : ∀ r M1, z = some (r, M1) → κ r M1 = some o → Cal G d m' (.ref x :: []) M (fun M' r => PW G (d + 1) m (pc + 3) ls (r.toList ++ st) M' 0 0 Q)) : PW G (d + 1) m pc ls (.ref x :: st) M 0 0 Q := by
  subst hml; exact A_V (as := []) hd hv rfl rfl hcat hk hW hsl hf h
theorem A_T0 {m' idx i nl : Nat} {α : Type} {z : Option (α × AM)} {κ : α → AM → Option β} (hd : decode (mC m) pc = .ok (.invokevirtual idx, 3)) (hv : TK m idx m' 0) (hml : mL m' = nl) (hi : i < 2) (hcat : Nat.ble (st.map fun v => v.category).sum 8 = true) (hsl : Nat.ble (slo (.ref (1001 + i) :: [])).length nl = true) (hf : bnd z κ = some o) (h : ∀ r M1, z = some (r, M1) → κ r M1 = some o → Cal G d m' (.ref (1001 + i) :: []) M (fun M' r => PW G (d + 1) m (pc + 3) ls (r.toList ++ st) M' 0 0 Q)) : PW G (d + 1) m pc ls (.ref (1001 + i) :: st) M 0 0 Q := by
  subst hml; exact A_T (as := []) hd hv rfl hi rfl hcat hsl hf h
theorem A_V1 {m' idx ci x nl : Nat} {a1 : Value} {α : Type} {z : Option (α × AM)} {κ : α → AM → Option β} (hd : decode (mC m) pc = .ok (.invokevirtual idx, 3)) (hv : VK m idx m' 1 ci) (hml : mL m' = nl) (hcat : Nat.ble (st.map fun v => v.category).sum 8 = true) (hk : kd0 x = ci + 1) (hW : WT M) (hsl : Nat.ble (slo (.ref x :: [a1])).length nl = true) (hf : bnd z κ = some o) (h : ∀ r M1, z = some (r, M1) → κ r M1 = some o → Cal G d m' (.ref x :: [a1]) M (fun M' r => PW G (d + 1) m (pc + 3) ls (r.toList ++ st) M' 0 0 Q)) : PW G (d + 1) m pc ls (a1 :: .ref x :: st) M 0 0 Q := by
  subst hml; exact A_V (as := [a1]) hd hv rfl rfl hcat hk hW hsl hf h
theorem A_S1 {m' idx nl : Nat} {a1 : Value} {α : Type} {z : Option (α × AM)} {κ : α → AM → Option β} (hd : decode (mC m) pc = .ok (.invokestatic idx, 3)) (hv : SKc m idx m' 1) (hml : mL m' = nl) (hcat : Nat.ble (st.map fun v => v.category).sum 8 = true) (hsl : Nat.ble (slo [a1]).length nl = true) (hf : bnd z κ = some o) (h : ∀ r M1, z = some (r, M1) → κ r M1 = some o → Cal G d m' [a1] M (fun M' r => PW G (d + 1) m (pc + 3) ls (r.toList ++ st) M' 0 0 Q)) : PW G (d + 1) m pc ls (a1 :: st) M 0 0 Q := by
  subst hml; exact A_S (as := [a1]) hd hv rfl rfl hcat hsl hf h
theorem A_T1 {m' idx i nl : Nat} {a1 : Value} {α : Type} {z : Option (α × AM)} {κ : α → AM → Option β} (hd : decode (mC m) pc = .ok (.invokevirtual idx, 3)) (hv : TK m idx m' 1) (hml : mL m' = nl) (hi : i < 2) (hcat : Nat.ble (st.map fun v => v.category).sum 8 = true) (hsl : Nat.ble (slo (.ref (1001 + i) :: [a1])).length nl = true) (hf : bnd z κ = some o) (h : ∀ r M1, z = some (r, M1) → κ r M1 = some o → Cal G d m' (.ref (1001 + i) :: [a1]) M (fun M' r => PW G (d + 1) m (pc + 3) ls (r.toList ++ st) M' 0 0 Q)) : PW G (d + 1) m pc ls (a1 :: .ref (1001 + i) :: st) M 0 0 Q := by
  subst hml; exact A_T (as := [a1]) hd hv rfl hi rfl hcat hsl hf h
theorem A_V2 {m' idx ci x nl : Nat} {a1 a2 : Value} {α : Type} {z : Option (α × AM)} {κ : α → AM → Option β} (hd : decode (mC m) pc = .ok (.invokevirtual idx, 3)) (hv : VK m idx m' 2 ci) (hml : mL m' = nl) (hcat : Nat.ble (st.map fun v => v.category).sum 8 = true) (hk : kd0 x = ci + 1) (hW : WT M) (hsl : Nat.ble (slo (.ref x :: [a1, a2])).length nl = true) (hf : bnd z κ = some o) (h : ∀ r M1, z = some (r, M1) → κ r M1 = some o → Cal G d m' (.ref x :: [a1, a2]) M (fun M' r => PW G (d + 1) m (pc + 3) ls (r.toList ++ st) M' 0 0 Q)) : PW G (d + 1) m pc ls (a2 :: a1 :: .ref x :: st) M 0 0 Q := by
  subst hml; exact A_V (as := [a1, a2]) hd hv rfl rfl hcat hk hW hsl hf h
theorem A_S2 {m' idx nl : Nat} {a1 a2 : Value} {α : Type} {z : Option (α × AM)} {κ : α → AM → Option β} (hd : decode (mC m) pc = .ok (.invokestatic idx, 3)) (hv : SKc m idx m' 2) (hml : mL m' = nl) (hcat : Nat.ble (st.map fun v => v.category).sum 8 = true) (hsl : Nat.ble (slo [a1, a2]).length nl = true) (hf : bnd z κ = some o) (h : ∀ r M1, z = some (r, M1) → κ r M1 = some o → Cal G d m' [a1, a2] M (fun M' r => PW G (d + 1) m (pc + 3) ls (r.toList ++ st) M' 0 0 Q)) : PW G (d + 1) m pc ls (a2 :: a1 :: st) M 0 0 Q := by
  subst hml; exact A_S (as := [a1, a2]) hd hv rfl rfl hcat hsl hf h
theorem A_T2 {m' idx i nl : Nat} {a1 a2 : Value} {α : Type} {z : Option (α × AM)} {κ : α → AM → Option β} (hd : decode (mC m) pc = .ok (.invokevirtual idx, 3)) (hv : TK m idx m' 2) (hml : mL m' = nl) (hi : i < 2) (hcat : Nat.ble (st.map fun v => v.category).sum 8 = true) (hsl : Nat.ble (slo (.ref (1001 + i) :: [a1, a2])).length nl = true) (hf : bnd z κ = some o) (h : ∀ r M1, z = some (r, M1) → κ r M1 = some o → Cal G d m' (.ref (1001 + i) :: [a1, a2]) M (fun M' r => PW G (d + 1) m (pc + 3) ls (r.toList ++ st) M' 0 0 Q)) : PW G (d + 1) m pc ls (a2 :: a1 :: .ref (1001 + i) :: st) M 0 0 Q := by
  subst hml; exact A_T (as := [a1, a2]) hd hv rfl hi rfl hcat hsl hf h
theorem A_V3 {m' idx ci x nl : Nat} {a1 a2 a3 : Value} {α : Type} {z : Option (α × AM)} {κ : α → AM → Option β} (hd : decode (mC m) pc = .ok (.invokevirtual idx, 3)) (hv : VK m idx m' 3 ci) (hml : mL m' = nl) (hcat : Nat.ble (st.map fun v => v.category).sum 8 = true) (hk : kd0 x = ci + 1) (hW : WT M) (hsl : Nat.ble (slo (.ref x :: [a1, a2, a3])).length nl = true) (hf : bnd z κ = some o) (h : ∀ r M1, z = some (r, M1) → κ r M1 = some o → Cal G d m' (.ref x :: [a1, a2, a3]) M (fun M' r => PW G (d + 1) m (pc + 3) ls (r.toList ++ st) M' 0 0 Q)) : PW G (d + 1) m pc ls (a3 :: a2 :: a1 :: .ref x :: st) M 0 0 Q := by
  subst hml; exact A_V (as := [a1, a2, a3]) hd hv rfl rfl hcat hk hW hsl hf h
theorem A_S3 {m' idx nl : Nat} {a1 a2 a3 : Value} {α : Type} {z : Option (α × AM)} {κ : α → AM → Option β} (hd : decode (mC m) pc = .ok (.invokestatic idx, 3)) (hv : SKc m idx m' 3) (hml : mL m' = nl) (hcat : Nat.ble (st.map fun v => v.category).sum 8 = true) (hsl : Nat.ble (slo [a1, a2, a3]).length nl = true) (hf : bnd z κ = some o) (h : ∀ r M1, z = some (r, M1) → κ r M1 = some o → Cal G d m' [a1, a2, a3] M (fun M' r => PW G (d + 1) m (pc + 3) ls (r.toList ++ st) M' 0 0 Q)) : PW G (d + 1) m pc ls (a3 :: a2 :: a1 :: st) M 0 0 Q := by
  subst hml; exact A_S (as := [a1, a2, a3]) hd hv rfl rfl hcat hsl hf h
theorem A_V4 {m' idx ci x nl : Nat} {a1 a2 a3 a4 : Value} {α : Type} {z : Option (α × AM)} {κ : α → AM → Option β} (hd : decode (mC m) pc = .ok (.invokevirtual idx, 3)) (hv : VK m idx m' 4 ci) (hml : mL m' = nl) (hcat : Nat.ble (st.map fun v => v.category).sum 8 = true) (hk : kd0 x = ci + 1) (hW : WT M) (hsl : Nat.ble (slo (.ref x :: [a1, a2, a3, a4])).length nl = true) (hf : bnd z κ = some o) (h : ∀ r M1, z = some (r, M1) → κ r M1 = some o → Cal G d m' (.ref x :: [a1, a2, a3, a4]) M (fun M' r => PW G (d + 1) m (pc + 3) ls (r.toList ++ st) M' 0 0 Q)) : PW G (d + 1) m pc ls (a4 :: a3 :: a2 :: a1 :: .ref x :: st) M 0 0 Q := by
  subst hml; exact A_V (as := [a1, a2, a3, a4]) hd hv rfl rfl hcat hk hW hsl hf h
theorem A_S4 {m' idx nl : Nat} {a1 a2 a3 a4 : Value} {α : Type} {z : Option (α × AM)} {κ : α → AM → Option β} (hd : decode (mC m) pc = .ok (.invokestatic idx, 3)) (hv : SKc m idx m' 4) (hml : mL m' = nl) (hcat : Nat.ble (st.map fun v => v.category).sum 8 = true) (hsl : Nat.ble (slo [a1, a2, a3, a4]).length nl = true) (hf : bnd z κ = some o) (h : ∀ r M1, z = some (r, M1) → κ r M1 = some o → Cal G d m' [a1, a2, a3, a4] M (fun M' r => PW G (d + 1) m (pc + 3) ls (r.toList ++ st) M' 0 0 Q)) : PW G (d + 1) m pc ls (a4 :: a3 :: a2 :: a1 :: st) M 0 0 Q := by
  subst hml; exact A_S (as := [a1, a2, a3, a4]) hd hv rfl rfl hcat hsl hf h
theorem A_V5 {m' idx ci x nl : Nat} {a1 a2 a3 a4 a5 : Value} {α : Type} {z : Option (α × AM)} {κ : α → AM → Option β} (hd : decode (mC m) pc = .ok (.invokevirtual idx, 3)) (hv : VK m idx m' 5 ci) (hml : mL m' = nl) (hcat : Nat.ble (st.map fun v => v.category).sum 8 = true) (hk : kd0 x = ci + 1) (hW : WT M) (hsl : Nat.ble (slo (.ref x :: [a1, a2, a3, a4, a5])).length nl = true) (hf : bnd z κ = some o) (h : ∀ r M1, z = some (r, M1) → κ r M1 = some o → Cal G d m' (.ref x :: [a1, a2, a3, a4, a5]) M (fun M' r => PW G (d + 1) m (pc + 3) ls (r.toList ++ st) M' 0 0 Q)) : PW G (d + 1) m pc ls (a5 :: a4 :: a3 :: a2 :: a1 :: .ref x :: st) M 0 0 Q := by
  subst hml; exact A_V (as := [a1, a2, a3, a4, a5]) hd hv rfl rfl hcat hk hW hsl hf h
theorem A_S5 {m' idx nl : Nat} {a1 a2 a3 a4 a5 : Value} {α : Type} {z : Option (α × AM)} {κ : α → AM → Option β} (hd : decode (mC m) pc = .ok (.invokestatic idx, 3)) (hv : SKc m idx m' 5) (hml : mL m' = nl) (hcat : Nat.ble (st.map fun v => v.category).sum 8 = true) (hsl : Nat.ble (slo [a1, a2, a3, a4, a5]).length nl = true) (hf : bnd z κ = some o) (h : ∀ r M1, z = some (r, M1) → κ r M1 = some o → Cal G d m' [a1, a2, a3, a4, a5] M (fun M' r => PW G (d + 1) m (pc + 3) ls (r.toList ++ st) M' 0 0 Q)) : PW G (d + 1) m pc ls (a5 :: a4 :: a3 :: a2 :: a1 :: st) M 0 0 Q := by
  subst hml; exact A_S (as := [a1, a2, a3, a4, a5]) hd hv rfl rfl hcat hsl hf h
/-- switches: the keys in order, where each goes -/
theorem swi_none {x : Int32} {l : List (Int32 × Option β)} {D : Option β} (h : ∀ q ∈ l, x ≠ q.1) : swi x l D = D := by
  induction l with
  | nil => rfl
  | cons q l ih =>
    obtain ⟨k, A⟩ := q
    rw [swi, if_neg (h (k, A) List.mem_cons_self)]
    exact ih (fun q hq => h q (List.mem_cons_of_mem _ hq))
theorem swi_case {x : Int32} {l : List (Int32 × Option β)} {D : Option β} (h : swi x l D = some o) : (∃ (i : Nat) (A : Option β), l[i]? = some (x, A) ∧ A = some o) ∨ ((∀ q ∈ l, x ≠ q.1) ∧ D = some o) := by
  induction l with
  | nil => exact Or.inr ⟨(fun q hq => by cases hq), h⟩
  | cons q l ih =>
    obtain ⟨k, A⟩ := q
    by_cases hx : x = k
    · subst hx
      rw [swi, if_pos rfl] at h
      exact Or.inl ⟨0, A, rfl, h⟩
    · rw [swi, if_neg hx] at h
      rcases ih h with ⟨i, A', h1, h2⟩ | ⟨h1, h2⟩
      · exact Or.inl ⟨i + 1, A', h1, h2⟩
      · refine Or.inr ⟨fun q hq => ?_, h2⟩
        rcases List.mem_cons.mp hq with rfl | hq
        · exact hx
        · exact h1 q hq
def tchk (pc : Nat) (dflt lo hi : Int) (offs : Array Int) (ks : List Int32) (ts : List Nat) (tD : Nat) : Bool :=
  decide (0 ≤ lo) && decide (lo < 1000) && decide (hi + 1 = lo + (ks.length : Int)) && decide (ts.length = ks.length) && decide ((pc : Int) + dflt = (tD : Int)) && (List.range ks.length).all (fun i => decide (ks[i]? = some (nI (lo.toNat + i))) && decide ((offs[i]?).map (fun z => (pc : Int) + z) = (ts[i]?).map (fun t => (t : Int)))) && decide (ks.length < 1000)
theorem A_tsw {dflt lo hi : Int} {offs : Array Int} {len : Nat} {x : Int32} {l : List (Int32 × Option β)} {D : Option β} (ks : List Int32) (ts : List Nat) (tD : Nat) (hd : decode (mC m) pc = .ok (.tableswitch dflt lo hi offs, len)) (hks : l.map (fun q => q.1) = ks) (hc : tchk pc dflt lo hi offs ks ts tD = true) (hf : swi x l D = some o) (hI : ∀ (i : Nat) (A : Option β) (t : Nat), l[i]? = some (x, A) → ts[i]? = some t → A = some o → PW G d m t ls st M 0 0 Q) (hD : D = some o → PW G d m tD ls st M 0 0 Q) : PW G d m pc ls (.int x :: st) M 0 0 Q := by
  simp only [tchk, Bool.and_eq_true, decide_eq_true_eq, List.all_eq_true, List.mem_range] at hc
  obtain ⟨⟨⟨⟨⟨⟨h0, h00⟩, h1⟩, h2⟩, h3⟩, h4⟩, h5⟩ := hc
  rcases swi_case hf with ⟨i, A, e1, e2⟩ | ⟨e1, e2⟩
  · have hil : i < ks.length := by rw [← hks, List.length_map]; exact (List.getElem?_eq_some_iff.mp e1).1
    obtain ⟨g1, g2⟩ := h4 i hil
    have hx : x = nI (lo.toNat + i) := by
      have : ks[i]? = some x := by rw [← hks, List.getElem?_map, e1]; rfl
      exact Option.some.inj (this.symm.trans g1)
    have hti : x.toInt = lo + (i : Int) := by rw [hx, nI_toInt (by omega)]; omega
    have ht : ∃ t, ts[i]? = some t := ⟨_, List.getElem?_eq_getElem (by omega)⟩
    obtain ⟨t, ht⟩ := ht
    rw [ht] at g2
    cases ho : offs[i]? with
    | none => rw [ho] at g2; cases g2
    | some off =>
      rw [ho] at g2
      exact P_tabIn hd (by omega) (by omega) (by rw [show (x.toInt - lo).toNat = i by omega]; exact ho) (Option.some.inj g2) (hI i A t e1 ht e2)
  · refine P_tabOut hd ?_ h3 (hD e2)
    rcases Int.lt_or_le x.toInt lo with q | q
    · exact Or.inl q
    · right
      rcases Int.lt_or_le hi x.toInt with q2 | q2
      · exact q2
      · exfalso
        have hn : (x.toInt - lo).toNat < ks.length := by omega
        obtain ⟨g1, -⟩ := h4 _ hn
        have : ks[(x.toInt - lo).toNat]? = (l[(x.toInt - lo).toNat]?).map (fun q => q.1) := by rw [← hks, List.getElem?_map]
        rw [this] at g1
        cases hl : l[(x.toInt - lo).toNat]? with
        | none => rw [hl] at g1; cases g1
        | some w =>
          rw [hl] at g1
          have h6 : w.1 = nI (lo.toNat + (x.toInt - lo).toNat) := Option.some.inj g1
          refine e1 w (List.mem_of_getElem? hl) ?_
          rw [h6]
          exact Int32.toInt_inj.mp (by rw [nI_toInt (by omega)]; omega)
def lchk (pc : Nat) (dflt : Int) (ps : List (Int × Int)) (ks : List Int32) (ts : List Nat) (tD : Nat) : Bool :=
  decide (ps.length = ks.length) && decide (ts.length = ks.length) && decide ((pc : Int) + dflt = (tD : Int)) && (List.range ks.length).all (fun i => decide ((ps[i]?).map (fun q => q.1) = (ks[i]?).map (fun k => k.toInt)) && decide ((ps[i]?).map (fun q => (pc : Int) + q.2) = (ts[i]?).map (fun t => (t : Int)))) && (ps.zip (ps.drop 1)).all (fun (a, next) => a.1 < next.1)
theorem lk_off {x : Int32} {dflt : Int} : ∀ (ps : List (Int × Int)) (i : Nat) (off : Int), (ps.zip (ps.drop 1)).all (fun (a, next) => a.1 < next.1) = true → ps[i]? = some (x.toInt, off) → Op.lookupswitch.offset ps dflt x.toInt = off := by
  intro ps
  induction ps with
  | nil => intro i off _ h; simp at h
  | cons p ps ih =>
    intro i off hs h
    obtain ⟨a, b⟩ := p
    have hs2 : (ps.zip (ps.drop 1)).all (fun (a, next) => a.1 < next.1) = true := by
      cases ps with
      | nil => rfl
      | cons p2 ps2 =>
        simp only [List.drop_one, List.tail_cons, List.zip_cons_cons, List.all_cons, Bool.and_eq_true] at hs
        exact hs.2
    cases i with
    | zero =>
      cases h
      simp [Op.lookupswitch.offset]
    | succ i =>
      have hlt : ∀ (ps : List (Int × Int)) (a : Int × Int) (i : Nat) (q : Int × Int), ((a :: ps).zip ((a :: ps).drop 1)).all (fun (a, next) => a.1 < next.1) = true → ps[i]? = some q → a.1 < q.1 := by
        intro ps
        induction ps with
        | nil => intro a i q _ h; simp at h
        | cons p2 ps2 ih2 =>
          intro a i q hs h
          simp only [List.drop_one, List.tail_cons, List.zip_cons_cons, List.all_cons, Bool.and_eq_true, decide_eq_true_eq] at hs
          cases i with
          | zero => cases h; exact hs.1
          | succ i =>
            have := ih2 p2 i q (by simpa using hs.2) h
            omega
      have h3 := hlt ps (a, b) i _ hs h
      have hne : ¬ a = x.toInt := by
        have : a < x.toInt := h3
        omega
      have := ih i off hs2 h
      simp only [Op.lookupswitch.offset] at this ⊢
      first | (rw [if_neg (by omega)]; exact this) | (simp [hne, this]) | (simp [Ne.symm hne, this])
theorem lk_def {x : Int32} {dflt : Int} : ∀ (ps : List (Int × Int)), (∀ q ∈ ps, q.1 ≠ x.toInt) → Op.lookupswitch.offset ps dflt x.toInt = dflt := by
  intro ps
  induction ps with
  | nil => intro _; simp [Op.lookupswitch.offset]
  | cons p ps ih =>
    intro h
    obtain ⟨a, b⟩ := p
    have hne : ¬ a = x.toInt := h (a, b) List.mem_cons_self
    have := ih (fun q hq => h q (List.mem_cons_of_mem _ hq))
    simp only [Op.lookupswitch.offset] at this ⊢
    first | (simp [hne, this]; done) | (simp [Ne.symm hne, this])
theorem A_lsw {dflt : Int} {ps : Array (Int × Int)} {len : Nat} {x : Int32} {l : List (Int32 × Option β)} {D : Option β} (ks : List Int32) (ts : List Nat) (tD : Nat) (hd : decode (mC m) pc = .ok (.lookupswitch dflt ps, len)) (hks : l.map (fun q => q.1) = ks) (hc : lchk pc dflt ps.toList ks ts tD = true) (hf : swi x l D = some o) (hI : ∀ (i : Nat) (A : Option β) (t : Nat), l[i]? = some (x, A) → ts[i]? = some t → A = some o → PW G d m t ls st M 0 0 Q) (hD : D = some o → PW G d m tD ls st M 0 0 Q) : PW G d m pc ls (.int x :: st) M 0 0 Q := by
  simp only [lchk, Bool.and_eq_true, decide_eq_true_eq, List.all_eq_true, List.mem_range] at hc
  obtain ⟨⟨⟨⟨h1, h2⟩, h3⟩, h4⟩, h5⟩ := hc
  have h5' : (ps.toList.zip (ps.toList.drop 1)).all (fun (a, next) => a.1 < next.1) = true := by
    rw [List.all_eq_true]; intro q hq; exact decide_eq_true (h5 q hq)
  rcases swi_case hf with ⟨i, A, e1, e2⟩ | ⟨e1, e2⟩
  · have hil : i < ks.length := by rw [← hks, List.length_map]; exact (List.getElem?_eq_some_iff.mp e1).1
    obtain ⟨g1, g2⟩ := h4 i hil
    have hki : ks[i]? = some x := by rw [← hks, List.getElem?_map, e1]; rfl
    obtain ⟨t, ht⟩ : ∃ t, ts[i]? = some t := ⟨_, List.getElem?_eq_getElem (by omega)⟩
    obtain ⟨q, hq⟩ : ∃ q, ps.toList[i]? = some q := ⟨_, List.getElem?_eq_getElem (by omega)⟩
    rw [hq, hki] at g1
    rw [hq, ht] at g2
    obtain ⟨a, off⟩ := q
    have ga : a = x.toInt := Option.some.inj g1
    subst ga
    exact P_lookup hd h5' (lk_off _ i off h5' hq) (Option.some.inj g2) (hI i A t e1 ht e2)
  · refine P_lookup hd h5' (lk_def _ (fun q hq => ?_)) h3 (hD e2)
    obtain ⟨i, hi⟩ := List.getElem?_of_mem hq
    have hil : i < ks.length := by rw [← h1]; exact (List.getElem?_eq_some_iff.mp hi).1
    obtain ⟨g1, -⟩ := h4 i hil
    rw [hi] at g1
    cases hl : l[i]? with
    | none =>
      have : ks[i]? = none := by rw [← hks, List.getElem?_map, hl]; rfl
      rw [this] at g1; cases g1
    | some w =>
      have : ks[i]? = some w.1 := by rw [← hks, List.getElem?_map, hl]; rfl
      rw [this] at g1
      have g3 : q.1 = w.1.toInt := Option.some.inj g1
      rw [g3]
      intro hz
      exact e1 w (List.mem_of_getElem? hl) (Int32.toInt_inj.mp hz.symm)
theorem A_max {idx : Nat} {own : String} {x y : Int32} (hd : decode (mC m) pc = .ok (.invokestatic idx, 3)) (hcn : (mN m).cls = own) (hl : Cond.methodLink own idx Lib.Math.max.name ∈ lw_tbl) (hcat : Nat.ble (st.map fun v => v.category).sum 8 = true) (h : PW G (d + 1) m (pc + 3) ls (.int (if x < y then y else x) :: st) M 0 0 Q) : PW G (d + 1) m pc ls (.int y :: .int x :: st) M 0 0 Q := by
  intro p e R s mid args below meth c H locs lsM X
  have hts := X.1.2.2.2.2.2.2.1
  have hs := X.1.2.2.2.2.2.2.2.2
  have hc8 := Nat.le_of_ble_eq_true hcat
  subst hcn
  exact va_mmax X.1.1 X.1.2.1 (X.1.2.2.1.trans X.2.2.2.2.1.symm) X.1.2.2.2.2.2.1 (hts _ hl rfl) (hts _ (by decide +kernel) rfl) (hts _ (by decide +kernel) rfl) (hts _ (by decide +kernel) rfl) (by have := X.2.1.1; omega) (by rw [cat_sum hs]; have := X.2.1.2.1; omega) (Nat.zero_le _) (Nat.zero_le _) hd (h p e R s mid args below meth c H locs lsM X)
theorem A_min {idx : Nat} {own : String} {x y : Int32} (hd : decode (mC m) pc = .ok (.invokestatic idx, 3)) (hcn : (mN m).cls = own) (hl : Cond.methodLink own idx Lib.Math.min.name ∈ lw_tbl) (hcat : Nat.ble (st.map fun v => v.category).sum 8 = true) (h : PW G (d + 1) m (pc + 3) ls (.int (if y < x then y else x) :: st) M 0 0 Q) : PW G (d + 1) m pc ls (.int y :: .int x :: st) M 0 0 Q := by
  intro p e R s mid args below meth c H locs lsM X
  have hts := X.1.2.2.2.2.2.2.1
  have hs := X.1.2.2.2.2.2.2.2.2
  have hc8 := Nat.le_of_ble_eq_true hcat
  subst hcn
  exact va_mmin X.1.1 X.1.2.1 (X.1.2.2.1.trans X.2.2.2.2.1.symm) X.1.2.2.2.2.2.1 (hts _ hl rfl) (hts _ (by decide +kernel) rfl) (hts _ (by decide +kernel) rfl) (hts _ (by decide +kernel) rfl) (by have := X.2.1.1; omega) (by rw [cat_sum hs]; have := X.2.1.2.1; omega) (Nat.zero_le _) (Nat.zero_le _) hd (h p e R s mid args below meth c H locs lsM X)
end AR
