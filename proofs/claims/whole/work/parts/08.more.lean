/-! encodings of answers; joins; switches -/
def fs_eV (_ : Unit) : Option Value ⊕ String := .inl none
def fs_eI (v : Int32) : Option Value ⊕ String := .inl (some (.int v))
def fs_eJ (v : Int64) : Option Value ⊕ String := .inl (some (.long v))
def fs_eR (v : Nat) : Option Value ⊕ String := .inl (some (.ref v))
def fs_qV (r : Unit ⊕ String) : Option Value ⊕ String := match r with
  | .inl _ => .inl none
  | .inr e => .inr e
def fs_qI (r : Int32 ⊕ String) : Option Value ⊕ String := match r with
  | .inl v => .inl (some (.int v))
  | .inr e => .inr e
def fs_qJ (r : Int64 ⊕ String) : Option Value ⊕ String := match r with
  | .inl v => .inl (some (.long v))
  | .inr e => .inr e
def fs_qR (r : Nat ⊕ String) : Option Value ⊕ String := match r with
  | .inl v => .inl (some (.ref v))
  | .inr e => .inr e
theorem fs_hR {fr lo : Nat} {σ σF : fs_S} (h : fs_le σ σF) : fs_n σF ≤ fs_n σ + (fs_rm fr lo σ σF).cells ∧ fs_u σF ≤ fs_u σ + (fs_rm fr lo σ σF).slots := by
  have h1 := h.1
  have h2 := h.2
  constructor
  · show fs_n σF ≤ fs_n σ + (fs_n σF - fs_n σ)
    omega
  · show fs_u σF ≤ fs_u σ + (fs_u σF - fs_u σ)
    omega
theorem fs_tout {x : Int32} (hi : Nat) (h : ∀ k, k < hi + 1 → ¬ x = nI k) (hh : hi < 2 ^ 30) : x.toInt < 0 ∨ (hi : Int) < x.toInt := by
  by_cases h0 : x.toInt < 0
  · exact Or.inl h0
  · refine Or.inr ?_
    by_cases h1 : (hi : Int) < x.toInt
    · exact h1
    · exfalso
      have hk : x.toInt.toNat < hi + 1 := by omega
      refine h x.toInt.toNat hk (Int32.toInt_inj.mp ?_)
      rw [nI_toInt (by omega)]
      omega
section FSM
variable {X : fs_X} {p : Program} {l : Launch} {e : Env} {R : Room} {s : State} {m : MethodId} {args : Array Value} {below : List Frame} {meth : Method} {c : Code} {Q : State → Prop} {α β : Type} {rF : α} {σ0 σF : fs_S}
variable {cc : ByteArray} {nL : Nat} {own ref C : String} {T : u_T} {N ci index a pc pj : Nat} {ls : Array Slot} {rest : List Value}
theorem fs_Jeq {t : fs_T α} {g g2 : JFrame} (h : g = g2) (k : fs_J X p l e R s m args below meth c Q rF σ0 σF t g2) : fs_J X p l e R s m args below meth c Q rF σ0 σF t g := h ▸ k
theorem fs_Jlet1 {A1 : Type} {f : A1 → fs_T α} {kk : (A1 → fs_T α) → fs_T α} {I : A1 → List (Nat × Value)} {st : A1 → List Value} {g : JFrame} (h : ∀ v ls, lv_has ls nL (I v) → fs_J X p l e R s m args below meth c Q rF σ0 σF (f v) (F0 m pj ls (st v)))
    (k : ∀ f : A1 → fs_T α, (∀ v ls, lv_has ls nL (I v) → fs_J X p l e R s m args below meth c Q rF σ0 σF (f v) (F0 m pj ls (st v))) → fs_J X p l e R s m args below meth c Q rF σ0 σF (kk f) g) : fs_J X p l e R s m args below meth c Q rF σ0 σF (fs_let f kk) g := k f h
theorem fs_Jlet2 {A1 A2 : Type} {f : A1 → A2 → fs_T α} {kk : (A1 → A2 → fs_T α) → fs_T α} {I : A1 → A2 → List (Nat × Value)} {st : A1 → A2 → List Value} {g : JFrame} (h : ∀ v w ls, lv_has ls nL (I v w) → fs_J X p l e R s m args below meth c Q rF σ0 σF (f v w) (F0 m pj ls (st v w)))
    (k : ∀ f : A1 → A2 → fs_T α, (∀ v w ls, lv_has ls nL (I v w) → fs_J X p l e R s m args below meth c Q rF σ0 σF (f v w) (F0 m pj ls (st v w))) → fs_J X p l e R s m args below meth c Q rF σ0 σF (kk f) g) : fs_J X p l e R s m args below meth c Q rF σ0 σF (fs_let f kk) g := k f h
theorem fs_Jlet3 {A1 A2 A3 : Type} {f : A1 → A2 → A3 → fs_T α} {kk : (A1 → A2 → A3 → fs_T α) → fs_T α} {I : A1 → A2 → A3 → List (Nat × Value)} {st : A1 → A2 → A3 → List Value} {g : JFrame} (h : ∀ v w u ls, lv_has ls nL (I v w u) → fs_J X p l e R s m args below meth c Q rF σ0 σF (f v w u) (F0 m pj ls (st v w u)))
    (k : ∀ f : A1 → A2 → A3 → fs_T α, (∀ v w u ls, lv_has ls nL (I v w u) → fs_J X p l e R s m args below meth c Q rF σ0 σF (f v w u) (F0 m pj ls (st v w u))) → fs_J X p l e R s m args below meth c Q rF σ0 σF (kk f) g) : fs_J X p l e R s m args below meth c Q rF σ0 σF (fs_let f kk) g := k f h
theorem fs_Jrem (S : CallFix p m c cc nL s args fs_ws own) {x y : Int32} (hdg : decode cc pc = .ok (.irem, 1)) {kk : Int32 → fs_T α} (K : ∀ v, fs_J X p l e R s m args below meth c Q rF σ0 σF (kk v) (F0 m (pc + 1) ls (.int v :: rest))) : fs_J X p l e R s m args below meth c Q rF σ0 σF (fs_bind (fs_rem x y) kk) (F0 m pc ls (.int y :: .int x :: rest)) := by
  intro σ H locs cells slots h hw hS h4 h5
  obtain ⟨v, σ1, h1, h2⟩ := fs_bdT h
  unfold fs_rem at h1
  by_cases q : y = 0
  · rw [if_pos q] at h1
    cases h1
  · rw [if_neg q] at h1
    cases h1
    exact lv_irem S.1 S.2.1 hdg q (K _ σ H locs cells slots h2 hw hS h4 h5)
end FSM
