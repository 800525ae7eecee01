/-! the words of the throws -/
def fs_tkb (w : Cond) : Bool := (decide (w ∈ lw_tbl) && (goodWord w || (match w with
    | .castable _ _ => true
    | .declares _ => true
    | .laysStatic _ _ _ => true
    | _ => false))) || decide (w = .isRef (.static Bundle.tN "UNASSIGNED_STACK" Bundle.steD)) || decide (w = .isRef (.static Bundle.tN "SUPPRESSED_SENTINEL" Bundle.listD))
theorem fs_tk_of {w : Cond} (h : fs_tkb w = true) : fs_tk w := by
  unfold fs_tkb at h
  rw [Bool.or_eq_true, Bool.or_eq_true, Bool.and_eq_true, Bool.or_eq_true] at h
  rcases h with (⟨h1, h2⟩ | h) | h
  · refine Or.inl ⟨of_decide_eq_true h1, ?_⟩
    rcases h2 with h2 | h2
    · exact Or.inl h2
    · cases w <;> first | (exact Or.inr (Or.inl ⟨_, _, rfl⟩)) | (exact Or.inr (Or.inr (Or.inl ⟨_, rfl⟩))) | (exact Or.inr (Or.inr (Or.inr ⟨_, _, _, rfl⟩))) | cases h2
  · exact Or.inr (Or.inl (of_decide_eq_true h))
  · exact Or.inr (Or.inr (of_decide_eq_true h))
def fs_nms : List String := ["java/lang/RuntimeException", "java/lang/Exception"]
theorem fs_all {L : List Cond} (h : L.all fs_tkb = true) : ∀ w ∈ L, fs_tk w := fun w hw => fs_tk_of (List.all_eq_true.mp h w hw)
theorem fs_fit : ∀ n ∈ fs_nms, Bundle.fit n = true := by decide +kernel
theorem fs_at1 : ∀ w ∈ Bundle.ownAtoms "FlowShelf" 47 "java/lang/IllegalArgumentException" fs_nms, fs_tk w := fs_all (by decide +kernel)
theorem fs_at2 : ∀ w ∈ Bundle.ownAtoms "FlowShelf" 60 "java/lang/IllegalStateException" fs_nms, fs_tk w := fs_all (by decide +kernel)
theorem fs_at3 : ∀ w ∈ Bundle.ownAtoms "FlowShelf" 95 "java/lang/IndexOutOfBoundsException" fs_nms, fs_tk w := fs_all (by decide +kernel)
theorem fs_at4 : ∀ w ∈ Bundle.ownAtoms "FlowShelf$Collector" 63 "java/lang/UnsupportedOperationException" fs_nms, fs_tk w := fs_all (by decide +kernel)
theorem fs_at5 : ∀ w ∈ Bundle.ownAtoms "FlowShelf$Collector" 127 "java/lang/IllegalArgumentException" fs_nms, fs_tk w := fs_all (by decide +kernel)
theorem fs_nc1 {X : fs_X} {U : State} (hG : fs_G X U) : va_Nc "java/lang/IllegalStateException" "java/lang/IllegalArgumentException" U := by
  obtain ⟨⟨⟨b, -, hn⟩, -⟩, hW, -⟩ := hG
  exact va_Nc.moved hW.alike (va_Nc.of (flat_of_before _ hn _ (by decide +kernel)))
theorem fs_nc2 {X : fs_X} {U : State} (hG : fs_G X U) : va_Nc "java/lang/IndexOutOfBoundsException" "java/lang/IllegalArgumentException" U := by
  obtain ⟨⟨⟨b, -, hn⟩, -⟩, hW, -⟩ := hG
  exact va_Nc.moved hW.alike (va_Nc.of (flat_of_before _ hn _ (by decide +kernel)))
theorem fs_nc3 {X : fs_X} {U : State} (hG : fs_G X U) : va_Nc "java/lang/IllegalArgumentException" "java/lang/IndexOutOfBoundsException" U := by
  obtain ⟨⟨⟨b, -, hn⟩, -⟩, hW, -⟩ := hG
  exact va_Nc.moved hW.alike (va_Nc.of (flat_of_before _ hn _ (by decide +kernel)))
theorem fs_nc4 {X : fs_X} {U : State} (hG : fs_G X U) : va_Nc "java/lang/UnsupportedOperationException" "java/lang/IndexOutOfBoundsException" U := by
  obtain ⟨⟨⟨b, -, hn⟩, -⟩, hW, -⟩ := hG
  exact va_Nc.moved hW.alike (va_Nc.of (flat_of_before _ hn _ (by decide +kernel)))
theorem fs_nc5 {X : fs_X} {U : State} (hG : fs_G X U) : va_Nc "java/lang/UnsupportedOperationException" "java/lang/IllegalArgumentException" U := by
  obtain ⟨⟨⟨b, -, hn⟩, -⟩, hW, -⟩ := hG
  exact va_Nc.moved hW.alike (va_Nc.of (flat_of_before _ hn _ (by decide +kernel)))
