abbrev NV : Type := Int32 × Int32 × (Nat → Int32) × (Nat → Int32) × (Nat → Int32) × (Nat → Int64) × (Nat → Int64) × (Nat → Int32) × (Nat → Int64) × (Nat → Int32)
def nv0 : NV := (0, 0, fun _ => 0, fun _ => 0, fun _ => 0, fun _ => 0, fun _ => 0, fun _ => 0, fun _ => 0, fun _ => 0)
abbrev nC (cI cJ : ClassId) (a : Nat → Nat) (v : NV) : va_W := [((a 0), .inr (1, [.int (v.1), .int (v.2.1), .ref (a 1), .ref (a 2), .ref (a 3), .ref (a 4), .ref (a 5), .ref (a 6), .ref (a 7), .ref (a 8)])), ((a 1), .inl (cI, 60, .inl (v.2.2.1))), ((a 2), .inl (cI, 32, .inl (v.2.2.2.1))), ((a 3), .inl (cI, 60, .inl (v.2.2.2.2.1))), ((a 4), .inl (cJ, 60, .inr (.inl (v.2.2.2.2.2.1)))), ((a 5), .inl (cJ, 60, .inr (.inl (v.2.2.2.2.2.2.1)))), ((a 6), .inl (cI, 60, .inl (v.2.2.2.2.2.2.2.1))), ((a 7), .inl (cJ, 60, .inr (.inl (v.2.2.2.2.2.2.2.2.1)))), ((a 8), .inl (cI, 60, .inl (v.2.2.2.2.2.2.2.2.2)))]
def kb (cI cJ : ClassId) (ka : Nat → Nat → Nat) (kv : Nat → NV) (ix : List Nat) : va_W := ix.flatMap (fun i => nC cI cJ (ka i) (kv i))
def kf (ka : Nat → Nat → Nat) (n : Nat) : Nat → Option Nat := fun j => if j < n then some (ka j 0) else none
theorem fm_congr {α β : Type} {l : List α} {f g : α → List β} (h : ∀ i, i ∈ l → f i = g i) : l.flatMap f = l.flatMap g := by
  induction l with
  | nil => rfl
  | cons a l ih =>
    rw [List.flatMap_cons, List.flatMap_cons, h a List.mem_cons_self, ih (fun i hi => h i (List.mem_cons_of_mem _ hi))]
theorem kb_push (cI cJ : ClassId) (ka : Nat → Nat → Nat) (kv : Nat → NV) (n : Nat) (a : Nat → Nat) (v : NV) : kb cI cJ ka kv (List.range n) ++ nC cI cJ a v = kb cI cJ (va_up ka n a) (va_up kv n v) (List.range (n + 1)) := by
  unfold kb
  rw [List.range_succ, List.flatMap_append]
  have e : (List.range n).flatMap (fun i => nC cI cJ (ka i) (kv i)) = (List.range n).flatMap (fun i => nC cI cJ (va_up ka n a i) (va_up kv n v i)) := by
    apply fm_congr
    intro i hi
    have h : i < n := List.mem_range.mp hi
    rw [va_up_ne _ _ (show i ≠ n by omega), va_up_ne _ _ (show i ≠ n by omega)]
  rw [e]
  simp [va_up_self]
theorem kf_push (ka : Nat → Nat → Nat) (n : Nat) (a : Nat → Nat) : va_up (kf ka n) n (some (a 0)) = kf (va_up ka n a) (n + 1) := by
  funext j
  unfold kf va_up
  by_cases h : j = n
  · subst h; simp
  · by_cases h2 : j < n
    · have : j < n + 1 := by omega
      simp [h, h2, this]
    · have : ¬ j < n + 1 := by omega
      simp [h, h2, this]
/-- worlds by their members -/
theorem wP_of {D : va_G} {cl : List vw_C} {ws ws' : va_W} {H : Heap} (h : va_P D cl ws H) (hm : ∀ q, q ∈ ws' → q ∈ ws) : va_P D cl ws' H := fun k q hk => by
  obtain ⟨i, hi⟩ := List.getElem?_of_mem (hm q (List.mem_of_getElem? hk))
  exact h i q hi
theorem wD_iff {A : Nat → Prop} {ws : va_W} : va_D A ws ↔ ((ws.map (fun q => q.1)).Nodup ∧ ∀ q ∈ ws, A q.1) := by
  constructor
  · intro h
    refine ⟨?_, fun q hq => ?_⟩
    · unfold List.Nodup
      rw [List.pairwise_iff_getElem]
      intro i j hi hj hij e
      rw [List.getElem_map, List.getElem_map] at e
      rw [List.length_map] at hi hj
      have := h.1 i j _ _ (List.getElem?_eq_getElem hi) (List.getElem?_eq_getElem hj) e
      omega
    · obtain ⟨i, hi⟩ := List.getElem?_of_mem hq
      exact h.2 i q hi
  · intro ⟨h1, h2⟩
    refine ⟨fun i j p q hp hq e => ?_, fun k q hk => h2 q (List.mem_of_getElem? hk)⟩
    unfold List.Nodup at h1
    rw [List.pairwise_iff_getElem] at h1
    obtain ⟨li, ei⟩ := List.getElem?_eq_some_iff.mp hp
    obtain ⟨lj, ej⟩ := List.getElem?_eq_some_iff.mp hq
    rcases Nat.lt_trichotomy i j with h | h | h
    · refine absurd ?_ (h1 i j (by rw [List.length_map]; exact li) (by rw [List.length_map]; exact lj) h)
      rw [List.getElem_map, List.getElem_map, ei, ej]
      exact e
    · exact h
    · refine absurd ?_ (h1 j i (by rw [List.length_map]; exact lj) (by rw [List.length_map]; exact li) h)
      rw [List.getElem_map, List.getElem_map, ei, ej]
      exact e.symm
theorem wD_perm {A : Nat → Prop} {ws ws' : va_W} (h : va_D A ws) (hp : ws.Perm ws') : va_D A ws' := by
  rw [wD_iff] at h ⊢
  exact ⟨(hp.map _).nodup_iff.mp h.1, fun q hq => h.2 q (hp.mem_iff.mpr hq)⟩
theorem wP_perm {D : va_G} {cl : List vw_C} {ws ws' : va_W} {H : Heap} (h : va_P D cl ws H) (hp : ws.Perm ws') : va_P D cl ws' H := wP_of h (fun _ hq => hp.mem_iff.mpr hq)
theorem kb_out (cI cJ : ClassId) (ka : Nat → Nat → Nat) (kv : Nat → NV) (X : va_W) {ix : List Nat} {i : Nat} (h : i ∈ ix) : (X ++ kb cI cJ ka kv ix).Perm ((X ++ nC cI cJ (ka i) (kv i)) ++ kb cI cJ ka kv (ix.erase i)) := by
  rw [List.append_assoc]
  refine List.Perm.append_left X ?_
  have := List.Perm.flatMap_right (fun i => nC cI cJ (ka i) (kv i)) (List.perm_cons_erase h)
  exact this
theorem kb_same {cI cJ : ClassId} {ka : Nat → Nat → Nat} {kv kv' : Nat → NV} {ix : List Nat} (h : ∀ i, i ∈ ix → kv i = kv' i) : kb cI cJ ka kv ix = kb cI cJ ka kv' ix := by
  unfold kb
  apply fm_congr
  intro i hi
  rw [h i hi]
theorem kb_in (cI cJ : ClassId) (ka : Nat → Nat → Nat) (kv : Nat → NV) (X : va_W) {n i : Nat} (h : i < n) (v : NV) : ((X ++ nC cI cJ (ka i) v) ++ kb cI cJ ka kv ((List.range n).erase i)).Perm (X ++ kb cI cJ ka (va_up kv i v) (List.range n)) := by
  refine List.Perm.symm ?_
  have h1 := kb_out cI cJ ka (va_up kv i v) X (List.mem_range.mpr h)
  rw [va_up_self] at h1
  refine h1.trans (List.Perm.of_eq ?_)
  rw [kb_same (kv := va_up kv i v) (kv' := kv) (fun j hj => va_up_ne _ _ (fun e => by
    subst e
    exact absurd hj (List.Nodup.not_mem_erase (List.nodup_range))))]
