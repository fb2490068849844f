/-! ORDERS: as lists, numbers, ranks, packed rows -/
def fac : Nat → Nat
  | 0 => 1
  | k + 1 => (k + 1) * fac k
def pmF : Nat → List Nat → List (List Nat)
  | 0, _ => [[]]
  | k + 1, l => l.flatMap (fun x => (pmF k (l.erase x)).map (x :: ·))
def pm (n : Nat) : List (List Nat) := pmF n (List.range' 1 n)
def num (l : List Nat) : Nat := l.foldl (fun k d => 10 * k + d) 0
def rk : List Nat → Nat
  | [] => 0
  | x :: r => lo x r * fac r.length + rk r
theorem mem_pmF {l : List Nat} : ∀ (k : Nat) (L : List Nat), L.length = k → (l ∈ pmF k L ↔ l.Perm L) := by
  intro k
  induction k generalizing l with
  | zero =>
    intro L h
    have := List.eq_nil_of_length_eq_zero h
    subst this
    simp [pmF]
  | succ k ih =>
    intro L h
    simp only [pmF, List.mem_flatMap, List.mem_map]
    constructor
    · rintro ⟨x, hx, p, hp, rfl⟩
      rw [List.cons_perm_iff_perm_erase]
      exact ⟨hx, (ih (L.erase x) (by rw [List.length_erase_of_mem hx]; omega)).mp hp⟩
    · intro hp
      cases l with
      | nil => have := hp.length_eq; simp [h] at this
      | cons x p =>
        rw [List.cons_perm_iff_perm_erase] at hp
        exact ⟨x, hp.1, p, (ih (L.erase x) (by rw [List.length_erase_of_mem hp.1]; omega)).mpr hp.2, rfl⟩
theorem mem_pm {n : Nat} {l : List Nat} : l ∈ pm n ↔ l.Perm (List.range' 1 n) := mem_pmF n _ (by simp)
theorem pm_len {n : Nat} {l : List Nat} (h : l ∈ pm n) : l.length = n := by
  have := (mem_pm.mp h).length_eq
  simpa using this
theorem pm_mem {n : Nat} {l : List Nat} (h : l ∈ pm n) {x : Nat} : x ∈ l ↔ 1 ≤ x ∧ x ≤ n := by
  rw [(mem_pm.mp h).mem_iff, List.mem_range'_1]
  omega
theorem pm_nd {n : Nat} {l : List Nat} (h : l ∈ pm n) : l.Nodup := (mem_pm.mp h).nodup_iff.mpr List.nodup_range'
theorem pm_rk : ∀ n, n < 6 → (pm n).map rk = List.range (fac n) := by decide +kernel
theorem pm_num : ∀ n, n < 6 → ((pm n).map num).Pairwise (· < ·) := by decide +kernel
theorem pm_fac : ∀ n, n < 6 → (pm n).length = fac n := by decide +kernel
theorem pm_le : ∀ n, n < 6 → ∀ l ∈ pm n, num l ≤ 54321 := by decide +kernel
theorem fac_le : ∀ n, n < 6 → 1 ≤ fac n ∧ fac n ≤ 120 := by decide
/-- the order of a rank -/
def ur (n r : Nat) : List Nat := (pm n).getD r []
theorem ur_mem {n r : Nat} (hn : n < 6) (hr : r < fac n) : ur n r ∈ pm n := by
  unfold ur
  rw [← pm_fac n hn] at hr
  rw [List.getD_eq_getElem?_getD, List.getElem?_eq_getElem hr]
  exact List.getElem_mem hr
theorem rk_ur {n r : Nat} (hn : n < 6) (hr : r < fac n) : rk (ur n r) = r := by
  have h := pm_rk n hn
  have h2 : ((pm n).map rk)[r]? = some r := by rw [h, List.getElem?_range hr]
  rw [List.getElem?_map] at h2
  obtain ⟨l, h3, h4⟩ := Option.map_eq_some_iff.mp h2
  unfold ur
  rw [List.getD_eq_getElem?_getD, h3]
  exact h4
theorem rk_lt {n : Nat} (hn : n < 6) {l : List Nat} (h : l ∈ pm n) : rk l < fac n := by
  have h2 := List.mem_map_of_mem (f := rk) h
  rw [pm_rk n hn] at h2
  exact List.mem_range.mp h2
theorem ur_rk {n : Nat} (hn : n < 6) {l : List Nat} (h : l ∈ pm n) : ur n (rk l) = l := by
  obtain ⟨i, hi, e⟩ := List.getElem_of_mem h
  have h1 : ((pm n).map rk)[i]? = some (rk l) := by rw [List.getElem?_map, List.getElem?_eq_getElem hi, e]; rfl
  rw [pm_rk n hn] at h1
  have h2 : i = rk l := by
    have h3 : i < fac n := by rw [← pm_fac n hn]; exact hi
    rw [List.getElem?_range h3] at h1
    exact Option.some.inj h1
  unfold ur
  rw [List.getD_eq_getElem?_getD, ← h2, List.getElem?_eq_getElem hi, e]
  rfl
theorem rk_inj {n : Nat} (hn : n < 6) {l k : List Nat} (h : l ∈ pm n) (g : k ∈ pm n) (e : rk l = rk k) : l = k := by
  rw [← ur_rk hn h, ← ur_rk hn g, e]
/-- digits, the highest first -/
def dgF : Nat → Nat → List Nat
  | 0, _ => []
  | f + 1, k => if k = 0 then [] else dgF f (k / 10) ++ [k % 10]
def dgl (k : Nat) : List Nat := dgF 10 k
theorem num_app (l : List Nat) (d : Nat) : num (l ++ [d]) = 10 * num l + d := by simp [num]
theorem num_dgF : ∀ (f k : Nat), k < 10 ^ f → num (dgF f k) = k := by
  intro f
  induction f with
  | zero => intro k h; simp at h; subst h; rfl
  | succ f ih =>
    intro k h
    rw [dgF]
    by_cases h0 : k = 0
    · rw [if_pos h0, h0]; rfl
    · rw [if_neg h0, num_app, ih]
      · omega
      · rw [Nat.pow_succ] at h; omega
theorem dgF_lt : ∀ (f k : Nat), ∀ d ∈ dgF f k, d < 10 := by
  intro f
  induction f with
  | zero => intro k d h; cases h
  | succ f ih =>
    intro k d h
    rw [dgF] at h
    split at h
    · cases h
    · rcases List.mem_append.mp h with h | h
      · exact ih _ _ h
      · rw [List.mem_singleton] at h; omega
theorem num_dgl {k : Nat} (h : k < 2147483648) : num (dgl k) = k := num_dgF 10 k (by omega)
theorem dgF_num : ∀ (f : Nat) (l : List Nat), (∀ d ∈ l, 1 ≤ d ∧ d < 10) → l.length ≤ f → dgF f (num l) = l := by
  intro f
  induction f with
  | zero =>
    intro l _ hf
    rw [List.eq_nil_of_length_eq_zero (Nat.le_zero.mp hf)]
    rfl
  | succ f ih =>
    intro l h hf
    rcases List.eq_nil_or_concat l with rfl | ⟨L, d, rfl⟩
    · rfl
    · rw [List.concat_eq_append] at *
      have hd := h d (by simp)
      rw [List.length_append] at hf
      rw [num_app, dgF, if_neg (by omega), show (10 * num L + d) / 10 = num L by omega, show (10 * num L + d) % 10 = d by omega, ih L (fun x hx => h x (by simp [hx])) (by simpa using hf)]
theorem dgl_num {n : Nat} (hn : n < 6) {l : List Nat} (h : l ∈ pm n) : dgl (num l) = l := dgF_num 10 l (fun d hd => by have := (pm_mem h).mp hd; omega) (by rw [pm_len h]; omega)
theorem num_inj {n k : Nat} (hn : n < 6) (hk : k < 6) {l m : List Nat} (h : l ∈ pm n) (g : m ∈ pm k) (e : num l = num m) : l = m := by
  rw [← dgl_num hn h, ← dgl_num hk g, e]
/-- the train that a number tells, none if it is none -/
def tn (x : Int32) : Option (List Nat) := if x.toInt < 0 then none else if dgl x.toNatClampNeg ∈ pm (dgl x.toNatClampNeg).length ∧ 1 ≤ (dgl x.toNatClampNeg).length ∧ (dgl x.toNatClampNeg).length ≤ 5 then some (dgl x.toNatClampNeg) else none
theorem tn_some {x : Int32} {l : List Nat} (h : tn x = some l) : ∃ n, 1 ≤ n ∧ n ≤ 5 ∧ l ∈ pm n ∧ x = iN (num l) ∧ num l ≤ 54321 ∧ l.length = n := by
  unfold tn at h
  split at h
  · cases h
  · rename_i h0
    split at h
    · rename_i h1
      cases h
      rcases i_cases x with ⟨k, hk, rfl⟩ | h2
      · rw [iN_nat hk] at *
        exact ⟨_, h1.2.1, h1.2.2, h1.1, by rw [num_dgl hk], pm_le _ (by omega) _ h1.1, rfl⟩
      · exact absurd h2 h0
    · cases h
theorem tn_num {n : Nat} (h1 : 1 ≤ n) (h5 : n ≤ 5) {l : List Nat} (h : l ∈ pm n) : tn (iN (num l)) = some l := by
  have h2 := pm_le n (by omega) l h
  unfold tn
  rw [iN_toInt (by omega), iN_nat (by omega), dgl_num (by omega) h, pm_len h, if_neg (by omega), if_pos ⟨h, h1, h5⟩]
/-- the place of a wagon in a train, from 1 on -/
def po (t : List Nat) (w : Nat) : Nat := t.idxOf w + 1
def rel (t o : List Nat) : List Nat := o.map (po t)
def up (n : Nat) : List Nat := List.range' 1 n
theorem po_inj {t : List Nat} {a b : Nat} (ha : a ∈ t) (hb : b ∈ t) (h : po t a = po t b) : a = b := by
  unfold po at h
  have h1 := List.getElem_idxOf (List.idxOf_lt_length_iff.mpr ha)
  have h2 := List.getElem_idxOf (List.idxOf_lt_length_iff.mpr hb)
  rw [← h1, ← h2]
  congr 1
  omega
theorem nd_perm : ∀ (l r : List Nat), l.Nodup → (∀ x ∈ l, x ∈ r) → r.length ≤ l.length → l.Perm r := by
  intro l
  induction l with
  | nil =>
    intro r _ _ h
    rw [List.eq_nil_of_length_eq_zero (Nat.le_zero.mp h)]
  | cons x t ih =>
    intro r h1 h2 h3
    have hx := h2 x List.mem_cons_self
    have h4 := List.nodup_cons.mp h1
    refine List.Perm.trans (List.Perm.cons x (ih (r.erase x) h4.2 (fun y hy => ?_) ?_)) (List.perm_cons_erase hx).symm
    · exact (List.mem_erase_of_ne (fun (e : y = x) => h4.1 (by rw [← e]; exact hy))).mpr (h2 y (List.mem_cons_of_mem _ hy))
    · rw [List.length_erase_of_mem hx]
      simp only [List.length_cons] at h3
      omega
theorem rel_mem {n : Nat} {t o : List Nat} (ht : t ∈ pm n) (ho : o ∈ pm n) : rel t o ∈ pm n := by
  rw [mem_pm]
  have hl : (rel t o).length = n := by simp [rel, pm_len ho]
  have hnd : (rel t o).Nodup := by
    unfold rel List.Nodup
    rw [List.pairwise_map]
    have := pm_nd ho
    unfold List.Nodup at this
    exact this.imp_of_mem (fun ha hb hne h => hne (po_inj ((pm_mem ht).mpr ((pm_mem ho).mp ha)) ((pm_mem ht).mpr ((pm_mem ho).mp hb)) h))
  have hs : ∀ x ∈ rel t o, x ∈ List.range' 1 n := by
    intro x hx
    obtain ⟨w, hw, rfl⟩ := List.mem_map.mp hx
    have h1 : w ∈ t := (pm_mem ht).mpr ((pm_mem ho).mp hw)
    have h2 := List.idxOf_lt_length_iff.mpr h1
    rw [pm_len ht] at h2
    rw [List.mem_range'_1]
    unfold po
    omega
  exact nd_perm _ _ hnd hs (by simp [hl])
theorem up_mem (n : Nat) : up n ∈ pm n := mem_pm.mpr (List.Perm.refl _)
/-- packed: three bits a wagon -/
def pk : List Nat → Nat
  | [] => 0
  | x :: r => x + 8 * pk r
theorem pk8_lt : ∀ (l : List Nat), (∀ d ∈ l, d < 8) → pk l < 8 ^ l.length := by
  intro l
  induction l with
  | nil => intro _; exact Nat.one_pos
  | cons x r ih =>
    intro h
    have h1 := ih (fun d hd => h d (List.mem_cons_of_mem _ hd))
    have h2 := h x List.mem_cons_self
    rw [pk, List.length_cons, Nat.pow_succ]
    omega
theorem pk_app : ∀ (l : List Nat) (w : Nat), pk (l ++ [w]) = pk l + w * 8 ^ l.length := by
  intro l
  induction l with
  | nil => intro w; simp [pk]
  | cons x r ih =>
    intro w
    rw [List.cons_append, pk, ih, pk, List.length_cons, Nat.pow_succ, Nat.mul_add, Nat.mul_comm (8 ^ r.length) 8, Nat.mul_left_comm]
    omega
theorem pk_inj : ∀ (l k : List Nat), (∀ d ∈ l, 1 ≤ d ∧ d < 8) → (∀ d ∈ k, 1 ≤ d ∧ d < 8) → pk l = pk k → l = k := by
  intro l
  induction l with
  | nil =>
    intro k _ hk h
    cases k with
    | nil => rfl
    | cons x r => have := hk x List.mem_cons_self; simp only [pk] at h; omega
  | cons x r ih =>
    intro k hl hk h
    have h1 := hl x List.mem_cons_self
    cases k with
    | nil => simp only [pk] at h; omega
    | cons y s =>
      have h2 := hk y List.mem_cons_self
      simp only [pk] at h
      rw [ih s (fun d hd => hl d (List.mem_cons_of_mem _ hd)) (fun d hd => hk d (List.mem_cons_of_mem _ hd)) (by omega), show x = y by omega]
/-- a wagon of a packed row -/
theorem pk_get : ∀ (l : List Nat), (∀ d ∈ l, d < 8) → ∀ i, pk l / 8 ^ i % 8 = l.getD i 0 := by
  intro l
  induction l with
  | nil => intro _ i; simp [pk]
  | cons x r ih =>
    intro h i
    have h2 := h x List.mem_cons_self
    cases i with
    | zero => simp only [pk, Nat.pow_zero, Nat.div_one, List.getD_cons_zero]; omega
    | succ i =>
      rw [pk, Nat.pow_succ, Nat.mul_comm (8 ^ i) 8, ← Nat.div_div_eq_div_mul, show (x + 8 * pk r) / 8 = pk r by omega, ih (fun d hd => h d (List.mem_cons_of_mem _ hd)), List.getD_cons_succ]
theorem pk_take : ∀ (l : List Nat), (∀ d ∈ l, d < 8) → ∀ i, pk l % 8 ^ i = pk (l.take i) := by
  intro l
  induction l with
  | nil => intro _ i; simp [pk]
  | cons x r ih =>
    intro h i
    have h2 := h x List.mem_cons_self
    cases i with
    | zero => simp [pk, Nat.mod_one]
    | succ i =>
      have := ih (fun d hd => h d (List.mem_cons_of_mem _ hd)) i
      rw [List.take_succ_cons, pk, pk, ← this, Nat.pow_succ, Nat.mul_comm (8 ^ i) 8, Nat.mod_mul, show (x + 8 * pk r) / 8 = pk r by omega, show (x + 8 * pk r) % 8 = x by omega]
theorem pk_drop : ∀ (l : List Nat), (∀ d ∈ l, d < 8) → ∀ i, pk l / 8 ^ i = pk (l.drop i) := by
  intro l
  induction l with
  | nil => intro _ i; simp [pk]
  | cons x r ih =>
    intro h i
    have h2 := h x List.mem_cons_self
    cases i with
    | zero => simp
    | succ i => rw [pk, Nat.pow_succ, Nat.mul_comm (8 ^ i) 8, ← Nat.div_div_eq_div_mul, show (x + 8 * pk r) / 8 = pk r by omega, ih (fun d hd => h d (List.mem_cons_of_mem _ hd)), List.drop_succ_cons]
