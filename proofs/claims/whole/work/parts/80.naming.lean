/-! turn -/
def tnF (N T : Nat → Int32) (d : Nat) : Nat → Nat → Nat → Int32
  | 0, _, _ => 10
  | m + 1, i, e => if e + qi (T i) ≤ d then tnF N T d m (i + 1) (e + qi (T i)) else N i
theorem tnF_s {N T : Nat → Int32} {d n i e : Nat} (h : i < n) : tnF N T d (n - i) i e = if e + qi (T i) ≤ d then tnF N T d (n - (i + 1)) (i + 1) (e + qi (T i)) else N i := by
  rw [show n - i = (n - (i + 1)) + 1 by omega]
  rfl
theorem turn_c {f : Nat} {σ : qMem} {p d v m : Nat} (hp : p < 12) (hm : σ 69 p = nI m) (hm2 : m ≤ 4) (ht : ∀ i, i < m → ∃ t : Nat, t ≤ 400 ∧ σ (84 + p) i = nI t) (hv : v ≤ d) (hd : d ≤ 9999) (hf : 100 < f) : qfix2 (p_Namings_whoNames_l34 f σ (nI p) (nI d)) f (nI v) 0 = some (tnF (σ (71 + p)) (σ (84 + p)) d m 0 v) := by
  have hqp := qin_nI (k := p) (n := 12) hp (by omega)
  have hqip : qi (nI p) = p := qi_nI (by omega)
  have key := wf2 (F := p_Namings_whoNames_l34 f σ (nI p) (nI d)) (fun a z => ∃ i e : Nat, i ≤ m ∧ z = nI i ∧ a = nI e ∧ e ≤ d ∧ tnF (σ (71 + p)) (σ (84 + p)) d (m - i) i e = tnF (σ (71 + p)) (σ (84 + p)) d m 0 v) (fun _ z => 100 - qi z) (fun _ _ r => r = tnF (σ (71 + p)) (σ (84 + p)) d m 0 v) ?_ f (nI v) 0 ⟨0, v, by omega, rfl, rfl, hv, rfl⟩ (by show 100 - _ < f; omega)
  · obtain ⟨r, e, rfl⟩ := key
    exact e
  · rintro k a z ⟨i, e, hi, rfl, rfl, he, hV⟩ ih
    unfold p_Namings_whoNames_l34
    rw [if_pos hqp, hqip, hm]
    by_cases c : i = m
    · subst c
      rw [if_pos (nI_le (Nat.le_refl _) (by omega))]
      refine ⟨_, rfl, ?_⟩
      rw [← hV, Nat.sub_self]
      rfl
    · have him : i < m := by omega
      obtain ⟨t, ht4, et⟩ := ht i him
      have hqi : qi (nI i) = i := qi_nI (by omega)
      have hq4 := qin_nI (k := i) (n := 4) (by omega) (by omega)
      rw [if_neg (nI_ge him (by omega)), if_pos hqp, if_pos hq4, if_pos hqp, if_pos hq4, hqi, et, nI_add, nI_1]
      rw [tnF_s him, et, qi_nI (by omega)] at hV
      by_cases c2 : e + t ≤ d
      · rw [if_pos (nI_le c2 (by omega))]
        rw [if_pos c2] at hV
        exact ih _ _ ⟨i + 1, e + t, by omega, rfl, rfl, c2, hV⟩ (by rw [qi_nI (by omega), qi_nI (by omega)]; omega)
      · rw [if_neg (nI_ge (by omega) (by omega))]
        rw [if_neg c2] at hV
        exact ⟨_, rfl, hV⟩
theorem ix8 {p i : Nat} : ((8 : Int32) * nI p) + 2 * nI i = nI (8 * p + 2 * i) := by
  rw [show (8 : Int32) = nI 8 from rfl, show (2 : Int32) = nI 2 from rfl, nI_mul, nI_mul, nI_add]
theorem turn_m {f : Nat} {σ : qMem} {p d v m : Nat} {N T : Nat → Int32} (hp : p < 12) (hm : σ 134 p = nI m) (hm2 : m ≤ 4) (hN : ∀ i, i < 4 → N i = σ 135 (8 * p + 2 * i) ∧ T i = σ 135 (8 * p + 2 * i + 1)) (ht : ∀ i, i < m → ∃ t : Nat, t ≤ 400 ∧ T i = nI t) (hv : v ≤ d) (hd : d ≤ 9999) (hf : 100 < f) : qfix2 (p_M_turn_l59 f σ (nI p)) f (nI d - nI v) 0 = some (tnF N T d m 0 v, σ) := by
  have hqp := qin_nI (k := p) (n := 12) hp (by omega)
  have hqip : qi (nI p) = p := qi_nI (by omega)
  have key := wf2 (F := p_M_turn_l59 f σ (nI p)) (fun a z => ∃ i e : Nat, i ≤ m ∧ z = nI i ∧ a = nI (d - e) ∧ e ≤ d ∧ tnF N T d (m - i) i e = tnF N T d m 0 v) (fun _ z => 100 - qi z) (fun _ _ r => r = (tnF N T d m 0 v, σ)) ?_ f (nI d - nI v) 0 ⟨0, v, by omega, rfl, by rw [pk_sub hv], hv, rfl⟩ (by show 100 - _ < f; omega)
  · obtain ⟨r, e, rfl⟩ := key
    exact e
  · rintro k a z ⟨i, e, hi, rfl, rfl, he, hV⟩ ih
    unfold p_M_turn_l59
    rw [if_pos hqp, hqip, hm]
    by_cases c : i = m
    · subst c
      rw [if_pos (nI_le (Nat.le_refl _) (by omega))]
      refine ⟨_, rfl, ?_⟩
      rw [← hV, Nat.sub_self]
      rfl
    · have him : i < m := by omega
      obtain ⟨t, ht4, et⟩ := ht i him
      obtain ⟨n1, n2⟩ := hN i (by omega)
      rw [if_neg (nI_ge him (by omega)), ix8, nI_1, if_pos (qin_nI (by omega) (by omega)), if_pos (qin_nI (by omega) (by omega)), qi_nI (by omega), qi_nI (by omega), ← n1, ← n2, et, nI_1]
      rw [tnF_s him, et, qi_nI (by omega)] at hV
      by_cases c2 : e + t ≤ d
      · rw [pk_sub (show t ≤ d - e by omega), if_pos (nI_pos' (by omega))]
        rw [if_pos c2] at hV
        exact ih _ _ ⟨i + 1, e + t, by omega, rfl, by rw [Nat.sub_sub], c2, hV⟩ (by rw [qi_nI (by omega), qi_nI (by omega)]; omega)
      · have hneg : ¬ 0 ≤ nI (d - e) - nI t := by
          rw [i32_le, pk_sub_toInt (by omega) (by omega)]
          have h0 : (0 : Int32).toInt = 0 := rfl
          omega
        rw [if_neg hneg]
        rw [if_neg c2] at hV
        exact ⟨_, rfl, by rw [hV]⟩
theorem turn_ok {f : Nat} {σ : qMem} (h : Inv σ) (hf : 100 < f) (x y : Int32) : PairR (p_C_turn f σ x y) (p_M_turn f σ x y) := by
  obtain ⟨a1, a2, n, hn, e13, hrow⟩ := h.na
  have e5 := h.np hn e13
  by_cases c1 : rg x 0 ((n : Int) - 1)
  · by_cases c2 : rg y 0 9999
    · obtain ⟨p, hp, rfl⟩ := rg_p c1 (by omega)
      obtain ⟨d, hd, rfl⟩ := rg_nat (b := 9999) c2
      have hqp := qin_nI (k := p) (n := 12) (by omega) (by omega)
      have hqip : qi (nI p) = p := qi_nI (by omega)
      obtain ⟨r1, r2, m, hm, em, ht⟩ := hrow p (by omega)
      have k133 : (qmu σ 104 0 0) 133 p = σ 68 p := by rw [mu_k (by decide), r1 hp]
      have hcl : p_C_turn f σ (nI p) (nI d) = p_Namings_whoNames f σ (nI p) (nI d) := by
        unfold p_C_turn
        rw [hasL e13 hn, Option.bind_some, if_pos c1, if_neg bad_ne, noDayL, Option.bind_some, if_pos c2, if_pos rfl]
        cases p_Namings_whoNames f σ (nI p) (nI d) <;> rfl
      have hmo : p_M_turn f σ (nI p) (nI d) = if σ 68 p = -1000000 then some (-1000000, qmu σ 104 0 0) else if σ 68 p ≤ nI d then qfix2 (p_M_turn_l59 f (qmu σ 104 0 0) (nI p)) f (nI d - σ 68 p) 0 else some (-1000000, qmu σ 104 0 0) := by
        unfold p_M_turn
        rw [isPL (thr_pr e5) hn, Option.bind_some, if_pos c1, if_neg bad_ne, isDayL, Option.bind_some, if_pos c2, if_neg bad_ne, if_pos hqp, if_pos hqp, if_pos hqp, hqip, k133]
      rw [hcl, hmo]
      unfold p_Namings_whoNames
      rw [if_pos hqp, if_pos hqp, if_pos hqp, hqip]
      rcases r2 with ⟨v, -, hv9, ev⟩ | ev
      · rw [ev, if_neg (nI_nn (by omega)), if_neg (nI_nn (by omega))]
        by_cases c3 : v ≤ d
        · rw [if_pos (nI_le c3 (by omega)), if_pos (nI_le c3 (by omega)), turn_c (show p < 12 by omega) em hm ht c3 hd hf, turn_m (N := σ (71 + p)) (T := σ (84 + p)) (show p < 12 by omega) (by rw [mu_k (by decide), ← a1]; exact em) hm (fun i hi => by rw [mu_k (by decide), mu_k (by decide)]; exact a2 p i (by omega) hi) ht c3 hd hf]
          exact badR h rfl rfl
        · rw [if_neg (nI_ge (by omega) (by omega)), if_neg (nI_ge (by omega) (by omega))]
          exact badR h rfl rfl
      · rw [if_pos ev, if_pos ev]
        exact badR h rfl rfl
    · refine badR (r := -1000001) h ?_ ?_
      · simp [p_C_turn, hasL e13 hn, c1, noDayL, c2]
      · simp [p_M_turn, isPL (thr_pr e5) hn, c1, isDayL, c2]
  · refine badR (r := -1000001) h ?_ ?_
    · simp [p_C_turn, hasL e13 hn, c1]
    · simp [p_M_turn, isPL (thr_pr e5) hn, c1]
/-! vacant -/
def okV (g : Nat → Int32) (b k : Nat) : Prop := rg (g (b + 2 * k)) 0 9 ∧ rg (g (b + 2 * k + 1)) 1 400
def vcM (σ : qMem) (g : Nat → Int32) (b p : Nat) (y : Int32) (k : Nat) : qMem := fun a c => if a = 71 + p ∧ c < k then g (b + 2 * c) else if a = 84 + p ∧ c < k then g (b + 2 * c + 1) else if a = 69 ∧ c = p then nI k else if a = 68 ∧ c = p then y else σ a c
def vmM (τ : qMem) (b p k : Nat) : qMem := fun a c => if a = 135 ∧ 8 * p ≤ c ∧ c < 8 * p + k then τ 107 (b + (c - 8 * p)) else τ a c
theorem vc_0 {σ : qMem} {g : Nat → Int32} {b p : Nat} {y : Int32} : qmu (qmu σ 68 p y) 69 p 0 = vcM σ g b p y 0 := by
  funext a c
  unfold vcM
  rw [if_neg (by omega), if_neg (by omega)]
  unfold qmu
  by_cases c1 : a = 69 ∧ c = p
  · rw [if_pos c1, if_pos c1]; rfl
  · rw [if_neg c1, if_neg c1]
theorem vc_s {σ : qMem} {g : Nat → Int32} {b p k : Nat} {y : Int32} (hp : p < 12) : qmu (qmu (qmu (vcM σ g b p y k) (71 + p) k (g (b + 2 * k))) (84 + p) k (g (b + 2 * k + 1))) 69 p (nI (k + 1)) = vcM σ g b p y (k + 1) := by
  funext a c
  unfold qmu vcM
  by_cases c1 : a = 69 ∧ c = p
  · rw [if_pos c1, if_neg (by omega), if_neg (by omega), if_pos c1]
  · rw [if_neg c1]
    by_cases c2 : a = 84 + p ∧ c = k
    · rw [if_pos c2, if_neg (by omega), if_pos (by omega), c2.2]
    · rw [if_neg c2]
      by_cases c3 : a = 71 + p ∧ c = k
      · rw [if_pos c3, if_pos (by omega), c3.2]
      · rw [if_neg c3]
        by_cases c4 : a = 71 + p ∧ c < k
        · rw [if_pos c4, if_pos (by omega)]
        · rw [if_neg c4, if_neg (show ¬ (a = 71 + p ∧ c < k + 1) by omega)]
          by_cases c5 : a = 84 + p ∧ c < k
          · rw [if_pos c5, if_pos (by omega)]
          · rw [if_neg c5, if_neg (show ¬ (a = 84 + p ∧ c < k + 1) by omega), if_neg c1, if_neg c1]
theorem addP_c {f : Nat} {σ : qMem} {p k : Nat} {x y : Int32} (hp : p < 12) (hk : σ 69 p = nI k) (hk4 : k < 4) : p_Namings_addPatron f σ (nI p) x y = some (qmu (qmu (qmu σ (71 + p) k x) (84 + p) k y) 69 p (nI (k + 1))) := by
  have hqp := qin_nI (k := p) (n := 12) hp (by omega)
  have hqip : qi (nI p) = p := qi_nI (by omega)
  have hq4 := qin_nI (k := k) (n := 4) hk4 (by omega)
  unfold p_Namings_addPatron
  rw [if_pos hqp, hqip, hk, if_neg (show ¬ (4 : Int32) ≤ nI k from nI_ge (a := k) (b := 4) hk4 (by omega)), if_pos hqp, if_pos hq4, if_pos hqp, if_pos hq4, if_pos hqp, qi_nI (by omega), nI_1]
theorem vcM_5 {σ : qMem} {g : Nat → Int32} {b p k s : Nat} {y : Int32} (hs : s < 8) : vcM σ g b p y k (5 + s) = σ (5 + s) := by
  funext c
  unfold vcM
  rw [if_neg (by omega), if_neg (by omega), if_neg (by omega), if_neg (by omega)]
theorem vcM_69 {σ : qMem} {g : Nat → Int32} {b p k : Nat} {y : Int32} (hp : p < 12) : vcM σ g b p y k 69 p = nI k := by
  unfold vcM
  rw [if_neg (by omega), if_neg (by omega), if_pos ⟨rfl, rfl⟩]
theorem vac_c {f : Nat} {σ : qMem} {p s i w : Nat} {y : Int32} {g : Nat → Int32} (hp : p < 12) (hs : s < 8) (hiw : i + 2 * w ≤ 60) (hw : w ≤ 4) (hg : ∀ j, j < 60 → σ (5 + s) j = g j) (hf : 100 < f) : qfix2 (p_C_vacant_l157 f (nI p) (nI s) (nI i) (nI w)) f (vcM σ g i p y 0) (nI i) = some (nI w, qmu (vcM σ g i p y w) 0 16 0) := by
  have e2 : (2 : Int32) * nI w = nI (2 * w) := by rw [show (2 : Int32) = nI 2 from rfl, nI_mul]
  refine run2x (n := w) (f := f) (fun k => vcM σ g i p y k) (fun k => nI (i + 2 * k)) (by omega) (fun k => ?_) (fun k t ht => ?_)
  · unfold p_C_vacant_l157
    rw [e2, nI_add, if_pos (nI_le (Nat.le_refl _) (by omega))]
    rfl
  · have i0 : p_Sheets_item f (vcM σ g i p y t) (nI s) (nI (i + 2 * t)) = some (g (i + 2 * t)) := by
      rw [item_c hs (by omega), vcM_5 hs, hg _ (by omega)]
    have i1 : p_Sheets_item f (vcM σ g i p y t) (nI s) (nI (i + 2 * t) + 1) = some (g (i + 2 * t + 1)) := by
      rw [nI_1, item_c hs (by omega), vcM_5 hs, hg _ (by omega)]
    unfold p_C_vacant_l157
    rw [e2, nI_add, if_neg (nI_ge (by omega) (by omega)), i0, Option.bind_some, i1, Option.bind_some, addP_c hp (vcM_69 hp) (by omega), Option.bind_some, vc_s hp, show nI (i + 2 * t) + 2 = nI (i + 2 * (t + 1)) by rw [show (2 : Int32) = nI 2 from rfl, nI_add, show i + 2 * t + 2 = i + 2 * (t + 1) by omega]]
theorem val_c {f : Nat} {σ : qMem} {p s i w : Nat} {y : Int32} {g : Nat → Int32} (hp : p < 12) (hs : s < 8) (hiw : i + 2 * w ≤ 60) (hw : w ≤ 4) (hg : ∀ j, j < 60 → σ (5 + s) j = g j) (hf : 100 < f) : ((∀ k, k < w → okV g i k) → qfix1 (p_C_vacant_l82 f σ (nI p) y (nI s) (nI i) (nI w)) f (nI i) = some (nI w, qmu (vcM σ g i p y w) 0 16 0)) ∧ ∀ c, c < w → (∀ k, k < c → okV g i k) → ¬ okV g i c → qfix1 (p_C_vacant_l82 f σ (nI p) y (nI s) (nI i) (nI w)) f (nI i) = some (-1000001, σ) := by
  have e2 : (2 : Int32) * nI w = nI (2 * w) := by rw [show (2 : Int32) = nI 2 from rfl, nI_mul]
  have i0 : ∀ t, t < w → p_Sheets_item f σ (nI s) (nI (i + 2 * t)) = some (g (i + 2 * t)) := fun t ht => by
    rw [item_c hs (by omega), hg _ (by omega)]
  have i1 : ∀ t, t < w → p_Sheets_item f σ (nI s) (nI (i + 2 * t) + 1) = some (g (i + 2 * t + 1)) := fun t ht => by
    rw [nI_1, item_c hs (by omega), hg _ (by omega)]
  have e3 : ∀ t, nI (i + 2 * t) + 2 = nI (i + 2 * (t + 1)) := fun t => by rw [show (2 : Int32) = nI 2 from rfl, nI_add, show i + 2 * t + 2 = i + 2 * (t + 1) by omega]
  have step : ∀ (k : Int32 → Option (Int32 × qMem)) t, t < w → okV g i t → p_C_vacant_l82 f σ (nI p) y (nI s) (nI i) (nI w) k (nI (i + 2 * t)) = k (nI (i + 2 * (t + 1))) := by
    intro k t ht ho
    unfold p_C_vacant_l82
    rw [e2, nI_add, if_neg (nI_ge (by omega) (by omega)), i0 t ht, Option.bind_some, outL, Option.bind_some, if_pos (show rg _ (0 : Int32).toInt (9 : Int32).toInt from ho.1), if_pos rfl, i1 t ht, Option.bind_some, outL, Option.bind_some, if_pos (show rg _ (1 : Int32).toInt (400 : Int32).toInt from ho.2), if_pos rfl, e3]
  constructor
  · intro hall
    refine run1 (n := w) (f := f) (fun k => nI (i + 2 * k)) (by omega) (fun k => ?_) (fun k t ht => step k t ht (hall t ht))
    have hqp := qin_nI (k := p) (n := 12) hp (by omega)
    unfold p_C_vacant_l82 p_Namings_begin
    rw [e2, nI_add, if_pos (nI_le (Nat.le_refl _) (by omega)), if_pos hqp, if_pos hqp, qi_nI (by omega), Option.bind_some, vc_0 (g := g) (b := i)]
    exact vac_c hp hs hiw hw hg hf
  · intro c hc hok hno
    refine run1 (n := c) (f := f) (fun k => nI (i + 2 * k)) (by omega) (fun k => ?_) (fun k t ht => step k t (by omega) (hok t ht))
    unfold p_C_vacant_l82
    rw [e2, nI_add, if_neg (nI_ge (by omega) (by omega)), i0 c hc, Option.bind_some, outL, Option.bind_some]
    by_cases q1 : rg (g (i + 2 * c)) 0 9
    · rw [if_pos (show rg _ (0 : Int32).toInt (9 : Int32).toInt from q1), if_pos rfl, i1 c hc, Option.bind_some, outL, Option.bind_some, if_neg (show ¬ rg _ (1 : Int32).toInt (400 : Int32).toInt from fun w => hno ⟨q1, w⟩), if_neg (by decide)]
    · rw [if_neg (show ¬ rg _ (0 : Int32).toInt (9 : Int32).toInt from q1), if_neg (by decide)]
theorem vacm {f : Nat} {τ : qMem} {p b w : Nat} (hp : p < 12) (hbw : b + 2 * w ≤ 480) (hw : w ≤ 4) (hf : 100 < f) : qfix2 (p_M_vacant_l163 f (nI p) (nI w) (nI b)) f τ 0 = some (nI w, vmM τ b p (2 * w)) := by
  have e2 : (2 : Int32) * nI w = nI (2 * w) := by rw [show (2 : Int32) = nI 2 from rfl, nI_mul]
  have h0 : τ = vmM τ b p 0 := by
    funext a c
    unfold vmM
    rw [if_neg (by omega)]
  conv => lhs; rw [h0]
  refine run2 (n := 2 * w) (f := f) (fun k => vmM τ b p k) (by omega) (fun k => ?_) (fun k t ht => ?_)
  · unfold p_M_vacant_l163
    rw [e2, if_pos (nI_le (Nat.le_refl _) (by omega))]
  · have h107 : vmM τ b p t 107 (b + t) = τ 107 (b + t) := by unfold vmM; rw [if_neg (by omega)]
    unfold p_M_vacant_l163
    rw [e2, if_neg (nI_ge ht (by omega)), nI_add, show (8 : Int32) * nI p + nI t = nI (8 * p + t) by rw [show (8 : Int32) = nI 8 from rfl, nI_mul, nI_add], if_pos (qin_nI (by omega) (by omega)), if_pos (qin_nI (by omega) (by omega)), qi_nI (by omega), qi_nI (by omega), h107, nI_1]
    congr 1
    funext a c
    unfold qmu vmM
    by_cases c1 : a = 135 ∧ c = 8 * p + t
    · rw [if_pos c1, if_pos (by omega), c1.2, Nat.add_sub_cancel_left]
    · rw [if_neg c1]
      by_cases c2 : a = 135 ∧ 8 * p ≤ c ∧ c < 8 * p + t
      · rw [if_pos c2, if_pos (by omega)]
      · rw [if_neg c2, if_neg (by omega)]
theorem val_m {f : Nat} {τ : qMem} {p b w : Nat} {y : Int32} (hp : p < 12) (hbw : b + 2 * w ≤ 480) (hw : w ≤ 4) (hf : 100 < f) : ((∀ k, k < w → okV (τ 107) b k) → qfix1 (p_M_vacant_l76 f τ (nI p) y (nI w) (nI b)) f 0 = some (nI w, vmM (qmu (qmu (qmu τ 104 1 0) 133 p y) 134 p (nI w)) b p (2 * w))) ∧ ∀ c, c < w → (∀ k, k < c → okV (τ 107) b k) → ¬ okV (τ 107) b c → qfix1 (p_M_vacant_l76 f τ (nI p) y (nI w) (nI b)) f 0 = some (-1000001, τ) := by
  have ex : ∀ t, nI b + 2 * nI t = nI (b + 2 * t) := fun t => by rw [show (2 : Int32) = nI 2 from rfl, nI_mul, nI_add]
  have step : ∀ (k : Int32 → Option (Int32 × qMem)) t, t < w → okV (τ 107) b t → p_M_vacant_l76 f τ (nI p) y (nI w) (nI b) k (nI t) = k (nI (t + 1)) := by
    intro k t ht ho
    unfold p_M_vacant_l76
    rw [if_neg (nI_ge ht (by omega)), ex, nI_1, if_pos (qin_nI (by omega) (by omega)), if_pos (qin_nI (by omega) (by omega)), qi_nI (by omega), qi_nI (by omega), inL, Option.bind_some, if_pos (show rg _ (0 : Int64).toInt (9 : Int64).toInt from ho.1), if_neg bad_ne, inL, Option.bind_some, if_pos (show rg _ (1 : Int64).toInt (400 : Int64).toInt from ho.2), if_neg bad_ne, nI_1]
  constructor
  · intro hall
    refine run1 (n := w) (f := f) (fun k => nI k) (by omega) (fun k => ?_) (fun k t ht => step k t ht (hall t ht))
    have hqp := qin_nI (k := p) (n := 12) hp (by omega)
    unfold p_M_vacant_l76
    rw [if_pos (nI_le (Nat.le_refl _) (by omega)), if_pos hqp, if_pos hqp, qi_nI (by omega)]
    exact vacm hp hbw hw hf
  · intro c hc hok hno
    refine run1 (n := c) (f := f) (fun k => nI k) (by omega) (fun k => ?_) (fun k t ht => step k t (by omega) (hok t ht))
    unfold p_M_vacant_l76
    rw [if_neg (nI_ge hc (by omega)), ex, nI_1, if_pos (qin_nI (by omega) (by omega)), if_pos (qin_nI (by omega) (by omega)), qi_nI (by omega), qi_nI (by omega), inL, Option.bind_some]
    by_cases q1 : rg (τ 107 (b + 2 * c)) 0 9
    · rw [if_pos (show rg _ (0 : Int64).toInt (9 : Int64).toInt from q1), if_neg bad_ne, inL, Option.bind_some, if_neg (show ¬ rg _ (1 : Int64).toInt (400 : Int64).toInt from fun w => hno ⟨q1, w⟩), if_pos rfl]
    · rw [if_neg (show ¬ rg _ (0 : Int64).toInt (9 : Int64).toInt from q1), if_pos rfl]
