-- the plan of the heap, by program (wip/gen/plan.py): places q.., ints i.., rows a.., l..
abbrev qT : Nat := 0
abbrev iT_imageKept : Nat := 52
abbrev qT_givenRest : Nat := 51
abbrev aT_givenRest : Nat := 25
abbrev qT_prices : Nat := 52
abbrev aT_prices : Nat := 26
abbrev qT_shelves : Nat := 33
abbrev qM (k : Nat) : Nat := 1 + 4 * k
abbrev iM_size (k : Nat) : Nat := 0 + 2 * k
abbrev iM_ribbon (k : Nat) : Nat := 1 + 2 * k
abbrev qM_pulls (k : Nat) : Nat := 2 + 4 * k
abbrev aM_pulls (k : Nat) : Nat := 0 + 3 * k
abbrev qM_marks (k : Nat) : Nat := 3 + 4 * k
abbrev aM_marks (k : Nat) : Nat := 1 + 3 * k
abbrev qM_ages (k : Nat) : Nat := 4 + 4 * k
abbrev aM_ages (k : Nat) : Nat := 2 + 3 * k
abbrev qW (k : Nat) : Nat := 13 + 3 * k
abbrev iW_size (k : Nat) : Nat := 6 + 1 * k
abbrev qW_hands (k : Nat) : Nat := 14 + 3 * k
abbrev aW_hands (k : Nat) : Nat := 9 + 2 * k
abbrev qW_touches (k : Nat) : Nat := 15 + 3 * k
abbrev aW_touches (k : Nat) : Nat := 10 + 2 * k
abbrev qG (k : Nat) : Nat := 19 + 1 * k
abbrev iG_letters (k : Nat) : Nat := 8 + 5 * k
abbrev iG_cleanings (k : Nat) : Nat := 9 + 5 * k
abbrev iG_learnings (k : Nat) : Nat := 10 + 5 * k
abbrev iG_showed (k : Nat) : Nat := 11 + 5 * k
abbrev iG_latest (k : Nat) : Nat := 12 + 5 * k
abbrev qS (k : Nat) : Nat := 21 + 2 * k
abbrev iS_sort (k : Nat) : Nat := 18 + 3 * k
abbrev iS_size (k : Nat) : Nat := 19 + 3 * k
abbrev iS_ghost (k : Nat) : Nat := 20 + 3 * k
abbrev qS_cells (k : Nat) : Nat := 22 + 2 * k
abbrev lS_cells (k : Nat) : Nat := 0 + 1 * k
abbrev qP : Nat := 34
abbrev iP_size : Nat := 36
abbrev iP_stepsSize : Nat := 37
abbrev iP_at : Nat := 38
abbrev qP_bytes : Nat := 35
abbrev aP_bytes : Nat := 13
abbrev qP_steps : Nat := 36
abbrev aP_steps : Nat := 14
abbrev qL : Nat := 37
abbrev iL_stepsSize : Nat := 39
abbrev iL_told : Nat := 40
abbrev iL_age : Nat := 41
abbrev iL_touch : Nat := 42
abbrev iL_habit : Nat := 43
abbrev iL_unlike : Nat := 44
abbrev iL_ribbon : Nat := 45
abbrev iL_machine : Nat := 46
abbrev qL_steps : Nat := 38
abbrev aL_steps : Nat := 15
abbrev qL_stack : Nat := 39
abbrev aL_stack : Nat := 16
abbrev qH : Nat := 40
abbrev iH_done : Nat := 47
abbrev iH_kept : Nat := 48
abbrev qH_numbers : Nat := 41
abbrev aH_numbers : Nat := 17
abbrev qH_whats : Nat := 42
abbrev aH_whats : Nat := 18
abbrev qH_olds : Nat := 43
abbrev aH_olds : Nat := 19
abbrev qH_news : Nat := 44
abbrev aH_news : Nat := 20
abbrev qU : Nat := 45
abbrev iU_size : Nat := 49
abbrev iU_ran : Nat := 50
abbrev qU_kinds : Nat := 46
abbrev aU_kinds : Nat := 21
abbrev qU_traced : Nat := 47
abbrev aU_traced : Nat := 22
abbrev qB : Nat := 48
abbrev iB_goal : Nat := 51
abbrev qB_ways : Nat := 49
abbrev aB_ways : Nat := 23
abbrev qB_queue : Nat := 50
abbrev aB_queue : Nat := 24
def LCl : List mLE := [.inl (9, [.inl (qM 0), .inl (qM 1), .inl (qW 0), .inl qP, .inl qL, .inl qT_shelves, .inl qH, .inl qU, .inl (qG 0), .inl qB, .inl qT_givenRest, .inl qT_prices, .inl (qM 2), .inl (qW 1), .inl (qG 1), .inr iT_imageKept]), .inl (5, [.inl 2, .inl 3, .inl 4, .inr 0, .inr 1]), .inr (.inl (24, 0)), .inr (.inl (24, 1)), .inr (.inl (8, 2)), .inl (5, [.inl 6, .inl 7, .inl 8, .inr 2, .inr 3]), .inr (.inl (24, 3)), .inr (.inl (24, 4)), .inr (.inl (8, 5)), .inl (5, [.inl 10, .inl 11, .inl 12, .inr 4, .inr 5]), .inr (.inl (24, 6)), .inr (.inl (24, 7)), .inr (.inl (8, 8)), .inl (8, [.inl 14, .inl 15, .inr 6]), .inr (.inl (24, 9)), .inr (.inl (8, 10)), .inl (8, [.inl 17, .inl 18, .inr 7]), .inr (.inl (24, 11)), .inr (.inl (8, 12)), .inl (4, [.inr 8, .inr 9, .inr 10, .inr 11, .inr 12]), .inl (4, [.inr 13, .inr 14, .inr 15, .inr 16, .inr 17]), .inl (6, [.inl 22, .inr 18, .inr 19, .inr 20]), .inr (.inr (.inl (60, 0))), .inl (6, [.inl 24, .inr 21, .inr 22, .inr 23]), .inr (.inr (.inl (60, 1))), .inl (6, [.inl 26, .inr 24, .inr 25, .inr 26]), .inr (.inr (.inl (60, 2))), .inl (6, [.inl 28, .inr 27, .inr 28, .inr 29]), .inr (.inr (.inl (60, 3))), .inl (6, [.inl 30, .inr 30, .inr 31, .inr 32]), .inr (.inr (.inl (60, 4))), .inl (6, [.inl 32, .inr 33, .inr 34, .inr 35]), .inr (.inr (.inl (60, 5))), .inr (.inr (.inr [21, 23, 25, 27, 29, 31])), .inl (7, [.inl 35, .inr 36, .inl 36, .inr 37, .inr 38]), .inr (.inl (120, 13)), .inr (.inl (121, 14)), .inl (3, [.inl 38, .inr 39, .inr 40, .inl 39, .inr 41, .inr 42, .inr 43, .inr 44, .inr 45, .inr 46]), .inr (.inl (121, 15)), .inr (.inl (64, 16)), .inl (1, [.inl 41, .inl 42, .inl 43, .inl 44, .inr 47, .inr 48]), .inr (.inl (40, 17)), .inr (.inl (40, 18)), .inr (.inl (40, 19)), .inr (.inl (40, 20)), .inl (2, [.inl 46, .inl 47, .inr 49, .inr 50]), .inr (.inl (50, 21)), .inr (.inl (24, 22)), .inl (0, [.inl 49, .inl 50, .inr 51]), .inr (.inl (2197, 23)), .inr (.inl (2197, 24)), .inr (.inl (256, 25)), .inr (.inl (8, 26))]
def LC (q : Nat) : Option mLE := LCl[q]?
theorem lc_T : LC qT = some (.inl (9, [.inl (qM 0), .inl (qM 1), .inl (qW 0), .inl qP, .inl qL, .inl qT_shelves, .inl qH, .inl qU, .inl (qG 0), .inl qB, .inl qT_givenRest, .inl qT_prices, .inl (qM 2), .inl (qW 1), .inl (qG 1), .inr iT_imageKept])) := rfl
theorem lc_T_shelves : LC qT_shelves = some (.inr (.inr (.inr [qS 0, qS 1, qS 2, qS 3, qS 4, qS 5]))) := rfl
theorem lc_T_shelves_at : ∀ j, j < 6 → ([qS 0, qS 1, qS 2, qS 3, qS 4, qS 5] : List Nat)[j]? = some (qS j) := by decide
theorem lc_T_givenRest : LC qT_givenRest = some (.inr (.inl (256, aT_givenRest))) := rfl
theorem lc_T_prices : LC qT_prices = some (.inr (.inl (8, aT_prices))) := rfl
theorem lc_M {k : Nat} (hk : k < 3) : LC (qM k) = some (.inl (5, [.inl (qM_pulls k), .inl (qM_marks k), .inl (qM_ages k), .inr (iM_size k), .inr (iM_ribbon k)])) := by
  match k, hk with
  | 0, _ => rfl
  | 1, _ => rfl
  | 2, _ => rfl
  | n + 3, hk => omega
theorem lc_M_pulls {k : Nat} (hk : k < 3) : LC (qM_pulls k) = some (.inr (.inl (24, (aM_pulls k)))) := by
  match k, hk with
  | 0, _ => rfl
  | 1, _ => rfl
  | 2, _ => rfl
  | n + 3, hk => omega
theorem lc_M_marks {k : Nat} (hk : k < 3) : LC (qM_marks k) = some (.inr (.inl (24, (aM_marks k)))) := by
  match k, hk with
  | 0, _ => rfl
  | 1, _ => rfl
  | 2, _ => rfl
  | n + 3, hk => omega
theorem lc_M_ages {k : Nat} (hk : k < 3) : LC (qM_ages k) = some (.inr (.inl (8, (aM_ages k)))) := by
  match k, hk with
  | 0, _ => rfl
  | 1, _ => rfl
  | 2, _ => rfl
  | n + 3, hk => omega
theorem lc_W {k : Nat} (hk : k < 2) : LC (qW k) = some (.inl (8, [.inl (qW_hands k), .inl (qW_touches k), .inr (iW_size k)])) := by
  match k, hk with
  | 0, _ => rfl
  | 1, _ => rfl
  | n + 2, hk => omega
theorem lc_W_hands {k : Nat} (hk : k < 2) : LC (qW_hands k) = some (.inr (.inl (24, (aW_hands k)))) := by
  match k, hk with
  | 0, _ => rfl
  | 1, _ => rfl
  | n + 2, hk => omega
theorem lc_W_touches {k : Nat} (hk : k < 2) : LC (qW_touches k) = some (.inr (.inl (8, (aW_touches k)))) := by
  match k, hk with
  | 0, _ => rfl
  | 1, _ => rfl
  | n + 2, hk => omega
theorem lc_G {k : Nat} (hk : k < 2) : LC (qG k) = some (.inl (4, [.inr (iG_letters k), .inr (iG_cleanings k), .inr (iG_learnings k), .inr (iG_showed k), .inr (iG_latest k)])) := by
  match k, hk with
  | 0, _ => rfl
  | 1, _ => rfl
  | n + 2, hk => omega
theorem lc_S {k : Nat} (hk : k < 6) : LC (qS k) = some (.inl (6, [.inl (qS_cells k), .inr (iS_sort k), .inr (iS_size k), .inr (iS_ghost k)])) := by
  match k, hk with
  | 0, _ => rfl
  | 1, _ => rfl
  | 2, _ => rfl
  | 3, _ => rfl
  | 4, _ => rfl
  | 5, _ => rfl
  | n + 6, hk => omega
theorem lc_S_cells {k : Nat} (hk : k < 6) : LC (qS_cells k) = some (.inr (.inr (.inl (60, (lS_cells k))))) := by
  match k, hk with
  | 0, _ => rfl
  | 1, _ => rfl
  | 2, _ => rfl
  | 3, _ => rfl
  | 4, _ => rfl
  | 5, _ => rfl
  | n + 6, hk => omega
theorem lc_P : LC qP = some (.inl (7, [.inl qP_bytes, .inr iP_size, .inl qP_steps, .inr iP_stepsSize, .inr iP_at])) := rfl
theorem lc_P_bytes : LC qP_bytes = some (.inr (.inl (120, aP_bytes))) := rfl
theorem lc_P_steps : LC qP_steps = some (.inr (.inl (121, aP_steps))) := rfl
theorem lc_L : LC qL = some (.inl (3, [.inl qL_steps, .inr iL_stepsSize, .inr iL_told, .inl qL_stack, .inr iL_age, .inr iL_touch, .inr iL_habit, .inr iL_unlike, .inr iL_ribbon, .inr iL_machine])) := rfl
theorem lc_L_steps : LC qL_steps = some (.inr (.inl (121, aL_steps))) := rfl
theorem lc_L_stack : LC qL_stack = some (.inr (.inl (64, aL_stack))) := rfl
theorem lc_H : LC qH = some (.inl (1, [.inl qH_numbers, .inl qH_whats, .inl qH_olds, .inl qH_news, .inr iH_done, .inr iH_kept])) := rfl
theorem lc_H_numbers : LC qH_numbers = some (.inr (.inl (40, aH_numbers))) := rfl
theorem lc_H_whats : LC qH_whats = some (.inr (.inl (40, aH_whats))) := rfl
theorem lc_H_olds : LC qH_olds = some (.inr (.inl (40, aH_olds))) := rfl
theorem lc_H_news : LC qH_news = some (.inr (.inl (40, aH_news))) := rfl
theorem lc_U : LC qU = some (.inl (2, [.inl qU_kinds, .inl qU_traced, .inr iU_size, .inr iU_ran])) := rfl
theorem lc_U_kinds : LC qU_kinds = some (.inr (.inl (50, aU_kinds))) := rfl
theorem lc_U_traced : LC qU_traced = some (.inr (.inl (24, aU_traced))) := rfl
theorem lc_B : LC qB = some (.inl (0, [.inl qB_ways, .inl qB_queue, .inr iB_goal])) := rfl
theorem lc_B_ways : LC qB_ways = some (.inr (.inl (2197, aB_ways))) := rfl
theorem lc_B_queue : LC qB_queue = some (.inr (.inl (2197, aB_queue))) := rfl
abbrev qX : Nat := 53
abbrev qX_may : Nat := 54
abbrev aX_may : Nat := 0
abbrev qX_changeAt : Nat := 55
abbrev aX_changeAt : Nat := 1
abbrev qX_changeWas : Nat := 56
abbrev aX_changeWas : Nat := 2
abbrev qX_changeIs : Nat := 57
abbrev aX_changeIs : Nat := 3
abbrev iX_keptMany : Nat := 0
abbrev iX_done : Nat := 1
abbrev iX_machines : Nat := 2
abbrev iX_writers : Nat := 3
abbrev qX_tape : Nat := 58
abbrev aX_tape : Nat := 4
abbrev iX_tapeMany : Nat := 4
abbrev qX_text : Nat := 59
abbrev aX_text : Nat := 5
abbrev iX_textMany : Nat := 5
abbrev iX_base : Nat := 6
abbrev iX_at : Nat := 7
abbrev iX_ends : Nat := 8
abbrev iX_fault : Nat := 9
abbrev iX_opened : Nat := 10
abbrev qX_names : Nat := 60
abbrev aX_names : Nat := 6
abbrev qX_pull : Nat := 61
abbrev aX_pull : Nat := 7
abbrev qX_age : Nat := 62
abbrev aX_age : Nat := 8
abbrev iX_ribbon : Nat := 11
abbrev qX_hadPull : Nat := 63
abbrev aX_hadPull : Nat := 9
abbrev qX_restFar : Nat := 64
abbrev aX_restFar : Nat := 10
abbrev qX_restGets : Nat := 65
abbrev aX_restGets : Nat := 11
abbrev qX_lettersTo : Nat := 66
abbrev aX_lettersTo : Nat := 12
abbrev iX_latest : Nat := 12
abbrev qX_ledNow : Nat := 67
abbrev aX_ledNow : Nat := 13
abbrev iX_isKept : Nat := 13
abbrev iX_imageMachines : Nat := 14
abbrev iX_imageWriters : Nat := 15
abbrev iX_imageLatest : Nat := 16
abbrev qX_imageMay : Nat := 68
abbrev aX_imageMay : Nat := 14
abbrev qX_imageLed : Nat := 69
abbrev aX_imageLed : Nat := 15
abbrev iX_bodies : Nat := 17
abbrev qX_bodyKind : Nat := 70
abbrev aX_bodyKind : Nat := 16
abbrev qX_trace : Nat := 71
abbrev aX_trace : Nat := 17
abbrev iX_ran : Nat := 18
abbrev iX_ownKind : Nat := 19
abbrev iX_ownNumber : Nat := 20
abbrev qX_shelf : Nat := 72
abbrev aX_shelf : Nat := 18
abbrev qX_many : Nat := 73
abbrev aX_many : Nat := 19
abbrev qX_items : Nat := 74
abbrev lX_items : Nat := 0
abbrev qX_carried : Nat := 75
abbrev lX_carried : Nat := 1
def LXl : List mLE := [.inl (10, [.inl qX_may, .inl qX_changeAt, .inl qX_changeWas, .inl qX_changeIs, .inr iX_keptMany, .inr iX_done, .inr iX_machines, .inr iX_writers, .inl qX_tape, .inr iX_tapeMany, .inl qX_text, .inr iX_textMany, .inr iX_base, .inr iX_at, .inr iX_ends, .inr iX_fault, .inr iX_opened, .inl qX_names, .inl qX_pull, .inl qX_age, .inr iX_ribbon, .inl qX_hadPull, .inl qX_restFar, .inl qX_restGets, .inl qX_lettersTo, .inr iX_latest, .inl qX_ledNow, .inr iX_isKept, .inr iX_imageMachines, .inr iX_imageWriters, .inr iX_imageLatest, .inl qX_imageMay, .inl qX_imageLed, .inr iX_bodies, .inl qX_bodyKind, .inl qX_trace, .inr iX_ran, .inr iX_ownKind, .inr iX_ownNumber, .inl qX_shelf, .inl qX_many, .inl qX_items, .inl qX_carried]), .inr (.inl (65, aX_may)), .inr (.inl (40, aX_changeAt)), .inr (.inl (40, aX_changeWas)), .inr (.inl (40, aX_changeIs)), .inr (.inl (120, aX_tape)), .inr (.inl (120, aX_text)), .inr (.inl (6, aX_names)), .inr (.inl (24, aX_pull)), .inr (.inl (8, aX_age)), .inr (.inl (24, aX_hadPull)), .inr (.inl (2304, aX_restFar)), .inr (.inl (2304, aX_restGets)), .inr (.inl (2197, aX_lettersTo)), .inr (.inl (4, aX_ledNow)), .inr (.inl (56, aX_imageMay)), .inr (.inl (4, aX_imageLed)), .inr (.inl (50, aX_bodyKind)), .inr (.inl (24, aX_trace)), .inr (.inl (6, aX_shelf)), .inr (.inl (6, aX_many)), .inr (.inr (.inl (360, lX_items))), .inr (.inr (.inl (60, lX_carried)))]
def LX (q : Nat) : Option mLE := if q < 53 then none else LXl[q - 53]?
theorem lx_X : LX qX = some (.inl (10, [.inl qX_may, .inl qX_changeAt, .inl qX_changeWas, .inl qX_changeIs, .inr iX_keptMany, .inr iX_done, .inr iX_machines, .inr iX_writers, .inl qX_tape, .inr iX_tapeMany, .inl qX_text, .inr iX_textMany, .inr iX_base, .inr iX_at, .inr iX_ends, .inr iX_fault, .inr iX_opened, .inl qX_names, .inl qX_pull, .inl qX_age, .inr iX_ribbon, .inl qX_hadPull, .inl qX_restFar, .inl qX_restGets, .inl qX_lettersTo, .inr iX_latest, .inl qX_ledNow, .inr iX_isKept, .inr iX_imageMachines, .inr iX_imageWriters, .inr iX_imageLatest, .inl qX_imageMay, .inl qX_imageLed, .inr iX_bodies, .inl qX_bodyKind, .inl qX_trace, .inr iX_ran, .inr iX_ownKind, .inr iX_ownNumber, .inl qX_shelf, .inl qX_many, .inl qX_items, .inl qX_carried])) := rfl
theorem lx_X_may : LX qX_may = some (.inr (.inl (65, aX_may))) := rfl
theorem lx_X_changeAt : LX qX_changeAt = some (.inr (.inl (40, aX_changeAt))) := rfl
theorem lx_X_changeWas : LX qX_changeWas = some (.inr (.inl (40, aX_changeWas))) := rfl
theorem lx_X_changeIs : LX qX_changeIs = some (.inr (.inl (40, aX_changeIs))) := rfl
theorem lx_X_tape : LX qX_tape = some (.inr (.inl (120, aX_tape))) := rfl
theorem lx_X_text : LX qX_text = some (.inr (.inl (120, aX_text))) := rfl
theorem lx_X_names : LX qX_names = some (.inr (.inl (6, aX_names))) := rfl
theorem lx_X_pull : LX qX_pull = some (.inr (.inl (24, aX_pull))) := rfl
theorem lx_X_age : LX qX_age = some (.inr (.inl (8, aX_age))) := rfl
theorem lx_X_hadPull : LX qX_hadPull = some (.inr (.inl (24, aX_hadPull))) := rfl
theorem lx_X_restFar : LX qX_restFar = some (.inr (.inl (2304, aX_restFar))) := rfl
theorem lx_X_restGets : LX qX_restGets = some (.inr (.inl (2304, aX_restGets))) := rfl
theorem lx_X_lettersTo : LX qX_lettersTo = some (.inr (.inl (2197, aX_lettersTo))) := rfl
theorem lx_X_ledNow : LX qX_ledNow = some (.inr (.inl (4, aX_ledNow))) := rfl
theorem lx_X_imageMay : LX qX_imageMay = some (.inr (.inl (56, aX_imageMay))) := rfl
theorem lx_X_imageLed : LX qX_imageLed = some (.inr (.inl (4, aX_imageLed))) := rfl
theorem lx_X_bodyKind : LX qX_bodyKind = some (.inr (.inl (50, aX_bodyKind))) := rfl
theorem lx_X_trace : LX qX_trace = some (.inr (.inl (24, aX_trace))) := rfl
theorem lx_X_shelf : LX qX_shelf = some (.inr (.inl (6, aX_shelf))) := rfl
theorem lx_X_many : LX qX_many = some (.inr (.inl (6, aX_many))) := rfl
theorem lx_X_items : LX qX_items = some (.inr (.inr (.inl (360, lX_items)))) := rfl
theorem lx_X_carried : LX qX_carried = some (.inr (.inr (.inl (60, lX_carried)))) := rfl
/-- the whole heap -/
def hpO (c x : mS) : List mE := LCl.map (mCell c) ++ LXl.map (mCell x)
/-- the numbers of a plan are apart -/
def mUq (l : List mLE) : Bool := (List.range l.length).all fun i => (List.range l.length).all fun j => match l[i]?, l[j]? with
  | some (.inl (_, f)), some (.inl (_, g)) => (List.range f.length).all fun a => (List.range g.length).all fun b => match f[a]?, g[b]? with
    | some (.inr x), some (.inr y) => x != y || (i == j && a == b)
    | _, _ => true
  | some (.inr (.inl x)), some (.inr (.inl y)) => x.2 != y.2 || i == j
  | some (.inr (.inr (.inl x))), some (.inr (.inr (.inl y))) => x.2 != y.2 || i == j
  | _, _ => true
set_option maxRecDepth 100000 in
theorem mUq_C : mUq LCl = true := by decide +kernel
set_option maxRecDepth 100000 in
theorem mUq_X : mUq LXl = true := by decide +kernel
