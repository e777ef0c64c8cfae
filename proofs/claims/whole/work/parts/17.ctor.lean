/-! THE CONSTRUCTORS, run: a store a step -/
def flS (σ : PS) (a : Int) (n : Nat) (v : Int) : PS := fun a' j => if a' = a ∧ 0 ≤ j ∧ j < n then v else σ a' j
theorem f_fillI_loop {g : PG} {b : Bool} {d N : Nat} {Q : Int → PS → Prop} {a x : Int} {n : Nat} (hA : Fat N a (20, n)) (hn : n < 100000) (σ0 : PS) (w : Q 0 (flS σ0 a n x)) : ∀ (k : Nat) (i : Int) (σ : PS), 0 ≤ i → i + k = n → (∀ a' j, σ a' j = if a' = a ∧ 0 ≤ j ∧ j < i then x else σ0 a' j) → XX g b d P_J7_fill_53178 5 [(2, a), (0, x), (0, i), (0, (n : Int))] [] N σ N Q := by
  intro k
  induction k with
  | zero =>
    intro i σ h0 hi hσ
    refine B_J7_fill_53178_5 hA hn ⟨fun h => ?_, fun h => by omega⟩
    have : σ = flS σ0 a n x := by
      funext a' j
      rw [hσ]
      unfold flS
      have : i = n := by omega
      rw [this]
    rw [this]
    exact w
  | succ k ih =>
    intro i σ h0 hi hσ
    refine B_J7_fill_53178_5 hA hn ⟨fun h => by omega, fun h => ⟨by omega, ?_⟩⟩
    rw [w32_of (by omega) (by omega)]
    refine ih (i + 1) _ (by omega) (by omega) ?_
    intro a' j
    unfold su
    rw [hσ]
    grind
theorem f_fillI {g : PG} {b : Bool} {d N : Nat} {Q : Int → PS → Prop} {a x : Int} {n : Nat} {σ : PS} (hA : Fat N a (20, n)) (hn : n < 100000) (w : Q 0 (flS σ a n x)) : XX g b d P_J7_fill_53178 0 [(2, a), (0, x), (9, 0), (9, 0)] [] N σ N Q := by
  refine B_J7_fill_53178_0 hA hn ?_
  intro y1 e
  subst e
  exact f_fillI_loop hA hn σ w n 0 σ (by omega) (by omega) (fun a' j => by rw [if_neg (by omega)])
theorem f_fillL_loop {g : PG} {b : Bool} {d N : Nat} {Q : Int → PS → Prop} {a x : Int} {n : Nat} (hA : Fat N a (21, n)) (hn : n < 100000) (σ0 : PS) (w : Q 0 (flS σ0 a n x)) : ∀ (k : Nat) (i : Int) (σ : PS), 0 ≤ i → i + k = n → (∀ a' j, σ a' j = if a' = a ∧ 0 ≤ j ∧ j < i then x else σ0 a' j) → XX g b d P_J7_fill_d0a16 6 [(2, a), (1, x), (9, 0), (0, i), (0, (n : Int))] [] N σ N Q := by
  intro k
  induction k with
  | zero =>
    intro i σ h0 hi hσ
    refine B_J7_fill_d0a16_6 hA hn ⟨fun h => ?_, fun h => by omega⟩
    have : σ = flS σ0 a n x := by
      funext a' j
      rw [hσ]
      unfold flS
      have : i = n := by omega
      rw [this]
    rw [this]
    exact w
  | succ k ih =>
    intro i σ h0 hi hσ
    refine B_J7_fill_d0a16_6 hA hn ⟨fun h => by omega, fun h => ⟨by omega, ?_⟩⟩
    rw [w32_of (by omega) (by omega)]
    refine ih (i + 1) _ (by omega) (by omega) ?_
    intro a' j
    unfold su
    rw [hσ]
    grind
theorem f_fillL {g : PG} {b : Bool} {d N : Nat} {Q : Int → PS → Prop} {a x : Int} {n : Nat} {σ : PS} (hA : Fat N a (21, n)) (hn : n < 100000) (w : Q 0 (flS σ a n x)) : XX g b d P_J7_fill_d0a16 0 [(2, a), (1, x), (9, 0), (9, 0), (9, 0)] [] N σ N Q := by
  refine B_J7_fill_d0a16_0 hA hn ?_
  intro y1 e
  subst e
  exact f_fillL_loop hA hn σ w n 0 σ (by omega) (by omega) (fun a' j => by rw [if_neg (by omega)])
def K0 : PS := fun _ _ => 0
def K1 : PS := newO K0 0 11
def K2 : PS := newO K1 1 8
def K3 : PS := newA K2 2
def K4 : PS := su K3 1 0 2
def K5 : PS := newA K4 3
def K6 : PS := su K5 1 1 3
def K7 : PS := newA K6 4
def K8 : PS := su K7 1 2 4
def K9 : PS := newA K8 5
def K10 : PS := su K9 1 3 5
def K11 : PS := su K10 0 0 1
def K12 : PS := newO K11 6 6
def K13 : PS := newO K12 7 4
def K14 : PS := newA K13 8
def K15 : PS := su K14 7 0 8
def K16 : PS := newA K15 9
def K17 : PS := su K16 7 1 9
def K18 : PS := newA K17 10
def K19 : PS := su K18 7 2 10
def K20 : PS := su K19 6 1 7
def K21 : PS := newO K20 11 1
def K22 : PS := newA K21 12
def K23 : PS := su K22 11 0 12
def K24 : PS := flS K23 12 256 9
def K25 : PS := su K24 6 2 11
def K26 : PS := su K25 6 0 1
def K27 : PS := su K26 0 1 6
def K28 : PS := newO K27 13 9
def K29 : PS := newO K28 14 4
def K30 : PS := newA K29 15
def K31 : PS := su K30 14 0 15
def K32 : PS := newA K31 16
def K33 : PS := su K32 14 1 16
def K34 : PS := newA K33 17
def K35 : PS := su K34 14 2 17
def K36 : PS := su K35 13 0 14
def K37 : PS := newO K36 18 4
def K38 : PS := newA K37 19
def K39 : PS := su K38 18 0 19
def K40 : PS := newA K39 20
def K41 : PS := su K40 18 1 20
def K42 : PS := newA K41 21
def K43 : PS := su K42 18 2 21
def K44 : PS := su K43 13 1 18
def K45 : PS := newO K44 22 4
def K46 : PS := newA K45 23
def K47 : PS := su K46 22 0 23
def K48 : PS := newA K47 24
def K49 : PS := su K48 22 1 24
def K50 : PS := newA K49 25
def K51 : PS := su K50 22 2 25
def K52 : PS := su K51 13 2 22
def K53 : PS := newO K52 26 1
def K54 : PS := newA K53 27
def K55 : PS := su K54 26 0 27
def K56 : PS := flS K55 27 256 9
def K57 : PS := su K56 13 3 26
def K58 : PS := su K57 0 2 13
def K59 : PS := newO K58 28 9
def K60 : PS := newO K59 29 4
def K61 : PS := newA K60 30
def K62 : PS := su K61 29 0 30
def K63 : PS := newA K62 31
def K64 : PS := su K63 29 1 31
def K65 : PS := newA K64 32
def K66 : PS := su K65 29 2 32
def K67 : PS := su K66 28 0 29
def K68 : PS := newO K67 33 4
def K69 : PS := newA K68 34
def K70 : PS := su K69 33 0 34
def K71 : PS := newA K70 35
def K72 : PS := su K71 33 1 35
def K73 : PS := newA K72 36
def K74 : PS := su K73 33 2 36
def K75 : PS := su K74 28 1 33
def K76 : PS := newO K75 37 4
def K77 : PS := newA K76 38
def K78 : PS := su K77 37 0 38
def K79 : PS := newA K78 39
def K80 : PS := su K79 37 1 39
def K81 : PS := newA K80 40
def K82 : PS := su K81 37 2 40
def K83 : PS := su K82 28 2 37
def K84 : PS := newO K83 41 1
def K85 : PS := newA K84 42
def K86 : PS := su K85 41 0 42
def K87 : PS := flS K86 42 256 9
def K88 : PS := su K87 28 3 41
def K89 : PS := su K88 0 3 28
def K90 : PS := newO K89 43 7
def K91 : PS := newA K90 44
def K92 : PS := su K91 43 1 44
def K93 : PS := newA K92 45
def K94 : PS := su K93 43 2 45
def K95 : PS := newA K94 46
def K96 : PS := su K95 43 3 46
def K97 : PS := newA K96 47
def K98 : PS := su K97 43 4 47
def K99 : PS := newA K98 48
def K100 : PS := su K99 48 0 10
def K101 : PS := su K100 48 1 10
def K102 : PS := su K101 48 2 10
def K103 : PS := su K102 48 3 10
def K104 : PS := su K103 48 4 10
def K105 : PS := su K104 48 5 10
def K106 : PS := su K105 43 7 48
def K107 : PS := newA K106 49
def K108 : PS := su K107 49 0 1
def K109 : PS := su K108 49 1 1
def K110 : PS := su K109 49 2 1
def K111 : PS := su K110 49 3 1
def K112 : PS := su K111 49 4 1
def K113 : PS := su K112 49 5 1
def K114 : PS := su K113 43 8 49
def K115 : PS := newA K114 50
def K116 : PS := su K115 50 0 0
def K117 : PS := su K116 50 1 5
def K118 : PS := su K117 50 2 11
def K119 : PS := su K118 50 3 1
def K120 : PS := su K119 50 4 1
def K121 : PS := su K120 50 5 100
def K122 : PS := su K121 50 6 99
def K123 : PS := su K122 50 7 99
def K124 : PS := su K123 43 9 50
def K125 : PS := su K124 0 4 43
def K126 : PS := newO K125 51 7
def K127 : PS := newA K126 52
def K128 : PS := su K127 51 1 52
def K129 : PS := newA K128 53
def K130 : PS := su K129 51 2 53
def K131 : PS := newA K130 54
def K132 : PS := su K131 51 3 54
def K133 : PS := newA K132 55
def K134 : PS := su K133 51 4 55
def K135 : PS := newA K134 56
def K136 : PS := su K135 56 0 10
def K137 : PS := su K136 56 1 10
def K138 : PS := su K137 56 2 10
def K139 : PS := su K138 56 3 10
def K140 : PS := su K139 56 4 10
def K141 : PS := su K140 56 5 10
def K142 : PS := su K141 51 7 56
def K143 : PS := newA K142 57
def K144 : PS := su K143 57 0 1
def K145 : PS := su K144 57 1 1
def K146 : PS := su K145 57 2 1
def K147 : PS := su K146 57 3 1
def K148 : PS := su K147 57 4 1
def K149 : PS := su K148 57 5 1
def K150 : PS := su K149 51 8 57
def K151 : PS := newA K150 58
def K152 : PS := su K151 58 0 0
def K153 : PS := su K152 58 1 5
def K154 : PS := su K153 58 2 11
def K155 : PS := su K154 58 3 1
def K156 : PS := su K155 58 4 1
def K157 : PS := su K156 58 5 100
def K158 : PS := su K157 58 6 99
def K159 : PS := su K158 58 7 99
def K160 : PS := su K159 51 9 58
def K161 : PS := su K160 0 5 51
def K162 : PS := newO K161 59 7
def K163 : PS := newA K162 60
def K164 : PS := su K163 59 1 60
def K165 : PS := newA K164 61
def K166 : PS := su K165 59 2 61
def K167 : PS := newA K166 62
def K168 : PS := su K167 59 3 62
def K169 : PS := newA K168 63
def K170 : PS := su K169 59 4 63
def K171 : PS := newA K170 64
def K172 : PS := su K171 64 0 10
def K173 : PS := su K172 64 1 10
def K174 : PS := su K173 64 2 10
def K175 : PS := su K174 64 3 10
def K176 : PS := su K175 64 4 10
def K177 : PS := su K176 64 5 10
def K178 : PS := su K177 59 7 64
def K179 : PS := newA K178 65
def K180 : PS := su K179 65 0 1
def K181 : PS := su K180 65 1 1
def K182 : PS := su K181 65 2 1
def K183 : PS := su K182 65 3 1
def K184 : PS := su K183 65 4 1
def K185 : PS := su K184 65 5 1
def K186 : PS := su K185 59 8 65
def K187 : PS := newA K186 66
def K188 : PS := su K187 66 0 0
def K189 : PS := su K188 66 1 5
def K190 : PS := su K189 66 2 11
def K191 : PS := su K190 66 3 1
def K192 : PS := su K191 66 4 1
def K193 : PS := su K192 66 5 100
def K194 : PS := su K193 66 6 99
def K195 : PS := su K194 66 7 99
def K196 : PS := su K195 59 9 66
def K197 : PS := su K196 0 6 59
def K198 : PS := newO K197 67 0
def K199 : PS := newA K198 68
def K200 : PS := su K199 67 0 68
def K201 : PS := newA K200 69
def K202 : PS := su K201 67 1 69
def K203 : PS := su K202 0 7 67
def K204 : PS := newO K203 70 5
def K205 : PS := newA K204 71
def K206 : PS := su K205 70 1 71
def K207 : PS := newA K206 72
def K208 : PS := su K207 70 2 72
def K209 : PS := newA K208 73
def K210 : PS := su K209 70 3 73
def K211 : PS := newA K210 74
def K212 : PS := su K211 70 4 74
def K213 : PS := newA K212 75
def K214 : PS := su K213 70 5 75
def K215 : PS := su K214 70 0 67
def K216 : PS := su K215 0 8 70
def K217 : PS := newO K216 76 3
def K218 : PS := newA K217 77
def K219 : PS := su K218 76 1 77
def K220 : PS := newA K219 78
def K221 : PS := su K220 76 2 78
def K222 : PS := newA K221 79
def K223 : PS := su K222 76 3 79
def K224 : PS := newA K223 80
def K225 : PS := su K224 76 4 80
def K226 : PS := newA K225 81
def K227 : PS := su K226 76 5 81
def K228 : PS := newA K227 82
def K229 : PS := su K228 76 6 82
def K230 : PS := su K229 76 0 67
def K231 : PS := su K230 0 9 76
def K232 : PS := newO K231 83 2
def K233 : PS := newA K232 84
def K234 : PS := su K233 83 1 84
def K235 : PS := newA K234 85
def K236 : PS := su K235 83 2 85
def K237 : PS := su K236 83 0 67
def K238 : PS := su K237 0 10 83
def K239 : PS := newO K238 86 10
def K240 : PS := newA K239 87
def K241 : PS := su K240 86 1 87
def K242 : PS := su K241 86 0 70
def K243 : PS := su K242 0 11 86
def K244 : PS := su K243 0 14 (-1)
def K245 : PS := su K244 43 0 8
def K246 : PS := su K245 43 5 0
def K247 : PS := su K246 43 6 0
def K248 : PS := su K247 43 15 0
def K249 : PS := su K248 43 16 (-1)
def K250 : PS := flS K249 44 60 0
def K251 : PS := flS K250 45 60 0
def K252 : PS := flS K251 46 60 (-1)
def K253 : PS := flS K252 47 60 0
def K254 : PS := newO K253 88 12
def K255 : PS := su K254 88 2 8
def K256 : PS := newA K255 89
def K257 : PS := su K256 88 3 89
def K258 : PS := newA K257 90
def K259 : PS := su K258 88 4 90
def K260 : PS := newA K259 91
def K261 : PS := su K260 88 5 91
def K262 : PS := newA K261 92
def K263 : PS := su K262 88 6 92
def K264 : PS := newA K263 93
def K265 : PS := su K264 88 7 93
def K266 : PS := newA K265 94
def K267 : PS := su K266 88 8 94
def K268 : PS := newA K267 95
def K269 : PS := su K268 95 0 10
def K270 : PS := su K269 95 1 10
def K271 : PS := su K270 95 2 10
def K272 : PS := su K271 95 3 10
def K273 : PS := su K272 95 4 10
def K274 : PS := su K273 95 5 10
def K275 : PS := su K274 88 9 95
def K276 : PS := newA K275 96
def K277 : PS := su K276 96 0 1
def K278 : PS := su K277 96 1 1
def K279 : PS := su K278 96 2 1
def K280 : PS := su K279 96 3 1
def K281 : PS := su K280 96 4 1
def K282 : PS := su K281 96 5 1
def K283 : PS := su K282 88 10 96
def K284 : PS := newA K283 97
def K285 : PS := su K284 97 0 0
def K286 : PS := su K285 97 1 5
def K287 : PS := su K286 97 2 11
def K288 : PS := su K287 97 3 1
def K289 : PS := su K288 97 4 1
def K290 : PS := su K289 97 5 100
def K291 : PS := su K290 97 6 99
def K292 : PS := su K291 97 7 99
def K293 : PS := su K292 88 11 97
def K294 : PS := su K293 88 17 (-1)
def K295 : PS := newA K294 98
def K296 : PS := su K295 88 18 98
def K297 : PS := newA K296 99
def K298 : PS := su K297 99 0 32
def K299 : PS := su K298 99 1 103
def K300 : PS := su K299 99 2 111
def K301 : PS := su K300 99 3 32
def K302 : PS := su K301 99 4 99
def K303 : PS := su K302 99 5 104
def K304 : PS := su K303 99 6 97
def K305 : PS := su K304 99 7 110
def K306 : PS := su K305 99 8 103
def K307 : PS := su K306 99 9 101
def K308 : PS := su K307 99 10 32
def K309 : PS := su K308 99 11 115
def K310 : PS := su K309 99 12 105
def K311 : PS := su K310 99 13 100
def K312 : PS := su K311 99 14 101
def K313 : PS := su K312 99 15 32
def K314 : PS := su K313 99 16 97
def K315 : PS := su K314 99 17 110
def K316 : PS := su K315 99 18 121
def K317 : PS := su K316 99 19 32
def K318 : PS := su K317 99 20 105
def K319 : PS := su K318 99 21 110
def K320 : PS := su K319 99 22 32
def K321 : PS := su K320 99 23 115
def K322 : PS := su K321 99 24 104
def K323 : PS := su K322 99 25 97
def K324 : PS := su K323 99 26 112
def K325 : PS := su K324 99 27 101
def K326 : PS := su K325 99 28 32
def K327 : PS := su K326 99 29 103
def K328 : PS := su K327 99 30 111
def K329 : PS := su K328 99 31 110
def K330 : PS := su K329 99 32 101
def K331 : PS := su K330 99 33 32
def K332 : PS := su K331 99 34 116
def K333 : PS := su K332 99 35 104
def K334 : PS := su K333 99 36 101
def K335 : PS := su K334 99 37 114
def K336 : PS := su K335 99 38 101
def K337 : PS := su K336 99 39 32
def K338 : PS := su K337 99 40 97
def K339 : PS := su K338 99 41 108
def K340 : PS := su K339 99 42 108
def K341 : PS := su K340 99 43 32
def K342 : PS := su K341 99 44 119
def K343 : PS := su K342 99 45 104
def K344 : PS := su K343 99 46 101
def K345 : PS := su K344 99 47 110
def K346 : PS := su K345 99 48 32
def K347 : PS := su K346 99 49 111
def K348 : PS := su K347 99 50 114
def K349 : PS := su K348 99 51 32
def K350 : PS := su K349 99 52 97
def K351 : PS := su K350 99 53 110
def K352 : PS := su K351 99 54 100
def K353 : PS := su K352 99 55 32
def K354 : PS := su K353 99 56 110
def K355 : PS := su K354 99 57 111
def K356 : PS := su K355 99 58 116
def K357 : PS := su K356 99 59 32
def K358 : PS := su K357 99 60 119
def K359 : PS := su K358 99 61 101
def K360 : PS := su K359 99 62 97
def K361 : PS := su K360 99 63 107
def K362 : PS := su K361 99 64 32
def K363 : PS := su K362 99 65 97
def K364 : PS := su K363 99 66 103
def K365 : PS := su K364 99 67 101
def K366 : PS := su K365 99 68 32
def K367 : PS := su K366 99 69 115
def K368 : PS := su K367 99 70 111
def K369 : PS := su K368 99 71 114
def K370 : PS := su K369 99 72 116
def K371 : PS := su K370 99 73 32
def K372 : PS := su K371 99 74 98
def K373 : PS := su K372 99 75 101
def K374 : PS := su K373 99 76 115
def K375 : PS := su K374 99 77 105
def K376 : PS := su K375 99 78 100
def K377 : PS := su K376 99 79 101
def K378 : PS := su K377 99 80 32
def K379 : PS := su K378 99 81 112
def K380 : PS := su K379 99 82 108
def K381 : PS := su K380 99 83 97
def K382 : PS := su K381 99 84 99
def K383 : PS := su K382 99 85 101
def K384 : PS := su K383 99 86 32
def K385 : PS := su K384 99 87 115
def K386 : PS := su K385 99 88 105
def K387 : PS := su K386 99 89 122
def K388 : PS := su K387 99 90 101
def K389 : PS := su K388 99 91 32
def K390 : PS := su K389 99 92 108
def K391 : PS := su K390 99 93 111
def K392 : PS := su K391 99 94 97
def K393 : PS := su K392 99 95 100
def K394 : PS := su K393 99 96 32
def K395 : PS := su K394 99 97 100
def K396 : PS := su K395 99 98 97
def K397 : PS := su K396 99 99 121
def K398 : PS := su K397 99 100 32
def K399 : PS := su K398 99 101 109
def K400 : PS := su K399 99 102 105
def K401 : PS := su K400 99 103 100
def K402 : PS := su K401 99 104 32
def K403 : PS := su K402 99 105 112
def K404 : PS := su K403 99 106 104
def K405 : PS := su K404 99 107 97
def K406 : PS := su K405 99 108 115
def K407 : PS := su K406 99 109 101
def K408 : PS := su K407 99 110 32
def K409 : PS := su K408 99 111 115
def K410 : PS := su K409 99 112 105
def K411 : PS := su K410 99 113 110
def K412 : PS := su K411 99 114 99
def K413 : PS := su K412 99 115 101
def K414 : PS := su K413 99 116 32
def K415 : PS := su K414 88 24 99
def K416 : PS := newA K415 100
def K417 : PS := su K416 88 25 100
def K418 : PS := newA K417 101
def K419 : PS := su K418 88 26 101
def K420 : PS := newA K419 102
def K421 : PS := su K420 88 27 102
def K422 : PS := newA K421 103
def K423 : PS := su K422 88 28 103
def K424 : PS := newA K423 104
def K425 : PS := su K424 88 29 104
def K426 : PS := newA K425 105
def K427 : PS := su K426 88 30 105
def K428 : PS := newA K427 106
def K429 : PS := su K428 88 34 106
def K430 : PS := su K429 88 39 (-1)
def K431 : PS := newA K430 107
def K432 : PS := su K431 88 41 107
def K433 : PS := newA K432 108
def K434 : PS := su K433 88 42 108
def K435 : PS := newA K434 109
def K436 : PS := su K435 88 43 109
def K437 : PS := newA K436 110
def K438 : PS := su K437 88 44 110
def K439 : PS := newA K438 111
def K440 : PS := su K439 88 45 111
def K441 : PS := newA K440 112
def K442 : PS := su K441 88 46 112
def K443 : PS := newA K442 113
def K444 : PS := su K443 88 47 113
def K445 : PS := newA K444 114
def K446 : PS := su K445 88 48 114
def K447 : PS := newA K446 115
def K448 : PS := su K447 88 49 115
def K449 : PS := su K448 88 50 1
def K450 : PS := newA K449 116
def K451 : PS := su K450 88 52 116
def K452 : PS := newA K451 117
def K453 : PS := su K452 88 53 117
def K454 : PS := newA K453 118
def K455 : PS := su K454 88 54 118
def K456 : PS := newA K455 119
def K457 : PS := su K456 88 55 119
def K458 : PS := newA K457 120
def K459 : PS := su K458 88 56 120
def K460 : PS := newA K459 121
def K461 : PS := su K460 88 57 121
def K462 : PS := newA K461 122
def K463 : PS := su K462 88 58 122
def K464 : PS := newA K463 123
def K465 : PS := su K464 88 59 123
def K466 : PS := newA K465 124
def K467 : PS := su K466 88 60 124
def K468 : PS := newA K467 125
def K469 : PS := su K468 88 61 125
def K470 : PS := newA K469 126
def K471 : PS := su K470 88 62 126
def K472 : PS := newA K471 127
def K473 : PS := su K472 88 63 127
def K474 : PS := newA K473 128
def K475 : PS := su K474 88 64 128
def K476 : PS := newA K475 129
def K477 : PS := su K476 88 65 129
def K478 : PS := newA K477 130
def K479 : PS := su K478 88 66 130
def K480 : PS := newA K479 131
def K481 : PS := su K480 88 67 131
def K482 : PS := newA K481 132
def K483 : PS := su K482 88 68 132
def K484 : PS := newA K483 133
def K485 : PS := su K484 88 71 133
def K486 : PS := newA K485 134
def K487 : PS := su K486 88 76 134
def K488 : PS := newA K487 135
def K489 : PS := su K488 88 77 135
theorem C2_X8_init {g : PG} {d : Nat} {Q : Int → PS → Prop} (w : Q 0 K10) : XX g false (d + 1) P_X8_init 0 [(2, 1)] [] 2 K2 6 Q := by
  refine E_aload_n 1 dX8_init_0 rfl (ac_1.bnd) rfl ?_
  refine E_objI 4 dX8_init_1 mw_143 mw_136 mw_137 (by decide) (Nat.le_of_ble_eq_true rfl) rfl ?_
  refine E_aload_n 5 dX8_init_4 rfl (ac_1.bnd) rfl ?_
  refine E_sipush 8 dX8_init_5 (by decide) rfl ?_
  refine E_newa 10 dX8_init_8 (rfl : kd 2 = (22, 500)) (by decide) rfl rfl (by decide) mw_166 (by decide) rfl ?_
  show XX g false (d + 1) P_X8_init 10 [(2, 1)] [(2, 2), (2, 1)] 3 K3 6 Q
  refine E_putR (ty := .array .byte) 0 13 dX8_init_10 fl_X8_9 (at_1 (by decide)) rfl (by decide) (Or.inr ⟨rfl, cl_X8⟩) (by decide +kernel) (Or.inr ⟨_, rfl⟩) (fun h => by cases h) rfl rfl ?_
  show XX g false (d + 1) P_X8_init 13 [(2, 1)] [] 3 K4 6 Q
  refine E_aload_n 14 dX8_init_13 rfl (ac_1.bnd) rfl ?_
  refine E_sipush 17 dX8_init_14 (by decide) rfl ?_
  refine E_newa 19 dX8_init_17 (rfl : kd 3 = (20, 501)) (by decide) rfl rfl (by decide) mw_167 (by decide) rfl ?_
  show XX g false (d + 1) P_X8_init 19 [(2, 1)] [(2, 3), (2, 1)] 4 K5 6 Q
  refine E_putR (ty := .array .int) 1 22 dX8_init_19 fl_X8_13 (at_1 (by decide)) rfl (by decide) (Or.inr ⟨rfl, cl_X8⟩) (by decide +kernel) (Or.inr ⟨_, rfl⟩) (fun h => by cases h) rfl rfl ?_
  show XX g false (d + 1) P_X8_init 22 [(2, 1)] [] 4 K6 6 Q
  refine E_aload_n 23 dX8_init_22 rfl (ac_1.bnd) rfl ?_
  refine E_sipush 26 dX8_init_23 (by decide) rfl ?_
  refine E_newa 28 dX8_init_26 (rfl : kd 4 = (20, 501)) (by decide) rfl rfl (by decide) mw_167 (by decide) rfl ?_
  show XX g false (d + 1) P_X8_init 28 [(2, 1)] [(2, 4), (2, 1)] 5 K7 6 Q
  refine E_putR (ty := .array .int) 2 31 dX8_init_28 fl_X8_17 (at_1 (by decide)) rfl (by decide) (Or.inr ⟨rfl, cl_X8⟩) (by decide +kernel) (Or.inr ⟨_, rfl⟩) (fun h => by cases h) rfl rfl ?_
  show XX g false (d + 1) P_X8_init 31 [(2, 1)] [] 5 K8 6 Q
  refine E_aload_n 32 dX8_init_31 rfl (ac_1.bnd) rfl ?_
  refine E_sipush 35 dX8_init_32 (by decide) rfl ?_
  refine E_newa 37 dX8_init_35 (rfl : kd 5 = (20, 501)) (by decide) rfl rfl (by decide) mw_167 (by decide) rfl ?_
  show XX g false (d + 1) P_X8_init 37 [(2, 1)] [(2, 5), (2, 1)] 6 K9 6 Q
  refine E_putR (ty := .array .int) 3 40 dX8_init_37 fl_X8_20 (at_1 (by decide)) rfl (by decide) (Or.inr ⟨rfl, cl_X8⟩) (by decide +kernel) (Or.inr ⟨_, rfl⟩) (fun h => by cases h) rfl rfl ?_
  show XX g false (d + 1) P_X8_init 40 [(2, 1)] [] 6 K10 6 Q
  exact E_vret dX8_init_40 rfl rfl w
theorem C4_X4_init {g : PG} {d : Nat} {Q : Int → PS → Prop} (w : Q 0 K19) : XX g false (d + 1) P_X4_init 0 [(2, 7)] [] 8 K13 11 Q := by
  refine E_aload_n 1 dX4_init_0 rfl (ac_7.bnd) rfl ?_
  refine E_objI 4 dX4_init_1 mw_179 mw_136 mw_137 (by decide) (Nat.le_of_ble_eq_true rfl) rfl ?_
  refine E_aload_n 5 dX4_init_4 rfl (ac_7.bnd) rfl ?_
  refine E_sipush 8 dX4_init_5 (by decide) rfl ?_
  refine E_newa 10 dX4_init_8 (rfl : kd 8 = (20, 500)) (by decide) rfl rfl (by decide) mw_167 (by decide) rfl ?_
  show XX g false (d + 1) P_X4_init 10 [(2, 7)] [(2, 8), (2, 7)] 9 K14 11 Q
  refine E_putR (ty := .array .int) 0 13 dX4_init_10 fl_X4_9 (at_7 (by decide)) rfl (by decide) (Or.inr ⟨rfl, cl_X4⟩) (by decide +kernel) (Or.inr ⟨_, rfl⟩) (fun h => by cases h) rfl rfl ?_
  show XX g false (d + 1) P_X4_init 13 [(2, 7)] [] 9 K15 11 Q
  refine E_aload_n 14 dX4_init_13 rfl (ac_7.bnd) rfl ?_
  refine E_bipush 16 dX4_init_14 (by decide) rfl ?_
  refine E_newa 18 dX4_init_16 (rfl : kd 9 = (20, 17)) (by decide) rfl rfl (by decide) mw_167 (by decide) rfl ?_
  show XX g false (d + 1) P_X4_init 18 [(2, 7)] [(2, 9), (2, 7)] 10 K16 11 Q
  refine E_putR (ty := .array .int) 1 21 dX4_init_18 fl_X4_15 (at_7 (by decide)) rfl (by decide) (Or.inr ⟨rfl, cl_X4⟩) (by decide +kernel) (Or.inr ⟨_, rfl⟩) (fun h => by cases h) rfl rfl ?_
  show XX g false (d + 1) P_X4_init 21 [(2, 7)] [] 10 K17 11 Q
  refine E_aload_n 22 dX4_init_21 rfl (ac_7.bnd) rfl ?_
  refine E_bipush 24 dX4_init_22 (by decide) rfl ?_
  refine E_newa 26 dX4_init_24 (rfl : kd 10 = (20, 16)) (by decide) rfl rfl (by decide) mw_167 (by decide) rfl ?_
  show XX g false (d + 1) P_X4_init 26 [(2, 7)] [(2, 10), (2, 7)] 11 K18 11 Q
  refine E_putR (ty := .array .int) 2 29 dX4_init_26 fl_X4_18 (at_7 (by decide)) rfl (by decide) (Or.inr ⟨rfl, cl_X4⟩) (by decide +kernel) (Or.inr ⟨_, rfl⟩) (fun h => by cases h) rfl rfl ?_
  show XX g false (d + 1) P_X4_init 29 [(2, 7)] [] 11 K19 11 Q
  exact E_vret dX4_init_29 rfl rfl w
theorem C6_X1_clear {g : PG} {d : Nat} {Q : Int → PS → Prop} (w : Q 0 K24) : XX g false (d + 1) P_X1_clear 0 [(2, 11)] [] 13 K23 13 Q := by
  refine E_aload_n 1 dX1_clear_0 rfl (ac_11.bnd) rfl ?_
  refine E_get 0 4 dX1_clear_1 fl_X1_9 (at_11 (by decide)) rfl (by decide) rfl rfl ?_
  refine E_conv (by decide +kernel : K23 11 0 = 12) ?_
  refine E_bipush 6 dX1_clear_4 (by decide) rfl ?_
  refine E_callS (as := [(2, 12), (0, 9)]) 9 dX1_clear_6 cf_J7_fill_53178 (Or.inl mw_210) mw_211 rfl rfl (Nat.le_of_ble_eq_true rfl) (Nat.le_of_ble_eq_true rfl) (by decide) rfl (f_fillI (at_12 (by decide)) (by decide) ?_)
  show XX g false (d + 1) P_X1_clear 9 [(2, 11)] [] 13 K24 13 Q
  exact E_vret dX1_clear_9 rfl rfl w
theorem C5_X1_init {g : PG} {d : Nat} {Q : Int → PS → Prop} (w : Q 0 K24) : XX g false (d + 2) P_X1_init 0 [(2, 11)] [] 12 K21 13 Q := by
  refine E_aload_n 1 dX1_init_0 rfl (ac_11.bnd) rfl ?_
  refine E_objI 4 dX1_init_1 mw_205 mw_136 mw_137 (by decide) (Nat.le_of_ble_eq_true rfl) rfl ?_
  refine E_aload_n 5 dX1_init_4 rfl (ac_11.bnd) rfl ?_
  refine E_sipush 8 dX1_init_5 (by decide) rfl ?_
  refine E_newa 10 dX1_init_8 (rfl : kd 12 = (20, 256)) (by decide) rfl rfl (by decide) mw_167 (by decide) rfl ?_
  show XX g false (d + 2) P_X1_init 10 [(2, 11)] [(2, 12), (2, 11)] 13 K22 13 Q
  refine E_putR (ty := .array .int) 0 13 dX1_init_10 fl_X1_9 (at_11 (by decide)) rfl (by decide) (Or.inr ⟨rfl, cl_X1⟩) (by decide +kernel) (Or.inr ⟨_, rfl⟩) (fun h => by cases h) rfl rfl ?_
  show XX g false (d + 2) P_X1_init 13 [(2, 11)] [] 13 K23 13 Q
  refine E_aload_n 14 dX1_init_13 rfl (ac_11.bnd) rfl ?_
  refine E_callV (as := []) (N1 := 13) 17 dX1_init_14 cf_X1_clear mw_206 mw_207 mw_208 (at_11 (by decide)) (by decide) cl_X1 rfl rfl (Nat.le_of_ble_eq_true rfl) (Nat.le_of_ble_eq_true rfl) (by decide) rfl (C6_X1_clear ?_)
  show XX g false (d + 2) P_X1_init 17 [(2, 11)] [] 13 K24 13 Q
  exact E_vret dX1_init_17 rfl rfl w
theorem C3_X6_init {g : PG} {d : Nat} {Q : Int → PS → Prop} (w : Q 0 K26) : XX g false (d + 3) P_X6_init 0 [(2, 6), (2, 1)] [] 7 K12 13 Q := by
  refine E_aload_n 1 dX6_init_0 rfl (ac_6.bnd) rfl ?_
  refine E_objI 4 dX6_init_1 mw_173 mw_136 mw_137 (by decide) (Nat.le_of_ble_eq_true rfl) rfl ?_
  refine E_aload_n 5 dX6_init_4 rfl (ac_6.bnd) rfl ?_
  refine E_new (C0 := RX4) 8 dX6_init_5 (rfl : kd 7 = (4, 5)) (by decide) rfl cl_X4 mw_174 mw_175 mw_111 (by decide) rfl ?_
  show XX g false (d + 3) P_X6_init 8 [(2, 6), (2, 1)] [(2, 7), (2, 6)] 8 K13 13 Q
  refine E_dup 9 dX6_init_8 n21 rfl ?_
  refine E_callI (as := []) (N1 := 11) 12 dX6_init_9 cf_X4_init rfl rfl (Or.inr nst_X6_11) mw_177 (at_7 (by decide)) rfl rfl (Nat.le_of_ble_eq_true rfl) (Nat.le_of_ble_eq_true rfl) (by decide) rfl (C4_X4_init ?_)
  show XX g false (d + 3) P_X6_init 12 [(2, 6), (2, 1)] [(2, 7), (2, 6)] 11 K19 13 Q
  refine E_putR (ty := .object "NoTwoTogether$Lines") 1 15 dX6_init_12 fl_X6_12 (at_6 (by decide)) rfl (by decide) (Or.inr ⟨rfl, cl_X6⟩) (by decide +kernel) (Or.inl ⟨_, rfl⟩) (fun h => by cases h) rfl rfl ?_
  show XX g false (d + 3) P_X6_init 15 [(2, 6), (2, 1)] [] 11 K20 13 Q
  refine E_aload_n 16 dX6_init_15 rfl (ac_6.bnd) rfl ?_
  refine E_new (C0 := RX1) 19 dX6_init_16 (rfl : kd 11 = (1, 1)) (by decide) rfl cl_X1 mw_200 mw_201 mw_112 (by decide) rfl ?_
  show XX g false (d + 3) P_X6_init 19 [(2, 6), (2, 1)] [(2, 11), (2, 6)] 12 K21 13 Q
  refine E_dup 20 dX6_init_19 n21 rfl ?_
  refine E_callI (as := []) (N1 := 13) 23 dX6_init_20 cf_X1_init rfl rfl (Or.inl mw_202) mw_203 (at_11 (by decide)) rfl rfl (Nat.le_of_ble_eq_true rfl) (Nat.le_of_ble_eq_true rfl) (by decide) rfl (C5_X1_init ?_)
  show XX g false (d + 3) P_X6_init 23 [(2, 6), (2, 1)] [(2, 11), (2, 6)] 13 K24 13 Q
  refine E_putR (ty := .object "NoTwoTogether$Breaks") 2 26 dX6_init_23 fl_X6_21 (at_6 (by decide)) rfl (by decide) (Or.inr ⟨rfl, cl_X6⟩) (by decide +kernel) (Or.inl ⟨_, rfl⟩) (fun h => by cases h) rfl rfl ?_
  show XX g false (d + 3) P_X6_init 26 [(2, 6), (2, 1)] [] 13 K25 13 Q
  refine E_aload_n 27 dX6_init_26 rfl (ac_6.bnd) rfl ?_
  refine E_aload_n 28 dX6_init_27 rfl (ac_1.bnd) rfl ?_
  refine E_putR (ty := .object "NoTwoTogether$Tape") 0 31 dX6_init_28 fl_X6_25 (at_6 (by decide)) rfl (by decide) (Or.inr ⟨rfl, cl_X6⟩) (by decide +kernel) (Or.inl ⟨_, rfl⟩) (fun h => by cases h) rfl rfl ?_
  show XX g false (d + 3) P_X6_init 31 [(2, 6), (2, 1)] [] 13 K26 13 Q
  exact E_vret dX6_init_31 rfl rfl w
theorem C8_X4_init {g : PG} {d : Nat} {Q : Int → PS → Prop} (w : Q 0 K35) : XX g false (d + 1) P_X4_init 0 [(2, 14)] [] 15 K29 18 Q := by
  refine E_aload_n 1 dX4_init_0 rfl (ac_14.bnd) rfl ?_
  refine E_objI 4 dX4_init_1 mw_179 mw_136 mw_137 (by decide) (Nat.le_of_ble_eq_true rfl) rfl ?_
  refine E_aload_n 5 dX4_init_4 rfl (ac_14.bnd) rfl ?_
  refine E_sipush 8 dX4_init_5 (by decide) rfl ?_
  refine E_newa 10 dX4_init_8 (rfl : kd 15 = (20, 500)) (by decide) rfl rfl (by decide) mw_167 (by decide) rfl ?_
  show XX g false (d + 1) P_X4_init 10 [(2, 14)] [(2, 15), (2, 14)] 16 K30 18 Q
  refine E_putR (ty := .array .int) 0 13 dX4_init_10 fl_X4_9 (at_14 (by decide)) rfl (by decide) (Or.inr ⟨rfl, cl_X4⟩) (by decide +kernel) (Or.inr ⟨_, rfl⟩) (fun h => by cases h) rfl rfl ?_
  show XX g false (d + 1) P_X4_init 13 [(2, 14)] [] 16 K31 18 Q
  refine E_aload_n 14 dX4_init_13 rfl (ac_14.bnd) rfl ?_
  refine E_bipush 16 dX4_init_14 (by decide) rfl ?_
  refine E_newa 18 dX4_init_16 (rfl : kd 16 = (20, 17)) (by decide) rfl rfl (by decide) mw_167 (by decide) rfl ?_
  show XX g false (d + 1) P_X4_init 18 [(2, 14)] [(2, 16), (2, 14)] 17 K32 18 Q
  refine E_putR (ty := .array .int) 1 21 dX4_init_18 fl_X4_15 (at_14 (by decide)) rfl (by decide) (Or.inr ⟨rfl, cl_X4⟩) (by decide +kernel) (Or.inr ⟨_, rfl⟩) (fun h => by cases h) rfl rfl ?_
  show XX g false (d + 1) P_X4_init 21 [(2, 14)] [] 17 K33 18 Q
  refine E_aload_n 22 dX4_init_21 rfl (ac_14.bnd) rfl ?_
  refine E_bipush 24 dX4_init_22 (by decide) rfl ?_
  refine E_newa 26 dX4_init_24 (rfl : kd 17 = (20, 16)) (by decide) rfl rfl (by decide) mw_167 (by decide) rfl ?_
  show XX g false (d + 1) P_X4_init 26 [(2, 14)] [(2, 17), (2, 14)] 18 K34 18 Q
  refine E_putR (ty := .array .int) 2 29 dX4_init_26 fl_X4_18 (at_14 (by decide)) rfl (by decide) (Or.inr ⟨rfl, cl_X4⟩) (by decide +kernel) (Or.inr ⟨_, rfl⟩) (fun h => by cases h) rfl rfl ?_
  show XX g false (d + 1) P_X4_init 29 [(2, 14)] [] 18 K35 18 Q
  exact E_vret dX4_init_29 rfl rfl w
theorem C9_X4_init {g : PG} {d : Nat} {Q : Int → PS → Prop} (w : Q 0 K43) : XX g false (d + 1) P_X4_init 0 [(2, 18)] [] 19 K37 22 Q := by
  refine E_aload_n 1 dX4_init_0 rfl (ac_18.bnd) rfl ?_
  refine E_objI 4 dX4_init_1 mw_179 mw_136 mw_137 (by decide) (Nat.le_of_ble_eq_true rfl) rfl ?_
  refine E_aload_n 5 dX4_init_4 rfl (ac_18.bnd) rfl ?_
  refine E_sipush 8 dX4_init_5 (by decide) rfl ?_
  refine E_newa 10 dX4_init_8 (rfl : kd 19 = (20, 500)) (by decide) rfl rfl (by decide) mw_167 (by decide) rfl ?_
  show XX g false (d + 1) P_X4_init 10 [(2, 18)] [(2, 19), (2, 18)] 20 K38 22 Q
  refine E_putR (ty := .array .int) 0 13 dX4_init_10 fl_X4_9 (at_18 (by decide)) rfl (by decide) (Or.inr ⟨rfl, cl_X4⟩) (by decide +kernel) (Or.inr ⟨_, rfl⟩) (fun h => by cases h) rfl rfl ?_
  show XX g false (d + 1) P_X4_init 13 [(2, 18)] [] 20 K39 22 Q
  refine E_aload_n 14 dX4_init_13 rfl (ac_18.bnd) rfl ?_
  refine E_bipush 16 dX4_init_14 (by decide) rfl ?_
  refine E_newa 18 dX4_init_16 (rfl : kd 20 = (20, 17)) (by decide) rfl rfl (by decide) mw_167 (by decide) rfl ?_
  show XX g false (d + 1) P_X4_init 18 [(2, 18)] [(2, 20), (2, 18)] 21 K40 22 Q
  refine E_putR (ty := .array .int) 1 21 dX4_init_18 fl_X4_15 (at_18 (by decide)) rfl (by decide) (Or.inr ⟨rfl, cl_X4⟩) (by decide +kernel) (Or.inr ⟨_, rfl⟩) (fun h => by cases h) rfl rfl ?_
  show XX g false (d + 1) P_X4_init 21 [(2, 18)] [] 21 K41 22 Q
  refine E_aload_n 22 dX4_init_21 rfl (ac_18.bnd) rfl ?_
  refine E_bipush 24 dX4_init_22 (by decide) rfl ?_
  refine E_newa 26 dX4_init_24 (rfl : kd 21 = (20, 16)) (by decide) rfl rfl (by decide) mw_167 (by decide) rfl ?_
  show XX g false (d + 1) P_X4_init 26 [(2, 18)] [(2, 21), (2, 18)] 22 K42 22 Q
  refine E_putR (ty := .array .int) 2 29 dX4_init_26 fl_X4_18 (at_18 (by decide)) rfl (by decide) (Or.inr ⟨rfl, cl_X4⟩) (by decide +kernel) (Or.inr ⟨_, rfl⟩) (fun h => by cases h) rfl rfl ?_
  show XX g false (d + 1) P_X4_init 29 [(2, 18)] [] 22 K43 22 Q
  exact E_vret dX4_init_29 rfl rfl w
theorem C10_X4_init {g : PG} {d : Nat} {Q : Int → PS → Prop} (w : Q 0 K51) : XX g false (d + 1) P_X4_init 0 [(2, 22)] [] 23 K45 26 Q := by
  refine E_aload_n 1 dX4_init_0 rfl (ac_22.bnd) rfl ?_
  refine E_objI 4 dX4_init_1 mw_179 mw_136 mw_137 (by decide) (Nat.le_of_ble_eq_true rfl) rfl ?_
  refine E_aload_n 5 dX4_init_4 rfl (ac_22.bnd) rfl ?_
  refine E_sipush 8 dX4_init_5 (by decide) rfl ?_
  refine E_newa 10 dX4_init_8 (rfl : kd 23 = (20, 500)) (by decide) rfl rfl (by decide) mw_167 (by decide) rfl ?_
  show XX g false (d + 1) P_X4_init 10 [(2, 22)] [(2, 23), (2, 22)] 24 K46 26 Q
  refine E_putR (ty := .array .int) 0 13 dX4_init_10 fl_X4_9 (at_22 (by decide)) rfl (by decide) (Or.inr ⟨rfl, cl_X4⟩) (by decide +kernel) (Or.inr ⟨_, rfl⟩) (fun h => by cases h) rfl rfl ?_
  show XX g false (d + 1) P_X4_init 13 [(2, 22)] [] 24 K47 26 Q
  refine E_aload_n 14 dX4_init_13 rfl (ac_22.bnd) rfl ?_
  refine E_bipush 16 dX4_init_14 (by decide) rfl ?_
  refine E_newa 18 dX4_init_16 (rfl : kd 24 = (20, 17)) (by decide) rfl rfl (by decide) mw_167 (by decide) rfl ?_
  show XX g false (d + 1) P_X4_init 18 [(2, 22)] [(2, 24), (2, 22)] 25 K48 26 Q
  refine E_putR (ty := .array .int) 1 21 dX4_init_18 fl_X4_15 (at_22 (by decide)) rfl (by decide) (Or.inr ⟨rfl, cl_X4⟩) (by decide +kernel) (Or.inr ⟨_, rfl⟩) (fun h => by cases h) rfl rfl ?_
  show XX g false (d + 1) P_X4_init 21 [(2, 22)] [] 25 K49 26 Q
  refine E_aload_n 22 dX4_init_21 rfl (ac_22.bnd) rfl ?_
  refine E_bipush 24 dX4_init_22 (by decide) rfl ?_
  refine E_newa 26 dX4_init_24 (rfl : kd 25 = (20, 16)) (by decide) rfl rfl (by decide) mw_167 (by decide) rfl ?_
  show XX g false (d + 1) P_X4_init 26 [(2, 22)] [(2, 25), (2, 22)] 26 K50 26 Q
  refine E_putR (ty := .array .int) 2 29 dX4_init_26 fl_X4_18 (at_22 (by decide)) rfl (by decide) (Or.inr ⟨rfl, cl_X4⟩) (by decide +kernel) (Or.inr ⟨_, rfl⟩) (fun h => by cases h) rfl rfl ?_
  show XX g false (d + 1) P_X4_init 29 [(2, 22)] [] 26 K51 26 Q
  exact E_vret dX4_init_29 rfl rfl w
theorem C12_X1_clear {g : PG} {d : Nat} {Q : Int → PS → Prop} (w : Q 0 K56) : XX g false (d + 1) P_X1_clear 0 [(2, 26)] [] 28 K55 28 Q := by
  refine E_aload_n 1 dX1_clear_0 rfl (ac_26.bnd) rfl ?_
  refine E_get 0 4 dX1_clear_1 fl_X1_9 (at_26 (by decide)) rfl (by decide) rfl rfl ?_
  refine E_conv (by decide +kernel : K55 26 0 = 27) ?_
  refine E_bipush 6 dX1_clear_4 (by decide) rfl ?_
  refine E_callS (as := [(2, 27), (0, 9)]) 9 dX1_clear_6 cf_J7_fill_53178 (Or.inl mw_210) mw_211 rfl rfl (Nat.le_of_ble_eq_true rfl) (Nat.le_of_ble_eq_true rfl) (by decide) rfl (f_fillI (at_27 (by decide)) (by decide) ?_)
  show XX g false (d + 1) P_X1_clear 9 [(2, 26)] [] 28 K56 28 Q
  exact E_vret dX1_clear_9 rfl rfl w
theorem C11_X1_init {g : PG} {d : Nat} {Q : Int → PS → Prop} (w : Q 0 K56) : XX g false (d + 2) P_X1_init 0 [(2, 26)] [] 27 K53 28 Q := by
  refine E_aload_n 1 dX1_init_0 rfl (ac_26.bnd) rfl ?_
  refine E_objI 4 dX1_init_1 mw_205 mw_136 mw_137 (by decide) (Nat.le_of_ble_eq_true rfl) rfl ?_
  refine E_aload_n 5 dX1_init_4 rfl (ac_26.bnd) rfl ?_
  refine E_sipush 8 dX1_init_5 (by decide) rfl ?_
  refine E_newa 10 dX1_init_8 (rfl : kd 27 = (20, 256)) (by decide) rfl rfl (by decide) mw_167 (by decide) rfl ?_
  show XX g false (d + 2) P_X1_init 10 [(2, 26)] [(2, 27), (2, 26)] 28 K54 28 Q
  refine E_putR (ty := .array .int) 0 13 dX1_init_10 fl_X1_9 (at_26 (by decide)) rfl (by decide) (Or.inr ⟨rfl, cl_X1⟩) (by decide +kernel) (Or.inr ⟨_, rfl⟩) (fun h => by cases h) rfl rfl ?_
  show XX g false (d + 2) P_X1_init 13 [(2, 26)] [] 28 K55 28 Q
  refine E_aload_n 14 dX1_init_13 rfl (ac_26.bnd) rfl ?_
  refine E_callV (as := []) (N1 := 28) 17 dX1_init_14 cf_X1_clear mw_206 mw_207 mw_208 (at_26 (by decide)) (by decide) cl_X1 rfl rfl (Nat.le_of_ble_eq_true rfl) (Nat.le_of_ble_eq_true rfl) (by decide) rfl (C12_X1_clear ?_)
  show XX g false (d + 2) P_X1_init 17 [(2, 26)] [] 28 K56 28 Q
  exact E_vret dX1_init_17 rfl rfl w
theorem C7_X9_init {g : PG} {d : Nat} {Q : Int → PS → Prop} (w : Q 0 K57) : XX g false (d + 3) P_X9_init 0 [(2, 13)] [] 14 K28 28 Q := by
  refine E_aload_n 1 dX9_init_0 rfl (ac_13.bnd) rfl ?_
  refine E_objI 4 dX9_init_1 mw_245 mw_136 mw_137 (by decide) (Nat.le_of_ble_eq_true rfl) rfl ?_
  refine E_aload_n 5 dX9_init_4 rfl (ac_13.bnd) rfl ?_
  refine E_new (C0 := RX4) 8 dX9_init_5 (rfl : kd 14 = (4, 5)) (by decide) rfl cl_X4 mw_246 mw_175 mw_111 (by decide) rfl ?_
  show XX g false (d + 3) P_X9_init 8 [(2, 13)] [(2, 14), (2, 13)] 15 K29 28 Q
  refine E_dup 9 dX9_init_8 n21 rfl ?_
  refine E_callI (as := []) (N1 := 18) 12 dX9_init_9 cf_X4_init rfl rfl (Or.inr nst_X9_9) mw_177 (at_14 (by decide)) rfl rfl (Nat.le_of_ble_eq_true rfl) (Nat.le_of_ble_eq_true rfl) (by decide) rfl (C8_X4_init ?_)
  show XX g false (d + 3) P_X9_init 12 [(2, 13)] [(2, 14), (2, 13)] 18 K35 28 Q
  refine E_putR (ty := .object "NoTwoTogether$Lines") 0 15 dX9_init_12 fl_X9_10 (at_13 (by decide)) rfl (by decide) (Or.inr ⟨rfl, cl_X9⟩) (by decide +kernel) (Or.inl ⟨_, rfl⟩) (fun h => by cases h) rfl rfl ?_
  show XX g false (d + 3) P_X9_init 15 [(2, 13)] [] 18 K36 28 Q
  refine E_aload_n 16 dX9_init_15 rfl (ac_13.bnd) rfl ?_
  refine E_new (C0 := RX4) 19 dX9_init_16 (rfl : kd 18 = (4, 5)) (by decide) rfl cl_X4 mw_246 mw_175 mw_111 (by decide) rfl ?_
  show XX g false (d + 3) P_X9_init 19 [(2, 13)] [(2, 18), (2, 13)] 19 K37 28 Q
  refine E_dup 20 dX9_init_19 n21 rfl ?_
  refine E_callI (as := []) (N1 := 22) 23 dX9_init_20 cf_X4_init rfl rfl (Or.inr nst_X9_9) mw_177 (at_18 (by decide)) rfl rfl (Nat.le_of_ble_eq_true rfl) (Nat.le_of_ble_eq_true rfl) (by decide) rfl (C9_X4_init ?_)
  show XX g false (d + 3) P_X9_init 23 [(2, 13)] [(2, 18), (2, 13)] 22 K43 28 Q
  refine E_putR (ty := .object "NoTwoTogether$Lines") 1 26 dX9_init_23 fl_X9_16 (at_13 (by decide)) rfl (by decide) (Or.inr ⟨rfl, cl_X9⟩) (by decide +kernel) (Or.inl ⟨_, rfl⟩) (fun h => by cases h) rfl rfl ?_
  show XX g false (d + 3) P_X9_init 26 [(2, 13)] [] 22 K44 28 Q
  refine E_aload_n 27 dX9_init_26 rfl (ac_13.bnd) rfl ?_
  refine E_new (C0 := RX4) 30 dX9_init_27 (rfl : kd 22 = (4, 5)) (by decide) rfl cl_X4 mw_246 mw_175 mw_111 (by decide) rfl ?_
  show XX g false (d + 3) P_X9_init 30 [(2, 13)] [(2, 22), (2, 13)] 23 K45 28 Q
  refine E_dup 31 dX9_init_30 n21 rfl ?_
  refine E_callI (as := []) (N1 := 26) 34 dX9_init_31 cf_X4_init rfl rfl (Or.inr nst_X9_9) mw_177 (at_22 (by decide)) rfl rfl (Nat.le_of_ble_eq_true rfl) (Nat.le_of_ble_eq_true rfl) (by decide) rfl (C10_X4_init ?_)
  show XX g false (d + 3) P_X9_init 34 [(2, 13)] [(2, 22), (2, 13)] 26 K51 28 Q
  refine E_putR (ty := .object "NoTwoTogether$Lines") 2 37 dX9_init_34 fl_X9_19 (at_13 (by decide)) rfl (by decide) (Or.inr ⟨rfl, cl_X9⟩) (by decide +kernel) (Or.inl ⟨_, rfl⟩) (fun h => by cases h) rfl rfl ?_
  show XX g false (d + 3) P_X9_init 37 [(2, 13)] [] 26 K52 28 Q
  refine E_aload_n 38 dX9_init_37 rfl (ac_13.bnd) rfl ?_
  refine E_new (C0 := RX1) 41 dX9_init_38 (rfl : kd 26 = (1, 1)) (by decide) rfl cl_X1 mw_248 mw_201 mw_112 (by decide) rfl ?_
  show XX g false (d + 3) P_X9_init 41 [(2, 13)] [(2, 26), (2, 13)] 27 K53 28 Q
  refine E_dup 42 dX9_init_41 n21 rfl ?_
  refine E_callI (as := []) (N1 := 28) 45 dX9_init_42 cf_X1_init rfl rfl (Or.inl mw_249) mw_203 (at_26 (by decide)) rfl rfl (Nat.le_of_ble_eq_true rfl) (Nat.le_of_ble_eq_true rfl) (by decide) rfl (C11_X1_init ?_)
  show XX g false (d + 3) P_X9_init 45 [(2, 13)] [(2, 26), (2, 13)] 28 K56 28 Q
  refine E_putR (ty := .object "NoTwoTogether$Breaks") 3 48 dX9_init_45 fl_X9_25 (at_13 (by decide)) rfl (by decide) (Or.inr ⟨rfl, cl_X9⟩) (by decide +kernel) (Or.inl ⟨_, rfl⟩) (fun h => by cases h) rfl rfl ?_
  show XX g false (d + 3) P_X9_init 48 [(2, 13)] [] 28 K57 28 Q
  exact E_vret dX9_init_48 rfl rfl w
theorem C14_X4_init {g : PG} {d : Nat} {Q : Int → PS → Prop} (w : Q 0 K66) : XX g false (d + 1) P_X4_init 0 [(2, 29)] [] 30 K60 33 Q := by
  refine E_aload_n 1 dX4_init_0 rfl (ac_29.bnd) rfl ?_
  refine E_objI 4 dX4_init_1 mw_179 mw_136 mw_137 (by decide) (Nat.le_of_ble_eq_true rfl) rfl ?_
  refine E_aload_n 5 dX4_init_4 rfl (ac_29.bnd) rfl ?_
  refine E_sipush 8 dX4_init_5 (by decide) rfl ?_
  refine E_newa 10 dX4_init_8 (rfl : kd 30 = (20, 500)) (by decide) rfl rfl (by decide) mw_167 (by decide) rfl ?_
  show XX g false (d + 1) P_X4_init 10 [(2, 29)] [(2, 30), (2, 29)] 31 K61 33 Q
  refine E_putR (ty := .array .int) 0 13 dX4_init_10 fl_X4_9 (at_29 (by decide)) rfl (by decide) (Or.inr ⟨rfl, cl_X4⟩) (by decide +kernel) (Or.inr ⟨_, rfl⟩) (fun h => by cases h) rfl rfl ?_
  show XX g false (d + 1) P_X4_init 13 [(2, 29)] [] 31 K62 33 Q
  refine E_aload_n 14 dX4_init_13 rfl (ac_29.bnd) rfl ?_
  refine E_bipush 16 dX4_init_14 (by decide) rfl ?_
  refine E_newa 18 dX4_init_16 (rfl : kd 31 = (20, 17)) (by decide) rfl rfl (by decide) mw_167 (by decide) rfl ?_
  show XX g false (d + 1) P_X4_init 18 [(2, 29)] [(2, 31), (2, 29)] 32 K63 33 Q
  refine E_putR (ty := .array .int) 1 21 dX4_init_18 fl_X4_15 (at_29 (by decide)) rfl (by decide) (Or.inr ⟨rfl, cl_X4⟩) (by decide +kernel) (Or.inr ⟨_, rfl⟩) (fun h => by cases h) rfl rfl ?_
  show XX g false (d + 1) P_X4_init 21 [(2, 29)] [] 32 K64 33 Q
  refine E_aload_n 22 dX4_init_21 rfl (ac_29.bnd) rfl ?_
  refine E_bipush 24 dX4_init_22 (by decide) rfl ?_
  refine E_newa 26 dX4_init_24 (rfl : kd 32 = (20, 16)) (by decide) rfl rfl (by decide) mw_167 (by decide) rfl ?_
  show XX g false (d + 1) P_X4_init 26 [(2, 29)] [(2, 32), (2, 29)] 33 K65 33 Q
  refine E_putR (ty := .array .int) 2 29 dX4_init_26 fl_X4_18 (at_29 (by decide)) rfl (by decide) (Or.inr ⟨rfl, cl_X4⟩) (by decide +kernel) (Or.inr ⟨_, rfl⟩) (fun h => by cases h) rfl rfl ?_
  show XX g false (d + 1) P_X4_init 29 [(2, 29)] [] 33 K66 33 Q
  exact E_vret dX4_init_29 rfl rfl w
theorem C15_X4_init {g : PG} {d : Nat} {Q : Int → PS → Prop} (w : Q 0 K74) : XX g false (d + 1) P_X4_init 0 [(2, 33)] [] 34 K68 37 Q := by
  refine E_aload_n 1 dX4_init_0 rfl (ac_33.bnd) rfl ?_
  refine E_objI 4 dX4_init_1 mw_179 mw_136 mw_137 (by decide) (Nat.le_of_ble_eq_true rfl) rfl ?_
  refine E_aload_n 5 dX4_init_4 rfl (ac_33.bnd) rfl ?_
  refine E_sipush 8 dX4_init_5 (by decide) rfl ?_
  refine E_newa 10 dX4_init_8 (rfl : kd 34 = (20, 500)) (by decide) rfl rfl (by decide) mw_167 (by decide) rfl ?_
  show XX g false (d + 1) P_X4_init 10 [(2, 33)] [(2, 34), (2, 33)] 35 K69 37 Q
  refine E_putR (ty := .array .int) 0 13 dX4_init_10 fl_X4_9 (at_33 (by decide)) rfl (by decide) (Or.inr ⟨rfl, cl_X4⟩) (by decide +kernel) (Or.inr ⟨_, rfl⟩) (fun h => by cases h) rfl rfl ?_
  show XX g false (d + 1) P_X4_init 13 [(2, 33)] [] 35 K70 37 Q
  refine E_aload_n 14 dX4_init_13 rfl (ac_33.bnd) rfl ?_
  refine E_bipush 16 dX4_init_14 (by decide) rfl ?_
  refine E_newa 18 dX4_init_16 (rfl : kd 35 = (20, 17)) (by decide) rfl rfl (by decide) mw_167 (by decide) rfl ?_
  show XX g false (d + 1) P_X4_init 18 [(2, 33)] [(2, 35), (2, 33)] 36 K71 37 Q
  refine E_putR (ty := .array .int) 1 21 dX4_init_18 fl_X4_15 (at_33 (by decide)) rfl (by decide) (Or.inr ⟨rfl, cl_X4⟩) (by decide +kernel) (Or.inr ⟨_, rfl⟩) (fun h => by cases h) rfl rfl ?_
  show XX g false (d + 1) P_X4_init 21 [(2, 33)] [] 36 K72 37 Q
  refine E_aload_n 22 dX4_init_21 rfl (ac_33.bnd) rfl ?_
  refine E_bipush 24 dX4_init_22 (by decide) rfl ?_
  refine E_newa 26 dX4_init_24 (rfl : kd 36 = (20, 16)) (by decide) rfl rfl (by decide) mw_167 (by decide) rfl ?_
  show XX g false (d + 1) P_X4_init 26 [(2, 33)] [(2, 36), (2, 33)] 37 K73 37 Q
  refine E_putR (ty := .array .int) 2 29 dX4_init_26 fl_X4_18 (at_33 (by decide)) rfl (by decide) (Or.inr ⟨rfl, cl_X4⟩) (by decide +kernel) (Or.inr ⟨_, rfl⟩) (fun h => by cases h) rfl rfl ?_
  show XX g false (d + 1) P_X4_init 29 [(2, 33)] [] 37 K74 37 Q
  exact E_vret dX4_init_29 rfl rfl w
theorem C16_X4_init {g : PG} {d : Nat} {Q : Int → PS → Prop} (w : Q 0 K82) : XX g false (d + 1) P_X4_init 0 [(2, 37)] [] 38 K76 41 Q := by
  refine E_aload_n 1 dX4_init_0 rfl (ac_37.bnd) rfl ?_
  refine E_objI 4 dX4_init_1 mw_179 mw_136 mw_137 (by decide) (Nat.le_of_ble_eq_true rfl) rfl ?_
  refine E_aload_n 5 dX4_init_4 rfl (ac_37.bnd) rfl ?_
  refine E_sipush 8 dX4_init_5 (by decide) rfl ?_
  refine E_newa 10 dX4_init_8 (rfl : kd 38 = (20, 500)) (by decide) rfl rfl (by decide) mw_167 (by decide) rfl ?_
  show XX g false (d + 1) P_X4_init 10 [(2, 37)] [(2, 38), (2, 37)] 39 K77 41 Q
  refine E_putR (ty := .array .int) 0 13 dX4_init_10 fl_X4_9 (at_37 (by decide)) rfl (by decide) (Or.inr ⟨rfl, cl_X4⟩) (by decide +kernel) (Or.inr ⟨_, rfl⟩) (fun h => by cases h) rfl rfl ?_
  show XX g false (d + 1) P_X4_init 13 [(2, 37)] [] 39 K78 41 Q
  refine E_aload_n 14 dX4_init_13 rfl (ac_37.bnd) rfl ?_
  refine E_bipush 16 dX4_init_14 (by decide) rfl ?_
  refine E_newa 18 dX4_init_16 (rfl : kd 39 = (20, 17)) (by decide) rfl rfl (by decide) mw_167 (by decide) rfl ?_
  show XX g false (d + 1) P_X4_init 18 [(2, 37)] [(2, 39), (2, 37)] 40 K79 41 Q
  refine E_putR (ty := .array .int) 1 21 dX4_init_18 fl_X4_15 (at_37 (by decide)) rfl (by decide) (Or.inr ⟨rfl, cl_X4⟩) (by decide +kernel) (Or.inr ⟨_, rfl⟩) (fun h => by cases h) rfl rfl ?_
  show XX g false (d + 1) P_X4_init 21 [(2, 37)] [] 40 K80 41 Q
  refine E_aload_n 22 dX4_init_21 rfl (ac_37.bnd) rfl ?_
  refine E_bipush 24 dX4_init_22 (by decide) rfl ?_
  refine E_newa 26 dX4_init_24 (rfl : kd 40 = (20, 16)) (by decide) rfl rfl (by decide) mw_167 (by decide) rfl ?_
  show XX g false (d + 1) P_X4_init 26 [(2, 37)] [(2, 40), (2, 37)] 41 K81 41 Q
  refine E_putR (ty := .array .int) 2 29 dX4_init_26 fl_X4_18 (at_37 (by decide)) rfl (by decide) (Or.inr ⟨rfl, cl_X4⟩) (by decide +kernel) (Or.inr ⟨_, rfl⟩) (fun h => by cases h) rfl rfl ?_
  show XX g false (d + 1) P_X4_init 29 [(2, 37)] [] 41 K82 41 Q
  exact E_vret dX4_init_29 rfl rfl w
theorem C18_X1_clear {g : PG} {d : Nat} {Q : Int → PS → Prop} (w : Q 0 K87) : XX g false (d + 1) P_X1_clear 0 [(2, 41)] [] 43 K86 43 Q := by
  refine E_aload_n 1 dX1_clear_0 rfl (ac_41.bnd) rfl ?_
  refine E_get 0 4 dX1_clear_1 fl_X1_9 (at_41 (by decide)) rfl (by decide) rfl rfl ?_
  refine E_conv (by decide +kernel : K86 41 0 = 42) ?_
  refine E_bipush 6 dX1_clear_4 (by decide) rfl ?_
  refine E_callS (as := [(2, 42), (0, 9)]) 9 dX1_clear_6 cf_J7_fill_53178 (Or.inl mw_210) mw_211 rfl rfl (Nat.le_of_ble_eq_true rfl) (Nat.le_of_ble_eq_true rfl) (by decide) rfl (f_fillI (at_42 (by decide)) (by decide) ?_)
  show XX g false (d + 1) P_X1_clear 9 [(2, 41)] [] 43 K87 43 Q
  exact E_vret dX1_clear_9 rfl rfl w
theorem C17_X1_init {g : PG} {d : Nat} {Q : Int → PS → Prop} (w : Q 0 K87) : XX g false (d + 2) P_X1_init 0 [(2, 41)] [] 42 K84 43 Q := by
  refine E_aload_n 1 dX1_init_0 rfl (ac_41.bnd) rfl ?_
  refine E_objI 4 dX1_init_1 mw_205 mw_136 mw_137 (by decide) (Nat.le_of_ble_eq_true rfl) rfl ?_
  refine E_aload_n 5 dX1_init_4 rfl (ac_41.bnd) rfl ?_
  refine E_sipush 8 dX1_init_5 (by decide) rfl ?_
  refine E_newa 10 dX1_init_8 (rfl : kd 42 = (20, 256)) (by decide) rfl rfl (by decide) mw_167 (by decide) rfl ?_
  show XX g false (d + 2) P_X1_init 10 [(2, 41)] [(2, 42), (2, 41)] 43 K85 43 Q
  refine E_putR (ty := .array .int) 0 13 dX1_init_10 fl_X1_9 (at_41 (by decide)) rfl (by decide) (Or.inr ⟨rfl, cl_X1⟩) (by decide +kernel) (Or.inr ⟨_, rfl⟩) (fun h => by cases h) rfl rfl ?_
  show XX g false (d + 2) P_X1_init 13 [(2, 41)] [] 43 K86 43 Q
  refine E_aload_n 14 dX1_init_13 rfl (ac_41.bnd) rfl ?_
  refine E_callV (as := []) (N1 := 43) 17 dX1_init_14 cf_X1_clear mw_206 mw_207 mw_208 (at_41 (by decide)) (by decide) cl_X1 rfl rfl (Nat.le_of_ble_eq_true rfl) (Nat.le_of_ble_eq_true rfl) (by decide) rfl (C18_X1_clear ?_)
  show XX g false (d + 2) P_X1_init 17 [(2, 41)] [] 43 K87 43 Q
  exact E_vret dX1_init_17 rfl rfl w
theorem C13_X9_init {g : PG} {d : Nat} {Q : Int → PS → Prop} (w : Q 0 K88) : XX g false (d + 3) P_X9_init 0 [(2, 28)] [] 29 K59 43 Q := by
  refine E_aload_n 1 dX9_init_0 rfl (ac_28.bnd) rfl ?_
  refine E_objI 4 dX9_init_1 mw_245 mw_136 mw_137 (by decide) (Nat.le_of_ble_eq_true rfl) rfl ?_
  refine E_aload_n 5 dX9_init_4 rfl (ac_28.bnd) rfl ?_
  refine E_new (C0 := RX4) 8 dX9_init_5 (rfl : kd 29 = (4, 5)) (by decide) rfl cl_X4 mw_246 mw_175 mw_111 (by decide) rfl ?_
  show XX g false (d + 3) P_X9_init 8 [(2, 28)] [(2, 29), (2, 28)] 30 K60 43 Q
  refine E_dup 9 dX9_init_8 n21 rfl ?_
  refine E_callI (as := []) (N1 := 33) 12 dX9_init_9 cf_X4_init rfl rfl (Or.inr nst_X9_9) mw_177 (at_29 (by decide)) rfl rfl (Nat.le_of_ble_eq_true rfl) (Nat.le_of_ble_eq_true rfl) (by decide) rfl (C14_X4_init ?_)
  show XX g false (d + 3) P_X9_init 12 [(2, 28)] [(2, 29), (2, 28)] 33 K66 43 Q
  refine E_putR (ty := .object "NoTwoTogether$Lines") 0 15 dX9_init_12 fl_X9_10 (at_28 (by decide)) rfl (by decide) (Or.inr ⟨rfl, cl_X9⟩) (by decide +kernel) (Or.inl ⟨_, rfl⟩) (fun h => by cases h) rfl rfl ?_
  show XX g false (d + 3) P_X9_init 15 [(2, 28)] [] 33 K67 43 Q
  refine E_aload_n 16 dX9_init_15 rfl (ac_28.bnd) rfl ?_
  refine E_new (C0 := RX4) 19 dX9_init_16 (rfl : kd 33 = (4, 5)) (by decide) rfl cl_X4 mw_246 mw_175 mw_111 (by decide) rfl ?_
  show XX g false (d + 3) P_X9_init 19 [(2, 28)] [(2, 33), (2, 28)] 34 K68 43 Q
  refine E_dup 20 dX9_init_19 n21 rfl ?_
  refine E_callI (as := []) (N1 := 37) 23 dX9_init_20 cf_X4_init rfl rfl (Or.inr nst_X9_9) mw_177 (at_33 (by decide)) rfl rfl (Nat.le_of_ble_eq_true rfl) (Nat.le_of_ble_eq_true rfl) (by decide) rfl (C15_X4_init ?_)
  show XX g false (d + 3) P_X9_init 23 [(2, 28)] [(2, 33), (2, 28)] 37 K74 43 Q
  refine E_putR (ty := .object "NoTwoTogether$Lines") 1 26 dX9_init_23 fl_X9_16 (at_28 (by decide)) rfl (by decide) (Or.inr ⟨rfl, cl_X9⟩) (by decide +kernel) (Or.inl ⟨_, rfl⟩) (fun h => by cases h) rfl rfl ?_
  show XX g false (d + 3) P_X9_init 26 [(2, 28)] [] 37 K75 43 Q
  refine E_aload_n 27 dX9_init_26 rfl (ac_28.bnd) rfl ?_
  refine E_new (C0 := RX4) 30 dX9_init_27 (rfl : kd 37 = (4, 5)) (by decide) rfl cl_X4 mw_246 mw_175 mw_111 (by decide) rfl ?_
  show XX g false (d + 3) P_X9_init 30 [(2, 28)] [(2, 37), (2, 28)] 38 K76 43 Q
  refine E_dup 31 dX9_init_30 n21 rfl ?_
  refine E_callI (as := []) (N1 := 41) 34 dX9_init_31 cf_X4_init rfl rfl (Or.inr nst_X9_9) mw_177 (at_37 (by decide)) rfl rfl (Nat.le_of_ble_eq_true rfl) (Nat.le_of_ble_eq_true rfl) (by decide) rfl (C16_X4_init ?_)
  show XX g false (d + 3) P_X9_init 34 [(2, 28)] [(2, 37), (2, 28)] 41 K82 43 Q
  refine E_putR (ty := .object "NoTwoTogether$Lines") 2 37 dX9_init_34 fl_X9_19 (at_28 (by decide)) rfl (by decide) (Or.inr ⟨rfl, cl_X9⟩) (by decide +kernel) (Or.inl ⟨_, rfl⟩) (fun h => by cases h) rfl rfl ?_
  show XX g false (d + 3) P_X9_init 37 [(2, 28)] [] 41 K83 43 Q
  refine E_aload_n 38 dX9_init_37 rfl (ac_28.bnd) rfl ?_
  refine E_new (C0 := RX1) 41 dX9_init_38 (rfl : kd 41 = (1, 1)) (by decide) rfl cl_X1 mw_248 mw_201 mw_112 (by decide) rfl ?_
  show XX g false (d + 3) P_X9_init 41 [(2, 28)] [(2, 41), (2, 28)] 42 K84 43 Q
  refine E_dup 42 dX9_init_41 n21 rfl ?_
  refine E_callI (as := []) (N1 := 43) 45 dX9_init_42 cf_X1_init rfl rfl (Or.inl mw_249) mw_203 (at_41 (by decide)) rfl rfl (Nat.le_of_ble_eq_true rfl) (Nat.le_of_ble_eq_true rfl) (by decide) rfl (C17_X1_init ?_)
  show XX g false (d + 3) P_X9_init 45 [(2, 28)] [(2, 41), (2, 28)] 43 K87 43 Q
  refine E_putR (ty := .object "NoTwoTogether$Breaks") 3 48 dX9_init_45 fl_X9_25 (at_28 (by decide)) rfl (by decide) (Or.inr ⟨rfl, cl_X9⟩) (by decide +kernel) (Or.inl ⟨_, rfl⟩) (fun h => by cases h) rfl rfl ?_
  show XX g false (d + 3) P_X9_init 48 [(2, 28)] [] 43 K88 43 Q
  exact E_vret dX9_init_48 rfl rfl w
theorem C19_X7_init {g : PG} {d : Nat} {Q : Int → PS → Prop} (w : Q 0 K124) : XX g false (d + 1) P_X7_init 0 [(2, 43)] [] 44 K90 51 Q := by
  refine E_aload_n 1 dX7_init_0 rfl (ac_43.bnd) rfl ?_
  refine E_objI 4 dX7_init_1 mw_276 mw_136 mw_137 (by decide) (Nat.le_of_ble_eq_true rfl) rfl ?_
  refine E_aload_n 5 dX7_init_4 rfl (ac_43.bnd) rfl ?_
  refine E_bipush 7 dX7_init_5 (by decide) rfl ?_
  refine E_newa 9 dX7_init_7 (rfl : kd 44 = (20, 60)) (by decide) rfl rfl (by decide) mw_167 (by decide) rfl ?_
  show XX g false (d + 1) P_X7_init 9 [(2, 43)] [(2, 44), (2, 43)] 45 K91 51 Q
  refine E_putR (ty := .array .int) 1 12 dX7_init_9 fl_X7_11 (at_43 (by decide)) rfl (by decide) (Or.inr ⟨rfl, cl_X7⟩) (by decide +kernel) (Or.inr ⟨_, rfl⟩) (fun h => by cases h) rfl rfl ?_
  show XX g false (d + 1) P_X7_init 12 [(2, 43)] [] 45 K92 51 Q
  refine E_aload_n 13 dX7_init_12 rfl (ac_43.bnd) rfl ?_
  refine E_bipush 15 dX7_init_13 (by decide) rfl ?_
  refine E_newa 17 dX7_init_15 (rfl : kd 45 = (20, 60)) (by decide) rfl rfl (by decide) mw_167 (by decide) rfl ?_
  show XX g false (d + 1) P_X7_init 17 [(2, 43)] [(2, 45), (2, 43)] 46 K93 51 Q
  refine E_putR (ty := .array .int) 2 20 dX7_init_17 fl_X7_15 (at_43 (by decide)) rfl (by decide) (Or.inr ⟨rfl, cl_X7⟩) (by decide +kernel) (Or.inr ⟨_, rfl⟩) (fun h => by cases h) rfl rfl ?_
  show XX g false (d + 1) P_X7_init 20 [(2, 43)] [] 46 K94 51 Q
  refine E_aload_n 21 dX7_init_20 rfl (ac_43.bnd) rfl ?_
  refine E_bipush 23 dX7_init_21 (by decide) rfl ?_
  refine E_newa 25 dX7_init_23 (rfl : kd 46 = (20, 60)) (by decide) rfl rfl (by decide) mw_167 (by decide) rfl ?_
  show XX g false (d + 1) P_X7_init 25 [(2, 43)] [(2, 46), (2, 43)] 47 K95 51 Q
  refine E_putR (ty := .array .int) 3 28 dX7_init_25 fl_X7_18 (at_43 (by decide)) rfl (by decide) (Or.inr ⟨rfl, cl_X7⟩) (by decide +kernel) (Or.inr ⟨_, rfl⟩) (fun h => by cases h) rfl rfl ?_
  show XX g false (d + 1) P_X7_init 28 [(2, 43)] [] 47 K96 51 Q
  refine E_aload_n 29 dX7_init_28 rfl (ac_43.bnd) rfl ?_
  refine E_bipush 31 dX7_init_29 (by decide) rfl ?_
  refine E_newa 33 dX7_init_31 (rfl : kd 47 = (20, 60)) (by decide) rfl rfl (by decide) mw_167 (by decide) rfl ?_
  show XX g false (d + 1) P_X7_init 33 [(2, 43)] [(2, 47), (2, 43)] 48 K97 51 Q
  refine E_putR (ty := .array .int) 4 36 dX7_init_33 fl_X7_21 (at_43 (by decide)) rfl (by decide) (Or.inr ⟨rfl, cl_X7⟩) (by decide +kernel) (Or.inr ⟨_, rfl⟩) (fun h => by cases h) rfl rfl ?_
  show XX g false (d + 1) P_X7_init 36 [(2, 43)] [] 48 K98 51 Q
  refine E_aload_n 37 dX7_init_36 rfl (ac_43.bnd) rfl ?_
  refine E_bipush 39 dX7_init_37 (by decide) rfl ?_
  refine E_newa 41 dX7_init_39 (rfl : kd 48 = (20, 6)) (by decide) rfl rfl (by decide) mw_167 (by decide) rfl ?_
  show XX g false (d + 1) P_X7_init 41 [(2, 43)] [(2, 48), (2, 43)] 49 K99 51 Q
  refine E_dup 42 dX7_init_41 n21 rfl ?_
  refine E_iconst 43 dX7_init_42 (by decide) rfl ?_
  refine E_bipush 45 dX7_init_43 (by decide) rfl ?_
  refine E_iast 46 dX7_init_45 (at_48 (by decide)) (by decide) rfl ?_
  show XX g false (d + 1) P_X7_init 46 [(2, 43)] [(2, 48), (2, 43)] 49 K100 51 Q
  refine E_dup 47 dX7_init_46 n21 rfl ?_
  refine E_iconst 48 dX7_init_47 (by decide) rfl ?_
  refine E_bipush 50 dX7_init_48 (by decide) rfl ?_
  refine E_iast 51 dX7_init_50 (at_48 (by decide)) (by decide) rfl ?_
  show XX g false (d + 1) P_X7_init 51 [(2, 43)] [(2, 48), (2, 43)] 49 K101 51 Q
  refine E_dup 52 dX7_init_51 n21 rfl ?_
  refine E_iconst 53 dX7_init_52 (by decide) rfl ?_
  refine E_bipush 55 dX7_init_53 (by decide) rfl ?_
  refine E_iast 56 dX7_init_55 (at_48 (by decide)) (by decide) rfl ?_
  show XX g false (d + 1) P_X7_init 56 [(2, 43)] [(2, 48), (2, 43)] 49 K102 51 Q
  refine E_dup 57 dX7_init_56 n21 rfl ?_
  refine E_iconst 58 dX7_init_57 (by decide) rfl ?_
  refine E_bipush 60 dX7_init_58 (by decide) rfl ?_
  refine E_iast 61 dX7_init_60 (at_48 (by decide)) (by decide) rfl ?_
  show XX g false (d + 1) P_X7_init 61 [(2, 43)] [(2, 48), (2, 43)] 49 K103 51 Q
  refine E_dup 62 dX7_init_61 n21 rfl ?_
  refine E_iconst 63 dX7_init_62 (by decide) rfl ?_
  refine E_bipush 65 dX7_init_63 (by decide) rfl ?_
  refine E_iast 66 dX7_init_65 (at_48 (by decide)) (by decide) rfl ?_
  show XX g false (d + 1) P_X7_init 66 [(2, 43)] [(2, 48), (2, 43)] 49 K104 51 Q
  refine E_dup 67 dX7_init_66 n21 rfl ?_
  refine E_iconst 68 dX7_init_67 (by decide) rfl ?_
  refine E_bipush 70 dX7_init_68 (by decide) rfl ?_
  refine E_iast 71 dX7_init_70 (at_48 (by decide)) (by decide) rfl ?_
  show XX g false (d + 1) P_X7_init 71 [(2, 43)] [(2, 48), (2, 43)] 49 K105 51 Q
  refine E_putR (ty := .array .int) 7 74 dX7_init_71 fl_X7_24 (at_43 (by decide)) rfl (by decide) (Or.inr ⟨rfl, cl_X7⟩) (by decide +kernel) (Or.inr ⟨_, rfl⟩) (fun h => by cases h) rfl rfl ?_
  show XX g false (d + 1) P_X7_init 74 [(2, 43)] [] 49 K106 51 Q
  refine E_aload_n 75 dX7_init_74 rfl (ac_43.bnd) rfl ?_
  refine E_bipush 77 dX7_init_75 (by decide) rfl ?_
  refine E_newa 79 dX7_init_77 (rfl : kd 49 = (20, 6)) (by decide) rfl rfl (by decide) mw_167 (by decide) rfl ?_
  show XX g false (d + 1) P_X7_init 79 [(2, 43)] [(2, 49), (2, 43)] 50 K107 51 Q
  refine E_dup 80 dX7_init_79 n21 rfl ?_
  refine E_iconst 81 dX7_init_80 (by decide) rfl ?_
  refine E_iconst 82 dX7_init_81 (by decide) rfl ?_
  refine E_iast 83 dX7_init_82 (at_49 (by decide)) (by decide) rfl ?_
  show XX g false (d + 1) P_X7_init 83 [(2, 43)] [(2, 49), (2, 43)] 50 K108 51 Q
  refine E_dup 84 dX7_init_83 n21 rfl ?_
  refine E_iconst 85 dX7_init_84 (by decide) rfl ?_
  refine E_iconst 86 dX7_init_85 (by decide) rfl ?_
  refine E_iast 87 dX7_init_86 (at_49 (by decide)) (by decide) rfl ?_
  show XX g false (d + 1) P_X7_init 87 [(2, 43)] [(2, 49), (2, 43)] 50 K109 51 Q
  refine E_dup 88 dX7_init_87 n21 rfl ?_
  refine E_iconst 89 dX7_init_88 (by decide) rfl ?_
  refine E_iconst 90 dX7_init_89 (by decide) rfl ?_
  refine E_iast 91 dX7_init_90 (at_49 (by decide)) (by decide) rfl ?_
  show XX g false (d + 1) P_X7_init 91 [(2, 43)] [(2, 49), (2, 43)] 50 K110 51 Q
  refine E_dup 92 dX7_init_91 n21 rfl ?_
  refine E_iconst 93 dX7_init_92 (by decide) rfl ?_
  refine E_iconst 94 dX7_init_93 (by decide) rfl ?_
  refine E_iast 95 dX7_init_94 (at_49 (by decide)) (by decide) rfl ?_
  show XX g false (d + 1) P_X7_init 95 [(2, 43)] [(2, 49), (2, 43)] 50 K111 51 Q
  refine E_dup 96 dX7_init_95 n21 rfl ?_
  refine E_iconst 97 dX7_init_96 (by decide) rfl ?_
  refine E_iconst 98 dX7_init_97 (by decide) rfl ?_
  refine E_iast 99 dX7_init_98 (at_49 (by decide)) (by decide) rfl ?_
  show XX g false (d + 1) P_X7_init 99 [(2, 43)] [(2, 49), (2, 43)] 50 K112 51 Q
  refine E_dup 100 dX7_init_99 n21 rfl ?_
  refine E_iconst 101 dX7_init_100 (by decide) rfl ?_
  refine E_iconst 102 dX7_init_101 (by decide) rfl ?_
  refine E_iast 103 dX7_init_102 (at_49 (by decide)) (by decide) rfl ?_
  show XX g false (d + 1) P_X7_init 103 [(2, 43)] [(2, 49), (2, 43)] 50 K113 51 Q
  refine E_putR (ty := .array .int) 8 106 dX7_init_103 fl_X7_27 (at_43 (by decide)) rfl (by decide) (Or.inr ⟨rfl, cl_X7⟩) (by decide +kernel) (Or.inr ⟨_, rfl⟩) (fun h => by cases h) rfl rfl ?_
  show XX g false (d + 1) P_X7_init 106 [(2, 43)] [] 50 K114 51 Q
  refine E_aload_n 107 dX7_init_106 rfl (ac_43.bnd) rfl ?_
  refine E_bipush 109 dX7_init_107 (by decide) rfl ?_
  refine E_newa 111 dX7_init_109 (rfl : kd 50 = (20, 8)) (by decide) rfl rfl (by decide) mw_167 (by decide) rfl ?_
  show XX g false (d + 1) P_X7_init 111 [(2, 43)] [(2, 50), (2, 43)] 51 K115 51 Q
  refine E_dup 112 dX7_init_111 n21 rfl ?_
  refine E_iconst 113 dX7_init_112 (by decide) rfl ?_
  refine E_iconst 114 dX7_init_113 (by decide) rfl ?_
  refine E_iast 115 dX7_init_114 (at_50 (by decide)) (by decide) rfl ?_
  show XX g false (d + 1) P_X7_init 115 [(2, 43)] [(2, 50), (2, 43)] 51 K116 51 Q
  refine E_dup 116 dX7_init_115 n21 rfl ?_
  refine E_iconst 117 dX7_init_116 (by decide) rfl ?_
  refine E_iconst 118 dX7_init_117 (by decide) rfl ?_
  refine E_iast 119 dX7_init_118 (at_50 (by decide)) (by decide) rfl ?_
  show XX g false (d + 1) P_X7_init 119 [(2, 43)] [(2, 50), (2, 43)] 51 K117 51 Q
  refine E_dup 120 dX7_init_119 n21 rfl ?_
  refine E_iconst 121 dX7_init_120 (by decide) rfl ?_
  refine E_bipush 123 dX7_init_121 (by decide) rfl ?_
  refine E_iast 124 dX7_init_123 (at_50 (by decide)) (by decide) rfl ?_
  show XX g false (d + 1) P_X7_init 124 [(2, 43)] [(2, 50), (2, 43)] 51 K118 51 Q
  refine E_dup 125 dX7_init_124 n21 rfl ?_
  refine E_iconst 126 dX7_init_125 (by decide) rfl ?_
  refine E_iconst 127 dX7_init_126 (by decide) rfl ?_
  refine E_iast 128 dX7_init_127 (at_50 (by decide)) (by decide) rfl ?_
  show XX g false (d + 1) P_X7_init 128 [(2, 43)] [(2, 50), (2, 43)] 51 K119 51 Q
  refine E_dup 129 dX7_init_128 n21 rfl ?_
  refine E_iconst 130 dX7_init_129 (by decide) rfl ?_
  refine E_iconst 131 dX7_init_130 (by decide) rfl ?_
  refine E_iast 132 dX7_init_131 (at_50 (by decide)) (by decide) rfl ?_
  show XX g false (d + 1) P_X7_init 132 [(2, 43)] [(2, 50), (2, 43)] 51 K120 51 Q
  refine E_dup 133 dX7_init_132 n21 rfl ?_
  refine E_iconst 134 dX7_init_133 (by decide) rfl ?_
  refine E_bipush 136 dX7_init_134 (by decide) rfl ?_
  refine E_iast 137 dX7_init_136 (at_50 (by decide)) (by decide) rfl ?_
  show XX g false (d + 1) P_X7_init 137 [(2, 43)] [(2, 50), (2, 43)] 51 K121 51 Q
  refine E_dup 138 dX7_init_137 n21 rfl ?_
  refine E_bipush 140 dX7_init_138 (by decide) rfl ?_
  refine E_bipush 142 dX7_init_140 (by decide) rfl ?_
  refine E_iast 143 dX7_init_142 (at_50 (by decide)) (by decide) rfl ?_
  show XX g false (d + 1) P_X7_init 143 [(2, 43)] [(2, 50), (2, 43)] 51 K122 51 Q
  refine E_dup 144 dX7_init_143 n21 rfl ?_
  refine E_bipush 146 dX7_init_144 (by decide) rfl ?_
  refine E_bipush 148 dX7_init_146 (by decide) rfl ?_
  refine E_iast 149 dX7_init_148 (at_50 (by decide)) (by decide) rfl ?_
  show XX g false (d + 1) P_X7_init 149 [(2, 43)] [(2, 50), (2, 43)] 51 K123 51 Q
  refine E_putR (ty := .array .int) 9 152 dX7_init_149 fl_X7_30 (at_43 (by decide)) rfl (by decide) (Or.inr ⟨rfl, cl_X7⟩) (by decide +kernel) (Or.inr ⟨_, rfl⟩) (fun h => by cases h) rfl rfl ?_
  show XX g false (d + 1) P_X7_init 152 [(2, 43)] [] 51 K124 51 Q
  exact E_vret dX7_init_152 rfl rfl w
theorem C20_X7_init {g : PG} {d : Nat} {Q : Int → PS → Prop} (w : Q 0 K160) : XX g false (d + 1) P_X7_init 0 [(2, 51)] [] 52 K126 59 Q := by
  refine E_aload_n 1 dX7_init_0 rfl (ac_51.bnd) rfl ?_
  refine E_objI 4 dX7_init_1 mw_276 mw_136 mw_137 (by decide) (Nat.le_of_ble_eq_true rfl) rfl ?_
  refine E_aload_n 5 dX7_init_4 rfl (ac_51.bnd) rfl ?_
  refine E_bipush 7 dX7_init_5 (by decide) rfl ?_
  refine E_newa 9 dX7_init_7 (rfl : kd 52 = (20, 60)) (by decide) rfl rfl (by decide) mw_167 (by decide) rfl ?_
  show XX g false (d + 1) P_X7_init 9 [(2, 51)] [(2, 52), (2, 51)] 53 K127 59 Q
  refine E_putR (ty := .array .int) 1 12 dX7_init_9 fl_X7_11 (at_51 (by decide)) rfl (by decide) (Or.inr ⟨rfl, cl_X7⟩) (by decide +kernel) (Or.inr ⟨_, rfl⟩) (fun h => by cases h) rfl rfl ?_
  show XX g false (d + 1) P_X7_init 12 [(2, 51)] [] 53 K128 59 Q
  refine E_aload_n 13 dX7_init_12 rfl (ac_51.bnd) rfl ?_
  refine E_bipush 15 dX7_init_13 (by decide) rfl ?_
  refine E_newa 17 dX7_init_15 (rfl : kd 53 = (20, 60)) (by decide) rfl rfl (by decide) mw_167 (by decide) rfl ?_
  show XX g false (d + 1) P_X7_init 17 [(2, 51)] [(2, 53), (2, 51)] 54 K129 59 Q
  refine E_putR (ty := .array .int) 2 20 dX7_init_17 fl_X7_15 (at_51 (by decide)) rfl (by decide) (Or.inr ⟨rfl, cl_X7⟩) (by decide +kernel) (Or.inr ⟨_, rfl⟩) (fun h => by cases h) rfl rfl ?_
  show XX g false (d + 1) P_X7_init 20 [(2, 51)] [] 54 K130 59 Q
  refine E_aload_n 21 dX7_init_20 rfl (ac_51.bnd) rfl ?_
  refine E_bipush 23 dX7_init_21 (by decide) rfl ?_
  refine E_newa 25 dX7_init_23 (rfl : kd 54 = (20, 60)) (by decide) rfl rfl (by decide) mw_167 (by decide) rfl ?_
  show XX g false (d + 1) P_X7_init 25 [(2, 51)] [(2, 54), (2, 51)] 55 K131 59 Q
  refine E_putR (ty := .array .int) 3 28 dX7_init_25 fl_X7_18 (at_51 (by decide)) rfl (by decide) (Or.inr ⟨rfl, cl_X7⟩) (by decide +kernel) (Or.inr ⟨_, rfl⟩) (fun h => by cases h) rfl rfl ?_
  show XX g false (d + 1) P_X7_init 28 [(2, 51)] [] 55 K132 59 Q
  refine E_aload_n 29 dX7_init_28 rfl (ac_51.bnd) rfl ?_
  refine E_bipush 31 dX7_init_29 (by decide) rfl ?_
  refine E_newa 33 dX7_init_31 (rfl : kd 55 = (20, 60)) (by decide) rfl rfl (by decide) mw_167 (by decide) rfl ?_
  show XX g false (d + 1) P_X7_init 33 [(2, 51)] [(2, 55), (2, 51)] 56 K133 59 Q
  refine E_putR (ty := .array .int) 4 36 dX7_init_33 fl_X7_21 (at_51 (by decide)) rfl (by decide) (Or.inr ⟨rfl, cl_X7⟩) (by decide +kernel) (Or.inr ⟨_, rfl⟩) (fun h => by cases h) rfl rfl ?_
  show XX g false (d + 1) P_X7_init 36 [(2, 51)] [] 56 K134 59 Q
  refine E_aload_n 37 dX7_init_36 rfl (ac_51.bnd) rfl ?_
  refine E_bipush 39 dX7_init_37 (by decide) rfl ?_
  refine E_newa 41 dX7_init_39 (rfl : kd 56 = (20, 6)) (by decide) rfl rfl (by decide) mw_167 (by decide) rfl ?_
  show XX g false (d + 1) P_X7_init 41 [(2, 51)] [(2, 56), (2, 51)] 57 K135 59 Q
  refine E_dup 42 dX7_init_41 n21 rfl ?_
  refine E_iconst 43 dX7_init_42 (by decide) rfl ?_
  refine E_bipush 45 dX7_init_43 (by decide) rfl ?_
  refine E_iast 46 dX7_init_45 (at_56 (by decide)) (by decide) rfl ?_
  show XX g false (d + 1) P_X7_init 46 [(2, 51)] [(2, 56), (2, 51)] 57 K136 59 Q
  refine E_dup 47 dX7_init_46 n21 rfl ?_
  refine E_iconst 48 dX7_init_47 (by decide) rfl ?_
  refine E_bipush 50 dX7_init_48 (by decide) rfl ?_
  refine E_iast 51 dX7_init_50 (at_56 (by decide)) (by decide) rfl ?_
  show XX g false (d + 1) P_X7_init 51 [(2, 51)] [(2, 56), (2, 51)] 57 K137 59 Q
  refine E_dup 52 dX7_init_51 n21 rfl ?_
  refine E_iconst 53 dX7_init_52 (by decide) rfl ?_
  refine E_bipush 55 dX7_init_53 (by decide) rfl ?_
  refine E_iast 56 dX7_init_55 (at_56 (by decide)) (by decide) rfl ?_
  show XX g false (d + 1) P_X7_init 56 [(2, 51)] [(2, 56), (2, 51)] 57 K138 59 Q
  refine E_dup 57 dX7_init_56 n21 rfl ?_
  refine E_iconst 58 dX7_init_57 (by decide) rfl ?_
  refine E_bipush 60 dX7_init_58 (by decide) rfl ?_
  refine E_iast 61 dX7_init_60 (at_56 (by decide)) (by decide) rfl ?_
  show XX g false (d + 1) P_X7_init 61 [(2, 51)] [(2, 56), (2, 51)] 57 K139 59 Q
  refine E_dup 62 dX7_init_61 n21 rfl ?_
  refine E_iconst 63 dX7_init_62 (by decide) rfl ?_
  refine E_bipush 65 dX7_init_63 (by decide) rfl ?_
  refine E_iast 66 dX7_init_65 (at_56 (by decide)) (by decide) rfl ?_
  show XX g false (d + 1) P_X7_init 66 [(2, 51)] [(2, 56), (2, 51)] 57 K140 59 Q
  refine E_dup 67 dX7_init_66 n21 rfl ?_
  refine E_iconst 68 dX7_init_67 (by decide) rfl ?_
  refine E_bipush 70 dX7_init_68 (by decide) rfl ?_
  refine E_iast 71 dX7_init_70 (at_56 (by decide)) (by decide) rfl ?_
  show XX g false (d + 1) P_X7_init 71 [(2, 51)] [(2, 56), (2, 51)] 57 K141 59 Q
  refine E_putR (ty := .array .int) 7 74 dX7_init_71 fl_X7_24 (at_51 (by decide)) rfl (by decide) (Or.inr ⟨rfl, cl_X7⟩) (by decide +kernel) (Or.inr ⟨_, rfl⟩) (fun h => by cases h) rfl rfl ?_
  show XX g false (d + 1) P_X7_init 74 [(2, 51)] [] 57 K142 59 Q
  refine E_aload_n 75 dX7_init_74 rfl (ac_51.bnd) rfl ?_
  refine E_bipush 77 dX7_init_75 (by decide) rfl ?_
  refine E_newa 79 dX7_init_77 (rfl : kd 57 = (20, 6)) (by decide) rfl rfl (by decide) mw_167 (by decide) rfl ?_
  show XX g false (d + 1) P_X7_init 79 [(2, 51)] [(2, 57), (2, 51)] 58 K143 59 Q
  refine E_dup 80 dX7_init_79 n21 rfl ?_
  refine E_iconst 81 dX7_init_80 (by decide) rfl ?_
  refine E_iconst 82 dX7_init_81 (by decide) rfl ?_
  refine E_iast 83 dX7_init_82 (at_57 (by decide)) (by decide) rfl ?_
  show XX g false (d + 1) P_X7_init 83 [(2, 51)] [(2, 57), (2, 51)] 58 K144 59 Q
  refine E_dup 84 dX7_init_83 n21 rfl ?_
  refine E_iconst 85 dX7_init_84 (by decide) rfl ?_
  refine E_iconst 86 dX7_init_85 (by decide) rfl ?_
  refine E_iast 87 dX7_init_86 (at_57 (by decide)) (by decide) rfl ?_
  show XX g false (d + 1) P_X7_init 87 [(2, 51)] [(2, 57), (2, 51)] 58 K145 59 Q
  refine E_dup 88 dX7_init_87 n21 rfl ?_
  refine E_iconst 89 dX7_init_88 (by decide) rfl ?_
  refine E_iconst 90 dX7_init_89 (by decide) rfl ?_
  refine E_iast 91 dX7_init_90 (at_57 (by decide)) (by decide) rfl ?_
  show XX g false (d + 1) P_X7_init 91 [(2, 51)] [(2, 57), (2, 51)] 58 K146 59 Q
  refine E_dup 92 dX7_init_91 n21 rfl ?_
  refine E_iconst 93 dX7_init_92 (by decide) rfl ?_
  refine E_iconst 94 dX7_init_93 (by decide) rfl ?_
  refine E_iast 95 dX7_init_94 (at_57 (by decide)) (by decide) rfl ?_
  show XX g false (d + 1) P_X7_init 95 [(2, 51)] [(2, 57), (2, 51)] 58 K147 59 Q
  refine E_dup 96 dX7_init_95 n21 rfl ?_
  refine E_iconst 97 dX7_init_96 (by decide) rfl ?_
  refine E_iconst 98 dX7_init_97 (by decide) rfl ?_
  refine E_iast 99 dX7_init_98 (at_57 (by decide)) (by decide) rfl ?_
  show XX g false (d + 1) P_X7_init 99 [(2, 51)] [(2, 57), (2, 51)] 58 K148 59 Q
  refine E_dup 100 dX7_init_99 n21 rfl ?_
  refine E_iconst 101 dX7_init_100 (by decide) rfl ?_
  refine E_iconst 102 dX7_init_101 (by decide) rfl ?_
  refine E_iast 103 dX7_init_102 (at_57 (by decide)) (by decide) rfl ?_
  show XX g false (d + 1) P_X7_init 103 [(2, 51)] [(2, 57), (2, 51)] 58 K149 59 Q
  refine E_putR (ty := .array .int) 8 106 dX7_init_103 fl_X7_27 (at_51 (by decide)) rfl (by decide) (Or.inr ⟨rfl, cl_X7⟩) (by decide +kernel) (Or.inr ⟨_, rfl⟩) (fun h => by cases h) rfl rfl ?_
  show XX g false (d + 1) P_X7_init 106 [(2, 51)] [] 58 K150 59 Q
  refine E_aload_n 107 dX7_init_106 rfl (ac_51.bnd) rfl ?_
  refine E_bipush 109 dX7_init_107 (by decide) rfl ?_
  refine E_newa 111 dX7_init_109 (rfl : kd 58 = (20, 8)) (by decide) rfl rfl (by decide) mw_167 (by decide) rfl ?_
  show XX g false (d + 1) P_X7_init 111 [(2, 51)] [(2, 58), (2, 51)] 59 K151 59 Q
  refine E_dup 112 dX7_init_111 n21 rfl ?_
  refine E_iconst 113 dX7_init_112 (by decide) rfl ?_
  refine E_iconst 114 dX7_init_113 (by decide) rfl ?_
  refine E_iast 115 dX7_init_114 (at_58 (by decide)) (by decide) rfl ?_
  show XX g false (d + 1) P_X7_init 115 [(2, 51)] [(2, 58), (2, 51)] 59 K152 59 Q
  refine E_dup 116 dX7_init_115 n21 rfl ?_
  refine E_iconst 117 dX7_init_116 (by decide) rfl ?_
  refine E_iconst 118 dX7_init_117 (by decide) rfl ?_
  refine E_iast 119 dX7_init_118 (at_58 (by decide)) (by decide) rfl ?_
  show XX g false (d + 1) P_X7_init 119 [(2, 51)] [(2, 58), (2, 51)] 59 K153 59 Q
  refine E_dup 120 dX7_init_119 n21 rfl ?_
  refine E_iconst 121 dX7_init_120 (by decide) rfl ?_
  refine E_bipush 123 dX7_init_121 (by decide) rfl ?_
  refine E_iast 124 dX7_init_123 (at_58 (by decide)) (by decide) rfl ?_
  show XX g false (d + 1) P_X7_init 124 [(2, 51)] [(2, 58), (2, 51)] 59 K154 59 Q
  refine E_dup 125 dX7_init_124 n21 rfl ?_
  refine E_iconst 126 dX7_init_125 (by decide) rfl ?_
  refine E_iconst 127 dX7_init_126 (by decide) rfl ?_
  refine E_iast 128 dX7_init_127 (at_58 (by decide)) (by decide) rfl ?_
  show XX g false (d + 1) P_X7_init 128 [(2, 51)] [(2, 58), (2, 51)] 59 K155 59 Q
  refine E_dup 129 dX7_init_128 n21 rfl ?_
  refine E_iconst 130 dX7_init_129 (by decide) rfl ?_
  refine E_iconst 131 dX7_init_130 (by decide) rfl ?_
  refine E_iast 132 dX7_init_131 (at_58 (by decide)) (by decide) rfl ?_
  show XX g false (d + 1) P_X7_init 132 [(2, 51)] [(2, 58), (2, 51)] 59 K156 59 Q
  refine E_dup 133 dX7_init_132 n21 rfl ?_
  refine E_iconst 134 dX7_init_133 (by decide) rfl ?_
  refine E_bipush 136 dX7_init_134 (by decide) rfl ?_
  refine E_iast 137 dX7_init_136 (at_58 (by decide)) (by decide) rfl ?_
  show XX g false (d + 1) P_X7_init 137 [(2, 51)] [(2, 58), (2, 51)] 59 K157 59 Q
  refine E_dup 138 dX7_init_137 n21 rfl ?_
  refine E_bipush 140 dX7_init_138 (by decide) rfl ?_
  refine E_bipush 142 dX7_init_140 (by decide) rfl ?_
  refine E_iast 143 dX7_init_142 (at_58 (by decide)) (by decide) rfl ?_
  show XX g false (d + 1) P_X7_init 143 [(2, 51)] [(2, 58), (2, 51)] 59 K158 59 Q
  refine E_dup 144 dX7_init_143 n21 rfl ?_
  refine E_bipush 146 dX7_init_144 (by decide) rfl ?_
  refine E_bipush 148 dX7_init_146 (by decide) rfl ?_
  refine E_iast 149 dX7_init_148 (at_58 (by decide)) (by decide) rfl ?_
  show XX g false (d + 1) P_X7_init 149 [(2, 51)] [(2, 58), (2, 51)] 59 K159 59 Q
  refine E_putR (ty := .array .int) 9 152 dX7_init_149 fl_X7_30 (at_51 (by decide)) rfl (by decide) (Or.inr ⟨rfl, cl_X7⟩) (by decide +kernel) (Or.inr ⟨_, rfl⟩) (fun h => by cases h) rfl rfl ?_
  show XX g false (d + 1) P_X7_init 152 [(2, 51)] [] 59 K160 59 Q
  exact E_vret dX7_init_152 rfl rfl w
theorem C21_X7_init {g : PG} {d : Nat} {Q : Int → PS → Prop} (w : Q 0 K196) : XX g false (d + 1) P_X7_init 0 [(2, 59)] [] 60 K162 67 Q := by
  refine E_aload_n 1 dX7_init_0 rfl (ac_59.bnd) rfl ?_
  refine E_objI 4 dX7_init_1 mw_276 mw_136 mw_137 (by decide) (Nat.le_of_ble_eq_true rfl) rfl ?_
  refine E_aload_n 5 dX7_init_4 rfl (ac_59.bnd) rfl ?_
  refine E_bipush 7 dX7_init_5 (by decide) rfl ?_
  refine E_newa 9 dX7_init_7 (rfl : kd 60 = (20, 60)) (by decide) rfl rfl (by decide) mw_167 (by decide) rfl ?_
  show XX g false (d + 1) P_X7_init 9 [(2, 59)] [(2, 60), (2, 59)] 61 K163 67 Q
  refine E_putR (ty := .array .int) 1 12 dX7_init_9 fl_X7_11 (at_59 (by decide)) rfl (by decide) (Or.inr ⟨rfl, cl_X7⟩) (by decide +kernel) (Or.inr ⟨_, rfl⟩) (fun h => by cases h) rfl rfl ?_
  show XX g false (d + 1) P_X7_init 12 [(2, 59)] [] 61 K164 67 Q
  refine E_aload_n 13 dX7_init_12 rfl (ac_59.bnd) rfl ?_
  refine E_bipush 15 dX7_init_13 (by decide) rfl ?_
  refine E_newa 17 dX7_init_15 (rfl : kd 61 = (20, 60)) (by decide) rfl rfl (by decide) mw_167 (by decide) rfl ?_
  show XX g false (d + 1) P_X7_init 17 [(2, 59)] [(2, 61), (2, 59)] 62 K165 67 Q
  refine E_putR (ty := .array .int) 2 20 dX7_init_17 fl_X7_15 (at_59 (by decide)) rfl (by decide) (Or.inr ⟨rfl, cl_X7⟩) (by decide +kernel) (Or.inr ⟨_, rfl⟩) (fun h => by cases h) rfl rfl ?_
  show XX g false (d + 1) P_X7_init 20 [(2, 59)] [] 62 K166 67 Q
  refine E_aload_n 21 dX7_init_20 rfl (ac_59.bnd) rfl ?_
  refine E_bipush 23 dX7_init_21 (by decide) rfl ?_
  refine E_newa 25 dX7_init_23 (rfl : kd 62 = (20, 60)) (by decide) rfl rfl (by decide) mw_167 (by decide) rfl ?_
  show XX g false (d + 1) P_X7_init 25 [(2, 59)] [(2, 62), (2, 59)] 63 K167 67 Q
  refine E_putR (ty := .array .int) 3 28 dX7_init_25 fl_X7_18 (at_59 (by decide)) rfl (by decide) (Or.inr ⟨rfl, cl_X7⟩) (by decide +kernel) (Or.inr ⟨_, rfl⟩) (fun h => by cases h) rfl rfl ?_
  show XX g false (d + 1) P_X7_init 28 [(2, 59)] [] 63 K168 67 Q
  refine E_aload_n 29 dX7_init_28 rfl (ac_59.bnd) rfl ?_
  refine E_bipush 31 dX7_init_29 (by decide) rfl ?_
  refine E_newa 33 dX7_init_31 (rfl : kd 63 = (20, 60)) (by decide) rfl rfl (by decide) mw_167 (by decide) rfl ?_
  show XX g false (d + 1) P_X7_init 33 [(2, 59)] [(2, 63), (2, 59)] 64 K169 67 Q
  refine E_putR (ty := .array .int) 4 36 dX7_init_33 fl_X7_21 (at_59 (by decide)) rfl (by decide) (Or.inr ⟨rfl, cl_X7⟩) (by decide +kernel) (Or.inr ⟨_, rfl⟩) (fun h => by cases h) rfl rfl ?_
  show XX g false (d + 1) P_X7_init 36 [(2, 59)] [] 64 K170 67 Q
  refine E_aload_n 37 dX7_init_36 rfl (ac_59.bnd) rfl ?_
  refine E_bipush 39 dX7_init_37 (by decide) rfl ?_
  refine E_newa 41 dX7_init_39 (rfl : kd 64 = (20, 6)) (by decide) rfl rfl (by decide) mw_167 (by decide) rfl ?_
  show XX g false (d + 1) P_X7_init 41 [(2, 59)] [(2, 64), (2, 59)] 65 K171 67 Q
  refine E_dup 42 dX7_init_41 n21 rfl ?_
  refine E_iconst 43 dX7_init_42 (by decide) rfl ?_
  refine E_bipush 45 dX7_init_43 (by decide) rfl ?_
  refine E_iast 46 dX7_init_45 (at_64 (by decide)) (by decide) rfl ?_
  show XX g false (d + 1) P_X7_init 46 [(2, 59)] [(2, 64), (2, 59)] 65 K172 67 Q
  refine E_dup 47 dX7_init_46 n21 rfl ?_
  refine E_iconst 48 dX7_init_47 (by decide) rfl ?_
  refine E_bipush 50 dX7_init_48 (by decide) rfl ?_
  refine E_iast 51 dX7_init_50 (at_64 (by decide)) (by decide) rfl ?_
  show XX g false (d + 1) P_X7_init 51 [(2, 59)] [(2, 64), (2, 59)] 65 K173 67 Q
  refine E_dup 52 dX7_init_51 n21 rfl ?_
  refine E_iconst 53 dX7_init_52 (by decide) rfl ?_
  refine E_bipush 55 dX7_init_53 (by decide) rfl ?_
  refine E_iast 56 dX7_init_55 (at_64 (by decide)) (by decide) rfl ?_
  show XX g false (d + 1) P_X7_init 56 [(2, 59)] [(2, 64), (2, 59)] 65 K174 67 Q
  refine E_dup 57 dX7_init_56 n21 rfl ?_
  refine E_iconst 58 dX7_init_57 (by decide) rfl ?_
  refine E_bipush 60 dX7_init_58 (by decide) rfl ?_
  refine E_iast 61 dX7_init_60 (at_64 (by decide)) (by decide) rfl ?_
  show XX g false (d + 1) P_X7_init 61 [(2, 59)] [(2, 64), (2, 59)] 65 K175 67 Q
  refine E_dup 62 dX7_init_61 n21 rfl ?_
  refine E_iconst 63 dX7_init_62 (by decide) rfl ?_
  refine E_bipush 65 dX7_init_63 (by decide) rfl ?_
  refine E_iast 66 dX7_init_65 (at_64 (by decide)) (by decide) rfl ?_
  show XX g false (d + 1) P_X7_init 66 [(2, 59)] [(2, 64), (2, 59)] 65 K176 67 Q
  refine E_dup 67 dX7_init_66 n21 rfl ?_
  refine E_iconst 68 dX7_init_67 (by decide) rfl ?_
  refine E_bipush 70 dX7_init_68 (by decide) rfl ?_
  refine E_iast 71 dX7_init_70 (at_64 (by decide)) (by decide) rfl ?_
  show XX g false (d + 1) P_X7_init 71 [(2, 59)] [(2, 64), (2, 59)] 65 K177 67 Q
  refine E_putR (ty := .array .int) 7 74 dX7_init_71 fl_X7_24 (at_59 (by decide)) rfl (by decide) (Or.inr ⟨rfl, cl_X7⟩) (by decide +kernel) (Or.inr ⟨_, rfl⟩) (fun h => by cases h) rfl rfl ?_
  show XX g false (d + 1) P_X7_init 74 [(2, 59)] [] 65 K178 67 Q
  refine E_aload_n 75 dX7_init_74 rfl (ac_59.bnd) rfl ?_
  refine E_bipush 77 dX7_init_75 (by decide) rfl ?_
  refine E_newa 79 dX7_init_77 (rfl : kd 65 = (20, 6)) (by decide) rfl rfl (by decide) mw_167 (by decide) rfl ?_
  show XX g false (d + 1) P_X7_init 79 [(2, 59)] [(2, 65), (2, 59)] 66 K179 67 Q
  refine E_dup 80 dX7_init_79 n21 rfl ?_
  refine E_iconst 81 dX7_init_80 (by decide) rfl ?_
  refine E_iconst 82 dX7_init_81 (by decide) rfl ?_
  refine E_iast 83 dX7_init_82 (at_65 (by decide)) (by decide) rfl ?_
  show XX g false (d + 1) P_X7_init 83 [(2, 59)] [(2, 65), (2, 59)] 66 K180 67 Q
  refine E_dup 84 dX7_init_83 n21 rfl ?_
  refine E_iconst 85 dX7_init_84 (by decide) rfl ?_
  refine E_iconst 86 dX7_init_85 (by decide) rfl ?_
  refine E_iast 87 dX7_init_86 (at_65 (by decide)) (by decide) rfl ?_
  show XX g false (d + 1) P_X7_init 87 [(2, 59)] [(2, 65), (2, 59)] 66 K181 67 Q
  refine E_dup 88 dX7_init_87 n21 rfl ?_
  refine E_iconst 89 dX7_init_88 (by decide) rfl ?_
  refine E_iconst 90 dX7_init_89 (by decide) rfl ?_
  refine E_iast 91 dX7_init_90 (at_65 (by decide)) (by decide) rfl ?_
  show XX g false (d + 1) P_X7_init 91 [(2, 59)] [(2, 65), (2, 59)] 66 K182 67 Q
  refine E_dup 92 dX7_init_91 n21 rfl ?_
  refine E_iconst 93 dX7_init_92 (by decide) rfl ?_
  refine E_iconst 94 dX7_init_93 (by decide) rfl ?_
  refine E_iast 95 dX7_init_94 (at_65 (by decide)) (by decide) rfl ?_
  show XX g false (d + 1) P_X7_init 95 [(2, 59)] [(2, 65), (2, 59)] 66 K183 67 Q
  refine E_dup 96 dX7_init_95 n21 rfl ?_
  refine E_iconst 97 dX7_init_96 (by decide) rfl ?_
  refine E_iconst 98 dX7_init_97 (by decide) rfl ?_
  refine E_iast 99 dX7_init_98 (at_65 (by decide)) (by decide) rfl ?_
  show XX g false (d + 1) P_X7_init 99 [(2, 59)] [(2, 65), (2, 59)] 66 K184 67 Q
  refine E_dup 100 dX7_init_99 n21 rfl ?_
  refine E_iconst 101 dX7_init_100 (by decide) rfl ?_
  refine E_iconst 102 dX7_init_101 (by decide) rfl ?_
  refine E_iast 103 dX7_init_102 (at_65 (by decide)) (by decide) rfl ?_
  show XX g false (d + 1) P_X7_init 103 [(2, 59)] [(2, 65), (2, 59)] 66 K185 67 Q
  refine E_putR (ty := .array .int) 8 106 dX7_init_103 fl_X7_27 (at_59 (by decide)) rfl (by decide) (Or.inr ⟨rfl, cl_X7⟩) (by decide +kernel) (Or.inr ⟨_, rfl⟩) (fun h => by cases h) rfl rfl ?_
  show XX g false (d + 1) P_X7_init 106 [(2, 59)] [] 66 K186 67 Q
  refine E_aload_n 107 dX7_init_106 rfl (ac_59.bnd) rfl ?_
  refine E_bipush 109 dX7_init_107 (by decide) rfl ?_
  refine E_newa 111 dX7_init_109 (rfl : kd 66 = (20, 8)) (by decide) rfl rfl (by decide) mw_167 (by decide) rfl ?_
  show XX g false (d + 1) P_X7_init 111 [(2, 59)] [(2, 66), (2, 59)] 67 K187 67 Q
  refine E_dup 112 dX7_init_111 n21 rfl ?_
  refine E_iconst 113 dX7_init_112 (by decide) rfl ?_
  refine E_iconst 114 dX7_init_113 (by decide) rfl ?_
  refine E_iast 115 dX7_init_114 (at_66 (by decide)) (by decide) rfl ?_
  show XX g false (d + 1) P_X7_init 115 [(2, 59)] [(2, 66), (2, 59)] 67 K188 67 Q
  refine E_dup 116 dX7_init_115 n21 rfl ?_
  refine E_iconst 117 dX7_init_116 (by decide) rfl ?_
  refine E_iconst 118 dX7_init_117 (by decide) rfl ?_
  refine E_iast 119 dX7_init_118 (at_66 (by decide)) (by decide) rfl ?_
  show XX g false (d + 1) P_X7_init 119 [(2, 59)] [(2, 66), (2, 59)] 67 K189 67 Q
  refine E_dup 120 dX7_init_119 n21 rfl ?_
  refine E_iconst 121 dX7_init_120 (by decide) rfl ?_
  refine E_bipush 123 dX7_init_121 (by decide) rfl ?_
  refine E_iast 124 dX7_init_123 (at_66 (by decide)) (by decide) rfl ?_
  show XX g false (d + 1) P_X7_init 124 [(2, 59)] [(2, 66), (2, 59)] 67 K190 67 Q
  refine E_dup 125 dX7_init_124 n21 rfl ?_
  refine E_iconst 126 dX7_init_125 (by decide) rfl ?_
  refine E_iconst 127 dX7_init_126 (by decide) rfl ?_
  refine E_iast 128 dX7_init_127 (at_66 (by decide)) (by decide) rfl ?_
  show XX g false (d + 1) P_X7_init 128 [(2, 59)] [(2, 66), (2, 59)] 67 K191 67 Q
  refine E_dup 129 dX7_init_128 n21 rfl ?_
  refine E_iconst 130 dX7_init_129 (by decide) rfl ?_
  refine E_iconst 131 dX7_init_130 (by decide) rfl ?_
  refine E_iast 132 dX7_init_131 (at_66 (by decide)) (by decide) rfl ?_
  show XX g false (d + 1) P_X7_init 132 [(2, 59)] [(2, 66), (2, 59)] 67 K192 67 Q
  refine E_dup 133 dX7_init_132 n21 rfl ?_
  refine E_iconst 134 dX7_init_133 (by decide) rfl ?_
  refine E_bipush 136 dX7_init_134 (by decide) rfl ?_
  refine E_iast 137 dX7_init_136 (at_66 (by decide)) (by decide) rfl ?_
  show XX g false (d + 1) P_X7_init 137 [(2, 59)] [(2, 66), (2, 59)] 67 K193 67 Q
  refine E_dup 138 dX7_init_137 n21 rfl ?_
  refine E_bipush 140 dX7_init_138 (by decide) rfl ?_
  refine E_bipush 142 dX7_init_140 (by decide) rfl ?_
  refine E_iast 143 dX7_init_142 (at_66 (by decide)) (by decide) rfl ?_
  show XX g false (d + 1) P_X7_init 143 [(2, 59)] [(2, 66), (2, 59)] 67 K194 67 Q
  refine E_dup 144 dX7_init_143 n21 rfl ?_
  refine E_bipush 146 dX7_init_144 (by decide) rfl ?_
  refine E_bipush 148 dX7_init_146 (by decide) rfl ?_
  refine E_iast 149 dX7_init_148 (at_66 (by decide)) (by decide) rfl ?_
  show XX g false (d + 1) P_X7_init 149 [(2, 59)] [(2, 66), (2, 59)] 67 K195 67 Q
  refine E_putR (ty := .array .int) 9 152 dX7_init_149 fl_X7_30 (at_59 (by decide)) rfl (by decide) (Or.inr ⟨rfl, cl_X7⟩) (by decide +kernel) (Or.inr ⟨_, rfl⟩) (fun h => by cases h) rfl rfl ?_
  show XX g false (d + 1) P_X7_init 152 [(2, 59)] [] 67 K196 67 Q
  exact E_vret dX7_init_152 rfl rfl w
theorem C22_X0_init {g : PG} {d : Nat} {Q : Int → PS → Prop} (w : Q 0 K202) : XX g false (d + 1) P_X0_init 0 [(2, 67)] [] 68 K198 70 Q := by
  refine E_aload_n 1 dX0_init_0 rfl (ac_67.bnd) rfl ?_
  refine E_objI 4 dX0_init_1 mw_382 mw_136 mw_137 (by decide) (Nat.le_of_ble_eq_true rfl) rfl ?_
  refine E_aload_n 5 dX0_init_4 rfl (ac_67.bnd) rfl ?_
  refine E_bipush 7 dX0_init_5 (by decide) rfl ?_
  refine E_newa 9 dX0_init_7 (rfl : kd 68 = (20, 12)) (by decide) rfl rfl (by decide) mw_167 (by decide) rfl ?_
  show XX g false (d + 1) P_X0_init 9 [(2, 67)] [(2, 68), (2, 67)] 69 K199 70 Q
  refine E_putR (ty := .array .int) 0 12 dX0_init_9 fl_X0_11 (at_67 (by decide)) rfl (by decide) (Or.inr ⟨rfl, cl_X0⟩) (by decide +kernel) (Or.inr ⟨_, rfl⟩) (fun h => by cases h) rfl rfl ?_
  show XX g false (d + 1) P_X0_init 12 [(2, 67)] [] 69 K200 70 Q
  refine E_aload_n 13 dX0_init_12 rfl (ac_67.bnd) rfl ?_
  refine E_bipush 15 dX0_init_13 (by decide) rfl ?_
  refine E_newa 17 dX0_init_15 (rfl : kd 69 = (20, 64)) (by decide) rfl rfl (by decide) mw_167 (by decide) rfl ?_
  show XX g false (d + 1) P_X0_init 17 [(2, 67)] [(2, 69), (2, 67)] 70 K201 70 Q
  refine E_putR (ty := .array .int) 1 20 dX0_init_17 fl_X0_17 (at_67 (by decide)) rfl (by decide) (Or.inr ⟨rfl, cl_X0⟩) (by decide +kernel) (Or.inr ⟨_, rfl⟩) (fun h => by cases h) rfl rfl ?_
  show XX g false (d + 1) P_X0_init 20 [(2, 67)] [] 70 K202 70 Q
  exact E_vret dX0_init_20 rfl rfl w
theorem C23_X5_init {g : PG} {d : Nat} {Q : Int → PS → Prop} (w : Q 0 K215) : XX g false (d + 1) P_X5_init 0 [(2, 70), (2, 67)] [] 71 K204 76 Q := by
  refine E_aload_n 1 dX5_init_0 rfl (ac_70.bnd) rfl ?_
  refine E_objI 4 dX5_init_1 mw_395 mw_136 mw_137 (by decide) (Nat.le_of_ble_eq_true rfl) rfl ?_
  refine E_aload_n 5 dX5_init_4 rfl (ac_70.bnd) rfl ?_
  refine E_bipush 7 dX5_init_5 (by decide) rfl ?_
  refine E_newa 9 dX5_init_7 (rfl : kd 71 = (20, 60)) (by decide) rfl rfl (by decide) mw_167 (by decide) rfl ?_
  show XX g false (d + 1) P_X5_init 9 [(2, 70), (2, 67)] [(2, 71), (2, 70)] 72 K205 76 Q
  refine E_putR (ty := .array .int) 1 12 dX5_init_9 fl_X5_11 (at_70 (by decide)) rfl (by decide) (Or.inr ⟨rfl, cl_X5⟩) (by decide +kernel) (Or.inr ⟨_, rfl⟩) (fun h => by cases h) rfl rfl ?_
  show XX g false (d + 1) P_X5_init 12 [(2, 70), (2, 67)] [] 72 K206 76 Q
  refine E_aload_n 13 dX5_init_12 rfl (ac_70.bnd) rfl ?_
  refine E_sipush 16 dX5_init_13 (by decide) rfl ?_
  refine E_newa 18 dX5_init_16 (rfl : kd 72 = (21, 128)) (by decide) rfl rfl (by decide) mw_415 (by decide) rfl ?_
  show XX g false (d + 1) P_X5_init 18 [(2, 70), (2, 67)] [(2, 72), (2, 70)] 73 K207 76 Q
  refine E_putR (ty := .array .long) 2 21 dX5_init_18 fl_X5_17 (at_70 (by decide)) rfl (by decide) (Or.inr ⟨rfl, cl_X5⟩) (by decide +kernel) (Or.inr ⟨_, rfl⟩) (fun h => by cases h) rfl rfl ?_
  show XX g false (d + 1) P_X5_init 21 [(2, 70), (2, 67)] [] 73 K208 76 Q
  refine E_aload_n 22 dX5_init_21 rfl (ac_70.bnd) rfl ?_
  refine E_sipush 25 dX5_init_22 (by decide) rfl ?_
  refine E_newa 27 dX5_init_25 (rfl : kd 73 = (21, 128)) (by decide) rfl rfl (by decide) mw_415 (by decide) rfl ?_
  show XX g false (d + 1) P_X5_init 27 [(2, 70), (2, 67)] [(2, 73), (2, 70)] 74 K209 76 Q
  refine E_putR (ty := .array .long) 3 30 dX5_init_27 fl_X5_21 (at_70 (by decide)) rfl (by decide) (Or.inr ⟨rfl, cl_X5⟩) (by decide +kernel) (Or.inr ⟨_, rfl⟩) (fun h => by cases h) rfl rfl ?_
  show XX g false (d + 1) P_X5_init 30 [(2, 70), (2, 67)] [] 74 K210 76 Q
  refine E_aload_n 31 dX5_init_30 rfl (ac_70.bnd) rfl ?_
  refine E_sipush 34 dX5_init_31 (by decide) rfl ?_
  refine E_newa 36 dX5_init_34 (rfl : kd 74 = (21, 7808)) (by decide) rfl rfl (by decide) mw_415 (by decide) rfl ?_
  show XX g false (d + 1) P_X5_init 36 [(2, 70), (2, 67)] [(2, 74), (2, 70)] 75 K211 76 Q
  refine E_putR (ty := .array .long) 4 39 dX5_init_36 fl_X5_24 (at_70 (by decide)) rfl (by decide) (Or.inr ⟨rfl, cl_X5⟩) (by decide +kernel) (Or.inr ⟨_, rfl⟩) (fun h => by cases h) rfl rfl ?_
  show XX g false (d + 1) P_X5_init 39 [(2, 70), (2, 67)] [] 75 K212 76 Q
  refine E_aload_n 40 dX5_init_39 rfl (ac_70.bnd) rfl ?_
  refine E_sipush 43 dX5_init_40 (by decide) rfl ?_
  refine E_newa 45 dX5_init_43 (rfl : kd 75 = (21, 7808)) (by decide) rfl rfl (by decide) mw_415 (by decide) rfl ?_
  show XX g false (d + 1) P_X5_init 45 [(2, 70), (2, 67)] [(2, 75), (2, 70)] 76 K213 76 Q
  refine E_putR (ty := .array .long) 5 48 dX5_init_45 fl_X5_27 (at_70 (by decide)) rfl (by decide) (Or.inr ⟨rfl, cl_X5⟩) (by decide +kernel) (Or.inr ⟨_, rfl⟩) (fun h => by cases h) rfl rfl ?_
  show XX g false (d + 1) P_X5_init 48 [(2, 70), (2, 67)] [] 76 K214 76 Q
  refine E_aload_n 49 dX5_init_48 rfl (ac_70.bnd) rfl ?_
  refine E_aload_n 50 dX5_init_49 rfl (ac_67.bnd) rfl ?_
  refine E_putR (ty := .object "NoTwoTogether$Asker") 0 53 dX5_init_50 fl_X5_30 (at_70 (by decide)) rfl (by decide) (Or.inr ⟨rfl, cl_X5⟩) (by decide +kernel) (Or.inl ⟨_, rfl⟩) (fun h => by cases h) rfl rfl ?_
  show XX g false (d + 1) P_X5_init 53 [(2, 70), (2, 67)] [] 76 K215 76 Q
  exact E_vret dX5_init_53 rfl rfl w
theorem C24_X3_init {g : PG} {d : Nat} {Q : Int → PS → Prop} (w : Q 0 K230) : XX g false (d + 1) P_X3_init 0 [(2, 76), (2, 67)] [] 77 K217 83 Q := by
  refine E_aload_n 1 dX3_init_0 rfl (ac_76.bnd) rfl ?_
  refine E_objI 4 dX3_init_1 mw_421 mw_136 mw_137 (by decide) (Nat.le_of_ble_eq_true rfl) rfl ?_
  refine E_aload_n 5 dX3_init_4 rfl (ac_76.bnd) rfl ?_
  refine E_sipush 8 dX3_init_5 (by decide) rfl ?_
  refine E_newa 10 dX3_init_8 (rfl : kd 77 = (21, 1024)) (by decide) rfl rfl (by decide) mw_415 (by decide) rfl ?_
  show XX g false (d + 1) P_X3_init 10 [(2, 76), (2, 67)] [(2, 77), (2, 76)] 78 K218 83 Q
  refine E_putR (ty := .array .long) 1 13 dX3_init_10 fl_X3_11 (at_76 (by decide)) rfl (by decide) (Or.inr ⟨rfl, cl_X3⟩) (by decide +kernel) (Or.inr ⟨_, rfl⟩) (fun h => by cases h) rfl rfl ?_
  show XX g false (d + 1) P_X3_init 13 [(2, 76), (2, 67)] [] 78 K219 83 Q
  refine E_aload_n 14 dX3_init_13 rfl (ac_76.bnd) rfl ?_
  refine E_sipush 17 dX3_init_14 (by decide) rfl ?_
  refine E_newa 19 dX3_init_17 (rfl : kd 78 = (21, 1024)) (by decide) rfl rfl (by decide) mw_415 (by decide) rfl ?_
  show XX g false (d + 1) P_X3_init 19 [(2, 76), (2, 67)] [(2, 78), (2, 76)] 79 K220 83 Q
  refine E_putR (ty := .array .long) 2 22 dX3_init_19 fl_X3_15 (at_76 (by decide)) rfl (by decide) (Or.inr ⟨rfl, cl_X3⟩) (by decide +kernel) (Or.inr ⟨_, rfl⟩) (fun h => by cases h) rfl rfl ?_
  show XX g false (d + 1) P_X3_init 22 [(2, 76), (2, 67)] [] 79 K221 83 Q
  refine E_aload_n 23 dX3_init_22 rfl (ac_76.bnd) rfl ?_
  refine E_sipush 26 dX3_init_23 (by decide) rfl ?_
  refine E_newa 28 dX3_init_26 (rfl : kd 79 = (23, 1024)) (by decide) rfl rfl (by decide) mw_450 (by decide) rfl ?_
  show XX g false (d + 1) P_X3_init 28 [(2, 76), (2, 67)] [(2, 79), (2, 76)] 80 K222 83 Q
  refine E_putR (ty := .array .boolean) 3 31 dX3_init_28 fl_X3_18 (at_76 (by decide)) rfl (by decide) (Or.inr ⟨rfl, cl_X3⟩) (by decide +kernel) (Or.inr ⟨_, rfl⟩) (fun h => by cases h) rfl rfl ?_
  show XX g false (d + 1) P_X3_init 31 [(2, 76), (2, 67)] [] 80 K223 83 Q
  refine E_aload_n 32 dX3_init_31 rfl (ac_76.bnd) rfl ?_
  refine E_bipush 34 dX3_init_32 (by decide) rfl ?_
  refine E_newa 36 dX3_init_34 (rfl : kd 80 = (20, 30)) (by decide) rfl rfl (by decide) mw_167 (by decide) rfl ?_
  show XX g false (d + 1) P_X3_init 36 [(2, 76), (2, 67)] [(2, 80), (2, 76)] 81 K224 83 Q
  refine E_putR (ty := .array .int) 4 39 dX3_init_36 fl_X3_22 (at_76 (by decide)) rfl (by decide) (Or.inr ⟨rfl, cl_X3⟩) (by decide +kernel) (Or.inr ⟨_, rfl⟩) (fun h => by cases h) rfl rfl ?_
  show XX g false (d + 1) P_X3_init 39 [(2, 76), (2, 67)] [] 81 K225 83 Q
  refine E_aload_n 40 dX3_init_39 rfl (ac_76.bnd) rfl ?_
  refine E_sipush 43 dX3_init_40 (by decide) rfl ?_
  refine E_newa 45 dX3_init_43 (rfl : kd 81 = (20, 1024)) (by decide) rfl rfl (by decide) mw_167 (by decide) rfl ?_
  show XX g false (d + 1) P_X3_init 45 [(2, 76), (2, 67)] [(2, 81), (2, 76)] 82 K226 83 Q
  refine E_putR (ty := .array .int) 5 48 dX3_init_45 fl_X3_26 (at_76 (by decide)) rfl (by decide) (Or.inr ⟨rfl, cl_X3⟩) (by decide +kernel) (Or.inr ⟨_, rfl⟩) (fun h => by cases h) rfl rfl ?_
  show XX g false (d + 1) P_X3_init 48 [(2, 76), (2, 67)] [] 82 K227 83 Q
  refine E_aload_n 49 dX3_init_48 rfl (ac_76.bnd) rfl ?_
  refine E_sipush 52 dX3_init_49 (by decide) rfl ?_
  refine E_newa 54 dX3_init_52 (rfl : kd 82 = (21, 1024)) (by decide) rfl rfl (by decide) mw_415 (by decide) rfl ?_
  show XX g false (d + 1) P_X3_init 54 [(2, 76), (2, 67)] [(2, 82), (2, 76)] 83 K228 83 Q
  refine E_putR (ty := .array .long) 6 57 dX3_init_54 fl_X3_29 (at_76 (by decide)) rfl (by decide) (Or.inr ⟨rfl, cl_X3⟩) (by decide +kernel) (Or.inr ⟨_, rfl⟩) (fun h => by cases h) rfl rfl ?_
  show XX g false (d + 1) P_X3_init 57 [(2, 76), (2, 67)] [] 83 K229 83 Q
  refine E_aload_n 58 dX3_init_57 rfl (ac_76.bnd) rfl ?_
  refine E_aload_n 59 dX3_init_58 rfl (ac_67.bnd) rfl ?_
  refine E_putR (ty := .object "NoTwoTogether$Asker") 0 62 dX3_init_59 fl_X3_32 (at_76 (by decide)) rfl (by decide) (Or.inr ⟨rfl, cl_X3⟩) (by decide +kernel) (Or.inl ⟨_, rfl⟩) (fun h => by cases h) rfl rfl ?_
  show XX g false (d + 1) P_X3_init 62 [(2, 76), (2, 67)] [] 83 K230 83 Q
  exact E_vret dX3_init_62 rfl rfl w
theorem C25_X2_init {g : PG} {d : Nat} {Q : Int → PS → Prop} (w : Q 0 K237) : XX g false (d + 1) P_X2_init 0 [(2, 83), (2, 67)] [] 84 K232 86 Q := by
  refine E_aload_n 1 dX2_init_0 rfl (ac_83.bnd) rfl ?_
  refine E_objI 4 dX2_init_1 mw_456 mw_136 mw_137 (by decide) (Nat.le_of_ble_eq_true rfl) rfl ?_
  refine E_aload_n 5 dX2_init_4 rfl (ac_83.bnd) rfl ?_
  refine E_bipush 7 dX2_init_5 (by decide) rfl ?_
  refine E_newa 9 dX2_init_7 (rfl : kd 84 = (20, 60)) (by decide) rfl rfl (by decide) mw_167 (by decide) rfl ?_
  show XX g false (d + 1) P_X2_init 9 [(2, 83), (2, 67)] [(2, 84), (2, 83)] 85 K233 86 Q
  refine E_putR (ty := .array .int) 1 12 dX2_init_9 fl_X2_11 (at_83 (by decide)) rfl (by decide) (Or.inr ⟨rfl, cl_X2⟩) (by decide +kernel) (Or.inr ⟨_, rfl⟩) (fun h => by cases h) rfl rfl ?_
  show XX g false (d + 1) P_X2_init 12 [(2, 83), (2, 67)] [] 85 K234 86 Q
  refine E_aload_n 13 dX2_init_12 rfl (ac_83.bnd) rfl ?_
  refine E_bipush 15 dX2_init_13 (by decide) rfl ?_
  refine E_newa 17 dX2_init_15 (rfl : kd 85 = (20, 60)) (by decide) rfl rfl (by decide) mw_167 (by decide) rfl ?_
  show XX g false (d + 1) P_X2_init 17 [(2, 83), (2, 67)] [(2, 85), (2, 83)] 86 K235 86 Q
  refine E_putR (ty := .array .int) 2 20 dX2_init_17 fl_X2_17 (at_83 (by decide)) rfl (by decide) (Or.inr ⟨rfl, cl_X2⟩) (by decide +kernel) (Or.inr ⟨_, rfl⟩) (fun h => by cases h) rfl rfl ?_
  show XX g false (d + 1) P_X2_init 20 [(2, 83), (2, 67)] [] 86 K236 86 Q
  refine E_aload_n 21 dX2_init_20 rfl (ac_83.bnd) rfl ?_
  refine E_aload_n 22 dX2_init_21 rfl (ac_67.bnd) rfl ?_
  refine E_putR (ty := .object "NoTwoTogether$Asker") 0 25 dX2_init_22 fl_X2_20 (at_83 (by decide)) rfl (by decide) (Or.inr ⟨rfl, cl_X2⟩) (by decide +kernel) (Or.inl ⟨_, rfl⟩) (fun h => by cases h) rfl rfl ?_
  show XX g false (d + 1) P_X2_init 25 [(2, 83), (2, 67)] [] 86 K237 86 Q
  exact E_vret dX2_init_25 rfl rfl w
theorem C26_X10_init {g : PG} {d : Nat} {Q : Int → PS → Prop} (w : Q 0 K242) : XX g false (d + 1) P_X10_init 0 [(2, 86), (2, 70)] [] 87 K239 88 Q := by
  refine E_aload_n 1 dX10_init_0 rfl (ac_86.bnd) rfl ?_
  refine E_objI 4 dX10_init_1 mw_472 mw_136 mw_137 (by decide) (Nat.le_of_ble_eq_true rfl) rfl ?_
  refine E_aload_n 5 dX10_init_4 rfl (ac_86.bnd) rfl ?_
  refine E_bipush 7 dX10_init_5 (by decide) rfl ?_
  refine E_newa 9 dX10_init_7 (rfl : kd 87 = (20, 7)) (by decide) rfl rfl (by decide) mw_167 (by decide) rfl ?_
  show XX g false (d + 1) P_X10_init 9 [(2, 86), (2, 70)] [(2, 87), (2, 86)] 88 K240 88 Q
  refine E_putR (ty := .array .int) 1 12 dX10_init_9 fl_X10_11 (at_86 (by decide)) rfl (by decide) (Or.inr ⟨rfl, cl_X10⟩) (by decide +kernel) (Or.inr ⟨_, rfl⟩) (fun h => by cases h) rfl rfl ?_
  show XX g false (d + 1) P_X10_init 12 [(2, 86), (2, 70)] [] 88 K241 88 Q
  refine E_aload_n 13 dX10_init_12 rfl (ac_86.bnd) rfl ?_
  refine E_aload_n 14 dX10_init_13 rfl (ac_70.bnd) rfl ?_
  refine E_putR (ty := .object "NoTwoTogether$Odds") 0 17 dX10_init_14 fl_X10_15 (at_86 (by decide)) rfl (by decide) (Or.inr ⟨rfl, cl_X10⟩) (by decide +kernel) (Or.inl ⟨_, rfl⟩) (fun h => by cases h) rfl rfl ?_
  show XX g false (d + 1) P_X10_init 17 [(2, 86), (2, 70)] [] 88 K242 88 Q
  exact E_vret dX10_init_17 rfl rfl w
theorem C27_X7_begin {g : PG} {d : Nat} {Q : Int → PS → Prop} (w : Q 0 K253) : XX g false (d + 1) P_X7_begin 0 [(2, 43), (0, 8)] [] 88 K244 88 Q := by
  refine E_aload_n 1 dX7_begin_0 rfl (ac_43.bnd) rfl ?_
  refine E_iload_n 2 dX7_begin_1 rfl rfl ?_
  refine E_putI 0 5 dX7_begin_2 fl_X7_33 (at_43 (by decide)) rfl (by decide) (Or.inl rfl) rfl rfl ?_
  show XX g false (d + 1) P_X7_begin 5 [(2, 43), (0, 8)] [] 88 K245 88 Q
  refine E_aload_n 6 dX7_begin_5 rfl (ac_43.bnd) rfl ?_
  refine E_lconst (x := 0) 7 dX7_begin_6 rfl rfl ?_
  refine E_putJ 5 10 dX7_begin_7 fl_X7_37 (at_43 (by decide)) rfl (by decide) (Or.inl rfl) rfl rfl ?_
  show XX g false (d + 1) P_X7_begin 10 [(2, 43), (0, 8)] [] 88 K246 88 Q
  refine E_aload_n 11 dX7_begin_10 rfl (ac_43.bnd) rfl ?_
  refine E_lconst (x := 0) 12 dX7_begin_11 rfl rfl ?_
  refine E_putJ 6 15 dX7_begin_12 fl_X7_41 (at_43 (by decide)) rfl (by decide) (Or.inl rfl) rfl rfl ?_
  show XX g false (d + 1) P_X7_begin 15 [(2, 43), (0, 8)] [] 88 K247 88 Q
  refine E_aload_n 16 dX7_begin_15 rfl (ac_43.bnd) rfl ?_
  refine E_iconst 17 dX7_begin_16 (by decide) rfl ?_
  refine E_putI 15 20 dX7_begin_17 fl_X7_44 (at_43 (by decide)) rfl (by decide) (Or.inl rfl) rfl rfl ?_
  show XX g false (d + 1) P_X7_begin 20 [(2, 43), (0, 8)] [] 88 K248 88 Q
  refine E_aload_n 21 dX7_begin_20 rfl (ac_43.bnd) rfl ?_
  refine E_iconst 22 dX7_begin_21 (by decide) rfl ?_
  refine E_putI 16 25 dX7_begin_22 fl_X7_47 (at_43 (by decide)) rfl (by decide) (Or.inl rfl) rfl rfl ?_
  show XX g false (d + 1) P_X7_begin 25 [(2, 43), (0, 8)] [] 88 K249 88 Q
  refine E_aload_n 26 dX7_begin_25 rfl (ac_43.bnd) rfl ?_
  refine E_get 1 29 dX7_begin_26 fl_X7_11 (at_43 (by decide)) rfl (by decide) rfl rfl ?_
  refine E_conv (by decide +kernel : K249 43 1 = 44) ?_
  refine E_iconst 30 dX7_begin_29 (by decide) rfl ?_
  refine E_callS (as := [(2, 44), (0, 0)]) 33 dX7_begin_30 cf_J7_fill_53178 (Or.inl mw_484) mw_211 rfl rfl (Nat.le_of_ble_eq_true rfl) (Nat.le_of_ble_eq_true rfl) (by decide) rfl (f_fillI (at_44 (by decide)) (by decide) ?_)
  show XX g false (d + 1) P_X7_begin 33 [(2, 43), (0, 8)] [] 88 K250 88 Q
  refine E_aload_n 34 dX7_begin_33 rfl (ac_43.bnd) rfl ?_
  refine E_get 2 37 dX7_begin_34 fl_X7_15 (at_43 (by decide)) rfl (by decide) rfl rfl ?_
  refine E_conv (by decide +kernel : K250 43 2 = 45) ?_
  refine E_iconst 38 dX7_begin_37 (by decide) rfl ?_
  refine E_callS (as := [(2, 45), (0, 0)]) 41 dX7_begin_38 cf_J7_fill_53178 (Or.inl mw_484) mw_211 rfl rfl (Nat.le_of_ble_eq_true rfl) (Nat.le_of_ble_eq_true rfl) (by decide) rfl (f_fillI (at_45 (by decide)) (by decide) ?_)
  show XX g false (d + 1) P_X7_begin 41 [(2, 43), (0, 8)] [] 88 K251 88 Q
  refine E_aload_n 42 dX7_begin_41 rfl (ac_43.bnd) rfl ?_
  refine E_get 3 45 dX7_begin_42 fl_X7_18 (at_43 (by decide)) rfl (by decide) rfl rfl ?_
  refine E_conv (by decide +kernel : K251 43 3 = 46) ?_
  refine E_iconst 46 dX7_begin_45 (by decide) rfl ?_
  refine E_callS (as := [(2, 46), (0, (-1))]) 49 dX7_begin_46 cf_J7_fill_53178 (Or.inl mw_484) mw_211 rfl rfl (Nat.le_of_ble_eq_true rfl) (Nat.le_of_ble_eq_true rfl) (by decide) rfl (f_fillI (at_46 (by decide)) (by decide) ?_)
  show XX g false (d + 1) P_X7_begin 49 [(2, 43), (0, 8)] [] 88 K252 88 Q
  refine E_aload_n 50 dX7_begin_49 rfl (ac_43.bnd) rfl ?_
  refine E_get 4 53 dX7_begin_50 fl_X7_21 (at_43 (by decide)) rfl (by decide) rfl rfl ?_
  refine E_conv (by decide +kernel : K252 43 4 = 47) ?_
  refine E_iconst 54 dX7_begin_53 (by decide) rfl ?_
  refine E_callS (as := [(2, 47), (0, 0)]) 57 dX7_begin_54 cf_J7_fill_53178 (Or.inl mw_484) mw_211 rfl rfl (Nat.le_of_ble_eq_true rfl) (Nat.le_of_ble_eq_true rfl) (by decide) rfl (f_fillI (at_47 (by decide)) (by decide) ?_)
  show XX g false (d + 1) P_X7_begin 57 [(2, 43), (0, 8)] [] 88 K253 88 Q
  exact E_vret dX7_begin_57 rfl rfl w
theorem C1_X11_init {g : PG} {d : Nat} {Q : Int → PS → Prop} (w : Q 0 K253) : XX g false (d + 4) P_X11_init 0 [(2, 0)] [] 1 K1 88 Q := by
  refine E_aload_n 1 dX11_init_0 rfl (ac_0.bnd) rfl ?_
  refine E_objI 4 dX11_init_1 mw_135 mw_136 mw_137 (by decide) (Nat.le_of_ble_eq_true rfl) rfl ?_
  refine E_aload_n 5 dX11_init_4 rfl (ac_0.bnd) rfl ?_
  refine E_new (C0 := RX8) 8 dX11_init_5 (rfl : kd 1 = (8, 6)) (by decide) rfl cl_X8 mw_138 mw_139 mw_109 (by decide) rfl ?_
  show XX g false (d + 4) P_X11_init 8 [(2, 0)] [(2, 1), (2, 0)] 2 K2 88 Q
  refine E_dup 9 dX11_init_8 n21 rfl ?_
  refine E_callI (as := []) (N1 := 6) 12 dX11_init_9 cf_X8_init rfl rfl (Or.inr nst_X11_11) mw_141 (at_1 (by decide)) rfl rfl (Nat.le_of_ble_eq_true rfl) (Nat.le_of_ble_eq_true rfl) (by decide) rfl (C2_X8_init ?_)
  show XX g false (d + 4) P_X11_init 12 [(2, 0)] [(2, 1), (2, 0)] 6 K10 88 Q
  refine E_putR (ty := .object "NoTwoTogether$Tape") 0 15 dX11_init_12 fl_X11_12 (at_0 (by decide)) rfl (by decide) (Or.inr ⟨rfl, cl_X11⟩) (by decide +kernel) (Or.inl ⟨_, rfl⟩) (fun h => by cases h) rfl rfl ?_
  show XX g false (d + 4) P_X11_init 15 [(2, 0)] [] 6 K11 88 Q
  refine E_aload_n 16 dX11_init_15 rfl (ac_0.bnd) rfl ?_
  refine E_new (C0 := RX6) 19 dX11_init_16 (rfl : kd 6 = (6, 6)) (by decide) rfl cl_X6 mw_168 mw_169 mw_110 (by decide) rfl ?_
  show XX g false (d + 4) P_X11_init 19 [(2, 0)] [(2, 6), (2, 0)] 7 K12 88 Q
  refine E_dup 20 dX11_init_19 n21 rfl ?_
  refine E_aload_n 21 dX11_init_20 rfl (ac_0.bnd) rfl ?_
  refine E_get 0 24 dX11_init_21 fl_X11_12 (at_0 (by decide)) rfl (by decide) rfl rfl ?_
  refine E_conv (by decide +kernel : K12 0 0 = 1) ?_
  refine E_callI (as := [(2, 1)]) (N1 := 13) 27 dX11_init_24 cf_X6_init rfl rfl (Or.inl mw_170) mw_171 (at_6 (by decide)) rfl rfl (Nat.le_of_ble_eq_true rfl) (Nat.le_of_ble_eq_true rfl) (by decide) rfl (C3_X6_init ?_)
  show XX g false (d + 4) P_X11_init 27 [(2, 0)] [(2, 6), (2, 0)] 13 K26 88 Q
  refine E_putR (ty := .object "NoTwoTogether$Parser") 1 30 dX11_init_27 fl_X11_21 (at_0 (by decide)) rfl (by decide) (Or.inr ⟨rfl, cl_X11⟩) (by decide +kernel) (Or.inl ⟨_, rfl⟩) (fun h => by cases h) rfl rfl ?_
  show XX g false (d + 4) P_X11_init 30 [(2, 0)] [] 13 K27 88 Q
  refine E_aload_n 31 dX11_init_30 rfl (ac_0.bnd) rfl ?_
  refine E_new (C0 := RX9) 34 dX11_init_31 (rfl : kd 13 = (9, 4)) (by decide) rfl cl_X9 mw_240 mw_241 mw_114 (by decide) rfl ?_
  show XX g false (d + 4) P_X11_init 34 [(2, 0)] [(2, 13), (2, 0)] 14 K28 88 Q
  refine E_dup 35 dX11_init_34 n21 rfl ?_
  refine E_callI (as := []) (N1 := 28) 38 dX11_init_35 cf_X9_init rfl rfl (Or.inr nst_X11_27) mw_243 (at_13 (by decide)) rfl rfl (Nat.le_of_ble_eq_true rfl) (Nat.le_of_ble_eq_true rfl) (by decide) rfl (C7_X9_init ?_)
  show XX g false (d + 4) P_X11_init 38 [(2, 0)] [(2, 13), (2, 0)] 28 K57 88 Q
  refine E_putR (ty := .object "NoTwoTogether$Texts") 2 41 dX11_init_38 fl_X11_28 (at_0 (by decide)) rfl (by decide) (Or.inr ⟨rfl, cl_X11⟩) (by decide +kernel) (Or.inl ⟨_, rfl⟩) (fun h => by cases h) rfl rfl ?_
  show XX g false (d + 4) P_X11_init 41 [(2, 0)] [] 28 K58 88 Q
  refine E_aload_n 42 dX11_init_41 rfl (ac_0.bnd) rfl ?_
  refine E_new (C0 := RX9) 45 dX11_init_42 (rfl : kd 28 = (9, 4)) (by decide) rfl cl_X9 mw_240 mw_241 mw_114 (by decide) rfl ?_
  show XX g false (d + 4) P_X11_init 45 [(2, 0)] [(2, 28), (2, 0)] 29 K59 88 Q
  refine E_dup 46 dX11_init_45 n21 rfl ?_
  refine E_callI (as := []) (N1 := 43) 49 dX11_init_46 cf_X9_init rfl rfl (Or.inr nst_X11_27) mw_243 (at_28 (by decide)) rfl rfl (Nat.le_of_ble_eq_true rfl) (Nat.le_of_ble_eq_true rfl) (by decide) rfl (C13_X9_init ?_)
  show XX g false (d + 4) P_X11_init 49 [(2, 0)] [(2, 28), (2, 0)] 43 K88 88 Q
  refine E_putR (ty := .object "NoTwoTogether$Texts") 3 52 dX11_init_49 fl_X11_32 (at_0 (by decide)) rfl (by decide) (Or.inr ⟨rfl, cl_X11⟩) (by decide +kernel) (Or.inl ⟨_, rfl⟩) (fun h => by cases h) rfl rfl ?_
  show XX g false (d + 4) P_X11_init 52 [(2, 0)] [] 43 K89 88 Q
  refine E_aload_n 53 dX11_init_52 rfl (ac_0.bnd) rfl ?_
  refine E_new (C0 := RX7) 56 dX11_init_53 (rfl : kd 43 = (7, 17)) (by decide) rfl cl_X7 mw_271 mw_272 mw_115 (by decide) rfl ?_
  show XX g false (d + 4) P_X11_init 56 [(2, 0)] [(2, 43), (2, 0)] 44 K90 88 Q
  refine E_dup 57 dX11_init_56 n21 rfl ?_
  refine E_callI (as := []) (N1 := 51) 60 dX11_init_57 cf_X7_init rfl rfl (Or.inr nst_X11_37) mw_274 (at_43 (by decide)) rfl rfl (Nat.le_of_ble_eq_true rfl) (Nat.le_of_ble_eq_true rfl) (by decide) rfl (C19_X7_init ?_)
  show XX g false (d + 4) P_X11_init 60 [(2, 0)] [(2, 43), (2, 0)] 51 K124 88 Q
  refine E_putR (ty := .object "NoTwoTogether$Row") 4 63 dX11_init_60 fl_X11_38 (at_0 (by decide)) rfl (by decide) (Or.inr ⟨rfl, cl_X11⟩) (by decide +kernel) (Or.inl ⟨_, rfl⟩) (fun h => by cases h) rfl rfl ?_
  show XX g false (d + 4) P_X11_init 63 [(2, 0)] [] 51 K125 88 Q
  refine E_aload_n 64 dX11_init_63 rfl (ac_0.bnd) rfl ?_
  refine E_new (C0 := RX7) 67 dX11_init_64 (rfl : kd 51 = (7, 17)) (by decide) rfl cl_X7 mw_271 mw_272 mw_115 (by decide) rfl ?_
  show XX g false (d + 4) P_X11_init 67 [(2, 0)] [(2, 51), (2, 0)] 52 K126 88 Q
  refine E_dup 68 dX11_init_67 n21 rfl ?_
  refine E_callI (as := []) (N1 := 59) 71 dX11_init_68 cf_X7_init rfl rfl (Or.inr nst_X11_37) mw_274 (at_51 (by decide)) rfl rfl (Nat.le_of_ble_eq_true rfl) (Nat.le_of_ble_eq_true rfl) (by decide) rfl (C20_X7_init ?_)
  show XX g false (d + 4) P_X11_init 71 [(2, 0)] [(2, 51), (2, 0)] 59 K160 88 Q
  refine E_putR (ty := .object "NoTwoTogether$Row") 5 74 dX11_init_71 fl_X11_42 (at_0 (by decide)) rfl (by decide) (Or.inr ⟨rfl, cl_X11⟩) (by decide +kernel) (Or.inl ⟨_, rfl⟩) (fun h => by cases h) rfl rfl ?_
  show XX g false (d + 4) P_X11_init 74 [(2, 0)] [] 59 K161 88 Q
  refine E_aload_n 75 dX11_init_74 rfl (ac_0.bnd) rfl ?_
  refine E_new (C0 := RX7) 78 dX11_init_75 (rfl : kd 59 = (7, 17)) (by decide) rfl cl_X7 mw_271 mw_272 mw_115 (by decide) rfl ?_
  show XX g false (d + 4) P_X11_init 78 [(2, 0)] [(2, 59), (2, 0)] 60 K162 88 Q
  refine E_dup 79 dX11_init_78 n21 rfl ?_
  refine E_callI (as := []) (N1 := 67) 82 dX11_init_79 cf_X7_init rfl rfl (Or.inr nst_X11_37) mw_274 (at_59 (by decide)) rfl rfl (Nat.le_of_ble_eq_true rfl) (Nat.le_of_ble_eq_true rfl) (by decide) rfl (C21_X7_init ?_)
  show XX g false (d + 4) P_X11_init 82 [(2, 0)] [(2, 59), (2, 0)] 67 K196 88 Q
  refine E_putR (ty := .object "NoTwoTogether$Row") 6 85 dX11_init_82 fl_X11_45 (at_0 (by decide)) rfl (by decide) (Or.inr ⟨rfl, cl_X11⟩) (by decide +kernel) (Or.inl ⟨_, rfl⟩) (fun h => by cases h) rfl rfl ?_
  show XX g false (d + 4) P_X11_init 85 [(2, 0)] [] 67 K197 88 Q
  refine E_aload_n 86 dX11_init_85 rfl (ac_0.bnd) rfl ?_
  refine E_new (C0 := RX0) 89 dX11_init_86 (rfl : kd 67 = (0, 2)) (by decide) rfl cl_X0 mw_377 mw_378 mw_116 (by decide) rfl ?_
  show XX g false (d + 4) P_X11_init 89 [(2, 0)] [(2, 67), (2, 0)] 68 K198 88 Q
  refine E_dup 90 dX11_init_89 n21 rfl ?_
  refine E_callI (as := []) (N1 := 70) 93 dX11_init_90 cf_X0_init rfl rfl (Or.inr nst_X11_50) mw_380 (at_67 (by decide)) rfl rfl (Nat.le_of_ble_eq_true rfl) (Nat.le_of_ble_eq_true rfl) (by decide) rfl (C22_X0_init ?_)
  show XX g false (d + 4) P_X11_init 93 [(2, 0)] [(2, 67), (2, 0)] 70 K202 88 Q
  refine E_putR (ty := .object "NoTwoTogether$Asker") 7 96 dX11_init_93 fl_X11_51 (at_0 (by decide)) rfl (by decide) (Or.inr ⟨rfl, cl_X11⟩) (by decide +kernel) (Or.inl ⟨_, rfl⟩) (fun h => by cases h) rfl rfl ?_
  show XX g false (d + 4) P_X11_init 96 [(2, 0)] [] 70 K203 88 Q
  refine E_aload_n 97 dX11_init_96 rfl (ac_0.bnd) rfl ?_
  refine E_new (C0 := RX5) 100 dX11_init_97 (rfl : kd 70 = (5, 6)) (by decide) rfl cl_X5 mw_390 mw_391 mw_117 (by decide) rfl ?_
  show XX g false (d + 4) P_X11_init 100 [(2, 0)] [(2, 70), (2, 0)] 71 K204 88 Q
  refine E_dup 101 dX11_init_100 n21 rfl ?_
  refine E_aload_n 102 dX11_init_101 rfl (ac_0.bnd) rfl ?_
  refine E_get 7 105 dX11_init_102 fl_X11_51 (at_0 (by decide)) rfl (by decide) rfl rfl ?_
  refine E_conv (by decide +kernel : K204 0 7 = 67) ?_
  refine E_callI (as := [(2, 67)]) (N1 := 76) 108 dX11_init_105 cf_X5_init rfl rfl (Or.inl mw_392) mw_393 (at_70 (by decide)) rfl rfl (Nat.le_of_ble_eq_true rfl) (Nat.le_of_ble_eq_true rfl) (by decide) rfl (C23_X5_init ?_)
  show XX g false (d + 4) P_X11_init 108 [(2, 0)] [(2, 70), (2, 0)] 76 K215 88 Q
  refine E_putR (ty := .object "NoTwoTogether$Odds") 8 111 dX11_init_108 fl_X11_60 (at_0 (by decide)) rfl (by decide) (Or.inr ⟨rfl, cl_X11⟩) (by decide +kernel) (Or.inl ⟨_, rfl⟩) (fun h => by cases h) rfl rfl ?_
  show XX g false (d + 4) P_X11_init 111 [(2, 0)] [] 76 K216 88 Q
  refine E_aload_n 112 dX11_init_111 rfl (ac_0.bnd) rfl ?_
  refine E_new (C0 := RX3) 115 dX11_init_112 (rfl : kd 76 = (3, 9)) (by decide) rfl cl_X3 mw_416 mw_417 mw_118 (by decide) rfl ?_
  show XX g false (d + 4) P_X11_init 115 [(2, 0)] [(2, 76), (2, 0)] 77 K217 88 Q
  refine E_dup 116 dX11_init_115 n21 rfl ?_
  refine E_aload_n 117 dX11_init_116 rfl (ac_0.bnd) rfl ?_
  refine E_get 7 120 dX11_init_117 fl_X11_51 (at_0 (by decide)) rfl (by decide) rfl rfl ?_
  refine E_conv (by decide +kernel : K217 0 7 = 67) ?_
  refine E_callI (as := [(2, 67)]) (N1 := 83) 123 dX11_init_120 cf_X3_init rfl rfl (Or.inl mw_418) mw_419 (at_76 (by decide)) rfl rfl (Nat.le_of_ble_eq_true rfl) (Nat.le_of_ble_eq_true rfl) (by decide) rfl (C24_X3_init ?_)
  show XX g false (d + 4) P_X11_init 123 [(2, 0)] [(2, 76), (2, 0)] 83 K230 88 Q
  refine E_putR (ty := .object "NoTwoTogether$Future") 9 126 dX11_init_123 fl_X11_67 (at_0 (by decide)) rfl (by decide) (Or.inr ⟨rfl, cl_X11⟩) (by decide +kernel) (Or.inl ⟨_, rfl⟩) (fun h => by cases h) rfl rfl ?_
  show XX g false (d + 4) P_X11_init 126 [(2, 0)] [] 83 K231 88 Q
  refine E_aload_n 127 dX11_init_126 rfl (ac_0.bnd) rfl ?_
  refine E_new (C0 := RX2) 130 dX11_init_127 (rfl : kd 83 = (2, 3)) (by decide) rfl cl_X2 mw_451 mw_452 mw_119 (by decide) rfl ?_
  show XX g false (d + 4) P_X11_init 130 [(2, 0)] [(2, 83), (2, 0)] 84 K232 88 Q
  refine E_dup 131 dX11_init_130 n21 rfl ?_
  refine E_aload_n 132 dX11_init_131 rfl (ac_0.bnd) rfl ?_
  refine E_get 7 135 dX11_init_132 fl_X11_51 (at_0 (by decide)) rfl (by decide) rfl rfl ?_
  refine E_conv (by decide +kernel : K232 0 7 = 67) ?_
  refine E_callI (as := [(2, 67)]) (N1 := 86) 138 dX11_init_135 cf_X2_init rfl rfl (Or.inl mw_453) mw_454 (at_83 (by decide)) rfl rfl (Nat.le_of_ble_eq_true rfl) (Nat.le_of_ble_eq_true rfl) (by decide) rfl (C25_X2_init ?_)
  show XX g false (d + 4) P_X11_init 138 [(2, 0)] [(2, 83), (2, 0)] 86 K237 88 Q
  refine E_putR (ty := .object "NoTwoTogether$Bridge") 10 141 dX11_init_138 fl_X11_74 (at_0 (by decide)) rfl (by decide) (Or.inr ⟨rfl, cl_X11⟩) (by decide +kernel) (Or.inl ⟨_, rfl⟩) (fun h => by cases h) rfl rfl ?_
  show XX g false (d + 4) P_X11_init 141 [(2, 0)] [] 86 K238 88 Q
  refine E_aload_n 142 dX11_init_141 rfl (ac_0.bnd) rfl ?_
  refine E_new (C0 := RX10) 145 dX11_init_142 (rfl : kd 86 = (10, 2)) (by decide) rfl cl_X10 mw_467 mw_468 mw_120 (by decide) rfl ?_
  show XX g false (d + 4) P_X11_init 145 [(2, 0)] [(2, 86), (2, 0)] 87 K239 88 Q
  refine E_dup 146 dX11_init_145 n21 rfl ?_
  refine E_aload_n 147 dX11_init_146 rfl (ac_0.bnd) rfl ?_
  refine E_get 8 150 dX11_init_147 fl_X11_60 (at_0 (by decide)) rfl (by decide) rfl rfl ?_
  refine E_conv (by decide +kernel : K239 0 8 = 70) ?_
  refine E_callI (as := [(2, 70)]) (N1 := 88) 153 dX11_init_150 cf_X10_init rfl rfl (Or.inl mw_469) mw_470 (at_86 (by decide)) rfl rfl (Nat.le_of_ble_eq_true rfl) (Nat.le_of_ble_eq_true rfl) (by decide) rfl (C26_X10_init ?_)
  show XX g false (d + 4) P_X11_init 153 [(2, 0)] [(2, 86), (2, 0)] 88 K242 88 Q
  refine E_putR (ty := .object "NoTwoTogether$Tries") 11 156 dX11_init_153 fl_X11_83 (at_0 (by decide)) rfl (by decide) (Or.inr ⟨rfl, cl_X11⟩) (by decide +kernel) (Or.inl ⟨_, rfl⟩) (fun h => by cases h) rfl rfl ?_
  show XX g false (d + 4) P_X11_init 156 [(2, 0)] [] 88 K243 88 Q
  refine E_aload_n 157 dX11_init_156 rfl (ac_0.bnd) rfl ?_
  refine E_iconst 158 dX11_init_157 (by decide) rfl ?_
  refine E_putI 14 161 dX11_init_158 fl_X11_87 (at_0 (by decide)) rfl (by decide) (Or.inr ⟨rfl, cl_X11⟩) rfl rfl ?_
  show XX g false (d + 4) P_X11_init 161 [(2, 0)] [] 88 K244 88 Q
  refine E_aload_n 162 dX11_init_161 rfl (ac_0.bnd) rfl ?_
  refine E_get 4 165 dX11_init_162 fl_X11_38 (at_0 (by decide)) rfl (by decide) rfl rfl ?_
  refine E_conv (by decide +kernel : K244 0 4 = 43) ?_
  refine E_bipush 167 dX11_init_165 (by decide) rfl ?_
  refine E_callV (as := [(0, 8)]) (N1 := 88) 170 dX11_init_167 cf_X7_begin mw_480 mw_481 mw_482 (at_43 (by decide)) (by decide) cl_X7 rfl rfl (Nat.le_of_ble_eq_true rfl) (Nat.le_of_ble_eq_true rfl) (by decide) rfl (C27_X7_begin ?_)
  show XX g false (d + 4) P_X11_init 170 [(2, 0)] [] 88 K253 88 Q
  exact E_vret dX11_init_170 rfl rfl w
theorem C28_X12_init {g : PG} {d : Nat} {Q : Int → PS → Prop} (w : Q 0 K489) : XX g false (d + 1) P_X12_init 0 [(2, 88)] [] 89 K254 136 Q := by
  refine E_aload_n 1 dX12_init_0 rfl (ac_88.bnd) rfl ?_
  refine E_objI 4 dX12_init_1 mw_1116 mw_136 mw_137 (by decide) (Nat.le_of_ble_eq_true rfl) rfl ?_
  refine E_aload_n 5 dX12_init_4 rfl (ac_88.bnd) rfl ?_
  refine E_bipush 7 dX12_init_5 (by decide) rfl ?_
  refine E_putI 2 10 dX12_init_7 fl_X12_7 (at_88 (by decide)) rfl (by decide) (Or.inr ⟨rfl, cl_X12⟩) rfl rfl ?_
  show XX g false (d + 1) P_X12_init 10 [(2, 88)] [] 89 K255 136 Q
  refine E_aload_n 11 dX12_init_10 rfl (ac_88.bnd) rfl ?_
  refine E_bipush 13 dX12_init_11 (by decide) rfl ?_
  refine E_newa 15 dX12_init_13 (rfl : kd 89 = (20, 60)) (by decide) rfl rfl (by decide) mw_167 (by decide) rfl ?_
  show XX g false (d + 1) P_X12_init 15 [(2, 88)] [(2, 89), (2, 88)] 90 K256 136 Q
  refine E_putR (ty := .array .int) 3 18 dX12_init_15 fl_X12_13 (at_88 (by decide)) rfl (by decide) (Or.inr ⟨rfl, cl_X12⟩) (by decide +kernel) (Or.inr ⟨_, rfl⟩) (fun h => by cases h) rfl rfl ?_
  show XX g false (d + 1) P_X12_init 18 [(2, 88)] [] 90 K257 136 Q
  refine E_aload_n 19 dX12_init_18 rfl (ac_88.bnd) rfl ?_
  refine E_bipush 21 dX12_init_19 (by decide) rfl ?_
  refine E_newa 23 dX12_init_21 (rfl : kd 90 = (20, 60)) (by decide) rfl rfl (by decide) mw_167 (by decide) rfl ?_
  show XX g false (d + 1) P_X12_init 23 [(2, 88)] [(2, 90), (2, 88)] 91 K258 136 Q
  refine E_putR (ty := .array .int) 4 26 dX12_init_23 fl_X12_17 (at_88 (by decide)) rfl (by decide) (Or.inr ⟨rfl, cl_X12⟩) (by decide +kernel) (Or.inr ⟨_, rfl⟩) (fun h => by cases h) rfl rfl ?_
  show XX g false (d + 1) P_X12_init 26 [(2, 88)] [] 91 K259 136 Q
  refine E_aload_n 27 dX12_init_26 rfl (ac_88.bnd) rfl ?_
  refine E_bipush 29 dX12_init_27 (by decide) rfl ?_
  refine E_newa 31 dX12_init_29 (rfl : kd 91 = (20, 60)) (by decide) rfl rfl (by decide) mw_167 (by decide) rfl ?_
  show XX g false (d + 1) P_X12_init 31 [(2, 88)] [(2, 91), (2, 88)] 92 K260 136 Q
  refine E_putR (ty := .array .int) 5 34 dX12_init_31 fl_X12_20 (at_88 (by decide)) rfl (by decide) (Or.inr ⟨rfl, cl_X12⟩) (by decide +kernel) (Or.inr ⟨_, rfl⟩) (fun h => by cases h) rfl rfl ?_
  show XX g false (d + 1) P_X12_init 34 [(2, 88)] [] 92 K261 136 Q
  refine E_aload_n 35 dX12_init_34 rfl (ac_88.bnd) rfl ?_
  refine E_bipush 37 dX12_init_35 (by decide) rfl ?_
  refine E_newa 39 dX12_init_37 (rfl : kd 92 = (20, 60)) (by decide) rfl rfl (by decide) mw_167 (by decide) rfl ?_
  show XX g false (d + 1) P_X12_init 39 [(2, 88)] [(2, 92), (2, 88)] 93 K262 136 Q
  refine E_putR (ty := .array .int) 6 42 dX12_init_39 fl_X12_23 (at_88 (by decide)) rfl (by decide) (Or.inr ⟨rfl, cl_X12⟩) (by decide +kernel) (Or.inr ⟨_, rfl⟩) (fun h => by cases h) rfl rfl ?_
  show XX g false (d + 1) P_X12_init 42 [(2, 88)] [] 93 K263 136 Q
  refine E_aload_n 43 dX12_init_42 rfl (ac_88.bnd) rfl ?_
  refine E_bipush 45 dX12_init_43 (by decide) rfl ?_
  refine E_newa 47 dX12_init_45 (rfl : kd 93 = (20, 60)) (by decide) rfl rfl (by decide) mw_167 (by decide) rfl ?_
  show XX g false (d + 1) P_X12_init 47 [(2, 88)] [(2, 93), (2, 88)] 94 K264 136 Q
  refine E_putR (ty := .array .int) 7 50 dX12_init_47 fl_X12_26 (at_88 (by decide)) rfl (by decide) (Or.inr ⟨rfl, cl_X12⟩) (by decide +kernel) (Or.inr ⟨_, rfl⟩) (fun h => by cases h) rfl rfl ?_
  show XX g false (d + 1) P_X12_init 50 [(2, 88)] [] 94 K265 136 Q
  refine E_aload_n 51 dX12_init_50 rfl (ac_88.bnd) rfl ?_
  refine E_bipush 53 dX12_init_51 (by decide) rfl ?_
  refine E_newa 55 dX12_init_53 (rfl : kd 94 = (20, 60)) (by decide) rfl rfl (by decide) mw_167 (by decide) rfl ?_
  show XX g false (d + 1) P_X12_init 55 [(2, 88)] [(2, 94), (2, 88)] 95 K266 136 Q
  refine E_putR (ty := .array .int) 8 58 dX12_init_55 fl_X12_29 (at_88 (by decide)) rfl (by decide) (Or.inr ⟨rfl, cl_X12⟩) (by decide +kernel) (Or.inr ⟨_, rfl⟩) (fun h => by cases h) rfl rfl ?_
  show XX g false (d + 1) P_X12_init 58 [(2, 88)] [] 95 K267 136 Q
  refine E_aload_n 59 dX12_init_58 rfl (ac_88.bnd) rfl ?_
  refine E_bipush 61 dX12_init_59 (by decide) rfl ?_
  refine E_newa 63 dX12_init_61 (rfl : kd 95 = (20, 6)) (by decide) rfl rfl (by decide) mw_167 (by decide) rfl ?_
  show XX g false (d + 1) P_X12_init 63 [(2, 88)] [(2, 95), (2, 88)] 96 K268 136 Q
  refine E_dup 64 dX12_init_63 n21 rfl ?_
  refine E_iconst 65 dX12_init_64 (by decide) rfl ?_
  refine E_bipush 67 dX12_init_65 (by decide) rfl ?_
  refine E_iast 68 dX12_init_67 (at_95 (by decide)) (by decide) rfl ?_
  show XX g false (d + 1) P_X12_init 68 [(2, 88)] [(2, 95), (2, 88)] 96 K269 136 Q
  refine E_dup 69 dX12_init_68 n21 rfl ?_
  refine E_iconst 70 dX12_init_69 (by decide) rfl ?_
  refine E_bipush 72 dX12_init_70 (by decide) rfl ?_
  refine E_iast 73 dX12_init_72 (at_95 (by decide)) (by decide) rfl ?_
  show XX g false (d + 1) P_X12_init 73 [(2, 88)] [(2, 95), (2, 88)] 96 K270 136 Q
  refine E_dup 74 dX12_init_73 n21 rfl ?_
  refine E_iconst 75 dX12_init_74 (by decide) rfl ?_
  refine E_bipush 77 dX12_init_75 (by decide) rfl ?_
  refine E_iast 78 dX12_init_77 (at_95 (by decide)) (by decide) rfl ?_
  show XX g false (d + 1) P_X12_init 78 [(2, 88)] [(2, 95), (2, 88)] 96 K271 136 Q
  refine E_dup 79 dX12_init_78 n21 rfl ?_
  refine E_iconst 80 dX12_init_79 (by decide) rfl ?_
  refine E_bipush 82 dX12_init_80 (by decide) rfl ?_
  refine E_iast 83 dX12_init_82 (at_95 (by decide)) (by decide) rfl ?_
  show XX g false (d + 1) P_X12_init 83 [(2, 88)] [(2, 95), (2, 88)] 96 K272 136 Q
  refine E_dup 84 dX12_init_83 n21 rfl ?_
  refine E_iconst 85 dX12_init_84 (by decide) rfl ?_
  refine E_bipush 87 dX12_init_85 (by decide) rfl ?_
  refine E_iast 88 dX12_init_87 (at_95 (by decide)) (by decide) rfl ?_
  show XX g false (d + 1) P_X12_init 88 [(2, 88)] [(2, 95), (2, 88)] 96 K273 136 Q
  refine E_dup 89 dX12_init_88 n21 rfl ?_
  refine E_iconst 90 dX12_init_89 (by decide) rfl ?_
  refine E_bipush 92 dX12_init_90 (by decide) rfl ?_
  refine E_iast 93 dX12_init_92 (at_95 (by decide)) (by decide) rfl ?_
  show XX g false (d + 1) P_X12_init 93 [(2, 88)] [(2, 95), (2, 88)] 96 K274 136 Q
  refine E_putR (ty := .array .int) 9 96 dX12_init_93 fl_X12_32 (at_88 (by decide)) rfl (by decide) (Or.inr ⟨rfl, cl_X12⟩) (by decide +kernel) (Or.inr ⟨_, rfl⟩) (fun h => by cases h) rfl rfl ?_
  show XX g false (d + 1) P_X12_init 96 [(2, 88)] [] 96 K275 136 Q
  refine E_aload_n 97 dX12_init_96 rfl (ac_88.bnd) rfl ?_
  refine E_bipush 99 dX12_init_97 (by decide) rfl ?_
  refine E_newa 101 dX12_init_99 (rfl : kd 96 = (20, 6)) (by decide) rfl rfl (by decide) mw_167 (by decide) rfl ?_
  show XX g false (d + 1) P_X12_init 101 [(2, 88)] [(2, 96), (2, 88)] 97 K276 136 Q
  refine E_dup 102 dX12_init_101 n21 rfl ?_
  refine E_iconst 103 dX12_init_102 (by decide) rfl ?_
  refine E_iconst 104 dX12_init_103 (by decide) rfl ?_
  refine E_iast 105 dX12_init_104 (at_96 (by decide)) (by decide) rfl ?_
  show XX g false (d + 1) P_X12_init 105 [(2, 88)] [(2, 96), (2, 88)] 97 K277 136 Q
  refine E_dup 106 dX12_init_105 n21 rfl ?_
  refine E_iconst 107 dX12_init_106 (by decide) rfl ?_
  refine E_iconst 108 dX12_init_107 (by decide) rfl ?_
  refine E_iast 109 dX12_init_108 (at_96 (by decide)) (by decide) rfl ?_
  show XX g false (d + 1) P_X12_init 109 [(2, 88)] [(2, 96), (2, 88)] 97 K278 136 Q
  refine E_dup 110 dX12_init_109 n21 rfl ?_
  refine E_iconst 111 dX12_init_110 (by decide) rfl ?_
  refine E_iconst 112 dX12_init_111 (by decide) rfl ?_
  refine E_iast 113 dX12_init_112 (at_96 (by decide)) (by decide) rfl ?_
  show XX g false (d + 1) P_X12_init 113 [(2, 88)] [(2, 96), (2, 88)] 97 K279 136 Q
  refine E_dup 114 dX12_init_113 n21 rfl ?_
  refine E_iconst 115 dX12_init_114 (by decide) rfl ?_
  refine E_iconst 116 dX12_init_115 (by decide) rfl ?_
  refine E_iast 117 dX12_init_116 (at_96 (by decide)) (by decide) rfl ?_
  show XX g false (d + 1) P_X12_init 117 [(2, 88)] [(2, 96), (2, 88)] 97 K280 136 Q
  refine E_dup 118 dX12_init_117 n21 rfl ?_
  refine E_iconst 119 dX12_init_118 (by decide) rfl ?_
  refine E_iconst 120 dX12_init_119 (by decide) rfl ?_
  refine E_iast 121 dX12_init_120 (at_96 (by decide)) (by decide) rfl ?_
  show XX g false (d + 1) P_X12_init 121 [(2, 88)] [(2, 96), (2, 88)] 97 K281 136 Q
  refine E_dup 122 dX12_init_121 n21 rfl ?_
  refine E_iconst 123 dX12_init_122 (by decide) rfl ?_
  refine E_iconst 124 dX12_init_123 (by decide) rfl ?_
  refine E_iast 125 dX12_init_124 (at_96 (by decide)) (by decide) rfl ?_
  show XX g false (d + 1) P_X12_init 125 [(2, 88)] [(2, 96), (2, 88)] 97 K282 136 Q
  refine E_putR (ty := .array .int) 10 128 dX12_init_125 fl_X12_35 (at_88 (by decide)) rfl (by decide) (Or.inr ⟨rfl, cl_X12⟩) (by decide +kernel) (Or.inr ⟨_, rfl⟩) (fun h => by cases h) rfl rfl ?_
  show XX g false (d + 1) P_X12_init 128 [(2, 88)] [] 97 K283 136 Q
  refine E_aload_n 129 dX12_init_128 rfl (ac_88.bnd) rfl ?_
  refine E_bipush 131 dX12_init_129 (by decide) rfl ?_
  refine E_newa 133 dX12_init_131 (rfl : kd 97 = (20, 8)) (by decide) rfl rfl (by decide) mw_167 (by decide) rfl ?_
  show XX g false (d + 1) P_X12_init 133 [(2, 88)] [(2, 97), (2, 88)] 98 K284 136 Q
  refine E_dup 134 dX12_init_133 n21 rfl ?_
  refine E_iconst 135 dX12_init_134 (by decide) rfl ?_
  refine E_iconst 136 dX12_init_135 (by decide) rfl ?_
  refine E_iast 137 dX12_init_136 (at_97 (by decide)) (by decide) rfl ?_
  show XX g false (d + 1) P_X12_init 137 [(2, 88)] [(2, 97), (2, 88)] 98 K285 136 Q
  refine E_dup 138 dX12_init_137 n21 rfl ?_
  refine E_iconst 139 dX12_init_138 (by decide) rfl ?_
  refine E_iconst 140 dX12_init_139 (by decide) rfl ?_
  refine E_iast 141 dX12_init_140 (at_97 (by decide)) (by decide) rfl ?_
  show XX g false (d + 1) P_X12_init 141 [(2, 88)] [(2, 97), (2, 88)] 98 K286 136 Q
  refine E_dup 142 dX12_init_141 n21 rfl ?_
  refine E_iconst 143 dX12_init_142 (by decide) rfl ?_
  refine E_bipush 145 dX12_init_143 (by decide) rfl ?_
  refine E_iast 146 dX12_init_145 (at_97 (by decide)) (by decide) rfl ?_
  show XX g false (d + 1) P_X12_init 146 [(2, 88)] [(2, 97), (2, 88)] 98 K287 136 Q
  refine E_dup 147 dX12_init_146 n21 rfl ?_
  refine E_iconst 148 dX12_init_147 (by decide) rfl ?_
  refine E_iconst 149 dX12_init_148 (by decide) rfl ?_
  refine E_iast 150 dX12_init_149 (at_97 (by decide)) (by decide) rfl ?_
  show XX g false (d + 1) P_X12_init 150 [(2, 88)] [(2, 97), (2, 88)] 98 K288 136 Q
  refine E_dup 151 dX12_init_150 n21 rfl ?_
  refine E_iconst 152 dX12_init_151 (by decide) rfl ?_
  refine E_iconst 153 dX12_init_152 (by decide) rfl ?_
  refine E_iast 154 dX12_init_153 (at_97 (by decide)) (by decide) rfl ?_
  show XX g false (d + 1) P_X12_init 154 [(2, 88)] [(2, 97), (2, 88)] 98 K289 136 Q
  refine E_dup 155 dX12_init_154 n21 rfl ?_
  refine E_iconst 156 dX12_init_155 (by decide) rfl ?_
  refine E_bipush 158 dX12_init_156 (by decide) rfl ?_
  refine E_iast 159 dX12_init_158 (at_97 (by decide)) (by decide) rfl ?_
  show XX g false (d + 1) P_X12_init 159 [(2, 88)] [(2, 97), (2, 88)] 98 K290 136 Q
  refine E_dup 160 dX12_init_159 n21 rfl ?_
  refine E_bipush 162 dX12_init_160 (by decide) rfl ?_
  refine E_bipush 164 dX12_init_162 (by decide) rfl ?_
  refine E_iast 165 dX12_init_164 (at_97 (by decide)) (by decide) rfl ?_
  show XX g false (d + 1) P_X12_init 165 [(2, 88)] [(2, 97), (2, 88)] 98 K291 136 Q
  refine E_dup 166 dX12_init_165 n21 rfl ?_
  refine E_bipush 168 dX12_init_166 (by decide) rfl ?_
  refine E_bipush 170 dX12_init_168 (by decide) rfl ?_
  refine E_iast 171 dX12_init_170 (at_97 (by decide)) (by decide) rfl ?_
  show XX g false (d + 1) P_X12_init 171 [(2, 88)] [(2, 97), (2, 88)] 98 K292 136 Q
  refine E_putR (ty := .array .int) 11 174 dX12_init_171 fl_X12_38 (at_88 (by decide)) rfl (by decide) (Or.inr ⟨rfl, cl_X12⟩) (by decide +kernel) (Or.inr ⟨_, rfl⟩) (fun h => by cases h) rfl rfl ?_
  show XX g false (d + 1) P_X12_init 174 [(2, 88)] [] 98 K293 136 Q
  refine E_aload_n 175 dX12_init_174 rfl (ac_88.bnd) rfl ?_
  refine E_iconst 176 dX12_init_175 (by decide) rfl ?_
  refine E_putI 17 179 dX12_init_176 fl_X12_41 (at_88 (by decide)) rfl (by decide) (Or.inr ⟨rfl, cl_X12⟩) rfl rfl ?_
  show XX g false (d + 1) P_X12_init 179 [(2, 88)] [] 98 K294 136 Q
  refine E_aload_n 180 dX12_init_179 rfl (ac_88.bnd) rfl ?_
  refine E_sipush 183 dX12_init_180 (by decide) rfl ?_
  refine E_newa 185 dX12_init_183 (rfl : kd 98 = (20, 500)) (by decide) rfl rfl (by decide) mw_167 (by decide) rfl ?_
  show XX g false (d + 1) P_X12_init 185 [(2, 88)] [(2, 98), (2, 88)] 99 K295 136 Q
  refine E_putR (ty := .array .int) 18 188 dX12_init_185 fl_X12_44 (at_88 (by decide)) rfl (by decide) (Or.inr ⟨rfl, cl_X12⟩) (by decide +kernel) (Or.inr ⟨_, rfl⟩) (fun h => by cases h) rfl rfl ?_
  show XX g false (d + 1) P_X12_init 188 [(2, 88)] [] 99 K296 136 Q
  refine E_aload_n 189 dX12_init_188 rfl (ac_88.bnd) rfl ?_
  refine E_bipush 191 dX12_init_189 (by decide) rfl ?_
  refine E_newa 193 dX12_init_191 (rfl : kd 99 = (20, 117)) (by decide) rfl rfl (by decide) mw_167 (by decide) rfl ?_
  show XX g false (d + 1) P_X12_init 193 [(2, 88)] [(2, 99), (2, 88)] 100 K297 136 Q
  refine E_dup 194 dX12_init_193 n21 rfl ?_
  refine E_iconst 195 dX12_init_194 (by decide) rfl ?_
  refine E_bipush 197 dX12_init_195 (by decide) rfl ?_
  refine E_iast 198 dX12_init_197 (at_99 (by decide)) (by decide) rfl ?_
  show XX g false (d + 1) P_X12_init 198 [(2, 88)] [(2, 99), (2, 88)] 100 K298 136 Q
  refine E_dup 199 dX12_init_198 n21 rfl ?_
  refine E_iconst 200 dX12_init_199 (by decide) rfl ?_
  refine E_bipush 202 dX12_init_200 (by decide) rfl ?_
  refine E_iast 203 dX12_init_202 (at_99 (by decide)) (by decide) rfl ?_
  show XX g false (d + 1) P_X12_init 203 [(2, 88)] [(2, 99), (2, 88)] 100 K299 136 Q
  refine E_dup 204 dX12_init_203 n21 rfl ?_
  refine E_iconst 205 dX12_init_204 (by decide) rfl ?_
  refine E_bipush 207 dX12_init_205 (by decide) rfl ?_
  refine E_iast 208 dX12_init_207 (at_99 (by decide)) (by decide) rfl ?_
  show XX g false (d + 1) P_X12_init 208 [(2, 88)] [(2, 99), (2, 88)] 100 K300 136 Q
  refine E_dup 209 dX12_init_208 n21 rfl ?_
  refine E_iconst 210 dX12_init_209 (by decide) rfl ?_
  refine E_bipush 212 dX12_init_210 (by decide) rfl ?_
  refine E_iast 213 dX12_init_212 (at_99 (by decide)) (by decide) rfl ?_
  show XX g false (d + 1) P_X12_init 213 [(2, 88)] [(2, 99), (2, 88)] 100 K301 136 Q
  refine E_dup 214 dX12_init_213 n21 rfl ?_
  refine E_iconst 215 dX12_init_214 (by decide) rfl ?_
  refine E_bipush 217 dX12_init_215 (by decide) rfl ?_
  refine E_iast 218 dX12_init_217 (at_99 (by decide)) (by decide) rfl ?_
  show XX g false (d + 1) P_X12_init 218 [(2, 88)] [(2, 99), (2, 88)] 100 K302 136 Q
  refine E_dup 219 dX12_init_218 n21 rfl ?_
  refine E_iconst 220 dX12_init_219 (by decide) rfl ?_
  refine E_bipush 222 dX12_init_220 (by decide) rfl ?_
  refine E_iast 223 dX12_init_222 (at_99 (by decide)) (by decide) rfl ?_
  show XX g false (d + 1) P_X12_init 223 [(2, 88)] [(2, 99), (2, 88)] 100 K303 136 Q
  refine E_dup 224 dX12_init_223 n21 rfl ?_
  refine E_bipush 226 dX12_init_224 (by decide) rfl ?_
  refine E_bipush 228 dX12_init_226 (by decide) rfl ?_
  refine E_iast 229 dX12_init_228 (at_99 (by decide)) (by decide) rfl ?_
  show XX g false (d + 1) P_X12_init 229 [(2, 88)] [(2, 99), (2, 88)] 100 K304 136 Q
  refine E_dup 230 dX12_init_229 n21 rfl ?_
  refine E_bipush 232 dX12_init_230 (by decide) rfl ?_
  refine E_bipush 234 dX12_init_232 (by decide) rfl ?_
  refine E_iast 235 dX12_init_234 (at_99 (by decide)) (by decide) rfl ?_
  show XX g false (d + 1) P_X12_init 235 [(2, 88)] [(2, 99), (2, 88)] 100 K305 136 Q
  refine E_dup 236 dX12_init_235 n21 rfl ?_
  refine E_bipush 238 dX12_init_236 (by decide) rfl ?_
  refine E_bipush 240 dX12_init_238 (by decide) rfl ?_
  refine E_iast 241 dX12_init_240 (at_99 (by decide)) (by decide) rfl ?_
  show XX g false (d + 1) P_X12_init 241 [(2, 88)] [(2, 99), (2, 88)] 100 K306 136 Q
  refine E_dup 242 dX12_init_241 n21 rfl ?_
  refine E_bipush 244 dX12_init_242 (by decide) rfl ?_
  refine E_bipush 246 dX12_init_244 (by decide) rfl ?_
  refine E_iast 247 dX12_init_246 (at_99 (by decide)) (by decide) rfl ?_
  show XX g false (d + 1) P_X12_init 247 [(2, 88)] [(2, 99), (2, 88)] 100 K307 136 Q
  refine E_dup 248 dX12_init_247 n21 rfl ?_
  refine E_bipush 250 dX12_init_248 (by decide) rfl ?_
  refine E_bipush 252 dX12_init_250 (by decide) rfl ?_
  refine E_iast 253 dX12_init_252 (at_99 (by decide)) (by decide) rfl ?_
  show XX g false (d + 1) P_X12_init 253 [(2, 88)] [(2, 99), (2, 88)] 100 K308 136 Q
  refine E_dup 254 dX12_init_253 n21 rfl ?_
  refine E_bipush 256 dX12_init_254 (by decide) rfl ?_
  refine E_bipush 258 dX12_init_256 (by decide) rfl ?_
  refine E_iast 259 dX12_init_258 (at_99 (by decide)) (by decide) rfl ?_
  show XX g false (d + 1) P_X12_init 259 [(2, 88)] [(2, 99), (2, 88)] 100 K309 136 Q
  refine E_dup 260 dX12_init_259 n21 rfl ?_
  refine E_bipush 262 dX12_init_260 (by decide) rfl ?_
  refine E_bipush 264 dX12_init_262 (by decide) rfl ?_
  refine E_iast 265 dX12_init_264 (at_99 (by decide)) (by decide) rfl ?_
  show XX g false (d + 1) P_X12_init 265 [(2, 88)] [(2, 99), (2, 88)] 100 K310 136 Q
  refine E_dup 266 dX12_init_265 n21 rfl ?_
  refine E_bipush 268 dX12_init_266 (by decide) rfl ?_
  refine E_bipush 270 dX12_init_268 (by decide) rfl ?_
  refine E_iast 271 dX12_init_270 (at_99 (by decide)) (by decide) rfl ?_
  show XX g false (d + 1) P_X12_init 271 [(2, 88)] [(2, 99), (2, 88)] 100 K311 136 Q
  refine E_dup 272 dX12_init_271 n21 rfl ?_
  refine E_bipush 274 dX12_init_272 (by decide) rfl ?_
  refine E_bipush 276 dX12_init_274 (by decide) rfl ?_
  refine E_iast 277 dX12_init_276 (at_99 (by decide)) (by decide) rfl ?_
  show XX g false (d + 1) P_X12_init 277 [(2, 88)] [(2, 99), (2, 88)] 100 K312 136 Q
  refine E_dup 278 dX12_init_277 n21 rfl ?_
  refine E_bipush 280 dX12_init_278 (by decide) rfl ?_
  refine E_bipush 282 dX12_init_280 (by decide) rfl ?_
  refine E_iast 283 dX12_init_282 (at_99 (by decide)) (by decide) rfl ?_
  show XX g false (d + 1) P_X12_init 283 [(2, 88)] [(2, 99), (2, 88)] 100 K313 136 Q
  refine E_dup 284 dX12_init_283 n21 rfl ?_
  refine E_bipush 286 dX12_init_284 (by decide) rfl ?_
  refine E_bipush 288 dX12_init_286 (by decide) rfl ?_
  refine E_iast 289 dX12_init_288 (at_99 (by decide)) (by decide) rfl ?_
  show XX g false (d + 1) P_X12_init 289 [(2, 88)] [(2, 99), (2, 88)] 100 K314 136 Q
  refine E_dup 290 dX12_init_289 n21 rfl ?_
  refine E_bipush 292 dX12_init_290 (by decide) rfl ?_
  refine E_bipush 294 dX12_init_292 (by decide) rfl ?_
  refine E_iast 295 dX12_init_294 (at_99 (by decide)) (by decide) rfl ?_
  show XX g false (d + 1) P_X12_init 295 [(2, 88)] [(2, 99), (2, 88)] 100 K315 136 Q
  refine E_dup 296 dX12_init_295 n21 rfl ?_
  refine E_bipush 298 dX12_init_296 (by decide) rfl ?_
  refine E_bipush 300 dX12_init_298 (by decide) rfl ?_
  refine E_iast 301 dX12_init_300 (at_99 (by decide)) (by decide) rfl ?_
  show XX g false (d + 1) P_X12_init 301 [(2, 88)] [(2, 99), (2, 88)] 100 K316 136 Q
  refine E_dup 302 dX12_init_301 n21 rfl ?_
  refine E_bipush 304 dX12_init_302 (by decide) rfl ?_
  refine E_bipush 306 dX12_init_304 (by decide) rfl ?_
  refine E_iast 307 dX12_init_306 (at_99 (by decide)) (by decide) rfl ?_
  show XX g false (d + 1) P_X12_init 307 [(2, 88)] [(2, 99), (2, 88)] 100 K317 136 Q
  refine E_dup 308 dX12_init_307 n21 rfl ?_
  refine E_bipush 310 dX12_init_308 (by decide) rfl ?_
  refine E_bipush 312 dX12_init_310 (by decide) rfl ?_
  refine E_iast 313 dX12_init_312 (at_99 (by decide)) (by decide) rfl ?_
  show XX g false (d + 1) P_X12_init 313 [(2, 88)] [(2, 99), (2, 88)] 100 K318 136 Q
  refine E_dup 314 dX12_init_313 n21 rfl ?_
  refine E_bipush 316 dX12_init_314 (by decide) rfl ?_
  refine E_bipush 318 dX12_init_316 (by decide) rfl ?_
  refine E_iast 319 dX12_init_318 (at_99 (by decide)) (by decide) rfl ?_
  show XX g false (d + 1) P_X12_init 319 [(2, 88)] [(2, 99), (2, 88)] 100 K319 136 Q
  refine E_dup 320 dX12_init_319 n21 rfl ?_
  refine E_bipush 322 dX12_init_320 (by decide) rfl ?_
  refine E_bipush 324 dX12_init_322 (by decide) rfl ?_
  refine E_iast 325 dX12_init_324 (at_99 (by decide)) (by decide) rfl ?_
  show XX g false (d + 1) P_X12_init 325 [(2, 88)] [(2, 99), (2, 88)] 100 K320 136 Q
  refine E_dup 326 dX12_init_325 n21 rfl ?_
  refine E_bipush 328 dX12_init_326 (by decide) rfl ?_
  refine E_bipush 330 dX12_init_328 (by decide) rfl ?_
  refine E_iast 331 dX12_init_330 (at_99 (by decide)) (by decide) rfl ?_
  show XX g false (d + 1) P_X12_init 331 [(2, 88)] [(2, 99), (2, 88)] 100 K321 136 Q
  refine E_dup 332 dX12_init_331 n21 rfl ?_
  refine E_bipush 334 dX12_init_332 (by decide) rfl ?_
  refine E_bipush 336 dX12_init_334 (by decide) rfl ?_
  refine E_iast 337 dX12_init_336 (at_99 (by decide)) (by decide) rfl ?_
  show XX g false (d + 1) P_X12_init 337 [(2, 88)] [(2, 99), (2, 88)] 100 K322 136 Q
  refine E_dup 338 dX12_init_337 n21 rfl ?_
  refine E_bipush 340 dX12_init_338 (by decide) rfl ?_
  refine E_bipush 342 dX12_init_340 (by decide) rfl ?_
  refine E_iast 343 dX12_init_342 (at_99 (by decide)) (by decide) rfl ?_
  show XX g false (d + 1) P_X12_init 343 [(2, 88)] [(2, 99), (2, 88)] 100 K323 136 Q
  refine E_dup 344 dX12_init_343 n21 rfl ?_
  refine E_bipush 346 dX12_init_344 (by decide) rfl ?_
  refine E_bipush 348 dX12_init_346 (by decide) rfl ?_
  refine E_iast 349 dX12_init_348 (at_99 (by decide)) (by decide) rfl ?_
  show XX g false (d + 1) P_X12_init 349 [(2, 88)] [(2, 99), (2, 88)] 100 K324 136 Q
  refine E_dup 350 dX12_init_349 n21 rfl ?_
  refine E_bipush 352 dX12_init_350 (by decide) rfl ?_
  refine E_bipush 354 dX12_init_352 (by decide) rfl ?_
  refine E_iast 355 dX12_init_354 (at_99 (by decide)) (by decide) rfl ?_
  show XX g false (d + 1) P_X12_init 355 [(2, 88)] [(2, 99), (2, 88)] 100 K325 136 Q
  refine E_dup 356 dX12_init_355 n21 rfl ?_
  refine E_bipush 358 dX12_init_356 (by decide) rfl ?_
  refine E_bipush 360 dX12_init_358 (by decide) rfl ?_
  refine E_iast 361 dX12_init_360 (at_99 (by decide)) (by decide) rfl ?_
  show XX g false (d + 1) P_X12_init 361 [(2, 88)] [(2, 99), (2, 88)] 100 K326 136 Q
  refine E_dup 362 dX12_init_361 n21 rfl ?_
  refine E_bipush 364 dX12_init_362 (by decide) rfl ?_
  refine E_bipush 366 dX12_init_364 (by decide) rfl ?_
  refine E_iast 367 dX12_init_366 (at_99 (by decide)) (by decide) rfl ?_
  show XX g false (d + 1) P_X12_init 367 [(2, 88)] [(2, 99), (2, 88)] 100 K327 136 Q
  refine E_dup 368 dX12_init_367 n21 rfl ?_
  refine E_bipush 370 dX12_init_368 (by decide) rfl ?_
  refine E_bipush 372 dX12_init_370 (by decide) rfl ?_
  refine E_iast 373 dX12_init_372 (at_99 (by decide)) (by decide) rfl ?_
  show XX g false (d + 1) P_X12_init 373 [(2, 88)] [(2, 99), (2, 88)] 100 K328 136 Q
  refine E_dup 374 dX12_init_373 n21 rfl ?_
  refine E_bipush 376 dX12_init_374 (by decide) rfl ?_
  refine E_bipush 378 dX12_init_376 (by decide) rfl ?_
  refine E_iast 379 dX12_init_378 (at_99 (by decide)) (by decide) rfl ?_
  show XX g false (d + 1) P_X12_init 379 [(2, 88)] [(2, 99), (2, 88)] 100 K329 136 Q
  refine E_dup 380 dX12_init_379 n21 rfl ?_
  refine E_bipush 382 dX12_init_380 (by decide) rfl ?_
  refine E_bipush 384 dX12_init_382 (by decide) rfl ?_
  refine E_iast 385 dX12_init_384 (at_99 (by decide)) (by decide) rfl ?_
  show XX g false (d + 1) P_X12_init 385 [(2, 88)] [(2, 99), (2, 88)] 100 K330 136 Q
  refine E_dup 386 dX12_init_385 n21 rfl ?_
  refine E_bipush 388 dX12_init_386 (by decide) rfl ?_
  refine E_bipush 390 dX12_init_388 (by decide) rfl ?_
  refine E_iast 391 dX12_init_390 (at_99 (by decide)) (by decide) rfl ?_
  show XX g false (d + 1) P_X12_init 391 [(2, 88)] [(2, 99), (2, 88)] 100 K331 136 Q
  refine E_dup 392 dX12_init_391 n21 rfl ?_
  refine E_bipush 394 dX12_init_392 (by decide) rfl ?_
  refine E_bipush 396 dX12_init_394 (by decide) rfl ?_
  refine E_iast 397 dX12_init_396 (at_99 (by decide)) (by decide) rfl ?_
  show XX g false (d + 1) P_X12_init 397 [(2, 88)] [(2, 99), (2, 88)] 100 K332 136 Q
  refine E_dup 398 dX12_init_397 n21 rfl ?_
  refine E_bipush 400 dX12_init_398 (by decide) rfl ?_
  refine E_bipush 402 dX12_init_400 (by decide) rfl ?_
  refine E_iast 403 dX12_init_402 (at_99 (by decide)) (by decide) rfl ?_
  show XX g false (d + 1) P_X12_init 403 [(2, 88)] [(2, 99), (2, 88)] 100 K333 136 Q
  refine E_dup 404 dX12_init_403 n21 rfl ?_
  refine E_bipush 406 dX12_init_404 (by decide) rfl ?_
  refine E_bipush 408 dX12_init_406 (by decide) rfl ?_
  refine E_iast 409 dX12_init_408 (at_99 (by decide)) (by decide) rfl ?_
  show XX g false (d + 1) P_X12_init 409 [(2, 88)] [(2, 99), (2, 88)] 100 K334 136 Q
  refine E_dup 410 dX12_init_409 n21 rfl ?_
  refine E_bipush 412 dX12_init_410 (by decide) rfl ?_
  refine E_bipush 414 dX12_init_412 (by decide) rfl ?_
  refine E_iast 415 dX12_init_414 (at_99 (by decide)) (by decide) rfl ?_
  show XX g false (d + 1) P_X12_init 415 [(2, 88)] [(2, 99), (2, 88)] 100 K335 136 Q
  refine E_dup 416 dX12_init_415 n21 rfl ?_
  refine E_bipush 418 dX12_init_416 (by decide) rfl ?_
  refine E_bipush 420 dX12_init_418 (by decide) rfl ?_
  refine E_iast 421 dX12_init_420 (at_99 (by decide)) (by decide) rfl ?_
  show XX g false (d + 1) P_X12_init 421 [(2, 88)] [(2, 99), (2, 88)] 100 K336 136 Q
  refine E_dup 422 dX12_init_421 n21 rfl ?_
  refine E_bipush 424 dX12_init_422 (by decide) rfl ?_
  refine E_bipush 426 dX12_init_424 (by decide) rfl ?_
  refine E_iast 427 dX12_init_426 (at_99 (by decide)) (by decide) rfl ?_
  show XX g false (d + 1) P_X12_init 427 [(2, 88)] [(2, 99), (2, 88)] 100 K337 136 Q
  refine E_dup 428 dX12_init_427 n21 rfl ?_
  refine E_bipush 430 dX12_init_428 (by decide) rfl ?_
  refine E_bipush 432 dX12_init_430 (by decide) rfl ?_
  refine E_iast 433 dX12_init_432 (at_99 (by decide)) (by decide) rfl ?_
  show XX g false (d + 1) P_X12_init 433 [(2, 88)] [(2, 99), (2, 88)] 100 K338 136 Q
  refine E_dup 434 dX12_init_433 n21 rfl ?_
  refine E_bipush 436 dX12_init_434 (by decide) rfl ?_
  refine E_bipush 438 dX12_init_436 (by decide) rfl ?_
  refine E_iast 439 dX12_init_438 (at_99 (by decide)) (by decide) rfl ?_
  show XX g false (d + 1) P_X12_init 439 [(2, 88)] [(2, 99), (2, 88)] 100 K339 136 Q
  refine E_dup 440 dX12_init_439 n21 rfl ?_
  refine E_bipush 442 dX12_init_440 (by decide) rfl ?_
  refine E_bipush 444 dX12_init_442 (by decide) rfl ?_
  refine E_iast 445 dX12_init_444 (at_99 (by decide)) (by decide) rfl ?_
  show XX g false (d + 1) P_X12_init 445 [(2, 88)] [(2, 99), (2, 88)] 100 K340 136 Q
  refine E_dup 446 dX12_init_445 n21 rfl ?_
  refine E_bipush 448 dX12_init_446 (by decide) rfl ?_
  refine E_bipush 450 dX12_init_448 (by decide) rfl ?_
  refine E_iast 451 dX12_init_450 (at_99 (by decide)) (by decide) rfl ?_
  show XX g false (d + 1) P_X12_init 451 [(2, 88)] [(2, 99), (2, 88)] 100 K341 136 Q
  refine E_dup 452 dX12_init_451 n21 rfl ?_
  refine E_bipush 454 dX12_init_452 (by decide) rfl ?_
  refine E_bipush 456 dX12_init_454 (by decide) rfl ?_
  refine E_iast 457 dX12_init_456 (at_99 (by decide)) (by decide) rfl ?_
  show XX g false (d + 1) P_X12_init 457 [(2, 88)] [(2, 99), (2, 88)] 100 K342 136 Q
  refine E_dup 458 dX12_init_457 n21 rfl ?_
  refine E_bipush 460 dX12_init_458 (by decide) rfl ?_
  refine E_bipush 462 dX12_init_460 (by decide) rfl ?_
  refine E_iast 463 dX12_init_462 (at_99 (by decide)) (by decide) rfl ?_
  show XX g false (d + 1) P_X12_init 463 [(2, 88)] [(2, 99), (2, 88)] 100 K343 136 Q
  refine E_dup 464 dX12_init_463 n21 rfl ?_
  refine E_bipush 466 dX12_init_464 (by decide) rfl ?_
  refine E_bipush 468 dX12_init_466 (by decide) rfl ?_
  refine E_iast 469 dX12_init_468 (at_99 (by decide)) (by decide) rfl ?_
  show XX g false (d + 1) P_X12_init 469 [(2, 88)] [(2, 99), (2, 88)] 100 K344 136 Q
  refine E_dup 470 dX12_init_469 n21 rfl ?_
  refine E_bipush 472 dX12_init_470 (by decide) rfl ?_
  refine E_bipush 474 dX12_init_472 (by decide) rfl ?_
  refine E_iast 475 dX12_init_474 (at_99 (by decide)) (by decide) rfl ?_
  show XX g false (d + 1) P_X12_init 475 [(2, 88)] [(2, 99), (2, 88)] 100 K345 136 Q
  refine E_dup 476 dX12_init_475 n21 rfl ?_
  refine E_bipush 478 dX12_init_476 (by decide) rfl ?_
  refine E_bipush 480 dX12_init_478 (by decide) rfl ?_
  refine E_iast 481 dX12_init_480 (at_99 (by decide)) (by decide) rfl ?_
  show XX g false (d + 1) P_X12_init 481 [(2, 88)] [(2, 99), (2, 88)] 100 K346 136 Q
  refine E_dup 482 dX12_init_481 n21 rfl ?_
  refine E_bipush 484 dX12_init_482 (by decide) rfl ?_
  refine E_bipush 486 dX12_init_484 (by decide) rfl ?_
  refine E_iast 487 dX12_init_486 (at_99 (by decide)) (by decide) rfl ?_
  show XX g false (d + 1) P_X12_init 487 [(2, 88)] [(2, 99), (2, 88)] 100 K347 136 Q
  refine E_dup 488 dX12_init_487 n21 rfl ?_
  refine E_bipush 490 dX12_init_488 (by decide) rfl ?_
  refine E_bipush 492 dX12_init_490 (by decide) rfl ?_
  refine E_iast 493 dX12_init_492 (at_99 (by decide)) (by decide) rfl ?_
  show XX g false (d + 1) P_X12_init 493 [(2, 88)] [(2, 99), (2, 88)] 100 K348 136 Q
  refine E_dup 494 dX12_init_493 n21 rfl ?_
  refine E_bipush 496 dX12_init_494 (by decide) rfl ?_
  refine E_bipush 498 dX12_init_496 (by decide) rfl ?_
  refine E_iast 499 dX12_init_498 (at_99 (by decide)) (by decide) rfl ?_
  show XX g false (d + 1) P_X12_init 499 [(2, 88)] [(2, 99), (2, 88)] 100 K349 136 Q
  refine E_dup 500 dX12_init_499 n21 rfl ?_
  refine E_bipush 502 dX12_init_500 (by decide) rfl ?_
  refine E_bipush 504 dX12_init_502 (by decide) rfl ?_
  refine E_iast 505 dX12_init_504 (at_99 (by decide)) (by decide) rfl ?_
  show XX g false (d + 1) P_X12_init 505 [(2, 88)] [(2, 99), (2, 88)] 100 K350 136 Q
  refine E_dup 506 dX12_init_505 n21 rfl ?_
  refine E_bipush 508 dX12_init_506 (by decide) rfl ?_
  refine E_bipush 510 dX12_init_508 (by decide) rfl ?_
  refine E_iast 511 dX12_init_510 (at_99 (by decide)) (by decide) rfl ?_
  show XX g false (d + 1) P_X12_init 511 [(2, 88)] [(2, 99), (2, 88)] 100 K351 136 Q
  refine E_dup 512 dX12_init_511 n21 rfl ?_
  refine E_bipush 514 dX12_init_512 (by decide) rfl ?_
  refine E_bipush 516 dX12_init_514 (by decide) rfl ?_
  refine E_iast 517 dX12_init_516 (at_99 (by decide)) (by decide) rfl ?_
  show XX g false (d + 1) P_X12_init 517 [(2, 88)] [(2, 99), (2, 88)] 100 K352 136 Q
  refine E_dup 518 dX12_init_517 n21 rfl ?_
  refine E_bipush 520 dX12_init_518 (by decide) rfl ?_
  refine E_bipush 522 dX12_init_520 (by decide) rfl ?_
  refine E_iast 523 dX12_init_522 (at_99 (by decide)) (by decide) rfl ?_
  show XX g false (d + 1) P_X12_init 523 [(2, 88)] [(2, 99), (2, 88)] 100 K353 136 Q
  refine E_dup 524 dX12_init_523 n21 rfl ?_
  refine E_bipush 526 dX12_init_524 (by decide) rfl ?_
  refine E_bipush 528 dX12_init_526 (by decide) rfl ?_
  refine E_iast 529 dX12_init_528 (at_99 (by decide)) (by decide) rfl ?_
  show XX g false (d + 1) P_X12_init 529 [(2, 88)] [(2, 99), (2, 88)] 100 K354 136 Q
  refine E_dup 530 dX12_init_529 n21 rfl ?_
  refine E_bipush 532 dX12_init_530 (by decide) rfl ?_
  refine E_bipush 534 dX12_init_532 (by decide) rfl ?_
  refine E_iast 535 dX12_init_534 (at_99 (by decide)) (by decide) rfl ?_
  show XX g false (d + 1) P_X12_init 535 [(2, 88)] [(2, 99), (2, 88)] 100 K355 136 Q
  refine E_dup 536 dX12_init_535 n21 rfl ?_
  refine E_bipush 538 dX12_init_536 (by decide) rfl ?_
  refine E_bipush 540 dX12_init_538 (by decide) rfl ?_
  refine E_iast 541 dX12_init_540 (at_99 (by decide)) (by decide) rfl ?_
  show XX g false (d + 1) P_X12_init 541 [(2, 88)] [(2, 99), (2, 88)] 100 K356 136 Q
  refine E_dup 542 dX12_init_541 n21 rfl ?_
  refine E_bipush 544 dX12_init_542 (by decide) rfl ?_
  refine E_bipush 546 dX12_init_544 (by decide) rfl ?_
  refine E_iast 547 dX12_init_546 (at_99 (by decide)) (by decide) rfl ?_
  show XX g false (d + 1) P_X12_init 547 [(2, 88)] [(2, 99), (2, 88)] 100 K357 136 Q
  refine E_dup 548 dX12_init_547 n21 rfl ?_
  refine E_bipush 550 dX12_init_548 (by decide) rfl ?_
  refine E_bipush 552 dX12_init_550 (by decide) rfl ?_
  refine E_iast 553 dX12_init_552 (at_99 (by decide)) (by decide) rfl ?_
  show XX g false (d + 1) P_X12_init 553 [(2, 88)] [(2, 99), (2, 88)] 100 K358 136 Q
  refine E_dup 554 dX12_init_553 n21 rfl ?_
  refine E_bipush 556 dX12_init_554 (by decide) rfl ?_
  refine E_bipush 558 dX12_init_556 (by decide) rfl ?_
  refine E_iast 559 dX12_init_558 (at_99 (by decide)) (by decide) rfl ?_
  show XX g false (d + 1) P_X12_init 559 [(2, 88)] [(2, 99), (2, 88)] 100 K359 136 Q
  refine E_dup 560 dX12_init_559 n21 rfl ?_
  refine E_bipush 562 dX12_init_560 (by decide) rfl ?_
  refine E_bipush 564 dX12_init_562 (by decide) rfl ?_
  refine E_iast 565 dX12_init_564 (at_99 (by decide)) (by decide) rfl ?_
  show XX g false (d + 1) P_X12_init 565 [(2, 88)] [(2, 99), (2, 88)] 100 K360 136 Q
  refine E_dup 566 dX12_init_565 n21 rfl ?_
  refine E_bipush 568 dX12_init_566 (by decide) rfl ?_
  refine E_bipush 570 dX12_init_568 (by decide) rfl ?_
  refine E_iast 571 dX12_init_570 (at_99 (by decide)) (by decide) rfl ?_
  show XX g false (d + 1) P_X12_init 571 [(2, 88)] [(2, 99), (2, 88)] 100 K361 136 Q
  refine E_dup 572 dX12_init_571 n21 rfl ?_
  refine E_bipush 574 dX12_init_572 (by decide) rfl ?_
  refine E_bipush 576 dX12_init_574 (by decide) rfl ?_
  refine E_iast 577 dX12_init_576 (at_99 (by decide)) (by decide) rfl ?_
  show XX g false (d + 1) P_X12_init 577 [(2, 88)] [(2, 99), (2, 88)] 100 K362 136 Q
  refine E_dup 578 dX12_init_577 n21 rfl ?_
  refine E_bipush 580 dX12_init_578 (by decide) rfl ?_
  refine E_bipush 582 dX12_init_580 (by decide) rfl ?_
  refine E_iast 583 dX12_init_582 (at_99 (by decide)) (by decide) rfl ?_
  show XX g false (d + 1) P_X12_init 583 [(2, 88)] [(2, 99), (2, 88)] 100 K363 136 Q
  refine E_dup 584 dX12_init_583 n21 rfl ?_
  refine E_bipush 586 dX12_init_584 (by decide) rfl ?_
  refine E_bipush 588 dX12_init_586 (by decide) rfl ?_
  refine E_iast 589 dX12_init_588 (at_99 (by decide)) (by decide) rfl ?_
  show XX g false (d + 1) P_X12_init 589 [(2, 88)] [(2, 99), (2, 88)] 100 K364 136 Q
  refine E_dup 590 dX12_init_589 n21 rfl ?_
  refine E_bipush 592 dX12_init_590 (by decide) rfl ?_
  refine E_bipush 594 dX12_init_592 (by decide) rfl ?_
  refine E_iast 595 dX12_init_594 (at_99 (by decide)) (by decide) rfl ?_
  show XX g false (d + 1) P_X12_init 595 [(2, 88)] [(2, 99), (2, 88)] 100 K365 136 Q
  refine E_dup 596 dX12_init_595 n21 rfl ?_
  refine E_bipush 598 dX12_init_596 (by decide) rfl ?_
  refine E_bipush 600 dX12_init_598 (by decide) rfl ?_
  refine E_iast 601 dX12_init_600 (at_99 (by decide)) (by decide) rfl ?_
  show XX g false (d + 1) P_X12_init 601 [(2, 88)] [(2, 99), (2, 88)] 100 K366 136 Q
  refine E_dup 602 dX12_init_601 n21 rfl ?_
  refine E_bipush 604 dX12_init_602 (by decide) rfl ?_
  refine E_bipush 606 dX12_init_604 (by decide) rfl ?_
  refine E_iast 607 dX12_init_606 (at_99 (by decide)) (by decide) rfl ?_
  show XX g false (d + 1) P_X12_init 607 [(2, 88)] [(2, 99), (2, 88)] 100 K367 136 Q
  refine E_dup 608 dX12_init_607 n21 rfl ?_
  refine E_bipush 610 dX12_init_608 (by decide) rfl ?_
  refine E_bipush 612 dX12_init_610 (by decide) rfl ?_
  refine E_iast 613 dX12_init_612 (at_99 (by decide)) (by decide) rfl ?_
  show XX g false (d + 1) P_X12_init 613 [(2, 88)] [(2, 99), (2, 88)] 100 K368 136 Q
  refine E_dup 614 dX12_init_613 n21 rfl ?_
  refine E_bipush 616 dX12_init_614 (by decide) rfl ?_
  refine E_bipush 618 dX12_init_616 (by decide) rfl ?_
  refine E_iast 619 dX12_init_618 (at_99 (by decide)) (by decide) rfl ?_
  show XX g false (d + 1) P_X12_init 619 [(2, 88)] [(2, 99), (2, 88)] 100 K369 136 Q
  refine E_dup 620 dX12_init_619 n21 rfl ?_
  refine E_bipush 622 dX12_init_620 (by decide) rfl ?_
  refine E_bipush 624 dX12_init_622 (by decide) rfl ?_
  refine E_iast 625 dX12_init_624 (at_99 (by decide)) (by decide) rfl ?_
  show XX g false (d + 1) P_X12_init 625 [(2, 88)] [(2, 99), (2, 88)] 100 K370 136 Q
  refine E_dup 626 dX12_init_625 n21 rfl ?_
  refine E_bipush 628 dX12_init_626 (by decide) rfl ?_
  refine E_bipush 630 dX12_init_628 (by decide) rfl ?_
  refine E_iast 631 dX12_init_630 (at_99 (by decide)) (by decide) rfl ?_
  show XX g false (d + 1) P_X12_init 631 [(2, 88)] [(2, 99), (2, 88)] 100 K371 136 Q
  refine E_dup 632 dX12_init_631 n21 rfl ?_
  refine E_bipush 634 dX12_init_632 (by decide) rfl ?_
  refine E_bipush 636 dX12_init_634 (by decide) rfl ?_
  refine E_iast 637 dX12_init_636 (at_99 (by decide)) (by decide) rfl ?_
  show XX g false (d + 1) P_X12_init 637 [(2, 88)] [(2, 99), (2, 88)] 100 K372 136 Q
  refine E_dup 638 dX12_init_637 n21 rfl ?_
  refine E_bipush 640 dX12_init_638 (by decide) rfl ?_
  refine E_bipush 642 dX12_init_640 (by decide) rfl ?_
  refine E_iast 643 dX12_init_642 (at_99 (by decide)) (by decide) rfl ?_
  show XX g false (d + 1) P_X12_init 643 [(2, 88)] [(2, 99), (2, 88)] 100 K373 136 Q
  refine E_dup 644 dX12_init_643 n21 rfl ?_
  refine E_bipush 646 dX12_init_644 (by decide) rfl ?_
  refine E_bipush 648 dX12_init_646 (by decide) rfl ?_
  refine E_iast 649 dX12_init_648 (at_99 (by decide)) (by decide) rfl ?_
  show XX g false (d + 1) P_X12_init 649 [(2, 88)] [(2, 99), (2, 88)] 100 K374 136 Q
  refine E_dup 650 dX12_init_649 n21 rfl ?_
  refine E_bipush 652 dX12_init_650 (by decide) rfl ?_
  refine E_bipush 654 dX12_init_652 (by decide) rfl ?_
  refine E_iast 655 dX12_init_654 (at_99 (by decide)) (by decide) rfl ?_
  show XX g false (d + 1) P_X12_init 655 [(2, 88)] [(2, 99), (2, 88)] 100 K375 136 Q
  refine E_dup 656 dX12_init_655 n21 rfl ?_
  refine E_bipush 658 dX12_init_656 (by decide) rfl ?_
  refine E_bipush 660 dX12_init_658 (by decide) rfl ?_
  refine E_iast 661 dX12_init_660 (at_99 (by decide)) (by decide) rfl ?_
  show XX g false (d + 1) P_X12_init 661 [(2, 88)] [(2, 99), (2, 88)] 100 K376 136 Q
  refine E_dup 662 dX12_init_661 n21 rfl ?_
  refine E_bipush 664 dX12_init_662 (by decide) rfl ?_
  refine E_bipush 666 dX12_init_664 (by decide) rfl ?_
  refine E_iast 667 dX12_init_666 (at_99 (by decide)) (by decide) rfl ?_
  show XX g false (d + 1) P_X12_init 667 [(2, 88)] [(2, 99), (2, 88)] 100 K377 136 Q
  refine E_dup 668 dX12_init_667 n21 rfl ?_
  refine E_bipush 670 dX12_init_668 (by decide) rfl ?_
  refine E_bipush 672 dX12_init_670 (by decide) rfl ?_
  refine E_iast 673 dX12_init_672 (at_99 (by decide)) (by decide) rfl ?_
  show XX g false (d + 1) P_X12_init 673 [(2, 88)] [(2, 99), (2, 88)] 100 K378 136 Q
  refine E_dup 674 dX12_init_673 n21 rfl ?_
  refine E_bipush 676 dX12_init_674 (by decide) rfl ?_
  refine E_bipush 678 dX12_init_676 (by decide) rfl ?_
  refine E_iast 679 dX12_init_678 (at_99 (by decide)) (by decide) rfl ?_
  show XX g false (d + 1) P_X12_init 679 [(2, 88)] [(2, 99), (2, 88)] 100 K379 136 Q
  refine E_dup 680 dX12_init_679 n21 rfl ?_
  refine E_bipush 682 dX12_init_680 (by decide) rfl ?_
  refine E_bipush 684 dX12_init_682 (by decide) rfl ?_
  refine E_iast 685 dX12_init_684 (at_99 (by decide)) (by decide) rfl ?_
  show XX g false (d + 1) P_X12_init 685 [(2, 88)] [(2, 99), (2, 88)] 100 K380 136 Q
  refine E_dup 686 dX12_init_685 n21 rfl ?_
  refine E_bipush 688 dX12_init_686 (by decide) rfl ?_
  refine E_bipush 690 dX12_init_688 (by decide) rfl ?_
  refine E_iast 691 dX12_init_690 (at_99 (by decide)) (by decide) rfl ?_
  show XX g false (d + 1) P_X12_init 691 [(2, 88)] [(2, 99), (2, 88)] 100 K381 136 Q
  refine E_dup 692 dX12_init_691 n21 rfl ?_
  refine E_bipush 694 dX12_init_692 (by decide) rfl ?_
  refine E_bipush 696 dX12_init_694 (by decide) rfl ?_
  refine E_iast 697 dX12_init_696 (at_99 (by decide)) (by decide) rfl ?_
  show XX g false (d + 1) P_X12_init 697 [(2, 88)] [(2, 99), (2, 88)] 100 K382 136 Q
  refine E_dup 698 dX12_init_697 n21 rfl ?_
  refine E_bipush 700 dX12_init_698 (by decide) rfl ?_
  refine E_bipush 702 dX12_init_700 (by decide) rfl ?_
  refine E_iast 703 dX12_init_702 (at_99 (by decide)) (by decide) rfl ?_
  show XX g false (d + 1) P_X12_init 703 [(2, 88)] [(2, 99), (2, 88)] 100 K383 136 Q
  refine E_dup 704 dX12_init_703 n21 rfl ?_
  refine E_bipush 706 dX12_init_704 (by decide) rfl ?_
  refine E_bipush 708 dX12_init_706 (by decide) rfl ?_
  refine E_iast 709 dX12_init_708 (at_99 (by decide)) (by decide) rfl ?_
  show XX g false (d + 1) P_X12_init 709 [(2, 88)] [(2, 99), (2, 88)] 100 K384 136 Q
  refine E_dup 710 dX12_init_709 n21 rfl ?_
  refine E_bipush 712 dX12_init_710 (by decide) rfl ?_
  refine E_bipush 714 dX12_init_712 (by decide) rfl ?_
  refine E_iast 715 dX12_init_714 (at_99 (by decide)) (by decide) rfl ?_
  show XX g false (d + 1) P_X12_init 715 [(2, 88)] [(2, 99), (2, 88)] 100 K385 136 Q
  refine E_dup 716 dX12_init_715 n21 rfl ?_
  refine E_bipush 718 dX12_init_716 (by decide) rfl ?_
  refine E_bipush 720 dX12_init_718 (by decide) rfl ?_
  refine E_iast 721 dX12_init_720 (at_99 (by decide)) (by decide) rfl ?_
  show XX g false (d + 1) P_X12_init 721 [(2, 88)] [(2, 99), (2, 88)] 100 K386 136 Q
  refine E_dup 722 dX12_init_721 n21 rfl ?_
  refine E_bipush 724 dX12_init_722 (by decide) rfl ?_
  refine E_bipush 726 dX12_init_724 (by decide) rfl ?_
  refine E_iast 727 dX12_init_726 (at_99 (by decide)) (by decide) rfl ?_
  show XX g false (d + 1) P_X12_init 727 [(2, 88)] [(2, 99), (2, 88)] 100 K387 136 Q
  refine E_dup 728 dX12_init_727 n21 rfl ?_
  refine E_bipush 730 dX12_init_728 (by decide) rfl ?_
  refine E_bipush 732 dX12_init_730 (by decide) rfl ?_
  refine E_iast 733 dX12_init_732 (at_99 (by decide)) (by decide) rfl ?_
  show XX g false (d + 1) P_X12_init 733 [(2, 88)] [(2, 99), (2, 88)] 100 K388 136 Q
  refine E_dup 734 dX12_init_733 n21 rfl ?_
  refine E_bipush 736 dX12_init_734 (by decide) rfl ?_
  refine E_bipush 738 dX12_init_736 (by decide) rfl ?_
  refine E_iast 739 dX12_init_738 (at_99 (by decide)) (by decide) rfl ?_
  show XX g false (d + 1) P_X12_init 739 [(2, 88)] [(2, 99), (2, 88)] 100 K389 136 Q
  refine E_dup 740 dX12_init_739 n21 rfl ?_
  refine E_bipush 742 dX12_init_740 (by decide) rfl ?_
  refine E_bipush 744 dX12_init_742 (by decide) rfl ?_
  refine E_iast 745 dX12_init_744 (at_99 (by decide)) (by decide) rfl ?_
  show XX g false (d + 1) P_X12_init 745 [(2, 88)] [(2, 99), (2, 88)] 100 K390 136 Q
  refine E_dup 746 dX12_init_745 n21 rfl ?_
  refine E_bipush 748 dX12_init_746 (by decide) rfl ?_
  refine E_bipush 750 dX12_init_748 (by decide) rfl ?_
  refine E_iast 751 dX12_init_750 (at_99 (by decide)) (by decide) rfl ?_
  show XX g false (d + 1) P_X12_init 751 [(2, 88)] [(2, 99), (2, 88)] 100 K391 136 Q
  refine E_dup 752 dX12_init_751 n21 rfl ?_
  refine E_bipush 754 dX12_init_752 (by decide) rfl ?_
  refine E_bipush 756 dX12_init_754 (by decide) rfl ?_
  refine E_iast 757 dX12_init_756 (at_99 (by decide)) (by decide) rfl ?_
  show XX g false (d + 1) P_X12_init 757 [(2, 88)] [(2, 99), (2, 88)] 100 K392 136 Q
  refine E_dup 758 dX12_init_757 n21 rfl ?_
  refine E_bipush 760 dX12_init_758 (by decide) rfl ?_
  refine E_bipush 762 dX12_init_760 (by decide) rfl ?_
  refine E_iast 763 dX12_init_762 (at_99 (by decide)) (by decide) rfl ?_
  show XX g false (d + 1) P_X12_init 763 [(2, 88)] [(2, 99), (2, 88)] 100 K393 136 Q
  refine E_dup 764 dX12_init_763 n21 rfl ?_
  refine E_bipush 766 dX12_init_764 (by decide) rfl ?_
  refine E_bipush 768 dX12_init_766 (by decide) rfl ?_
  refine E_iast 769 dX12_init_768 (at_99 (by decide)) (by decide) rfl ?_
  show XX g false (d + 1) P_X12_init 769 [(2, 88)] [(2, 99), (2, 88)] 100 K394 136 Q
  refine E_dup 770 dX12_init_769 n21 rfl ?_
  refine E_bipush 772 dX12_init_770 (by decide) rfl ?_
  refine E_bipush 774 dX12_init_772 (by decide) rfl ?_
  refine E_iast 775 dX12_init_774 (at_99 (by decide)) (by decide) rfl ?_
  show XX g false (d + 1) P_X12_init 775 [(2, 88)] [(2, 99), (2, 88)] 100 K395 136 Q
  refine E_dup 776 dX12_init_775 n21 rfl ?_
  refine E_bipush 778 dX12_init_776 (by decide) rfl ?_
  refine E_bipush 780 dX12_init_778 (by decide) rfl ?_
  refine E_iast 781 dX12_init_780 (at_99 (by decide)) (by decide) rfl ?_
  show XX g false (d + 1) P_X12_init 781 [(2, 88)] [(2, 99), (2, 88)] 100 K396 136 Q
  refine E_dup 782 dX12_init_781 n21 rfl ?_
  refine E_bipush 784 dX12_init_782 (by decide) rfl ?_
  refine E_bipush 786 dX12_init_784 (by decide) rfl ?_
  refine E_iast 787 dX12_init_786 (at_99 (by decide)) (by decide) rfl ?_
  show XX g false (d + 1) P_X12_init 787 [(2, 88)] [(2, 99), (2, 88)] 100 K397 136 Q
  refine E_dup 788 dX12_init_787 n21 rfl ?_
  refine E_bipush 790 dX12_init_788 (by decide) rfl ?_
  refine E_bipush 792 dX12_init_790 (by decide) rfl ?_
  refine E_iast 793 dX12_init_792 (at_99 (by decide)) (by decide) rfl ?_
  show XX g false (d + 1) P_X12_init 793 [(2, 88)] [(2, 99), (2, 88)] 100 K398 136 Q
  refine E_dup 794 dX12_init_793 n21 rfl ?_
  refine E_bipush 796 dX12_init_794 (by decide) rfl ?_
  refine E_bipush 798 dX12_init_796 (by decide) rfl ?_
  refine E_iast 799 dX12_init_798 (at_99 (by decide)) (by decide) rfl ?_
  show XX g false (d + 1) P_X12_init 799 [(2, 88)] [(2, 99), (2, 88)] 100 K399 136 Q
  refine E_dup 800 dX12_init_799 n21 rfl ?_
  refine E_bipush 802 dX12_init_800 (by decide) rfl ?_
  refine E_bipush 804 dX12_init_802 (by decide) rfl ?_
  refine E_iast 805 dX12_init_804 (at_99 (by decide)) (by decide) rfl ?_
  show XX g false (d + 1) P_X12_init 805 [(2, 88)] [(2, 99), (2, 88)] 100 K400 136 Q
  refine E_dup 806 dX12_init_805 n21 rfl ?_
  refine E_bipush 808 dX12_init_806 (by decide) rfl ?_
  refine E_bipush 810 dX12_init_808 (by decide) rfl ?_
  refine E_iast 811 dX12_init_810 (at_99 (by decide)) (by decide) rfl ?_
  show XX g false (d + 1) P_X12_init 811 [(2, 88)] [(2, 99), (2, 88)] 100 K401 136 Q
  refine E_dup 812 dX12_init_811 n21 rfl ?_
  refine E_bipush 814 dX12_init_812 (by decide) rfl ?_
  refine E_bipush 816 dX12_init_814 (by decide) rfl ?_
  refine E_iast 817 dX12_init_816 (at_99 (by decide)) (by decide) rfl ?_
  show XX g false (d + 1) P_X12_init 817 [(2, 88)] [(2, 99), (2, 88)] 100 K402 136 Q
  refine E_dup 818 dX12_init_817 n21 rfl ?_
  refine E_bipush 820 dX12_init_818 (by decide) rfl ?_
  refine E_bipush 822 dX12_init_820 (by decide) rfl ?_
  refine E_iast 823 dX12_init_822 (at_99 (by decide)) (by decide) rfl ?_
  show XX g false (d + 1) P_X12_init 823 [(2, 88)] [(2, 99), (2, 88)] 100 K403 136 Q
  refine E_dup 824 dX12_init_823 n21 rfl ?_
  refine E_bipush 826 dX12_init_824 (by decide) rfl ?_
  refine E_bipush 828 dX12_init_826 (by decide) rfl ?_
  refine E_iast 829 dX12_init_828 (at_99 (by decide)) (by decide) rfl ?_
  show XX g false (d + 1) P_X12_init 829 [(2, 88)] [(2, 99), (2, 88)] 100 K404 136 Q
  refine E_dup 830 dX12_init_829 n21 rfl ?_
  refine E_bipush 832 dX12_init_830 (by decide) rfl ?_
  refine E_bipush 834 dX12_init_832 (by decide) rfl ?_
  refine E_iast 835 dX12_init_834 (at_99 (by decide)) (by decide) rfl ?_
  show XX g false (d + 1) P_X12_init 835 [(2, 88)] [(2, 99), (2, 88)] 100 K405 136 Q
  refine E_dup 836 dX12_init_835 n21 rfl ?_
  refine E_bipush 838 dX12_init_836 (by decide) rfl ?_
  refine E_bipush 840 dX12_init_838 (by decide) rfl ?_
  refine E_iast 841 dX12_init_840 (at_99 (by decide)) (by decide) rfl ?_
  show XX g false (d + 1) P_X12_init 841 [(2, 88)] [(2, 99), (2, 88)] 100 K406 136 Q
  refine E_dup 842 dX12_init_841 n21 rfl ?_
  refine E_bipush 844 dX12_init_842 (by decide) rfl ?_
  refine E_bipush 846 dX12_init_844 (by decide) rfl ?_
  refine E_iast 847 dX12_init_846 (at_99 (by decide)) (by decide) rfl ?_
  show XX g false (d + 1) P_X12_init 847 [(2, 88)] [(2, 99), (2, 88)] 100 K407 136 Q
  refine E_dup 848 dX12_init_847 n21 rfl ?_
  refine E_bipush 850 dX12_init_848 (by decide) rfl ?_
  refine E_bipush 852 dX12_init_850 (by decide) rfl ?_
  refine E_iast 853 dX12_init_852 (at_99 (by decide)) (by decide) rfl ?_
  show XX g false (d + 1) P_X12_init 853 [(2, 88)] [(2, 99), (2, 88)] 100 K408 136 Q
  refine E_dup 854 dX12_init_853 n21 rfl ?_
  refine E_bipush 856 dX12_init_854 (by decide) rfl ?_
  refine E_bipush 858 dX12_init_856 (by decide) rfl ?_
  refine E_iast 859 dX12_init_858 (at_99 (by decide)) (by decide) rfl ?_
  show XX g false (d + 1) P_X12_init 859 [(2, 88)] [(2, 99), (2, 88)] 100 K409 136 Q
  refine E_dup 860 dX12_init_859 n21 rfl ?_
  refine E_bipush 862 dX12_init_860 (by decide) rfl ?_
  refine E_bipush 864 dX12_init_862 (by decide) rfl ?_
  refine E_iast 865 dX12_init_864 (at_99 (by decide)) (by decide) rfl ?_
  show XX g false (d + 1) P_X12_init 865 [(2, 88)] [(2, 99), (2, 88)] 100 K410 136 Q
  refine E_dup 866 dX12_init_865 n21 rfl ?_
  refine E_bipush 868 dX12_init_866 (by decide) rfl ?_
  refine E_bipush 870 dX12_init_868 (by decide) rfl ?_
  refine E_iast 871 dX12_init_870 (at_99 (by decide)) (by decide) rfl ?_
  show XX g false (d + 1) P_X12_init 871 [(2, 88)] [(2, 99), (2, 88)] 100 K411 136 Q
  refine E_dup 872 dX12_init_871 n21 rfl ?_
  refine E_bipush 874 dX12_init_872 (by decide) rfl ?_
  refine E_bipush 876 dX12_init_874 (by decide) rfl ?_
  refine E_iast 877 dX12_init_876 (at_99 (by decide)) (by decide) rfl ?_
  show XX g false (d + 1) P_X12_init 877 [(2, 88)] [(2, 99), (2, 88)] 100 K412 136 Q
  refine E_dup 878 dX12_init_877 n21 rfl ?_
  refine E_bipush 880 dX12_init_878 (by decide) rfl ?_
  refine E_bipush 882 dX12_init_880 (by decide) rfl ?_
  refine E_iast 883 dX12_init_882 (at_99 (by decide)) (by decide) rfl ?_
  show XX g false (d + 1) P_X12_init 883 [(2, 88)] [(2, 99), (2, 88)] 100 K413 136 Q
  refine E_dup 884 dX12_init_883 n21 rfl ?_
  refine E_bipush 886 dX12_init_884 (by decide) rfl ?_
  refine E_bipush 888 dX12_init_886 (by decide) rfl ?_
  refine E_iast 889 dX12_init_888 (at_99 (by decide)) (by decide) rfl ?_
  show XX g false (d + 1) P_X12_init 889 [(2, 88)] [(2, 99), (2, 88)] 100 K414 136 Q
  refine E_putR (ty := .array .int) 24 892 dX12_init_889 fl_X12_47 (at_88 (by decide)) rfl (by decide) (Or.inr ⟨rfl, cl_X12⟩) (by decide +kernel) (Or.inr ⟨_, rfl⟩) (fun h => by cases h) rfl rfl ?_
  show XX g false (d + 1) P_X12_init 892 [(2, 88)] [] 100 K415 136 Q
  refine E_aload_n 893 dX12_init_892 rfl (ac_88.bnd) rfl ?_
  refine E_iconst 894 dX12_init_893 (by decide) rfl ?_
  refine E_newa 896 dX12_init_894 (rfl : kd 100 = (20, 4)) (by decide) rfl rfl (by decide) mw_167 (by decide) rfl ?_
  show XX g false (d + 1) P_X12_init 896 [(2, 88)] [(2, 100), (2, 88)] 101 K416 136 Q
  refine E_putR (ty := .array .int) 25 899 dX12_init_896 fl_X12_50 (at_88 (by decide)) rfl (by decide) (Or.inr ⟨rfl, cl_X12⟩) (by decide +kernel) (Or.inr ⟨_, rfl⟩) (fun h => by cases h) rfl rfl ?_
  show XX g false (d + 1) P_X12_init 899 [(2, 88)] [] 101 K417 136 Q
  refine E_aload_n 900 dX12_init_899 rfl (ac_88.bnd) rfl ?_
  refine E_bipush 902 dX12_init_900 (by decide) rfl ?_
  refine E_newa 904 dX12_init_902 (rfl : kd 101 = (20, 64)) (by decide) rfl rfl (by decide) mw_167 (by decide) rfl ?_
  show XX g false (d + 1) P_X12_init 904 [(2, 88)] [(2, 101), (2, 88)] 102 K418 136 Q
  refine E_putR (ty := .array .int) 26 907 dX12_init_904 fl_X12_53 (at_88 (by decide)) rfl (by decide) (Or.inr ⟨rfl, cl_X12⟩) (by decide +kernel) (Or.inr ⟨_, rfl⟩) (fun h => by cases h) rfl rfl ?_
  show XX g false (d + 1) P_X12_init 907 [(2, 88)] [] 102 K419 136 Q
  refine E_aload_n 908 dX12_init_907 rfl (ac_88.bnd) rfl ?_
  refine E_bipush 910 dX12_init_908 (by decide) rfl ?_
  refine E_newa 912 dX12_init_910 (rfl : kd 102 = (20, 64)) (by decide) rfl rfl (by decide) mw_167 (by decide) rfl ?_
  show XX g false (d + 1) P_X12_init 912 [(2, 88)] [(2, 102), (2, 88)] 103 K420 136 Q
  refine E_putR (ty := .array .int) 27 915 dX12_init_912 fl_X12_56 (at_88 (by decide)) rfl (by decide) (Or.inr ⟨rfl, cl_X12⟩) (by decide +kernel) (Or.inr ⟨_, rfl⟩) (fun h => by cases h) rfl rfl ?_
  show XX g false (d + 1) P_X12_init 915 [(2, 88)] [] 103 K421 136 Q
  refine E_aload_n 916 dX12_init_915 rfl (ac_88.bnd) rfl ?_
  refine E_bipush 918 dX12_init_916 (by decide) rfl ?_
  refine E_newa 920 dX12_init_918 (rfl : kd 103 = (20, 64)) (by decide) rfl rfl (by decide) mw_167 (by decide) rfl ?_
  show XX g false (d + 1) P_X12_init 920 [(2, 88)] [(2, 103), (2, 88)] 104 K422 136 Q
  refine E_putR (ty := .array .int) 28 923 dX12_init_920 fl_X12_59 (at_88 (by decide)) rfl (by decide) (Or.inr ⟨rfl, cl_X12⟩) (by decide +kernel) (Or.inr ⟨_, rfl⟩) (fun h => by cases h) rfl rfl ?_
  show XX g false (d + 1) P_X12_init 923 [(2, 88)] [] 104 K423 136 Q
  refine E_aload_n 924 dX12_init_923 rfl (ac_88.bnd) rfl ?_
  refine E_sipush 927 dX12_init_924 (by decide) rfl ?_
  refine E_newa 929 dX12_init_927 (rfl : kd 104 = (20, 2000)) (by decide) rfl rfl (by decide) mw_167 (by decide) rfl ?_
  show XX g false (d + 1) P_X12_init 929 [(2, 88)] [(2, 104), (2, 88)] 105 K424 136 Q
  refine E_putR (ty := .array .int) 29 932 dX12_init_929 fl_X12_62 (at_88 (by decide)) rfl (by decide) (Or.inr ⟨rfl, cl_X12⟩) (by decide +kernel) (Or.inr ⟨_, rfl⟩) (fun h => by cases h) rfl rfl ?_
  show XX g false (d + 1) P_X12_init 932 [(2, 88)] [] 105 K425 136 Q
  refine E_aload_n 933 dX12_init_932 rfl (ac_88.bnd) rfl ?_
  refine E_sipush 936 dX12_init_933 (by decide) rfl ?_
  refine E_newa 938 dX12_init_936 (rfl : kd 105 = (20, 2000)) (by decide) rfl rfl (by decide) mw_167 (by decide) rfl ?_
  show XX g false (d + 1) P_X12_init 938 [(2, 88)] [(2, 105), (2, 88)] 106 K426 136 Q
  refine E_putR (ty := .array .int) 30 941 dX12_init_938 fl_X12_65 (at_88 (by decide)) rfl (by decide) (Or.inr ⟨rfl, cl_X12⟩) (by decide +kernel) (Or.inr ⟨_, rfl⟩) (fun h => by cases h) rfl rfl ?_
  show XX g false (d + 1) P_X12_init 941 [(2, 88)] [] 106 K427 136 Q
  refine E_aload_n 942 dX12_init_941 rfl (ac_88.bnd) rfl ?_
  refine E_bipush 944 dX12_init_942 (by decide) rfl ?_
  refine E_newa 946 dX12_init_944 (rfl : kd 106 = (20, 40)) (by decide) rfl rfl (by decide) mw_167 (by decide) rfl ?_
  show XX g false (d + 1) P_X12_init 946 [(2, 88)] [(2, 106), (2, 88)] 107 K428 136 Q
  refine E_putR (ty := .array .int) 34 949 dX12_init_946 fl_X12_68 (at_88 (by decide)) rfl (by decide) (Or.inr ⟨rfl, cl_X12⟩) (by decide +kernel) (Or.inr ⟨_, rfl⟩) (fun h => by cases h) rfl rfl ?_
  show XX g false (d + 1) P_X12_init 949 [(2, 88)] [] 107 K429 136 Q
  refine E_aload_n 950 dX12_init_949 rfl (ac_88.bnd) rfl ?_
  refine E_iconst 951 dX12_init_950 (by decide) rfl ?_
  refine E_putI 39 954 dX12_init_951 fl_X12_71 (at_88 (by decide)) rfl (by decide) (Or.inr ⟨rfl, cl_X12⟩) rfl rfl ?_
  show XX g false (d + 1) P_X12_init 954 [(2, 88)] [] 107 K430 136 Q
  refine E_aload_n 955 dX12_init_954 rfl (ac_88.bnd) rfl ?_
  refine E_bipush 957 dX12_init_955 (by decide) rfl ?_
  refine E_newa 959 dX12_init_957 (rfl : kd 107 = (20, 16)) (by decide) rfl rfl (by decide) mw_167 (by decide) rfl ?_
  show XX g false (d + 1) P_X12_init 959 [(2, 88)] [(2, 107), (2, 88)] 108 K431 136 Q
  refine E_putR (ty := .array .int) 41 962 dX12_init_959 fl_X12_74 (at_88 (by decide)) rfl (by decide) (Or.inr ⟨rfl, cl_X12⟩) (by decide +kernel) (Or.inr ⟨_, rfl⟩) (fun h => by cases h) rfl rfl ?_
  show XX g false (d + 1) P_X12_init 962 [(2, 88)] [] 108 K432 136 Q
  refine E_aload_n 963 dX12_init_962 rfl (ac_88.bnd) rfl ?_
  refine E_bipush 965 dX12_init_963 (by decide) rfl ?_
  refine E_newa 967 dX12_init_965 (rfl : kd 108 = (20, 16)) (by decide) rfl rfl (by decide) mw_167 (by decide) rfl ?_
  show XX g false (d + 1) P_X12_init 967 [(2, 88)] [(2, 108), (2, 88)] 109 K433 136 Q
  refine E_putR (ty := .array .int) 42 970 dX12_init_967 fl_X12_77 (at_88 (by decide)) rfl (by decide) (Or.inr ⟨rfl, cl_X12⟩) (by decide +kernel) (Or.inr ⟨_, rfl⟩) (fun h => by cases h) rfl rfl ?_
  show XX g false (d + 1) P_X12_init 970 [(2, 88)] [] 109 K434 136 Q
  refine E_aload_n 971 dX12_init_970 rfl (ac_88.bnd) rfl ?_
  refine E_bipush 973 dX12_init_971 (by decide) rfl ?_
  refine E_newa 975 dX12_init_973 (rfl : kd 109 = (20, 16)) (by decide) rfl rfl (by decide) mw_167 (by decide) rfl ?_
  show XX g false (d + 1) P_X12_init 975 [(2, 88)] [(2, 109), (2, 88)] 110 K435 136 Q
  refine E_putR (ty := .array .int) 43 978 dX12_init_975 fl_X12_80 (at_88 (by decide)) rfl (by decide) (Or.inr ⟨rfl, cl_X12⟩) (by decide +kernel) (Or.inr ⟨_, rfl⟩) (fun h => by cases h) rfl rfl ?_
  show XX g false (d + 1) P_X12_init 978 [(2, 88)] [] 110 K436 136 Q
  refine E_aload_n 979 dX12_init_978 rfl (ac_88.bnd) rfl ?_
  refine E_sipush 982 dX12_init_979 (by decide) rfl ?_
  refine E_newa 984 dX12_init_982 (rfl : kd 110 = (20, 128)) (by decide) rfl rfl (by decide) mw_167 (by decide) rfl ?_
  show XX g false (d + 1) P_X12_init 984 [(2, 88)] [(2, 110), (2, 88)] 111 K437 136 Q
  refine E_putR (ty := .array .int) 44 987 dX12_init_984 fl_X12_83 (at_88 (by decide)) rfl (by decide) (Or.inr ⟨rfl, cl_X12⟩) (by decide +kernel) (Or.inr ⟨_, rfl⟩) (fun h => by cases h) rfl rfl ?_
  show XX g false (d + 1) P_X12_init 987 [(2, 88)] [] 111 K438 136 Q
  refine E_aload_n 988 dX12_init_987 rfl (ac_88.bnd) rfl ?_
  refine E_bipush 990 dX12_init_988 (by decide) rfl ?_
  refine E_newa 992 dX12_init_990 (rfl : kd 111 = (20, 12)) (by decide) rfl rfl (by decide) mw_167 (by decide) rfl ?_
  show XX g false (d + 1) P_X12_init 992 [(2, 88)] [(2, 111), (2, 88)] 112 K439 136 Q
  refine E_putR (ty := .array .int) 45 995 dX12_init_992 fl_X12_86 (at_88 (by decide)) rfl (by decide) (Or.inr ⟨rfl, cl_X12⟩) (by decide +kernel) (Or.inr ⟨_, rfl⟩) (fun h => by cases h) rfl rfl ?_
  show XX g false (d + 1) P_X12_init 995 [(2, 88)] [] 112 K440 136 Q
  refine E_aload_n 996 dX12_init_995 rfl (ac_88.bnd) rfl ?_
  refine E_sipush 999 dX12_init_996 (by decide) rfl ?_
  refine E_newa 1001 dX12_init_999 (rfl : kd 112 = (20, 520)) (by decide) rfl rfl (by decide) mw_167 (by decide) rfl ?_
  show XX g false (d + 1) P_X12_init 1001 [(2, 88)] [(2, 112), (2, 88)] 113 K441 136 Q
  refine E_putR (ty := .array .int) 46 1004 dX12_init_1001 fl_X12_89 (at_88 (by decide)) rfl (by decide) (Or.inr ⟨rfl, cl_X12⟩) (by decide +kernel) (Or.inr ⟨_, rfl⟩) (fun h => by cases h) rfl rfl ?_
  show XX g false (d + 1) P_X12_init 1004 [(2, 88)] [] 113 K442 136 Q
  refine E_aload_n 1005 dX12_init_1004 rfl (ac_88.bnd) rfl ?_
  refine E_bipush 1007 dX12_init_1005 (by decide) rfl ?_
  refine E_newa 1009 dX12_init_1007 (rfl : kd 113 = (20, 60)) (by decide) rfl rfl (by decide) mw_167 (by decide) rfl ?_
  show XX g false (d + 1) P_X12_init 1009 [(2, 88)] [(2, 113), (2, 88)] 114 K443 136 Q
  refine E_putR (ty := .array .int) 47 1012 dX12_init_1009 fl_X12_92 (at_88 (by decide)) rfl (by decide) (Or.inr ⟨rfl, cl_X12⟩) (by decide +kernel) (Or.inr ⟨_, rfl⟩) (fun h => by cases h) rfl rfl ?_
  show XX g false (d + 1) P_X12_init 1012 [(2, 88)] [] 114 K444 136 Q
  refine E_aload_n 1013 dX12_init_1012 rfl (ac_88.bnd) rfl ?_
  refine E_bipush 1015 dX12_init_1013 (by decide) rfl ?_
  refine E_newa 1017 dX12_init_1015 (rfl : kd 114 = (20, 60)) (by decide) rfl rfl (by decide) mw_167 (by decide) rfl ?_
  show XX g false (d + 1) P_X12_init 1017 [(2, 88)] [(2, 114), (2, 88)] 115 K445 136 Q
  refine E_putR (ty := .array .int) 48 1020 dX12_init_1017 fl_X12_95 (at_88 (by decide)) rfl (by decide) (Or.inr ⟨rfl, cl_X12⟩) (by decide +kernel) (Or.inr ⟨_, rfl⟩) (fun h => by cases h) rfl rfl ?_
  show XX g false (d + 1) P_X12_init 1020 [(2, 88)] [] 115 K446 136 Q
  refine E_aload_n 1021 dX12_init_1020 rfl (ac_88.bnd) rfl ?_
  refine E_bipush 1023 dX12_init_1021 (by decide) rfl ?_
  refine E_newa 1025 dX12_init_1023 (rfl : kd 115 = (20, 60)) (by decide) rfl rfl (by decide) mw_167 (by decide) rfl ?_
  show XX g false (d + 1) P_X12_init 1025 [(2, 88)] [(2, 115), (2, 88)] 116 K447 136 Q
  refine E_putR (ty := .array .int) 49 1028 dX12_init_1025 fl_X12_98 (at_88 (by decide)) rfl (by decide) (Or.inr ⟨rfl, cl_X12⟩) (by decide +kernel) (Or.inr ⟨_, rfl⟩) (fun h => by cases h) rfl rfl ?_
  show XX g false (d + 1) P_X12_init 1028 [(2, 88)] [] 116 K448 136 Q
  refine E_aload_n 1029 dX12_init_1028 rfl (ac_88.bnd) rfl ?_
  refine E_iconst 1030 dX12_init_1029 (by decide) rfl ?_
  refine E_putI 50 1033 dX12_init_1030 fl_X12_101 (at_88 (by decide)) rfl (by decide) (Or.inr ⟨rfl, cl_X12⟩) rfl rfl ?_
  show XX g false (d + 1) P_X12_init 1033 [(2, 88)] [] 116 K449 136 Q
  refine E_aload_n 1034 dX12_init_1033 rfl (ac_88.bnd) rfl ?_
  refine E_sipush 1037 dX12_init_1034 (by decide) rfl ?_
  refine E_newa 1039 dX12_init_1037 (rfl : kd 116 = (21, 128)) (by decide) rfl rfl (by decide) mw_415 (by decide) rfl ?_
  show XX g false (d + 1) P_X12_init 1039 [(2, 88)] [(2, 116), (2, 88)] 117 K450 136 Q
  refine E_putR (ty := .array .long) 52 1042 dX12_init_1039 fl_X12_104 (at_88 (by decide)) rfl (by decide) (Or.inr ⟨rfl, cl_X12⟩) (by decide +kernel) (Or.inr ⟨_, rfl⟩) (fun h => by cases h) rfl rfl ?_
  show XX g false (d + 1) P_X12_init 1042 [(2, 88)] [] 117 K451 136 Q
  refine E_aload_n 1043 dX12_init_1042 rfl (ac_88.bnd) rfl ?_
  refine E_sipush 1046 dX12_init_1043 (by decide) rfl ?_
  refine E_newa 1048 dX12_init_1046 (rfl : kd 117 = (21, 128)) (by decide) rfl rfl (by decide) mw_415 (by decide) rfl ?_
  show XX g false (d + 1) P_X12_init 1048 [(2, 88)] [(2, 117), (2, 88)] 118 K452 136 Q
  refine E_putR (ty := .array .long) 53 1051 dX12_init_1048 fl_X12_108 (at_88 (by decide)) rfl (by decide) (Or.inr ⟨rfl, cl_X12⟩) (by decide +kernel) (Or.inr ⟨_, rfl⟩) (fun h => by cases h) rfl rfl ?_
  show XX g false (d + 1) P_X12_init 1051 [(2, 88)] [] 118 K453 136 Q
  refine E_aload_n 1052 dX12_init_1051 rfl (ac_88.bnd) rfl ?_
  refine E_bipush 1054 dX12_init_1052 (by decide) rfl ?_
  refine E_newa 1056 dX12_init_1054 (rfl : kd 118 = (20, 60)) (by decide) rfl rfl (by decide) mw_167 (by decide) rfl ?_
  show XX g false (d + 1) P_X12_init 1056 [(2, 88)] [(2, 118), (2, 88)] 119 K454 136 Q
  refine E_putR (ty := .array .int) 54 1059 dX12_init_1056 fl_X12_111 (at_88 (by decide)) rfl (by decide) (Or.inr ⟨rfl, cl_X12⟩) (by decide +kernel) (Or.inr ⟨_, rfl⟩) (fun h => by cases h) rfl rfl ?_
  show XX g false (d + 1) P_X12_init 1059 [(2, 88)] [] 119 K455 136 Q
  refine E_aload_n 1060 dX12_init_1059 rfl (ac_88.bnd) rfl ?_
  refine E_sipush 1063 dX12_init_1060 (by decide) rfl ?_
  refine E_newa 1065 dX12_init_1063 (rfl : kd 119 = (21, 1024)) (by decide) rfl rfl (by decide) mw_415 (by decide) rfl ?_
  show XX g false (d + 1) P_X12_init 1065 [(2, 88)] [(2, 119), (2, 88)] 120 K456 136 Q
  refine E_putR (ty := .array .long) 55 1068 dX12_init_1065 fl_X12_114 (at_88 (by decide)) rfl (by decide) (Or.inr ⟨rfl, cl_X12⟩) (by decide +kernel) (Or.inr ⟨_, rfl⟩) (fun h => by cases h) rfl rfl ?_
  show XX g false (d + 1) P_X12_init 1068 [(2, 88)] [] 120 K457 136 Q
  refine E_aload_n 1069 dX12_init_1068 rfl (ac_88.bnd) rfl ?_
  refine E_sipush 1072 dX12_init_1069 (by decide) rfl ?_
  refine E_newa 1074 dX12_init_1072 (rfl : kd 120 = (21, 1024)) (by decide) rfl rfl (by decide) mw_415 (by decide) rfl ?_
  show XX g false (d + 1) P_X12_init 1074 [(2, 88)] [(2, 120), (2, 88)] 121 K458 136 Q
  refine E_putR (ty := .array .long) 56 1077 dX12_init_1074 fl_X12_117 (at_88 (by decide)) rfl (by decide) (Or.inr ⟨rfl, cl_X12⟩) (by decide +kernel) (Or.inr ⟨_, rfl⟩) (fun h => by cases h) rfl rfl ?_
  show XX g false (d + 1) P_X12_init 1077 [(2, 88)] [] 121 K459 136 Q
  refine E_aload_n 1078 dX12_init_1077 rfl (ac_88.bnd) rfl ?_
  refine E_sipush 1081 dX12_init_1078 (by decide) rfl ?_
  refine E_newa 1083 dX12_init_1081 (rfl : kd 121 = (20, 1024)) (by decide) rfl rfl (by decide) mw_167 (by decide) rfl ?_
  show XX g false (d + 1) P_X12_init 1083 [(2, 88)] [(2, 121), (2, 88)] 122 K460 136 Q
  refine E_putR (ty := .array .int) 57 1086 dX12_init_1083 fl_X12_120 (at_88 (by decide)) rfl (by decide) (Or.inr ⟨rfl, cl_X12⟩) (by decide +kernel) (Or.inr ⟨_, rfl⟩) (fun h => by cases h) rfl rfl ?_
  show XX g false (d + 1) P_X12_init 1086 [(2, 88)] [] 122 K461 136 Q
  refine E_aload_n 1087 dX12_init_1086 rfl (ac_88.bnd) rfl ?_
  refine E_sipush 1090 dX12_init_1087 (by decide) rfl ?_
  refine E_newa 1092 dX12_init_1090 (rfl : kd 122 = (21, 1024)) (by decide) rfl rfl (by decide) mw_415 (by decide) rfl ?_
  show XX g false (d + 1) P_X12_init 1092 [(2, 88)] [(2, 122), (2, 88)] 123 K462 136 Q
  refine E_putR (ty := .array .long) 58 1095 dX12_init_1092 fl_X12_123 (at_88 (by decide)) rfl (by decide) (Or.inr ⟨rfl, cl_X12⟩) (by decide +kernel) (Or.inr ⟨_, rfl⟩) (fun h => by cases h) rfl rfl ?_
  show XX g false (d + 1) P_X12_init 1095 [(2, 88)] [] 123 K463 136 Q
  refine E_aload_n 1096 dX12_init_1095 rfl (ac_88.bnd) rfl ?_
  refine E_bipush 1098 dX12_init_1096 (by decide) rfl ?_
  refine E_newa 1100 dX12_init_1098 (rfl : kd 123 = (20, 10)) (by decide) rfl rfl (by decide) mw_167 (by decide) rfl ?_
  show XX g false (d + 1) P_X12_init 1100 [(2, 88)] [(2, 123), (2, 88)] 124 K464 136 Q
  refine E_putR (ty := .array .int) 59 1103 dX12_init_1100 fl_X12_126 (at_88 (by decide)) rfl (by decide) (Or.inr ⟨rfl, cl_X12⟩) (by decide +kernel) (Or.inr ⟨_, rfl⟩) (fun h => by cases h) rfl rfl ?_
  show XX g false (d + 1) P_X12_init 1103 [(2, 88)] [] 124 K465 136 Q
  refine E_aload_n 1104 dX12_init_1103 rfl (ac_88.bnd) rfl ?_
  refine E_sipush 1107 dX12_init_1104 (by decide) rfl ?_
  refine E_newa 1109 dX12_init_1107 (rfl : kd 124 = (23, 1024)) (by decide) rfl rfl (by decide) mw_450 (by decide) rfl ?_
  show XX g false (d + 1) P_X12_init 1109 [(2, 88)] [(2, 124), (2, 88)] 125 K466 136 Q
  refine E_putR (ty := .array .boolean) 60 1112 dX12_init_1109 fl_X12_129 (at_88 (by decide)) rfl (by decide) (Or.inr ⟨rfl, cl_X12⟩) (by decide +kernel) (Or.inr ⟨_, rfl⟩) (fun h => by cases h) rfl rfl ?_
  show XX g false (d + 1) P_X12_init 1112 [(2, 88)] [] 125 K467 136 Q
  refine E_aload_n 1113 dX12_init_1112 rfl (ac_88.bnd) rfl ?_
  refine E_sipush 1116 dX12_init_1113 (by decide) rfl ?_
  refine E_newa 1118 dX12_init_1116 (rfl : kd 125 = (21, 7808)) (by decide) rfl rfl (by decide) mw_415 (by decide) rfl ?_
  show XX g false (d + 1) P_X12_init 1118 [(2, 88)] [(2, 125), (2, 88)] 126 K468 136 Q
  refine E_putR (ty := .array .long) 61 1121 dX12_init_1118 fl_X12_133 (at_88 (by decide)) rfl (by decide) (Or.inr ⟨rfl, cl_X12⟩) (by decide +kernel) (Or.inr ⟨_, rfl⟩) (fun h => by cases h) rfl rfl ?_
  show XX g false (d + 1) P_X12_init 1121 [(2, 88)] [] 126 K469 136 Q
  refine E_aload_n 1122 dX12_init_1121 rfl (ac_88.bnd) rfl ?_
  refine E_sipush 1125 dX12_init_1122 (by decide) rfl ?_
  refine E_newa 1127 dX12_init_1125 (rfl : kd 126 = (21, 7808)) (by decide) rfl rfl (by decide) mw_415 (by decide) rfl ?_
  show XX g false (d + 1) P_X12_init 1127 [(2, 88)] [(2, 126), (2, 88)] 127 K470 136 Q
  refine E_putR (ty := .array .long) 62 1130 dX12_init_1127 fl_X12_136 (at_88 (by decide)) rfl (by decide) (Or.inr ⟨rfl, cl_X12⟩) (by decide +kernel) (Or.inr ⟨_, rfl⟩) (fun h => by cases h) rfl rfl ?_
  show XX g false (d + 1) P_X12_init 1130 [(2, 88)] [] 127 K471 136 Q
  refine E_aload_n 1131 dX12_init_1130 rfl (ac_88.bnd) rfl ?_
  refine E_bipush 1133 dX12_init_1131 (by decide) rfl ?_
  refine E_newa 1135 dX12_init_1133 (rfl : kd 127 = (20, 60)) (by decide) rfl rfl (by decide) mw_167 (by decide) rfl ?_
  show XX g false (d + 1) P_X12_init 1135 [(2, 88)] [(2, 127), (2, 88)] 128 K472 136 Q
  refine E_putR (ty := .array .int) 63 1138 dX12_init_1135 fl_X12_139 (at_88 (by decide)) rfl (by decide) (Or.inr ⟨rfl, cl_X12⟩) (by decide +kernel) (Or.inr ⟨_, rfl⟩) (fun h => by cases h) rfl rfl ?_
  show XX g false (d + 1) P_X12_init 1138 [(2, 88)] [] 128 K473 136 Q
  refine E_aload_n 1139 dX12_init_1138 rfl (ac_88.bnd) rfl ?_
  refine E_bipush 1141 dX12_init_1139 (by decide) rfl ?_
  refine E_newa 1143 dX12_init_1141 (rfl : kd 128 = (20, 60)) (by decide) rfl rfl (by decide) mw_167 (by decide) rfl ?_
  show XX g false (d + 1) P_X12_init 1143 [(2, 88)] [(2, 128), (2, 88)] 129 K474 136 Q
  refine E_putR (ty := .array .int) 64 1146 dX12_init_1143 fl_X12_142 (at_88 (by decide)) rfl (by decide) (Or.inr ⟨rfl, cl_X12⟩) (by decide +kernel) (Or.inr ⟨_, rfl⟩) (fun h => by cases h) rfl rfl ?_
  show XX g false (d + 1) P_X12_init 1146 [(2, 88)] [] 129 K475 136 Q
  refine E_aload_n 1147 dX12_init_1146 rfl (ac_88.bnd) rfl ?_
  refine E_bipush 1149 dX12_init_1147 (by decide) rfl ?_
  refine E_newa 1151 dX12_init_1149 (rfl : kd 129 = (20, 60)) (by decide) rfl rfl (by decide) mw_167 (by decide) rfl ?_
  show XX g false (d + 1) P_X12_init 1151 [(2, 88)] [(2, 129), (2, 88)] 130 K476 136 Q
  refine E_putR (ty := .array .int) 65 1154 dX12_init_1151 fl_X12_145 (at_88 (by decide)) rfl (by decide) (Or.inr ⟨rfl, cl_X12⟩) (by decide +kernel) (Or.inr ⟨_, rfl⟩) (fun h => by cases h) rfl rfl ?_
  show XX g false (d + 1) P_X12_init 1154 [(2, 88)] [] 130 K477 136 Q
  refine E_aload_n 1155 dX12_init_1154 rfl (ac_88.bnd) rfl ?_
  refine E_bipush 1157 dX12_init_1155 (by decide) rfl ?_
  refine E_newa 1159 dX12_init_1157 (rfl : kd 130 = (20, 7)) (by decide) rfl rfl (by decide) mw_167 (by decide) rfl ?_
  show XX g false (d + 1) P_X12_init 1159 [(2, 88)] [(2, 130), (2, 88)] 131 K478 136 Q
  refine E_putR (ty := .array .int) 66 1162 dX12_init_1159 fl_X12_148 (at_88 (by decide)) rfl (by decide) (Or.inr ⟨rfl, cl_X12⟩) (by decide +kernel) (Or.inr ⟨_, rfl⟩) (fun h => by cases h) rfl rfl ?_
  show XX g false (d + 1) P_X12_init 1162 [(2, 88)] [] 131 K479 136 Q
  refine E_aload_n 1163 dX12_init_1162 rfl (ac_88.bnd) rfl ?_
  refine E_bipush 1165 dX12_init_1163 (by decide) rfl ?_
  refine E_newa 1167 dX12_init_1165 (rfl : kd 131 = (20, 7)) (by decide) rfl rfl (by decide) mw_167 (by decide) rfl ?_
  show XX g false (d + 1) P_X12_init 1167 [(2, 88)] [(2, 131), (2, 88)] 132 K480 136 Q
  refine E_putR (ty := .array .int) 67 1170 dX12_init_1167 fl_X12_151 (at_88 (by decide)) rfl (by decide) (Or.inr ⟨rfl, cl_X12⟩) (by decide +kernel) (Or.inr ⟨_, rfl⟩) (fun h => by cases h) rfl rfl ?_
  show XX g false (d + 1) P_X12_init 1170 [(2, 88)] [] 132 K481 136 Q
  refine E_aload_n 1171 dX12_init_1170 rfl (ac_88.bnd) rfl ?_
  refine E_bipush 1173 dX12_init_1171 (by decide) rfl ?_
  refine E_newa 1175 dX12_init_1173 (rfl : kd 132 = (20, 31)) (by decide) rfl rfl (by decide) mw_167 (by decide) rfl ?_
  show XX g false (d + 1) P_X12_init 1175 [(2, 88)] [(2, 132), (2, 88)] 133 K482 136 Q
  refine E_putR (ty := .array .int) 68 1178 dX12_init_1175 fl_X12_154 (at_88 (by decide)) rfl (by decide) (Or.inr ⟨rfl, cl_X12⟩) (by decide +kernel) (Or.inr ⟨_, rfl⟩) (fun h => by cases h) rfl rfl ?_
  show XX g false (d + 1) P_X12_init 1178 [(2, 88)] [] 133 K483 136 Q
  refine E_aload_n 1179 dX12_init_1178 rfl (ac_88.bnd) rfl ?_
  refine E_sipush 1182 dX12_init_1179 (by decide) rfl ?_
  refine E_newa 1184 dX12_init_1182 (rfl : kd 133 = (20, 400)) (by decide) rfl rfl (by decide) mw_167 (by decide) rfl ?_
  show XX g false (d + 1) P_X12_init 1184 [(2, 88)] [(2, 133), (2, 88)] 134 K484 136 Q
  refine E_putR (ty := .array .int) 71 1187 dX12_init_1184 fl_X12_157 (at_88 (by decide)) rfl (by decide) (Or.inr ⟨rfl, cl_X12⟩) (by decide +kernel) (Or.inr ⟨_, rfl⟩) (fun h => by cases h) rfl rfl ?_
  show XX g false (d + 1) P_X12_init 1187 [(2, 88)] [] 134 K485 136 Q
  refine E_aload_n 1188 dX12_init_1187 rfl (ac_88.bnd) rfl ?_
  refine E_sipush 1191 dX12_init_1188 (by decide) rfl ?_
  refine E_newa 1193 dX12_init_1191 (rfl : kd 134 = (20, 400)) (by decide) rfl rfl (by decide) mw_167 (by decide) rfl ?_
  show XX g false (d + 1) P_X12_init 1193 [(2, 88)] [(2, 134), (2, 88)] 135 K486 136 Q
  refine E_putR (ty := .array .int) 76 1196 dX12_init_1193 fl_X12_160 (at_88 (by decide)) rfl (by decide) (Or.inr ⟨rfl, cl_X12⟩) (by decide +kernel) (Or.inr ⟨_, rfl⟩) (fun h => by cases h) rfl rfl ?_
  show XX g false (d + 1) P_X12_init 1196 [(2, 88)] [] 135 K487 136 Q
  refine E_aload_n 1197 dX12_init_1196 rfl (ac_88.bnd) rfl ?_
  refine E_sipush 1200 dX12_init_1197 (by decide) rfl ?_
  refine E_newa 1202 dX12_init_1200 (rfl : kd 135 = (20, 3400)) (by decide) rfl rfl (by decide) mw_167 (by decide) rfl ?_
  show XX g false (d + 1) P_X12_init 1202 [(2, 88)] [(2, 135), (2, 88)] 136 K488 136 Q
  refine E_putR (ty := .array .int) 77 1205 dX12_init_1202 fl_X12_163 (at_88 (by decide)) rfl (by decide) (Or.inr ⟨rfl, cl_X12⟩) (by decide +kernel) (Or.inr ⟨_, rfl⟩) (fun h => by cases h) rfl rfl ?_
  show XX g false (d + 1) P_X12_init 1205 [(2, 88)] [] 136 K489 136 Q
  exact E_vret dX12_init_1205 rfl rfl w
theorem KI_lay : Lay K489 := by unfold Lay; decide +kernel
def KI : PS := K489
