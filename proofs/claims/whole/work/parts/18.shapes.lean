theorem pn_RX0 : plainName RX0 = true := by decide +kernel
theorem pn_RX1 : plainName RX1 = true := by decide +kernel
theorem pn_RX2 : plainName RX2 = true := by decide +kernel
theorem pn_RX3 : plainName RX3 = true := by decide +kernel
theorem pn_RX4 : plainName RX4 = true := by decide +kernel
theorem pn_RX5 : plainName RX5 = true := by decide +kernel
theorem pn_RX6 : plainName RX6 = true := by decide +kernel
theorem pn_RX7 : plainName RX7 = true := by decide +kernel
theorem pn_RX8 : plainName RX8 = true := by decide +kernel
theorem pn_RX9 : plainName RX9 = true := by decide +kernel
theorem pn_RX10 : plainName RX10 = true := by decide +kernel
theorem pn_RX11 : plainName RX11 = true := by decide +kernel
theorem pn_RX12 : plainName RX12 = true := by decide +kernel
theorem pn_RL : plainName RL = true := by decide +kernel
theorem ka_0 : kap 0 = 11 := by decide +kernel
theorem le_0 : len 0 = 16 := by decide +kernel
theorem ka_1 : kap 1 = 3 := by decide +kernel
theorem le_1 : len 1 = 7 := by decide +kernel
theorem ka_16 : kap 16 = 3 := by decide +kernel
theorem le_16 : len 16 = 7 := by decide +kernel
theorem ka_31 : kap 31 = 24 := by decide +kernel
theorem le_31 : len 31 = 2 := by decide +kernel
theorem ka_32 : kap 32 = 21 := by decide +kernel
theorem le_32 : len 32 = 2 := by decide +kernel
theorem ka_33 : kap 33 = 6 := by decide +kernel
theorem le_33 : len 33 = 5 := by decide +kernel
theorem ka_34 : kap 34 = 24 := by decide +kernel
theorem le_34 : len 34 = 12 := by decide +kernel
theorem ka_35 : kap 35 = 26 := by decide +kernel
theorem le_35 : len 35 = 12 := by decide +kernel
theorem ka_48 : kap 48 = 26 := by decide +kernel
theorem le_48 : len 48 = 12 := by decide +kernel
theorem ka_241 : kap 241 = 20 := by decide +kernel
theorem le_241 : len 241 = 160 := by decide +kernel
theorem ka_242 : kap 242 = 9 := by decide +kernel
theorem le_242 : len 242 = 8 := by decide +kernel
theorem ka_243 : kap 243 = 3 := by decide +kernel
theorem le_243 : len 243 = 7 := by decide +kernel
theorem ka_258 : kap 258 = 20 := by decide +kernel
theorem le_258 : len 258 = 6 := by decide +kernel
theorem ka_259 : kap 259 = 1 := by decide +kernel
theorem le_259 : len 259 = 2 := by decide +kernel
theorem ka_260 : kap 260 = 2 := by decide +kernel
theorem le_260 : len 260 = 3 := by decide +kernel
theorem ka_263 : kap 263 = 21 := by decide +kernel
theorem le_263 : len 263 = 351 := by decide +kernel
theorem ka_264 : kap 264 = 4 := by decide +kernel
theorem le_264 : len 264 = 8 := by decide +kernel
theorem ka_265 : kap 265 = 20 := by decide +kernel
theorem le_265 : len 265 = 4 := by decide +kernel
theorem ka_266 : kap 266 = 20 := by decide +kernel
theorem le_266 : len 266 = 8 := by decide +kernel
theorem ka_267 : kap 267 = 0 := by decide +kernel
theorem le_267 : len 267 = 11 := by decide +kernel
theorem ka_268 : kap 268 = 10 := by decide +kernel
theorem le_268 : len 268 = 9 := by decide +kernel
theorem ka_269 : kap 269 = 5 := by decide +kernel
theorem le_269 : len 269 = 5 := by decide +kernel
theorem ka_270 : kap 270 = 25 := by decide +kernel
theorem le_270 : len 270 = 10 := by decide +kernel
theorem ka_271 : kap 271 = 8 := by decide +kernel
theorem le_271 : len 271 = 14 := by decide +kernel
theorem ka_281 : kap 281 = 20 := by decide +kernel
theorem le_281 : len 281 = 10 := by decide +kernel
theorem ka_282 : kap 282 = 21 := by decide +kernel
theorem le_282 : len 282 = 1024 := by decide +kernel
theorem ka_383 : kap 383 = 20 := by decide +kernel
theorem le_383 : len 383 = 360 := by decide +kernel
theorem ka_384 : kap 384 = 20 := by decide +kernel
theorem le_384 : len 384 = 360 := by decide +kernel
theorem ka_385 : kap 385 = 20 := by decide +kernel
theorem le_385 : len 385 = 360 := by decide +kernel
theorem ka_386 : kap 386 = 20 := by decide +kernel
theorem le_386 : len 386 = 360 := by decide +kernel
theorem ka_387 : kap 387 = 20 := by decide +kernel
theorem le_387 : len 387 = 360 := by decide +kernel
theorem ka_388 : kap 388 = 2 := by decide +kernel
theorem le_388 : len 388 = 3 := by decide +kernel
theorem ka_391 : kap 391 = 20 := by decide +kernel
theorem le_391 : len 391 = 6 := by decide +kernel
theorem ka_392 : kap 392 = 20 := by decide +kernel
theorem le_392 : len 392 = 6 := by decide +kernel
theorem ka_393 : kap 393 = 20 := by decide +kernel
theorem le_393 : len 393 = 6 := by decide +kernel
theorem ka_394 : kap 394 = 20 := by decide +kernel
theorem le_394 : len 394 = 6 := by decide +kernel
theorem ka_395 : kap 395 = 22 := by decide +kernel
theorem le_395 : len 395 = 1000 := by decide +kernel
theorem ka_426 : kap 426 = 12 := by decide +kernel
theorem le_426 : len 426 = 30 := by decide +kernel
theorem ka_427 : kap 427 = 20 := by decide +kernel
theorem le_427 : len 427 = 137 := by decide +kernel
theorem ka_428 : kap 428 = 20 := by decide +kernel
theorem le_428 : len 428 = 137 := by decide +kernel
theorem ka_429 : kap 429 = 20 := by decide +kernel
theorem le_429 : len 429 = 1644 := by decide +kernel
theorem ka_430 : kap 430 = 20 := by decide +kernel
theorem le_430 : len 430 = 250 := by decide +kernel
theorem ka_431 : kap 431 = 21 := by decide +kernel
theorem le_431 : len 431 = 2 := by decide +kernel
theorem ka_432 : kap 432 = 20 := by decide +kernel
theorem le_432 : len 432 = 10 := by decide +kernel
theorem ka_433 : kap 433 = 20 := by decide +kernel
theorem le_433 : len 433 = 10 := by decide +kernel
theorem ka_434 : kap 434 = 20 := by decide +kernel
theorem le_434 : len 434 = 10 := by decide +kernel
theorem ka_435 : kap 435 = 20 := by decide +kernel
theorem le_435 : len 435 = 10 := by decide +kernel
theorem ka_436 : kap 436 = 20 := by decide +kernel
theorem le_436 : len 436 = 160 := by decide +kernel
theorem ka_437 : kap 437 = 20 := by decide +kernel
theorem le_437 : len 437 = 7 := by decide +kernel
theorem ka_438 : kap 438 = 20 := by decide +kernel
theorem le_438 : len 438 = 137 := by decide +kernel
theorem ka_439 : kap 439 = 20 := by decide +kernel
theorem le_439 : len 439 = 30 := by decide +kernel
theorem ka_440 : kap 440 = 20 := by decide +kernel
theorem le_440 : len 440 = 30 := by decide +kernel
theorem ka_441 : kap 441 = 20 := by decide +kernel
theorem le_441 : len 441 = 30 := by decide +kernel
theorem ka_442 : kap 442 = 20 := by decide +kernel
theorem le_442 : len 442 = 30 := by decide +kernel
theorem ka_443 : kap 443 = 20 := by decide +kernel
theorem le_443 : len 443 = 30 := by decide +kernel
theorem ka_444 : kap 444 = 20 := by decide +kernel
theorem le_444 : len 444 = 30 := by decide +kernel
theorem ka_445 : kap 445 = 20 := by decide +kernel
theorem le_445 : len 445 = 10 := by decide +kernel
theorem ka_446 : kap 446 = 20 := by decide +kernel
theorem le_446 : len 446 = 6480 := by decide +kernel
theorem ka_447 : kap 447 = 20 := by decide +kernel
theorem le_447 : len 447 = 9600 := by decide +kernel
theorem ka_448 : kap 448 = 20 := by decide +kernel
theorem le_448 : len 448 = 4 := by decide +kernel
theorem ka_449 : kap 449 = 21 := by decide +kernel
theorem le_449 : len 449 = 1024 := by decide +kernel
theorem rh_0_0 : RF 0 0 = some 1 := by decide +kernel
theorem rh_0_1 : RF 0 1 = some 16 := by decide +kernel
theorem rh_0_2 : RF 0 2 = some 31 := by decide +kernel
theorem rh_0_3 : RF 0 3 = some 32 := by decide +kernel
theorem rh_0_4 : RF 0 4 = some 33 := by decide +kernel
theorem rh_0_5 : RF 0 5 = some 241 := by decide +kernel
theorem rh_0_6 : RF 0 6 = some 242 := by decide +kernel
theorem rh_0_7 : RF 0 7 = some 259 := by decide +kernel
theorem rh_0_8 : RF 0 8 = some 264 := by decide +kernel
theorem rh_0_9 : RF 0 9 = some 267 := by decide +kernel
theorem rh_0_10 : RF 0 10 = some 268 := by decide +kernel
theorem rh_0_11 : RF 0 11 = some 269 := by decide +kernel
theorem rh_0_12 : RF 0 12 = some 265 := by decide +kernel
theorem rh_0_13 : RF 0 13 = some 266 := by decide +kernel
theorem rh_33_2 : RF 33 2 = some 34 := by decide +kernel
theorem rh_33_3 : RF 33 3 = some 35 := by decide +kernel
theorem rh_33_4 : RF 33 4 = some 48 := by decide +kernel
theorem rh_242_0 : RF 242 0 = some 243 := by decide +kernel
theorem rh_242_7 : RF 242 7 = some 258 := by decide +kernel
theorem rh_259_0 : RF 259 0 = some 260 := by decide +kernel
theorem rh_259_1 : RF 259 1 = some 263 := by decide +kernel
theorem rh_264_2 : RF 264 2 = some 265 := by decide +kernel
theorem rh_264_3 : RF 264 3 = some 266 := by decide +kernel
theorem rh_264_4 : RF 264 4 = some 267 := by decide +kernel
theorem rh_264_5 : RF 264 5 = some 268 := by decide +kernel
theorem rh_264_6 : RF 264 6 = some 269 := by decide +kernel
theorem rh_264_7 : RF 264 7 = some 395 := by decide +kernel
theorem rh_267_5 : RF 267 5 = some 268 := by decide +kernel
theorem rh_267_6 : RF 267 6 = some 269 := by decide +kernel
theorem rh_267_7 : RF 267 7 = some 391 := by decide +kernel
theorem rh_267_8 : RF 267 8 = some 392 := by decide +kernel
theorem rh_267_9 : RF 267 9 = some 393 := by decide +kernel
theorem rh_267_10 : RF 267 10 = some 394 := by decide +kernel
theorem rh_268_1 : RF 268 1 = some 269 := by decide +kernel
theorem rh_268_3 : RF 268 3 = some 383 := by decide +kernel
theorem rh_268_4 : RF 268 4 = some 384 := by decide +kernel
theorem rh_268_5 : RF 268 5 = some 385 := by decide +kernel
theorem rh_268_6 : RF 268 6 = some 386 := by decide +kernel
theorem rh_268_7 : RF 268 7 = some 387 := by decide +kernel
theorem rh_268_8 : RF 268 8 = some 388 := by decide +kernel
theorem rh_269_1 : RF 269 1 = some 270 := by decide +kernel
theorem rh_269_2 : RF 269 2 = some 271 := by decide +kernel
theorem rh_269_3 : RF 269 3 = some 281 := by decide +kernel
theorem rh_269_4 : RF 269 4 = some 282 := by decide +kernel
theorem rh_426_0 : RF 426 0 = some 427 := by decide +kernel
theorem rh_426_1 : RF 426 1 = some 428 := by decide +kernel
theorem rh_426_3 : RF 426 3 = some 429 := by decide +kernel
theorem rh_426_5 : RF 426 5 = some 430 := by decide +kernel
theorem rh_426_6 : RF 426 6 = some 431 := by decide +kernel
theorem rh_426_7 : RF 426 7 = some 432 := by decide +kernel
theorem rh_426_8 : RF 426 8 = some 433 := by decide +kernel
theorem rh_426_9 : RF 426 9 = some 434 := by decide +kernel
theorem rh_426_10 : RF 426 10 = some 435 := by decide +kernel
theorem rh_426_11 : RF 426 11 = some 436 := by decide +kernel
theorem rh_426_15 : RF 426 15 = some 437 := by decide +kernel
theorem rh_426_16 : RF 426 16 = some 438 := by decide +kernel
theorem rh_426_17 : RF 426 17 = some 439 := by decide +kernel
theorem rh_426_18 : RF 426 18 = some 440 := by decide +kernel
theorem rh_426_19 : RF 426 19 = some 441 := by decide +kernel
theorem rh_426_20 : RF 426 20 = some 442 := by decide +kernel
theorem rh_426_21 : RF 426 21 = some 443 := by decide +kernel
theorem rh_426_22 : RF 426 22 = some 444 := by decide +kernel
theorem rh_426_23 : RF 426 23 = some 445 := by decide +kernel
theorem rh_426_24 : RF 426 24 = some 446 := by decide +kernel
theorem rh_426_26 : RF 426 26 = some 447 := by decide +kernel
theorem rh_426_28 : RF 426 28 = some 448 := by decide +kernel
theorem rh_426_29 : RF 426 29 = some 449 := by decide +kernel
theorem sh_2_0 : ∀ a, a < NN → kap a = 2 → RF a 1 = some (a + 1) ∧ kap (a + 1) = 20 ∧ len (a + 1) = 40 ∧ RF a 2 = some (a + 2) ∧ kap (a + 2) = 20 ∧ len (a + 2) = 40 ∧ kap (a + 1) = 20 ∧ len (a + 1) = 40 := by decide +kernel
theorem ro_2_1 {a : Nat} (h : kap a = 2) : RF a 1 = some (a + 1) := (sh_2_0 a (kap_lt h (by decide)) h).1
theorem ko_2_1 {a : Nat} (h : kap a = 2) : kap (a + 1) = 20 := (sh_2_0 a (kap_lt h (by decide)) h).2.1
theorem lo_2_1 {a : Nat} (h : kap a = 2) : len (a + 1) = 40 := (sh_2_0 a (kap_lt h (by decide)) h).2.2.1
theorem ro_2_2 {a : Nat} (h : kap a = 2) : RF a 2 = some (a + 2) := (sh_2_0 a (kap_lt h (by decide)) h).2.2.2.1
theorem ko_2_2 {a : Nat} (h : kap a = 2) : kap (a + 2) = 20 := (sh_2_0 a (kap_lt h (by decide)) h).2.2.2.2.1
theorem lo_2_2 {a : Nat} (h : kap a = 2) : len (a + 2) = 40 := (sh_2_0 a (kap_lt h (by decide)) h).2.2.2.2.2.1
theorem kd_2_1 {a : Nat} (h : kap a = 2) : kap (a + 1) = 20 := (sh_2_0 a (kap_lt h (by decide)) h).2.2.2.2.2.2.1
theorem ld_2_1 {a : Nat} (h : kap a = 2) : len (a + 1) = 40 := (sh_2_0 a (kap_lt h (by decide)) h).2.2.2.2.2.2.2
theorem sh_2_1 : ∀ a, a < NN → kap a = 2 → kap (a + 2) = 20 ∧ len (a + 2) = 40 := by decide +kernel
theorem kd_2_2 {a : Nat} (h : kap a = 2) : kap (a + 2) = 20 := (sh_2_1 a (kap_lt h (by decide)) h).1
theorem ld_2_2 {a : Nat} (h : kap a = 2) : len (a + 2) = 40 := (sh_2_1 a (kap_lt h (by decide)) h).2
theorem sh_3_0 : ∀ a, a < NN → kap a = 3 → RF a 0 = some (a + 1) ∧ kap (a + 1) = 20 ∧ len (a + 1) = 4 ∧ RF a 1 = some (a + 2) ∧ kap (a + 2) = 20 ∧ len (a + 2) = 4 ∧ RF a 5 = some (a + 3) ∧ kap (a + 3) = 23 := by decide +kernel
theorem ro_3_0 {a : Nat} (h : kap a = 3) : RF a 0 = some (a + 1) := (sh_3_0 a (kap_lt h (by decide)) h).1
theorem ko_3_0 {a : Nat} (h : kap a = 3) : kap (a + 1) = 20 := (sh_3_0 a (kap_lt h (by decide)) h).2.1
theorem lo_3_0 {a : Nat} (h : kap a = 3) : len (a + 1) = 4 := (sh_3_0 a (kap_lt h (by decide)) h).2.2.1
theorem ro_3_1 {a : Nat} (h : kap a = 3) : RF a 1 = some (a + 2) := (sh_3_0 a (kap_lt h (by decide)) h).2.2.2.1
theorem ko_3_1 {a : Nat} (h : kap a = 3) : kap (a + 2) = 20 := (sh_3_0 a (kap_lt h (by decide)) h).2.2.2.2.1
theorem lo_3_1 {a : Nat} (h : kap a = 3) : len (a + 2) = 4 := (sh_3_0 a (kap_lt h (by decide)) h).2.2.2.2.2.1
theorem ro_3_5 {a : Nat} (h : kap a = 3) : RF a 5 = some (a + 3) := (sh_3_0 a (kap_lt h (by decide)) h).2.2.2.2.2.2.1
theorem ko_3_5 {a : Nat} (h : kap a = 3) : kap (a + 3) = 23 := (sh_3_0 a (kap_lt h (by decide)) h).2.2.2.2.2.2.2
theorem sh_3_1 : ∀ a, a < NN → kap a = 3 → len (a + 3) = 10 ∧ RF a 6 = some (a + 4) ∧ kap (a + 4) = 7 ∧ len (a + 4) = 15 ∧ kap (a + 1) = 20 ∧ len (a + 1) = 4 ∧ kap (a + 2) = 20 ∧ len (a + 2) = 4 := by decide +kernel
theorem lo_3_5 {a : Nat} (h : kap a = 3) : len (a + 3) = 10 := (sh_3_1 a (kap_lt h (by decide)) h).1
theorem ro_3_6 {a : Nat} (h : kap a = 3) : RF a 6 = some (a + 4) := (sh_3_1 a (kap_lt h (by decide)) h).2.1
theorem ko_3_6 {a : Nat} (h : kap a = 3) : kap (a + 4) = 7 := (sh_3_1 a (kap_lt h (by decide)) h).2.2.1
theorem lo_3_6 {a : Nat} (h : kap a = 3) : len (a + 4) = 15 := (sh_3_1 a (kap_lt h (by decide)) h).2.2.2.1
theorem kd_3_1 {a : Nat} (h : kap a = 3) : kap (a + 1) = 20 := (sh_3_1 a (kap_lt h (by decide)) h).2.2.2.2.1
theorem ld_3_1 {a : Nat} (h : kap a = 3) : len (a + 1) = 4 := (sh_3_1 a (kap_lt h (by decide)) h).2.2.2.2.2.1
theorem kd_3_2 {a : Nat} (h : kap a = 3) : kap (a + 2) = 20 := (sh_3_1 a (kap_lt h (by decide)) h).2.2.2.2.2.2.1
theorem ld_3_2 {a : Nat} (h : kap a = 3) : len (a + 2) = 4 := (sh_3_1 a (kap_lt h (by decide)) h).2.2.2.2.2.2.2
theorem sh_3_2 : ∀ a, a < NN → kap a = 3 → kap (a + 3) = 23 ∧ len (a + 3) = 10 ∧ kap (a + 4) = 7 ∧ kap (a + 5) = 7 ∧ kap (a + 6) = 7 ∧ kap (a + 7) = 7 ∧ kap (a + 8) = 7 ∧ kap (a + 9) = 7 := by decide +kernel
theorem kd_3_3 {a : Nat} (h : kap a = 3) : kap (a + 3) = 23 := (sh_3_2 a (kap_lt h (by decide)) h).1
theorem ld_3_3 {a : Nat} (h : kap a = 3) : len (a + 3) = 10 := (sh_3_2 a (kap_lt h (by decide)) h).2.1
theorem kd_3_4 {a : Nat} (h : kap a = 3) : kap (a + 4) = 7 := (sh_3_2 a (kap_lt h (by decide)) h).2.2.1
theorem kd_3_5 {a : Nat} (h : kap a = 3) : kap (a + 5) = 7 := (sh_3_2 a (kap_lt h (by decide)) h).2.2.2.1
theorem kd_3_6 {a : Nat} (h : kap a = 3) : kap (a + 6) = 7 := (sh_3_2 a (kap_lt h (by decide)) h).2.2.2.2.1
theorem kd_3_7 {a : Nat} (h : kap a = 3) : kap (a + 7) = 7 := (sh_3_2 a (kap_lt h (by decide)) h).2.2.2.2.2.1
theorem kd_3_8 {a : Nat} (h : kap a = 3) : kap (a + 8) = 7 := (sh_3_2 a (kap_lt h (by decide)) h).2.2.2.2.2.2.1
theorem kd_3_9 {a : Nat} (h : kap a = 3) : kap (a + 9) = 7 := (sh_3_2 a (kap_lt h (by decide)) h).2.2.2.2.2.2.2
theorem sh_3_3 : ∀ a, a < NN → kap a = 3 → kap (a + 10) = 7 ∧ kap (a + 11) = 7 ∧ kap (a + 12) = 7 ∧ kap (a + 13) = 7 ∧ kap (a + 14) = 7 ∧ (∀ i, i < 10 → RF (a + 3) i = some (a + 3 + 2 + i)) ∧ (∀ i, i < 10 → kap (a + 3 + 2 + i) = 7) := by decide +kernel
theorem kd_3_10 {a : Nat} (h : kap a = 3) : kap (a + 10) = 7 := (sh_3_3 a (kap_lt h (by decide)) h).1
theorem kd_3_11 {a : Nat} (h : kap a = 3) : kap (a + 11) = 7 := (sh_3_3 a (kap_lt h (by decide)) h).2.1
theorem kd_3_12 {a : Nat} (h : kap a = 3) : kap (a + 12) = 7 := (sh_3_3 a (kap_lt h (by decide)) h).2.2.1
theorem kd_3_13 {a : Nat} (h : kap a = 3) : kap (a + 13) = 7 := (sh_3_3 a (kap_lt h (by decide)) h).2.2.2.1
theorem kd_3_14 {a : Nat} (h : kap a = 3) : kap (a + 14) = 7 := (sh_3_3 a (kap_lt h (by decide)) h).2.2.2.2.1
theorem rq_23 {a : Nat} (h : kap a = 3) : (∀ i, i < 10 → RF (a + 3) i = some (a + 3 + 2 + i)) := (sh_3_3 a (kap_lt h (by decide)) h).2.2.2.2.2.1
theorem kq_23 {a : Nat} (h : kap a = 3) : (∀ i, i < 10 → kap (a + 3 + 2 + i) = 7) := (sh_3_3 a (kap_lt h (by decide)) h).2.2.2.2.2.2
theorem sh_8_0 : ∀ a, a < NN → kap a = 8 → RF a 1 = some (a + 1) ∧ kap (a + 1) = 20 ∧ len (a + 1) = 3 ∧ RF a 2 = some (a + 2) ∧ kap (a + 2) = 20 ∧ len (a + 2) = 3 ∧ RF a 3 = some (a + 3) ∧ kap (a + 3) = 20 := by decide +kernel
theorem ro_8_1 {a : Nat} (h : kap a = 8) : RF a 1 = some (a + 1) := (sh_8_0 a (kap_lt h (by decide)) h).1
theorem ko_8_1 {a : Nat} (h : kap a = 8) : kap (a + 1) = 20 := (sh_8_0 a (kap_lt h (by decide)) h).2.1
theorem lo_8_1 {a : Nat} (h : kap a = 8) : len (a + 1) = 3 := (sh_8_0 a (kap_lt h (by decide)) h).2.2.1
theorem ro_8_2 {a : Nat} (h : kap a = 8) : RF a 2 = some (a + 2) := (sh_8_0 a (kap_lt h (by decide)) h).2.2.2.1
theorem ko_8_2 {a : Nat} (h : kap a = 8) : kap (a + 2) = 20 := (sh_8_0 a (kap_lt h (by decide)) h).2.2.2.2.1
theorem lo_8_2 {a : Nat} (h : kap a = 8) : len (a + 2) = 3 := (sh_8_0 a (kap_lt h (by decide)) h).2.2.2.2.2.1
theorem ro_8_3 {a : Nat} (h : kap a = 8) : RF a 3 = some (a + 3) := (sh_8_0 a (kap_lt h (by decide)) h).2.2.2.2.2.2.1
theorem ko_8_3 {a : Nat} (h : kap a = 8) : kap (a + 3) = 20 := (sh_8_0 a (kap_lt h (by decide)) h).2.2.2.2.2.2.2
theorem sh_8_1 : ∀ a, a < NN → kap a = 8 → len (a + 3) = 4 ∧ RF a 4 = some (a + 4) ∧ kap (a + 4) = 20 ∧ len (a + 4) = 4 ∧ RF a 5 = some (a + 5) ∧ kap (a + 5) = 20 ∧ len (a + 5) = 4 ∧ RF a 6 = some (a + 6) := by decide +kernel
theorem lo_8_3 {a : Nat} (h : kap a = 8) : len (a + 3) = 4 := (sh_8_1 a (kap_lt h (by decide)) h).1
theorem ro_8_4 {a : Nat} (h : kap a = 8) : RF a 4 = some (a + 4) := (sh_8_1 a (kap_lt h (by decide)) h).2.1
theorem ko_8_4 {a : Nat} (h : kap a = 8) : kap (a + 4) = 20 := (sh_8_1 a (kap_lt h (by decide)) h).2.2.1
theorem lo_8_4 {a : Nat} (h : kap a = 8) : len (a + 4) = 4 := (sh_8_1 a (kap_lt h (by decide)) h).2.2.2.1
theorem ro_8_5 {a : Nat} (h : kap a = 8) : RF a 5 = some (a + 5) := (sh_8_1 a (kap_lt h (by decide)) h).2.2.2.2.1
theorem ko_8_5 {a : Nat} (h : kap a = 8) : kap (a + 5) = 20 := (sh_8_1 a (kap_lt h (by decide)) h).2.2.2.2.2.1
theorem lo_8_5 {a : Nat} (h : kap a = 8) : len (a + 5) = 4 := (sh_8_1 a (kap_lt h (by decide)) h).2.2.2.2.2.2.1
theorem ro_8_6 {a : Nat} (h : kap a = 8) : RF a 6 = some (a + 6) := (sh_8_1 a (kap_lt h (by decide)) h).2.2.2.2.2.2.2
theorem sh_8_2 : ∀ a, a < NN → kap a = 8 → kap (a + 6) = 20 ∧ len (a + 6) = 4 ∧ RF a 7 = some (a + 7) ∧ kap (a + 7) = 20 ∧ len (a + 7) = 4 ∧ RF a 12 = some (a + 8) ∧ kap (a + 8) = 20 ∧ len (a + 8) = 3 := by decide +kernel
theorem ko_8_6 {a : Nat} (h : kap a = 8) : kap (a + 6) = 20 := (sh_8_2 a (kap_lt h (by decide)) h).1
theorem lo_8_6 {a : Nat} (h : kap a = 8) : len (a + 6) = 4 := (sh_8_2 a (kap_lt h (by decide)) h).2.1
theorem ro_8_7 {a : Nat} (h : kap a = 8) : RF a 7 = some (a + 7) := (sh_8_2 a (kap_lt h (by decide)) h).2.2.1
theorem ko_8_7 {a : Nat} (h : kap a = 8) : kap (a + 7) = 20 := (sh_8_2 a (kap_lt h (by decide)) h).2.2.2.1
theorem lo_8_7 {a : Nat} (h : kap a = 8) : len (a + 7) = 4 := (sh_8_2 a (kap_lt h (by decide)) h).2.2.2.2.1
theorem ro_8_12 {a : Nat} (h : kap a = 8) : RF a 12 = some (a + 8) := (sh_8_2 a (kap_lt h (by decide)) h).2.2.2.2.2.1
theorem ko_8_12 {a : Nat} (h : kap a = 8) : kap (a + 8) = 20 := (sh_8_2 a (kap_lt h (by decide)) h).2.2.2.2.2.2.1
theorem lo_8_12 {a : Nat} (h : kap a = 8) : len (a + 8) = 3 := (sh_8_2 a (kap_lt h (by decide)) h).2.2.2.2.2.2.2
theorem sh_8_3 : ∀ a, a < NN → kap a = 8 → RF a 13 = some (a + 9) ∧ kap (a + 9) = 20 ∧ len (a + 9) = 4 ∧ kap (a + 1) = 20 ∧ len (a + 1) = 3 ∧ kap (a + 2) = 20 ∧ len (a + 2) = 3 ∧ kap (a + 3) = 20 := by decide +kernel
theorem ro_8_13 {a : Nat} (h : kap a = 8) : RF a 13 = some (a + 9) := (sh_8_3 a (kap_lt h (by decide)) h).1
theorem ko_8_13 {a : Nat} (h : kap a = 8) : kap (a + 9) = 20 := (sh_8_3 a (kap_lt h (by decide)) h).2.1
theorem lo_8_13 {a : Nat} (h : kap a = 8) : len (a + 9) = 4 := (sh_8_3 a (kap_lt h (by decide)) h).2.2.1
theorem kd_8_1 {a : Nat} (h : kap a = 8) : kap (a + 1) = 20 := (sh_8_3 a (kap_lt h (by decide)) h).2.2.2.1
theorem ld_8_1 {a : Nat} (h : kap a = 8) : len (a + 1) = 3 := (sh_8_3 a (kap_lt h (by decide)) h).2.2.2.2.1
theorem kd_8_2 {a : Nat} (h : kap a = 8) : kap (a + 2) = 20 := (sh_8_3 a (kap_lt h (by decide)) h).2.2.2.2.2.1
theorem ld_8_2 {a : Nat} (h : kap a = 8) : len (a + 2) = 3 := (sh_8_3 a (kap_lt h (by decide)) h).2.2.2.2.2.2.1
theorem kd_8_3 {a : Nat} (h : kap a = 8) : kap (a + 3) = 20 := (sh_8_3 a (kap_lt h (by decide)) h).2.2.2.2.2.2.2
theorem sh_8_4 : ∀ a, a < NN → kap a = 8 → len (a + 3) = 4 ∧ kap (a + 4) = 20 ∧ len (a + 4) = 4 ∧ kap (a + 5) = 20 ∧ len (a + 5) = 4 ∧ kap (a + 6) = 20 ∧ len (a + 6) = 4 ∧ kap (a + 7) = 20 := by decide +kernel
theorem ld_8_3 {a : Nat} (h : kap a = 8) : len (a + 3) = 4 := (sh_8_4 a (kap_lt h (by decide)) h).1
theorem kd_8_4 {a : Nat} (h : kap a = 8) : kap (a + 4) = 20 := (sh_8_4 a (kap_lt h (by decide)) h).2.1
theorem ld_8_4 {a : Nat} (h : kap a = 8) : len (a + 4) = 4 := (sh_8_4 a (kap_lt h (by decide)) h).2.2.1
theorem kd_8_5 {a : Nat} (h : kap a = 8) : kap (a + 5) = 20 := (sh_8_4 a (kap_lt h (by decide)) h).2.2.2.1
theorem ld_8_5 {a : Nat} (h : kap a = 8) : len (a + 5) = 4 := (sh_8_4 a (kap_lt h (by decide)) h).2.2.2.2.1
theorem kd_8_6 {a : Nat} (h : kap a = 8) : kap (a + 6) = 20 := (sh_8_4 a (kap_lt h (by decide)) h).2.2.2.2.2.1
theorem ld_8_6 {a : Nat} (h : kap a = 8) : len (a + 6) = 4 := (sh_8_4 a (kap_lt h (by decide)) h).2.2.2.2.2.2.1
theorem kd_8_7 {a : Nat} (h : kap a = 8) : kap (a + 7) = 20 := (sh_8_4 a (kap_lt h (by decide)) h).2.2.2.2.2.2.2
theorem sh_8_5 : ∀ a, a < NN → kap a = 8 → len (a + 7) = 4 ∧ kap (a + 8) = 20 ∧ len (a + 8) = 3 ∧ kap (a + 9) = 20 ∧ len (a + 9) = 4 := by decide +kernel
theorem ld_8_7 {a : Nat} (h : kap a = 8) : len (a + 7) = 4 := (sh_8_5 a (kap_lt h (by decide)) h).1
theorem kd_8_8 {a : Nat} (h : kap a = 8) : kap (a + 8) = 20 := (sh_8_5 a (kap_lt h (by decide)) h).2.1
theorem ld_8_8 {a : Nat} (h : kap a = 8) : len (a + 8) = 3 := (sh_8_5 a (kap_lt h (by decide)) h).2.2.1
theorem kd_8_9 {a : Nat} (h : kap a = 8) : kap (a + 9) = 20 := (sh_8_5 a (kap_lt h (by decide)) h).2.2.2.1
theorem ld_8_9 {a : Nat} (h : kap a = 8) : len (a + 9) = 4 := (sh_8_5 a (kap_lt h (by decide)) h).2.2.2.2
theorem sh_23 : ∀ a, a < NN → kap a = 23 → 3 ≤ a ∧ kap (a - 3) = 3 := by decide +kernel
theorem re_23 {p i : Nat} (h : kap p = 23) (hi : i < 10) : RF p i = some (p + 2 + i) := by
  have h1 := sh_23 p (kap_lt h (by decide)) h
  have h2 := rq_23 h1.2 i hi
  rw [show p - 3 + 3 = p by omega] at h2
  exact h2
theorem ke_23 {p i : Nat} (h : kap p = 23) (hi : i < 10) : kap (p + 2 + i) = 7 := by
  have h1 := sh_23 p (kap_lt h (by decide)) h
  have h2 := kq_23 h1.2 i hi
  rw [show p - 3 + 3 = p by omega] at h2
  exact h2
theorem re_25 {i : Nat} (hi : i < 10) : RF 270 i = some (283 + 10 * i) := (by decide +kernel : ∀ i, i < 10 → RF 270 i = some (283 + 10 * i)) i hi
theorem ke_25 {i : Nat} (hi : i < 10) : kap (283 + 10 * i) = 8 := (by decide +kernel : ∀ i, i < 10 → kap (283 + 10 * i) = 8) i hi
theorem re_31 {i : Nat} (hi : i < 2) : RF 31 i = some (396 + 15 * i) := (by decide +kernel : ∀ i, i < 2 → RF 31 i = some (396 + 15 * i)) i hi
theorem ke_31 {i : Nat} (hi : i < 2) : kap (396 + 15 * i) = 3 := (by decide +kernel : ∀ i, i < 2 → kap (396 + 15 * i) = 3) i hi
theorem re_34 {i : Nat} (hi : i < 12) : RF 34 i = some (61 + 15 * i) := (by decide +kernel : ∀ i, i < 12 → RF 34 i = some (61 + 15 * i)) i hi
theorem ke_34 {i : Nat} (hi : i < 12) : kap (61 + 15 * i) = 3 := (by decide +kernel : ∀ i, i < 12 → kap (61 + 15 * i) = 3) i hi
theorem re_35 {i : Nat} (hi : i < 12) : RF 35 i = some (36 + i) := (by decide +kernel : ∀ i, i < 12 → RF 35 i = some (36 + i)) i hi
theorem ke_35 {i : Nat} (hi : i < 12) : kap (36 + i) = 20 := (by decide +kernel : ∀ i, i < 12 → kap (36 + i) = 20) i hi
theorem le_e35 {i : Nat} (hi : i < 12) : len (36 + i) = 4 := (by decide +kernel : ∀ i, i < 12 → len (36 + i) = 4) i hi
theorem re_48 {i : Nat} (hi : i < 12) : RF 48 i = some (49 + i) := (by decide +kernel : ∀ i, i < 12 → RF 48 i = some (49 + i)) i hi
theorem ke_48 {i : Nat} (hi : i < 12) : kap (49 + i) = 20 := (by decide +kernel : ∀ i, i < 12 → kap (49 + i) = 20) i hi
theorem le_e48 {i : Nat} (hi : i < 12) : len (49 + i) = 8 := (by decide +kernel : ∀ i, i < 12 → len (49 + i) = 8) i hi
