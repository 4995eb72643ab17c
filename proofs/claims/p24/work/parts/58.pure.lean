theorem qz_pure : qz_Pure := qz_pure_of qz_fun
